/-! STAGE B, 55: a case, both side by side -/
/-- the text under construction in the reference: side s, code up to cd, branches up to b -/
def rdS (τ : St) (s : Nat) (T : Tx) (cd b : Nat) : Prop := τ.1 9 s = nI (tn T) ∧ (∀ c, c < tn T → τ.1 10 (7 * s + c) = nI (td T c) ∧ τ.1 11 (7 * s + c) = nI (tp T c)) ∧ τ.1 12 s = nI (tb T) ∧ τ.1 13 s = nI (ts T) ∧ ∀ k, k < 4 → (τ.1 14 (4 * s + k) = τ.1 15 (4 * s + k) ∧ tr T k = [] ∧ te T k = dflt k) ∨ ∃ b' B, 130 * s ≤ b' ∧ B ≤ b ∧ τ.1 14 (4 * s + k) = nI b' ∧ τ.1 15 (4 * s + k) = nI B ∧ MLaw τ (420 * s) cd b' B (tr T k) (te T k)
theorem rdS_keep {τ τ' : St} {s cd b : Nat} {T : Tx} (h : ∀ c, 9 ≤ c → c ≤ 22 → τ'.1 c = τ.1 c) (hS : rdS τ s T cd b) : rdS τ' s T cd b := by
  obtain ⟨a1, a2, a3, a4, a5⟩ := hS
  refine ⟨by rw [h 9 (by omega) (by omega)]; exact a1, by rw [h 10 (by omega) (by omega), h 11 (by omega) (by omega)]; exact a2, by rw [h 12 (by omega) (by omega)]; exact a3, by rw [h 13 (by omega) (by omega)]; exact a4, fun k hk => ?_⟩
  rw [h 14 (by omega) (by omega), h 15 (by omega) (by omega)]
  rcases a5 k hk with c | ⟨b', B, b1, b2, b3, b4, b5⟩
  · exact Or.inl c
  · exact Or.inr ⟨b', B, b1, b2, b3, b4, MLaw_congr (lo := 0) (hi := B) (fun c i _ _ _ _ => by rw [h c (by omega) (by omega)]) (fun c i _ _ _ _ => by rw [h c (by omega) (by omega)]) (Nat.zero_le _) (Nat.le_refl _) b5⟩
/-- where the reading stands, both alive -/
def rdX (K P V N : Nat → Nat) (s : Nat) (σ τ : St) (t : Nat) (T : Tx) (L cd b : Nat) : Prop := (zAl0 σ t ∧ zAm K τ t) ∧ (TxC σ 15 T ∧ rdS τ s T cd b ∧ tn T ≤ 7 ∧ ∀ k, k < 4 → okL (tr T k) (te T k)) ∧ (σ.1 15 5 = nI L ∧ τ.1 0 12 = 0 ∧ τ.1 0 35 = nI cd ∧ τ.1 0 29 = nI b ∧ τ.1 0 19 = nI s ∧ τ.1 0 20 = nI (tn T)) ∧ rdN K V N σ τ t (tn T) ∧ rdT (TxOK T) P t σ τ ∧ L ≤ 12 + t ∧ 420 * s ≤ cd ∧ cd ≤ 420 * s + t ∧ 130 * s ≤ b ∧ 4 * b ≤ 520 * s + t
def rdV (K V N : Nat → Nat) : Prop := (∀ j, K j = 3 → V j ≤ 9999) ∧ ∀ i j, K i = 2 → K j = 2 → (nL (V i) = nL (V j) ↔ nL (N i) = nL (N j))
def rcC (v5 : Int64) (v12 : Int32) (σ13 : St) : Option St := bnd2 (f_X4_readNumber σ13 (99 : Int32)) fun v15 σ16 => Option.bind (f_X8_addCase σ16 15 v5 v12 v15) fun σ18 => some σ18
def rcB (v5 : Int64) (σ10 : St) : Option St := bnd2 (f_X4_readNumber σ10 (99 : Int32)) (rcC v5)
def rcA (v5 : Int64) (σ : St) : Option St := Option.bind (f_X4_expect σ (2 : Int32)) (rcB v5)
def rmD (v3 : Int32) (σ16 : St) : Option St := Option.bind (f_X11_must σ16 (4 : Int32)) fun σ18 => if (σ18.1 0 13) ≤ 0 then (if ib v3 403 = true then if ib (σ18.1 0 20) 7 = true then wlet (sj σ18 8 (Int32.toNatClampNeg (σ18.1 0 20)) (σ18.2 6 (Int32.toNatClampNeg v3))) fun σ22 => wlet (si σ22 0 20 ((σ22.1 0 20) + (1 : Int32))) fun σ23 => if ib (σ23.1 0 19) 2 = true then if ib (σ23.1 0 19) 2 = true then wlet (si σ23 9 (Int32.toNatClampNeg (σ23.1 0 19)) ((σ23.1 9 (Int32.toNatClampNeg (σ23.1 0 19))) + (1 : Int32))) fun σ26 => some σ26 else none else none else none else none) else (some σ18)
def rmC (v2 v3 : Int32) (σ11 : St) : Option St := bnd2 (f_X11_bounded σ11 (0 : Int32) (99 : Int32)) fun v13 σ14 => if ib v2 14 = true then wlet (si σ14 11 (Int32.toNatClampNeg v2) v13) (rmD v3) else none
def rmB (v2 v3 : Int32) (σe30_6 : St) : Option St := bnd2 (f_X11_bounded σe30_6 (0 : Int32) (99 : Int32)) fun v8 σ9 => if ib v2 14 = true then wlet (si σ9 10 (Int32.toNatClampNeg v2) v8) (rmC v2 v3) else none
theorem C_addCase_any (σ : St) (x : Int64) (y z : Int32) : ∃ σ', f_X8_addCase σ 15 x y z = some σ' ∧ rhC σ σ' ∧ σ'.1 10 = σ.1 10 := by
  unfold f_X8_addCase
  by_cases h1 : σ.1 15 6 < 0
  · exact ⟨σ, if_pos h1, rhC_refl _, rfl⟩
  · by_cases h2 : (7 : Int32) ≤ σ.1 15 6
    · exact ⟨σ, by rw [if_neg h1, if_pos h2], rhC_refl _, rfl⟩
    · obtain ⟨k, k1, k2⟩ := i_nat h1
      rw [k2] at h1 h2 ⊢
      have k3 : k < 7 := by
        have := mt (nI_leN (a := 7) (b := k) (by omega) (by omega)).mpr h2
        omega
      have bk : ib (nI k) 7 = true := ib_t k3 (by omega)
      have e1 : (sj σ 20 k x).1 15 6 = nI k := k2
      have e2 : (si (sj σ 20 k x) 18 k y).1 15 6 = nI k := by rw [si_ne (by omega)]; exact e1
      have e3 : (si (si (sj σ 20 k x) 18 k y) 19 k z).1 15 6 = nI k := by rw [si_ne (by omega)]; exact e2
      refine ⟨si (si (si (sj σ 20 k x) 18 k y) 19 k z) 15 6 (nI k + 1), ?_, rhC_trans (rhC_sj _ _ _) (rhC_trans (rhC_si _ _ _ _ (by omega)) (rhC_trans (rhC_si _ _ _ _ (by omega)) (rhC_si _ _ _ _ (by omega)))), by rw [si_ne (by omega), si_ne (by omega), si_ne (by omega)]; rfl⟩
      rw [if_neg h1, if_neg h2, if_ib bk, nI_clamp (by omega), wlet_eq, e1, if_ib bk, nI_clamp (by omega), wlet_eq, e2, if_ib bk, nI_clamp (by omega), wlet_eq, e3, wlet_eq]
/-- behind a fault, the class: to the end of the statement -/
def rdPc (K P V : Nat → Nat) (g : St → Option St) : Prop := ∀ σ v p, zTk σ K P V → zDd0 σ P v p → ∃ σm σ', g σ = some σm ∧ f_X4_expect σm (nI 4) = some σ' ∧ rhC σ σ' ∧ zDd0 σ' P v p
theorem rcC_d {K P V : Nat → Nat} (v5 : Int64) (v12 : Int32) : rdPc K P V (rcC v5 v12) := fun σ v p hT hD => by
  obtain ⟨u, h1⟩ := C_value_d hD
  have i1 := C_isNext_d hT hD (k := 3) (by omega) (by omega)
  obtain ⟨σ1, a1, a2, a3⟩ := C_expect_d (k := 3) (by omega) (by omega) σ v p hT hD
  have a0 : f_X4_readNumber σ 99 = some (Int64.toInt32 u, σ1) := by
    unfold f_X4_readNumber
    rw [bind_eq h1, show (3 : Int32) = nI 3 from rfl, bind_eq i1, wlet_eq, if_pos rfl]
    exact bind_eq a1
  obtain ⟨σ2, b1, b2, b3⟩ := C_addCase_any σ1 v5 v12 (Int64.toInt32 u)
  have f2 := rhC_trans (rhC_E a2) b2
  obtain ⟨σ3, c1, c2, c3⟩ := C_expect_d (k := 4) (by omega) (by omega) σ2 v p (zTk_H f2 hT) (zDd0_E b3 a3)
  exact ⟨σ2, σ3, by unfold rcC; rw [bnd2_eq a0, bind_eq b1], c1, rhC_trans f2 (rhC_E c2), c3⟩
theorem rcB_d {K P V : Nat → Nat} (v5 : Int64) : rdPc K P V (rcB v5) := fun σ v p hT hD => by
  obtain ⟨u, h1⟩ := C_value_d hD
  have i1 := C_isNext_d hT hD (k := 3) (by omega) (by omega)
  obtain ⟨σ1, a1, a2, a3⟩ := C_expect_d (k := 3) (by omega) (by omega) σ v p hT hD
  have a0 : f_X4_readNumber σ 99 = some (Int64.toInt32 u, σ1) := by
    unfold f_X4_readNumber
    rw [bind_eq h1, show (3 : Int32) = nI 3 from rfl, bind_eq i1, wlet_eq, if_pos rfl]
    exact bind_eq a1
  obtain ⟨σm, σ', b1, b2, b3, b4⟩ := rcC_d (K := K) (V := V) v5 (Int64.toInt32 u) σ1 v p (zTk_E a2 hT) a3
  exact ⟨σm, σ', by unfold rcB; rw [bnd2_eq a0]; exact b1, b2, rhC_trans (rhC_E a2) b3, b4⟩
theorem rcA_d {K P V : Nat → Nat} (v5 : Int64) : rdPc K P V (rcA v5) := fun σ v p hT hD => by
  obtain ⟨σ1, a1, a2, a3⟩ := C_expect_d (k := 2) (by omega) (by omega) σ v p hT hD
  obtain ⟨σm, σ', b1, b2, b3, b4⟩ := rcB_d (K := K) (V := V) v5 σ1 v p (zTk_E a2 hT) a3
  exact ⟨σm, σ', by unfold rcA; rw [show (2 : Int32) = nI 2 from rfl, bind_eq a1]; exact b1, b2, rhC_trans (rhC_E a2) b3, b4⟩
/-- behind a fault, the reference -/
theorem M_bounded_d {P : Nat → Nat} {τ : St} {v p : Nat} (hD : zDm P τ v p) (y : Int32) : f_X11_bounded τ 0 y = some (0, τ) := by
  have pp : (0 : Int32) < τ.1 0 13 := by
    rw [hD.2.1]
    rcases hD.1 with rfl | rfl <;> decide
  unfold f_X11_bounded
  rw [wlet_eq, if_pos pp, bind_eq (M_fail_d hD _)]
theorem rmD_d {P : Nat → Nat} {τ : St} {v p : Nat} (hD : zDm P τ v p) (v3 : Int32) : rmD v3 τ = some τ := by
  unfold rmD
  rw [bind_eq (M_must_d hD _), if_neg (zDm_pos hD)]
theorem rmC_d {P : Nat → Nat} {τ : St} {v p s n : Nat} (hs : s ≤ 1) (hn : n < 7) (hD : zDm P τ v p) (v3 : Int32) : ∃ τ', rmC (nI (7 * s + n)) v3 τ = some τ' ∧ rhM s τ τ' ∧ zDm P τ' v p := by
  have D1 : zDm P (si τ 11 (7 * s + n) 0) v p := zDm_ne0 hD (by omega)
  refine ⟨_, ?_, rhM_10 τ 11 (7 * s + n) 0 (Or.inr rfl) (by omega), D1⟩
  unfold rmC
  rw [bnd2_eq (M_bounded_d hD _), if_ib (ib_t (by omega) (by omega)), nI_clamp (by omega), wlet_eq, rmD_d D1]
theorem rmB_d {P : Nat → Nat} {τ : St} {v p s n : Nat} (hs : s ≤ 1) (hn : n < 7) (hD : zDm P τ v p) (v3 : Int32) : ∃ τ', rmB (nI (7 * s + n)) v3 τ = some τ' ∧ rhM s τ τ' ∧ zDm P τ' v p := by
  have D1 : zDm P (si τ 10 (7 * s + n) 0) v p := zDm_ne0 hD (by omega)
  obtain ⟨τ', a1, a2, a3⟩ := rmC_d hs hn D1 v3
  refine ⟨τ', ?_, rhM_trans (rhM_10 τ 10 (7 * s + n) 0 (Or.inl rfl) (by omega)) a2, a3⟩
  unfold rmB
  rw [bnd2_eq (M_bounded_d hD _), if_ib (ib_t (by omega) (by omega)), nI_clamp (by omega), wlet_eq, a1]
/-- a text with one more case -/
def txA (T : Tx) (d p : Nat) : Tx := (tn T + 1, (fun c => if c = tn T then d else td T c), (fun c => if c = tn T then p else tp T c), tb T, ts T, T.2.2.2.2.2)
theorem txA_ok {T : Tx} {d p : Nat} (hn : tn T < 7) (h : (TxOK T ∧ d ≤ 99) ∧ p ≤ 99) : TxOK (txA T d p) := by
  obtain ⟨⟨⟨h1, h2, h3, h4, h5⟩, hd⟩, hp⟩ := h
  refine ⟨by show tn T + 1 ≤ 7; omega, fun c hc => ?_, h3, h4, h5⟩
  have hc : c < tn T + 1 := hc
  show (if c = tn T then d else td T c) ≤ 99 ∧ (if c = tn T then p else tp T c) ≤ 99
  by_cases q : c = tn T
  · rw [if_pos q, if_pos q]; exact ⟨hd, hp⟩
  · rw [if_neg q, if_neg q]; exact h2 c (by omega)
theorem txA_C {σ σ' : St} {T : Tx} {d p : Nat} (hn : tn T < 7) (h : TxC σ 15 T) (h16 : σ'.1 16 = σ.1 16) (h17 : σ'.1 17 = σ.1 17) (h15 : ∀ i, i ≠ 6 → σ'.1 15 i = σ.1 15 i) (h6 : σ'.1 15 6 = nI (tn T + 1)) (h18 : ∀ c, c ≠ tn T → σ'.1 18 c = σ.1 18 c) (h19 : ∀ c, c ≠ tn T → σ'.1 19 c = σ.1 19 c) (hd : σ'.1 18 (tn T) = nI d) (hp : σ'.1 19 (tn T) = nI p) : TxC σ' 15 (txA T d p) := by
  obtain ⟨a1, a2, a3, a4, L, a5, a6, a7⟩ := h
  refine ⟨h6, fun c hc => ?_, by rw [h15 7 (by omega)]; exact a3, by rw [h15 8 (by omega)]; exact a4, L, a5, by rw [h15 5 (by omega)]; exact a6, fun k hk => ?_⟩
  · have hc : c < tn T + 1 := hc
    show σ'.1 18 c = nI (if c = tn T then d else td T c) ∧ σ'.1 19 c = nI (if c = tn T then p else tp T c)
    by_cases q : c = tn T
    · rw [if_pos q, if_pos q, q]; exact ⟨hd, hp⟩
    · rw [if_neg q, if_neg q, h18 c q, h19 c q]; exact a2 c (by omega)
  · show ∃ p q, q ≤ L ∧ σ'.1 17 k = nI p ∧ CLaw (σ'.1 16) p q (tr T k) (te T k)
    rw [h16, h17]; exact a7 k hk
theorem txA_S {τ τ' : St} {s cd b : Nat} {T : Tx} {d p : Nat} (hn : tn T < 7) (h : rdS τ s T cd b) (hc : ∀ c, 12 ≤ c → c ≤ 22 → τ'.1 c = τ.1 c) (h9 : τ'.1 9 s = nI (tn T + 1)) (h10 : ∀ c, c ≠ 7 * s + tn T → τ'.1 10 c = τ.1 10 c) (h11 : ∀ c, c ≠ 7 * s + tn T → τ'.1 11 c = τ.1 11 c) (hd : τ'.1 10 (7 * s + tn T) = nI d) (hp : τ'.1 11 (7 * s + tn T) = nI p) : rdS τ' s (txA T d p) cd b := by
  obtain ⟨a1, a2, a3, a4, a5⟩ := h
  refine ⟨h9, fun c hc => ?_, by rw [hc 12 (by omega) (by omega)]; exact a3, by rw [hc 13 (by omega) (by omega)]; exact a4, fun k hk => ?_⟩
  · have hc : c < tn T + 1 := hc
    show τ'.1 10 (7 * s + c) = nI (if c = tn T then d else td T c) ∧ τ'.1 11 (7 * s + c) = nI (if c = tn T then p else tp T c)
    by_cases q : c = tn T
    · rw [if_pos q, if_pos q, q]; exact ⟨hd, hp⟩
    · rw [if_neg q, if_neg q, h10 _ (by omega), h11 _ (by omega)]; exact a2 c (by omega)
  · rw [hc 14 (by omega) (by omega), hc 15 (by omega) (by omega)]
    rcases a5 k hk with c | ⟨b', B, b1, b2, b3, b4, b5⟩
    · exact Or.inl c
    · exact Or.inr ⟨b', B, b1, b2, b3, b4, MLaw_congr (lo := 0) (hi := B) (fun c i _ _ _ _ => by rw [hc c (by omega) (by omega)]) (fun c i _ _ _ _ => by rw [hc c (by omega) (by omega)]) (Nat.zero_le _) (Nat.le_refl _) b5⟩
