/-! STAGE B, 32: the reference's orders: the first, the next -/
def zOa (σ : St) : Int32 → Option ((Int32) ⊕ (Int32)) :=
  fun (x1_10_3 : Int32) => if x1_10_3 < 0 then (some (.inr x1_10_3)) else (if ib x1_10_3 26 = true then if ib (x1_10_3 + (1 : Int32)) 26 = true then if (σ.1 27 (Int32.toNatClampNeg x1_10_3)) ≤ (σ.1 27 (Int32.toNatClampNeg (x1_10_3 + (1 : Int32)))) then (some (.inr x1_10_3)) else (wlet (x1_10_3 + (-1 : Int32)) fun v27 => some (.inl v27)) else none else none)
def zOb (σ : St) (x1_e10_3 : Int32) : Int32 → Option ((Int32) ⊕ (Int32)) :=
  fun (x2_53_7 : Int32) => if ib x2_53_7 26 = true then if ib x1_e10_3 26 = true then if (σ.1 27 (Int32.toNatClampNeg x1_e10_3)) ≤ (σ.1 27 (Int32.toNatClampNeg x2_53_7)) then (some (.inr x2_53_7)) else (wlet (x2_53_7 + (-1 : Int32)) fun v22 => some (.inl v22)) else none else none
def zOc : St × Int32 × Int32 → Option ((St × Int32 × Int32) ⊕ (St)) :=
  un3 (fun (σ95_13 : St) (x3_95_13 : Int32) (x4_95_13 : Int32) => if x4_95_13 ≤ x3_95_13 then (some (.inr σ95_13)) else (Option.bind (f_X11_changes σ95_13 x3_95_13 x4_95_13) fun σ16 => wlet (x3_95_13 + (1 : Int32)) fun v17 => wlet (x4_95_13 + (-1 : Int32)) fun v18 => some (.inl (σ16, v17, v18))))
def zFo1 : St × Int32 → Option ((St × Int32) ⊕ (St)) :=
  un2 (fun (σ2_1 : St) (x1_2_1 : Int32) => if ib (7 : Int32) 26 = true then if (σ2_1.1 27 (Int32.toNatClampNeg (7 : Int32))) ≤ x1_2_1 then (some (.inr σ2_1)) else (if ib x1_2_1 26 = true then wlet (σ2_1.1 27 (Int32.toNatClampNeg x1_2_1)) fun v5 => wlet (un2 (fun (σ22_6 : St) (x3_22_6 : Int32) => if x3_22_6 ≤ 0 then (some (.inr (σ22_6, x3_22_6))) else (if ib (x3_22_6 - (1 : Int32)) 26 = true then if (σ22_6.1 27 (Int32.toNatClampNeg (x3_22_6 - (1 : Int32)))) ≤ v5 then (some (.inr (σ22_6, x3_22_6))) else (if ib (x3_22_6 - (1 : Int32)) 26 = true then if ib x3_22_6 26 = true then wlet (si σ22_6 27 (Int32.toNatClampNeg x3_22_6) (σ22_6.1 27 (Int32.toNatClampNeg (x3_22_6 - (1 : Int32))))) fun σ15 => wlet (x3_22_6 + (-1 : Int32)) fun v16 => some (.inl (σ15, v16)) else none else none) else none)) : St × Int32 → Option ((St × Int32) ⊕ (St × Int32))) fun st22_6 => Option.bind (lp st22_6 fuel (σ2_1, x1_2_1)) ((un2 (fun (σe22_6 : St) (x3_e22_6 : Int32) => if ib x3_e22_6 26 = true then wlet (si σe22_6 27 (Int32.toNatClampNeg x3_e22_6) v5) fun σ8 => wlet (x1_2_1 + (1 : Int32)) fun v9 => some (.inl (σ8, v9)) else none))) else none) else none)
def zFo2 (v5 : Int32) : St × Int32 → Option ((St × Int32) ⊕ (St × Int32)) :=
  un2 (fun (σ22_6 : St) (x3_22_6 : Int32) => if x3_22_6 ≤ 0 then (some (.inr (σ22_6, x3_22_6))) else (if ib (x3_22_6 - (1 : Int32)) 26 = true then if (σ22_6.1 27 (Int32.toNatClampNeg (x3_22_6 - (1 : Int32)))) ≤ v5 then (some (.inr (σ22_6, x3_22_6))) else (if ib (x3_22_6 - (1 : Int32)) 26 = true then if ib x3_22_6 26 = true then wlet (si σ22_6 27 (Int32.toNatClampNeg x3_22_6) (σ22_6.1 27 (Int32.toNatClampNeg (x3_22_6 - (1 : Int32))))) fun σ15 => wlet (x3_22_6 + (-1 : Int32)) fun v16 => some (.inl (σ15, v16)) else none else none) else none))
theorem M_oa {σ : St} {m : Nat} (hm : m ≤ 7) : ∀ k F, k + 1 ≤ m → lp (zOa σ) (F + k + 1) (nI k - 1) = some (zlfI (zlfB (zleV (σ.1 27)) k)) := by
  intro k
  induction k with
  | zero =>
    intro F hk
    refine lp_out ?_
    unfold zOa
    rw [if_pos (show nI 0 - 1 < 0 by decide)]
    rfl
  | succ k ih =>
    intro F hk
    have b1 : ib (nI k) 26 = true := ib_t (by omega) (by omega)
    have b2 : ib (nI (k + 1)) 26 = true := ib_t (by omega) (by omega)
    have g1 : (nI k).toNatClampNeg = k := nI_clamp (by omega)
    have g2 : (nI (k + 1)).toNatClampNeg = k + 1 := nI_clamp (by omega)
    rw [zix, show F + (k + 1) + 1 = F + k + 1 + 1 by omega, zlfB]
    by_cases h : σ.1 27 k ≤ σ.1 27 (k + 1)
    · rw [if_pos (show zleV (σ.1 27) k (k + 1) = true from decide_eq_true h)]
      refine lp_out ?_
      unfold zOa
      rw [if_neg (nI_pos (by omega)), if_ib b1, ← nI_succ, if_ib b2, g1, g2, if_pos h]
      rfl
    · rw [if_neg (show ¬ zleV (σ.1 27) k (k + 1) = true from fun z => h (of_decide_eq_true z))]
      rw [← ih F (by omega)]
      refine lp_step ?_
      unfold zOa
      rw [if_neg (nI_pos (by omega)), if_ib b1, ← nI_succ, if_ib b2, g1, g2, if_neg h, wlet_eq, zix2]
theorem M_ob {σ : St} {m i : Nat} (hm : m ≤ 7) (hle : zleV (σ.1 27) i (i + 1) = true) : ∀ k F, i < k → k < m → lp (zOb σ (nI i)) (F + k + 1) (nI k) = some (nI (zrtB (zleV (σ.1 27)) i k)) := by
  intro k
  induction k with
  | zero => intro F h; omega
  | succ k ih =>
    intro F hi hk
    have b1 : ib (nI (k + 1)) 26 = true := ib_t (by omega) (by omega)
    have b2 : ib (nI i) 26 = true := ib_t (by omega) (by omega)
    have g1 : (nI (k + 1)).toNatClampNeg = k + 1 := nI_clamp (by omega)
    have g2 : (nI i).toNatClampNeg = i := nI_clamp (by omega)
    rw [show F + (k + 1) + 1 = F + k + 1 + 1 by omega, zrtB]
    by_cases h : σ.1 27 i ≤ σ.1 27 (k + 1)
    · rw [if_pos (show zleV (σ.1 27) i (k + 1) = true from decide_eq_true h)]
      refine lp_out ?_
      unfold zOb
      rw [if_ib b1, if_ib b2, g1, g2, if_pos h]
    · rw [if_neg (show ¬ zleV (σ.1 27) i (k + 1) = true from fun z => h (of_decide_eq_true z))]
      have hik : i < k := by
        by_cases e : i = k
        · subst e; exact absurd (of_decide_eq_true hle) h
        · omega
      rw [← ih F hik (by omega)]
      refine lp_step ?_
      unfold zOb
      rw [if_ib b1, if_ib b2, g1, g2, if_neg h, wlet_eq, nI_dec (by omega), Nat.add_sub_cancel]
theorem M_oc {m : Nat} (hm : m ≤ 7) : ∀ k a b F (σ : St), b < m → a ≤ b + 1 → b < a + 2 * k → lp zOc (F + k + 1) (σ, nI a, nI b) = some (sc σ 27 (fun t => σ.1 27 (zrvP k a b t))) := by
  intro k
  induction k with
  | zero =>
    intro a b F σ hb h1 h2
    have n1 : nI b ≤ nI a := (nI_leN (by omega) (by omega)).mpr (by omega)
    refine lp_out ?_
    unfold zOc
    dsimp only [un3]
    rw [if_pos n1, show (fun t => σ.1 27 (zrvP 0 a b t)) = σ.1 27 from rfl, zsc_self]
  | succ k ih =>
    intro a b F σ hb h1 h2
    rw [show F + (k + 1) + 1 = F + k + 1 + 1 by omega]
    by_cases h : a < b
    · have n1 : ¬ nI b ≤ nI a := fun z => by have := (nI_leN (by omega) (by omega)).mp z; omega
      have hst : zOc (σ, nI a, nI b) = some (.inl (sc σ 27 (zsw (σ.1 27) a b), nI (a + 1), nI (b - 1))) := by
        unfold zOc
        dsimp only [un3]
        rw [if_neg n1, bind_eq (M_changes (by omega) (by omega)), wlet_eq, wlet_eq, nI_succ, nI_dec (by omega)]
      rw [lp_step hst, ih (a + 1) (b - 1) F _ (by omega) (by omega) (by omega), zsc_eq, zsc_sc]
      refine congrArg some (congrArg (sc σ 27) ?_)
      funext t
      rw [zswP_eq, zrvP, if_pos h]
    · have n1 : nI b ≤ nI a := (nI_leN (by omega) (by omega)).mpr (by omega)
      refine lp_out ?_
      unfold zOc
      dsimp only [un3]
      rw [if_pos n1, show (fun t => σ.1 27 (zrvP (k + 1) a b t)) = σ.1 27 by funext t; rw [zrvP, if_neg h], zsc_self]
theorem M_nextOrder {σ : St} {m : Nat} (h5 : σ.1 27 7 = nI m) (hm : m ≤ 7) : f_X11_nextOrder σ = match zmnx m (σ.1 27) with
    | none => some (0, σ)
    | some W => some (1, sc σ 27 W) := by
  unfold f_X11_nextOrder zmnx znp
  rw [if_ib b726, c7, h5]
  by_cases hm0 : m = 0
  · subst hm0
    have hl : lp (zOa σ) fuel (nI 0 - 2) = some (-2) := by
      rw [zfuel 0 (by omega)]
      refine lp_out ?_
      unfold zOa
      rw [if_pos (by decide)]
      rfl
    rw [wlet_eq, wlet_eq]
    refine (bind_eq hl).trans ?_
    rw [if_neg (by decide)]
    rfl
  · have e2 : nI m - (2 : Int32) = nI (m - 1) - 1 := by
      rw [show m = m - 1 + 1 by omega, nI_succ, Nat.add_sub_cancel, Int32.sub_eq_add_neg, Int32.sub_eq_add_neg, Int32.add_assoc]
      rfl
    have hl : lp (zOa σ) fuel (nI (m - 1) - 1) = some (zlfI (zlfB (zleV (σ.1 27)) (m - 1))) := by
      rw [zfuel (m - 1) (by omega)]
      exact M_oa hm (m - 1) _ (by omega)
    rw [wlet_eq, wlet_eq, e2]
    refine (bind_eq hl).trans ?_
    cases e : zlfB (zleV (σ.1 27)) (m - 1) with
    | none =>
      rw [if_neg (show ¬ (0 : Int32) ≤ zlfI none by decide)]
      rfl
    | some i =>
      obtain ⟨h1, h2⟩ := zlf_lt e
      have h3 := zrt_le (le := zleV (σ.1 27)) (i := i) (k := m - 1)
      have hr : lp (zOb σ (nI i)) fuel (nI (m - 1)) = some (nI (zrtB (zleV (σ.1 27)) i (m - 1))) := by
        rw [zfuel (m - 1) (by omega)]
        exact M_ob hm h2 (m - 1) _ h1 (by omega)
      rw [if_pos (show (0 : Int32) ≤ zlfI (some i) from nI_pos' (by omega)), if_ib b726, nI_sub1 (by omega), wlet_eq, wlet_eq]
      refine (bind_eq hr).trans ?_
      show Option.bind (f_X11_changes σ (nI i) (nI (zrtB (zleV (σ.1 27)) i (m - 1)))) _ = _
      have h5' : (sc σ 27 (zsw (σ.1 27) i (zrtB (zleV (σ.1 27)) i (m - 1)))).1 27 7 = nI m := by rw [zsc_eq, zsw_out (by omega) (by omega)]; exact h5
      rw [bind_eq (M_changes (by omega) (by omega)), wlet_eq, if_ib b726, h5', nI_sub1 (by omega), wlet_eq, wlet_eq]
      have hc := M_oc hm 4 (i + 1) (m - 1) (fuel - 4 - 1) (sc σ 27 (zsw (σ.1 27) i (zrtB (zleV (σ.1 27)) i (m - 1)))) (by omega) (by omega) (by omega)
      rw [← zfuel 4 (by omega)] at hc
      rw [show zlfI (some i) + (1 : Int32) = nI (i + 1) from (nI_succ i).symm]
      refine (bind_eq hc).trans ?_
      rw [zsc_eq, zsc_sc]
      refine congrArg some (congrArg (Prod.mk 1) (congrArg (sc σ 27) ?_))
      funext t
      exact zswP_eq _ _ _ _
/-- the first t numbers ascend -/
def zAs (V : Nat → Int32) (t : Nat) : Prop := ∀ i j, i < j → j < t → cN V i < cN V j
theorem zcN_le {n m a b : Nat} {V : Nat → Int32} (hW : WV n m V) (ha : a < m) (hb : b < m) : V a ≤ V b ↔ cN V a ≤ cN V b := by
  have h7 := hW.2.1
  obtain ⟨a1, a2⟩ := cN_eq hW ha
  obtain ⟨b1, b2⟩ := cN_eq hW hb
  rw [a1, b1]
  have e1 : cN V a = cN V a := rfl
  rw [nI_leN (by omega) (by omega)]
theorem zcN_inj {n m a b : Nat} {V : Nat → Int32} (hW : WV n m V) (ha : a < m) (hb : b < m) (h : cN V a = cN V b) : a = b :=
  hW.2.2.2.2 a b ha hb (by rw [(cN_eq hW ha).1, (cN_eq hW hb).1, h])
theorem M_fi {s : St} {n m a : Nat} {W : Nat → Int32} (hs : s.1 27 = W) (hW : WV n m W) (ha : a < m) (hA : zAs W a) :
    ∃ k, k ≤ a ∧ lp (zFo2 (W a)) fuel (s, nI a) = some (sc s 27 (zdn W k a), nI k) ∧ (∀ i, i < k → cN W i < cN W a) ∧ ∀ i, k ≤ i → i < a → cN W a < cN W i := by
  have h7 := zWV7 hW
  obtain ⟨r, q1, k, k1, rfl, k3, k4⟩ := zinv (st := zFo2 (W a)) (s0 := (s, nI a)) (fun u x => u ≤ a ∧ x = (sc s 27 (zdn W (a - u) a), nI (a - u)) ∧ ∀ i, a - u ≤ i → i < a → cN W a < cN W i) (fun r => ∃ k, k ≤ a ∧ r = (sc s 27 (zdn W k a), nI k) ∧ (∀ i, i < k → cN W i < cN W a) ∧ ∀ i, k ≤ i → i < a → cN W a < cN W i) a (by omega) ⟨Nat.zero_le _, by rw [Nat.sub_zero, zdn_0, ← hs, zsc_self], fun i h1 h2 => by omega⟩ (by
    rintro u x hu ⟨h1, rfl, h3⟩
    have hk : 0 < a - u := by omega
    have n1 : ¬ nI (a - u) ≤ (0 : Int32) := fun z => by have := (nI_leN (b := 0) (by omega) (by omega)).mp z; omega
    have b1 : ib (nI (a - u - 1)) 26 = true := ib_t (by omega) (by omega)
    have b2 : ib (nI (a - u)) 26 = true := ib_t (by omega) (by omega)
    have g1 : (nI (a - u - 1)).toNatClampNeg = a - u - 1 := nI_clamp (by omega)
    have g2 : (nI (a - u)).toNatClampNeg = a - u := nI_clamp (by omega)
    have hv : zdn W (a - u) a (a - u - 1) = W (a - u - 1) := by unfold zdn; rw [if_neg (by omega)]
    have hne : cN W (a - u - 1) ≠ cN W a := fun z => by have := zcN_inj hW (show a - u - 1 < m by omega) ha z; omega
    by_cases h : W (a - u - 1) ≤ W a
    · refine Or.inr ⟨(sc s 27 (zdn W (a - u) a), nI (a - u)), ?_, a - u, by omega, rfl, fun i hi => ?_, h3⟩
      · unfold zFo2
        dsimp only [un2]
        rw [if_neg n1, nI_sub1 hk, if_ib b1, g1, zsc_eq, hv, if_pos h]
      · have h4 := (zcN_le hW (show a - u - 1 < m by omega) ha).mp h
        by_cases e : i = a - u - 1
        · rw [e]; omega
        · have := hA i (a - u - 1) (by omega) (by omega)
          omega
    · refine Or.inl ⟨(sc s 27 (zdn W (a - (u + 1)) a), nI (a - (u + 1))), ?_, by omega, rfl, fun i hi1 hi2 => ?_⟩
      · unfold zFo2
        dsimp only [un2]
        rw [if_neg n1, nI_sub1 hk, if_ib b1, g1, zsc_eq, hv, if_neg h, if_ib b1, if_ib b2, wlet_eq, wlet_eq, nI_dec hk, g2, ← hv, zsi_sc, zdn_s (by omega) hk]
        rfl
      · by_cases e : i = a - u - 1
        · have h4 : ¬ cN W (a - u - 1) ≤ cN W a := fun z => h ((zcN_le hW (show a - u - 1 < m by omega) ha).mpr z)
          rw [e]; omega
        · exact h3 i (by omega) hi2) (by
    rintro x ⟨h1, rfl, h3⟩
    refine ⟨(sc s 27 (zdn W (a - a) a), nI (a - a)), ?_, 0, by omega, by rw [Nat.sub_self], fun i hi => by omega, fun i h1 h2 => h3 i (by omega) h2⟩
    unfold zFo2
    dsimp only [un2]
    rw [if_pos (by rw [Nat.sub_self]; decide)])
  exact ⟨k, k1, q1, k3, k4⟩
theorem zmv_as {n m a k : Nat} {W : Nat → Int32} (hW : WV n m W) (ha : a < m) (hk : k ≤ a) (hA : zAs W a) (h1 : ∀ i, i < k → cN W i < cN W a) (h2 : ∀ i, k ≤ i → i < a → cN W a < cN W i) : zAs (zmv W a k) (a + 1) := by
  have hv : ∀ i, cN (zmv W a k) i = cN W (zmvP a k i) := fun i => by unfold cN; rw [zmvP_eq]
  intro i j hij hj
  rw [hv, hv]
  have p1 : ∀ t, t < k → zmvP a k t = t := fun t ht => by unfold zmvP; rw [if_neg (by omega), if_neg (by omega), if_neg (by omega)]
  have p2 : zmvP a k k = a := by unfold zmvP; rw [if_pos rfl]
  have p3 : ∀ t, k < t → t ≤ a → zmvP a k t = t - 1 := fun t ht1 ht2 => by unfold zmvP; rw [if_neg (by omega), if_neg (by omega), if_pos (by omega)]
  by_cases c1 : j < k
  · rw [p1 i (by omega), p1 j c1]; exact hA i j hij (by omega)
  · by_cases c2 : j = k
    · subst c2
      rw [p1 i hij, p2]; exact h1 i hij
    · rw [p3 j (by omega) (by omega)]
      by_cases c3 : i < k
      · rw [p1 i c3]
        have := h1 i c3
        have := h2 (j - 1) (by omega) (by omega)
        omega
      · by_cases c4 : i = k
        · subst c4
          rw [p2]; exact h2 (j - 1) (by omega) (by omega)
        · rw [p3 i (by omega) (by omega)]; exact hA (i - 1) (j - 1) (by omega) (by omega)
theorem M_firstOrder {τ : St} {n m : Nat} (hW : WV n m (τ.1 27)) : ∃ W : Nat → Int32, f_X11_firstOrder τ = some (sc τ 27 W) ∧ WV n m W ∧ zAs W m ∧ (∀ i, 7 ≤ i → W i = τ.1 27 i) ∧ (∀ i, i < m → ∃ j, j < m ∧ W i = τ.1 27 j) ∧ ∀ j, j < m → ∃ i, i < m ∧ τ.1 27 j = W i := by
  have h7 := zWV7 hW
  obtain ⟨r, q1, W, p, pi, rfl, w1, w2, w3, w4, w5, w6⟩ := zinv (st := zFo1) (s0 := (τ, 1)) (fun t x => ∃ (W : Nat → Int32) (p pi : Nat → Nat), x = (sc τ 27 W, nI (t + 1)) ∧ (W = fun i => τ.1 27 (p i)) ∧ (∀ i, i < m → p i < m) ∧ (∀ i, i < m → pi i < m) ∧ (∀ i, pi (p i) = i ∧ p (pi i) = i) ∧ (∀ i, m ≤ i → p i = i) ∧ zAs W (min (t + 1) m)) (fun r => ∃ (W : Nat → Int32) (p pi : Nat → Nat), r = sc τ 27 W ∧ (W = fun i => τ.1 27 (p i)) ∧ (∀ i, i < m → p i < m) ∧ (∀ i, i < m → pi i < m) ∧ (∀ i, pi (p i) = i ∧ p (pi i) = i) ∧ (∀ i, m ≤ i → p i = i) ∧ zAs W m) (m - 1) (by omega) ⟨τ.1 27, id, id, by rw [zsc_self]; rfl, rfl, fun _ h => h, fun _ h => h, fun _ => ⟨rfl, rfl⟩, fun _ _ => rfl, fun i j h1 h2 => by omega⟩ (by
    rintro t x ht ⟨W, p, pi, rfl, w1, w2, w3, w4, w5, w6⟩
    have ha : t + 1 < m := by omega
    have hWW : WV n m W := zWV_sub p hW hW.1 (by rw [w1]; show τ.1 27 (p 7) = _; rw [w5 7 h7]; exact hW.2.2.1) w2 (fun i j _ _ e => by have := congrArg pi e; rwa [(w4 i).1, (w4 j).1] at this) (fun i _ => by rw [w1])
    rw [show min (t + 1) m = t + 1 by omega] at w6
    obtain ⟨k, k1, k2, k3, k4⟩ := M_fi (s := sc τ 27 W) (zsc_eq _ _ _) hWW ha w6
    have n1 : ¬ nI m ≤ nI (t + 1) := fun z => by have := (nI_leN (by omega) (by omega)).mp z; omega
    have h77 : W 7 = nI m := hWW.2.2.1
    refine Or.inl ⟨(sc τ 27 (zmv W (t + 1) k), nI (t + 1 + 1)), ?_, zmv W (t + 1) k, fun i => p (zmvP (t + 1) k i), fun i => zmvP k (t + 1) (pi i), rfl, ?_, ?_, ?_, ?_, ?_, ?_⟩
    · unfold zFo1
      dsimp only [un2]
      rw [if_ib b726, c7, zsc_eq, h77, if_neg n1, if_ib (ib_t (show t + 1 < 26 by omega) (by omega)), nI_clamp (show t + 1 < 2 ^ 31 by omega), wlet_eq, wlet_eq]
      refine (bind_eq k2).trans ?_
      show (if ib (nI k) 26 = true then _ else none) = _
      rw [if_ib (ib_t (show k < 26 by omega) (by omega)), nI_clamp (show k < 2 ^ 31 by omega), wlet_eq, wlet_eq, zsc_sc, zsi_sc, zdn_end k1, ← nI_succ]
    · funext i; rw [zmvP_eq, w1]
    · exact fun i hi => w2 _ (zmvP_lt ha (by omega) hi)
    · exact fun i hi => zmvP_lt (by omega) ha (w3 i hi)
    · have inv : ∀ a b i, zmvP b a (zmvP a b i) = i := fun a b i => by
        unfold zmvP
        split <;> split <;> (try split) <;> (try split) <;> (try split) <;> (try split) <;> omega
      exact fun i => ⟨by show zmvP k (t + 1) (pi (p (zmvP (t + 1) k i))) = i; rw [(w4 _).1, inv], by show p (zmvP (t + 1) k (zmvP k (t + 1) (pi i))) = i; rw [inv, (w4 i).2]⟩
    · exact fun i hi => by
        have : zmvP (t + 1) k i = i := by unfold zmvP; rw [if_neg (by omega), if_neg (by omega), if_neg (by omega)]
        show p (zmvP (t + 1) k i) = i
        rw [this]; exact w5 i hi
    · rw [show min (t + 1 + 1) m = t + 1 + 1 by omega]
      exact zmv_as hWW ha k1 w6 k3 k4) (by
    rintro x ⟨W, p, pi, rfl, w1, w2, w3, w4, w5, w6⟩
    refine ⟨sc τ 27 W, ?_, W, p, pi, rfl, w1, w2, w3, w4, w5, ?_⟩
    · have h77 : W 7 = nI m := by rw [w1]; show τ.1 27 (p 7) = _; rw [w5 7 h7]; exact hW.2.2.1
      unfold zFo1
      dsimp only [un2]
      rw [if_ib b726, c7, zsc_eq, h77, if_pos ((nI_leN (by omega) (by omega)).mpr (by omega))]
    · rw [show min (m - 1 + 1) m = m by omega] at w6; exact w6)
  refine ⟨W, ?_, zWV_sub p hW hW.1 (by rw [w1]; show τ.1 27 (p 7) = _; rw [w5 7 h7]; exact hW.2.2.1) w2 (fun i j _ _ e => by have := congrArg pi e; rwa [(w4 i).1, (w4 j).1] at this) (fun i _ => by rw [w1]), w6, fun i hi => by rw [w1]; show τ.1 27 (p i) = _; rw [w5 i (by omega)], fun i hi => ⟨p i, w2 i hi, by rw [w1]⟩, fun j hj => ⟨pi j, w3 j hj, by rw [w1]; show _ = τ.1 27 (p (pi j)); rw [(w4 j).2]⟩⟩
  unfold f_X11_firstOrder
  rw [wlet_eq]
  exact bind_eq q1
/-- two ascending rows of the same numbers are one -/
theorem zuniq {k m : Nat} {r w : Nat → Nat} (hr : ∀ i j, i < j → j < k → r i < r j) (hw : ∀ i j, i < j → j < m → w i < w j) (h1 : ∀ i, i < k → ∃ j, j < m ∧ r i = w j) (h2 : ∀ j, j < m → ∃ i, i < k ∧ w j = r i) : k = m ∧ ∀ i, i < k → r i = w i := by
  have key : ∀ N i, i < N → i < k → i < m ∧ r i = w i := by
    intro N
    induction N with
    | zero => intro i h; omega
    | succ N ih =>
      intro i hN hi
      obtain ⟨j, j1, j2⟩ := h1 i hi
      have hji : i ≤ j := Nat.le_of_not_lt fun z => by
        have h3 := ih j (by omega) (by omega)
        have h4 := hr j i z hi
        omega
      have him : i < m := by omega
      obtain ⟨l, l1, l2⟩ := h2 i him
      have hli : i ≤ l := Nat.le_of_not_lt fun z => by
        have h3 := ih l (by omega) l1
        have h4 := hw l i z him
        omega
      have a1 : w i ≤ w j := by
        by_cases e : i = j
        · rw [e]; exact Nat.le_refl _
        · have := hw i j (by omega) j1; omega
      have a2 : r i ≤ r l := by
        by_cases e : i = l
        · rw [e]; exact Nat.le_refl _
        · have := hr i l (by omega) l1; omega
      exact ⟨him, by omega⟩
  refine ⟨?_, fun i hi => (key (i + 1) i (by omega) hi).2⟩
  rcases Nat.lt_trichotomy k m with h | h | h
  · obtain ⟨l, l1, l2⟩ := h2 k h
    have h3 := (key (l + 1) l (by omega) l1).2
    have h4 := hw l k l1 h
    omega
  · exact h
  · have := (key (m + 1) m (by omega) h).1
    omega
