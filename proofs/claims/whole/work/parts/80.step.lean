/-! STAGE B, 31: the class's orders: tables, steps -/
def zNa (σ : St) : Int32 → Option ((Int32) ⊕ (Int32)) :=
  fun (x1_7_2 : Int32) => if x1_7_2 < 0 then (some (.inr x1_7_2)) else (if ib x1_7_2 7 = true then if ib (x1_7_2 + (1 : Int32)) 7 = true then if (σ.1 28 (Int32.toNatClampNeg x1_7_2)) ≤ (σ.1 28 (Int32.toNatClampNeg (x1_7_2 + (1 : Int32)))) then (some (.inr x1_7_2)) else (wlet (x1_7_2 + (-1 : Int32)) fun v25 => some (.inl v25)) else none else none)
def zNb (σ : St) (x1_e7_2 : Int32) : Int32 → Option ((Int32) ⊕ (Int32)) :=
  fun (x2_47_5 : Int32) => if x2_47_5 ≤ x1_e7_2 then (some (.inr x2_47_5)) else (if ib x2_47_5 7 = true then if ib x1_e7_2 7 = true then if (σ.1 28 (Int32.toNatClampNeg x1_e7_2)) ≤ (σ.1 28 (Int32.toNatClampNeg x2_47_5)) then (some (.inr x2_47_5)) else (wlet (x2_47_5 + (-1 : Int32)) fun v20 => some (.inl v20)) else none else none)
def zNc : St × Int32 × Int32 → Option ((St × Int32 × Int32) ⊕ (St)) :=
  un3 (fun (σ91_10 : St) (x3_91_10 : Int32) (x4_91_10 : Int32) => if x4_91_10 ≤ x3_91_10 then (some (.inr σ91_10)) else (Option.bind (f_X2_exchange σ91_10 x3_91_10 x4_91_10) fun σ13 => wlet (x3_91_10 + (1 : Int32)) fun v14 => wlet (x4_91_10 + (-1 : Int32)) fun v15 => some (.inl (σ13, v14, v15))))
theorem C_exchange {σ : St} {m a b : Nat} (h : σ.1 25 5 = nI m) (hm : m ≤ 7) (ha : a < m) (hb : b < m) : f_X2_exchange σ (nI a) (nI b) = some (sc σ 28 (zsw (σ.1 28) a b)) := by
  have b1 : ib (nI a) 7 = true := ib_t (by omega) (by omega)
  have b2 : ib (nI b) 7 = true := ib_t (by omega) (by omega)
  have g1 : (nI a).toNatClampNeg = a := nI_clamp (by omega)
  have g2 : (nI b).toNatClampNeg = b := nI_clamp (by omega)
  have n1 : ¬ nI m ≤ nI a := fun z => by have := (nI_leN (by omega) (by omega)).mp z; omega
  have n2 : ¬ nI m ≤ nI b := fun z => by have := (nI_leN (by omega) (by omega)).mp z; omega
  unfold f_X2_exchange
  rw [if_neg (nI_pos (show a < 2 ^ 31 by omega)), h, if_neg n1, if_neg (nI_pos (show b < 2 ^ 31 by omega)), if_neg n2, if_ib b1, wlet_eq, if_ib b2, if_ib b1, wlet_eq, if_ib b2, wlet_eq, g1, g2, zsi_as σ, zsi_sc]
  rfl
def zlfI : Option Nat → Int32
  | none => -1
  | some i => nI i
theorem zix (k : Nat) : nI (k + 1) - (1 : Int32) = nI k := nI_sub1 (Nat.succ_pos k)
theorem zix2 (k : Nat) : nI k + (-1 : Int32) = nI k - 1 := by rw [Int32.sub_eq_add_neg]
theorem C_na {σ : St} {m : Nat} (hm : m ≤ 7) : ∀ k F, k + 1 ≤ m → lp (zNa σ) (F + k + 1) (nI k - 1) = some (zlfI (zlfB (zleV (σ.1 28)) k)) := by
  intro k
  induction k with
  | zero =>
    intro F hk
    refine lp_out ?_
    unfold zNa
    rw [if_pos (show nI 0 - 1 < 0 by decide)]
    rfl
  | succ k ih =>
    intro F hk
    have b1 : ib (nI k) 7 = true := ib_t (by omega) (by omega)
    have b2 : ib (nI (k + 1)) 7 = true := ib_t (by omega) (by omega)
    have g1 : (nI k).toNatClampNeg = k := nI_clamp (by omega)
    have g2 : (nI (k + 1)).toNatClampNeg = k + 1 := nI_clamp (by omega)
    rw [zix, show F + (k + 1) + 1 = F + k + 1 + 1 by omega, zlfB]
    by_cases h : σ.1 28 k ≤ σ.1 28 (k + 1)
    · rw [if_pos (show zleV (σ.1 28) k (k + 1) = true from decide_eq_true h)]
      refine lp_out ?_
      unfold zNa
      rw [if_neg (nI_pos (by omega)), if_ib b1, ← nI_succ, if_ib b2, g1, g2, if_pos h]
      rfl
    · rw [if_neg (show ¬ zleV (σ.1 28) k (k + 1) = true from fun z => h (of_decide_eq_true z))]
      rw [← ih F (by omega)]
      refine lp_step ?_
      unfold zNa
      rw [if_neg (nI_pos (by omega)), if_ib b1, ← nI_succ, if_ib b2, g1, g2, if_neg h, wlet_eq, zix2]
theorem C_nb {σ : St} {m i : Nat} (hm : m ≤ 7) (hle : zleV (σ.1 28) i (i + 1) = true) : ∀ k F, i < k → k < m → lp (zNb σ (nI i)) (F + k + 1) (nI k) = some (nI (zrtB (zleV (σ.1 28)) i k)) := by
  intro k
  induction k with
  | zero => intro F h; omega
  | succ k ih =>
    intro F hi hk
    have b1 : ib (nI (k + 1)) 7 = true := ib_t (by omega) (by omega)
    have b2 : ib (nI i) 7 = true := ib_t (by omega) (by omega)
    have g1 : (nI (k + 1)).toNatClampNeg = k + 1 := nI_clamp (by omega)
    have g2 : (nI i).toNatClampNeg = i := nI_clamp (by omega)
    have n1 : ¬ nI (k + 1) ≤ nI i := fun z => by have := (nI_leN (by omega) (by omega)).mp z; omega
    rw [show F + (k + 1) + 1 = F + k + 1 + 1 by omega, zrtB]
    by_cases h : σ.1 28 i ≤ σ.1 28 (k + 1)
    · rw [if_pos (show zleV (σ.1 28) i (k + 1) = true from decide_eq_true h)]
      refine lp_out ?_
      unfold zNb
      rw [if_neg n1, if_ib b1, if_ib b2, g1, g2, if_pos h]
    · rw [if_neg (show ¬ zleV (σ.1 28) i (k + 1) = true from fun z => h (of_decide_eq_true z))]
      have hik : i < k := by
        by_cases e : i = k
        · subst e; exact absurd (of_decide_eq_true hle) h
        · omega
      rw [← ih F hik (by omega)]
      refine lp_step ?_
      unfold zNb
      rw [if_neg n1, if_ib b1, if_ib b2, g1, g2, if_neg h, wlet_eq, nI_dec (by omega), Nat.add_sub_cancel]
theorem C_nc {m : Nat} (hm : m ≤ 7) : ∀ k a b F (σ : St), σ.1 25 5 = nI m → b < m → a ≤ b + 1 → b < a + 2 * k → lp zNc (F + k + 1) (σ, nI a, nI b) = some (sc σ 28 (fun t => σ.1 28 (zrvP k a b t))) := by
  intro k
  induction k with
  | zero =>
    intro a b F σ h5 hb h1 h2
    have n1 : nI b ≤ nI a := (nI_leN (by omega) (by omega)).mpr (by omega)
    refine lp_out ?_
    unfold zNc
    dsimp only [un3]
    rw [if_pos n1, show (fun t => σ.1 28 (zrvP 0 a b t)) = σ.1 28 from rfl, zsc_self]
  | succ k ih =>
    intro a b F σ h5 hb h1 h2
    rw [show F + (k + 1) + 1 = F + k + 1 + 1 by omega]
    by_cases h : a < b
    · have n1 : ¬ nI b ≤ nI a := fun z => by have := (nI_leN (by omega) (by omega)).mp z; omega
      have hst : zNc (σ, nI a, nI b) = some (.inl (sc σ 28 (zsw (σ.1 28) a b), nI (a + 1), nI (b - 1))) := by
        unfold zNc
        dsimp only [un3]
        rw [if_neg n1, bind_eq (C_exchange h5 hm (by omega) hb), wlet_eq, wlet_eq, nI_succ, nI_dec (by omega)]
      rw [lp_step hst, ih (a + 1) (b - 1) F _ (by rw [zsc_ne (by omega)]; exact h5) (by omega) (by omega) (by omega), zsc_eq, zsc_sc]
      refine congrArg some (congrArg (sc σ 28) ?_)
      funext t
      rw [zswP_eq, zrvP, if_pos h]
    · have n1 : nI b ≤ nI a := (nI_leN (by omega) (by omega)).mpr (by omega)
      refine lp_out ?_
      unfold zNc
      dsimp only [un3]
      rw [if_pos n1, show (fun t => σ.1 28 (zrvP (k + 1) a b t)) = σ.1 28 by funext t; rw [zrvP, if_neg h], zsc_self]
theorem zfuel (k : Nat) (h : k < 99999) : fuel = (fuel - k - 1) + k + 1 := by rw [fuel_eq]; omega
theorem C_stepOn {σ : St} {m : Nat} (h5 : σ.1 25 5 = nI m) (hm : m ≤ 7) : f_X2_stepOn σ = match zmnx m (σ.1 28) with
    | none => some (0, σ)
    | some W => some (1, sc σ 28 W) := by
  unfold f_X2_stepOn zmnx znp
  rw [h5]
  by_cases hm0 : m = 0
  · subst hm0
    have hl : lp (zNa σ) fuel (nI 0 - 2) = some (-2) := by
      rw [zfuel 0 (by omega)]
      refine lp_out ?_
      unfold zNa
      rw [if_pos (by decide)]
      rfl
    rw [wlet_eq, wlet_eq]
    refine (bind_eq hl).trans ?_
    rw [if_neg (by decide)]
    rfl
  · have e2 : nI m - (2 : Int32) = nI (m - 1) - 1 := by
      rw [show m = m - 1 + 1 by omega, nI_succ, Nat.add_sub_cancel, Int32.sub_eq_add_neg, Int32.sub_eq_add_neg, Int32.add_assoc]
      rfl
    have hl : lp (zNa σ) fuel (nI (m - 1) - 1) = some (zlfI (zlfB (zleV (σ.1 28)) (m - 1))) := by
      rw [zfuel (m - 1) (by omega)]
      exact C_na hm (m - 1) _ (by omega)
    rw [wlet_eq, wlet_eq, e2]
    refine (bind_eq hl).trans ?_
    cases e : zlfB (zleV (σ.1 28)) (m - 1) with
    | none =>
      rw [if_neg (show ¬ (0 : Int32) ≤ zlfI none by decide)]
      rfl
    | some i =>
      obtain ⟨h1, h2⟩ := zlf_lt e
      have h3 := zrt_le (le := zleV (σ.1 28)) (i := i) (k := m - 1)
      have hr : lp (zNb σ (nI i)) fuel (nI (m - 1)) = some (nI (zrtB (zleV (σ.1 28)) i (m - 1))) := by
        rw [zfuel (m - 1) (by omega)]
        exact C_nb hm h2 (m - 1) _ h1 (by omega)
      rw [if_pos (show (0 : Int32) ≤ zlfI (some i) from nI_pos' (by omega)), nI_sub1 (by omega), wlet_eq, wlet_eq]
      refine (bind_eq hr).trans ?_
      show Option.bind (f_X2_exchange σ (nI i) (nI (zrtB (zleV (σ.1 28)) i (m - 1)))) _ = _
      have h5' : (sc σ 28 (zsw (σ.1 28) i (zrtB (zleV (σ.1 28)) i (m - 1)))).1 25 5 = nI m := by rw [zsc_ne (by omega)]; exact h5
      rw [bind_eq (C_exchange h5 hm (by omega) (by omega)), wlet_eq, h5', nI_sub1 (by omega), wlet_eq, wlet_eq]
      have hc := C_nc hm 4 (i + 1) (m - 1) (fuel - 4 - 1) _ h5' (by omega) (by omega) (by omega)
      rw [← zfuel 4 (by omega)] at hc
      rw [show zlfI (some i) + (1 : Int32) = nI (i + 1) from (nI_succ i).symm]
      refine (bind_eq hc).trans ?_
      rw [zsc_eq, zsc_sc]
      refine congrArg some (congrArg (Prod.mk 1) (congrArg (sc σ 28) ?_))
      funext t
      exact zswP_eq _ _ _ _
