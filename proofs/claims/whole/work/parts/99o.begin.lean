/-! STAGE B, 64: a text that is taken over: both programs begin -/
theorem C_copyText (σ : St) : ∃ σ', f_X8_copyFrom σ 4 15 = some σ' ∧ (∀ c, (c < 4 ∨ 8 < c) → σ'.1 c = σ.1 c) ∧ (∀ c, c ≠ 9 → σ'.2 c = σ.2 c) ∧ ∀ T, tn T ≤ 7 → TxC σ 15 T → TxC σ' 4 T := by
  obtain ⟨σ5, e5⟩ : ∃ σ5, σ5 = scj (sci (sci (sci (sci σ 16 5 0 0 420) 17 6 0 0 4) 18 7 0 0 7) 19 8 0 0 7) 20 9 0 0 7 := ⟨_, rfl⟩
  have g1 : ∀ c i, σ5.1 c i = (sci (sci (sci (sci σ 16 5 0 0 420) 17 6 0 0 4) 18 7 0 0 7) 19 8 0 0 7).1 c i := fun c i => by rw [e5]; rfl
  have o : ∀ c i, (c < 5 ∨ 8 < c) → σ5.1 c i = σ.1 c i := fun c i h => by
    rw [g1, sci_get, if_neg (by omega), sci_get, if_neg (by omega), sci_get, if_neg (by omega), sci_get, if_neg (by omega)]
  have p5 : ∀ i, i < 420 → σ5.1 5 i = σ.1 16 i := fun i h => by
    rw [g1, sci_get, if_neg (by omega), sci_get, if_neg (by omega), sci_get, if_neg (by omega), sci_get, if_pos rfl, if_pos (by omega), Nat.zero_add, Nat.sub_zero]
  have p6 : ∀ i, i < 4 → σ5.1 6 i = σ.1 17 i := fun i h => by
    rw [g1, sci_get, if_neg (by omega), sci_get, if_neg (by omega), sci_get, if_pos rfl, if_pos (by omega), Nat.zero_add, Nat.sub_zero, sci_get, if_neg (by omega)]
  have p7 : ∀ i, i < 7 → σ5.1 7 i = σ.1 18 i := fun i h => by
    rw [g1, sci_get, if_neg (by omega), sci_get, if_pos rfl, if_pos (by omega), Nat.zero_add, Nat.sub_zero, sci_get, if_neg (by omega), sci_get, if_neg (by omega)]
  have p8 : ∀ i, i < 7 → σ5.1 8 i = σ.1 19 i := fun i h => by
    rw [g1, sci_get, if_pos rfl, if_pos (by omega), Nat.zero_add, Nat.sub_zero, sci_get, if_neg (by omega), sci_get, if_neg (by omega), sci_get, if_neg (by omega)]
  obtain ⟨σ9, e9⟩ : ∃ σ9, σ9 = si (si (si (si σ5 4 5 (σ.1 15 5)) 4 6 (σ.1 15 6)) 4 7 (σ.1 15 7)) 4 8 (σ.1 15 8) := ⟨_, rfl⟩
  have q : ∀ c, c ≠ 4 → σ9.1 c = σ5.1 c := fun c h => by rw [e9, si_ne h, si_ne h, si_ne h, si_ne h]
  have q5 : σ9.1 4 5 = σ.1 15 5 := by rw [e9, si_get, if_neg (by omega), si_get, if_neg (by omega), si_get, if_neg (by omega), si_get, if_pos ⟨rfl, rfl⟩]
  have q6 : σ9.1 4 6 = σ.1 15 6 := by rw [e9, si_get, if_neg (by omega), si_get, if_neg (by omega), si_get, if_pos ⟨rfl, rfl⟩]
  have q7 : σ9.1 4 7 = σ.1 15 7 := by rw [e9, si_get, if_neg (by omega), si_get, if_pos ⟨rfl, rfl⟩]
  have q8 : σ9.1 4 8 = σ.1 15 8 := by rw [e9, si_get, if_pos ⟨rfl, rfl⟩]
  refine ⟨σ9, ?_, fun c hc => ?_, fun c hc => ?_, fun T h7 hT => ?_⟩
  · unfold f_X8_copyFrom
    rw [c0, show (420 : Int32).toNatClampNeg = 420 by decide, show (4 : Int32).toNatClampNeg = 4 by decide, c7, wlet_eq, wlet_eq, wlet_eq, wlet_eq, wlet_eq]
    show (wlet (si (scj (sci (sci (sci (sci σ 16 5 0 0 420) 17 6 0 0 4) 18 7 0 0 7) 19 8 0 0 7) 20 9 0 0 7) 4 5 ((scj (sci (sci (sci (sci σ 16 5 0 0 420) 17 6 0 0 4) 18 7 0 0 7) 19 8 0 0 7) 20 9 0 0 7).1 15 5)) _) = _
    rw [← e5, wlet_eq, wlet_eq, wlet_eq, wlet_eq, si_ne (show 15 ≠ 4 by omega), si_ne (show 15 ≠ 4 by omega), si_ne (show 15 ≠ 4 by omega), si_ne (show 15 ≠ 4 by omega), si_ne (show 15 ≠ 4 by omega), si_ne (show 15 ≠ 4 by omega), o 15 5 (by omega), o 15 6 (by omega), o 15 7 (by omega), o 15 8 (by omega), ← e9]
  · funext i
    rw [q c (by omega)]
    exact o c i (by omega)
  · rw [e9]
    show σ5.2 c = _
    rw [e5]
    funext i
    rw [scj_get, if_neg hc]
    rfl
  · obtain ⟨a1, a2, a3, a4, L, a5, a6, a7⟩ := hT
    refine ⟨by rw [q6]; exact a1, fun c hc => ?_, by rw [q7]; exact a3, by rw [q8]; exact a4, L, a5, by rw [q5]; exact a6, fun k hk => ?_⟩
    · rw [q (4 + 3) (by omega), q (4 + 4) (by omega), p7 c (by omega), p8 c (by omega)]
      exact a2 c hc
    · obtain ⟨p, qq, b1, b2, b3⟩ := a7 k hk
      refine ⟨p, qq, b1, ?_, ?_⟩
      · rw [q (4 + 2) (by omega), p6 k hk]; exact b2
      · rw [q (4 + 1) (by omega)]
        exact rdCc (L := 420) p5 (by omega) b3
def rkp (T : Tx) (i : Nat) : Int32 := if i < tn T then nI (tp T i) else 0
def rk6 : St × Int32 → Option ((St × Int32) ⊕ (St)) :=
  un2 (fun (σ2_1 : St) (x2_2_1 : Int32) => if (7 : Int32) ≤ x2_2_1 then (some (.inr σ2_1)) else (if ib x2_2_1 7 = true then wlet (si σ2_1 (38 + 1) (Int32.toNatClampNeg x2_2_1) x2_2_1) fun σ9 => Option.bind (f_X8_has σ9 4 x2_2_1) fun v11 => wlet (fun (s1_38_12 : Int32) (s2_38_12 : Int32) => (if ib s1_38_12 7 = true then wlet (si σ9 (38 + 2) (Int32.toNatClampNeg s1_38_12) s2_38_12) fun σ14 => if ib x2_2_1 7 = true then wlet (si σ14 (38 + 3) (Int32.toNatClampNeg x2_2_1) (0 : Int32)) fun σ16 => wlet (x2_2_1 + (1 : Int32)) fun v17 => some (.inl (σ16, v17)) else none else none : Option ((St × Int32) ⊕ (St)))) fun k38_12 => if v11 = 0 then (k38_12 x2_2_1 (0 : Int32)) else (if ib x2_2_1 7 = true then k38_12 x2_2_1 (σ9.1 (4 + 4) (Int32.toNatClampNeg x2_2_1)) else none) else none))
theorem C_begin6 {σ : St} {T : Tx} (hT : TxC σ 4 T) (hOK : TxOK T) : ∃ σ', f_X6_begin σ 38 4 = some σ' ∧ (∀ c, (c < 38 ∨ 41 < c) → σ'.1 c = σ.1 c) ∧ σ'.2 = σ.2 ∧ (σ'.1 38 3 = nI (tn T) ∧ σ'.1 38 4 = 0 ∧ σ'.1 38 5 = nI (tb T) ∧ σ'.1 38 6 = 0 ∧ σ'.1 38 7 = 0) ∧ ∀ i, i < 7 → σ'.1 39 i = nI i ∧ σ'.1 40 i = rkp T i ∧ σ'.1 41 i = 0 := by
  obtain ⟨r, h1, g1, g2, g3⟩ := zinv (st := rk6) (s0 := (σ, (0 : Int32))) (fun t s => s.2 = nI t ∧ (∀ c, (c < 39 ∨ 41 < c) → s.1.1 c = σ.1 c) ∧ s.1.2 = σ.2 ∧ ∀ i, i < t → s.1.1 39 i = nI i ∧ s.1.1 40 i = rkp T i ∧ s.1.1 41 i = 0) (fun r => (∀ c, (c < 39 ∨ 41 < c) → r.1 c = σ.1 c) ∧ r.2 = σ.2 ∧ ∀ i, i < 7 → r.1 39 i = nI i ∧ r.1 40 i = rkp T i ∧ r.1 41 i = 0) 7 (by omega) ⟨rfl, fun _ _ => rfl, rfl, fun i hi => absurd hi (Nat.not_lt_zero _)⟩ (by
    rintro t ⟨x, y⟩ ht ⟨h, f1, f2, f3⟩
    have h : y = nI t := h
    subst h
    have f1 : ∀ c, (c < 39 ∨ 41 < c) → x.1 c = σ.1 c := f1
    have n1 : ¬ (7 : Int32) ≤ nI t := fun z => by have := (nI_leN (a := 7) (by omega) (by omega)).mp z; omega
    have bt : ib (nI t) 7 = true := ib_t (by omega) (by omega)
    have gt : (nI t).toNatClampNeg = t := nI_clamp (by omega)
    obtain ⟨x9, e9⟩ : ∃ x9, x9 = si x 39 t (nI t) := ⟨_, rfl⟩
    have T9 : TxC x9 4 T := by
      unfold TxC at hT ⊢
      rw [e9, si_ne (by omega), si_ne (by omega), si_ne (by omega), si_ne (by omega), si_ne (by omega), f1 4 (by omega), f1 (4 + 1) (by omega), f1 (4 + 2) (by omega), f1 (4 + 3) (by omega), f1 (4 + 4) (by omega)]
      exact hT
    left
    have key : rk6 (x, nI t) = some (.inl (si (si x9 40 t (rkp T t)) 41 t 0, nI t + 1)) := by
      unfold rk6 un2
      dsimp only
      rw [if_neg n1, if_ib bt, gt, wlet_eq, show 38 + 1 = 39 from rfl, ← e9]
      by_cases q : t < tn T
      · have e8 : x9.1 (4 + 4) t = nI (tp T t) := (T9.2.1 t q).2
        rw [bind_eq (C_has T9 hOK q), wlet_eq, if_neg n10, if_ib bt, e8]
        unfold rkp
        rw [if_pos q]
        dsimp only
        rw [if_ib bt, gt, wlet_eq, if_ib bt, wlet_eq, wlet_eq]
      · have : nI (tn T) ≤ nI t := (nI_leN (by have := hOK.1; omega) (by omega)).mpr (by omega)
        rw [bind_eq (C_has_f T9 (Or.inr this)), wlet_eq, if_pos rfl]
        unfold rkp
        rw [if_neg q]
        dsimp only
        rw [if_ib bt, gt, wlet_eq, if_ib bt, wlet_eq, wlet_eq]
    refine ⟨_, key, (nI_succ t).symm, fun c hc => ?_, ?_, fun i hi => ?_⟩
    · show (si (si x9 40 t (rkp T t)) 41 t 0).1 c = _
      rw [si_ne (by omega), si_ne (by omega), e9, si_ne (by omega)]; exact f1 c hc
    · show x9.2 = _
      rw [e9]; exact f2
    · show (si (si x9 40 t (rkp T t)) 41 t 0).1 39 i = _ ∧ (si (si x9 40 t (rkp T t)) 41 t 0).1 40 i = _ ∧ (si (si x9 40 t (rkp T t)) 41 t 0).1 41 i = _
      rw [si_ne (by omega), si_ne (by omega), si_ne (show 40 ≠ 41 by omega), si_get, si_get, si_ne (show 41 ≠ 40 by omega), e9, si_get, si_ne (show 40 ≠ 39 by omega), si_ne (show 41 ≠ 39 by omega)]
      by_cases e : i = t
      · rw [if_pos ⟨rfl, e⟩, if_pos ⟨rfl, e⟩, if_pos ⟨rfl, e⟩, e]; exact ⟨rfl, rfl, rfl⟩
      · rw [if_neg (fun z => e z.2), if_neg (fun z => e z.2), if_neg (fun z => e z.2)]; exact f3 i (by omega)) (by
    rintro ⟨x, y⟩ ⟨h, f1, f2, f3⟩
    have h : y = nI 7 := h
    subst h
    refine ⟨x, ?_, f1, f2, f3⟩
    unfold rk6 un2
    dsimp only
    rw [if_pos (by decide)])
  obtain ⟨r5, e5⟩ : ∃ r5, r5 = si (si (si (si (si r 38 3 (nI (tn T))) 38 4 0) 38 5 (nI (tb T))) 38 6 0) 38 7 0 := ⟨_, rfl⟩
  have k : ∀ c, c ≠ 38 → r5.1 c = r.1 c := fun c hc => by rw [e5, si_ne hc, si_ne hc, si_ne hc, si_ne hc, si_ne hc]
  refine ⟨r5, ?_, fun c hc => by rw [k c (by omega)]; exact g1 c (by omega), by rw [e5]; exact g2, ⟨?_, ?_, ?_, ?_, ?_⟩, fun i hi => by rw [k 39 (by omega), k 40 (by omega), k 41 (by omega)]; exact g3 i hi⟩
  · unfold f_X6_begin
    rw [wlet_eq]
    refine (bind_eq h1).trans ?_
    rw [g1 4 (by omega), hT.1, wlet_eq, wlet_eq, si_ne (by omega), si_ne (by omega), g1 4 (by omega), hT.2.2.1, wlet_eq, wlet_eq, wlet_eq, ← e5]
  · rw [e5, si_get, if_neg (by omega), si_get, if_neg (by omega), si_get, if_neg (by omega), si_get, if_neg (by omega), si_get, if_pos ⟨rfl, rfl⟩]
  · rw [e5, si_get, if_neg (by omega), si_get, if_neg (by omega), si_get, if_neg (by omega), si_get, if_pos ⟨rfl, rfl⟩]
  · rw [e5, si_get, if_neg (by omega), si_get, if_neg (by omega), si_get, if_pos ⟨rfl, rfl⟩]
  · rw [e5, si_get, if_neg (by omega), si_get, if_pos ⟨rfl, rfl⟩]
  · rw [e5, si_get, if_pos ⟨rfl, rfl⟩]
def rk7 : St × Int32 → Option ((St × Int32) ⊕ (St)) :=
  un2 (fun (σ2_1 : St) (x1_2_1 : Int32) => if (26 : Int32) ≤ x1_2_1 then (some (.inr σ2_1)) else (if ib x1_2_1 26 = true then wlet (si σ2_1 27 (Int32.toNatClampNeg x1_2_1) (0 : Int32)) fun σ21 => wlet (x1_2_1 + (1 : Int32)) fun v22 => some (.inl (σ21, v22)) else none))
def rk8 : St × Int32 → Option ((St × Int32) ⊕ (St)) :=
  un2 (fun (σ39_5 : St) (x1_39_5 : Int32) => if ib (σ39_5.1 0 18) 2 = true then if (σ39_5.1 9 (Int32.toNatClampNeg (σ39_5.1 0 18))) ≤ x1_39_5 then (some (.inr σ39_5)) else (if ib x1_39_5 26 = true then wlet (si σ39_5 27 (Int32.toNatClampNeg x1_39_5) x1_39_5) fun σ14 => if ib (((7 : Int32) * (σ14.1 0 18)) + x1_39_5) 14 = true then if ib ((10 : Int32) + x1_39_5) 26 = true then wlet (si σ14 27 (Int32.toNatClampNeg ((10 : Int32) + x1_39_5)) (σ14.1 11 (Int32.toNatClampNeg (((7 : Int32) * (σ14.1 0 18)) + x1_39_5)))) fun σ17 => wlet (x1_39_5 + (1 : Int32)) fun v18 => some (.inl (σ17, v18)) else none else none else none) else none)
theorem M_begins {τ : St} {T : Tx} (hT : TxM τ T) (h7 : tn T ≤ 7) : ∃ τ', f_X11_begins τ = some τ' ∧ (∀ c, c ≠ 0 → c ≠ 27 → τ'.1 c = τ.1 c) ∧ (∀ i, i ≠ 45 → τ'.1 0 i = τ.1 0 i) ∧ τ'.2 = τ.2 ∧ (τ'.1 27 7 = nI (tn T) ∧ τ'.1 27 9 = nI (tb T) ∧ τ'.1 27 8 = 0 ∧ τ'.1 27 24 = 0 ∧ τ'.1 27 25 = 0) ∧ (∀ i, i < tn T → τ'.1 27 i = nI i) ∧ ∀ i, i < 7 → τ'.1 27 (10 + i) = rkp T i ∧ τ'.1 27 (17 + i) = 0 := by
  obtain ⟨w, w1, w2, w3, w4, w5, w6, -⟩ := hT
  have bw : ib (nI w) 2 = true := ib_t (by omega) (by omega)
  have gw : (nI w).toNatClampNeg = w := nI_clamp (by omega)
  obtain ⟨r, h1, g1, g2, g3⟩ := zinv (st := rk7) (s0 := (τ, (0 : Int32))) (fun t s => s.2 = nI t ∧ (∀ c, c ≠ 27 → s.1.1 c = τ.1 c) ∧ s.1.2 = τ.2 ∧ ∀ i, i < t → s.1.1 27 i = 0) (fun r => (∀ c, c ≠ 27 → r.1 c = τ.1 c) ∧ r.2 = τ.2 ∧ ∀ i, i < 26 → r.1 27 i = 0) 26 (by omega) ⟨rfl, fun _ _ => rfl, rfl, fun i hi => absurd hi (Nat.not_lt_zero _)⟩ (by
    rintro t ⟨x, y⟩ ht ⟨h, f1, f2, f3⟩
    have h : y = nI t := h
    subst h
    have n1 : ¬ (26 : Int32) ≤ nI t := fun z => by have := (nI_leN (a := 26) (by omega) (by omega)).mp z; omega
    left
    refine ⟨(si x 27 t 0, nI (t + 1)), ?_, rfl, fun c hc => by show (si x 27 t 0).1 c = _; rw [si_ne hc]; exact f1 c hc, f2, fun i hi => ?_⟩
    · unfold rk7 un2
      dsimp only
      rw [if_neg n1, if_ib (ib_t (by omega) (by omega)), nI_clamp (by omega), wlet_eq, wlet_eq, ← nI_succ]
    · show (si x 27 t 0).1 27 i = 0
      rw [si_get]
      by_cases e : i = t
      · rw [if_pos ⟨rfl, e⟩]
      · rw [if_neg (fun z => e z.2)]; exact f3 i (by omega)) (by
    rintro ⟨x, y⟩ ⟨h, f1, f2, f3⟩
    have h : y = nI 26 := h
    subst h
    refine ⟨x, ?_, f1, f2, f3⟩
    unfold rk7 un2
    dsimp only
    rw [if_pos (by decide)])
  obtain ⟨r0, e0⟩ : ∃ r0, r0 = si r 27 7 (nI (tn T)) := ⟨_, rfl⟩
  have k0 : ∀ c, c ≠ 27 → r0.1 c = τ.1 c := fun c hc => by rw [e0, si_ne hc]; exact g1 c hc
  have k1 : ∀ i, i < 26 → i ≠ 7 → r0.1 27 i = 0 := fun i hi h => by rw [e0, si_get, if_neg (fun z => h z.2)]; exact g3 i hi
  obtain ⟨q, h2, p1, p2, p3, p4, p5⟩ := zinv (st := rk8) (s0 := (r0, (0 : Int32))) (fun t s => s.2 = nI t ∧ (∀ c, c ≠ 27 → s.1.1 c = τ.1 c) ∧ s.1.2 = τ.2 ∧ (∀ i, i < t → s.1.1 27 i = nI i) ∧ (∀ i, i < t → s.1.1 27 (10 + i) = nI (tp T i)) ∧ ∀ i, t ≤ i → (i < 10 ∨ 10 + t ≤ i) → s.1.1 27 i = r0.1 27 i) (fun r => (∀ c, c ≠ 27 → r.1 c = τ.1 c) ∧ r.2 = τ.2 ∧ (∀ i, i < tn T → r.1 27 i = nI i) ∧ (∀ i, i < tn T → r.1 27 (10 + i) = nI (tp T i)) ∧ ∀ i, tn T ≤ i → (i < 10 ∨ 10 + tn T ≤ i) → r.1 27 i = r0.1 27 i) (tn T) (by omega) ⟨rfl, k0, by show r0.2 = _; rw [e0]; exact g2, fun i hi => absurd hi (Nat.not_lt_zero _), fun i hi => absurd hi (Nat.not_lt_zero _), fun _ _ _ => rfl⟩ (by
    rintro t ⟨x, y⟩ ht ⟨h, f1, f2, f3, f4, f5⟩
    have h : y = nI t := h
    subst h
    have f1 : ∀ c, c ≠ 27 → x.1 c = τ.1 c := f1
    have n1 : ¬ nI (tn T) ≤ nI t := fun z => by have := (nI_leN (by omega) (by omega)).mp z; omega
    have e7 : (7 : Int32) * nI w + nI t = nI (7 * w + t) := by rw [show (7 : Int32) = nI 7 from rfl, znI_mul, nI_add']
    have e10 : (10 : Int32) + nI t = nI (10 + t) := by rw [show (10 : Int32) = nI 10 from rfl, nI_add']
    have x18 : (si x 27 t (nI t)).1 0 18 = nI w := by rw [si_ne (by omega), f1 0 (by omega)]; exact w2
    have x11 : (si x 27 t (nI t)).1 11 (7 * w + t) = nI (tp T t) := by rw [si_ne (by omega), f1 11 (by omega)]; exact (w4 t ht).2
    left
    refine ⟨(si (si x 27 t (nI t)) 27 (10 + t) (nI (tp T t)), nI (t + 1)), ?_, rfl, fun c hc => ?_, f2, fun i hi => ?_, fun i hi => ?_, fun i i1 i2 => ?_⟩
    · unfold rk8 un2
      dsimp only
      rw [f1 0 (by omega), w2, if_ib bw, gw, f1 9 (by omega), w3, if_neg n1, if_ib (ib_t (show t < 26 by omega) (by omega)), nI_clamp (show t < 2 ^ 31 by omega), wlet_eq, x18, e7, if_ib (ib_t (show 7 * w + t < 14 by omega) (by omega)), e10, if_ib (ib_t (show 10 + t < 26 by omega) (by omega)), nI_clamp (show 10 + t < 2 ^ 31 by omega), nI_clamp (show 7 * w + t < 2 ^ 31 by omega), x11, wlet_eq, wlet_eq, ← nI_succ]
    · show (si (si x 27 t (nI t)) 27 (10 + t) (nI (tp T t))).1 c = _
      rw [si_ne hc, si_ne hc]; exact f1 c hc
    · show (si (si x 27 t (nI t)) 27 (10 + t) (nI (tp T t))).1 27 i = _
      rw [si_get, if_neg (by omega), si_get]
      by_cases e : i = t
      · rw [if_pos ⟨rfl, e⟩, e]
      · rw [if_neg (fun z => e z.2)]; exact f3 i (by omega)
    · show (si (si x 27 t (nI t)) 27 (10 + t) (nI (tp T t))).1 27 (10 + i) = _
      rw [si_get]
      by_cases e : i = t
      · rw [if_pos ⟨rfl, by omega⟩, e]
      · rw [if_neg (by omega), si_get, if_neg (by omega)]; exact f4 i (by omega)
    · show (si (si x 27 t (nI t)) 27 (10 + t) (nI (tp T t))).1 27 i = _
      rw [si_get, if_neg (by omega), si_get, if_neg (by omega)]; exact f5 i (by omega) (by omega)) (by
    rintro ⟨x, y⟩ ⟨h, f1, f2, f3, f4, f5⟩
    have h : y = nI (tn T) := h
    subst h
    have f1 : ∀ c, c ≠ 27 → x.1 c = τ.1 c := f1
    refine ⟨x, ?_, f1, f2, f3, f4, f5⟩
    unfold rk8 un2
    dsimp only
    rw [f1 0 (by omega), w2, if_ib bw, gw, f1 9 (by omega), w3, if_pos (Int32.le_refl _)])
  obtain ⟨q9, e9⟩ : ∃ q9, q9 = si (si q 27 9 (nI (tb T))) 0 45 (nI (ts T)) := ⟨_, rfl⟩
  have v : ∀ i, i ≠ 9 → q9.1 27 i = q.1 27 i := fun i hi => by rw [e9, si_ne (by omega), si_get, if_neg (fun z => hi z.2)]
  refine ⟨q9, ?_, fun c hc hd => by rw [e9, si_ne hc, si_ne hd]; exact p1 c hd, fun i hi => by rw [e9, si_get, if_neg (fun z => hi z.2), si_ne (by omega)]; rw [p1 0 (by omega)], by rw [e9]; exact p2, ⟨?_, ?_, ?_, ?_, ?_⟩, fun i hi => by rw [v i (by omega)]; exact p3 i hi, fun i hi => ⟨?_, ?_⟩⟩
  · unfold f_X11_begins
    rw [wlet_eq]
    refine (bind_eq h1).trans ?_
    rw [g1 0 (by omega), w2, if_ib bw, if_ib (show ib (7 : Int32) 26 = true by decide), c7, gw, g1 9 (by omega), w3, wlet_eq, ← e0, wlet_eq]
    refine (bind_eq h2).trans ?_
    rw [p1 0 (by omega), w2, if_ib bw, if_ib (show ib (9 : Int32) 26 = true by decide), show (9 : Int32).toNatClampNeg = 9 by decide, gw, p1 12 (by omega), w5, wlet_eq, si_ne (by omega), p1 0 (by omega), w2, if_ib bw, gw, si_ne (by omega), p1 13 (by omega), w6, wlet_eq, ← e9]
  · rw [v 7 (by omega), p5 7 h7 (by omega), e0, si_get, if_pos ⟨rfl, rfl⟩]
  · rw [e9, si_ne (by omega), si_get, if_pos ⟨rfl, rfl⟩]
  · rw [v 8 (by omega), p5 8 (by omega) (by omega)]; exact k1 8 (by omega) (by omega)
  · rw [v 24 (by omega), p5 24 (by omega) (by omega)]; exact k1 24 (by omega) (by omega)
  · rw [v 25 (by omega), p5 25 (by omega) (by omega)]; exact k1 25 (by omega) (by omega)
  · rw [v (10 + i) (by omega)]
    unfold rkp
    by_cases e : i < tn T
    · rw [if_pos e]; exact p4 i e
    · rw [if_neg e, p5 (10 + i) (by omega) (by omega)]; exact k1 (10 + i) (by omega) (by omega)
  · rw [v (17 + i) (by omega), p5 (17 + i) (by omega) (by omega)]; exact k1 (17 + i) (by omega) (by omega)
/-- the lists held are let go -/
def rk9 : St × Int32 → Option ((St × Int32) ⊕ (St)) :=
  un2 (fun (σ219_28 : St) (x1_219_28 : Int32) => if (3 : Int32) ≤ x1_219_28 then (some (.inr σ219_28)) else (if ib x1_219_28 3 = true then wlet (si σ219_28 36 (Int32.toNatClampNeg x1_219_28) (vp_nar .boolean (0 : Int32))) fun σ31 => wlet (x1_219_28 + (1 : Int32)) fun v32 => some (.inl (σ31, v32)) else none))
theorem M_lets (τ : St) : ∃ τ', lp rk9 fuel (τ, 0) = some τ' ∧ (∀ c, c ≠ 36 → τ'.1 c = τ.1 c) ∧ τ'.2 = τ.2 ∧ ∀ i, i < 3 → τ'.1 36 i = 0 := by
  obtain ⟨r, h1, h2⟩ := zinv (st := rk9) (s0 := (τ, (0 : Int32))) (fun t s => s.2 = nI t ∧ (∀ c, c ≠ 36 → s.1.1 c = τ.1 c) ∧ s.1.2 = τ.2 ∧ ∀ i, i < t → s.1.1 36 i = 0) (fun r => (∀ c, c ≠ 36 → r.1 c = τ.1 c) ∧ r.2 = τ.2 ∧ ∀ i, i < 3 → r.1 36 i = 0) 3 (by omega) ⟨rfl, fun _ _ => rfl, rfl, fun i hi => absurd hi (Nat.not_lt_zero _)⟩ (by
    rintro t ⟨x, y⟩ ht ⟨h, f1, f2, f3⟩
    have h : y = nI t := h
    subst h
    have n1 : ¬ (3 : Int32) ≤ nI t := fun z => by have := (nI_leN (a := 3) (by omega) (by omega)).mp z; omega
    have zb0 : vp_nar .boolean (0 : Int32) = 0 := rfl
    left
    refine ⟨(si x 36 t 0, nI (t + 1)), ?_, rfl, fun c hc => by show (si x 36 t 0).1 c = _; rw [si_ne hc]; exact f1 c hc, f2, fun i hi => ?_⟩
    · unfold rk9 un2
      dsimp only
      rw [if_neg n1, if_ib (ib_t (by omega) (by omega)), nI_clamp (by omega), zb0, wlet_eq, wlet_eq, ← nI_succ]
    · show (si x 36 t 0).1 36 i = 0
      rw [si_get]
      by_cases e : i = t
      · rw [if_pos ⟨rfl, e⟩]
      · rw [if_neg (fun z => e z.2)]; exact f3 i (by omega)) (by
    rintro ⟨x, y⟩ ⟨h, f1, f2, f3⟩
    have h : y = nI 3 := h
    subst h
    refine ⟨x, ?_, f1, f2, f3⟩
    unfold rk9 un2
    dsimp only
    rw [if_pos (by decide)])
  exact ⟨r, h1, h2⟩
