/-! STAGE B, 54: what reading the text changes; names -/
/-- what the reading may change in the class -/
def rhC (σ σ' : St) : Prop := (∀ c, c ≠ 10 → (c < 15 ∨ 19 < c) → σ'.1 c = σ.1 c) ∧ (∀ c, c ≠ 20 → σ'.2 c = σ.2 c) ∧ ∀ i, (i < 2 ∨ 6 < i) → σ'.1 10 i = σ.1 10 i
theorem rhC_refl (σ : St) : rhC σ σ := ⟨fun _ _ _ => rfl, fun _ _ => rfl, fun _ _ => rfl⟩
theorem rhC_trans {a b c : St} (h : rhC a b) (g : rhC b c) : rhC a c := ⟨fun k h1 h2 => (g.1 k h1 h2).trans (h.1 k h1 h2), fun k hk => (g.2.1 k hk).trans (h.2.1 k hk), fun i hi => (g.2.2 i hi).trans (h.2.2 i hi)⟩
theorem rhC_g {a b : St} (h : rgC a b) : rhC a b := ⟨fun c h1 _ => h.1 c h1, fun c _ => by rw [h.2.1], h.2.2⟩
theorem rhC_E {a b : St} (h : zfE a b) : rhC a b := ⟨fun c h1 h2 => h.1 c h1 (by omega) (by omega), fun c _ => by rw [h.2.1], fun i hi => h.2.2.2 i (by omega) (by omega) (by omega)⟩
theorem rhC_W {k : Nat} {a b : St} (h : rfW k a b) : rhC a b := ⟨fun c h1 h2 => h.1 c h1 (by omega) (by omega) (by omega), fun c _ => by rw [h.2.1], fun i hi => h.2.2.2.1 i (by omega) (by omega) (by omega)⟩
theorem rhC_si (σ : St) (c i : Nat) (v : Int32) (h : 15 ≤ c ∧ c ≤ 19) : rhC σ (si σ c i v) := ⟨fun k _ h2 => si_ne (by omega), fun _ _ => rfl, fun j _ => by rw [si_ne (by omega)]⟩
theorem rhC_sj (σ : St) (i : Nat) (v : Int64) : rhC σ (sj σ 20 i v) := ⟨fun _ _ _ => rfl, fun c h => sj_ne h, fun _ _ => rfl⟩
theorem zTk_H {σ σ' : St} {K P V : Nat → Nat} (h : rhC σ σ') (hT : zTk σ K P V) : zTk σ' K P V := by
  unfold zTk at hT ⊢
  rw [h.1 12 (by omega) (by omega), h.1 13 (by omega) (by omega), h.2.1 14 (by omega)]; exact hT
/-- what the reading may change in the reference: the side s -/
def rhM (s : Nat) (τ τ' : St) : Prop := (∀ c, c ≠ 0 → (c < 9 ∨ 23 < c) → τ'.1 c = τ.1 c) ∧ (∀ i, (i < 11 ∨ 16 < i) → i ≠ 20 → i ≠ 29 → i ≠ 35 → i ≠ 39 → τ'.1 0 i = τ.1 0 i) ∧ (∀ c, c ≠ 8 → τ'.2 c = τ.2 c) ∧ (∀ i, i ≠ s → τ'.1 9 i = τ.1 9 i ∧ τ'.1 12 i = τ.1 12 i ∧ τ'.1 13 i = τ.1 13 i) ∧ (∀ i, (i < 7 * s ∨ 7 * s + 7 ≤ i) → τ'.1 10 i = τ.1 10 i ∧ τ'.1 11 i = τ.1 11 i) ∧ (∀ i, (i < 4 * s ∨ 4 * s + 4 ≤ i) → τ'.1 14 i = τ.1 14 i ∧ τ'.1 15 i = τ.1 15 i) ∧ (∀ c i, 16 ≤ c → c ≤ 20 → (i < 130 * s ∨ 130 * s + 130 ≤ i) → τ'.1 c i = τ.1 c i) ∧ ∀ c i, 21 ≤ c → c ≤ 22 → (i < 420 * s ∨ 420 * s + 420 ≤ i) → τ'.1 c i = τ.1 c i
theorem rhM_refl (s : Nat) (τ : St) : rhM s τ τ := ⟨fun _ _ _ => rfl, fun _ _ _ _ _ _ => rfl, fun _ _ => rfl, fun _ _ => ⟨rfl, rfl, rfl⟩, fun _ _ => ⟨rfl, rfl⟩, fun _ _ => ⟨rfl, rfl⟩, fun _ _ _ _ _ => rfl, fun _ _ _ _ _ => rfl⟩
theorem rhM_trans {s : Nat} {a b c : St} (h : rhM s a b) (g : rhM s b c) : rhM s a c := ⟨fun k h1 h2 => (g.1 k h1 h2).trans (h.1 k h1 h2), fun i h1 h2 h3 h4 h5 => (g.2.1 i h1 h2 h3 h4 h5).trans (h.2.1 i h1 h2 h3 h4 h5), fun k hk => (g.2.2.1 k hk).trans (h.2.2.1 k hk), fun i hi => ⟨(g.2.2.2.1 i hi).1.trans (h.2.2.2.1 i hi).1, (g.2.2.2.1 i hi).2.1.trans (h.2.2.2.1 i hi).2.1, (g.2.2.2.1 i hi).2.2.trans (h.2.2.2.1 i hi).2.2⟩, fun i hi => ⟨(g.2.2.2.2.1 i hi).1.trans (h.2.2.2.2.1 i hi).1, (g.2.2.2.2.1 i hi).2.trans (h.2.2.2.2.1 i hi).2⟩, fun i hi => ⟨(g.2.2.2.2.2.1 i hi).1.trans (h.2.2.2.2.2.1 i hi).1, (g.2.2.2.2.2.1 i hi).2.trans (h.2.2.2.2.2.1 i hi).2⟩, fun k i h1 h2 h3 => (g.2.2.2.2.2.2.1 k i h1 h2 h3).trans (h.2.2.2.2.2.2.1 k i h1 h2 h3), fun k i h1 h2 h3 => (g.2.2.2.2.2.2.2 k i h1 h2 h3).trans (h.2.2.2.2.2.2.2 k i h1 h2 h3)⟩
theorem rhM_g {s : Nat} {a b : St} (h : rgM a b) : rhM s a b := ⟨fun c h1 _ => h.1 c h1, fun i h1 h2 h3 h4 h5 => h.2.1 i (by omega) (by omega) (by omega) (by omega) (by omega), fun c _ => by rw [h.2.2], fun i _ => ⟨by rw [h.1 9 (by omega)], by rw [h.1 12 (by omega)], by rw [h.1 13 (by omega)]⟩, fun i _ => ⟨by rw [h.1 10 (by omega)], by rw [h.1 11 (by omega)]⟩, fun i _ => ⟨by rw [h.1 14 (by omega)], by rw [h.1 15 (by omega)]⟩, fun c i h1 _ _ => by rw [h.1 c (by omega)], fun c i h1 _ _ => by rw [h.1 c (by omega)]⟩
theorem rhM_V {s b0 c0 k : Nat} {a b : St} (hb : 130 * s ≤ b0) (hc : 420 * s ≤ c0) (hk : k < 4) (h : rfV (4 * s + k) s b0 c0 a b) : rhM s a b := ⟨fun c h1 h2 => h.1 c h1 (by omega) (by omega) (by omega), fun i h1 h2 h3 h4 h5 => h.2.1 i (by omega) (by omega) (by omega) (by omega) (by omega) (by omega) (by omega), fun c _ => by rw [h.2.2.1], fun i _ => ⟨by rw [h.1 9 (by omega) (by omega) (by omega) (by omega)], by rw [h.1 12 (by omega) (by omega) (by omega) (by omega)], by rw [h.1 13 (by omega) (by omega) (by omega) (by omega)]⟩, fun i _ => ⟨by rw [h.1 10 (by omega) (by omega) (by omega) (by omega)], by rw [h.1 11 (by omega) (by omega) (by omega) (by omega)]⟩, fun i hi => h.2.2.2.2.2 i (by omega), fun c i h1 h2 h3 => h.2.2.2.1 c i h1 h2 (by omega), fun c i h1 h2 h3 => h.2.2.2.2.1 c i h1 h2 (by omega)⟩
theorem rhM_0 {s : Nat} (τ : St) (i : Nat) (v : Int32) (h : (11 ≤ i ∧ i ≤ 16) ∨ i = 20 ∨ i = 29 ∨ i = 35) : rhM s τ (si τ 0 i v) := ⟨fun c h1 _ => si_ne h1, fun j h1 h2 h3 h4 h5 => by rw [si_get, if_neg (by omega)], fun _ _ => rfl, fun j _ => ⟨by rw [si_ne (by omega)], by rw [si_ne (by omega)], by rw [si_ne (by omega)]⟩, fun j _ => ⟨by rw [si_ne (by omega)], by rw [si_ne (by omega)]⟩, fun j _ => ⟨by rw [si_ne (by omega)], by rw [si_ne (by omega)]⟩, fun c j h1 _ _ => by rw [si_ne (by omega)], fun c j h1 _ _ => by rw [si_ne (by omega)]⟩
theorem rhM_9 {s : Nat} (τ : St) (c : Nat) (v : Int32) (h : c = 9 ∨ c = 12 ∨ c = 13) : rhM s τ (si τ c s v) := ⟨fun k h1 _ => si_ne (by omega), fun j _ _ _ _ _ => by rw [si_ne (by omega)], fun _ _ => rfl, fun j hj => ⟨by rw [si_get, if_neg (by omega)], by rw [si_get, if_neg (by omega)], by rw [si_get, if_neg (by omega)]⟩, fun j _ => ⟨by rw [si_ne (by omega)], by rw [si_ne (by omega)]⟩, fun j _ => ⟨by rw [si_ne (by omega)], by rw [si_ne (by omega)]⟩, fun k j h1 _ _ => by rw [si_ne (by omega)], fun k j h1 _ _ => by rw [si_ne (by omega)]⟩
theorem rhM_10 {s : Nat} (τ : St) (c i : Nat) (v : Int32) (h : c = 10 ∨ c = 11) (hi : 7 * s ≤ i ∧ i < 7 * s + 7) : rhM s τ (si τ c i v) := ⟨fun k h1 _ => si_ne (by omega), fun j _ _ _ _ _ => by rw [si_ne (by omega)], fun _ _ => rfl, fun j hj => ⟨by rw [si_ne (by omega)], by rw [si_ne (by omega)], by rw [si_ne (by omega)]⟩, fun j _ => ⟨by rw [si_get, if_neg (by omega)], by rw [si_get, if_neg (by omega)]⟩, fun j _ => ⟨by rw [si_ne (by omega)], by rw [si_ne (by omega)]⟩, fun k j h1 _ _ => by rw [si_ne (by omega)], fun k j h1 _ _ => by rw [si_ne (by omega)]⟩
theorem rhM_j {s : Nat} (τ : St) (i : Nat) (v : Int64) : rhM s τ (sj τ 8 i v) := ⟨fun _ _ _ => rfl, fun _ _ _ _ _ _ => rfl, fun c h => sj_ne h, fun _ _ => ⟨rfl, rfl, rfl⟩, fun _ _ => ⟨rfl, rfl⟩, fun _ _ => ⟨rfl, rfl⟩, fun _ _ _ _ _ => rfl, fun _ _ _ _ _ => rfl⟩
theorem zTm_H {s : Nat} {σ σ' : St} {K P V N : Nat → Nat} (h : rhM s σ σ') (hT : zTm σ K P V N) : zTm σ' K P V N := by
  unfold zTm at hT ⊢
  rw [h.1 3 (by omega) (by omega), h.1 4 (by omega) (by omega), h.1 5 (by omega) (by omega), h.2.2.1 6 (by omega)]; exact hT
/-- the names told so far -/
def rdN (K V N : Nat → Nat) (σ τ : St) (t n : Nat) : Prop := ∀ i, i < n → ∃ j, j < t ∧ K j = 2 ∧ σ.2 20 i = nL (V j) ∧ τ.2 8 i = nL (N j)
theorem C_isNamed {σ : St} {n : Nat} {v : Int64} (h6 : σ.1 15 6 = nI n) (hn : n ≤ 7) : ∃ r, f_X8_isNamed σ 15 v = some r ∧ ((r = 1 ∧ ∃ i, i < n ∧ σ.2 20 i = v) ∨ (r = 0 ∧ ∀ i, i < n → ¬ σ.2 20 i = v)) := by
  obtain ⟨r, h1, h2⟩ := zinv (st := fun (x3_2_1 : Int32) => if (σ.1 15 6) ≤ x3_2_1 then (some (.inr (.inl ()))) else (if (7 : Int32) ≤ x3_2_1 then (some (.inr (.inl ()))) else (if ib x3_2_1 7 = true then if (lg_cmp (σ.2 (15 + 5) (Int32.toNatClampNeg x3_2_1)) v) = 0 then (some (.inr (.inr (1 : Int32)))) else (wlet (x3_2_1 + (1 : Int32)) fun v6 => some (.inl v6)) else none))) (s0 := (0 : Int32)) (fun t x => x = nI t ∧ ∀ i, i < t → ¬ σ.2 20 i = v) (fun r => (r = Sum.inl () ∧ ∀ i, i < n → ¬ σ.2 20 i = v) ∨ (r = Sum.inr (1 : Int32) ∧ ∃ i, i < n ∧ σ.2 20 i = v)) n (by omega) ⟨rfl, fun i hi => absurd hi (Nat.not_lt_zero _)⟩ (by
    rintro t x ht ⟨h, hn'⟩
    have h : x = nI t := h
    subst h
    have n1 : ¬ nI n ≤ nI t := fun z => by have := (nI_leN (by omega) (by omega)).mp z; omega
    have n2 : ¬ (7 : Int32) ≤ nI t := fun z => by have := (nI_leN (a := 7) (by omega) (by omega)).mp z; omega
    by_cases q : σ.2 20 t = v
    · right
      refine ⟨.inr 1, ?_, Or.inr ⟨rfl, t, ht, q⟩⟩
      rw [h6, if_neg n1, if_neg n2, if_ib (ib_t (by omega) (by omega)), nI_clamp (by omega), if_pos ((zcmp0 _ _).mpr q)]
    · left
      refine ⟨nI (t + 1), ?_, rfl, fun i hi => ?_⟩
      · rw [h6, if_neg n1, if_neg n2, if_ib (ib_t (by omega) (by omega)), nI_clamp (by omega), if_neg (fun z => q ((zcmp0 _ _).mp z)), wlet_eq, ← nI_succ]
      · by_cases e : i = t
        · rw [e]; exact q
        · exact hn' i (by omega)) (by
    rintro x ⟨h, hn'⟩
    have h : x = nI n := h
    subst h
    refine ⟨.inl (), ?_, Or.inl ⟨rfl, hn'⟩⟩
    rw [h6, if_pos (Int32.le_refl _)])
  unfold f_X8_isNamed
  rw [wlet_eq]
  rcases h2 with ⟨rfl, h2⟩ | ⟨rfl, h2⟩
  · exact ⟨0, bind_eq h1, Or.inr ⟨rfl, h2⟩⟩
  · exact ⟨1, bind_eq h1, Or.inl ⟨rfl, h2⟩⟩
/-- the reference's names gone through -/
def rmL (v3 : Int32) : St × Int32 → Option ((St × Int32) ⊕ (St)) :=
  un2 (fun (σ30_6 : St) (x3_30_6 : Int32) => if (σ30_6.1 0 20) ≤ x3_30_6 then (some (.inr σ30_6)) else (if (σ30_6.1 0 13) = 0 then (if ib x3_30_6 7 = true then if ib v3 403 = true then if (lg_cmp (σ30_6.2 8 (Int32.toNatClampNeg x3_30_6)) (σ30_6.2 6 (Int32.toNatClampNeg v3))) = 0 then (Option.bind (f_X11_wrong σ30_6 (3 : Int32) v3) fun σ34 => wlet (x3_30_6 + (1 : Int32)) fun v35 => some (.inl (σ34, v35))) else (wlet (x3_30_6 + (1 : Int32)) fun v32 => some (.inl (σ30_6, v32))) else none else none) else (some (.inr σ30_6))))
theorem rmL_d {P : Nat → Nat} {τ : St} {v p : Nat} (hD : zDm P τ v p) (v3 : Int32) : lp (rmL v3) fuel (τ, 0) = some τ := by
  have h : rmL v3 (τ, 0) = some (.inr τ) := by
    unfold rmL un2
    dsimp only
    by_cases q : τ.1 0 20 ≤ 0
    · rw [if_pos q]
    · rw [if_neg q, if_neg (zDm_ne hD)]
  rw [fuel_eq]
  exact lp_out h
theorem M_names {P : Nat → Nat} {τ : St} {n i : Nat} (hn : n ≤ 7) (hi : i ≤ 400) (hp : P i ≤ 2000) (h20 : τ.1 0 20 = nI n) (h4 : τ.1 4 i = nI (P i)) (h13 : τ.1 0 13 = 0) (h : τ.1 0 15 = 0 ∨ ∃ u p, u ≠ 0 ∧ u < 10 ∧ τ.1 0 15 = nI u ∧ τ.1 0 16 = nI p ∧ (p < P i ∨ (p = P i ∧ u = 3))) : ∃ τ', lp (rmL (nI i)) fuel (τ, 0) = some τ' ∧ ((τ' = τ ∧ (τ.1 0 15 = 0 → ∀ j, j < n → ¬ τ.2 8 j = τ.2 6 i)) ∨ (τ.1 0 15 = 0 ∧ τ' = si (si τ 0 15 (nI 3)) 0 16 (nI (P i)) ∧ ∃ j, j < n ∧ τ.2 8 j = τ.2 6 i)) := by
  obtain ⟨τL, eL⟩ : ∃ τL, τL = si (si τ 0 15 (nI 3)) 0 16 (nI (P i)) := ⟨_, rfl⟩
  have L20 : τL.1 0 20 = nI n := by rw [eL, si_get, if_neg (by omega), si_get, if_neg (by omega)]; exact h20
  have L4 : τL.1 4 i = nI (P i) := by rw [eL, si_ne (by omega), si_ne (by omega)]; exact h4
  have L13 : τL.1 0 13 = 0 := by rw [eL, si_get, if_neg (by omega), si_get, if_neg (by omega)]; exact h13
  have L15 : τL.1 0 15 = nI 3 := by rw [eL, si_get, if_neg (by omega), si_get, if_pos ⟨rfl, rfl⟩]
  have L16 : τL.1 0 16 = nI (P i) := by rw [eL, si_get, if_pos ⟨rfl, rfl⟩]
  have L2 : τL.2 = τ.2 := by rw [eL]; rfl
  have bi : ib (nI i) 403 = true := ib_t (by omega) (by omega)
  have gi : (nI i).toNatClampNeg = i := nI_clamp (by omega)
  have hstep : ∀ (t : Nat) (x : St), t < n → x.1 0 20 = nI n → x.1 0 13 = 0 → x.2 = τ.2 → rmL (nI i) (x, nI t) = if τ.2 8 t = τ.2 6 i then (Option.bind (f_X11_wrong x (nI 3) (nI i)) fun σ34 => some (.inl (σ34, nI (t + 1)))) else some (.inl (x, nI (t + 1))) := fun t x ht x1 x2 x3 => by
    have n1 : ¬ nI n ≤ nI t := fun z => by have := (nI_leN (by omega) (by omega)).mp z; omega
    unfold rmL un2
    dsimp only
    rw [x1, if_neg n1, if_pos x2, if_ib (ib_t (by omega) (by omega)), if_ib bi, nI_clamp (by omega), gi, x3]
    by_cases q : τ.2 8 t = τ.2 6 i
    · rw [if_pos ((zcmp0 _ _).mpr q), if_pos q, nI_succ t]
      rfl
    · rw [if_neg (fun z => q ((zcmp0 _ _).mp z)), if_neg q, nI_succ t, wlet_eq]
  obtain ⟨r, h1, h2⟩ := zinv (st := rmL (nI i)) (s0 := (τ, (0 : Int32))) (fun t s => s.2 = nI t ∧ ((s.1 = τ ∧ (τ.1 0 15 = 0 → ∀ j, j < t → ¬ τ.2 8 j = τ.2 6 i)) ∨ (τ.1 0 15 = 0 ∧ s.1 = τL ∧ ∃ j, j < t ∧ τ.2 8 j = τ.2 6 i))) (fun r => (r = τ ∧ (τ.1 0 15 = 0 → ∀ j, j < n → ¬ τ.2 8 j = τ.2 6 i)) ∨ (τ.1 0 15 = 0 ∧ r = τL ∧ ∃ j, j < n ∧ τ.2 8 j = τ.2 6 i)) n (by omega) ⟨rfl, Or.inl ⟨rfl, fun _ j hj => absurd hj (Nat.not_lt_zero _)⟩⟩ (by
    rintro t ⟨x, y⟩ ht ⟨h, hq⟩
    have h : y = nI t := h
    subst h
    left
    rcases hq with ⟨hx, hq⟩ | ⟨z, hx, j, j1, j2⟩
    · have hx : x = τ := hx
      subst hx
      by_cases q : x.2 8 t = x.2 6 i
      · by_cases w : x.1 0 15 = 0
        · refine ⟨(τL, nI (t + 1)), ?_, rfl, Or.inr ⟨w, rfl, t, by omega, q⟩⟩
          rw [hstep t x ht h20 h13 rfl, if_pos q, bind_eq (M_wrong hi hp h4 h13 h), if_pos w, ← eL]
        · refine ⟨(x, nI (t + 1)), ?_, rfl, Or.inl ⟨rfl, fun z => absurd z w⟩⟩
          rw [hstep t x ht h20 h13 rfl, if_pos q, bind_eq (M_wrong hi hp h4 h13 h), if_neg w]
      · refine ⟨(x, nI (t + 1)), ?_, rfl, Or.inl ⟨rfl, fun z j hj => ?_⟩⟩
        · rw [hstep t x ht h20 h13 rfl, if_neg q]
        · by_cases e : j = t
          · rw [e]; exact q
          · exact hq z j (by omega)
    · have hx : x = τL := hx
      subst hx
      refine ⟨(x, nI (t + 1)), ?_, rfl, Or.inr ⟨z, rfl, j, by omega, j2⟩⟩
      rw [hstep t x ht L20 L13 L2]
      by_cases q : τ.2 8 t = τ.2 6 i
      · have w : ¬ x.1 0 15 = 0 := by rw [L15]; decide
        rw [if_pos q, bind_eq (M_wrong hi hp L4 L13 (Or.inr ⟨3, P i, by omega, by omega, L15, L16, Or.inr ⟨rfl, rfl⟩⟩)), if_neg w]
      · rw [if_neg q]) (by
    rintro ⟨x, y⟩ ⟨h, hq⟩
    have h : y = nI n := h
    subst h
    have e : x.1 0 20 = nI n := by
      rcases hq with ⟨hx, _⟩ | ⟨_, hx, _⟩
      · rw [show x = τ from hx]; exact h20
      · rw [show x = τL from hx]; exact L20
    refine ⟨x, ?_, hq⟩
    unfold rmL un2
    dsimp only
    rw [e, if_pos (Int32.le_refl _)])
  rw [← eL]
  exact ⟨r, h1, h2⟩
