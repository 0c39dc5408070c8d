/-! STAGE B, 62: the reference up to the first statement -/
def rzM (s : Nat) (τ τ' : St) : Prop := (∀ c, c = 1 ∨ (5 < c ∧ c < 9) ∨ 23 < c → τ'.1 c = τ.1 c) ∧ (∀ i, i ≠ 2 → i ≠ 4 → (i < 10 ∨ 16 < i) → i ≠ 19 → i ≠ 20 → i ≠ 29 → i ≠ 35 → i ≠ 39 → τ'.1 0 i = τ.1 0 i) ∧ (∀ c, c ≠ 6 → c ≠ 8 → τ'.2 c = τ.2 c) ∧ (∀ i, i ≠ s → τ'.1 9 i = τ.1 9 i ∧ τ'.1 12 i = τ.1 12 i ∧ τ'.1 13 i = τ.1 13 i) ∧ (∀ i, (i < 7 * s ∨ 7 * s + 7 ≤ i) → τ'.1 10 i = τ.1 10 i ∧ τ'.1 11 i = τ.1 11 i) ∧ (∀ i, (i < 4 * s ∨ 4 * s + 4 ≤ i) → τ'.1 14 i = τ.1 14 i ∧ τ'.1 15 i = τ.1 15 i) ∧ (∀ c i, 16 ≤ c → c ≤ 20 → (i < 130 * s ∨ 130 * s + 130 ≤ i) → τ'.1 c i = τ.1 c i) ∧ ∀ c i, 21 ≤ c → c ≤ 22 → (i < 420 * s ∨ 420 * s + 420 ≤ i) → τ'.1 c i = τ.1 c i
theorem rzM_trans {s : Nat} {a b c : St} (h : rzM s a b) (g : rzM s b c) : rzM s a c := ⟨fun k h1 => (g.1 k h1).trans (h.1 k h1), fun i h1 h2 h3 h4 h5 h6 h7 h8 => (g.2.1 i h1 h2 h3 h4 h5 h6 h7 h8).trans (h.2.1 i h1 h2 h3 h4 h5 h6 h7 h8), fun k h1 h2 => (g.2.2.1 k h1 h2).trans (h.2.2.1 k h1 h2), fun i hi => ⟨(g.2.2.2.1 i hi).1.trans (h.2.2.2.1 i hi).1, (g.2.2.2.1 i hi).2.1.trans (h.2.2.2.1 i hi).2.1, (g.2.2.2.1 i hi).2.2.trans (h.2.2.2.1 i hi).2.2⟩, fun i hi => ⟨(g.2.2.2.2.1 i hi).1.trans (h.2.2.2.2.1 i hi).1, (g.2.2.2.2.1 i hi).2.trans (h.2.2.2.2.1 i hi).2⟩, fun i hi => ⟨(g.2.2.2.2.2.1 i hi).1.trans (h.2.2.2.2.2.1 i hi).1, (g.2.2.2.2.2.1 i hi).2.trans (h.2.2.2.2.2.1 i hi).2⟩, fun k i h1 h2 h3 => (g.2.2.2.2.2.2.1 k i h1 h2 h3).trans (h.2.2.2.2.2.2.1 k i h1 h2 h3), fun k i h1 h2 h3 => (g.2.2.2.2.2.2.2 k i h1 h2 h3).trans (h.2.2.2.2.2.2.2 k i h1 h2 h3)⟩
theorem rzM_H {s : Nat} {a b : St} (h : rhM s a b) : rzM s a b := ⟨fun c hc => h.1 c (by omega) (by omega), fun i h1 h2 h3 h4 h5 h6 h7 h8 => h.2.1 i (by omega) h5 h6 h7 h8, fun c _ h2 => h.2.2.1 c h2, h.2.2.2⟩
/-- where whole cells stay -/
theorem rzM_c {s : Nat} {a b : St} (h : ∀ c, c ≠ 0 → (c < 2 ∨ 5 < c) → b.1 c = a.1 c) (h0 : ∀ i, i ≠ 2 → i ≠ 4 → (i < 10 ∨ 16 < i) → i ≠ 19 → i ≠ 20 → i ≠ 29 → i ≠ 35 → i ≠ 39 → b.1 0 i = a.1 0 i) (h2 : ∀ c, c ≠ 6 → b.2 c = a.2 c) : rzM s a b := ⟨fun c hc => h c (by omega) (by omega), h0, fun c c6 _ => h2 c c6, fun i _ => ⟨by rw [h 9 (by omega) (by omega)], by rw [h 12 (by omega) (by omega)], by rw [h 13 (by omega) (by omega)]⟩, fun i _ => ⟨by rw [h 10 (by omega) (by omega)], by rw [h 11 (by omega) (by omega)]⟩, fun i _ => ⟨by rw [h 14 (by omega) (by omega)], by rw [h 15 (by omega) (by omega)]⟩, fun c i h1 _ _ => by rw [h c (by omega) (by omega)], fun c i h1 _ _ => by rw [h c (by omega) (by omega)]⟩
def rk0 : St × Int32 → Option ((St × Int32) ⊕ (St)) :=
  un2 (fun (σ10_2 : St) (x1_10_2 : Int32) => if (σ10_2.1 0 4) ≤ x1_10_2 then (some (.inr σ10_2)) else (if ib x1_10_2 2000 = true then if ib x1_10_2 2000 = true then wlet (si σ10_2 2 (Int32.toNatClampNeg x1_10_2) (vp_nar .byte (σ10_2.1 1 (Int32.toNatClampNeg x1_10_2)))) fun σ44 => wlet (x1_10_2 + (1 : Int32)) fun v45 => some (.inl (σ44, v45)) else none else none))
theorem M_tape {τ : St} {n : Nat} (hn : n ≤ 2000) (h4 : τ.1 0 4 = nI n) : ∃ τ', lp rk0 fuel (τ, 0) = some τ' ∧ (∀ c, c ≠ 2 → τ'.1 c = τ.1 c) ∧ τ'.2 = τ.2 ∧ ∀ i, i < n → τ'.1 2 i = vp_nar .byte (τ.1 1 i) := by
  obtain ⟨r, h1, h2⟩ := zinv (st := rk0) (s0 := (τ, (0 : Int32))) (fun t s => s.2 = nI t ∧ (∀ c, c ≠ 2 → s.1.1 c = τ.1 c) ∧ s.1.2 = τ.2 ∧ ∀ i, i < t → s.1.1 2 i = vp_nar .byte (τ.1 1 i)) (fun r => (∀ c, c ≠ 2 → r.1 c = τ.1 c) ∧ r.2 = τ.2 ∧ ∀ i, i < n → r.1 2 i = vp_nar .byte (τ.1 1 i)) n (by omega) ⟨rfl, fun _ _ => rfl, rfl, fun i hi => absurd hi (Nat.not_lt_zero _)⟩ (by
    rintro t ⟨x, y⟩ ht ⟨h, f1, f2, f3⟩
    have h : y = nI t := h
    subst h
    have f1 : ∀ c, c ≠ 2 → x.1 c = τ.1 c := f1
    have n1 : ¬ nI n ≤ nI t := fun z => by have := (nI_leN (by omega) (by omega)).mp z; omega
    have bt : ib (nI t) 2000 = true := ib_t (by omega) (by omega)
    left
    refine ⟨(si x 2 t (vp_nar .byte (τ.1 1 t)), nI (t + 1)), ?_, rfl, fun c hc => by show (si x 2 t _).1 c = _; rw [si_ne hc]; exact f1 c hc, f2, fun i hi => ?_⟩
    · unfold rk0 un2
      dsimp only
      rw [f1 0 (by omega), h4, if_neg n1, if_ib bt, if_ib bt, nI_clamp (by omega), f1 1 (by omega), wlet_eq, wlet_eq, ← nI_succ]
    · show (si x 2 t _).1 2 i = _
      rw [si_get]
      by_cases e : i = t
      · rw [if_pos ⟨rfl, e⟩, e]
      · rw [if_neg (fun z => e z.2)]; exact f3 i (by omega)) (by
    rintro ⟨x, y⟩ ⟨h, f1, f2, f3⟩
    have h : y = nI n := h
    subst h
    have f1 : ∀ c, c ≠ 2 → x.1 c = τ.1 c := f1
    refine ⟨x, ?_, f1, f2, f3⟩
    unfold rk0 un2
    dsimp only
    rw [f1 0 (by omega), h4, if_pos (Int32.le_refl _)])
  exact ⟨r, h1, h2⟩
def rk3 (x1 : Int32) : St × Int32 → Option ((St × Int32) ⊕ (St)) :=
  un2 (fun (σ23_7 : St) (x2_23_7 : Int32) => if (4 : Int32) ≤ x2_23_7 then (some (.inr σ23_7)) else (if ib (((4 : Int32) * x1) + x2_23_7) 8 = true then wlet (si σ23_7 14 (Int32.toNatClampNeg (((4 : Int32) * x1) + x2_23_7)) (0 : Int32)) fun σ10 => if ib (((4 : Int32) * x1) + x2_23_7) 8 = true then wlet (si σ10 15 (Int32.toNatClampNeg (((4 : Int32) * x1) + x2_23_7)) (0 : Int32)) fun σ12 => wlet (x2_23_7 + (1 : Int32)) fun v13 => some (.inl (σ12, v13)) else none else none))
theorem M_plain (τ : St) {s : Nat} (hs : s ≤ 1) : ∃ τ', f_X11_plain τ (nI s) = some τ' ∧ rhM s τ τ' ∧ (∀ i, τ'.1 0 i = τ.1 0 i) ∧ τ'.2 = τ.2 ∧ (τ'.1 9 s = 0 ∧ τ'.1 12 s = 0 ∧ τ'.1 13 s = 0) ∧ ∀ k, k < 4 → τ'.1 14 (4 * s + k) = 0 ∧ τ'.1 15 (4 * s + k) = 0 := by
  have bs : ib (nI s) 2 = true := ib_t (by omega) (by omega)
  have gs : (nI s).toNatClampNeg = s := nI_clamp (by omega)
  obtain ⟨τ0, e0⟩ : ∃ τ0, τ0 = si (si (si τ 9 s 0) 12 s 0) 13 s 0 := ⟨_, rfl⟩
  have f0 : rhM s τ τ0 := by rw [e0]; exact rhM_trans (rhM_9 _ _ _ (Or.inl rfl)) (rhM_trans (rhM_9 _ _ _ (Or.inr (Or.inl rfl))) (rhM_9 _ _ _ (Or.inr (Or.inr rfl))))
  obtain ⟨r, h1, h2⟩ := zinv (st := rk3 (nI s)) (s0 := (τ0, (0 : Int32))) (fun t x => x.2 = nI t ∧ (∀ c, c ≠ 14 → c ≠ 15 → x.1.1 c = τ0.1 c) ∧ x.1.2 = τ0.2 ∧ (∀ i, (i < 4 * s ∨ 4 * s + 4 ≤ i) → x.1.1 14 i = τ0.1 14 i ∧ x.1.1 15 i = τ0.1 15 i) ∧ ∀ k, k < t → x.1.1 14 (4 * s + k) = 0 ∧ x.1.1 15 (4 * s + k) = 0) (fun r => (∀ c, c ≠ 14 → c ≠ 15 → r.1 c = τ0.1 c) ∧ r.2 = τ0.2 ∧ (∀ i, (i < 4 * s ∨ 4 * s + 4 ≤ i) → r.1 14 i = τ0.1 14 i ∧ r.1 15 i = τ0.1 15 i) ∧ ∀ k, k < 4 → r.1 14 (4 * s + k) = 0 ∧ r.1 15 (4 * s + k) = 0) 4 (by omega) ⟨rfl, fun _ _ _ => rfl, rfl, fun _ _ => ⟨rfl, rfl⟩, fun k hk => absurd hk (Nat.not_lt_zero _)⟩ (by
    rintro t ⟨x, y⟩ ht ⟨h, f1, f2, f3, f4⟩
    have h : y = nI t := h
    subst h
    have n1 : ¬ (4 : Int32) ≤ nI t := fun z => by have := (nI_leN (a := 4) (by omega) (by omega)).mp z; omega
    have e4 : (4 : Int32) * nI s + nI t = nI (4 * s + t) := by rw [show (4 : Int32) = nI 4 from rfl, znI_mul, nI_add']
    have b8 : ib (nI (4 * s + t)) 8 = true := ib_t (by omega) (by omega)
    left
    refine ⟨(si (si x 14 (4 * s + t) 0) 15 (4 * s + t) 0, nI (t + 1)), ?_, rfl, fun c h1 h2 => ?_, f2, fun i hi => ?_, fun k hk => ?_⟩
    · unfold rk3 un2
      dsimp only
      rw [if_neg n1, e4, if_ib b8, nI_clamp (by omega), wlet_eq, if_ib b8, wlet_eq, wlet_eq, ← nI_succ]
    · show (si (si x 14 (4 * s + t) 0) 15 (4 * s + t) 0).1 c = _
      rw [si_ne h2, si_ne h1]; exact f1 c h1 h2
    · show (si (si x 14 (4 * s + t) 0) 15 (4 * s + t) 0).1 14 i = _ ∧ (si (si x 14 (4 * s + t) 0) 15 (4 * s + t) 0).1 15 i = _
      rw [si_ne (by omega), si_get, if_neg (by omega), si_get, if_neg (by omega), si_ne (by omega)]
      exact f3 i hi
    · show (si (si x 14 (4 * s + t) 0) 15 (4 * s + t) 0).1 14 (4 * s + k) = _ ∧ (si (si x 14 (4 * s + t) 0) 15 (4 * s + t) 0).1 15 (4 * s + k) = _
      rw [si_ne (by omega), si_get, si_get]
      by_cases e : k = t
      · rw [if_pos ⟨rfl, by omega⟩, if_pos ⟨rfl, by omega⟩]; exact ⟨rfl, rfl⟩
      · rw [if_neg (by omega), if_neg (by omega), si_ne (by omega)]; exact f4 k (by omega)) (by
    rintro ⟨x, y⟩ ⟨h, f1, f2, f3, f4⟩
    have h : y = nI 4 := h
    subst h
    refine ⟨x, ?_, f1, f2, f3, f4⟩
    unfold rk3 un2
    dsimp only
    rw [if_pos (by decide)])
  obtain ⟨g1, g2, g3, g4⟩ := h2
  refine ⟨r, ?_, rhM_trans f0 ⟨fun c h1 h2 => g1 c (by omega) (by omega), fun i _ _ _ _ _ => by rw [g1 0 (by omega) (by omega)], fun c _ => by rw [g2], fun i _ => ⟨by rw [g1 9 (by omega) (by omega)], by rw [g1 12 (by omega) (by omega)], by rw [g1 13 (by omega) (by omega)]⟩, fun i _ => ⟨by rw [g1 10 (by omega) (by omega)], by rw [g1 11 (by omega) (by omega)]⟩, g3, fun c i h1 _ _ => by rw [g1 c (by omega) (by omega)], fun c i h1 _ _ => by rw [g1 c (by omega) (by omega)]⟩, fun i => ?_, ?_, ⟨?_, ?_, ?_⟩, g4⟩
  · unfold f_X11_plain
    rw [if_ib bs, gs, wlet_eq, if_ib bs, wlet_eq, if_ib bs, wlet_eq, wlet_eq, ← e0]
    exact bind_eq h1
  · rw [g1 0 (by omega) (by omega), e0, si_ne (by omega), si_ne (by omega), si_ne (by omega)]
  · rw [g2, e0]; rfl
  · rw [g1 9 (by omega) (by omega), e0, si_ne (by omega), si_ne (by omega), si_get, if_pos ⟨rfl, rfl⟩]
  · rw [g1 12 (by omega) (by omega), e0, si_ne (by omega), si_get, if_pos ⟨rfl, rfl⟩]
  · rw [g1 13 (by omega) (by omega), e0, si_get, if_pos ⟨rfl, rfl⟩]
