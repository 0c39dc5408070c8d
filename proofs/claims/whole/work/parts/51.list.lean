/-! STAGE B, 2: the list: where a case is -/
theorem lp_bindE {S R B : Type} {st : S → Option (S ⊕ R)} {s0 : S} {K : R → Option B} (I : Nat → S → Prop) (O : R → Prop) (P : B → Prop) (n : Nat) (hI : I n s0) (hf : n < 100000) (h : ∀ n s, I n s → (∃ t m, st s = some (.inl t) ∧ m < n ∧ I m t) ∨ (∃ r, st s = some (.inr r) ∧ O r)) (hK : ∀ r, O r → ∃ v, K r = some v ∧ P v) : ∃ v, Option.bind (lp st fuel s0) K = some v ∧ P v := by
  obtain ⟨r, h1, h2⟩ := lp_spec I O h fuel n s0 hI hf
  obtain ⟨v, h3, h4⟩ := hK r h2
  exact ⟨v, by rw [h1]; exact h3, h4⟩
theorem lp_bind {S R B : Type} {st : S → Option (S ⊕ R)} {s0 : S} {K : R → Option B} {v : B} (I : Nat → S → Prop) (O : R → Prop) (n : Nat) (hI : I n s0) (hf : n < 100000) (h : ∀ n s, I n s → (∃ t m, st s = some (.inl t) ∧ m < n ∧ I m t) ∨ (∃ r, st s = some (.inr r) ∧ O r)) (hK : ∀ r, O r → K r = some v) : Option.bind (lp st fuel s0) K = some v := by
  obtain ⟨v', h1, h2⟩ := lp_bindE I O (fun x => x = v) n hI hf h (fun r hr => ⟨v, hK r hr, rfl⟩)
  rw [h1, h2]
/-- the first place from i on, k places long, that holds x -/
def pX (V : Nat → Int32) (x : Int32) : Nat → Nat → Option Nat
  | 0, _ => none
  | k + 1, i => if V i = x then some i else pX V x k (i + 1)
theorem pX_some {V : Nat → Int32} {x : Int32} : ∀ {k i j : Nat}, pX V x k i = some j → i ≤ j ∧ j < i + k ∧ V j = x ∧ ∀ t, i ≤ t → t < j → V t ≠ x := by
  intro k
  induction k with
  | zero => intro i j h; cases h
  | succ k ih =>
    intro i j h
    rw [pX] at h
    by_cases h1 : V i = x
    · rw [if_pos h1] at h
      cases h
      exact ⟨Nat.le_refl _, by omega, h1, fun t a b => by omega⟩
    · rw [if_neg h1] at h
      obtain ⟨a, b, c, d⟩ := ih h
      refine ⟨by omega, by omega, c, fun t ht1 ht2 => ?_⟩
      by_cases e : t = i
      · subst e; exact h1
      · exact d t (by omega) ht2
theorem pX_none {V : Nat → Int32} {x : Int32} : ∀ {k i : Nat}, pX V x k i = none → ∀ t, i ≤ t → t < i + k → V t ≠ x := by
  intro k
  induction k with
  | zero => intro i _ t a b; omega
  | succ k ih =>
    intro i h t a b
    rw [pX] at h
    by_cases h1 : V i = x
    · rw [if_pos h1] at h; cases h
    · rw [if_neg h1] at h
      by_cases e : t = i
      · subst e; exact h1
      · exact ih h t (by omega) (by omega)
theorem pX_congr {V V' : Nat → Int32} {x : Int32} : ∀ {k i : Nat}, (∀ t, i ≤ t → t < i + k → V t = V' t) → pX V x k i = pX V' x k i := by
  intro k
  induction k with
  | zero => intro i _; rfl
  | succ k ih =>
    intro i h
    rw [pX, pX, h i (Nat.le_refl _) (by omega), ih (fun t a b => h t (by omega) (by omega))]
def pv : Option Nat → Int32
  | none => -1
  | some i => nI i
/-- the place of x among the first m, or -1 -/
def pO (V : Nat → Int32) (m : Nat) (x : Int32) : Int32 := pv (pX V x m 0)
theorem pO_cases (V : Nat → Int32) (m : Nat) (x : Int32) : (∃ i, i < m ∧ V i = x ∧ pO V m x = nI i ∧ ∀ t, t < i → V t ≠ x) ∨ ((∀ i, i < m → V i ≠ x) ∧ pO V m x = -1) := by
  unfold pO
  cases h : pX V x m 0 with
  | none => exact Or.inr ⟨fun i hi => pX_none h i (Nat.zero_le _) (by omega), rfl⟩
  | some j =>
    obtain ⟨_, b, c, d⟩ := pX_some h
    exact Or.inl ⟨j, by omega, c, rfl, fun t ht => d t (Nat.zero_le _) ht⟩
theorem pO_at {V : Nat → Int32} {m i : Nat} (hi : i < m) (inj : ∀ t, t < i → V t ≠ V i) : pO V m (V i) = nI i := by
  rcases pO_cases V m (V i) with ⟨j, h1, h2, h3, h4⟩ | ⟨h1, _⟩
  · rw [h3]
    rcases Nat.lt_trichotomy j i with h | h | h
    · exact absurd h2 (inj j h)
    · rw [h]
    · exact absurd rfl (h4 i h)
  · exact absurd rfl (h1 i hi)
/-- a State of the class (cell o) holds the numbers V, m of them on the list -/
def RS (σ : St) (o m : Nat) (V : Nat → Int32) : Prop := σ.1 o 3 = nI m ∧ σ.1 o 4 = V 24 ∧ σ.1 o 5 = V 9 ∧ σ.1 o 6 = V 8 ∧ σ.1 o 7 = V 25 ∧ (∀ i, i < m → σ.1 (o + 1) i = V i) ∧ (∀ c, c < 7 → σ.1 (o + 2) c = V (10 + c)) ∧ (∀ c, c < 7 → σ.1 (o + 3) c = V (17 + c))
/-- the numbers of a state: m of n cases on the list, each once -/
def WV (n m : Nat) (V : Nat → Int32) : Prop := m ≤ n ∧ n ≤ 7 ∧ V 7 = nI m ∧ (∀ i, i < m → ∃ k, k < n ∧ V i = nI k) ∧ ∀ i j, i < m → j < m → V i = V j → i = j
theorem C_placeOf {σ : St} {o m : Nat} {V : Nat → Int32} (hm : m ≤ 7) (h : σ.1 o 3 = nI m) (hL : ∀ i, i < m → σ.1 (o + 1) i = V i) (x : Int32) : f_X6_placeOf σ o x = some (pO V m x) := by
  unfold f_X6_placeOf
  simp only [wlet_eq]
  refine lp_bind (fun k s => ∃ i, i + k = m ∧ s = nI i ∧ pX V x m 0 = pX V x k i) (fun r => r = match pX V x m 0 with | none => .inl () | some i => .inr (nI i)) m ⟨0, by omega, rfl, rfl⟩ (by omega) ?_ ?_
  · rintro k s ⟨i, hi, rfl, hp⟩
    cases k with
    | zero =>
      refine Or.inr ⟨.inl (), ?_, ?_⟩
      · rw [h, if_pos ((nI_leN (by omega) (by omega)).mpr (by omega))]
      · rw [hp]; rfl
    | succ k =>
      have e1 : ¬ nI m ≤ nI i := fun q => by have := (nI_leN (by omega) (by omega)).mp q; omega
      have e2 : ¬ (7 : Int32) ≤ nI i := fun q => by have := (nI_leN (a := 7) (by omega) (by omega)).mp q; omega
      rw [h, if_neg e1, if_neg e2, if_ib (ib_t (by omega) (by omega)), nI_clamp (by omega), hL i (by omega)]
      by_cases hx : V i = x
      · refine Or.inr ⟨.inr (nI i), by rw [if_pos hx], ?_⟩
        rw [hp, pX, if_pos hx]
      · refine Or.inl ⟨nI (i + 1), k, by rw [if_neg hx, nI_succ], by omega, i + 1, by omega, rfl, ?_⟩
        rw [hp, pX, if_neg hx]
  · rintro r rfl
    unfold pO
    cases pX V x m 0 <;> rfl
theorem M_placeOf {τ : St} {m : Nat} (hm : m ≤ 7) (h : τ.1 27 7 = nI m) (x : Int32) : f_X11_placeOf τ x = some (pO (τ.1 27) m x) := by
  unfold f_X11_placeOf
  simp only [wlet_eq]
  refine lp_bind (fun k s => ∃ i, i + k = m ∧ s = nI i ∧ pX (τ.1 27) x m 0 = pX (τ.1 27) x k i) (fun r => r = match pX (τ.1 27) x m 0 with | none => .inl () | some i => .inr (nI i)) m ⟨0, by omega, rfl, rfl⟩ (by omega) ?_ ?_
  · rintro k s ⟨i, hi, rfl, hp⟩
    have e0 : ib (7 : Int32) 26 = true := by decide
    cases k with
    | zero =>
      refine Or.inr ⟨.inl (), ?_, ?_⟩
      · rw [if_ib e0, c7, h, if_pos ((nI_leN (by omega) (by omega)).mpr (by omega))]
      · rw [hp]; rfl
    | succ k =>
      have e1 : ¬ nI m ≤ nI i := fun q => by have := (nI_leN (by omega) (by omega)).mp q; omega
      rw [if_ib e0, c7, h, if_neg e1, if_ib (ib_t (by omega) (by omega)), nI_clamp (by omega)]
      by_cases hx : τ.1 27 i = x
      · refine Or.inr ⟨.inr (nI i), by rw [if_pos hx], ?_⟩
        rw [hp, pX, if_pos hx]
      · refine Or.inl ⟨nI (i + 1), k, by rw [if_neg hx, nI_succ], by omega, i + 1, by omega, rfl, ?_⟩
        rw [hp, pX, if_neg hx]
  · rintro r rfl
    unfold pO
    cases pX (τ.1 27) x m 0 <;> rfl
