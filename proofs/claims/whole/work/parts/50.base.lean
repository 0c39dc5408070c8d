/-! STAGE B, 1: numbers, the store, loops -/
theorem nI_eqN {a b : Nat} (ha : a < 2 ^ 31) (hb : b < 2 ^ 31) : nI a = nI b ↔ a = b := by
  constructor
  · intro h
    have := congrArg Int32.toInt h
    rw [nI_toInt ha, nI_toInt hb] at this
    omega
  · intro h; rw [h]
theorem nI_leN {a b : Nat} (ha : a < 2 ^ 31) (hb : b < 2 ^ 31) : nI a ≤ nI b ↔ a ≤ b := by
  rw [Int32.le_iff_toInt_le, nI_toInt ha, nI_toInt hb]; omega
theorem nI_ltN {a b : Nat} (ha : a < 2 ^ 31) (hb : b < 2 ^ 31) : nI a < nI b ↔ a < b := by
  rw [Int32.lt_iff_toInt_lt, nI_toInt ha, nI_toInt hb]; omega
theorem i_lt0 {x : Int32} : x < 0 ↔ x.toInt < 0 := by
  rw [Int32.lt_iff_toInt_lt, show (0 : Int32).toInt = 0 by decide]
theorem i_le {x : Int32} {n : Nat} (hn : n < 2 ^ 31) : nI n ≤ x ↔ (n : Int) ≤ x.toInt := by
  rw [Int32.le_iff_toInt_le, nI_toInt hn]
theorem i_lt {x : Int32} {n : Nat} (hn : n < 2 ^ 31) : x < nI n ↔ x.toInt < (n : Int) := by
  rw [Int32.lt_iff_toInt_lt, nI_toInt hn]
theorem i_eq {x : Int32} {n : Nat} (hn : n < 2 ^ 31) : x = nI n ↔ x.toInt = (n : Int) := by
  rw [← Int32.toInt_inj, nI_toInt hn]
theorem nI_add' (a b : Nat) : nI a + nI b = nI (a + b) := nI_add a b
theorem nI_sub {a b : Nat} (h : b ≤ a) : nI a - nI b = nI (a - b) := by
  have := nI_add (a - b) b
  rw [Nat.sub_add_cancel h] at this
  rw [← this, Int32.add_sub_cancel]
theorem nI_m1 : (nI 0 : Int32) - 1 = -1 := by decide
theorem i_nat {x : Int32} (h : ¬ x < 0) : ∃ k : Nat, k < 2 ^ 31 ∧ x = nI k := by
  refine ⟨x.toInt.toNat, ?_, ?_⟩
  · have := x.toInt_lt; omega
  · have h1 : ¬ x.toInt < 0 := fun q => h (i_lt0.mpr q)
    rw [i_eq (by have := x.toInt_lt; omega)]
    omega
theorem ib_n {k n : Nat} (hk : k < 2 ^ 31) : ib (nI k) n = decide (k < n) := by
  unfold ib
  rw [nI_clamp hk]
  have : ¬ nI k < 0 := nI_pos hk
  by_cases h : k < n <;> simp [this, h]
theorem ib_t {k n : Nat} (hk : k < n) (hn : n < 2 ^ 31) : ib (nI k) n = true := by rw [ib_n (by omega)]; simp [hk]
-- the store
theorem si_get (σ : St) (c i : Nat) (v : Int32) (d j : Nat) : (si σ c i v).1 d j = if d = c ∧ j = i then v else σ.1 d j := by
  by_cases h : d = c
  · subst h
    by_cases h2 : j = i <;> simp [si, upd, h2]
  · simp [si, h]
theorem si_get2 (σ : St) (c i : Nat) (v : Int32) : (si σ c i v).2 = σ.2 := rfl
theorem sj_get (σ : St) (c i : Nat) (v : Int64) (d j : Nat) : (sj σ c i v).2 d j = if d = c ∧ j = i then v else σ.2 d j := by
  by_cases h : d = c
  · subst h
    by_cases h2 : j = i <;> simp [sj, vp_updL, h2]
  · simp [sj, h]
theorem sj_get1 (σ : St) (c i : Nat) (v : Int64) : (sj σ c i v).1 = σ.1 := rfl
theorem sci_get (σ : St) (a b sp dp n d j : Nat) : (sci σ a b sp dp n).1 d j = if d = b then (if dp ≤ j ∧ j < dp + n then σ.1 a (sp + (j - dp)) else σ.1 b j) else σ.1 d j := by
  by_cases h : d = b
  · subst h; simp [sci, va_cpy]
  · simp [sci, h]
theorem sci_get2 (σ : St) (a b sp dp n : Nat) : (sci σ a b sp dp n).2 = σ.2 := rfl
theorem scj_get (σ : St) (a b sp dp n d j : Nat) : (scj σ a b sp dp n).2 d j = if d = b then (if dp ≤ j ∧ j < dp + n then σ.2 a (sp + (j - dp)) else σ.2 b j) else σ.2 d j := by
  by_cases h : d = b
  · subst h; simp [scj, va_cpy]
  · simp [scj, h]
theorem scj_get1 (σ : St) (a b sp dp n : Nat) : (scj σ a b sp dp n).1 = σ.1 := rfl
theorem c0 : (0 : Int32).toNatClampNeg = 0 := by decide
theorem c7 : (7 : Int32).toNatClampNeg = 7 := by decide
-- loops
theorem lp_step {S R : Type} {st : S → Option (S ⊕ R)} {n : Nat} {s t : S} (h : st s = some (.inl t)) : lp st (n + 1) s = lp st n t := by
  show (st s).bind _ = _
  rw [h]; rfl
theorem lp_out {S R : Type} {st : S → Option (S ⊕ R)} {n : Nat} {s : S} {r : R} (h : st s = some (.inr r)) : lp st (n + 1) s = some r := by
  show (st s).bind _ = _
  rw [h]; rfl
/-- a loop with a falling measure: what it comes to -/
theorem lp_spec {S R : Type} {st : S → Option (S ⊕ R)} (I : Nat → S → Prop) (O : R → Prop) (h : ∀ n s, I n s → (∃ t m, st s = some (.inl t) ∧ m < n ∧ I m t) ∨ (∃ r, st s = some (.inr r) ∧ O r)) :
    ∀ (f n : Nat) (s : S), I n s → n < f → ∃ r, lp st f s = some r ∧ O r := by
  intro f
  induction f with
  | zero => intro n s _ h; omega
  | succ f ih =>
    intro n s hI hf
    rcases h n s hI with ⟨t, m, h1, h2, h3⟩ | ⟨r, h1, h2⟩
    · rw [lp_step h1]
      exact ih m t h3 (by omega)
    · exact ⟨r, lp_out h1, h2⟩
/-- two loops side by side -/
theorem lp_sim {S T R R' : Type} {s1 : S → Option (S ⊕ R)} {s2 : T → Option (T ⊕ R')} (I : Nat → S → T → Prop) (O : R → R' → Prop)
    (h : ∀ n s t, I n s t → (∃ s' t' m, s1 s = some (.inl s') ∧ s2 t = some (.inl t') ∧ m < n ∧ I m s' t') ∨ (∃ r r', s1 s = some (.inr r) ∧ s2 t = some (.inr r') ∧ O r r')) :
    ∀ (f n : Nat) (s : S) (t : T), I n s t → n < f → ∃ r r', lp s1 f s = some r ∧ lp s2 f t = some r' ∧ O r r' := by
  intro f
  induction f with
  | zero => intro n s t _ h; omega
  | succ f ih =>
    intro n s t hI hf
    rcases h n s t hI with ⟨s', t', m, h1, h2, h3, h4⟩ | ⟨r, r', h1, h2, h3⟩
    · rw [lp_step h1, lp_step h2]
      exact ih m s' t' h4 (by omega)
    · exact ⟨r, r', lp_out h1, lp_out h2, h3⟩
theorem fuel_eq : fuel = 100000 := rfl
theorem bind_eq {α β : Type} {a : Option α} {x : α} {f : α → Option β} (h : a = some x) : Option.bind a f = f x := by rw [h]; rfl
theorem bnd2_eq {α β γ : Type} {a : Option (α × β)} {x : α} {y : β} {f : α → β → Option γ} (h : a = some (x, y)) : bnd2 a f = f x y := by rw [h]; rfl
theorem wlet_eq {α β : Type} {a : α} {f : α → β} : wlet a f = f a := rfl
theorem if_ib {α : Type} {b : Bool} {k : Option α} (h : b = true) : (if b = true then k else none) = k := if_pos h
