/-! STAGE B, 46: the class reads an expression -/
/-- the class's tokens: kinds, places, numbers -/
def zTk (σ : St) (K P V : Nat → Nat) : Prop := (∀ i, i ≤ 400 → σ.1 12 i = nI (K i) ∧ σ.1 13 i = nI (P i) ∧ σ.2 14 i = nL (V i)) ∧ σ.1 12 401 = 0 ∧ ∀ i, K i ≤ 31
/-- what reading an expression may change -/
def zfE (σ σ' : St) : Prop := (∀ c, c ≠ 10 → c ≠ 15 → c ≠ 16 → σ'.1 c = σ.1 c) ∧ σ'.2 = σ.2 ∧ (∀ i, i ≠ 5 → σ'.1 15 i = σ.1 15 i) ∧ ∀ i, i ≠ 2 → i ≠ 3 → i ≠ 4 → σ'.1 10 i = σ.1 10 i
theorem zfE_refl (σ : St) : zfE σ σ := ⟨fun _ _ _ _ => rfl, rfl, fun _ _ => rfl, fun _ _ _ _ => rfl⟩
theorem zfE_trans {a b c : St} (h : zfE a b) (g : zfE b c) : zfE a c := ⟨fun k h1 h2 h3 => (g.1 k h1 h2 h3).trans (h.1 k h1 h2 h3), g.2.1.trans h.2.1, fun i hi => (g.2.2.1 i hi).trans (h.2.2.1 i hi), fun i h1 h2 h3 => (g.2.2.2 i h1 h2 h3).trans (h.2.2.2 i h1 h2 h3)⟩
theorem zfE_10 (σ : St) (i : Nat) (v : Int32) (h : i = 2 ∨ i = 3 ∨ i = 4) : zfE σ (si σ 10 i v) := ⟨fun c h1 _ _ => si_ne h1, rfl, fun j _ => by rw [si_get, if_neg (by omega)], fun j h1 h2 h3 => by rw [si_get, if_neg (by omega)]⟩
theorem zfE_155 (σ : St) (v : Int32) : zfE σ (si σ 15 5 v) := ⟨fun c _ h1 _ => si_ne h1, rfl, fun j h => by rw [si_get, if_neg (by omega)], fun j _ _ _ => by rw [si_get, if_neg (by omega)]⟩
theorem zfE_16 (σ : St) (i : Nat) (v : Int32) : zfE σ (si σ 16 i v) := ⟨fun c _ _ h1 => si_ne h1, rfl, fun j h => by rw [si_get, if_neg (by omega)], fun j _ _ _ => by rw [si_get, if_neg (by omega)]⟩
theorem zTk_E {σ σ' : St} {K P V : Nat → Nat} (h : zfE σ σ') (hT : zTk σ K P V) : zTk σ' K P V := by
  unfold zTk at hT ⊢
  rw [h.1 12 (by omega) (by omega) (by omega), h.1 13 (by omega) (by omega) (by omega), h.2.1]; exact hT
def zAl0 (σ : St) (t : Nat) : Prop := t ≤ 400 ∧ σ.1 10 2 = nI t ∧ σ.1 10 3 = 0
def zDd0 (σ : St) (P : Nat → Nat) (v p : Nat) : Prop := (v = 1 ∨ v = 2) ∧ ((σ.1 10 2 = nI 401 ∧ v = 2 ∧ p = 400) ∨ ∃ t, t ≤ 400 ∧ σ.1 10 2 = nI t ∧ σ.1 10 3 = nI v ∧ σ.1 10 4 = nI (P p))
/-- how far a reading has come -/
def zSt (P : Nat → Nat) (σ σ' : St) (L : Nat) (q : zR) : Prop := zfE σ σ' ∧ ((∃ v p, q = .inl (v, p) ∧ zDd0 σ' P v p) ∨ ∃ t c, q = .inr (t, c) ∧ zAl0 σ' t ∧ σ'.1 15 5 = nI (L + c.length) ∧ (∀ i, i < L → σ'.1 16 i = σ.1 16 i) ∧ CA (σ'.1 16) L c)
def zPass (K P V : Nat → Nat) (g : St → Option St) : Prop := ∀ σ v p, zTk σ K P V → zDd0 σ P v p → ∃ σ', g σ = some σ' ∧ zfE σ σ' ∧ zDd0 σ' P v p
theorem nI_v0 {v : Nat} (h : v = 1 ∨ v = 2) : ¬ nI v = 0 := by rcases h with rfl | rfl <;> decide
theorem C_isNext {σ : St} {K P V : Nat → Nat} {t : Nat} (hT : zTk σ K P V) (hA : zAl0 σ t) {k : Nat} (hk : k < 32) : f_X4_isNext σ (nI k) = some (if K t = k then 1 else 0) := by
  obtain ⟨a1, a2, a3⟩ := hA
  have n1 : ¬ nI t < 0 := nI_pos (by omega)
  have n2 : ¬ (402 : Int32) ≤ nI t := fun z => by have := (nI_leN (a := 402) (by omega) (by omega)).mp z; omega
  have := hT.2.2 t
  unfold f_X4_isNext
  rw [if_pos a3, a2, if_neg n1, if_neg n2, if_ib (ib_t (by omega) (by omega)), nI_clamp (by omega), (hT.1 t a1).1]
  by_cases e : K t = k
  · rw [if_pos e, if_pos (by rw [e])]
  · rw [if_neg e, if_neg (fun z => e ((nI_eqN (by omega) (by omega)).mp z))]
theorem C_isNext_d {σ : St} {K P V : Nat → Nat} {v p : Nat} (hT : zTk σ K P V) (hD : zDd0 σ P v p) {k : Nat} (h0 : k ≠ 0) (hk : k < 32) : f_X4_isNext σ (nI k) = some 0 := by
  obtain ⟨hv, ⟨a1, a2, a3⟩ | ⟨t, b1, b2, b3, b4⟩⟩ := hD
  · unfold f_X4_isNext
    by_cases q : σ.1 10 3 = 0
    · have n0 : ¬ (0 : Int32) = nI k := fun z => h0 ((nI_eqN (a := 0) (by omega) (by omega)).mp z).symm
      rw [if_pos q, a1, if_neg (by decide), if_neg (by decide), if_ib (by decide), nI_clamp (by omega), hT.2.1, if_neg n0]
    · rw [if_neg q]
  · unfold f_X4_isNext
    rw [b3, if_neg (nI_v0 hv)]
theorem C_kind {σ : St} {K P V : Nat → Nat} {t : Nat} (hT : zTk σ K P V) (hA : zAl0 σ t) : f_X4_kind σ = some (nI (K t)) := by
  obtain ⟨a1, a2, a3⟩ := hA
  have n1 : ¬ nI t < 0 := nI_pos (by omega)
  have n2 : ¬ (402 : Int32) ≤ nI t := fun z => by have := (nI_leN (a := 402) (by omega) (by omega)).mp z; omega
  unfold f_X4_kind
  rw [a2, if_neg n1, if_neg n2, if_ib (ib_t (by omega) (by omega)), nI_clamp (by omega), (hT.1 t a1).1]
theorem C_value {σ : St} {K P V : Nat → Nat} {t : Nat} (hT : zTk σ K P V) (hA : zAl0 σ t) : f_X4_value σ = some (nL (V t)) := by
  obtain ⟨a1, a2, a3⟩ := hA
  have n1 : ¬ nI t < 0 := nI_pos (by omega)
  have n2 : ¬ (402 : Int32) ≤ nI t := fun z => by have := (nI_leN (a := 402) (by omega) (by omega)).mp z; omega
  unfold f_X4_value
  rw [a2, if_neg n1, if_neg n2, if_ib (ib_t (by omega) (by omega)), nI_clamp (by omega), (hT.1 t a1).2.2]
theorem zDd0_t {σ : St} {P : Nat → Nat} {v p : Nat} (hD : zDd0 σ P v p) : ∃ t, t ≤ 401 ∧ σ.1 10 2 = nI t := by
  obtain ⟨hv, ⟨a1, a2, a3⟩ | ⟨t, b1, b2, b3, b4⟩⟩ := hD
  · exact ⟨401, Nat.le_refl _, a1⟩
  · exact ⟨t, by omega, b2⟩
theorem C_kind_d {σ : St} {P : Nat → Nat} {v p : Nat} (hD : zDd0 σ P v p) : ∃ k, f_X4_kind σ = some k := by
  obtain ⟨t, h1, h2⟩ := zDd0_t hD
  have n1 : ¬ nI t < 0 := nI_pos (by omega)
  have n2 : ¬ (402 : Int32) ≤ nI t := fun z => by have := (nI_leN (a := 402) (by omega) (by omega)).mp z; omega
  unfold f_X4_kind
  rw [h2, if_neg n1, if_neg n2, if_ib (ib_t (by omega) (by omega))]
  exact ⟨_, rfl⟩
theorem C_value_d {σ : St} {P : Nat → Nat} {v p : Nat} (hD : zDd0 σ P v p) : ∃ k, f_X4_value σ = some k := by
  obtain ⟨t, h1, h2⟩ := zDd0_t hD
  have n1 : ¬ nI t < 0 := nI_pos (by omega)
  have n2 : ¬ (402 : Int32) ≤ nI t := fun z => by have := (nI_leN (a := 402) (by omega) (by omega)).mp z; omega
  unfold f_X4_value
  rw [h2, if_neg n1, if_neg n2, if_ib (ib_t (by omega) (by omega))]
  exact ⟨_, rfl⟩
theorem C_take {σ : St} {P : Nat → Nat} {t L : Nat} (hA : zAl0 σ t) (hL : σ.1 15 5 = nI L) : ∃ σ', f_X4_take σ = some σ' ∧ zSt P σ σ' L (zeat t []) := by
  obtain ⟨a1, a2, a3⟩ := hA
  have n1 : ¬ (400 : Int32) < nI t := fun z => by have := (nI_ltN (a := 400) (by omega) (by omega)).mp z; omega
  refine ⟨si σ 10 2 (nI (t + 1)), ?_, zfE_10 _ _ _ (by omega), ?_⟩
  · unfold f_X4_take
    rw [if_pos a3, a2, if_neg n1, wlet_eq, ← nI_succ]
  · by_cases e : t = 400
    · subst e
      exact Or.inl ⟨2, 400, rfl, Or.inr rfl, Or.inl ⟨by rw [si_get, if_pos ⟨rfl, rfl⟩], rfl, rfl⟩⟩
    · rw [zeat_ne _ e]
      exact Or.inr ⟨t + 1, [], rfl, ⟨by omega, by rw [si_get, if_pos ⟨rfl, rfl⟩], by rw [si_get, if_neg (by omega)]; exact a3⟩, by rw [si_get, if_neg (by omega)]; exact hL, fun i _ => by rw [si_get, if_neg (by omega)], trivial⟩
theorem C_take_d {K P V : Nat → Nat} : zPass K P V f_X4_take := by
  intro σ v p hT hD
  refine ⟨σ, ?_, zfE_refl _, hD⟩
  obtain ⟨hv, ⟨a1, a2, a3⟩ | ⟨t, b1, b2, b3, b4⟩⟩ := hD
  · unfold f_X4_take
    by_cases q : σ.1 10 3 = 0
    · rw [if_pos q, a1, if_pos (by decide)]
    · rw [if_neg q]
  · unfold f_X4_take
    rw [b3, if_neg (nI_v0 hv)]
theorem C_fail {σ : St} {K P V : Nat → Nat} {t v : Nat} (hT : zTk σ K P V) (hA : zAl0 σ t) (hv : v = 1 ∨ v = 2) : ∃ σ', f_X4_fail σ (nI v) = some σ' ∧ zfE σ σ' ∧ zDd0 σ' P v t := by
  obtain ⟨a1, a2, a3⟩ := hA
  have n1 : ¬ nI t < 0 := nI_pos (by omega)
  have n2 : ¬ (402 : Int32) ≤ nI t := fun z => by have := (nI_leN (a := 402) (by omega) (by omega)).mp z; omega
  have e1 : (si σ 10 3 (nI v)).1 10 2 = nI t := by rw [si_get, if_neg (by omega)]; exact a2
  refine ⟨si (si σ 10 3 (nI v)) 10 4 (nI (P t)), ?_, zfE_trans (zfE_10 _ _ _ (by omega)) (zfE_10 _ _ _ (by omega)), hv, Or.inr ⟨t, a1, ?_, ?_, ?_⟩⟩
  · unfold f_X4_fail
    rw [if_pos a3, a2, if_neg n1, if_neg n2, wlet_eq, e1, if_ib (ib_t (by omega) (by omega)), nI_clamp (by omega), si_ne (show 13 ≠ 10 by omega), (hT.1 t a1).2.1, wlet_eq]
  · rw [si_get, if_neg (by omega)]; exact e1
  · rw [si_get, if_neg (by omega), si_get, if_pos ⟨rfl, rfl⟩]
  · rw [si_get, if_pos ⟨rfl, rfl⟩]
theorem C_fail_d {K P V : Nat → Nat} {x : Int32} : zPass K P V (fun σ => f_X4_fail σ x) := by
  intro σ v p hT hD
  obtain ⟨hv, ⟨a1, a2, a3⟩ | ⟨t, b1, b2, b3, b4⟩⟩ := hD
  · by_cases q : σ.1 10 3 = 0
    · have e1 : (si σ 10 3 x).1 10 2 = nI 401 := by rw [si_get, if_neg (by omega)]; exact a1
      refine ⟨_, ?_, zfE_trans (zfE_10 σ 3 x (by omega)) (zfE_10 _ 4 ((si σ 10 3 x).1 13 401) (by omega)), hv, Or.inl ⟨?_, a2, a3⟩⟩
      · unfold f_X4_fail
        dsimp only
        rw [if_pos q, a1, if_neg (by decide), if_neg (by decide), wlet_eq, e1, if_ib (by decide), wlet_eq]
        rfl
      · rw [si_get, if_neg (by omega)]; exact e1
    · refine ⟨σ, ?_, zfE_refl _, hv, Or.inl ⟨a1, a2, a3⟩⟩
      unfold f_X4_fail
      dsimp only
      rw [if_neg q]
  · refine ⟨σ, ?_, zfE_refl _, hv, Or.inr ⟨t, b1, b2, b3, b4⟩⟩
    unfold f_X4_fail
    dsimp only
    rw [b3, if_neg (nI_v0 hv)]
theorem C_expect {σ : St} {K P V : Nat → Nat} {t L k : Nat} (hT : zTk σ K P V) (hA : zAl0 σ t) (hL : σ.1 15 5 = nI L) (hk : k < 32) : ∃ σ', f_X4_expect σ (nI k) = some σ' ∧ zSt P σ σ' L (if K t = k then zeat t [] else .inl (1, t)) := by
  unfold f_X4_expect
  rw [bind_eq (C_isNext hT hA hk)]
  by_cases e : K t = k
  · obtain ⟨σ', h1, h2⟩ := C_take (P := P) hA hL
    rw [if_pos e, if_neg n10, if_pos e]
    exact ⟨σ', by rw [bind_eq h1], h2⟩
  · obtain ⟨σ', h1, h2, h3⟩ := C_fail hT hA (Or.inl rfl)
    rw [if_neg e, if_pos rfl, if_neg e]
    exact ⟨σ', by rw [show (1 : Int32) = nI 1 from rfl, bind_eq h1], h2, Or.inl ⟨1, t, rfl, h3⟩⟩
theorem C_expect_d {K P V : Nat → Nat} {k : Nat} (h0 : k ≠ 0) (hk : k < 32) : zPass K P V (fun σ => f_X4_expect σ (nI k)) := by
  intro σ v p hT hD
  obtain ⟨σ', h1, h2, h3⟩ := C_fail_d (x := 1) σ v p hT hD
  refine ⟨σ', ?_, h2, h3⟩
  unfold f_X4_expect
  dsimp only
  rw [bind_eq (C_isNext_d hT hD h0 hk), if_pos rfl, bind_eq h1]
theorem C_addStep {σ : St} {L : Nat} (hL : σ.1 15 5 = nI L) (h : L < 420) (o v : Nat) : f_X8_addStep σ 15 (nI o) (nI v) = some (nI L, si (si σ 16 L (nI (8 * v + o))) 15 5 (nI (L + 1))) := by
  have n1 : ¬ nI L < 0 := nI_pos (by omega)
  have n2 : ¬ (420 : Int32) ≤ nI L := fun z => by have := (nI_leN (a := 420) (by omega) (by omega)).mp z; omega
  unfold f_X8_addStep
  rw [hL, wlet_eq, if_neg n1, if_neg n2, if_ib (ib_t (by omega) (by omega)), nI_clamp (by omega), wlet_eq, wlet_eq, show (8 : Int32) = nI 8 from rfl, znI_mul, nI_add, si_ne (show 15 ≠ 15 + 1 by omega), hL, ← nI_succ]
theorem C_addStep_any (σ : St) (x y : Int32) : ∃ v σ', f_X8_addStep σ 15 x y = some (v, σ') ∧ zfE σ σ' := by
  unfold f_X8_addStep
  rw [wlet_eq]
  by_cases q1 : σ.1 15 5 < 0
  · rw [if_pos q1]; exact ⟨_, _, rfl, zfE_refl _⟩
  rw [if_neg q1]
  by_cases q2 : (420 : Int32) ≤ σ.1 15 5
  · rw [if_pos q2]; exact ⟨_, _, rfl, zfE_refl _⟩
  rw [if_neg q2]
  obtain ⟨k, k1, k2⟩ := i_nat q1
  rw [k2] at q2 ⊢
  have hk : k < 420 := Classical.byContradiction fun z => q2 ((nI_leN (a := 420) (by omega) (by omega)).mpr (by omega))
  rw [if_ib (ib_t (by omega) (by omega)), wlet_eq, wlet_eq]
  exact ⟨_, _, rfl, zfE_trans (zfE_16 _ _ _) (zfE_155 _ _)⟩
theorem zDd0_E {σ σ' : St} {P : Nat → Nat} {v p : Nat} (h : σ'.1 10 = σ.1 10) (hD : zDd0 σ P v p) : zDd0 σ' P v p := by
  unfold zDd0 at hD ⊢
  rw [h]; exact hD
theorem C_addStep_d (σ : St) (x y : Int32) : ∃ v σ', f_X8_addStep σ 15 x y = some (v, σ') ∧ zfE σ σ' ∧ σ'.1 10 = σ.1 10 := by
  unfold f_X8_addStep
  rw [wlet_eq]
  by_cases q1 : σ.1 15 5 < 0
  · rw [if_pos q1]; exact ⟨_, _, rfl, zfE_refl _, rfl⟩
  rw [if_neg q1]
  by_cases q2 : (420 : Int32) ≤ σ.1 15 5
  · rw [if_pos q2]; exact ⟨_, _, rfl, zfE_refl _, rfl⟩
  rw [if_neg q2]
  obtain ⟨k, k1, k2⟩ := i_nat q1
  rw [k2] at q2 ⊢
  have hk : k < 420 := Classical.byContradiction fun z => q2 ((nI_leN (a := 420) (by omega) (by omega)).mpr (by omega))
  rw [if_ib (ib_t (by omega) (by omega)), wlet_eq, wlet_eq]
  exact ⟨_, _, rfl, zfE_trans (zfE_16 _ _ _) (zfE_155 _ _), by rw [si_ne (by omega), si_ne (by omega)]⟩
/-- one step more is laid -/
theorem zSt_step {P : Nat → Nat} {σ σ' : St} {L t : Nat} {c : List (Nat × Nat)} {o v : Nat} (h : zSt P σ σ' L (.inr (t, c))) (hb : L + c.length < 420) : f_X8_addStep σ' 15 (nI o) (nI v) = some (nI (L + c.length), si (si σ' 16 (L + c.length) (nI (8 * v + o))) 15 5 (nI (L + c.length + 1))) ∧ zSt P σ (si (si σ' 16 (L + c.length) (nI (8 * v + o))) 15 5 (nI (L + c.length + 1))) L (.inr (t, c ++ [(o, v)])) := by
  obtain ⟨h1, ⟨v', p, h2, h3⟩ | ⟨t', c', h2, h3, h4, h5, h6⟩⟩ := h
  · cases h2
  injection h2 with h2; injection h2 with q1 q2
  subst q1; subst q2
  refine ⟨C_addStep h4 hb o v, zfE_trans h1 (zfE_trans (zfE_16 _ _ _) (zfE_155 _ _)), Or.inr ⟨t, c ++ [(o, v)], rfl, ?_, ?_, fun i hi => ?_, ?_⟩⟩
  · unfold zAl0 at h3 ⊢
    rw [si_ne (by omega), si_ne (by omega)]; exact h3
  · rw [si_get, if_pos ⟨rfl, rfl⟩, List.length_append]; rfl
  · rw [si_ne (by omega), si_get, if_neg (by omega)]; exact h5 i hi
  · refine CA_append.mpr ⟨CA_congr (fun i i1 i2 => ?_) h6, ?_, trivial⟩
    · rw [si_ne (by omega), si_get, if_neg (by omega)]
    · rw [si_ne (by omega), si_get, if_pos ⟨rfl, rfl⟩]
def zpre (c : List (Nat × Nat)) (q : zR) : zR := zbd q (fun t c' => .inr (t, c ++ c'))
theorem zSt_pre {P : Nat → Nat} {σ σ1 σ2 : St} {L t : Nat} {c : List (Nat × Nat)} {q : zR} (h : zSt P σ σ1 L (.inr (t, c))) (g : zSt P σ1 σ2 (L + c.length) q) : zSt P σ σ2 L (zpre c q) := by
  obtain ⟨h1, ⟨v', p, h2, h3⟩ | ⟨t', c', h2, h3, h4, h5, h6⟩⟩ := h
  · cases h2
  injection h2 with h2; injection h2 with q1 q2
  subst q1; subst q2
  obtain ⟨g1, ⟨v', p, g2, g3⟩ | ⟨t', c', g2, g3, g4, g5, g6⟩⟩ := g
  · rw [g2]
    exact ⟨zfE_trans h1 g1, Or.inl ⟨v', p, rfl, g3⟩⟩
  · rw [g2]
    refine ⟨zfE_trans h1 g1, Or.inr ⟨t', c ++ c', rfl, g3, ?_, fun i hi => ?_, ?_⟩⟩
    · rw [g4, List.length_append, Nat.add_assoc]
    · rw [g5 i (by omega)]; exact h5 i hi
    · exact CA_append.mpr ⟨CA_congr (fun i i1 i2 => g5 i i2) h6, g6⟩
theorem zSt_dd {P : Nat → Nat} {σ σ1 : St} {L v p : Nat} (h : zSt P σ σ1 L (.inl (v, p))) : zfE σ σ1 ∧ zDd0 σ1 P v p := by
  obtain ⟨h1, ⟨v', p', h2, h3⟩ | ⟨t', c', h2, h3, h4, h5, h6⟩⟩ := h
  · injection h2 with h2; injection h2 with q1 q2
    subst q1; subst q2
    exact ⟨h1, h3⟩
  · cases h2
theorem zSt_al {P : Nat → Nat} {σ σ1 : St} {L t : Nat} {c : List (Nat × Nat)} (h : zSt P σ σ1 L (.inr (t, c))) : zfE σ σ1 ∧ zAl0 σ1 t ∧ σ1.1 15 5 = nI (L + c.length) := by
  obtain ⟨h1, ⟨v', p', h2, h3⟩ | ⟨t', c', h2, h3, h4, h5, h6⟩⟩ := h
  · cases h2
  · injection h2 with h2; injection h2 with q1 q2
    subst q1; subst q2
    exact ⟨h1, h3, h4⟩
theorem zSt_0 {P : Nat → Nat} {σ : St} {L t : Nat} (hA : zAl0 σ t) (hL : σ.1 15 5 = nI L) : zSt P σ σ L (.inr (t, [])) := ⟨zfE_refl _, Or.inr ⟨t, [], rfl, hA, hL, fun _ _ => rfl, trivial⟩⟩
theorem zSt_mkd {P : Nat → Nat} {σ σ1 : St} {L v p : Nat} (h1 : zfE σ σ1) (h2 : zDd0 σ1 P v p) : zSt P σ σ1 L (.inl (v, p)) := ⟨h1, Or.inl ⟨v, p, rfl, h2⟩⟩
/-- what a parser u of the tokens and a method U of the class have in common -/
def zDoes (K P V : Nat → Nat) (u : Nat → zR) (U : St → Option St) : Prop := ∀ σ t L, zTk σ K P V → zAl0 σ t → σ.1 15 5 = nI L → L + (400 - t) < 420 → ∃ σ', U σ = some σ' ∧ zSt P σ σ' L (u t)
def zLen (u : Nat → zR) : Prop := ∀ t, t ≤ 400 → ∀ t' c, u t = .inr (t', c) → t < t' ∧ t' ≤ 400 ∧ c.length ≤ t' - t
/-- a step and a token taken -/
theorem C_stepTake {σ : St} {P : Nat → Nat} {t L : Nat} (hA : zAl0 σ t) (hL : σ.1 15 5 = nI L) (h : L < 420) (o v : Nat) : ∃ σ', (bnd2 (f_X8_addStep σ 15 (nI o) (nI v)) fun _ σ26 => Option.bind (f_X4_take σ26) fun σ28 => some σ28) = some σ' ∧ zSt P σ σ' L (zeat t [(o, v)]) := by
  obtain ⟨a1, a2⟩ := zSt_step (o := o) (v := v) (zSt_0 (P := P) hA hL) h
  obtain ⟨b1, b2, b3⟩ := zSt_al a2
  obtain ⟨σ', c1, c2⟩ := C_take (P := P) b2 b3
  refine ⟨σ', ?_, ?_⟩
  · have a1 : f_X8_addStep σ 15 (nI o) (nI v) = _ := a1
    rw [bnd2_eq a1, bind_eq c1]
  · have := zSt_pre a2 c2
    have e : zpre ([] ++ [(o, v)]) (zeat t []) = zeat t [(o, v)] := by
      by_cases e : t = 400
      · rw [e]; rfl
      · rw [zeat_ne _ e, zeat_ne _ e]; rfl
    rwa [e] at this
theorem zk23 : ∀ k, k < 32 → ((nI k - (23 : Int32) < 0) ↔ k < 23) ∧ ¬ (9 : Int32) ≤ nI k - (23 : Int32) ∧ (23 ≤ k → nI k - (23 : Int32) = nI (k - 23)) := by decide
theorem C_unit {K P V : Nat → Nat} {rs : St → Int32 → Option St} {d : Nat} {S : Nat → zR} (hd : d ≤ 6) (hS : d = 0 ∨ zDoes K P V S (fun σ => rs σ (nI (6 - d) + 1))) (hSl : d = 0 ∨ zLen S) (hSd : d = 0 ∨ zPass K P V (fun σ => rs σ (nI (6 - d) + 1))) : zDoes K P V (zUn K V d S) (fun σ => f_X4_readUnit rs σ (nI (6 - d))) := by
  intro σ t L hT hA hL hb
  have ht := hA.1
  have hk := hT.2.2 t
  obtain ⟨k1, k2, k3⟩ := zk23 (K t) (by omega)
  unfold f_X4_readUnit zUn
  dsimp only
  rw [bind_eq (C_kind hT hA), wlet_eq, show (3 : Int32) = nI 3 from rfl, bind_eq (C_isNext hT hA (by omega))]
  by_cases q3 : K t = 3
  · rw [if_pos q3, if_neg n10, if_pos q3, bind_eq (C_value hT hA), nL_I]
    exact C_stepTake hA hL (by omega) 0 (V t)
  rw [if_neg q3, if_pos rfl, if_neg q3, wlet_eq]
  by_cases q23 : 23 ≤ K t
  · have n1 : ¬ nI (K t) - (23 : Int32) < 0 := fun z => by have := k1.mp z; omega
    rw [if_neg n1, if_neg k2, k3 q23, if_pos q23]
    exact C_stepTake hA hL (by omega) 1 (K t - 23)
  rw [if_pos (k1.mpr (by omega)), if_neg q23, show (11 : Int32) = nI 11 from rfl, bind_eq (C_isNext hT hA (by omega))]
  by_cases q11 : K t = 11
  · rw [if_pos q11, if_neg n10, if_pos q11]
    by_cases q0 : d = 0
    · have n1 : ¬ nI (6 - d) < (6 : Int32) := fun z => by have := (nI_ltN (b := 6) (by omega) (by omega)).mp z; omega
      obtain ⟨σ', h1, h2, h3⟩ := C_fail hT hA (Or.inr rfl)
      rw [if_neg n1, if_pos q0]
      exact ⟨σ', by rw [show (2 : Int32) = nI 2 from rfl, bind_eq h1], zSt_mkd h2 h3⟩
    · have n1 : nI (6 - d) < (6 : Int32) := (nI_ltN (b := 6) (by omega) (by omega)).mpr (by omega)
      have hS := hS.resolve_left q0
      have hSl := hSl.resolve_left q0
      have hSd := hSd.resolve_left q0
      obtain ⟨σ1, h1, h2⟩ := C_take (P := P) hA hL
      rw [if_pos n1, if_neg q0, bind_eq h1]
      have T1 := zTk_E h2.1 hT
      by_cases e : t = 400
      · subst e
        rw [zeat_400] at h2 ⊢
        obtain ⟨f1, d1⟩ := zSt_dd h2
        obtain ⟨σ2, g1, g2, g3⟩ := hSd σ1 _ _ T1 d1
        obtain ⟨σ3, i1, i2, i3⟩ := C_expect_d (k := 12) (by omega) (by omega) σ2 _ _ (zTk_E g2 T1) g3
        refine ⟨σ3, ?_, zSt_mkd (zfE_trans f1 (zfE_trans g2 i2)) i3⟩
        rw [bind_eq g1, show (12 : Int32) = nI 12 from rfl, bind_eq i1]
      · rw [zeat_ne _ e] at h2 ⊢
        rw [zbd_r]
        dsimp only
        obtain ⟨f1, d1, d2⟩ := zSt_al h2
        have d2 : σ1.1 15 5 = nI L := d2
        obtain ⟨σ2, g1, g2⟩ := hS σ1 (t + 1) L T1 d1 d2 (by omega)
        have g1 : rs σ1 (nI (6 - d) + 1) = some σ2 := g1
        have T2 := zTk_E g2.1 T1
        rw [bind_eq g1]
        have hpre := zSt_pre h2 g2
        cases hq : S (t + 1) with
        | inl x =>
          obtain ⟨v, p⟩ := x
          rw [hq] at hpre
          obtain ⟨f2, d3⟩ := zSt_dd hpre
          obtain ⟨σ3, i1, i2, i3⟩ := C_expect_d (k := 12) (by omega) (by omega) σ2 _ _ T2 d3
          refine ⟨σ3, ?_, zSt_mkd (zfE_trans f2 i2) i3⟩
          rw [show (12 : Int32) = nI 12 from rfl, bind_eq i1]
        | inr x =>
          obtain ⟨t2, c2⟩ := x
          rw [hq] at hpre
          have hpre : zSt P σ σ2 L (.inr (t2, c2)) := hpre
          obtain ⟨f2, d3, d4⟩ := zSt_al hpre
          obtain ⟨σ3, i1, i2⟩ := C_expect (k := 12) T2 d3 d4 (by omega)
          have hp2 := zSt_pre hpre i2
          rw [zbd_r]
          dsimp only
          refine ⟨σ3, by rw [show (12 : Int32) = nI 12 from rfl, bind_eq i1], ?_⟩
          have e3 : zpre c2 (if K t2 = 12 then zeat t2 [] else .inl (1, t2)) = if K t2 = 12 then zeat t2 c2 else .inl (1, t2) := by
            by_cases q12 : K t2 = 12
            · rw [if_pos q12, if_pos q12]
              by_cases e4 : t2 = 400
              · rw [e4]; rfl
              · rw [zeat_ne _ e4, zeat_ne _ e4]
                show (.inr (t2 + 1, c2 ++ []) : zR) = _
                rw [List.append_nil]
            · rw [if_neg q12, if_neg q12]; rfl
          rwa [e3] at hp2
  · obtain ⟨σ', h1, h2, h3⟩ := C_fail hT hA (Or.inl rfl)
    rw [if_neg q11, if_pos rfl, if_neg q11]
    exact ⟨σ', by rw [show (1 : Int32) = nI 1 from rfl, bind_eq h1], zSt_mkd h2 h3⟩
theorem C_unit_d {K P V : Nat → Nat} {rs : St → Int32 → Option St} {x : Int32} : zPass K P V (fun σ => f_X4_readUnit rs σ x) := by
  intro σ v p hT hD
  obtain ⟨k, hk⟩ := C_kind_d hD
  unfold f_X4_readUnit
  dsimp only
  rw [bind_eq hk, wlet_eq, show (3 : Int32) = nI 3 from rfl, bind_eq (C_isNext_d hT hD (by omega) (by omega)), if_pos rfl, wlet_eq]
  obtain ⟨σ1, h1, h2, h3⟩ := C_fail_d (x := 1) σ v p hT hD
  have h1 : f_X4_fail σ 1 = some σ1 := h1
  have hF : ∃ σ', (Option.bind (f_X4_isNext σ (11 : Int32)) fun v9 => if v9 = 0 then (Option.bind (f_X4_fail σ (1 : Int32)) fun σ21 => some σ21) else (if x < (6 : Int32) then (Option.bind (f_X4_take σ) fun σ13 => Option.bind (rs σ13 (x + (1 : Int32))) fun σ15 => Option.bind (f_X4_expect σ15 (12 : Int32)) fun σ17 => some σ17) else (Option.bind (f_X4_fail σ (2 : Int32)) fun σ19 => some σ19))) = some σ' ∧ zfE σ σ' ∧ zDd0 σ' P v p := by
    refine ⟨σ1, ?_, h2, h3⟩
    rw [show (11 : Int32) = nI 11 from rfl, bind_eq (C_isNext_d hT hD (by omega) (by omega)), if_pos rfl, bind_eq h1]
  by_cases q1 : k - (23 : Int32) < 0
  · rw [if_pos q1]; exact hF
  rw [if_neg q1]
  by_cases q2 : (9 : Int32) ≤ k - (23 : Int32)
  · rw [if_pos q2]; exact hF
  rw [if_neg q2]
  obtain ⟨w, σ2, g1, g2, g3⟩ := C_addStep_d σ (1 : Int32) (k - (23 : Int32))
  obtain ⟨σ3, i1, i2, i3⟩ := C_take_d σ2 v p (zTk_E g2 hT) (zDd0_E g3 hD)
  exact ⟨σ3, by rw [bnd2_eq g1, bind_eq i1], zfE_trans g2 i2, i3⟩
/-- the loop of a level in the class -/
def zPg (k1 k2 s1 s2 : Int32) (U : St → Option St) : St × Int32 → Option ((St × Int32) ⊕ (St)) :=
  un2 (fun (σ7_3 : St) (x2_7_3 : Int32) => if (400 : Int32) ≤ x2_7_3 then (some (.inr σ7_3)) else (Option.bind (f_X4_isNext σ7_3 k1) fun v6 => wlet (fun (_ : Unit) => (Option.bind (f_X4_isNext σ7_3 k1) fun v9 => wlet (fun (s0_46_10 : Int32) => (Option.bind (f_X4_take σ7_3) fun σ12 => Option.bind (U σ12) fun σ14 => bnd2 (f_X8_addStep σ14 15 s0_46_10 (0 : Int32)) fun v16 σ17 => wlet (x2_7_3 + (1 : Int32)) fun v18 => some (.inl (σ17, v18)) : Option ((St × Int32) ⊕ (St)))) fun k46_10 => if v9 = 0 then (k46_10 s1) else (k46_10 s2) : Option ((St × Int32) ⊕ (St)))) fun k32_7 => if v6 = 0 then (Option.bind (f_X4_isNext σ7_3 k2) fun v22 => if v22 = 0 then (some (.inr σ7_3)) else (k32_7 ())) else (k32_7 ())))
theorem C_loop {K P V : Nat → Nat} {a b oa ob : Nat} {u : Nat → zR} {U : St → Option St} (ha : a ≠ 0 ∧ a < 32) (hb : b ≠ 0 ∧ b < 32) (hU : zDoes K P V u U) (hl : zLen u) (hd : zPass K P V U) {σ0 σ1 : St} {L : Nat} (hT : zTk σ0 K P V) (Q : zR) (hS : (∃ t c, zSt P σ0 σ1 L (.inr (t, c)) ∧ L + c.length + (400 - t) < 420 ∧ zQl K a b oa ob u 400 t c = Q) ∨ ∃ v p, zSt P σ0 σ1 L (.inl (v, p)) ∧ Q = .inl (v, p)) : ∃ σ', lp (zPg (nI a) (nI b) (nI ob) (nI oa) U) fuel (σ1, 0) = some σ' ∧ zSt P σ0 σ' L Q := by
  refine zinv (st := zPg (nI a) (nI b) (nI ob) (nI oa) U) (s0 := (σ1, 0)) (fun i s => s.2 = nI i ∧ ((∃ t c, zSt P σ0 s.1 L (.inr (t, c)) ∧ L + c.length + (400 - t) < 420 ∧ zQl K a b oa ob u (400 - i) t c = Q) ∨ ∃ v p, zSt P σ0 s.1 L (.inl (v, p)) ∧ Q = .inl (v, p))) (fun r => zSt P σ0 r L Q) 400 (by omega) ⟨rfl, hS⟩ ?_ ?_
  · rintro i ⟨σ, y⟩ hi ⟨h1, h2⟩
    have h1 : y = nI i := h1
    subst h1
    have n1 : ¬ (400 : Int32) ≤ nI i := fun z => by have := (nI_leN (a := 400) (by omega) (by omega)).mp z; omega
    rcases h2 with ⟨t, c, h2, h3, h4⟩ | ⟨v, p, h2, h3⟩
    · have h2 : zSt P σ0 σ L (.inr (t, c)) := h2
      obtain ⟨f1, A1, L1⟩ := zSt_al h2
      have T1 := zTk_E f1 hT
      have ht := A1.1
      rw [show 400 - i = (400 - (i + 1)) + 1 by omega, zQl] at h4
      by_cases q : K t = a ∨ K t = b
      · rw [if_pos q] at h4
        have body : ∀ o, (if K t = a then oa else ob) = o → ∃ σ', (Option.bind (f_X4_take σ) fun σ12 => Option.bind (U σ12) fun σ14 => bnd2 (f_X8_addStep σ14 15 (nI o) (0 : Int32)) fun v16 σ17 => wlet (nI i + (1 : Int32)) fun v18 => (some (.inl (σ17, v18)) : Option ((St × Int32) ⊕ (St)))) = some (.inl (σ', nI (i + 1))) ∧ ((∃ t c, zSt P σ0 σ' L (.inr (t, c)) ∧ L + c.length + (400 - t) < 420 ∧ zQl K a b oa ob u (400 - (i + 1)) t c = Q) ∨ ∃ v p, zSt P σ0 σ' L (.inl (v, p)) ∧ Q = .inl (v, p)) := by
          intro o ho
          obtain ⟨σ2, t1, t2⟩ := C_take (P := P) A1 L1
          have T2 := zTk_E t2.1 T1
          have hp := zSt_pre h2 t2
          rw [bind_eq t1]
          by_cases e : t = 400
          · subst e
            rw [zeat_400] at hp h4
            obtain ⟨f2, d2⟩ := zSt_dd hp
            obtain ⟨σ3, g1, g2, g3⟩ := hd σ2 _ _ T2 d2
            obtain ⟨w, σ4, i1, i2, i3⟩ := C_addStep_d σ3 (nI o) 0
            refine ⟨σ4, by rw [bind_eq g1, bnd2_eq i1, wlet_eq, nI_succ i], Or.inr ⟨2, 400, zSt_mkd (zfE_trans f2 (zfE_trans g2 i2)) (zDd0_E i3 g3), h4.symm⟩⟩
          · rw [zeat_ne _ e] at hp h4
            have hp : zSt P σ0 σ2 L (.inr (t + 1, c ++ [])) := hp
            rw [List.append_nil] at hp
            rw [zbd_r] at h4
            dsimp only at h4
            obtain ⟨f2, A2, L2⟩ := zSt_al hp
            obtain ⟨σ3, g1, g2⟩ := hU σ2 (t + 1) (L + c.length) T2 A2 L2 (by omega)
            have hp3 := zSt_pre hp g2
            rw [bind_eq g1]
            cases hq : u (t + 1) with
            | inl x =>
              obtain ⟨v, p⟩ := x
              rw [hq] at hp3 h4
              obtain ⟨f3, d3⟩ := zSt_dd (show zSt P σ0 σ3 L (.inl (v, p)) from hp3)
              obtain ⟨w, σ4, i1, i2, i3⟩ := C_addStep_d σ3 (nI o) 0
              exact ⟨σ4, by rw [bnd2_eq i1, wlet_eq, nI_succ i], Or.inr ⟨v, p, zSt_mkd (zfE_trans f3 i2) (zDd0_E i3 d3), h4.symm⟩⟩
            | inr x =>
              obtain ⟨t3, c3⟩ := x
              rw [hq] at hp3 h4
              have hp3 : zSt P σ0 σ3 L (.inr (t3, c ++ c3)) := hp3
              rw [zbd_r] at h4
              dsimp only at h4
              obtain ⟨l1, l2, l3⟩ := hl (t + 1) (by omega) t3 c3 hq
              have hlen : (c ++ c3).length = c.length + c3.length := List.length_append
              obtain ⟨i1, i2⟩ := zSt_step (o := o) (v := 0) hp3 (by omega)
              refine ⟨_, by rw [show (0 : Int32) = nI 0 from rfl, bnd2_eq i1, wlet_eq, nI_succ i], Or.inl ⟨t3, _, i2, ?_, by rw [← ho]; exact h4⟩⟩
              rw [List.length_append, hlen]
              show L + (c.length + c3.length + 1) + _ < 420
              omega
        unfold zPg
        dsimp only [un2]
        rw [if_neg n1, bind_eq (C_isNext T1 A1 ha.2), wlet_eq]
        by_cases qa : K t = a
        · obtain ⟨σ', b1, b2⟩ := body oa (by rw [if_pos qa])
          rw [if_pos qa, if_neg n10]
          dsimp only
          rw [bind_eq (C_isNext T1 A1 ha.2), if_pos qa, wlet_eq, if_neg n10]
          exact Or.inl ⟨_, b1, rfl, b2⟩
        · obtain ⟨σ', b1, b2⟩ := body ob (by rw [if_neg qa])
          rw [if_neg qa, if_pos rfl, bind_eq (C_isNext T1 A1 hb.2), if_pos (q.resolve_left qa), if_neg n10]
          dsimp only
          rw [bind_eq (C_isNext T1 A1 ha.2), if_neg qa, wlet_eq, if_pos rfl]
          exact Or.inl ⟨_, b1, rfl, b2⟩
      · rw [if_neg q] at h4
        refine Or.inr ⟨σ, ?_, by rw [← h4]; exact h2⟩
        unfold zPg
        dsimp only [un2]
        rw [if_neg n1, bind_eq (C_isNext T1 A1 ha.2), wlet_eq, if_neg (fun z => q (Or.inl z)), if_pos rfl, bind_eq (C_isNext T1 A1 hb.2), if_neg (fun z => q (Or.inr z)), if_pos rfl]
    · have h2 : zSt P σ0 σ L (.inl (v, p)) := h2
      obtain ⟨f1, D1⟩ := zSt_dd h2
      have T1 := zTk_E f1 hT
      refine Or.inr ⟨σ, ?_, by rw [h3]; exact h2⟩
      unfold zPg
      dsimp only [un2]
      rw [if_neg n1, bind_eq (C_isNext_d T1 D1 ha.1 ha.2), wlet_eq, if_pos rfl, bind_eq (C_isNext_d T1 D1 hb.1 hb.2), if_pos rfl]
  · rintro ⟨σ, y⟩ ⟨h1, h2⟩
    have h1 : y = nI 400 := h1
    subst h1
    refine ⟨σ, ?_, ?_⟩
    · unfold zPg
      dsimp only [un2]
      rw [if_pos (by decide)]
    · rcases h2 with ⟨t, c, h2, h3, h4⟩ | ⟨v, p, h2, h3⟩
      · rw [← h4]; exact h2
      · rw [h3]; exact h2
theorem C_level {K P V : Nat → Nat} {a b oa ob : Nat} {u : Nat → zR} {U : St → Option St} (ha : a ≠ 0 ∧ a < 32) (hb : b ≠ 0 ∧ b < 32) (hU : zDoes K P V u U) (hl : zLen u) (hd : zPass K P V U) : zDoes K P V (fun t => zbd (u t) fun t1 c => zQl K a b oa ob u 400 t1 c) (fun σ => Option.bind (U σ) fun σ2 => Option.bind (lp (zPg (nI a) (nI b) (nI ob) (nI oa) U) fuel (σ2, 0)) fun σ => some σ) := by
  intro σ t L hT hA hL hbu
  obtain ⟨σ1, h1, h2⟩ := hU σ t L hT hA hL hbu
  dsimp only
  rw [bind_eq h1]
  cases hq : u t with
  | inl x =>
    obtain ⟨v, p⟩ := x
    rw [hq] at h2
    obtain ⟨σ2, g1, g2⟩ := C_loop (oa := oa) (ob := ob) ha hb hU hl hd hT (.inl (v, p)) (Or.inr ⟨v, p, h2, rfl⟩)
    exact ⟨σ2, by rw [bind_eq g1], g2⟩
  | inr x =>
    obtain ⟨t2, c2⟩ := x
    rw [hq] at h2
    obtain ⟨l1, l2, l3⟩ := hl t hA.1 t2 c2 hq
    obtain ⟨σ2, g1, g2⟩ := C_loop (oa := oa) (ob := ob) ha hb hU hl hd hT (zQl K a b oa ob u 400 t2 c2) (Or.inl ⟨t2, c2, h2, by omega, rfl⟩)
    exact ⟨σ2, by rw [bind_eq g1], g2⟩
theorem C_level_d {K P V : Nat → Nat} {a b : Nat} {s1 s2 : Int32} {U : St → Option St} (ha : a ≠ 0 ∧ a < 32) (hb : b ≠ 0 ∧ b < 32) (hd : zPass K P V U) : zPass K P V (fun σ => Option.bind (U σ) fun σ2 => Option.bind (lp (zPg (nI a) (nI b) s1 s2 U) fuel (σ2, 0)) fun σ => some σ) := by
  intro σ v p hT hD
  obtain ⟨σ1, h1, h2, h3⟩ := hd σ v p hT hD
  refine ⟨σ1, ?_, h2, h3⟩
  have T1 := zTk_E h2 hT
  dsimp only
  rw [bind_eq h1]
  refine (bind_eq (zrun (st := zPg (nI a) (nI b) s1 s2 U) (r := σ1) (fun _ => (σ1, 0)) 0 (by omega) rfl (fun t ht => absurd ht (Nat.not_lt_zero _)) ?_)).trans rfl
  unfold zPg
  dsimp only [un2]
  rw [if_neg (by decide), bind_eq (C_isNext_d T1 h3 ha.1 ha.2), wlet_eq, if_pos rfl, bind_eq (C_isNext_d T1 h3 hb.1 hb.2), if_pos rfl]
theorem zLen_Gd {K : Nat → Nat} {u : Nat → zR} {H : Nat} (h : ∀ t, t ≤ 400 → zGd K H t (u t)) : zLen u := fun t ht t' c hq => by
  obtain ⟨a1, a2, a3, a4, a5⟩ := (h t ht).2 t' c hq
  exact ⟨a1, a2, a3⟩
theorem C_sum {K P V : Nat → Nat} {rs : St → Int32 → Option St} {d H : Nat} {S : Nat → zR} (hd : d ≤ 6) (hV : ∀ j, K j = 3 → V j ≤ 9999) (hK : ∀ j, K j ≤ 31) (hH : 1 ≤ H) (hG : d = 0 ∨ ∀ t, t ≤ 400 → zGd K H t (S t)) (hS : d = 0 ∨ zDoes K P V S (fun σ => rs σ (nI (6 - d) + 1))) (hSd : d = 0 ∨ zPass K P V (fun σ => rs σ (nI (6 - d) + 1))) : zDoes K P V (zSm K (zPr K (zUn K V d S))) (fun σ => f_X4_readSum rs σ (nI (6 - d))) ∧ zPass K P V (fun σ => f_X4_readSum rs σ (nI (6 - d))) := by
  have gU := zGd_Un (d := d) (S := S) hK hV hH hG
  have gP : ∀ t, t ≤ 400 → zGd K (H + 1) t (zPr K (zUn K V d S) t) := fun t ht => zGd_bd (gU t ht) fun t' c w1 w2 w3 w4 w5 => zGd_Ql (by omega) (by omega) (by omega) (by omega) gU 400 t t' c w1 w2 w3 w4 (okX_mono w5 (by omega))
  have dU := C_unit (rs := rs) (P := P) hd hS (hG.imp id fun h => zLen_Gd h) hSd
  have pU : zPass K P V (fun σ => f_X4_readUnit rs σ (nI (6 - d))) := C_unit_d
  have dP := C_level (a := 8) (b := 9) (oa := 4) (ob := 5) (by omega) (by omega) dU (zLen_Gd gU) pU
  have pP := C_level_d (a := 8) (b := 9) (s1 := nI 5) (s2 := nI 4) (by omega) (by omega) pU
  exact ⟨C_level (a := 6) (b := 7) (oa := 2) (ob := 3) (by omega) (by omega) dP (zLen_Gd gP) pP, C_level_d (a := 6) (b := 7) (s1 := nI 3) (s2 := nI 2) (by omega) (by omega) pP⟩
theorem C_readSum_all {K P V : Nat → Nat} (hV : ∀ j, K j = 3 → V j ≤ 9999) (hK : ∀ j, K j ≤ 31) : ∀ d, d ≤ 6 → zDoes K P V (zSd K V d) (fun σ => fR_readSum (d + 2) σ (nI (6 - d))) ∧ zPass K P V (fun σ => fR_readSum (d + 2) σ (nI (6 - d))) := by
  intro d
  induction d with
  | zero => intro hd; exact C_sum (H := 1) (rs := fR_readSum 1) hd hV hK (by omega) (Or.inl rfl) (Or.inl rfl) (Or.inl rfl)
  | succ d ih =>
    intro hd
    obtain ⟨h1, h2⟩ := ih (by omega)
    have e : nI (6 - (d + 1)) + 1 = nI (6 - d) := by rw [← nI_succ, show 6 - (d + 1) + 1 = 6 - d by omega]
    refine C_sum (H := 3 + 2 * d) (rs := fR_readSum (d + 2)) hd hV hK (by omega) (Or.inr (zGd_Sd hK hV d)) (Or.inr ?_) (Or.inr ?_)
    · rw [e]; exact h1
    · rw [e]; exact h2
/-- an expression of a law -/
theorem C_readSum {K P V : Nat → Nat} (hV : ∀ j, K j = 3 → V j ≤ 9999) (hK : ∀ j, K j ≤ 31) : zDoes K P V (zSd K V 6) (fun σ => fR_readSum 8 σ 0) ∧ zPass K P V (fun σ => fR_readSum 8 σ 0) := C_readSum_all hV hK 6 (Nat.le_refl _)
