/-! STAGE B, 60: the plain text in the class -/
def T0 : Tx := (0, fun _ => 0, fun _ => 0, 0, 0, fun k => ([], dflt k))
theorem T0_ok : TxOK T0 := by
  refine ⟨by decide, fun c hc => absurd hc (Nat.not_lt_zero _), by decide, by decide, fun k hk => ?_⟩
  show okR (dflt k) 0
  unfold dflt
  by_cases h0 : k = 0
  · rw [if_pos h0]; simp [okR]
  · rw [if_neg h0]
    by_cases h1 : k = 1
    · rw [if_pos h1]; simp [okR]
    · rw [if_neg h1]
      by_cases h2 : k = 2
      · rw [if_pos h2]; simp [okR]
      · rw [if_neg h2]; simp [okR]
/-- a text of the class being filled -/
def rcl (o : Nat) (σ0 σ : St) (l : List (Nat × Nat)) (st : List (Nat × Nat)) : Prop := σ.1 o 5 = nI l.length ∧ (∀ c, c ≠ o → c ≠ o + 1 → c ≠ o + 2 → σ.1 c = σ0.1 c) ∧ σ.2 = σ0.2 ∧ (∀ i, (i < 5 ∨ 8 < i) → σ.1 o i = σ0.1 o i) ∧ (σ.1 o 6 = 0 ∧ σ.1 o 7 = 0 ∧ σ.1 o 8 = 0) ∧ CA (σ.1 (o + 1)) 0 l ∧ ∀ x, x ∈ st → σ.1 (o + 2) x.1 = nI x.2
theorem rcl_add {o : Nat} {σ0 σ : St} {l st : List (Nat × Nat)} (h : rcl o σ0 σ l st) (hl : l.length < 420) (x v : Nat) : ∃ σ', f_X8_addStep σ o (nI x) (nI v) = some (nI l.length, σ') ∧ rcl o σ0 σ' (l ++ [(x, v)]) st := by
  obtain ⟨h1, h2, h3, h4, h5, h6, h7⟩ := h
  have n1 : ¬ nI l.length < 0 := nI_pos (by omega)
  have n2 : ¬ (420 : Int32) ≤ nI l.length := fun z => by have := (nI_leN (a := 420) (by omega) (by omega)).mp z; omega
  refine ⟨si (si σ (o + 1) l.length (nI (8 * v + x))) o 5 (nI (l.length + 1)), ?_, ?_, fun c c1 c2 c3 => by rw [si_ne c1, si_ne c2]; exact h2 c c1 c2 c3, h3, fun i hi => by rw [si_get, if_neg (by omega), si_ne (by omega)]; exact h4 i hi, ⟨by rw [si_get, if_neg (by omega), si_ne (by omega)]; exact h5.1, by rw [si_get, if_neg (by omega), si_ne (by omega)]; exact h5.2.1, by rw [si_get, if_neg (by omega), si_ne (by omega)]; exact h5.2.2⟩, ?_, fun y hy => by rw [si_ne (by omega), si_ne (by omega)]; exact h7 y hy⟩
  · unfold f_X8_addStep
    rw [h1, wlet_eq, if_neg n1, if_neg n2, if_ib (ib_t (by omega) (by omega)), nI_clamp (by omega), wlet_eq, wlet_eq, show (8 : Int32) = nI 8 from rfl, znI_mul, nI_add, si_ne (show o ≠ o + 1 by omega), h1, ← nI_succ]
  · rw [si_get, if_pos ⟨rfl, rfl⟩, List.length_append]; rfl
  · refine CA_append.mpr ⟨CA_congr (fun i i1 i2 => by rw [si_ne (by omega), si_get, if_neg (by omega)]) h6, ?_, trivial⟩
    rw [si_ne (by omega), si_get, if_pos ⟨rfl, by omega⟩]
theorem rcl_beg {o : Nat} {σ0 σ : St} {l st : List (Nat × Nat)} (h : rcl o σ0 σ l st) {k : Nat} (hk : k < 4) (hst : ∀ x, x ∈ st → x.1 ≠ k) : ∃ σ', f_X8_beginLaw σ o (nI k) = some σ' ∧ rcl o σ0 σ' l ((k, l.length) :: st) := by
  obtain ⟨h1, h2, h3, h4, h5, h6, h7⟩ := h
  have nk1 : ¬ nI k < 0 := nI_pos (by omega)
  have nk2 : ¬ (4 : Int32) ≤ nI k := fun z => by have := (nI_leN (a := 4) (by omega) (by omega)).mp z; omega
  refine ⟨si σ (o + 2) k (nI l.length), ?_, by rw [si_ne (by omega)]; exact h1, fun c c1 c2 c3 => by rw [si_ne c3]; exact h2 c c1 c2 c3, h3, fun i hi => by rw [si_ne (by omega)]; exact h4 i hi, by rw [si_ne (by omega)]; exact h5, by rw [si_ne (by omega)]; exact h6, fun y hy => ?_⟩
  · unfold f_X8_beginLaw
    rw [if_neg nk1, if_neg nk2, if_ib (ib_t (by omega) (by omega)), nI_clamp (by omega), h1, wlet_eq]
  · rcases List.mem_cons.mp hy with rfl | hy
    · rw [si_get, if_pos ⟨rfl, rfl⟩]
    · rw [si_get, if_neg (fun z => hst y hy z.2)]; exact h7 y hy
theorem rcl_share {o : Nat} {σ0 σ : St} {l st : List (Nat × Nat)} (h : rcl o σ0 σ l st) (hl : l.length < 416) (v : Nat) : ∃ σ', f_X8_addShareOfDeed σ o (nI v) = some σ' ∧ rcl o σ0 σ' (l ++ [(1, 0)] ++ [(0, v)] ++ [(5, 0)] ++ [(7, 0)]) st := by
  obtain ⟨σ1, a1, a2⟩ := rcl_add h (by omega) 1 0
  obtain ⟨σ2, b1, b2⟩ := rcl_add a2 (by rw [List.length_append, List.length_cons, List.length_nil]; omega) 0 v
  obtain ⟨σ3, c1, c2⟩ := rcl_add b2 (by rw [List.length_append, List.length_append, List.length_cons, List.length_nil, List.length_cons, List.length_nil]; omega) 5 0
  obtain ⟨σ4, d1, d2⟩ := rcl_add c2 (by simp only [List.length_append, List.length_cons, List.length_nil]; omega) 7 0
  refine ⟨σ4, ?_, d2⟩
  unfold f_X8_addShareOfDeed
  rw [show (1 : Int32) = nI 1 from rfl, show (0 : Int32) = nI 0 from rfl, show (5 : Int32) = nI 5 from rfl, show (7 : Int32) = nI 7 from rfl, bnd2_eq a1, bnd2_eq b1, bnd2_eq c1, bnd2_eq d1]
theorem C_clear (σ : St) (o : Nat) : ∃ σ', f_X8_clear σ o = some σ' ∧ TxC σ' o T0 ∧ σ'.1 o 5 = nI 12 ∧ (∀ c, c ≠ o → c ≠ o + 1 → c ≠ o + 2 → σ'.1 c = σ.1 c) ∧ σ'.2 = σ.2 ∧ (∀ i, (i < 5 ∨ 8 < i) → σ'.1 o i = σ.1 o i) := by
  have r0 : rcl o σ (si (si (si (si σ o 5 0) o 6 0) o 7 0) o 8 0) [] [] := by
    refine ⟨by rw [si_get, if_neg (by omega), si_get, if_neg (by omega), si_get, if_neg (by omega), si_get, if_pos ⟨rfl, rfl⟩]; rfl, fun c h1 _ _ => by rw [si_ne h1, si_ne h1, si_ne h1, si_ne h1], rfl, fun i hi => by rw [si_get, if_neg (by omega), si_get, if_neg (by omega), si_get, if_neg (by omega), si_get, if_neg (by omega)], ⟨by rw [si_get, if_neg (by omega), si_get, if_neg (by omega), si_get, if_pos ⟨rfl, rfl⟩], by rw [si_get, if_neg (by omega), si_get, if_pos ⟨rfl, rfl⟩], by rw [si_get, if_pos ⟨rfl, rfl⟩]⟩, trivial, fun x hx => absurd hx List.not_mem_nil⟩
  obtain ⟨s1, a1, b1⟩ := rcl_beg r0 (k := 0) (by omega) (fun x hx => absurd hx List.not_mem_nil)
  obtain ⟨s2, a2, b2⟩ := rcl_add b1 (by decide) 1 0
  obtain ⟨s3, a3, b3⟩ := rcl_add b2 (by decide) 7 0
  obtain ⟨s4, a4, b4⟩ := rcl_beg b3 (k := 1) (by omega) (by decide)
  obtain ⟨s5, a5, b5⟩ := rcl_share b4 (by decide) 2
  obtain ⟨s6, a6, b6⟩ := rcl_beg b5 (k := 2) (by omega) (by decide)
  obtain ⟨s7, a7, b7⟩ := rcl_share b6 (by decide) 4
  obtain ⟨s8, a8, b8⟩ := rcl_beg b7 (k := 3) (by omega) (by decide)
  obtain ⟨s9, a9, b9⟩ := rcl_add b8 (by decide) 0 0
  obtain ⟨s10, a10, b10⟩ := rcl_add b9 (by decide) 7 0
  obtain ⟨h1, h2, h3, h4, h5, h6, h7⟩ := b10
  refine ⟨s10, ?_, ⟨h5.1, fun c hc => absurd hc (Nat.not_lt_zero _), h5.2.1, h5.2.2, 12, by omega, h1, fun k hk => ?_⟩, h1, h2, h3, h4⟩
  · unfold f_X8_clear
    rw [wlet_eq, wlet_eq, wlet_eq, wlet_eq]
    rw [bind_eq (show f_X8_beginLaw _ o (0 : Int32) = some s1 from a1)]
    show (bnd2 (f_X8_addStep s1 o (nI 1) (nI 0)) _) = _
    rw [bnd2_eq a2]
    show (bnd2 (f_X8_addStep s2 o (nI 7) (nI 0)) _) = _
    rw [bnd2_eq a3]
    show (Option.bind (f_X8_beginLaw s3 o (nI 1)) _) = _
    rw [bind_eq a4]
    show (Option.bind (f_X8_addShareOfDeed s4 o (nI 2)) _) = _
    rw [bind_eq a5]
    show (Option.bind (f_X8_beginLaw s5 o (nI 2)) _) = _
    rw [bind_eq a6]
    show (Option.bind (f_X8_addShareOfDeed s6 o (nI 4)) _) = _
    rw [bind_eq a7]
    show (Option.bind (f_X8_beginLaw s7 o (nI 3)) _) = _
    rw [bind_eq a8]
    show (bnd2 (f_X8_addStep s8 o (nI 0) (nI 0)) _) = _
    rw [bnd2_eq a9]
    show (bnd2 (f_X8_addStep s9 o (nI 7) (nI 0)) _) = _
    rw [bnd2_eq a10]
  · obtain ⟨c0, c1, c2, c3, c4, c5, c6, c7, c8, c9, c10, c11, -⟩ := h6
    have g0 := h7 (0, 0) (by decide)
    have g1 := h7 (1, 2) (by decide)
    have g2 := h7 (2, 6) (by decide)
    have g3 := h7 (3, 10) (by decide)
    show ∃ p q, q ≤ 12 ∧ s10.1 (o + 2) k = nI p ∧ CLaw (s10.1 (o + 1)) p q [] (dflt k)
    rcases (show k = 0 ∨ k = 1 ∨ k = 2 ∨ k = 3 by omega) with rfl | rfl | rfl | rfl
    · exact ⟨0, 2, by omega, g0, ⟨c0, c1, trivial⟩, rfl⟩
    · exact ⟨2, 6, by omega, g1, ⟨c2, c3, c4, c5, trivial⟩, rfl⟩
    · exact ⟨6, 10, by omega, g2, ⟨c6, c7, c8, c9, trivial⟩, rfl⟩
    · exact ⟨10, 12, by omega, g3, ⟨c10, c11, trivial⟩, rfl⟩
/-- the class's verdict on the text -/
theorem C_first {σ : St} {K P V : Nat → Nat} {v p : Nat} (hT : zTk σ K P V) (hD : zDd0 σ P v p) : ∃ σ', f_X4_findFirstFault σ = some σ' ∧ rgC σ σ' ∧ σ'.1 10 3 = nI v ∧ σ'.1 10 4 = nI (P p) := by
  unfold f_X4_findFirstFault
  obtain ⟨hv, ⟨a1, rfl, rfl⟩ | ⟨t, b1, b2, b3, b4⟩⟩ := hD
  · rw [a1, if_neg (by decide), wlet_eq, if_ib (by decide), wlet_eq]
    refine ⟨_, rfl, rgC_trans (rgC_10 _ _ _ (by omega)) (rgC_10 _ _ _ (by omega)), by rw [si_get, if_neg (by omega), si_get, if_pos ⟨rfl, rfl⟩]; rfl, ?_⟩
    rw [si_get, if_pos ⟨rfl, rfl⟩, si_ne (by omega)]
    exact (hT.1 400 (by omega)).2.1
  · have n4 : nI t ≤ (400 : Int32) := (nI_leN (b := 400) (by omega) (by omega)).mpr b1
    rw [b2, if_pos n4, b3, if_neg (nI_v0 hv)]
    exact ⟨_, rfl, rgC_refl _, b3, b4⟩
theorem C_first_al {σ : St} {t : Nat} (hA : zAl0 σ t) : ∃ σ', f_X4_findFirstFault σ = some σ' ∧ rgC σ σ' ∧ σ'.1 10 3 = σ.1 10 5 ∧ σ'.1 10 4 = σ.1 10 6 := by
  obtain ⟨a1, a2, a3⟩ := hA
  have n4 : nI t ≤ (400 : Int32) := (nI_leN (b := 400) (by omega) (by omega)).mpr a1
  unfold f_X4_findFirstFault
  rw [a2, if_pos n4, if_pos a3, wlet_eq, wlet_eq]
  exact ⟨_, rfl, rgC_trans (rgC_10 _ _ _ (by omega)) (rgC_10 _ _ _ (by omega)), by rw [si_get, if_neg (by omega), si_get, if_pos ⟨rfl, rfl⟩], by rw [si_get, if_pos ⟨rfl, rfl⟩, si_get, if_neg (by omega)]⟩
