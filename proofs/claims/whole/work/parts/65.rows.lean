/-! STAGE B, 16: rows of the reference: copying -/
theorem zsci_zero (σ : St) (s d sp dp : Nat) : sci σ s d sp dp 0 = σ := by
  refine Prod.ext ?_ rfl
  funext c i
  rw [sci_get]
  by_cases h : c = d
  · rw [if_pos h, if_neg (by omega), h]
  · rw [if_neg h]
theorem zsci_succ {s d sp dp : Nat} (h : d ≠ s ∨ dp ≤ sp) (σ : St) (i : Nat) : si (sci σ s d sp dp i) d (dp + i) ((sci σ s d sp dp i).1 s (sp + i)) = sci σ s d sp dp (i + 1) := by
  have hv : (sci σ s d sp dp i).1 s (sp + i) = σ.1 s (sp + i) := by
    rw [sci_get]
    by_cases e : s = d
    · rw [if_pos e, if_neg (by omega), e]
    · rw [if_neg e]
  rw [hv]
  refine Prod.ext ?_ rfl
  funext c j
  rw [si_get, sci_get, sci_get]
  by_cases e : c = d
  · subst e
    by_cases e2 : j = dp + i
    · subst e2
      rw [if_pos ⟨rfl, rfl⟩, if_pos rfl, if_pos (by omega), show sp + (dp + i - dp) = sp + i by omega]
    · rw [if_neg (fun z => e2 z.2), if_pos rfl, if_pos rfl]
      by_cases e3 : dp ≤ j ∧ j < dp + i
      · rw [if_pos e3, if_pos (by omega)]
      · rw [if_neg e3, if_neg (by omega)]
  · rw [if_neg (fun z => e z.1), if_neg e, if_neg e]
theorem zlp_copy {st : St × Int32 → Option ((St × Int32) ⊕ St)} {σ : St} {s d sp dp n : Nat} (hn : n < 90000) (h : d ≠ s ∨ dp ≤ sp) (hs : ∀ i, i < n → st (sci σ s d sp dp i, nI i) = some (.inl (si (sci σ s d sp dp i) d (dp + i) ((sci σ s d sp dp i).1 s (sp + i)), nI (i + 1)))) (ho : st (sci σ s d sp dp n, nI n) = some (.inr (sci σ s d sp dp n))) :
    lp st fuel (σ, 0) = some (sci σ s d sp dp n) := by
  have key : ∀ k i F, i + k = n → lp st (F + k + 1) (sci σ s d sp dp i, nI i) = some (sci σ s d sp dp n) := by
    intro k
    induction k with
    | zero =>
      intro i F hi
      have hi : i = n := hi
      subst hi
      exact lp_out ho
    | succ k ih =>
      intro i F hi
      rw [show F + (k + 1) + 1 = F + k + 1 + 1 by omega, lp_step (hs i (by omega)), zsci_succ h]
      exact ih (i + 1) F (by omega)
  have := key n 0 (fuel - n - 1) (by omega)
  rw [zsci_zero, show fuel - n - 1 + n + 1 = fuel by rw [fuel_eq]; omega] at this
  exact this
/-- only scratch cells of the reference differ -/
def zSc (τ τ' : St) : Prop := (∀ c, c ≠ 0 → c ≠ 24 → c ≠ 25 → c ≠ 27 → c ≠ 28 → c ≠ 30 → c ≠ 34 → c ≠ 35 → τ'.1 c = τ.1 c) ∧ (∀ i, i ≠ 42 → i ≠ 45 → i ≠ 50 → τ'.1 0 i = τ.1 0 i) ∧ τ'.2 = τ.2
theorem zSc_refl (τ : St) : zSc τ τ := ⟨fun _ _ _ _ _ _ _ _ _ => rfl, fun _ _ _ _ => rfl, rfl⟩
theorem zSc_trans {a b c : St} (h : zSc a b) (h' : zSc b c) : zSc a c :=
  ⟨fun k a1 a2 a3 a4 a5 a6 a7 a8 => (h'.1 k a1 a2 a3 a4 a5 a6 a7 a8).trans (h.1 k a1 a2 a3 a4 a5 a6 a7 a8), fun i h1 h2 h3 => (h'.2.1 i h1 h2 h3).trans (h.2.1 i h1 h2 h3), h'.2.2.trans h.2.2⟩
theorem zSc_fl {a b : St} (h : fl a b) : zSc a b := ⟨fun k a1 a2 a3 _ _ _ _ _ => h.1 k a1 a2 a3, fun i h1 _ _ => h.2.1 i h1, h.2.2⟩
theorem zSc_si {τ : St} {c i : Nat} {v : Int32} (h : c = 24 ∨ c = 25 ∨ c = 27 ∨ c = 28 ∨ c = 30 ∨ c = 34 ∨ c = 35 ∨ (c = 0 ∧ (i = 42 ∨ i = 45 ∨ i = 50))) : zSc τ (si τ c i v) := by
  refine ⟨fun k a1 a2 a3 a4 a5 a6 a7 a8 => ?_, fun j h1 h2 h3 => ?_, rfl⟩
  · funext j; rw [si_get, if_neg (fun z => by omega)]
  · rw [si_get, if_neg (fun z => by omega)]
theorem zTxM_Sc {τ τ' : St} {T : Tx} (h : zSc τ τ') (hT : TxM τ T) : TxM τ' T :=
  TxM_congr (h.2.1 18 (by omega) (by omega) (by omega)) (fun c _ _ => h.1 c (by omega) (by omega) (by omega) (by omega) (by omega) (by omega) (by omega) (by omega)) hT
theorem RS_congr {σ : St} {o m : Nat} {V V' : Nat → Int32} (h : ∀ i, i < 26 → V' i = V i) (hm : m ≤ 7) (hR : RS σ o m V) : RS σ o m V' := by
  obtain ⟨r1, r2, r3, r4, r5, r6, r7, r8⟩ := hR
  exact ⟨r1, by rw [h 24 (by omega)]; exact r2, by rw [h 9 (by omega)]; exact r3, by rw [h 8 (by omega)]; exact r4, by rw [h 25 (by omega)]; exact r5, fun i hi => by rw [h i (by omega)]; exact r6 i hi, fun c hc => by rw [h _ (by omega)]; exact r7 c hc, fun c hc => by rw [h _ (by omega)]; exact r8 c hc⟩
theorem WV_congr {n m : Nat} {V V' : Nat → Int32} (h : ∀ i, i < 26 → V' i = V i) (hW : WV n m V) : WV n m V' := by
  obtain ⟨w1, w2, w3, w4, w5⟩ := hW
  exact ⟨w1, w2, by rw [h 7 (by omega)]; exact w3, fun i hi => by rw [h i (by omega)]; exact w4 i hi, fun i j hi hj => by rw [h i (by omega), h j (by omega)]; exact w5 i j hi hj⟩
theorem M_copies {τ : St} {T : Tx} (hT : TxM τ T) : ∃ τ', zSc τ τ' ∧ f_X11_copies τ = some τ' ∧ (∀ i, i < 26 → τ'.1 27 i = τ.1 26 i) ∧ τ'.1 0 45 = nI (ts T) := by
  obtain ⟨w, w1, w2, _, _, _, w6, _⟩ := hT
  refine ⟨si (sci τ 26 27 0 0 26) 0 45 (nI (ts T)), ?_, ?_, fun i hi => ?_, ?_⟩
  · refine zSc_trans (b := sci τ 26 27 0 0 26) ⟨fun k a1 a2 a3 a4 a5 a6 a7 a8 => ?_, fun j h1 h2 h3 => ?_, rfl⟩ (zSc_si (by omega))
    · funext j; rw [sci_get, if_neg (by omega)]
    · rw [sci_get, if_neg (by omega)]
  · unfold f_X11_copies
    rw [wlet_eq, bind_eq (zlp_copy (s := 26) (d := 27) (sp := 0) (dp := 0) (n := 26) (by omega) (Or.inl (by omega)) (fun i hi => ?_) ?_)]
    · have e : (sci τ 26 27 0 0 26).1 0 18 = nI w := by rw [sci_get, if_neg (by omega)]; exact w2
      have e2 : (sci τ 26 27 0 0 26).1 13 w = nI (ts T) := by rw [sci_get, if_neg (by omega)]; exact w6
      rw [e, if_ib (ib_t (by omega) (by omega)), nI_clamp (by omega), e2, wlet_eq]
    · dsimp only [un2]
      rw [if_pos (by decide)]
    · have b1 : ib (nI i) 26 = true := ib_t (by omega) (by omega)
      have n1 : ¬ (26 : Int32) ≤ nI i := fun z => by have := (nI_leN (a := 26) (by omega) (by omega)).mp z; omega
      dsimp only [un2]
      rw [if_neg n1, if_ib b1, if_ib b1, nI_clamp (by omega), wlet_eq, wlet_eq, nI_succ, Nat.zero_add]
  · rw [si_get, if_neg (by omega), sci_get, if_pos rfl, if_pos (by omega), Nat.zero_add, Nat.sub_zero]
  · rw [si_get, if_pos ⟨rfl, rfl⟩]
theorem M_keepsRow (τ : St) : f_X11_keepsRow τ = some (sci τ 27 26 0 0 26) := by
  unfold f_X11_keepsRow
  rw [wlet_eq, bind_eq (zlp_copy (s := 27) (d := 26) (sp := 0) (dp := 0) (n := 26) (by omega) (Or.inl (by omega)) (fun i hi => ?_) ?_)]
  · dsimp only [un2]
    rw [if_pos (by decide)]
  · have b1 : ib (nI i) 26 = true := ib_t (by omega) (by omega)
    have n1 : ¬ (26 : Int32) ≤ nI i := fun z => by have := (nI_leN (a := 26) (by omega) (by omega)).mp z; omega
    dsimp only [un2]
    rw [if_neg n1, if_ib b1, if_ib b1, nI_clamp (by omega), wlet_eq, wlet_eq, nI_succ, Nat.zero_add]
