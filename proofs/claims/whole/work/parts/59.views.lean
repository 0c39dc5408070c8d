/-! STAGE B, 10: the reference's sentences -/
theorem mul7 {w : Nat} (h : w ≤ 1) : (7 : Int32) * nI w = nI (7 * w) := by
  have : w = 0 ∨ w = 1 := by omega
  rcases this with rfl | rfl <;> decide
theorem mul4 {w : Nat} (h : w ≤ 1) : (4 : Int32) * nI w = nI (4 * w) := by
  have : w = 0 ∨ w = 1 := by omega
  rcases this with rfl | rfl <;> decide
theorem M_deedAt {τ : St} {T : Tx} {c : Nat} (hT : TxM τ T) (hOK : TxOK T) (hc : c < tn T) : f_X11_deedAt τ (nI c) = some (nI (td T c)) := by
  have h7 := hOK.1
  obtain ⟨w, w1, w2, w3, w4, _⟩ := hT
  unfold f_X11_deedAt
  rw [w2, mul7 w1, nI_add', if_ib (ib_t (by omega) (by omega)), nI_clamp (by omega), (w4 c hc).1]
theorem M_doesPlead {τ : St} {a : Nat} (ha : a < 7) : f_X11_doesPlead τ (nI a) = some (plB (τ.1 27) (nI a)) := by
  unfold f_X11_doesPlead plB
  have n2 : ¬ (7 : Int32) ≤ nI a := fun z => by have := (nI_leN (a := 7) (by omega) (by omega)).mp z; omega
  have n1 : ¬ nI a < 0 := nI_pos (by omega)
  rw [if_ib b2426, tc24, if_neg n1, if_neg n2]
  by_cases h3 : ((τ.1 27 24) >>> (nI a &&& 31)) &&& (1 : Int32) = (1 : Int32)
  · rw [if_pos h3, if_pos h3]
  · rw [if_neg h3, if_neg h3]
theorem within_eq (v : Int32) (hi : Nat) (h : hi < 1000) : f_X11_within v 0 (nI hi) = some (mx 0 (mn (nI hi) v)) := by
  have e0 : (0 : Int32) = nI 0 := by decide
  unfold f_X11_within mx mn
  by_cases h1 : (0 : Int32) ≤ v
  · rw [if_pos h1]
    by_cases h2 : v ≤ nI hi
    · rw [if_pos h2]
      by_cases h3 : v < nI hi
      · rw [if_pos h3]
        by_cases h4 : (0 : Int32) < v
        · rw [if_pos h4]
        · rw [if_neg h4]
          have := Int32.le_antisymm (Int32.not_lt.mp h4) h1
          rw [this]
      · rw [if_neg h3]
        have e : v = nI hi := Int32.le_antisymm h2 (Int32.not_lt.mp h3)
        rw [e] at h1 ⊢
        by_cases h4 : (0 : Int32) < nI hi
        · rw [if_pos h4]
        · rw [if_neg h4]
          have := Int32.le_antisymm (Int32.not_lt.mp h4) h1
          rw [this]
    · rw [if_neg h2]
      have h3 : ¬ v < nI hi := fun z => h2 (Int32.le_of_lt z)
      rw [if_neg h3]
      by_cases h4 : (0 : Int32) < nI hi
      · rw [if_pos h4]
      · rw [if_neg h4]
        have h5 : nI hi ≤ 0 := Int32.not_lt.mp h4
        rw [e0] at h5 ⊢
        have := (nI_leN (by omega) (by omega)).mp h5
        rw [show hi = 0 by omega]
  · rw [if_neg h1]
    have h1' : v < 0 := Int32.not_le.mp h1
    have h3 : v < nI hi := Int32.lt_of_lt_of_le h1' (nI_pos' (by omega))
    rw [if_pos h3, if_neg (fun z => Int32.lt_irrefl (Int32.lt_trans z h1'))]
theorem M_views {τ : St} {T : Tx} {c : Nat} {i place pl deed : Int32} (hT : TxM τ T) (hOK : TxOK T) (hc : c < tn T)
    (hpl : (i ≤ 0 ∧ pl = 0) ∨ (∃ j a, j + 1 < 26 ∧ i = nI (j + 1) ∧ a < 7 ∧ τ.1 27 j = nI a ∧ pl = plB (τ.1 27) (nI a))) (hplace : (0 ≤ i ∧ place = i) ∨ (¬ 0 ≤ i ∧ place = τ.1 27 7)) :
    ∃ τ', fl τ τ' ∧ f_X11_views τ (nI c) i deed = some τ' ∧ ∀ k, k < 9 → τ'.1 24 k = VV T (τ.1 27) c place pl deed k := by
  have h7 := hOK.1
  have F : ∀ {s : St} (k : Nat) (v : Int32), fl τ s → fl τ (si s 24 k v) := fun k v h => fl_trans h (fl_24 _ _ _)
  have V27 : ∀ {s : St}, fl τ s → s.1 27 = τ.1 27 := fun h => h.1 27 (by omega) (by omega) (by omega)
  have f0 := F 0 deed (fl_refl τ)
  have f1 := F 1 (nI (td T c)) f0
  have f2 := F 2 (τ.1 27 (10 + c)) f1
  have f3 := F 3 place f2
  have f4 := F 4 (τ.1 27 8) f3
  have f5 := F 5 (nI c) f4
  have f6 := F 6 (τ.1 27 7) f5
  have f7 := F 7 pl f6
  have f8 := F 8 (τ.1 27 25) f7
  have a10 : (10 : Int32) + nI c = nI (10 + c) := nI_add' 10 c
  refine ⟨_, f8, ?_, ?_⟩
  · unfold f_X11_views
    rw [if_ib b09, c0, wlet_eq, bind_eq (M_deedAt (TxM_fl f0 hT) hOK hc), if_ib b19, tc1, wlet_eq, a10, if_ib (ib_t (show 10 + c < 26 by omega) (by omega)), if_ib b29, tc2, nI_clamp (show 10 + c < 2 ^ 31 by omega), V27 f1, wlet_eq, wlet_eq]
    rcases hplace with ⟨z1, rfl⟩ | ⟨z1, rfl⟩
    · rw [if_pos z1]
      dsimp only
      rw [if_ib b39, tc3, wlet_eq, if_ib b826, if_ib b49, tc4, tc8, V27 f3, wlet_eq, if_ib b59, tc5, wlet_eq, if_ib b726, if_ib b69, tc6, c7, V27 f5, wlet_eq, wlet_eq, wlet_eq]
      rcases hpl with ⟨y1, rfl⟩ | ⟨j, a, y1, y2, y3, y4, rfl⟩
      · rw [if_pos y1]
        dsimp only
        rw [if_ib b79, c7, wlet_eq, if_ib b2526, if_ib b89, tc25, V27 f7, wlet_eq]
      · have x1 : ¬ place ≤ (0 : Int32) := fun z => by
          rw [y2] at z
          have := (nI_leN (b := 0) (by omega) (by omega)).mp z; omega
        have x2 : place - (1 : Int32) = nI j := by rw [y2]; exact nI_sub (b := 1) (by omega)
        have x3 := M_doesPlead (τ := si (si (si (si (si (si (si τ 24 0 deed) 24 1 (nI (td T c))) 24 2 (τ.1 27 (10 + c))) 24 3 place) 24 4 (τ.1 27 8)) 24 5 (nI c)) 24 6 (τ.1 27 7)) y3
        rw [V27 f6] at x3
        rw [if_neg x1, x2, if_ib (ib_t (show j < 26 by omega) (by omega)), nI_clamp (show j < 2 ^ 31 by omega), V27 f6, y4, bind_eq x3]
        rcases plB_01 (τ.1 27) (nI a) with h | h
        · rw [if_pos h]
          dsimp only
          rw [if_ib b79, c7, wlet_eq, if_ib b2526, if_ib b89, tc25]
          rw [h] at f7 ⊢
          rw [V27 f7, wlet_eq]
        · rw [if_neg (by rw [h]; decide)]
          dsimp only
          rw [if_ib b79, c7, wlet_eq, if_ib b2526, if_ib b89, tc25]
          rw [h] at f7 ⊢
          rw [V27 f7, wlet_eq]
    · rw [if_neg z1, if_ib b726, c7, V27 f2]
      dsimp only
      rw [if_ib b39, tc3, wlet_eq, if_ib b826, if_ib b49, tc4, tc8, V27 f3, wlet_eq, if_ib b59, tc5, wlet_eq, if_ib b726, if_ib b69, tc6, V27 f5, wlet_eq, wlet_eq, wlet_eq]
      rcases hpl with ⟨y1, rfl⟩ | ⟨j, a, y1, y2, y3, y4, rfl⟩
      · rw [if_pos y1]
        dsimp only
        rw [if_ib b79, c7, wlet_eq, if_ib b2526, if_ib b89, tc25, V27 f7, wlet_eq]
      · have x1 : ¬ i ≤ (0 : Int32) := fun z => by
          rw [y2] at z
          have := (nI_leN (b := 0) (by omega) (by omega)).mp z; omega
        have x2 : i - (1 : Int32) = nI j := by rw [y2]; exact nI_sub (b := 1) (by omega)
        have x3 := M_doesPlead (τ := si (si (si (si (si (si (si τ 24 0 deed) 24 1 (nI (td T c))) 24 2 (τ.1 27 (10 + c))) 24 3 (τ.1 27 7)) 24 4 (τ.1 27 8)) 24 5 (nI c)) 24 6 (τ.1 27 7)) y3
        rw [V27 f6] at x3
        rw [if_neg x1, x2, if_ib (ib_t (show j < 26 by omega) (by omega)), nI_clamp (show j < 2 ^ 31 by omega), V27 f6, y4, bind_eq x3]
        rcases plB_01 (τ.1 27) (nI a) with h | h
        · rw [if_pos h]
          dsimp only
          rw [if_ib b79, c7, wlet_eq, if_ib b2526, if_ib b89, tc25]
          rw [h] at f7 ⊢
          rw [V27 f7, wlet_eq]
        · rw [if_neg (by rw [h]; decide)]
          dsimp only
          rw [if_ib b79, c7, wlet_eq, if_ib b2526, if_ib b89, tc25]
          rw [h] at f7 ⊢
          rw [V27 f7, wlet_eq]
  · intro k hk
    simp only [si_get]
    have : k = 0 ∨ k = 1 ∨ k = 2 ∨ k = 3 ∨ k = 4 ∨ k = 5 ∨ k = 6 ∨ k = 7 ∨ k = 8 := by omega
    rcases this with rfl | rfl | rfl | rfl | rfl | rfl | rfl | rfl | rfl <;> rfl
