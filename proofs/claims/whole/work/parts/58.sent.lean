/-! STAGE B, 9: sentences -/
theorem tc1 : Int32.toNatClampNeg 1 = 1 := by decide
theorem tc2 : Int32.toNatClampNeg 2 = 2 := by decide
theorem tc3 : Int32.toNatClampNeg 3 = 3 := by decide
theorem tc4 : Int32.toNatClampNeg 4 = 4 := by decide
theorem tc5 : Int32.toNatClampNeg 5 = 5 := by decide
theorem tc6 : Int32.toNatClampNeg 6 = 6 := by decide
theorem tc8 : Int32.toNatClampNeg 8 = 8 := by decide
theorem tc9 : Int32.toNatClampNeg 9 = 9 := by decide
theorem tc24 : Int32.toNatClampNeg 24 = 24 := by decide
theorem tc25 : Int32.toNatClampNeg 25 = 25 := by decide
theorem b19 : ib 1 9 = true := by decide
theorem b29 : ib 2 9 = true := by decide
theorem b39 : ib 3 9 = true := by decide
theorem b49 : ib 4 9 = true := by decide
theorem b59 : ib 5 9 = true := by decide
theorem b69 : ib 6 9 = true := by decide
theorem b79 : ib 7 9 = true := by decide
theorem b89 : ib 8 9 = true := by decide
theorem b09 : ib 0 9 = true := by decide
theorem b726 : ib 7 26 = true := by decide
theorem b826 : ib 8 26 = true := by decide
theorem b926 : ib 9 26 = true := by decide
theorem b2426 : ib 24 26 = true := by decide
theorem b2526 : ib 25 26 = true := by decide
theorem plB_01 (V : Nat → Int32) (a : Int32) : plB V a = 0 ∨ plB V a = 1 := by
  unfold plB
  by_cases h1 : a < 0
  · rw [if_pos h1]; exact Or.inl rfl
  · rw [if_neg h1]
    by_cases h2 : (7 : Int32) ≤ a
    · rw [if_pos h2]; exact Or.inl rfl
    · rw [if_neg h2]
      by_cases h3 : ((V 24) >>> (a &&& 31)) &&& (1 : Int32) = (1 : Int32)
      · rw [if_pos h3]; exact Or.inr rfl
      · rw [if_neg h3]; exact Or.inl rfl
theorem C_seat {σ : St} {o m c : Nat} {T : Tx} {V : Nat → Int32} (hT : TxC σ 4 T) (hOK : TxOK T) (hR : RS σ o m V) (hm : V 7 = nI m) (ho : 37 < o) (hc : c < tn T) (place ahead : Int32) :
    ∃ σ', fr 22 22 σ σ' ∧ f_X1_seat σ o (nI c) place ahead = some σ' ∧ ∀ d k, k < 9 → k ≠ 0 → σ'.1 22 k = VV T V c place (plB V ahead) d k := by
  have h7 := hOK.1
  have n1 : ¬ nI c < 0 := nI_pos (by omega)
  have n2 : ¬ (7 : Int32) ≤ nI c := fun z => by have := (nI_leN (a := 7) (by omega) (by omega)).mp z; omega
  have n3 : ib (nI c) 7 = true := ib_t (by omega) (by omega)
  have n4 : (nI c).toNatClampNeg = c := nI_clamp (by omega)
  have R : ∀ {s : St}, fr 22 22 σ s → RS s o m V := fun h => RS_fr h (by omega) hR
  have F : ∀ {s : St} (i : Nat) (v : Int32), fr 22 22 σ s → fr 22 22 σ (si s 22 i v) := fun i v h => fr_trans h (fr_si _ _ _ _ (by omega))
  have f1 := F 1 (nI (td T c)) (fr_refl _ _ σ)
  have f2 := F 2 (V (10 + c)) f1
  have f3 := F 3 place f2
  have f4 := F 4 (V 8) f3
  have f5 := F 5 (nI c) f4
  have f6 := F 6 (nI m) f5
  have key : ∀ pl : Int32, plB V ahead = pl → ∀ d k, k < 9 → k ≠ 0 → (si (si (si (si (si (si (si (si σ 22 1 (nI (td T c))) 22 2 (V (10 + c))) 22 3 place) 22 4 (V 8)) 22 5 (nI c)) 22 6 (nI m)) 22 7 pl) 22 8 (V 25)).1 22 k = VV T V c place (plB V ahead) d k := by
    intro pl hpl d k hk h0
    simp only [si_get]
    have : k = 1 ∨ k = 2 ∨ k = 3 ∨ k = 4 ∨ k = 5 ∨ k = 6 ∨ k = 7 ∨ k = 8 := by omega
    rcases this with rfl | rfl | rfl | rfl | rfl | rfl | rfl | rfl
    · rfl
    · rfl
    · rfl
    · rfl
    · rfl
    · exact hm.symm
    · exact hpl.symm
    · rfl
  refine ⟨si (si (si (si (si (si (si (si σ 22 1 (nI (td T c))) 22 2 (V (10 + c))) 22 3 place) 22 4 (V 8)) 22 5 (nI c)) 22 6 (nI m)) 22 7 (plB V ahead)) 22 8 (V 25), F 8 _ (F 7 _ f6), ?_, key _ rfl⟩
  unfold f_X1_seat
  rw [bind_eq (C_deedOf hT hOK hc), if_ib b19, tc1, wlet_eq, wlet_eq, wlet_eq, if_neg n1, if_neg n2, if_ib n3, n4, (R f1).2.2.2.2.2.2.1 c (by omega)]
  dsimp only
  rw [if_ib b29, tc2, wlet_eq, if_ib b39, tc3, wlet_eq, if_ib b49, tc4, (R f3).2.2.2.1, wlet_eq, if_ib b59, tc5, wlet_eq, if_ib b69, tc6, (R f5).1, wlet_eq, bind_eq (C_isPleading (R f6) ahead), wlet_eq]
  rcases plB_01 V ahead with h | h
  · rw [h, if_pos rfl]
    dsimp only
    rw [if_ib b79, c7, wlet_eq, if_ib b89, tc8, (R (F 7 _ f6)).2.2.2.2.1, wlet_eq]
  · rw [h, if_neg (by decide)]
    dsimp only
    rw [if_ib b79, c7, wlet_eq, if_ib b89, tc8, (R (F 7 _ f6)).2.2.2.2.1, wlet_eq]
/-- the sentence of law k, at most hi -/
def SV (T : Tx) (k hi : Nat) (vs : Nat → Int32) : Int32 := mx 0 (mn (nI hi) (lawV vs (tr T k) (te T k)))
theorem C_law {σ : St} {T : Tx} {k : Nat} {d : Int32} {vs : Nat → Int32} (hT : TxC σ 4 T) (hOK : TxOK T) (hk : k < 4) (h0 : vs 0 = d) (hvs : ∀ k, k < 9 → k ≠ 0 → σ.1 22 k = vs k) :
    ∃ σ', fr 22 23 σ σ' ∧ f_X1_lawFor σ (nI k) d = some (lawV vs (tr T k) (te T k), σ') ∧ (∀ k, k < 9 → k ≠ 0 → σ'.1 22 k = σ.1 22 k) := by
  obtain ⟨_, _, _, _, L, hL2, hL, hl⟩ := hT
  obtain ⟨p, q, h1, h2, h3⟩ := hl k hk
  exact C_lawFor hk hL2 (hOK.2.2.2.2 k hk) h2 h3 hL h1 h0 hvs
theorem C_sentence {σ : St} {T : Tx} {k : Nat} {d : Int32} {vs : Nat → Int32} (hT : TxC σ 4 T) (hOK : TxOK T) (hk : k < 4) (h0 : vs 0 = d) (hvs : ∀ k, k < 9 → k ≠ 0 → σ.1 22 k = vs k) :
    ∃ σ', fr 22 23 σ σ' ∧ f_X1_sentence σ (nI k) d = some (SV T k 99 vs, σ') ∧ (∀ k, k < 9 → k ≠ 0 → σ'.1 22 k = σ.1 22 k) := by
  obtain ⟨σ', a1, a2, a3⟩ := C_law hT hOK hk h0 hvs
  refine ⟨σ', a1, ?_, a3⟩
  unfold f_X1_sentence
  rw [bnd2_eq a2]
  rfl
