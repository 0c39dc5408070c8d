/-! STAGE B, 8: a text, in both programs -/
/-- cases, their deeds, their purses, before, seed, laws -/
def Tx : Type := Nat × (Nat → Nat) × (Nat → Nat) × Nat × Nat × (Nat → List (List (Nat × Nat) × List (Nat × Nat) × List (Nat × Nat)) × List (Nat × Nat))
def tn (T : Tx) : Nat := T.1
def td (T : Tx) : Nat → Nat := T.2.1
def tp (T : Tx) : Nat → Nat := T.2.2.1
def tb (T : Tx) : Nat := T.2.2.2.1
def ts (T : Tx) : Nat := T.2.2.2.2.1
def tr (T : Tx) (k : Nat) : List (List (Nat × Nat) × List (Nat × Nat) × List (Nat × Nat)) := (T.2.2.2.2.2 k).1
def te (T : Tx) (k : Nat) : List (Nat × Nat) := (T.2.2.2.2.2 k).2
def TxOK (T : Tx) : Prop := tn T ≤ 7 ∧ (∀ c, c < tn T → td T c ≤ 99 ∧ tp T c ≤ 99) ∧ tb T ≤ 99 ∧ ts T ≤ 9999 ∧ ∀ k, k < 4 → okL (tr T k) (te T k)
def TxC (σ : St) (o : Nat) (T : Tx) : Prop := σ.1 o 6 = nI (tn T) ∧ (∀ c, c < tn T → σ.1 (o + 3) c = nI (td T c) ∧ σ.1 (o + 4) c = nI (tp T c)) ∧ σ.1 o 7 = nI (tb T) ∧ σ.1 o 8 = nI (ts T) ∧ ∃ L, L ≤ 420 ∧ σ.1 o 5 = nI L ∧ ∀ k, k < 4 → ∃ p q, q ≤ L ∧ σ.1 (o + 2) k = nI p ∧ CLaw (σ.1 (o + 1)) p q (tr T k) (te T k)
def dflt (k : Nat) : List (Nat × Nat) := if k = 0 then [(1, 0)] else if k = 1 then [(1, 0), (0, 2), (5, 0)] else if k = 2 then [(1, 0), (0, 4), (5, 0)] else [(0, 0)]
def TxM (τ : St) (T : Tx) : Prop := ∃ w, w ≤ 1 ∧ τ.1 0 18 = nI w ∧ τ.1 9 w = nI (tn T) ∧ (∀ c, c < tn T → τ.1 10 (7 * w + c) = nI (td T c) ∧ τ.1 11 (7 * w + c) = nI (tp T c)) ∧ τ.1 12 w = nI (tb T) ∧ τ.1 13 w = nI (ts T) ∧ ∀ k, k < 4 → (τ.1 14 (4 * w + k) = τ.1 15 (4 * w + k) ∧ tr T k = [] ∧ te T k = dflt k) ∨ ∃ b B, 130 * w ≤ b ∧ B ≤ 130 * w + 130 ∧ τ.1 14 (4 * w + k) = nI b ∧ τ.1 15 (4 * w + k) = nI B ∧ MLaw τ (420 * w) (420 * w + 420) b B (tr T k) (te T k)
theorem TxC_fr {σ σ' : St} {T : Tx} {lo hi : Nat} (h : fr lo hi σ σ') (hlo : 9 < lo) (hT : TxC σ 4 T) : TxC σ' 4 T := by
  unfold TxC at hT ⊢
  rw [h.1 4 (by omega), h.1 (4 + 1) (by omega), h.1 (4 + 2) (by omega), h.1 (4 + 3) (by omega), h.1 (4 + 4) (by omega)]
  exact hT
/-- the reference's text stays where its cells stay -/
theorem TxM_congr {τ τ' : St} {T : Tx} (h0 : τ'.1 0 18 = τ.1 0 18) (h : ∀ c, 9 ≤ c → c ≤ 22 → τ'.1 c = τ.1 c) (hT : TxM τ T) : TxM τ' T := by
  unfold TxM at hT ⊢
  rw [h0, h 9 (by omega) (by omega), h 10 (by omega) (by omega), h 11 (by omega) (by omega), h 12 (by omega) (by omega), h 13 (by omega) (by omega), h 14 (by omega) (by omega), h 15 (by omega) (by omega)]
  obtain ⟨w, a1, a2, a3, a4, a5, a6, a7⟩ := hT
  refine ⟨w, a1, a2, a3, a4, a5, a6, fun k hk => ?_⟩
  rcases a7 k hk with b | ⟨b, B, b1, b2, b3, b4, b5⟩
  · exact Or.inl b
  · exact Or.inr ⟨b, B, b1, b2, b3, b4, MLaw_congr (lo := 0) (hi := B) (fun c i _ _ _ _ => by rw [h c (by omega) (by omega)]) (fun c i _ _ _ _ => by rw [h c (by omega) (by omega)]) (Nat.zero_le _) (Nat.le_refl _) b5⟩
theorem TxM_fl {τ τ' : St} {T : Tx} (h : fl τ τ') (hT : TxM τ T) : TxM τ' T :=
  TxM_congr (h.2.1 18 (by omega)) (fun c _ _ => h.1 c (by omega) (by omega) (by omega)) hT
/-- what the laws look at -/
def VV (T : Tx) (V : Nat → Int32) (c : Nat) (place pled deed : Int32) : Nat → Int32
  | 0 => deed
  | 1 => nI (td T c)
  | 2 => V (10 + c)
  | 3 => place
  | 4 => V 8
  | 5 => nI c
  | 6 => V 7
  | 7 => pled
  | _ => V 25
/-- is the case a pleading: 1 or 0 -/
def plB (V : Nat → Int32) (a : Int32) : Int32 := if a < 0 then 0 else if (7 : Int32) ≤ a then 0 else if ((V 24) >>> (a &&& 31)) &&& (1 : Int32) = (1 : Int32) then 1 else 0
theorem C_isPleading {σ : St} {o m : Nat} {V : Nat → Int32} (h : RS σ o m V) (a : Int32) : f_X6_isPleading σ o a = some (plB V a) := by
  unfold f_X6_isPleading plB
  rw [h.2.1]
  by_cases h1 : a < 0
  · rw [if_pos h1, if_pos h1]
  · rw [if_neg h1, if_neg h1]
    by_cases h2 : (7 : Int32) ≤ a
    · rw [if_pos h2, if_pos h2]
    · rw [if_neg h2, if_neg h2]
      by_cases h3 : ((V 24) >>> (a &&& 31)) &&& (1 : Int32) = (1 : Int32)
      · rw [if_pos h3, if_pos h3]
      · rw [if_neg h3, if_neg h3]
theorem C_deedOf {σ : St} {T : Tx} {c : Nat} (hT : TxC σ 4 T) (hOK : TxOK T) (hc : c < tn T) : f_X8_deedOf σ 4 (nI c) = some (nI (td T c)) := by
  have h7 := hOK.1
  unfold f_X8_deedOf
  rw [if_neg (nI_pos (by omega)), hT.1, if_neg (fun z => by have := (nI_leN (by omega) (by omega)).mp z; omega), if_neg (fun z => by have := (nI_leN (a := 7) (by omega) (by omega)).mp z; omega), if_ib (ib_t (by omega) (by omega)), nI_clamp (by omega), (hT.2.1 c hc).1]
theorem RS_fr {σ σ' : St} {o m : Nat} {V : Nat → Int32} {lo hi : Nat} (h : fr lo hi σ σ') (ho : hi < o ∨ o + 3 < lo) (hR : RS σ o m V) : RS σ' o m V := by
  unfold RS at hR ⊢
  rw [h.1 o (by omega), h.1 (o + 1) (by omega), h.1 (o + 2) (by omega), h.1 (o + 3) (by omega)]
  exact hR
