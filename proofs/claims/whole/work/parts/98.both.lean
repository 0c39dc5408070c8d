/-! STAGE B, 49: both read side by side: a sign, an expression, a term -/
/-- what reading a law may change in the reference -/
def zfL (w b0 c0 : Nat) (τ τ' : St) : Prop := (∀ c, c ≠ 0 → (c < 16 ∨ 23 < c) → τ'.1 c = τ.1 c) ∧ (∀ i, i ≠ 11 → i ≠ 12 → i ≠ 13 → i ≠ 14 → i ≠ 29 → i ≠ 35 → i ≠ 39 → τ'.1 0 i = τ.1 0 i) ∧ τ'.2 = τ.2 ∧ (∀ c i, 16 ≤ c → c ≤ 20 → (i < b0 ∨ 130 * w + 130 ≤ i) → τ'.1 c i = τ.1 c i) ∧ ∀ c i, 21 ≤ c → c ≤ 22 → (i < c0 ∨ 420 * w + 420 ≤ i) → τ'.1 c i = τ.1 c i
theorem zfL_refl (w b0 c0 : Nat) (τ : St) : zfL w b0 c0 τ τ := ⟨fun _ _ _ => rfl, fun _ _ _ _ _ _ _ _ => rfl, rfl, fun _ _ _ _ _ => rfl, fun _ _ _ _ _ => rfl⟩
theorem zfL_trans {w b0 c0 : Nat} {a b c : St} (h : zfL w b0 c0 a b) (g : zfL w b0 c0 b c) : zfL w b0 c0 a c := ⟨fun k h1 h2 => (g.1 k h1 h2).trans (h.1 k h1 h2), fun i h1 h2 h3 h4 h5 h6 h7 => (g.2.1 i h1 h2 h3 h4 h5 h6 h7).trans (h.2.1 i h1 h2 h3 h4 h5 h6 h7), g.2.2.1.trans h.2.2.1, fun k i h1 h2 h3 => (g.2.2.2.1 k i h1 h2 h3).trans (h.2.2.2.1 k i h1 h2 h3), fun k i h1 h2 h3 => (g.2.2.2.2 k i h1 h2 h3).trans (h.2.2.2.2 k i h1 h2 h3)⟩
theorem zfL_mono {w b0 c0 b1 c1 : Nat} {a b : St} (h : zfL w b1 c1 a b) (hb : b0 ≤ b1) (hc : c0 ≤ c1) : zfL w b0 c0 a b := ⟨h.1, h.2.1, h.2.2.1, fun k i h1 h2 h3 => h.2.2.2.1 k i h1 h2 (by omega), fun k i h1 h2 h3 => h.2.2.2.2 k i h1 h2 (by omega)⟩
theorem zfL_M {w b0 c0 E : Nat} {a b : St} (h : zfM c0 E a b) (hE : E ≤ 420 * w + 420) : zfL w b0 c0 a b := ⟨fun k h1 h2 => h.1 k h1 (by omega) (by omega) (by omega), fun i h1 h2 h3 h4 h5 h6 h7 => h.2.1 i h1 h2 h3 h4 h6 h7, h.2.2.1, fun k i h1 h2 _ => by rw [h.1 k (by omega) (by omega) (by omega) (by omega)], fun k i h1 h2 h3 => by
  have := h.2.2.2 i (by omega)
  have : k = 21 ∨ k = 22 := by omega
  rcases this with rfl | rfl
  · exact (h.2.2.2 i (by omega)).1
  · exact (h.2.2.2 i (by omega)).2⟩
theorem zfL_T {w b0 c0 : Nat} {a b : St} (h : zfT a b) : zfL w b0 c0 a b := zfL_M (E := 0) (zfM_T h) (by omega)
theorem zfL_br {w b0 c0 : Nat} (τ : St) (c i : Nat) (v : Int32) (hc : 16 ≤ c ∧ c ≤ 20) (hi : b0 ≤ i ∧ i < 130 * w + 130) : zfL w b0 c0 τ (si τ c i v) := ⟨fun k h1 h2 => si_ne (by omega), fun j _ _ _ _ _ _ _ => by rw [si_ne (by omega)], rfl, fun k j h1 h2 h3 => by rw [si_get, if_neg (by omega)], fun k j h1 h2 _ => by rw [si_ne (by omega)]⟩
theorem zfL_0 {w b0 c0 : Nat} (τ : St) (i : Nat) (v : Int32) (h : i = 12 ∨ i = 29 ∨ i = 35 ∨ i = 39) : zfL w b0 c0 τ (si τ 0 i v) := ⟨fun c h1 _ => si_ne h1, fun j h1 h2 h3 h4 h5 h6 h7 => by rw [si_get, if_neg (by omega)], rfl, fun k j h1 h2 _ => by rw [si_ne (by omega)], fun k j h1 h2 _ => by rw [si_ne (by omega)]⟩
theorem zTm_L {w b0 c0 : Nat} {σ σ' : St} {K P V N : Nat → Nat} (h : zfL w b0 c0 σ σ') (hT : zTm σ K P V N) : zTm σ' K P V N := by
  unfold zTm at hT ⊢
  rw [h.1 3 (by omega) (by omega), h.1 4 (by omega) (by omega), h.1 5 (by omega) (by omega), h.2.2.1]; exact hT
theorem M_must {σ : St} {K P V N : Nat → Nat} {t k : Nat} (hT : zTm σ K P V N) (hA : zAm K σ t) (h0 : k ≠ 0) (hk : k < 32) : ∃ σ', f_X11_must σ (nI (zrk k)) = some σ' ∧ zfT σ σ' ∧ ((K t ≠ k ∧ zDm P σ' 1 t) ∨ (K t = k ∧ ((t = 400 ∧ zDm P σ' 2 400) ∨ (t ≠ 400 ∧ zAm K σ' (t + 1))))) := by
  unfold f_X11_must
  rw [bind_eq (M_is hT hA hk)]
  by_cases q : K t = k
  · obtain ⟨σ', h1, h2, h3⟩ := M_goesOn hT hA (by omega)
    rw [if_pos q, if_neg n10]
    exact ⟨σ', by rw [bind_eq h1], h2, Or.inr ⟨q, h3⟩⟩
  · obtain ⟨σ', h1, h2, h3, h4⟩ := M_fail hT hA (v := 1) (Or.inl rfl)
    rw [if_neg q, if_pos rfl]
    exact ⟨σ', by rw [show (1 : Int32) = nI 1 from rfl, bind_eq h1], h2, Or.inl ⟨q, h4⟩⟩
theorem M_must_d {P : Nat → Nat} {σ : St} {v p : Nat} (hD : zDm P σ v p) (x : Int32) : f_X11_must σ x = some σ := by
  unfold f_X11_must
  rw [bind_eq (M_is_d hD _), if_pos rfl, bind_eq (M_fail_d hD _)]
/-- a token that must be there -/
theorem J_must {σc σ τ : St} {K P V N : Nat → Nat} {Lc t k : Nat} {c : List (Nat × Nat)} (hT : zTk σ K P V) (hM : zTm τ K P V N) (hS : zSt P σc σ Lc (.inr (t, c))) (hA : zAm K τ t) (h0 : k ≠ 0) (hk : k < 32) : ∃ σ' τ', f_X4_expect σ (nI k) = some σ' ∧ f_X11_must τ (nI (zrk k)) = some τ' ∧ zfE σ σ' ∧ zfT τ τ' ∧ ((K t = k ∧ zSt P σc σ' Lc (.inr (t + 1, c)) ∧ zAm K τ' (t + 1)) ∨ ∃ v p, zDd0 σ' P v p ∧ zDm P τ' v p) := by
  obtain ⟨f1, A1, L1⟩ := zSt_al hS
  obtain ⟨σ', a1, a2⟩ := C_expect hT A1 L1 hk
  obtain ⟨τ', b1, b2, b3⟩ := M_must hM hA h0 hk
  have hp := zSt_pre hS a2
  refine ⟨σ', τ', a1, b1, a2.1, b2, ?_⟩
  rcases b3 with ⟨q, d⟩ | ⟨q, ⟨e, d⟩ | ⟨e, d⟩⟩
  · rw [if_neg q] at hp
    exact Or.inr ⟨1, t, (zSt_dd hp).2, d⟩
  · rw [if_pos q, e] at hp
    exact Or.inr ⟨2, 400, (zSt_dd hp).2, d⟩
  · rw [if_pos q, zeat_ne _ e] at hp
    have hp : zSt P σc σ' Lc (.inr (t + 1, c ++ [])) := hp
    rw [List.append_nil] at hp
    exact Or.inl ⟨q, hp, d⟩
/-- a token taken -/
theorem J_take {σc σ τ : St} {K P V N : Nat → Nat} {Lc t : Nat} {c : List (Nat × Nat)} (hM : zTm τ K P V N) (hS : zSt P σc σ Lc (.inr (t, c))) (hA : zAm K τ t) (h0 : K t ≠ 0) : ∃ σ' τ', f_X4_take σ = some σ' ∧ f_X11_goesOn τ = some τ' ∧ zfE σ σ' ∧ zfT τ τ' ∧ ((zSt P σc σ' Lc (.inr (t + 1, c)) ∧ zAm K τ' (t + 1)) ∨ ∃ v p, zDd0 σ' P v p ∧ zDm P τ' v p) := by
  obtain ⟨f1, A1, L1⟩ := zSt_al hS
  obtain ⟨σ', a1, a2⟩ := C_take (P := P) A1 L1
  obtain ⟨τ', b1, b2, b3⟩ := M_goesOn hM hA h0
  have hp := zSt_pre hS a2
  refine ⟨σ', τ', a1, b1, a2.1, b2, ?_⟩
  rcases b3 with ⟨e, d⟩ | ⟨e, d⟩
  · rw [e] at hp
    exact Or.inr ⟨2, 400, (zSt_dd hp).2, d⟩
  · rw [zeat_ne _ e] at hp
    have hp : zSt P σc σ' Lc (.inr (t + 1, c ++ [])) := hp
    rw [List.append_nil] at hp
    exact Or.inl ⟨hp, d⟩
/-- an expression -/
theorem J_sum {σc σ τ : St} {K P V N : Nat → Nat} {Lc t cd E : Nat} {c : List (Nat × Nat)} (hV : ∀ j, K j = 3 → V j ≤ 9999) (hT : zTk σ K P V) (hM : zTm τ K P V N) (hS : zSt P σc σ Lc (.inr (t, c))) (hA : zAm K τ t) (h12 : τ.1 0 12 = 0) (h35 : τ.1 0 35 = nI cd) (hL : Lc + c.length + (400 - t) < 420) (hB : cd + (401 - t) ≤ E) (hE8 : E ≤ 840) : ∃ σ' τ', fR_readSum 8 σ 0 = some σ' ∧ f_X11_expression τ = some τ' ∧ zfE σ σ' ∧ zfM cd E τ τ' ∧ ((∃ t' c', t < t' ∧ t' ≤ 400 ∧ c'.length ≤ t' - t ∧ okR c' 0 ∧ zSt P σc σ' Lc (.inr (t', c ++ c')) ∧ zAm K τ' t' ∧ τ'.1 0 12 = 0 ∧ τ'.1 0 35 = nI (cd + c'.length) ∧ CM (τ'.1 21) (τ'.1 22) cd c') ∨ ∃ v p, zDd0 σ' P v p ∧ zDm P τ' v p) := by
  obtain ⟨f1, A1, L1⟩ := zSt_al hS
  have hK := hT.2.2
  have hG : zGd K 15 t (zSd K V 6 t) := zGd_Sd hK hV 6 t hA.1
  obtain ⟨σ', a1, a2⟩ := (C_readSum hV hK).1 σ t _ hT A1 L1 hL
  obtain ⟨τ', b1, b2, b3⟩ := M_expression hM hA h12 h35 hB hE8 hG
  have hp := zSt_pre hS a2
  refine ⟨σ', τ', a1, b1, a2.1, zfM_trans (zfM_0 _ _ _ (by omega)) b2, ?_⟩
  rcases b3 with ⟨v, p, b3, b4⟩ | ⟨t', c', b3, b4, b5, b6, b7⟩
  · rw [b3] at hp
    exact Or.inr ⟨v, p, (zSt_dd hp).2, b4⟩
  · rw [b3] at hp
    obtain ⟨g1, g2, g3, g4, g5⟩ := hG.2 t' c' b3
    exact Or.inl ⟨t', c', g1, g2, g3, okR_X g5, hp, b4, b5, b6, b7⟩
theorem J_sum_d {σ : St} {K P V : Nat → Nat} {v p : Nat} (hV : ∀ j, K j = 3 → V j ≤ 9999) (hT : zTk σ K P V) (hD : zDd0 σ P v p) : ∃ σ', fR_readSum 8 σ 0 = some σ' ∧ zfE σ σ' ∧ zDd0 σ' P v p := (C_readSum hV hT.2.2).2 σ v p hT hD
/-- the reference's term, behind its expression -/
theorem M_term_d {P : Nat → Nat} {τ : St} {v p w b c0 : Nat} (hD : zDm P τ v p) (h29 : τ.1 0 29 = nI b) (hb : b < 130 * w + 130) (hw : w ≤ 1) : ∃ τ', f_X11_term τ = some τ' ∧ zfL w b c0 τ τ' ∧ τ'.1 0 29 = nI (b + 1) ∧ zDm P τ' v p := by
  have b1 : ib (nI b) 260 = true := ib_t (by omega) (by omega)
  have g1 : (nI b).toNatClampNeg = b := nI_clamp (by omega)
  have D1 : zDm P (si τ 19 b (τ.1 0 35)) v p := ⟨hD.1, by rw [si_ne (by omega)]; exact hD.2.1, by rw [si_ne (by omega)]; exact hD.2.2⟩
  have e1 : (si τ 19 b (τ.1 0 35)).1 0 29 = nI b := by rw [si_ne (by omega)]; exact h29
  have e2 : (si (si τ 19 b (τ.1 0 35)) 20 b ((si τ 19 b (τ.1 0 35)).1 0 35)).1 0 29 = nI b := by rw [si_ne (by omega)]; exact e1
  refine ⟨_, ?_, zfL_trans (zfL_br τ 19 b (τ.1 0 35) (by omega) (by omega)) (zfL_trans (zfL_br _ 20 b ((si τ 19 b (τ.1 0 35)).1 0 35) (by omega) (by omega)) (zfL_0 _ 29 (nI (b + 1)) (by omega))), by rw [si_get, if_pos ⟨rfl, rfl⟩], zDm_0 ⟨D1.1, by rw [si_ne (by omega)]; exact D1.2.1, by rw [si_ne (by omega)]; exact D1.2.2⟩ (by omega)⟩
  unfold f_X11_term
  rw [h29, if_ib b1, g1, wlet_eq, wlet_eq, if_neg (zDm_ne D1)]
  dsimp only
  rw [e1, if_ib b1, g1, wlet_eq, wlet_eq, e2, ← nI_succ]
theorem J_term {σc σ τ : St} {K P V N : Nat → Nat} {Lc t cd w b : Nat} {c : List (Nat × Nat)} (hV : ∀ j, K j = 3 → V j ≤ 9999) (hT : zTk σ K P V) (hM : zTm τ K P V N) (hS : zSt P σc σ Lc (.inr (t, c))) (hA : zAm K τ t) (h12 : τ.1 0 12 = 0) (h35 : τ.1 0 35 = nI cd) (h29 : τ.1 0 29 = nI b) (hL : Lc + c.length + (400 - t) < 420) (hB : cd + (401 - t) ≤ 420 * w + 420) (hb : b < 130 * w + 130) (hw : w ≤ 1) : ∃ σ' τ', fR_readSum 8 σ 0 = some σ' ∧ f_X11_term τ = some τ' ∧ zfE σ σ' ∧ zfL w b cd τ τ' ∧ τ'.1 0 29 = nI (b + 1) ∧ ((∃ t' c', t < t' ∧ t' ≤ 400 ∧ c'.length ≤ t' - t ∧ okR c' 0 ∧ zSt P σc σ' Lc (.inr (t', c ++ c')) ∧ zAm K τ' t' ∧ τ'.1 0 12 = 0 ∧ τ'.1 0 35 = nI (cd + c'.length) ∧ CM (τ'.1 21) (τ'.1 22) cd c' ∧ (∀ k, 16 ≤ k → k ≤ 18 → τ'.1 k = τ.1 k) ∧ τ'.1 19 b = nI cd ∧ τ'.1 20 b = nI (cd + c'.length)) ∨ ∃ v p, zDd0 σ' P v p ∧ zDm P τ' v p) := by
  have b1 : ib (nI b) 260 = true := ib_t (by omega) (by omega)
  have g1 : (nI b).toNatClampNeg = b := nI_clamp (by omega)
  have fr1 : zfL w b cd τ (si τ 19 b (nI cd)) := zfL_br _ _ _ _ (by omega) (by omega)
  have A1 : zAm K (si τ 19 b (nI cd)) t := ⟨hA.1, by rw [si_ne (by omega)]; exact hA.2.1, by rw [si_ne (by omega)]; exact hA.2.2.1, hA.2.2.2⟩
  obtain ⟨σ', τ1, a1, a2, a3, a4, a5⟩ := J_sum (E := 420 * w + 420) hV hT (zTm_L fr1 hM) hS A1 (by rw [si_ne (by omega)]; exact h12) (by rw [si_ne (by omega)]; exact h35) hL hB (by omega)
  have e1 : τ1.1 0 29 = nI b := by rw [a4.2.1 29 (by omega) (by omega) (by omega) (by omega) (by omega) (by omega), si_ne (by omega)]; exact h29
  have e2 : (si τ1 20 b (τ1.1 0 35)).1 0 29 = nI b := by rw [si_ne (by omega)]; exact e1
  refine ⟨σ', si (si τ1 20 b (τ1.1 0 35)) 0 29 (nI (b + 1)), a1, ?_, a3, zfL_trans fr1 (zfL_trans (zfL_M a4 (Nat.le_refl _)) (zfL_trans (zfL_br _ _ _ _ (by omega) (by omega)) (zfL_0 _ _ _ (by omega)))), by rw [si_get, if_pos ⟨rfl, rfl⟩], ?_⟩
  · unfold f_X11_term
    rw [h29, if_ib b1, g1, h35, wlet_eq, wlet_eq, if_pos A1.2.2.1, bind_eq a2]
    dsimp only
    rw [e1, if_ib b1, g1, wlet_eq, wlet_eq, e2, ← nI_succ]
  · rcases a5 with ⟨t', c', d1, d2, d3, d4, d5, d6, d7, d8, d9⟩ | ⟨v, p, d1, d2⟩
    · refine Or.inl ⟨t', c', d1, d2, d3, d4, d5, zAm_0 ⟨d6.1, by rw [si_ne (by omega)]; exact d6.2.1, by rw [si_ne (by omega)]; exact d6.2.2.1, d6.2.2.2⟩ (by omega), ?_, ?_, ?_, fun k k1 k2 => ?_, ?_, ?_⟩
      · rw [si_get, if_neg (by omega), si_ne (by omega)]; exact d7
      · rw [si_get, if_neg (by omega), si_ne (by omega)]; exact d8
      · rw [si_ne (by omega), si_ne (by omega), si_ne (by omega), si_ne (by omega)]; exact d9
      · rw [si_ne (by omega), si_ne (by omega), a4.1 k (by omega) (by omega) (by omega) (by omega), si_ne (by omega)]
      · rw [si_ne (by omega), si_ne (by omega), a4.1 19 (by omega) (by omega) (by omega) (by omega), si_get, if_pos ⟨rfl, rfl⟩]
      · rw [si_ne (by omega), si_get, if_pos ⟨rfl, rfl⟩]; exact d8
    · exact Or.inr ⟨v, p, d1, zDm_0 ⟨d2.1, by rw [si_ne (by omega)]; exact d2.2.1, by rw [si_ne (by omega)]; exact d2.2.2⟩ (by omega)⟩
