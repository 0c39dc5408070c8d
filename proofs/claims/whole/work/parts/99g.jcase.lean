/-! STAGE B, 56: a case told, both side by side -/
theorem C_take2 {σ : St} {P : Nat → Nat} {t : Nat} (hA : zAl0 σ t) : f_X4_take σ = some (si σ 10 2 (nI (t + 1))) ∧ rgC σ (si σ 10 2 (nI (t + 1))) ∧ ((t = 400 ∧ zDd0 (si σ 10 2 (nI (t + 1))) P 2 400) ∨ (t ≠ 400 ∧ zAl0 (si σ 10 2 (nI (t + 1))) (t + 1))) := by
  obtain ⟨a1, a2, a3⟩ := hA
  have n1 : ¬ (400 : Int32) < nI t := fun z => by have := (nI_ltN (a := 400) (by omega) (by omega)).mp z; omega
  refine ⟨?_, rgC_10 _ _ _ (by omega), ?_⟩
  · unfold f_X4_take
    rw [if_pos a3, a2, if_neg n1, wlet_eq, ← nI_succ]
  · by_cases q : t = 400
    · exact Or.inl ⟨q, Or.inr rfl, Or.inl ⟨by rw [si_get, if_pos ⟨rfl, rfl⟩, q], rfl, rfl⟩⟩
    · exact Or.inr ⟨q, by omega, by rw [si_get, if_pos ⟨rfl, rfl⟩], by rw [si_get, if_neg (by omega)]; exact a3⟩
theorem J_takeg {σ τ : St} {K P V N : Nat → Nat} {t : Nat} (hM : zTm τ K P V N) (hA0 : zAl0 σ t) (hA : zAm K τ t) (h0 : K t ≠ 0) : ∃ σ' τ', f_X4_take σ = some σ' ∧ f_X11_goesOn τ = some τ' ∧ rgC σ σ' ∧ zfT τ τ' ∧ σ'.1 10 5 = σ.1 10 5 ∧ σ'.1 10 6 = σ.1 10 6 ∧ ((zAl0 σ' (t + 1) ∧ zAm K τ' (t + 1)) ∨ ∃ v p, zDd0 σ' P v p ∧ zDm P τ' v p) := by
  obtain ⟨a1, a2, a3⟩ := C_take2 (P := P) hA0
  obtain ⟨τ', b1, b2, b3⟩ := M_goesOn hM hA h0
  refine ⟨_, τ', a1, b1, a2, b2, by rw [si_get, if_neg (by omega)], by rw [si_get, if_neg (by omega)], ?_⟩
  rcases a3 with ⟨h, d⟩ | ⟨h, d⟩
  · rcases b3 with ⟨h', d'⟩ | ⟨h', d'⟩
    · exact Or.inr ⟨2, 400, d, d'⟩
    · exact absurd h h'
  · rcases b3 with ⟨h', d'⟩ | ⟨h', d'⟩
    · exact absurd h' h
    · exact Or.inl ⟨d, d'⟩
theorem J_mustg {σ τ : St} {K P V N : Nat → Nat} {t k : Nat} (hT : zTk σ K P V) (hM : zTm τ K P V N) (hA0 : zAl0 σ t) (hA : zAm K τ t) (h0 : k ≠ 0) (hk : k < 32) : ∃ σ' τ', f_X4_expect σ (nI k) = some σ' ∧ f_X11_must τ (nI (zrk k)) = some τ' ∧ rgC σ σ' ∧ zfT τ τ' ∧ ((K t = k ∧ σ'.1 10 5 = σ.1 10 5 ∧ σ'.1 10 6 = σ.1 10 6 ∧ zAl0 σ' (t + 1) ∧ zAm K τ' (t + 1)) ∨ ∃ v p, zDd0 σ' P v p ∧ zDm P τ' v p) := by
  obtain ⟨τ', b1, b2, b3⟩ := M_must hM hA h0 hk
  by_cases q : K t = k
  · obtain ⟨σ', a1, a2, a4, a5, a3⟩ := C_take1 hT hA0 hk q
    refine ⟨σ', τ', a1, b1, a2, b2, ?_⟩
    rcases b3 with ⟨h, _⟩ | ⟨_, b3⟩
    · exact absurd q h
    rcases a3 with ⟨h, d⟩ | ⟨h, d⟩
    · rcases b3 with ⟨h', d'⟩ | ⟨h', d'⟩
      · exact Or.inr ⟨2, 400, d, d'⟩
      · exact absurd h h'
    · rcases b3 with ⟨h', d'⟩ | ⟨h', d'⟩
      · exact absurd h' h
      · exact Or.inl ⟨q, a4, a5, d, d'⟩
  · obtain ⟨σ', a1, a2, a3⟩ := C_no1 hT hA0 hk q
    refine ⟨σ', τ', a1, b1, a2, b2, ?_⟩
    rcases b3 with ⟨_, d'⟩ | ⟨h, _⟩
    · exact Or.inr ⟨1, t, a3, d'⟩
    · exact absurd h q
/-- the name -/
theorem J_name {σ τ : St} {K P V N : Nat → Nat} {j n : Nat} {G : Prop} (hV : rdV K V N) (hP : rdP K P) (hT : zTk σ K P V) (hM : zTm τ K P V N) (hA0 : zAl0 σ j) (hA : zAm K τ j) (hn : n ≤ 7) (h6 : σ.1 15 6 = nI n) (h20 : τ.1 0 20 = nI n) (hN : rdN K V N σ τ j n) (hG : rdT G P j σ τ) (hk : K j = 2) : ∃ σ2 σ3 τ3 τ4, (∀ k : St → Option St, (Option.bind (f_X8_isNamed σ 15 (nL (V j))) fun v21 => if v21 = 0 then (k σ) else (Option.bind (f_X4_failLate σ (3 : Int32)) fun σ24 => k σ24)) = k σ2) ∧ f_X4_expect σ2 (nI 2) = some σ3 ∧ f_X11_must τ (nI (zrk 2)) = some τ3 ∧ lp (rmL (nI j)) fuel (τ3, 0) = some τ4 ∧ rgC σ σ3 ∧ rgM τ τ4 ∧ ((zAl0 σ3 (j + 1) ∧ zAm K τ4 (j + 1) ∧ rdT G P (j + 1) σ3 τ4) ∨ ∃ v p, zDd0 σ3 P v p ∧ zDm P τ4 v p) := by
  have j4 := hA.1
  obtain ⟨r, r1, r2⟩ := C_isNamed (v := nL (V j)) h6 hn
  obtain ⟨σL, eL⟩ : ∃ σL, σL = (if σ.1 10 5 = 0 then si (si σ 10 5 (nI 3)) 10 6 (nI (P j)) else σ) := ⟨_, rfl⟩
  have dL : f_X4_failLate σ (nI 3) = some σL := by rw [eL]; exact C_failLate hT hA0
  have fL : rgC σ σL := by
    rw [eL]
    split
    · exact rgC_trans (rgC_10 _ _ _ (by omega)) (rgC_10 _ _ _ (by omega))
    · exact rgC_refl _
  have kL : zAl0 σL j := by
    rw [eL]
    split
    · exact ⟨hA0.1, by rw [si_get, if_neg (by omega), si_get, if_neg (by omega)]; exact hA0.2.1, by rw [si_get, if_neg (by omega), si_get, if_neg (by omega)]; exact hA0.2.2⟩
    · exact hA0
  obtain ⟨σ2, s1, s2, s3, s4⟩ : ∃ σ2, (∀ k : St → Option St, (Option.bind (f_X8_isNamed σ 15 (nL (V j))) fun v21 => if v21 = 0 then (k σ) else (Option.bind (f_X4_failLate σ (3 : Int32)) fun σ24 => k σ24)) = k σ2) ∧ rgC σ σ2 ∧ zAl0 σ2 j ∧ ((σ2 = σL ∧ ∃ i, i < n ∧ σ.2 20 i = nL (V j)) ∨ (σ2 = σ ∧ ∀ i, i < n → ¬ σ.2 20 i = nL (V j))) := by
    rcases r2 with ⟨rfl, q⟩ | ⟨rfl, q⟩
    · exact ⟨σL, fun k => by rw [bind_eq r1, if_neg n10, show (3 : Int32) = nI 3 from rfl, bind_eq dL], fL, kL, Or.inl ⟨rfl, q⟩⟩
    · exact ⟨σ, fun k => by rw [bind_eq r1, if_pos rfl], rgC_refl _, hA0, Or.inr ⟨rfl, q⟩⟩
  obtain ⟨σ3, τ3, a1, a2, a3, a4, a5⟩ := J_mustg (k := 2) (zTk_C s2 hT) hM s3 hA (by omega) (by omega)
  rcases a5 with ⟨-, l5, l6, A3, B3⟩ | ⟨v, p, d1, d2⟩
  case inr => exact ⟨σ2, σ3, τ3, τ3, s1, a1, a2, rmL_d d2 _, rgC_trans s2 a3, rgM_T a4, Or.inr ⟨v, p, d1, d2⟩⟩
  have M3 := zTm_M (zfM_T (B := 0) (E := 0) a4) hM
  obtain ⟨-, e4, -, e6⟩ := M3.1 j hA.1 hA.2.2.2
  have e6 := e6 hk
  have t15 : τ3.1 0 15 = τ.1 0 15 := a4.2.1 15 (by omega) (by omega) (by omega)
  have t16 : τ3.1 0 16 = τ.1 0 16 := a4.2.1 16 (by omega) (by omega) (by omega)
  obtain ⟨τ4, c1, c2⟩ := M_names (P := P) (τ := τ3) (i := j) hn hA.1 (hP.2 j) (by rw [a4.2.1 20 (by omega) (by omega) (by omega)]; exact h20) e4 B3.2.2.1 (by
    rw [t15, t16]
    rcases hG with ⟨_, _, g⟩ | ⟨u, p, g1, g2, g3, g4, g5, g6, g7⟩
    · exact Or.inl g
    · exact Or.inr ⟨u, P p, g1, g2, g5, g7, Or.inl (hP.1 p j g3 hA.1 hA.2.2.2)⟩)
  have hE : ∀ i, i < n → (σ.2 20 i = nL (V j) ↔ τ3.2 8 i = τ3.2 6 j) := fun i hi => by
    obtain ⟨m, m1, m2, m3, m4⟩ := hN i hi
    rw [e6, a4.2.2, m3, m4]
    exact hV.2 m j m2 hk
  have hfin : rgM τ τ4 ∧ zAm K τ4 (j + 1) ∧ rdT G P (j + 1) σ3 τ4 := by
    rcases c2 with ⟨rfl, w⟩ | ⟨w1, rfl, i, i1, i2⟩
    · refine ⟨rgM_T a4, B3, ?_⟩
      rw [t15] at w
      rcases s4 with ⟨rfl, i, i1, i2⟩ | ⟨rfl, _⟩
      · -- named, and a late fault stands already
        have z : ¬ τ.1 0 15 = 0 := fun z => w z i i1 ((hE i i1).mp i2)
        rcases hG with ⟨_, _, g⟩ | ⟨u, p, g1, g2, g3, g4, g5, g6, g7⟩
        · exact absurd g z
        · have zz : ¬ σ.1 10 5 = 0 := by rw [g4]; exact fun z => g1 ((nI_eqN (b := 0) (by omega) (by omega)).mp z)
          rw [if_neg zz] at eL
          rw [eL] at l5 l6
          exact Or.inr ⟨u, p, g1, g2, by omega, l5.trans g4, t15.trans g5, l6.trans g6, t16.trans g7⟩
      · exact rdT_mono id (by omega) l5 l6 t15 t16 hG
    · rw [t15] at w1
      refine ⟨rgM_trans (rgM_T a4) (rgM_trans (rgM_0 _ _ _ (by omega)) (rgM_0 _ _ _ (by omega))), zAm_0 (zAm_0 B3 (by omega)) (by omega), ?_⟩
      rcases s4 with ⟨rfl, _⟩ | ⟨rfl, w⟩
      · rcases hG with ⟨_, g, _⟩ | ⟨u, p, g1, g2, g3, g4, g5, g6, g7⟩
        · rw [if_pos g] at eL
          right
          refine ⟨3, j, by omega, by omega, by omega, ?_, by rw [si_get, if_neg (by omega), si_get, if_pos ⟨rfl, rfl⟩], ?_, by rw [si_get, if_pos ⟨rfl, rfl⟩]⟩
          · rw [l5, eL, si_get, if_neg (by omega), si_get, if_pos ⟨rfl, rfl⟩]
          · rw [l6, eL, si_get, if_pos ⟨rfl, rfl⟩]
        · rw [g5] at w1
          exact absurd ((nI_eqN (b := 0) (by omega) (by omega)).mp w1) g1
      · exact absurd ((hE i i1).mpr i2) (w i i1)
  exact ⟨σ2, σ3, τ3, τ4, s1, a1, a2, c1, rgC_trans s2 a3, hfin.1, Or.inl ⟨A3, hfin.2⟩⟩
