/-! STAGE B, 57: a whole case, both side by side -/
def rmA (σ : St) : Option St := Option.bind (f_X11_roomFor σ (σ.1 9 (Int32.toNatClampNeg (σ.1 0 19))) (7 : Int32)) fun σ5 => if (σ5.1 0 13) = 0 then (Option.bind (f_X11_tellCase σ5) fun σ8 => some σ8) else (some σ5)
theorem J_case {σ τ : St} {K P V N : Nat → Nat} {s t L cd b : Nat} {T : Tx} (hs : s ≤ 1) (hV : rdV K V N) (hP : rdP K P) (hT : zTk σ K P V) (hM : zTm τ K P V N) (hX : rdX K P V N s σ τ t T L cd b) (hk : K t = 13) : ∃ σm σ' τ', f_X4_readCase σ = some σm ∧ f_X4_expect σm (nI 4) = some σ' ∧ rmA τ = some τ' ∧ rhC σ σ' ∧ rhM s τ τ' ∧ ((∃ t' T', t < t' ∧ rdX K P V N s σ' τ' t' T' L cd b) ∨ ∃ v p, zDd0 σ' P v p ∧ zDm P τ' v p) := by
  obtain ⟨⟨hA0, hA⟩, ⟨hTC, hTS, h7, hok⟩, ⟨hL, h12, h35, h29, h19, h20⟩, hN, hG, hl1, hl2, hl3, hl4, hl5⟩ := hX
  have t4 := hA.1
  have bs : ib (nI s) 2 = true := ib_t (by omega) (by omega)
  have gs : (nI s).toNatClampNeg = s := nI_clamp (by omega)
  by_cases q7 : tn T = 7
  · -- an eighth case
    obtain ⟨σ1, a1, a2, a3⟩ := C_fail (v := 2) hT hA0 (Or.inr rfl)
    obtain ⟨σ2, b1, b2, b3⟩ := C_expect_d (k := 4) (by omega) (by omega) σ1 2 t (zTk_E a2 hT) a3
    obtain ⟨τ1, c1, c2, c3, c4⟩ := M_fail hM hA (v := 2) (Or.inr rfl)
    refine ⟨σ1, σ2, τ1, ?_, b1, ?_, rhC_E (zfE_trans a2 b2), rhM_g (rgM_T c2), Or.inr ⟨2, t, b3, c4⟩⟩
    · unfold f_X4_readCase
      rw [hTC.1, q7, if_neg (by decide), show (2 : Int32) = nI 2 from rfl, bind_eq a1]
    · unfold rmA f_X11_roomFor
      rw [h19, gs, hTS.1, q7, wlet_eq, if_pos (show nI 7 = (7 : Int32) from rfl), show (2 : Int32) = nI 2 from rfl, bind_eq c1]
      dsimp only
      rw [if_neg (zDm_ne c4)]
      exact if_neg (zDm_ne c4)
  have hn : tn T < 7 := by omega
  have lt7 : σ.1 15 6 < (7 : Int32) := by rw [hTC.1]; exact (nI_ltN (b := 7) (by omega) (by omega)).mpr hn
  have ne7 : ¬ nI (tn T) = (7 : Int32) := fun z => by have := (nI_eqN (b := 7) (by omega) (by omega)).mp z; omega
  obtain ⟨σ1, τ1, a1, a2, a3, a4, a5, a6, a7⟩ := J_takeg (P := P) hM hA0 hA (by omega)
  have T1 := zTk_C a3 hT
  have M1 := zTm_M (zfM_T (B := 0) (E := 0) a4) hM
  have eR : rmA τ = if (τ1.1 0 13) = 0 then (Option.bind (f_X11_tellCase τ1) fun σ8 => some σ8) else (some τ1) := by
    unfold rmA f_X11_roomFor
    rw [h19, gs, hTS.1, wlet_eq, if_neg ne7]
    dsimp only
    rw [if_pos hA.2.2.1, bind_eq a2]
    rfl
  have eC : f_X4_readCase σ = Option.bind (f_X4_value σ1) fun v5 => Option.bind (f_X4_isNext σ1 (2 : Int32)) fun v7 => if v7 = 0 then (rcA v5 σ1) else (Option.bind (f_X8_isNamed σ1 15 v5) fun v21 => if v21 = 0 then (rcA v5 σ1) else (Option.bind (f_X4_failLate σ1 (3 : Int32)) fun σ24 => rcA v5 σ24)) := by
    unfold f_X4_readCase
    rw [if_pos lt7, bind_eq a1]
    rfl
  rcases a7 with ⟨A1, B1⟩ | ⟨v, p, d1, d2⟩
  case inr =>
    obtain ⟨x, x1⟩ := C_value_d d1
    have i1 := C_isNext_d T1 d1 (k := 2) (by omega) (by omega)
    obtain ⟨σm, σ', c1, c2, c3, c4⟩ := rcA_d (K := K) (V := V) x σ1 v p T1 d1
    refine ⟨σm, σ', τ1, ?_, c2, ?_, rhC_trans (rhC_g a3) c3, rhM_g (rgM_T a4), Or.inr ⟨v, p, c4, d2⟩⟩
    · rw [eC, bind_eq x1, show (2 : Int32) = nI 2 from rfl, bind_eq i1, if_pos rfl]; exact c1
    · rw [eR, if_neg (zDm_ne d2)]
  -- the name
  have u19 : τ1.1 0 19 = nI s := by rw [a4.2.1 19 (by omega) (by omega) (by omega)]; exact h19
  have u9 : τ1.1 9 s = nI (tn T) := by rw [a4.1 9 (by omega)]; exact hTS.1
  have u20 : τ1.1 0 20 = nI (tn T) := by rw [a4.2.1 20 (by omega) (by omega) (by omega)]; exact h20
  have h7s : (7 : Int32) * nI s + nI (tn T) = nI (7 * s + tn T) := by rw [show (7 : Int32) = nI 7 from rfl, znI_mul, nI_add']
  have eT : rmA τ = Option.bind (Option.bind (f_X11_must τ1 (nI (zrk 2))) fun σ5 => Option.bind (lp (rmL (nI (t + 1))) fuel (σ5, 0)) (rmB (nI (7 * s + tn T)) (nI (t + 1)))) fun σ8 => some σ8 := by
    rw [eR, if_pos B1.2.2.1]
    unfold f_X11_tellCase
    rw [u19, if_ib bs, gs, u9, h7s, B1.2.1, wlet_eq, wlet_eq]
    rfl
  have iv := C_value T1 A1
  have i1 := C_isNext T1 A1 (k := 2) (by omega)
  have N1 : rdN K V N σ1 τ1 (t + 1) (tn T) := fun i hi => by
    obtain ⟨m, m1, m2, m3, m4⟩ := hN i hi
    exact ⟨m, by omega, m2, by rw [a3.2.1]; exact m3, by rw [a4.2.2]; exact m4⟩
  have G1 : rdT (TxOK T) P (t + 1) σ1 τ1 := rdT_mono id (by omega) a5 a6 (a4.2.1 15 (by omega) (by omega) (by omega)) (a4.2.1 16 (by omega) (by omega) (by omega)) hG
  have s6 : σ1.1 15 6 = nI (tn T) := by rw [a3.1 15 (by omega)]; exact hTC.1
  by_cases k2 : K (t + 1) = 2
  case neg =>
    rw [if_neg k2] at i1
    obtain ⟨σ2, τ2, c1, c2, c3, c4, c5⟩ := J_mustg (k := 2) T1 M1 A1 B1 (by omega) (by omega)
    rcases c5 with ⟨h, _⟩ | ⟨v, p, d1, d2⟩
    · exact absurd h k2
    obtain ⟨σm, σ', e1, e2, e3, e4⟩ := rcB_d (K := K) (V := V) (nL (V (t + 1))) σ2 v p (zTk_C c3 T1) d1
    obtain ⟨τ3, g1, g2, g3⟩ := rmB_d hs hn d2 (nI (t + 1))
    refine ⟨σm, σ', τ3, ?_, e2, ?_, rhC_trans (rhC_g a3) (rhC_trans (rhC_g c3) e3), rhM_trans (rhM_g (rgM_T a4)) (rhM_trans (rhM_g (rgM_T c4)) g2), Or.inr ⟨v, p, e4, g3⟩⟩
    · rw [eC, bind_eq iv, show (2 : Int32) = nI 2 from rfl, bind_eq i1, if_pos rfl]
      unfold rcA
      rw [show (2 : Int32) = nI 2 from rfl, bind_eq c1]
      exact e1
    · rw [eT, bind_eq c2, bind_eq (rmL_d d2 _), g1]
      rfl
  rw [if_pos k2] at i1
  obtain ⟨σ2, σ3, τ3, τ4, c1, c2, c3, c4, c5, c6, c7⟩ := J_name hV hP T1 M1 A1 B1 h7 s6 u20 N1 G1 k2
  have eC : f_X4_readCase σ = rcB (nL (V (t + 1))) σ3 := by
    rw [eC, bind_eq iv, show (2 : Int32) = nI 2 from rfl, bind_eq i1, if_neg n10, c1 (rcA (nL (V (t + 1))))]
    unfold rcA
    exact bind_eq c2
  have eT : rmA τ = Option.bind (rmB (nI (7 * s + tn T)) (nI (t + 1)) τ4) fun σ8 => some σ8 := by
    rw [eT, bind_eq c3, bind_eq c4]
  have F3 := rgC_trans a3 c5
  have f4 := rgM_trans (rgM_T a4) c6
  have T3 := zTk_C F3 hT
  have M4 := zTm_fM f4 hM
  rcases c7 with ⟨A3, B4, G3⟩ | ⟨v, p, d1, d2⟩
  case inr =>
    obtain ⟨σm, σ', e1, e2, e3, e4⟩ := rcB_d (K := K) (V := V) (nL (V (t + 1))) σ3 v p T3 d1
    obtain ⟨τ5, g1, g2, g3⟩ := rmB_d hs hn d2 (nI (t + 1))
    refine ⟨σm, σ', τ5, by rw [eC]; exact e1, e2, by rw [eT, g1]; rfl, rhC_trans (rhC_g F3) e3, rhM_trans (rhM_g f4) g2, Or.inr ⟨v, p, e4, g3⟩⟩
  -- the first number
  obtain ⟨x, y, σ5, τ5, e1, e2, e3, e4, e5⟩ := J_num hV.1 hP T3 M4 A3 B4 (Or.inl rfl) G3
  have b14 : ib (nI (7 * s + tn T)) 14 = true := ib_t (by omega) (by omega)
  have g14 : (nI (7 * s + tn T)).toNatClampNeg = 7 * s + tn T := nI_clamp (by omega)
  have eC : f_X4_readCase σ = rcC (nL (V (t + 1))) x σ5 := by
    rw [eC]
    unfold rcB
    rw [show (99 : Int32) = nI 99 from rfl, bnd2_eq e1]
  have eT : rmA τ = Option.bind (rmC (nI (7 * s + tn T)) (nI (t + 1)) (si τ5 10 (7 * s + tn T) y)) fun σ8 => some σ8 := by
    rw [eT]
    unfold rmB
    rw [show (99 : Int32) = nI 99 from rfl, bnd2_eq e2, if_ib b14, g14, wlet_eq]
  have F5 := rgC_trans F3 e3
  have f5 := rgM_trans f4 e4
  have f5' : rhM s τ (si τ5 10 (7 * s + tn T) y) := rhM_trans (rhM_g f5) (rhM_10 _ _ _ _ (Or.inl rfl) (by omega))
  have T5 := zTk_C F5 hT
  rcases e5 with ⟨k3, rfl, rfl, A5, B5, G5⟩ | ⟨v, p, d1, d2⟩
  case inr =>
    obtain ⟨σm, σ', z1, z2, z3, z4⟩ := rcC_d (K := K) (V := V) (nL (V (t + 1))) x σ5 v p T5 d1
    obtain ⟨τ6, g1, g2, g3⟩ := rmC_d hs hn (zDm_ne0 (c := 10) (i := 7 * s + tn T) (x := y) d2 (by omega)) (nI (t + 1))
    exact ⟨σm, σ', τ6, by rw [eC]; exact z1, z2, by rw [eT, g1]; rfl, rhC_trans (rhC_g F5) z3, rhM_trans f5' g2, Or.inr ⟨v, p, z4, g3⟩⟩
  obtain ⟨d, hd⟩ : ∃ d, d = V (t + 1 + 1) := ⟨_, rfl⟩
  rw [← hd] at eC eT G5 f5'
  have M5 := zTm_H f5' hM
  have B5' : zAm K (si τ5 10 (7 * s + tn T) (nI d)) (t + 1 + 1 + 1) := ⟨B5.1, by rw [si_ne (by omega)]; exact B5.2.1, by rw [si_ne (by omega)]; exact B5.2.2.1, B5.2.2.2⟩
  have G5' : rdT (TxOK T ∧ d ≤ 99) P (t + 1 + 1 + 1) σ5 (si τ5 10 (7 * s + tn T) (nI d)) := rdT_mono id (Nat.le_refl _) rfl rfl (by rw [si_ne (by omega)]) (by rw [si_ne (by omega)]) G5
  -- the second number
  obtain ⟨x, y, σ6, τ6, e1, e2, e6, e7, e8⟩ := J_num hV.1 hP T5 M5 A5 B5' (Or.inl rfl) G5'
  have F6 := rgC_trans F5 e6
  have f6 := rhM_trans f5' (rhM_g (s := s) e7)
  have f6' : rhM s τ (si τ6 11 (7 * s + tn T) y) := rhM_trans f6 (rhM_10 _ _ _ _ (Or.inr rfl) (by omega))
  have T6 := zTk_C F6 hT
  have eT : rmA τ = Option.bind (rmD (nI (t + 1)) (si τ6 11 (7 * s + tn T) y)) fun σ8 => some σ8 := by
    rw [eT]
    unfold rmC
    rw [show (99 : Int32) = nI 99 from rfl, bnd2_eq e2, if_ib b14, g14, wlet_eq]
  have eC : f_X4_readCase σ = f_X8_addCase σ6 15 (nL (V (t + 1))) (nI d) x := by
    rw [eC]
    unfold rcC
    rw [show (99 : Int32) = nI 99 from rfl, bnd2_eq e1]
    cases f_X8_addCase σ6 15 (nL (V (t + 1))) (nI d) x <;> rfl
  rcases e8 with ⟨k4, rfl, rfl, A6, B6, G6⟩ | ⟨v, p, d1, d2⟩
  case inr =>
    obtain ⟨σ7, z1, z2, z3⟩ := C_addCase_any σ6 (nL (V (t + 1))) (nI d) x
    have F7 := rhC_trans (rhC_g F6) z2
    obtain ⟨σ8, w1, w2, w3⟩ := C_expect_d (k := 4) (by omega) (by omega) σ7 v p (zTk_H F7 hT) (zDd0_E z3 d1)
    have D' := zDm_ne0 (c := 11) (i := 7 * s + tn T) (x := y) d2 (by omega)
    exact ⟨σ7, σ8, _, by rw [eC]; exact z1, w1, by rw [eT, rmD_d D']; rfl, rhC_trans F7 (rhC_E w2), f6', Or.inr ⟨v, p, w3, D'⟩⟩
  obtain ⟨w, hw⟩ : ∃ w, w = V (t + 1 + 1 + 1) := ⟨_, rfl⟩
  rw [← hw] at eC eT G6 f6'
  -- the case is put down in the class
  have z6 : σ6.1 15 6 = nI (tn T) := by rw [F6.1 15 (by omega)]; exact hTC.1
  have b7 : ib (nI (tn T)) 7 = true := ib_t (by omega) (by omega)
  have g7 : (nI (tn T)).toNatClampNeg = tn T := nI_clamp (by omega)
  obtain ⟨σ7, e7'⟩ : ∃ σ7, σ7 = si (si (si (sj σ6 20 (tn T) (nL (V (t + 1)))) 18 (tn T) (nI d)) 19 (tn T) (nI w)) 15 6 (nI (tn T + 1)) := ⟨_, rfl⟩
  have eC : f_X4_readCase σ = some σ7 := by
    have n1 : ¬ nI (tn T) < 0 := nI_pos (by omega)
    have n2 : ¬ (7 : Int32) ≤ nI (tn T) := fun z => by have := (nI_leN (a := 7) (by omega) (by omega)).mp z; omega
    have q1 : (sj σ6 20 (tn T) (nL (V (t + 1)))).1 15 6 = nI (tn T) := z6
    have q2 : (si (sj σ6 20 (tn T) (nL (V (t + 1)))) 18 (tn T) (nI d)).1 15 6 = nI (tn T) := by rw [si_ne (by omega)]; exact q1
    have q3 : (si (si (sj σ6 20 (tn T) (nL (V (t + 1)))) 18 (tn T) (nI d)) 19 (tn T) (nI w)).1 15 6 = nI (tn T) := by rw [si_ne (by omega)]; exact q2
    rw [eC]
    unfold f_X8_addCase
    rw [z6, if_neg n1, if_neg n2, if_ib b7, g7, wlet_eq, q1, if_ib b7, g7, wlet_eq, q2, if_ib b7, g7, wlet_eq, q3, wlet_eq, ← nI_succ, ← e7']
  have F7 : rhC σ σ7 := rhC_trans (rhC_g F6) (by rw [e7']; exact rhC_trans (rhC_sj _ _ _) (rhC_trans (rhC_si _ _ _ _ (by omega)) (rhC_trans (rhC_si _ _ _ _ (by omega)) (rhC_si _ _ _ _ (by omega)))))
  have s10 : σ7.1 10 = σ6.1 10 := by rw [e7', si_ne (by omega), si_ne (by omega), si_ne (by omega)]; rfl
  have A7 : zAl0 σ7 (t + 1 + 1 + 1 + 1) := ⟨A6.1, by rw [s10]; exact A6.2.1, by rw [s10]; exact A6.2.2⟩
  obtain ⟨τ7, e8'⟩ : ∃ τ7, τ7 = si τ6 11 (7 * s + tn T) (nI w) := ⟨_, rfl⟩
  rw [← e8'] at eT f6'
  have B7 : zAm K τ7 (t + 1 + 1 + 1 + 1) := ⟨B6.1, by rw [e8', si_ne (by omega)]; exact B6.2.1, by rw [e8', si_ne (by omega)]; exact B6.2.2.1, B6.2.2.2⟩
  have T7 := zTk_H F7 hT
  have M7 := zTm_H f6' hM
  obtain ⟨σ8, τ8, c1, c2, c3, c4, c5⟩ := J_mustg (k := 4) T7 M7 A7 B7 (by omega) (by omega)
  have F8 := rhC_trans F7 (rhC_g c3)
  have f8 := rhM_trans f6' (rhM_g (s := s) (rgM_T c4))
  have eT : rmA τ = Option.bind (if (τ8.1 0 13) ≤ 0 then (if ib (nI (t + 1)) 403 = true then if ib (τ8.1 0 20) 7 = true then wlet (sj τ8 8 (Int32.toNatClampNeg (τ8.1 0 20)) (τ8.2 6 (Int32.toNatClampNeg (nI (t + 1))))) fun σ22 => wlet (si σ22 0 20 ((σ22.1 0 20) + (1 : Int32))) fun σ23 => if ib (σ23.1 0 19) 2 = true then if ib (σ23.1 0 19) 2 = true then wlet (si σ23 9 (Int32.toNatClampNeg (σ23.1 0 19)) ((σ23.1 9 (Int32.toNatClampNeg (σ23.1 0 19))) + (1 : Int32))) fun σ26 => some σ26 else none else none else none else none) else (some τ8)) fun σ8 => some σ8 := by
    rw [eT]
    unfold rmD
    rw [show (4 : Int32) = nI (zrk 4) from rfl, bind_eq c2]
  rcases c5 with ⟨-, l5, l6, A8, B8⟩ | ⟨v, p, d1, d2⟩
  case inr =>
    exact ⟨σ7, σ8, τ8, eC, c1, by rw [eT, if_neg (zDm_pos d2)]; rfl, F8, f8, Or.inr ⟨v, p, d1, d2⟩⟩
  -- and in the reference
  have y20 : τ8.1 0 20 = nI (tn T) := by
    rw [c4.2.1 20 (by omega) (by omega) (by omega), e8', si_ne (by omega), e7.2.1 20 (by omega) (by omega) (by omega) (by omega) (by omega), si_ne (by omega), f5.2.1 20 (by omega) (by omega) (by omega) (by omega) (by omega)]
    exact h20
  have y19 : τ8.1 0 19 = nI s := by rw [f8.2.1 19 (by omega) (by omega) (by omega) (by omega) (by omega)]; exact h19
  have y9 : τ8.1 9 s = nI (tn T) := by
    rw [c4.1 9 (by omega), e8', si_ne (by omega), e7.1 9 (by omega), si_ne (by omega), f5.1 9 (by omega)]
    exact hTS.1
  have bt : ib (nI (t + 1)) 403 = true := ib_t (by omega) (by omega)
  have gt : (nI (t + 1)).toNatClampNeg = t + 1 := nI_clamp (by omega)
  have M8 := zTm_H f8 hM
  obtain ⟨-, -, -, e6n⟩ := M8.1 (t + 1) (by have := B1.1; omega) B1.2.2.2
  have e6n := e6n k2
  obtain ⟨τ9, e9⟩ : ∃ τ9, τ9 = si (si (sj τ8 8 (tn T) (nL (N (t + 1)))) 0 20 (nI (tn T + 1))) 9 s (nI (tn T + 1)) := ⟨_, rfl⟩
  have eT : rmA τ = some τ9 := by
    have p8 : τ8.1 0 13 ≤ 0 := by rw [B8.2.2.1]; decide
    have q0 : (sj τ8 8 (tn T) (nL (N (t + 1)))).1 0 20 = nI (tn T) := y20
    have q1 : (si (sj τ8 8 (tn T) (nL (N (t + 1)))) 0 20 (nI (tn T + 1))).1 0 19 = nI s := by rw [si_get, if_neg (by omega)]; exact y19
    have q2 : (si (sj τ8 8 (tn T) (nL (N (t + 1)))) 0 20 (nI (tn T + 1))).1 9 s = nI (tn T) := by rw [si_ne (by omega)]; exact y9
    rw [eT, if_pos p8, if_ib bt, y20, if_ib b7, g7, gt, e6n, wlet_eq, q0, ← nI_succ, wlet_eq, q1, if_ib bs, if_ib bs, gs, q2, ← nI_succ, wlet_eq, ← e9]
    rfl
  have f9 : rhM s τ τ9 := rhM_trans f8 (by rw [e9]; exact rhM_trans (rhM_j _ _ _) (rhM_trans (rhM_0 _ _ _ (by omega)) (rhM_9 _ _ _ (Or.inl rfl))))
  have s0 : ∀ i, i ≠ 20 → τ9.1 0 i = τ8.1 0 i := fun i hi => by rw [e9, si_ne (by omega), si_get, if_neg (by omega)]; rfl
  have sc : ∀ c, c ≠ 0 → c ≠ 9 → τ9.1 c = τ8.1 c := fun c h1 h2 => by rw [e9, si_ne h2, si_ne h1]; rfl
  -- the class's text
  have w15 : ∀ i, i ≠ 6 → σ8.1 15 i = σ.1 15 i := fun i hi => by rw [c3.1 15 (by omega), e7', si_get, if_neg (by omega), si_ne (by omega), si_ne (by omega), sj_get1, F6.1 15 (by omega)]
  have wc : ∀ c, 16 ≤ c → c ≤ 17 → σ8.1 c = σ.1 c := fun c h1 h2 => by rw [c3.1 c (by omega), e7', si_ne (by omega), si_ne (by omega), si_ne (by omega), sj_get1, F6.1 c (by omega)]
  have w8 : ∀ c, 12 ≤ c → c ≤ 22 → τ9.1 c = τ.1 c := fun c h1 h2 => by rw [sc c (by omega) (by omega), c4.1 c (by omega), e8', si_ne (by omega), e7.1 c (by omega), si_ne (by omega), f5.1 c (by omega)]
  refine ⟨σ7, σ8, τ9, eC, c1, eT, F8, f9, Or.inl ⟨t + 1 + 1 + 1 + 1 + 1, txA T d w, by omega, ⟨A8, ⟨B8.1, by rw [s0 11 (by omega)]; exact B8.2.1, by rw [s0 13 (by omega)]; exact B8.2.2.1, B8.2.2.2⟩⟩, ⟨?_, ?_, by show tn T + 1 ≤ 7; omega, hok⟩, ⟨by rw [w15 5 (by omega)]; exact hL, ?_, ?_, ?_, by rw [s0 19 (by omega)]; exact y19, ?_⟩, ?_, ?_, by omega, hl2, by omega, hl4, by omega⟩⟩
  · refine txA_C hn hTC (wc 16 (by omega) (by omega)) (wc 17 (by omega) (by omega)) w15 ?_ (fun c hc => ?_) (fun c hc => ?_) ?_ ?_
    · rw [c3.1 15 (by omega), e7', si_get, if_pos ⟨rfl, rfl⟩]
    · rw [c3.1 18 (by omega), e7', si_ne (by omega), si_ne (by omega), si_get, if_neg (by omega), sj_get1, F6.1 18 (by omega)]
    · rw [c3.1 19 (by omega), e7', si_ne (by omega), si_get, if_neg (by omega), si_ne (by omega), sj_get1, F6.1 19 (by omega)]
    · rw [c3.1 18 (by omega), e7', si_ne (by omega), si_ne (by omega), si_get, if_pos ⟨rfl, rfl⟩]
    · rw [c3.1 19 (by omega), e7', si_ne (by omega), si_get, if_pos ⟨rfl, rfl⟩]
  · refine txA_S hn hTS w8 ?_ (fun c hc => ?_) (fun c hc => ?_) ?_ ?_
    · rw [e9, si_get, if_pos ⟨rfl, rfl⟩]
    · rw [sc 10 (by omega) (by omega), c4.1 10 (by omega), e8', si_ne (by omega), e7.1 10 (by omega), si_get, if_neg (by omega), f5.1 10 (by omega)]
    · rw [sc 11 (by omega) (by omega), c4.1 11 (by omega), e8', si_get, if_neg (by omega), e7.1 11 (by omega), si_ne (by omega), f5.1 11 (by omega)]
    · rw [sc 10 (by omega) (by omega), c4.1 10 (by omega), e8', si_ne (by omega), e7.1 10 (by omega), si_get, if_pos ⟨rfl, rfl⟩]
    · rw [sc 11 (by omega) (by omega), c4.1 11 (by omega), e8', si_get, if_pos ⟨rfl, rfl⟩]
  · rw [s0 12 (by omega), c4.2.1 12 (by omega) (by omega) (by omega), e8', si_ne (by omega), e7.2.1 12 (by omega) (by omega) (by omega) (by omega) (by omega), si_ne (by omega), f5.2.1 12 (by omega) (by omega) (by omega) (by omega) (by omega)]; exact h12
  · rw [s0 35 (by omega), c4.2.1 35 (by omega) (by omega) (by omega), e8', si_ne (by omega), e7.2.1 35 (by omega) (by omega) (by omega) (by omega) (by omega), si_ne (by omega), f5.2.1 35 (by omega) (by omega) (by omega) (by omega) (by omega)]; exact h35
  · rw [s0 29 (by omega), c4.2.1 29 (by omega) (by omega) (by omega), e8', si_ne (by omega), e7.2.1 29 (by omega) (by omega) (by omega) (by omega) (by omega), si_ne (by omega), f5.2.1 29 (by omega) (by omega) (by omega) (by omega) (by omega)]; exact h29
  · rw [e9, si_ne (by omega), si_get, if_pos ⟨rfl, rfl⟩]; rfl
  · -- the names
    have hi : ∀ i, i < tn T + 1 → ∃ j, j < t + 1 + 1 + 1 + 1 + 1 ∧ K j = 2 ∧ σ8.2 20 i = nL (V j) ∧ τ9.2 8 i = nL (N j) := fun i hi => by
      by_cases e : i = tn T
      · refine ⟨t + 1, by omega, k2, ?_, ?_⟩
        · rw [c3.2.1, e7']
          show (sj σ6 20 (tn T) (nL (V (t + 1)))).2 20 i = _
          rw [sj_get, if_pos ⟨rfl, e⟩]
        · rw [e9]
          show (sj τ8 8 (tn T) (nL (N (t + 1)))).2 8 i = _
          rw [sj_get, if_pos ⟨rfl, e⟩]
      · obtain ⟨m, m1, m2, m3, m4⟩ := hN i (by omega)
        refine ⟨m, by omega, m2, ?_, ?_⟩
        · rw [c3.2.1, e7']
          show (sj σ6 20 (tn T) (nL (V (t + 1)))).2 20 i = _
          rw [sj_get, if_neg (fun z => e z.2), F6.2.1]; exact m3
        · rw [e9]
          show (sj τ8 8 (tn T) (nL (N (t + 1)))).2 8 i = _
          rw [sj_get, if_neg (fun z => e z.2), c4.2.2, e8']
          show τ6.2 8 i = _
          rw [e7.2.2]
          show τ5.2 8 i = _
          rw [f5.2.2]; exact m4
    exact hi
  · refine rdT_mono (txA_ok hn) (by omega) (t' := t + 1 + 1 + 1 + 1 + 1) ?_ ?_ ?_ ?_ G6
    · rw [l5, s10]
    · rw [l6, s10]
    · rw [s0 15 (by omega), c4.2.1 15 (by omega) (by omega) (by omega), e8', si_ne (by omega)]
    · rw [s0 16 (by omega), c4.2.1 16 (by omega) (by omega) (by omega), e8', si_ne (by omega)]
