/-! STAGE B, 52: a whole law, both side by side -/
def rfW (k : Nat) (σ σ' : St) : Prop := (∀ c, c ≠ 10 → c ≠ 15 → c ≠ 16 → c ≠ 17 → σ'.1 c = σ.1 c) ∧ σ'.2 = σ.2 ∧ (∀ i, i ≠ 5 → σ'.1 15 i = σ.1 15 i) ∧ (∀ i, i ≠ 2 → i ≠ 3 → i ≠ 4 → σ'.1 10 i = σ.1 10 i) ∧ ∀ i, i ≠ k → σ'.1 17 i = σ.1 17 i
theorem rfW_trans {k : Nat} {a b c : St} (h : rfW k a b) (g : rfW k b c) : rfW k a c := ⟨fun i h1 h2 h3 h4 => (g.1 i h1 h2 h3 h4).trans (h.1 i h1 h2 h3 h4), g.2.1.trans h.2.1, fun i hi => (g.2.2.1 i hi).trans (h.2.2.1 i hi), fun i h1 h2 h3 => (g.2.2.2.1 i h1 h2 h3).trans (h.2.2.2.1 i h1 h2 h3), fun i hi => (g.2.2.2.2 i hi).trans (h.2.2.2.2 i hi)⟩
theorem rfW_E {k : Nat} {a b : St} (h : zfE a b) : rfW k a b := ⟨fun c h1 h2 h3 _ => h.1 c h1 h2 h3, h.2.1, h.2.2.1, h.2.2.2, fun i _ => by rw [h.1 17 (by omega) (by omega) (by omega)]⟩
theorem rfW_17 (k : Nat) (σ : St) (v : Int32) : rfW k σ (si σ 17 k v) := ⟨fun c _ _ _ h => si_ne h, rfl, fun i _ => by rw [si_ne (by omega)], fun i _ _ _ => by rw [si_ne (by omega)], fun i h => by rw [si_get, if_neg (by omega)]⟩
theorem zTk_W {k : Nat} {σ σ' : St} {K P V : Nat → Nat} (h : rfW k σ σ') (hT : zTk σ K P V) : zTk σ' K P V := by
  unfold zTk at hT ⊢
  rw [h.1 12 (by omega) (by omega) (by omega) (by omega), h.1 13 (by omega) (by omega) (by omega) (by omega), h.2.1]; exact hT
def rfV (q w b0 c0 : Nat) (τ τ' : St) : Prop := (∀ c, c ≠ 0 → c ≠ 14 → c ≠ 15 → (c < 16 ∨ 23 < c) → τ'.1 c = τ.1 c) ∧ (∀ i, i ≠ 11 → i ≠ 12 → i ≠ 13 → i ≠ 14 → i ≠ 29 → i ≠ 35 → i ≠ 39 → τ'.1 0 i = τ.1 0 i) ∧ τ'.2 = τ.2 ∧ (∀ c i, 16 ≤ c → c ≤ 20 → (i < b0 ∨ 130 * w + 130 ≤ i) → τ'.1 c i = τ.1 c i) ∧ (∀ c i, 21 ≤ c → c ≤ 22 → (i < c0 ∨ 420 * w + 420 ≤ i) → τ'.1 c i = τ.1 c i) ∧ ∀ i, i ≠ q → τ'.1 14 i = τ.1 14 i ∧ τ'.1 15 i = τ.1 15 i
theorem rfV_L {q w b0 c0 : Nat} {a b : St} (h : zfL w b0 c0 a b) : rfV q w b0 c0 a b := ⟨fun c h1 _ _ h2 => h.1 c h1 h2, h.2.1, h.2.2.1, h.2.2.2.1, h.2.2.2.2, fun i _ => ⟨by rw [h.1 14 (by omega) (by omega)], by rw [h.1 15 (by omega) (by omega)]⟩⟩
theorem rfV_trans {q w b0 c0 : Nat} {a b c : St} (h : rfV q w b0 c0 a b) (g : rfV q w b0 c0 b c) : rfV q w b0 c0 a c := ⟨fun k h1 h2 h3 h4 => (g.1 k h1 h2 h3 h4).trans (h.1 k h1 h2 h3 h4), fun i h1 h2 h3 h4 h5 h6 h7 => (g.2.1 i h1 h2 h3 h4 h5 h6 h7).trans (h.2.1 i h1 h2 h3 h4 h5 h6 h7), g.2.2.1.trans h.2.2.1, fun k i h1 h2 h3 => (g.2.2.2.1 k i h1 h2 h3).trans (h.2.2.2.1 k i h1 h2 h3), fun k i h1 h2 h3 => (g.2.2.2.2.1 k i h1 h2 h3).trans (h.2.2.2.2.1 k i h1 h2 h3), fun i hi => ⟨(g.2.2.2.2.2 i hi).1.trans (h.2.2.2.2.2 i hi).1, (g.2.2.2.2.2 i hi).2.trans (h.2.2.2.2.2 i hi).2⟩⟩
theorem rfV_14 {q w b0 c0 c : Nat} (τ : St) (v : Int32) (h : c = 14 ∨ c = 15) : rfV q w b0 c0 τ (si τ c q v) := ⟨fun k _ h1 h2 _ => si_ne (by omega), fun i _ _ _ _ _ _ _ => by rw [si_ne (by omega)], rfl, fun k i h1 h2 _ => by rw [si_ne (by omega)], fun k i h1 h2 _ => by rw [si_ne (by omega)], fun i hi => ⟨by rw [si_get, if_neg (by omega)], by rw [si_get, if_neg (by omega)]⟩⟩
def rdE2 (σ_116_8 : St) : Option St := Option.bind (fR_readSum 8 σ_116_8 (0 : Int32)) fun σ10 => bnd2 (f_X8_addStep σ10 15 (7 : Int32) (0 : Int32)) fun v12 σ13 => some σ13
def rdE (σe15_5 : St) : Option St := Option.bind (f_X4_isNext σe15_5 (20 : Int32)) fun v7 => wlet rdE2 fun k116_8 => if v7 = 0 then (k116_8 σe15_5) else (Option.bind (f_X4_fail σe15_5 (2 : Int32)) fun σ16 => k116_8 σ16)
def rdF (x1 v3 : Int32) (σe12_4 : St) : Option St := if ib (σe12_4.1 0 29) 260 = true then wlet (si σe12_4 16 (Int32.toNatClampNeg (σe12_4.1 0 29)) (vp_nar .boolean (0 : Int32))) fun σ6 => Option.bind (f_X11_term σ6) fun σ8 => Option.bind (f_X11_must σ8 (4 : Int32)) fun σ10 => if (σ10.1 0 13) ≤ 0 then (if ib (((4 : Int32) * (σ10.1 0 19)) + x1) 8 = true then wlet (si σ10 14 (Int32.toNatClampNeg (((4 : Int32) * (σ10.1 0 19)) + x1)) v3) fun σ13 => if ib (((4 : Int32) * (σ13.1 0 19)) + x1) 8 = true then wlet (si σ13 15 (Int32.toNatClampNeg (((4 : Int32) * (σ13.1 0 19)) + x1)) (σ13.1 0 29)) fun σ15 => some σ15 else none else none) else (some σ10) else none
theorem rdE2_d {K P V : Nat → Nat} (hV : ∀ j, K j = 3 → V j ≤ 9999) (hK : ∀ j, K j ≤ 31) {σ : St} {v p : Nat} (hT : zTk σ K P V) (hD : zDd0 σ P v p) : ∃ σm σ', rdE2 σ = some σm ∧ f_X4_expect σm (nI 4) = some σ' ∧ zfE σ σ' ∧ zDd0 σ' P v p := by
  obtain ⟨σ1, a1, a2, a3⟩ := (C_readSum hV hK).2 σ v p hT hD
  obtain ⟨x, σ2, b1, b2, b3⟩ := C_addStep_d σ1 7 0
  have a4 := zfE_trans a2 b2
  obtain ⟨σ3, c1, c2, c3⟩ := C_expect_d (k := 4) (by omega) (by omega) σ2 v p (zTk_E a4 hT) (zDd0_E b3 a3)
  exact ⟨σ2, σ3, by unfold rdE2; rw [bind_eq a1, bnd2_eq b1], c1, zfE_trans a4 c2, c3⟩
theorem J_law {σ τ : St} {K P V N : Nat → Nat} {L t s c0 b0 k : Nat} (hV : ∀ j, K j = 3 → V j ≤ 9999) (hT : zTk σ K P V) (hM : zTm τ K P V N) (hA0 : zAl0 σ t) (hL5 : σ.1 15 5 = nI L) (hA : zAm K τ t) (h12 : τ.1 0 12 = 0) (h35 : τ.1 0 35 = nI c0) (h29 : τ.1 0 29 = nI b0) (h19 : τ.1 0 19 = nI s) (hs : s ≤ 1) (hk : k < 4) (hL : L + (400 - t) < 420) (hB : c0 + (401 - t) ≤ 420 * s + 420) (hb : b0 + 5 < 130 * s + 130) :
    ∃ σm σ' τ', f_X4_readLaw σ (nI k) = some σm ∧ f_X4_expect σm (nI 4) = some σ' ∧ f_X11_tellLaw τ (nI k) = some τ' ∧ rfW k σ σ' ∧ rfV (4 * s + k) s b0 c0 τ τ' ∧ ((∃ t' r e L' cd' B, t < t' ∧ okL r e ∧ zAl0 σ' t' ∧ σ'.1 15 5 = nI L' ∧ L' ≤ L + (t' - t) ∧ L ≤ L' ∧ (∀ i, i < L → σ'.1 16 i = σ.1 16 i) ∧ σ'.1 17 k = nI L ∧ CLaw (σ'.1 16) L L' r e ∧ zAm K τ' t' ∧ τ'.1 0 12 = 0 ∧ τ'.1 0 35 = nI cd' ∧ c0 ≤ cd' ∧ cd' ≤ c0 + (t' - t) ∧ τ'.1 0 29 = nI B ∧ b0 ≤ B ∧ 4 * B ≤ 4 * b0 + (t' - t) + 1 ∧ MLaw τ' c0 cd' b0 B r e ∧ τ'.1 14 (4 * s + k) = nI b0 ∧ τ'.1 15 (4 * s + k) = nI B) ∨ ∃ v p, zDd0 σ' P v p ∧ zDm P τ' v p) := by
  have hK := hT.2.2
  have hfu : 4 < fuel := by rw [fuel_eq]; omega
  have nk1 : ¬ nI k < 0 := nI_pos (by omega)
  have nk2 : ¬ (4 : Int32) ≤ nI k := fun z => by have := (nI_leN (a := 4) (by omega) (by omega)).mp z; omega
  obtain ⟨σ2, τ2, a1, a2, a3, a4, a5⟩ := J_must (k := 5) hT hM (zSt_0 hA0 hL5) hA (by omega) (by omega)
  obtain ⟨σ4, e4⟩ : ∃ σ4, σ4 = si σ2 17 k (σ2.1 15 5) := ⟨_, rfl⟩
  have hbg : f_X8_beginLaw σ2 15 (nI k) = some σ4 := by
    unfold f_X8_beginLaw
    rw [if_neg nk1, if_neg nk2, if_ib (ib_t (by omega) (by omega)), nI_clamp (by omega), wlet_eq, ← e4]
  have W4 : rfW k σ σ4 := rfW_trans (rfW_E a3) (by rw [e4]; exact rfW_17 _ _ _)
  have L2 : zfL s b0 c0 τ τ2 := zfL_T a4
  have T4 := zTk_W W4 hT
  have M2 := zTm_L L2 hM
  have r29 : τ2.1 0 29 = nI b0 := by rw [a4.2.1 29 (by omega) (by omega) (by omega)]; exact h29
  have r12 : τ2.1 0 12 = 0 := by rw [a4.2.1 12 (by omega) (by omega) (by omega)]; exact h12
  have r35 : τ2.1 0 35 = nI c0 := by rw [a4.2.1 35 (by omega) (by omega) (by omega)]; exact h35
  have s10 : σ4.1 10 = σ2.1 10 := by rw [e4, si_ne (by omega)]
  obtain ⟨t0, ht0, hx0, hI0⟩ : ∃ t0, t < t0 ∧ (t0 = 401 ∨ ((∀ i, i < L → σ2.1 16 i = σ.1 16 i) ∧ σ2.1 15 5 = nI L)) ∧ rdI K P σ4 τ2 s L t0 c0 b0 4 (σ4, nI 0) (τ2, nI 0) := by
    rcases a5 with ⟨-, S2, A2⟩ | ⟨v, p, d1, d2⟩
    · obtain ⟨-, A0, l0⟩ := zSt_al S2
      have l0 : σ2.1 15 5 = nI L := l0
      have l6 : ∀ i, i < L → σ2.1 16 i = σ.1 16 i := by
        obtain ⟨-, ⟨_, _, z2, _⟩ | ⟨_, _, z2, z3, z4, z5, z6⟩⟩ := S2
        · cases z2
        · cases z2
          exact z5
      refine ⟨t + 1, by omega, Or.inr ⟨l6, l0⟩, 0, σ4, τ2, rfl, rfl, by omega, rfl, zfE_refl _, zfL_refl _ _ _ _, r29, Or.inl ⟨t + 1, [], c0, rfl, fun x hx => absurd hx (List.not_mem_nil), by omega, zSt_0 ⟨A0.1, by rw [s10]; exact A0.2.1, by rw [s10]; exact A0.2.2⟩ ?_, A2, r12, r35, Nat.le_refl _, by omega, trivial, by simp [zlc]⟩⟩
      rw [e4, si_ne (by omega)]; exact l0
    · exact ⟨401, by have := hA.1; omega, Or.inl rfl, 0, σ4, τ2, rfl, rfl, by omega, rfl, zfE_refl _, zfL_refl _ _ _ _, r29, Or.inr ⟨v, p, zDd0_E s10 d1, d2⟩⟩
  obtain ⟨r, r', h1, h2, kk, τ5, hkk, F5, f5, w29, hq⟩ := lp_sim _ _ (rdStep hV T4 M2 (by omega) (by omega) (by omega) hs) fuel 4 _ _ hI0 hfu
  have W5 : rfW k σ r := rfW_trans W4 (rfW_E F5)
  have V5 : zfL s b0 c0 τ τ5 := zfL_trans L2 f5
  have T5 := zTk_E F5 T4
  have M5 := zTm_L f5 M2
  have eC : f_X4_readLaw σ (nI k) = rdE r := by
    unfold f_X4_readLaw
    rw [show (5 : Int32) = nI 5 from rfl, bind_eq a1, bind_eq hbg, wlet_eq]
    exact bind_eq h1
  have eM : f_X11_tellLaw τ (nI k) = sumk (rdF (nI k) (nI b0)) (fun m => some m) r' := by
    unfold f_X11_tellLaw
    rw [show (5 : Int32) = nI (zrk 5) from rfl, bind_eq a2, r29, wlet_eq, wlet_eq]
    exact bind_eq h2
  have bb : ib (nI (b0 + kk)) 260 = true := ib_t (by omega) (by omega)
  have gb : (nI (b0 + kk)).toNatClampNeg = b0 + kk := nI_clamp (by omega)
  rcases hq with ⟨rfl, hq⟩ | ⟨rfl, t5, A5, k20, d2⟩
  case inr =>
    -- a fifth clause
    have i1 := C_isNext T5 A5 (k := 20) (by omega)
    rw [if_pos k20] at i1
    obtain ⟨σ6, c1, c2, c3⟩ := C_fail (v := 2) T5 A5 (Or.inr rfl)
    obtain ⟨σm, σ', d3, d4, d5, d6⟩ := rdE2_d hV hK (zTk_E c2 T5) c3
    refine ⟨σm, σ', τ5, ?_, d4, eM, rfW_trans W5 (rfW_E (zfE_trans c2 d5)), rfV_L V5, Or.inr ⟨2, t5, d6, d2⟩⟩
    rw [eC]
    unfold rdE
    rw [show (20 : Int32) = nI 20 from rfl, bind_eq i1, wlet_eq, if_neg n10, show (2 : Int32) = nI 2 from rfl, bind_eq c1]
    exact d3
  have eM : f_X11_tellLaw τ (nI k) = rdF (nI k) (nI b0) τ5 := eM
  have z0 : vp_nar .boolean (0 : Int32) = 0 := rfl
  obtain ⟨τ6, e6⟩ : ∃ τ6, τ6 = si τ5 16 (b0 + kk) 0 := ⟨_, rfl⟩
  have f6 : zfL s b0 c0 τ τ6 := zfL_trans V5 (by rw [e6]; exact zfL_br _ _ _ _ (by omega) (by omega))
  have x29 : τ6.1 0 29 = nI (b0 + kk) := by rw [e6, si_ne (by omega)]; exact w29
  rcases hq with ⟨t5, r5, cd, n20, hr, hO, ht, S, A, q12, q35, hc0, hcd, hP, hz⟩ | ⟨v, p, d1, d2⟩
  case inr =>
    have i1 := C_isNext_d T5 d1 (k := 20) (by omega) (by omega)
    obtain ⟨σm, σ', d3, d4, d5, d6⟩ := rdE2_d hV hK T5 d1
    have D6 : zDm P τ6 v p := by rw [e6]; exact zDm_ne0 d2 (by omega)
    obtain ⟨τ7, g1, g2, g3, g4⟩ := M_term_d (c0 := c0) D6 x29 (by omega) hs
    refine ⟨σm, σ', τ7, ?_, d4, ?_, rfW_trans W5 (rfW_E d5), rfV_L (zfL_trans f6 (zfL_mono g2 (by omega) (Nat.le_refl _))), Or.inr ⟨v, p, d6, g4⟩⟩
    · rw [eC]
      unfold rdE
      rw [show (20 : Int32) = nI 20 from rfl, bind_eq i1, wlet_eq, if_pos rfl]
      exact d3
    · rw [eM]
      unfold rdF
      rw [w29, if_ib bb, gb, z0, wlet_eq, ← e6, bind_eq g1, bind_eq (M_must_d g4 _), if_neg (zDm_pos g4)]
  have t4 := A.1
  have hx0 := hx0.resolve_left (by omega)
  obtain ⟨-, A0, L0⟩ := zSt_al S
  have i1 := C_isNext T5 A0 (k := 20) (by omega)
  rw [if_neg n20] at i1
  have A6 : zAm K τ6 t5 := ⟨A.1, by rw [e6, si_ne (by omega)]; exact A.2.1, by rw [e6, si_ne (by omega)]; exact A.2.2.1, A.2.2.2⟩
  have y12 : τ6.1 0 12 = 0 := by rw [e6, si_ne (by omega)]; exact q12
  have y35 : τ6.1 0 35 = nI cd := by rw [e6, si_ne (by omega)]; exact q35
  obtain ⟨σ7, τ7, c1, c2, c3, c4, c6, c5⟩ := J_term (w := s) (b := b0 + kk) hV T5 (zTm_L f6 hM) S A6 y12 y35 x29 (by omega) (by omega) (by omega) hs
  have F7 : rfW k σ r := W5
  have f7 : zfL s b0 c0 τ τ7 := zfL_trans f6 (zfL_mono c4 (by omega) hc0)
  have eC : f_X4_readLaw σ (nI k) = bnd2 (f_X8_addStep σ7 15 (7 : Int32) (0 : Int32)) fun v12 σ13 => some σ13 := by
    rw [eC]
    unfold rdE
    rw [show (20 : Int32) = nI 20 from rfl, bind_eq i1, wlet_eq, if_pos rfl]
    unfold rdE2
    rw [bind_eq c1]
  have eM : f_X11_tellLaw τ (nI k) = Option.bind (f_X11_must τ7 (nI (zrk 4))) fun σ10 => if (σ10.1 0 13) ≤ 0 then (if ib (((4 : Int32) * (σ10.1 0 19)) + nI k) 8 = true then wlet (si σ10 14 (Int32.toNatClampNeg (((4 : Int32) * (σ10.1 0 19)) + nI k)) (nI b0)) fun σ13 => if ib (((4 : Int32) * (σ13.1 0 19)) + nI k) 8 = true then wlet (si σ13 15 (Int32.toNatClampNeg (((4 : Int32) * (σ13.1 0 19)) + nI k)) (σ13.1 0 29)) fun σ15 => some σ15 else none else none) else (some σ10) := by
    rw [eM]
    unfold rdF
    rw [w29, if_ib bb, gb, z0, wlet_eq, ← e6, bind_eq c2]
    rfl
  rcases c5 with ⟨t7, e, u1, u2, u3, u4, S7, A7, v12, v35, vCM, vs, v19, v20⟩ | ⟨v, p, d1, d2⟩
  case inr =>
    obtain ⟨x, σ8, g1, g2, g3⟩ := C_addStep_d σ7 7 0
    obtain ⟨σ9, g4, g5, g6⟩ := C_expect_d (k := 4) (by omega) (by omega) σ8 v p (zTk_E (zfE_trans c3 g2) T5) (zDd0_E g3 d1)
    refine ⟨σ8, σ9, τ7, ?_, g4, ?_, rfW_trans W5 (rfW_E (zfE_trans c3 (zfE_trans g2 g5))), rfV_L f7, Or.inr ⟨v, p, g6, d2⟩⟩
    · rw [eC, bnd2_eq g1]
    · rw [eM, bind_eq (M_must_d d2 _), if_neg (zDm_pos d2)]
  have lr : (zlc L r5 ++ e).length = (zlc L r5).length + e.length := List.length_append
  obtain ⟨p1, S8⟩ := zSt_step (o := 7) (v := 0) S7 (by omega)
  obtain ⟨σ8, e8⟩ : ∃ σ8, σ8 = si (si σ7 16 (L + (zlc L r5 ++ e).length) (nI (8 * 0 + 7))) 15 5 (nI (L + (zlc L r5 ++ e).length + 1)) := ⟨_, rfl⟩
  rw [← e8] at p1 S8
  have F8 : zfE r σ8 := zfE_trans c3 (by rw [e8]; exact zfE_trans (zfE_16 _ _ _) (zfE_155 _ _))
  have eC : f_X4_readLaw σ (nI k) = some σ8 := by rw [eC, show (7 : Int32) = nI 7 from rfl, show (0 : Int32) = nI 0 from rfl, bnd2_eq p1]
  obtain ⟨σ9, τ9, g1, g2, g3, g4, g5⟩ := J_must (k := 4) (zTk_E F8 T5) (zTm_L f7 hM) S8 A7 (by omega) (by omega)
  have W9 : rfW k σ σ9 := rfW_trans W5 (rfW_E (zfE_trans F8 g3))
  have f9 : zfL s b0 c0 τ τ9 := zfL_trans f7 (zfL_T g4)
  have eM : f_X11_tellLaw τ (nI k) = _ := eM.trans (bind_eq g2)
  rcases g5 with ⟨-, S9, A9⟩ | ⟨v, p, d1, d2⟩
  case inr =>
    exact ⟨σ8, σ9, τ9, eC, g1, by rw [eM, if_neg (zDm_pos d2)], W9, rfV_L f9, Or.inr ⟨v, p, d1, d2⟩⟩
  obtain ⟨z1, ⟨_, _, z2, _⟩ | ⟨_, _, z2, z3, z4, z5, z6⟩⟩ := S9
  · cases z2
  cases z2
  have y29 : τ9.1 0 29 = nI (b0 + kk + 1) := by rw [g4.2.1 29 (by omega) (by omega) (by omega)]; exact c6
  have y19 : τ9.1 0 19 = nI s := by rw [f9.2.1 19 (by omega) (by omega) (by omega) (by omega) (by omega) (by omega) (by omega)]; exact h19
  have h4 : (4 : Int32) * nI s + nI k = nI (4 * s + k) := by rw [show (4 : Int32) = nI 4 from rfl, znI_mul, nI_add']
  have b8 : ib (nI (4 * s + k)) 8 = true := ib_t (by omega) (by omega)
  have g8 : (nI (4 * s + k)).toNatClampNeg = 4 * s + k := nI_clamp (by omega)
  obtain ⟨τa, ea⟩ : ∃ τa, τa = si (si τ9 14 (4 * s + k) (nI b0)) 15 (4 * s + k) (nI (b0 + kk + 1)) := ⟨_, rfl⟩
  have p9 : τ9.1 0 13 ≤ 0 := by rw [A9.2.2.1]; decide
  have ez1 : (si τ9 14 (4 * s + k) (nI b0)).1 0 19 = nI s := by rw [si_ne (by omega)]; exact y19
  have ez2 : (si τ9 14 (4 * s + k) (nI b0)).1 0 29 = nI (b0 + kk + 1) := by rw [si_ne (by omega)]; exact y29
  have lz : ((zlc L r5 ++ e) ++ [(7, 0)]).length = (zlc L r5).length + e.length + 1 := by rw [List.length_append, lr]; rfl
  have epos := okR_pos u4
  have sa : ∀ c, c ≠ 14 → c ≠ 15 → τa.1 c = τ9.1 c := fun c k1 k2 => by rw [ea, si_ne (by omega), si_ne (by omega)]
  refine ⟨σ8, σ9, τa, eC, g1, ?_, W9, rfV_trans (rfV_L f9) (by rw [ea]; exact rfV_trans (rfV_14 _ _ (Or.inl rfl)) (rfV_14 _ _ (Or.inr rfl))), Or.inl ⟨t7 + 1, r5, e, L + ((zlc L r5 ++ e) ++ [(7, 0)]).length, cd + e.length, b0 + kk + 1, by omega, rdO_L u4 r5 hO, z3, z4, by omega, by omega, ?_, ?_, ?_, ⟨A9.1, by rw [sa 0 (by omega) (by omega)]; exact A9.2.1, by rw [sa 0 (by omega) (by omega)]; exact A9.2.2.1, A9.2.2.2⟩, ?_, ?_, by omega, by omega, ?_, by omega, by omega, ?_, ?_, ?_⟩⟩
  · rw [eM, if_pos p9, y19, h4, if_ib b8, g8, wlet_eq, ez1, h4, if_ib b8, g8, ez2, wlet_eq, ← ea]
  · intro i hi
    rw [z5 i hi, e4, si_ne (by omega)]
    exact hx0.1 i hi
  · rw [z1.1 17 (by omega) (by omega) (by omega), e4, si_get, if_pos ⟨rfl, rfl⟩]
    exact hx0.2
  · have := rdCL (f := σ9.1 16) (e := e) r5 L (by rw [← List.append_assoc]; exact z6)
    rw [show L + (zlc L r5).length + e.length + 1 = L + ((zlc L r5 ++ e) ++ [(7, 0)]).length by omega] at this
    exact this
  · rw [sa 0 (by omega) (by omega), g4.2.1 12 (by omega) (by omega) (by omega)]; exact v12
  · rw [sa 0 (by omega) (by omega), g4.2.1 35 (by omega) (by omega) (by omega)]; exact v35
  · rw [sa 0 (by omega) (by omega)]; exact y29
  · have hc6 : ∀ c i, 21 ≤ c → c ≤ 22 → c0 ≤ i → i < cd → τa.1 c i = τ5.1 c i := fun c i k1 k2 k3 k4 => by
      rw [sa c (by omega) (by omega), g4.1 c (by omega), c4.2.2.2.2 c i k1 k2 (by omega), e6, si_ne (by omega)]
    have hb6 : ∀ c i, 16 ≤ c → c ≤ 20 → b0 ≤ i → i < b0 + kk → τa.1 c i = τ5.1 c i := fun c i k1 k2 k3 k4 => by
      rw [sa c (by omega) (by omega), g4.1 c (by omega), c4.2.2.2.1 c i k1 k2 (by omega), e6, si_get, if_neg (by omega)]
    have hP' : zMP τa c0 (cd + e.length) b0 r5 := zMP_mono (lo := b0) (hi := b0 + kk) (by omega) hb6 hc6 r5 b0 (Nat.le_refl _) (by omega) hP
    have hm := rdML (e := e) r5 b0 hP' (by
      rw [hr]
      refine ⟨by rw [sa 16 (by omega) (by omega), g4.1 16 (by omega), vs 16 (by omega) (by omega), e6, si_get, if_pos ⟨rfl, rfl⟩], cd, hc0, Nat.le_refl _, by rw [sa 19 (by omega) (by omega), g4.1 19 (by omega)]; exact v19, by rw [sa 20 (by omega) (by omega), g4.1 20 (by omega)]; exact v20, ?_⟩
      rw [sa 21 (by omega) (by omega), sa 22 (by omega) (by omega), g4.1 21 (by omega), g4.1 22 (by omega)]; exact vCM)
    rw [hr] at hm
    exact hm
  · rw [ea, si_ne (by omega), si_get, if_pos ⟨rfl, rfl⟩]
  · rw [ea, si_get, if_pos ⟨rfl, rfl⟩]
