/-! STAGE B, 59: a statement, and the whole text, both side by side -/
theorem zk15 : ∀ k, k < 32 → ((nI k - (15 : Int32) < 0) ↔ k < 15) ∧ (((3 : Int32) < nI k - (15 : Int32)) ↔ (18 < k)) ∧ (15 ≤ k → nI k - (15 : Int32) = nI (k - 15)) := by decide
theorem zk22 : ∀ k, k < 32 → ((nI (zrk k) = (20 : Int32)) ↔ k = 13) ∧ ((nI (zrk k) = (21 : Int32)) ↔ k = 14) ∧ ((nI (zrk k) = (26 : Int32)) ↔ k = 19) ∧ (¬ (15 ≤ k ∧ k ≤ 18) → nI (zrk k) - (22 : Int32) < 0 ∨ ¬ nI (zrk k) ≤ (25 : Int32)) ∧ ((15 ≤ k ∧ k ≤ 18) → ¬ nI (zrk k) - (22 : Int32) < 0 ∧ nI (zrk k) ≤ (25 : Int32) ∧ nI (zrk k) - (22 : Int32) = nI (k - 15)) := by decide
def rkE (x1 : Int32) (σ_144_18 : St) : Option ((St × Int32) ⊕ (St)) := Option.bind (f_X4_expect σ_144_18 (4 : Int32)) fun σ20 => wlet (x1 + (1 : Int32)) fun v21 => some (.inl (σ20, v21))
theorem rkE_eq {σ σ' : St} {i : Nat} (h : f_X4_expect σ (nI 4) = some σ') : rkE (nI i) σ = some (.inl (σ', nI (i + 1))) := by
  unfold rkE
  rw [show (4 : Int32) = nI 4 from rfl, bind_eq h, wlet_eq, ← nI_succ]
def rkC : St × Int32 → Option ((St × Int32) ⊕ (St)) :=
  un2 (fun (σ13_5 : St) (x1_13_5 : Int32) => if (400 : Int32) < x1_13_5 then (some (.inr σ13_5)) else (if (σ13_5.1 10 3) = 0 then (Option.bind (f_X4_isNext σ13_5 (0 : Int32)) fun v11 => if v11 = 0 then (Option.bind (f_X4_kind σ13_5) fun v14 => wlet (v14 - (15 : Int32)) fun v15 => Option.bind (f_X4_isNext σ13_5 (13 : Int32)) fun v17 => wlet (fun (σ_144_18 : St) => (Option.bind (f_X4_expect σ_144_18 (4 : Int32)) fun σ20 => wlet (x1_13_5 + (1 : Int32)) fun v21 => some (.inl (σ20, v21)) : Option ((St × Int32) ⊕ (St)))) fun k144_18 => if v17 = 0 then (Option.bind (f_X4_isNext σ13_5 (14 : Int32)) fun v24 => if v24 = 0 then (Option.bind (f_X4_isNext σ13_5 (19 : Int32)) fun v27 => if v27 = 0 then (wlet (fun (_ : Unit) => (Option.bind (f_X4_fail σ13_5 (1 : Int32)) fun σ31 => k144_18 σ31 : Option ((St × Int32) ⊕ (St)))) fun k139_29 => if v15 < 0 then (k139_29 ()) else (if (3 : Int32) < v15 then (k139_29 ()) else (Option.bind (f_X4_take σ13_5) fun σ35 => Option.bind (f_X4_readLaw σ35 v15) fun σ37 => k144_18 σ37))) else (Option.bind (f_X4_take σ13_5) fun σ39 => bnd2 (f_X4_readNumber σ39 (9999 : Int32)) fun v41 σ42 => wlet (si σ42 15 8 v41) fun σ43 => k144_18 σ43)) else (Option.bind (f_X4_take σ13_5) fun σ45 => bnd2 (f_X4_readNumber σ45 (99 : Int32)) fun v47 σ48 => wlet (si σ48 15 7 v47) fun σ49 => k144_18 σ49)) else (Option.bind (f_X4_readCase σ13_5) fun σ51 => k144_18 σ51)) else (some (.inr σ13_5))) else (some (.inr σ13_5))))
def rkM : St → Option ((St) ⊕ (St)) :=
  fun (σ112_16 : St) => if (σ112_16.1 0 13) = 0 then (Option.bind (f_X11_is σ112_16 (0 : Int32)) fun v37 => if v37 = 0 then (Option.bind (f_X11_tellOne σ112_16) fun σ40 => some (.inl σ40)) else (some (.inr σ112_16))) else (some (.inr σ112_16))
theorem J_stmt {σ τ : St} {K P V N : Nat → Nat} {s t L cd b i : Nat} {T : Tx} (hs : s ≤ 1) (hV : rdV K V N) (hP : rdP K P) (hT : zTk σ K P V) (hM : zTm τ K P V N) (hX : rdX K P V N s σ τ t T L cd b) (hk0 : K t ≠ 0) (hi : i ≤ t) : ∃ σ' τ', rkC (σ, nI i) = some (.inl (σ', nI (i + 1))) ∧ f_X11_tellOne τ = some τ' ∧ rhC σ σ' ∧ rhM s τ τ' ∧ ((∃ t' T' L' cd' b', t < t' ∧ rdX K P V N s σ' τ' t' T' L' cd' b') ∨ ∃ v p, zDd0 σ' P v p ∧ zDm P τ' v p) := by
  obtain ⟨⟨hA0, hA⟩, ⟨hTC, hTS, h7, hok⟩, ⟨hL, h12, h35, h29, h19, h20⟩, hN, hG, hl1, hl2, hl3, hl4, hl5⟩ := id hX
  have t4 := hA.1
  have h31 := hT.2.2 t
  have bs : ib (nI s) 2 = true := ib_t (by omega) (by omega)
  have gs : (nI s).toNatClampNeg = s := nI_clamp (by omega)
  have bt : ib (nI t) 403 = true := ib_t (by omega) (by omega)
  have gt : (nI t).toNatClampNeg = t := nI_clamp (by omega)
  have n4 : ¬ (400 : Int32) < nI i := fun z => by have := (nI_ltN (a := 400) (by omega) (by omega)).mp z; omega
  have i0 := C_isNext hT hA0 (k := 0) (by omega)
  rw [if_neg hk0] at i0
  have i13 := C_isNext hT hA0 (k := 13) (by omega)
  have i14 := C_isNext hT hA0 (k := 14) (by omega)
  have i19 := C_isNext hT hA0 (k := 19) (by omega)
  have ik := C_kind hT hA0
  obtain ⟨z1, z2, z3⟩ := zk15 (K t) (by omega)
  obtain ⟨y1, y2, y3, y4, y5⟩ := zk22 (K t) (by omega)
  have e3 := (hM.1 t hA.1 hA.2.2.2).1
  have eC : rkC (σ, nI i) = if (if K t = 13 then (1 : Int32) else 0) = 0 then (if (if K t = 14 then (1 : Int32) else 0) = 0 then (if (if K t = 19 then (1 : Int32) else 0) = 0 then (if nI (K t) - (15 : Int32) < 0 then (Option.bind (f_X4_fail σ (1 : Int32)) fun σ31 => rkE (nI i) σ31) else (if (3 : Int32) < nI (K t) - (15 : Int32) then (Option.bind (f_X4_fail σ (1 : Int32)) fun σ31 => rkE (nI i) σ31) else (Option.bind (f_X4_take σ) fun σ35 => Option.bind (f_X4_readLaw σ35 (nI (K t) - (15 : Int32))) fun σ37 => rkE (nI i) σ37))) else (Option.bind (f_X4_take σ) fun σ39 => bnd2 (f_X4_readNumber σ39 (9999 : Int32)) fun v41 σ42 => wlet (si σ42 15 8 v41) fun σ43 => rkE (nI i) σ43)) else (Option.bind (f_X4_take σ) fun σ45 => bnd2 (f_X4_readNumber σ45 (99 : Int32)) fun v47 σ48 => wlet (si σ48 15 7 v47) fun σ49 => rkE (nI i) σ49)) else (Option.bind (f_X4_readCase σ) fun σ51 => rkE (nI i) σ51) := by
    unfold rkC un2
    dsimp only
    rw [if_neg n4, if_pos hA0.2.2, bind_eq (show f_X4_isNext σ (0 : Int32) = some 0 from i0), if_pos rfl, bind_eq ik, wlet_eq, show (13 : Int32) = nI 13 from rfl, bind_eq i13, wlet_eq, show (14 : Int32) = nI 14 from rfl, bind_eq i14, show (19 : Int32) = nI 19 from rfl, bind_eq i19, wlet_eq]
    rfl
  have eM : f_X11_tellOne τ = if nI (zrk (K t)) = (20 : Int32) then rmA τ else if nI (zrk (K t)) = (21 : Int32) then (bnd2 (f_X11_toldInt τ (nI 99)) fun v τ12 => some (si τ12 12 s v)) else if nI (zrk (K t)) = (26 : Int32) then (bnd2 (f_X11_toldInt τ (nI 9999)) fun v τ12 => some (si τ12 13 s v)) else if nI (zrk (K t)) - (22 : Int32) < 0 ∨ ¬ nI (zrk (K t)) ≤ (25 : Int32) then (Option.bind (f_X11_fail τ (1 : Int32)) fun σ31 => if (σ31.1 0 13) ≤ 0 then (Option.bind (f_X11_goesOn σ31) fun σ26 => Option.bind (f_X11_tellLaw σ26 (nI (zrk (K t)) - (22 : Int32))) fun σ28 => some σ28) else (some σ31)) else (Option.bind (f_X11_goesOn τ) fun σ26 => Option.bind (f_X11_tellLaw σ26 (nI (zrk (K t)) - (22 : Int32))) fun σ28 => some σ28) := by
    have p0 : τ.1 0 13 ≤ 0 := by rw [hA.2.2.1]; decide
    unfold f_X11_tellOne
    rw [hA.2.1, if_ib bt, gt, e3]
    by_cases q1 : nI (zrk (K t)) = (20 : Int32)
    · rw [if_pos q1, if_pos q1]
      unfold rmA
      rw [h19, if_ib bs]
    rw [if_neg q1, if_neg q1]
    by_cases q2 : nI (zrk (K t)) = (21 : Int32)
    · rw [if_pos q2, if_pos q2, h19, gs, show (99 : Int32) = nI 99 from rfl]
      cases f_X11_toldInt τ (nI 99) with
      | none => rfl
      | some x =>
        show (if ib (nI s) 2 = true then _ else none) = _
        rw [if_ib bs]
        rfl
    rw [if_neg q2, if_neg q2]
    by_cases q3 : nI (zrk (K t)) = (26 : Int32)
    · rw [if_pos q3, if_pos q3, h19, gs, show (9999 : Int32) = nI 9999 from rfl]
      cases f_X11_toldInt τ (nI 9999) with
      | none => rfl
      | some x =>
        show (if ib (nI s) 2 = true then _ else none) = _
        rw [if_ib bs]
        rfl
    rw [if_neg q3, if_neg q3, if_ib bt, wlet_eq, wlet_eq, wlet_eq]
    by_cases q4 : nI (zrk (K t)) - (22 : Int32) < 0
    · rw [if_pos q4, if_pos (Or.inl q4)]
    · rw [if_neg q4, if_ib bt]
      by_cases q5 : nI (zrk (K t)) ≤ (25 : Int32)
      · rw [if_pos q5, if_neg (fun z => z.elim q4 (fun z => z q5))]
        dsimp only
        rw [if_pos p0]
      · rw [if_neg q5, if_pos (Or.inr q5)]
  by_cases k13 : K t = 13
  · obtain ⟨σm, σ', τ', a1, a2, a3, a4, a5, a6⟩ := J_case hs hV hP hT hM hX k13
    refine ⟨σ', τ', ?_, ?_, a4, a5, ?_⟩
    · rw [eC, if_pos k13, if_neg n10, bind_eq a1]
      exact rkE_eq a2
    · rw [eM, if_pos (y1.mpr k13)]
      exact a3
    · rcases a6 with ⟨t', T', b1, b2⟩ | d
      · exact Or.inl ⟨t', T', L, cd, b, b1, b2⟩
      · exact Or.inr d
  rw [if_neg k13, if_pos rfl] at eC
  rw [if_neg (fun z => k13 (y1.mp z))] at eM
  by_cases k14 : K t = 14
  · obtain ⟨σ1, v, σ2, σ', τ', a1, a2, a3, a4, a5, a6, a7⟩ := J_int (m := 99) (ic := 7) (rc := 12) (T' := txB T) hs hV hP hT hM hX hk0 (Or.inl rfl) (Or.inl rfl) (Or.inl rfl) (fun v σ' h1 h2 h3 => txB_C hTC h1 h2 h3) (fun v τ' h1 h2 => txB_S hTS h1 h2) (fun v => ⟨rfl, fun k => ⟨rfl, rfl⟩⟩) (fun v h => ⟨h.1.1, h.1.2.1, h.2, h.1.2.2.2⟩)
    refine ⟨σ', τ', ?_, ?_, a5, a6, ?_⟩
    · rw [eC, if_pos k14, if_neg n10, bind_eq a1, show (99 : Int32) = nI 99 from rfl, bnd2_eq a2, wlet_eq]
      exact rkE_eq a3
    · rw [eM, if_pos (y2.mpr k14)]
      exact a4
    · rcases a7 with ⟨t', T', b1, b2⟩ | d
      · exact Or.inl ⟨t', T', L, cd, b, b1, b2⟩
      · exact Or.inr d
  rw [if_neg k14, if_pos rfl] at eC
  rw [if_neg (fun z => k14 (y2.mp z))] at eM
  by_cases k19 : K t = 19
  · obtain ⟨σ1, v, σ2, σ', τ', a1, a2, a3, a4, a5, a6, a7⟩ := J_int (m := 9999) (ic := 8) (rc := 13) (T' := txD T) hs hV hP hT hM hX hk0 (Or.inr rfl) (Or.inr rfl) (Or.inr rfl) (fun v σ' h1 h2 h3 => txD_C hTC h1 h2 h3) (fun v τ' h1 h2 => txD_S hTS h1 h2) (fun v => ⟨rfl, fun k => ⟨rfl, rfl⟩⟩) (fun v h => ⟨h.1.1, h.1.2.1, h.1.2.2.1, h.2, h.1.2.2.2.2⟩)
    refine ⟨σ', τ', ?_, ?_, a5, a6, ?_⟩
    · rw [eC, if_pos k19, if_neg n10, bind_eq a1, show (9999 : Int32) = nI 9999 from rfl, bnd2_eq a2, wlet_eq]
      exact rkE_eq a3
    · rw [eM, if_pos (y3.mpr k19)]
      exact a4
    · rcases a7 with ⟨t', T', b1, b2⟩ | d
      · exact Or.inl ⟨t', T', L, cd, b, b1, b2⟩
      · exact Or.inr d
  rw [if_neg k19, if_pos rfl] at eC
  rw [if_neg (fun z => k19 (y3.mp z))] at eM
  by_cases kl : 15 ≤ K t ∧ K t ≤ 18
  · obtain ⟨x1, x2, x3⟩ := y5 kl
    obtain ⟨σ1, σm, σ', τ1, τ', a1, a2, a3, a4, a5, a6, a7, a8⟩ := J_lawX (k := K t - 15) hs hV hT hM hX hk0 (by omega)
    refine ⟨σ', τ', ?_, ?_, a6, a7, a8⟩
    · rw [eC, if_neg (fun z => by have := z1.mp z; omega), if_neg (fun z => by have := z2.mp z; omega), bind_eq a1, z3 kl.1, bind_eq a2]
      exact rkE_eq a3
    · rw [eM, if_neg (fun z => z.elim x1 (fun z => z x2)), bind_eq a4, x3, bind_eq a5]
  · obtain ⟨σ1, a1, a2, a3⟩ := C_fail (v := 1) hT hA0 (Or.inl rfl)
    obtain ⟨σ2, b1, b2, b3⟩ := C_expect_d (k := 4) (by omega) (by omega) σ1 1 t (zTk_E a2 hT) a3
    obtain ⟨τ1, c1, c2, c3, c4⟩ := M_fail hM hA (v := 1) (Or.inl rfl)
    refine ⟨σ2, τ1, ?_, ?_, rhC_E (zfE_trans a2 b2), rhM_g (rgM_T c2), Or.inr ⟨1, t, b3, c4⟩⟩
    · rw [eC]
      by_cases q : K t < 15
      · rw [if_pos (z1.mpr q), show (1 : Int32) = nI 1 from rfl, bind_eq a1]
        exact rkE_eq b1
      · rw [if_neg (fun z => q (z1.mp z)), if_pos (z2.mpr (by omega)), show (1 : Int32) = nI 1 from rfl, bind_eq a1]
        exact rkE_eq b1
    · rw [eM, if_pos (y4 kl), show (1 : Int32) = nI 1 from rfl, bind_eq c1, if_neg (zDm_pos c4)]
/-- how the reading ends -/
def rkQ (K P V N : Nat → Nat) (s : Nat) (σ τ : St) : Prop := (∃ t T L cd b, K t = 0 ∧ rdX K P V N s σ τ t T L cd b) ∨ ∃ v p, zDd0 σ P v p ∧ zDm P τ v p
theorem J_text {σ0 τ0 : St} {K P V N : Nat → Nat} {s L cd b : Nat} {T : Tx} (hs : s ≤ 1) (hV : rdV K V N) (hP : rdP K P) (hT : zTk σ0 K P V) (hM : zTm τ0 K P V N) (hX : rdX K P V N s σ0 τ0 0 T L cd b) : ∃ σ τ, lp rkC fuel (σ0, 0) = some σ ∧ lp rkM fuel τ0 = some τ ∧ rhC σ0 σ ∧ rhM s τ0 τ ∧ rkQ K P V N s σ τ := by
  have hfu : 401 < fuel := by rw [fuel_eq]; omega
  obtain ⟨r, r', h1, h2, h3⟩ := lp_sim (s1 := rkC) (s2 := rkM) (fun n u τ => ∃ σ i, u = (σ, nI i) ∧ rhC σ0 σ ∧ rhM s τ0 τ ∧ i ≤ 401 ∧ ((∃ t T L cd b, i ≤ t ∧ n = 401 - t ∧ rdX K P V N s σ τ t T L cd b) ∨ ∃ v p, zDd0 σ P v p ∧ zDm P τ v p)) (fun σ τ => rhC σ0 σ ∧ rhM s τ0 τ ∧ rkQ K P V N s σ τ) (by
    rintro n u τ ⟨σ, i, rfl, F, f, hi, hq⟩
    have T1 := zTk_H F hT
    have M1 := zTm_H f hM
    rcases hq with ⟨t, T, L, cd, b, i1, i2, hX⟩ | ⟨v, p, d1, d2⟩
    · have hA0 := hX.1.1
      have hA := hX.1.2
      have t4 := hA.1
      by_cases q : K t = 0
      · right
        have n4 : ¬ (400 : Int32) < nI i := fun z => by have := (nI_ltN (a := 400) (by omega) (by omega)).mp z; omega
        have i0 := C_isNext T1 hA0 (k := 0) (by omega)
        have m0 := M_is M1 hA (k := 0) (by omega)
        rw [if_pos q] at i0 m0
        refine ⟨σ, τ, ?_, ?_, F, f, Or.inl ⟨t, T, L, cd, b, q, hX⟩⟩
        · unfold rkC un2
          dsimp only
          rw [if_neg n4, if_pos hA0.2.2, show (0 : Int32) = nI 0 from rfl, bind_eq i0, if_neg (by decide)]
        · unfold rkM
          rw [if_pos hA.2.2.1, show (0 : Int32) = nI (zrk 0) from rfl, bind_eq m0, if_neg (by decide)]
      · left
        obtain ⟨σ', τ', a1, a2, a3, a4, a5⟩ := J_stmt hs hV hP T1 M1 hX q i1
        have m0 := M_is M1 hA (k := 0) (by omega)
        rw [if_neg q] at m0
        have e2 : rkM τ = some (.inl τ') := by
          unfold rkM
          rw [if_pos hA.2.2.1, show f_X11_is τ (0 : Int32) = some 0 from m0]
          show (if (0 : Int32) = 0 then (Option.bind (f_X11_tellOne τ) fun σ40 => some (.inl σ40)) else (some (.inr τ))) = (some (.inl τ') : Option (St ⊕ St))
          rw [if_pos rfl, bind_eq a2]
        rcases a5 with ⟨t', T', L', cd', b', b1, b2⟩ | ⟨v, p, d⟩
        · have t4' := b2.1.2.1
          exact ⟨(σ', nI (i + 1)), τ', 401 - t', a1, e2, by omega, σ', i + 1, rfl, rhC_trans F a3, rhM_trans f a4, by omega, Or.inl ⟨t', T', L', cd', b', by omega, rfl, b2⟩⟩
        · exact ⟨(σ', nI (i + 1)), τ', 0, a1, e2, by omega, σ', i + 1, rfl, rhC_trans F a3, rhM_trans f a4, by omega, Or.inr ⟨v, p, d⟩⟩
    · right
      refine ⟨σ, τ, ?_, ?_, F, f, Or.inr ⟨v, p, d1, d2⟩⟩
      · unfold rkC un2
        dsimp only
        by_cases n4 : (400 : Int32) < nI i
        · rw [if_pos n4]
        rw [if_neg n4]
        by_cases q3 : σ.1 10 3 = 0
        · rw [if_pos q3]
          obtain ⟨hv, ⟨a1, a2, a3⟩ | ⟨t, b1, b2, b3, b4⟩⟩ := d1
          · have i0 : f_X4_isNext σ 0 = some 1 := by
              unfold f_X4_isNext
              rw [if_pos q3, a1, if_neg (by decide), if_neg (by decide), if_ib (by decide), nI_clamp (by omega), T1.2.1, if_pos rfl]
            rw [bind_eq i0, if_neg n10]
          · rw [b3] at q3
            exact absurd q3 (nI_v0 hv)
        · rw [if_neg q3]
      · unfold rkM
        rw [if_neg (zDm_ne d2)]) fuel 401 (σ0, 0) τ0 ⟨σ0, 0, rfl, rhC_refl _, rhM_refl _ _, by omega, Or.inl ⟨0, T, L, cd, b, Nat.le_refl _, rfl, hX⟩⟩ hfu
  exact ⟨r, r', h1, h2, h3⟩
