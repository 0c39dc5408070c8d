/-! STAGE B, 29: undone, held, gone on from -/
def zUd1 : St × Int32 → Option ((St × Int32) ⊕ (St)) :=
  un2 (fun (σ21_3 : St) (x1_21_3 : Int32) => if (26 : Int32) ≤ x1_21_3 then (some (.inr σ21_3)) else (if ib (((26 : Int32) * (σ21_3.1 0 47)) + x1_21_3) 1040 = true then if ib x1_21_3 26 = true then wlet (si σ21_3 26 (Int32.toNatClampNeg x1_21_3) (σ21_3.1 29 (Int32.toNatClampNeg (((26 : Int32) * (σ21_3.1 0 47)) + x1_21_3)))) fun σ7 => wlet (x1_21_3 + (1 : Int32)) fun v8 => some (.inl (σ7, v8)) else none else none))
def zHd1 (x1 : Int32) : St × Int32 → Option ((St × Int32) ⊕ (St)) :=
  un2 (fun (σ20_6 : St) (x2_20_6 : Int32) => if (26 : Int32) ≤ x2_20_6 then (some (.inr σ20_6)) else (if ib x2_20_6 26 = true then if ib (((26 : Int32) * x1) + x2_20_6) 78 = true then wlet (si σ20_6 37 (Int32.toNatClampNeg (((26 : Int32) * x1) + x2_20_6)) (σ20_6.1 26 (Int32.toNatClampNeg x2_20_6))) fun σ10 => wlet (x2_20_6 + (1 : Int32)) fun v11 => some (.inl (σ10, v11)) else none else none))
def zRs1 (x1 : Int32) : St × Int32 → Option ((St × Int32) ⊕ (St)) :=
  un2 (fun (σ22_6 : St) (x2_22_6 : Int32) => if (26 : Int32) ≤ x2_22_6 then (some (.inr σ22_6)) else (if ib (((26 : Int32) * x1) + x2_22_6) 78 = true then if ib x2_22_6 26 = true then wlet (si σ22_6 26 (Int32.toNatClampNeg x2_22_6) (σ22_6.1 37 (Int32.toNatClampNeg (((26 : Int32) * x1) + x2_22_6)))) fun σ11 => wlet (x2_22_6 + (1 : Int32)) fun v12 => some (.inl (σ11, v12)) else none else none))
theorem zm26s : ∀ g, g < 3 → (26 : Int32) * nI g = nI (26 * g) := by decide
theorem M_undo {τ : St} {g : Nat} (hg : g < 40) (h : τ.1 0 47 = nI g) : lp zUd1 fuel (τ, 0) = some (sci τ 29 26 (26 * g) 0 26) := by
  have e47 : ∀ i, (sci τ 29 26 (26 * g) 0 i).1 0 47 = nI g := fun i => by rw [sci_get, if_neg (by omega)]; exact h
  refine zlp_copy (by omega) (Or.inl (by omega)) (fun i hi => ?_) ?_
  · have b1 : ib (nI i) 26 = true := ib_t (by omega) (by omega)
    have n1 : ¬ (26 : Int32) ≤ nI i := fun z => by have := (nI_leN (a := 26) (by omega) (by omega)).mp z; omega
    unfold zUd1
    dsimp only [un2]
    rw [if_neg n1, e47, zm26 g (by omega), nI_add', if_ib (ib_t (show 26 * g + i < 1040 by omega) (by omega)), if_ib b1, nI_clamp (show i < 2 ^ 31 by omega), nI_clamp (show 26 * g + i < 2 ^ 31 by omega), wlet_eq, wlet_eq, nI_succ, Nat.zero_add]
  · unfold zUd1
    dsimp only [un2]
    rw [if_pos (by decide)]
theorem M_hold {τ : St} {j : Nat} (hj : j < 3) : lp (zHd1 (nI j)) fuel (τ, 0) = some (sci τ 26 37 0 (26 * j) 26) := by
  refine zlp_copy (by omega) (Or.inl (by omega)) (fun i hi => ?_) ?_
  · have b1 : ib (nI i) 26 = true := ib_t (by omega) (by omega)
    have n1 : ¬ (26 : Int32) ≤ nI i := fun z => by have := (nI_leN (a := 26) (by omega) (by omega)).mp z; omega
    unfold zHd1
    dsimp only [un2]
    rw [if_neg n1, if_ib b1, zm26s j hj, nI_add', if_ib (ib_t (show 26 * j + i < 78 by omega) (by omega)), nI_clamp (show i < 2 ^ 31 by omega), nI_clamp (show 26 * j + i < 2 ^ 31 by omega), wlet_eq, wlet_eq, nI_succ, Nat.zero_add]
  · unfold zHd1
    dsimp only [un2]
    rw [if_pos (by decide)]
theorem M_rest {τ : St} {j : Nat} (hj : j < 3) : lp (zRs1 (nI j)) fuel (τ, 0) = some (sci τ 37 26 (26 * j) 0 26) := by
  refine zlp_copy (by omega) (Or.inl (by omega)) (fun i hi => ?_) ?_
  · have b1 : ib (nI i) 26 = true := ib_t (by omega) (by omega)
    have n1 : ¬ (26 : Int32) ≤ nI i := fun z => by have := (nI_leN (a := 26) (by omega) (by omega)).mp z; omega
    unfold zRs1
    dsimp only [un2]
    rw [if_neg n1, zm26s j hj, nI_add', if_ib (ib_t (show 26 * j + i < 78 by omega) (by omega)), if_ib b1, nI_clamp (show i < 2 ^ 31 by omega), nI_clamp (show 26 * j + i < 2 ^ 31 by omega), wlet_eq, wlet_eq, nI_succ, Nat.zero_add]
  · unfold zRs1
    dsimp only [un2]
    rw [if_pos (by decide)]
theorem zdo_undo : sim_undo Inv := by
  intro σ τ hI
  obtain ⟨i1, i2, i3, i4, T, m, a1, a2, a3, a4, a5, ⟨hh, nx, b1, b2, b3, b4, b5, b6⟩, a7⟩ := id hI
  unfold f_X10_undo f_X11_undo f_X0_takeBack
  rw [b3, b5]
  by_cases h0 : hh = 0
  · subst h0
    rw [if_neg (show ¬ (0 : Int32) < nI 0 by decide), if_pos (show nI 0 = 0 from rfl), bnd2_eq rfl, if_pos bz0]
    exact ⟨_, _, _, rfl, rfl, hI⟩
  · have n1 : (0 : Int32) < nI hh := (nI_ltN (a := 0) (by omega) (by omega)).mpr (by omega)
    have n2 : ¬ nI hh = 0 := nI_ne0 (by omega) (by omega)
    have hnx : (nx + 39) % 40 < 40 := Nat.mod_lt _ (by omega)
    obtain ⟨mi, m1, m2⟩ := b6 0 (by omega)
    simp only [Nat.sub_zero] at m1 m2
    have h7 := zWV7 m2
    obtain ⟨σ1, c1, c2, c3⟩ := C_copyFrom (σ := si σ 36 2 (nI ((nx + 39) % 40))) (o := 38) (p := 46 + 4 * ((nx + 39) % 40)) (by omega)
    have e36 : (si σ 36 2 (nI ((nx + 39) % 40))).1 36 2 = nI ((nx + 39) % 40) := by rw [si_get, if_pos ⟨rfl, rfl⟩]
    have f36 : σ1.1 36 1 = nI hh := by rw [c1.1 36 (by omega), si_get, if_neg (by omega)]; exact b3
    have f36' : σ1.1 36 2 = nI ((nx + 39) % 40) := by rw [c1.1 36 (by omega)]; exact e36
    have hu := M_undo (τ := si τ 0 47 (nI (hh - 1))) (g := hh - 1) (by omega) (by rw [si_get, if_pos ⟨rfl, rfl⟩])
    rw [if_pos n1, if_neg n2, b4, bind_eq (zfm3 nx b2), wlet_eq, e36, if_ib (ib_t hnx (by omega)), nI_clamp (show (nx + 39) % 40 < 2 ^ 31 by omega), wlet_eq, bind_eq c2, wlet_eq, f36, bnd2_eq rfl, if_pos bz1, nI_sub1 (by omega), wlet_eq, wlet_eq]
    have hrw : ∀ k, k < 26 → (sci (si τ 0 47 (nI (hh - 1))) 29 26 (26 * (hh - 1)) 0 26).1 26 k = hrow τ (hh - 1) k := fun k hk => by
      rw [sci_get, if_pos rfl, if_pos (by omega), si_ne (by omega), Nat.sub_zero]; rfl
    have gt : ∀ c, c ≠ 0 → c ≠ 26 → (sci (si τ 0 47 (nI (hh - 1))) 29 26 (26 * (hh - 1)) 0 26).1 c = τ.1 c := fun c q1 q2 => by
      funext i; rw [sci_get, if_neg q2, si_ne q1]
    have g0 : ∀ i, i ≠ 47 → (sci (si τ 0 47 (nI (hh - 1))) 29 26 (26 * (hh - 1)) 0 26).1 0 i = τ.1 0 i := fun i q1 => by
      rw [sci_get, if_neg (by omega), si_get, if_neg (by omega)]
    have gs : ∀ c, c ≠ 36 → (c < 38 ∨ 41 < c) → (si σ1 36 1 (nI (hh - 1))).1 c = σ.1 c := fun c q1 q2 => by
      rw [si_ne q1, c1.1 c (by omega), si_ne q1]
    have R38 : RS (si σ1 36 1 (nI (hh - 1))) 38 mi (hrow τ (hh - 1)) := by
      refine zRS_cell (fun c q1 q2 => si_ne (by omega)) (c3 mi _ h7 ?_)
      exact zRS_cell (fun c q1 q2 => si_ne (by omega)) m1
    refine ⟨1, si σ1 36 1 (nI (hh - 1)), sci (si τ 0 47 (nI (hh - 1))) 29 26 (26 * (hh - 1)) 0 26, rfl, bind_eq hu, ?_⟩
    refine ⟨iT_congr (gs 2 (by omega) (by omega)) (gs 3 (by omega) (by omega)) (g0 2 (by omega)) (gt 1 (by omega) (by omega)) i1, ?_, iO_congr (by rw [gs 31 (by omega) (by omega)]) (fun c hc => gs c (by omega) (by omega)) (g0 51 (by omega)) (fun c hc => gt c (by omega) (by omega)) i3, fun k hk => i4 k hk, T, mi, a1, zTxC_congr (fun c q1 q2 => gs c (by omega) (by omega)) a2, TxM_congr (g0 18 (by omega)) (fun c q1 q2 => gt c (by omega) (by omega)) a3, RS_congr hrw h7 R38, WV_congr hrw m2, ⟨hh - 1, (nx + 39) % 40, by omega, hnx, ?_, ?_, ?_, fun i hi => ?_⟩, iL_congr (by rw [gs 0 (by omega) (by omega)]) (fun c hc => gs c (by omega) (by omega)) (gt 36 (by omega) (by omega)) (gt 37 (by omega) (by omega)) a7⟩
    · rw [gs 0 (by omega) (by omega), g0 17 (by omega)]; exact i2
    · rw [si_get, if_pos ⟨rfl, rfl⟩]
    · rw [si_get, if_neg (by omega)]; exact f36'
    · rw [sci_get, if_neg (by omega), si_get, if_pos ⟨rfl, rfl⟩]
    · obtain ⟨mj, j1, j2⟩ := b6 (i + 1) (by omega)
      have q1 : (((nx + 39) % 40) + 39 - i) % 40 = (nx + 39 - (i + 1)) % 40 := by omega
      have q2 : hh - 1 - 1 - i = hh - 1 - (i + 1) := by omega
      have q3 : hrow (sci (si τ 0 47 (nI (hh - 1))) 29 26 (26 * (hh - 1)) 0 26) (hh - 1 - (i + 1)) = hrow τ (hh - 1 - (i + 1)) := by
        unfold hrow; rw [gt 29 (by omega) (by omega)]
      rw [q1, q2, q3]
      have := Nat.mod_lt (nx + 39 - (i + 1)) (show 0 < 40 by omega)
      exact ⟨mj, zRS_cell (fun c q1 q2 => gs c (by omega) (by omega)) j1, j2⟩
theorem z3 (x : Int32) : (∃ j, j < 3 ∧ x = nI j) ∨ (x < 0 ∨ (3 : Int32) ≤ x) := zcase (n := 3) (by omega) x
theorem zin02f {x : Int32} (h : x < 0 ∨ (3 : Int32) ≤ x) : f_X11_in x 0 2 = some 0 := by
  rcases h with h | h
  · exact zin_l h
  · exact zin_r (Int32.lt_of_lt_of_le (by decide) h)
theorem zin02t : ∀ j, j < 3 → f_X11_in (nI j) 0 2 = some 1 := by decide
theorem zbit3 : ∀ hs, hs < 8 → ∀ j, j < 3 → ∃ hs', hs' < 8 ∧ nI hs ||| ((1 : Int32) <<< (nI j &&& 31)) = nI hs' := by decide
theorem zj3 : ∀ j, j < 3 → ¬ nI j < 0 ∧ nI j < (3 : Int32) ∧ ¬ (3 : Int32) ≤ nI j := by decide
theorem zn31 : vp_nar .boolean (1 : Int32) = 1 := rfl
theorem zdo_hold : sim_hold Inv := by
  intro σ τ hI x
  obtain ⟨i1, i2, i3, i4, T, m, a1, a2, a3, a4, a5, a6, ⟨hs, c1, c2, c3⟩⟩ := id hI
  have h7 := zWV7 a5
  unfold f_X10_hold f_X11_hold
  rcases z3 x with ⟨j, hj, rfl⟩ | hx
  · obtain ⟨j1, j2, j3⟩ := zj3 j hj
    have gj : (nI j).toNatClampNeg = j := nI_clamp (by omega)
    have bj : ib (nI j) 3 = true := ib_t hj (by omega)
    obtain ⟨σ1, d1, d2, d3⟩ := C_copyFrom (σ := σ) (o := 206 + 4 * j) (p := 38) (by omega)
    have e10 : σ1.1 0 10 = nI hs := by rw [d1.1 0 (by omega)]; exact c2
    obtain ⟨hs', g1, g2⟩ := zbit3 hs c1 j hj
    rw [if_neg j1, if_pos j2, if_ib bj, gj, wlet_eq, bind_eq d2, e10, g2, wlet_eq, bind_eq (zin02t j hj), if_neg n10, if_ib bj, wlet_eq, zn31, wlet_eq]
    have gs : ∀ c, c ≠ 0 → (c < 206 + 4 * j ∨ 206 + 4 * j + 3 < c) → (si σ1 0 10 (nI hs')).1 c = σ.1 c := fun c q1 q2 => by
      rw [si_ne q1, d1.1 c (by omega)]
    have gs0 : (si σ1 0 10 (nI hs')).1 0 11 = σ.1 0 11 := by rw [si_get, if_neg (by omega), d1.1 0 (by omega)]
    have gt : ∀ c, c ≠ 36 → c ≠ 37 → (sci (si τ 36 j 1) 26 37 0 (26 * j) 26).1 c = τ.1 c := fun c q1 q2 => by
      funext i; rw [sci_get, if_neg q2, si_ne q1]
    refine ⟨1, si σ1 0 10 (nI hs'), sci (si τ 36 j 1) 26 37 0 (26 * j) 26, rfl, bind_eq (M_hold hj), iT_congr (gs 2 (by omega) (by omega)) (gs 3 (by omega) (by omega)) (by rw [gt 0 (by omega) (by omega)]) (gt 1 (by omega) (by omega)) i1, ?_, iO_congr (by rw [gs 31 (by omega) (by omega)]) (fun c hc => gs c (by omega) (by omega)) (by rw [gt 0 (by omega) (by omega)]) (fun c hc => gt c (by omega) (by omega)) i3, fun k hk => i4 k hk, T, m, a1, zTxC_congr (fun c q1 q2 => gs c (by omega) (by omega)) a2, TxM_congr (by rw [gt 0 (by omega) (by omega)]) (fun c q1 q2 => gt c (by omega) (by omega)) a3, ?_, ?_, iH_congr (gs 36 (by omega) (by omega)) (fun c q1 q2 => gs c (by omega) (by omega)) (by rw [gt 0 (by omega) (by omega)]) (gt 29 (by omega) (by omega)) a6, ⟨hs', g1, ?_, fun i hi => ?_⟩⟩
    · rw [gs0, gt 0 (by omega) (by omega)]; exact i2
    · rw [gt 26 (by omega) (by omega)]; exact zRS_cell (fun c q1 q2 => gs c (by omega) (by omega)) a4
    · rw [gt 26 (by omega) (by omega)]; exact a5
    · rw [si_get, if_pos ⟨rfl, rfl⟩]
    · have hzb : zb (nI hs') i = (zb (nI hs) i || decide (i = j)) := by rw [← g2, zb_or (by omega) (by omega)]
      rw [hzb, sci_get, if_neg (by omega), si_get]
      by_cases e : i = j
      · subst e
        rw [if_pos ⟨rfl, rfl⟩]
        refine ⟨fun _ => ⟨rfl, m, ?_, ?_⟩, fun z => by simp at z⟩
        · have hv : ∀ k, k < 26 → srow (sci (si τ 36 i 1) 26 37 0 (26 * i) 26) i k = τ.1 26 k := fun k hk => by
            unfold srow
            rw [sci_get, if_pos rfl, if_pos (by omega), si_ne (by omega)]
            refine congrArg (τ.1 26) ?_
            omega
          refine RS_congr hv h7 ?_
          exact zRS_cell (fun c q1 q2 => si_ne (by omega)) (d3 m _ h7 a4)
        · have hv : ∀ k, k < 26 → srow (sci (si τ 36 i 1) 26 37 0 (26 * i) 26) i k = τ.1 26 k := fun k hk => by
            unfold srow
            rw [sci_get, if_pos rfl, if_pos (by omega), si_ne (by omega)]
            refine congrArg (τ.1 26) ?_
            omega
          exact WV_congr hv a5
      · have hd : (zb (nI hs) i || decide (i = j)) = zb (nI hs) i := by simp [e]
        rw [hd, if_neg (fun z => e z.2)]
        have hv : ∀ k, k < 26 → srow (sci (si τ 36 j 1) 26 37 0 (26 * j) 26) i k = srow τ i k := fun k hk => by
          unfold srow
          rw [sci_get, if_pos rfl, if_neg (by omega), si_ne (by omega)]
        refine ⟨fun z => ?_, (c3 i hi).2⟩
        obtain ⟨z1, mi, m1, m2⟩ := (c3 i hi).1 z
        exact ⟨z1, mi, RS_congr hv (zWV7 m2) (zRS_cell (fun c q1 q2 => gs c (by omega) (by omega)) m1), WV_congr hv m2⟩
  · rw [bind_eq (zin02f hx), if_pos rfl]
    by_cases q : x < 0
    · rw [if_pos q]
      exact ⟨_, _, _, rfl, rfl, hI⟩
    · have q2 : ¬ x < 3 := by
        rcases hx with h | h
        · exact absurd h q
        · exact Int32.not_lt.mpr h
      rw [if_neg q, if_neg q2]
      exact ⟨_, _, _, rfl, rfl, hI⟩
theorem zdo_restore : sim_restore Inv := by
  intro σ τ hI x
  obtain ⟨i1, i2, i3, i4, T, m, a1, a2, a3, a4, a5, ⟨hh, nx, b1, b2, b3, b4, b5, b6⟩, a7⟩ := id hI
  obtain ⟨hs, c1, c2, c3⟩ := id a7
  unfold f_X10_restore f_X11_restore
  rcases z3 x with ⟨j, hj, rfl⟩ | hx
  · obtain ⟨j1, j2, j3⟩ := zj3 j hj
    have gj : (nI j).toNatClampNeg = j := nI_clamp (by omega)
    have bj : ib (nI j) 3 = true := ib_t hj (by omega)
    rw [if_neg j1, if_neg j3, c2, bind_eq (zin02t j hj), if_neg n10, if_ib bj, gj]
    by_cases hb : zb (nI hs) j = true
    · have n1 : ¬ (((nI hs) >>> (nI j &&& 31)) &&& (1 : Int32)) = 0 := fun z => by
        rw [zb_f (by omega)] at z
        rw [z] at hb
        cases hb
      obtain ⟨z1, mi, m1, m2⟩ := (c3 j hj).1 hb
      have h7 := zWV7 m2
      obtain ⟨σ1, d1, d2, d3⟩ := C_copyFrom (σ := σ) (o := 38) (p := 206 + 4 * j) (by omega)
      rw [if_neg n1, if_ib bj, wlet_eq, bind_eq d2, wlet_eq, z1, if_neg n10, wlet_eq]
      have gs : ∀ c, c ≠ 36 → (c < 38 ∨ 41 < c) → (si σ1 36 1 0).1 c = σ.1 c := fun c q1 q2 => by rw [si_ne q1, d1.1 c (by omega)]
      have gt : ∀ c, c ≠ 0 → c ≠ 26 → (si (sci τ 37 26 (26 * j) 0 26) 0 47 0).1 c = τ.1 c := fun c q1 q2 => by
        funext i; rw [si_ne q1, sci_get, if_neg q2]
      have g0 : ∀ i, i ≠ 47 → (si (sci τ 37 26 (26 * j) 0 26) 0 47 0).1 0 i = τ.1 0 i := fun i q1 => by
        rw [si_get, if_neg (by omega), sci_get, if_neg (by omega)]
      have hv : ∀ k, k < 26 → (si (sci τ 37 26 (26 * j) 0 26) 0 47 0).1 26 k = srow τ j k := fun k hk => by
        rw [si_ne (by omega), sci_get, if_pos rfl, if_pos (by omega), Nat.sub_zero]; rfl
      refine ⟨1, si σ1 36 1 0, si (sci τ 37 26 (26 * j) 0 26) 0 47 0, rfl, bind_eq (M_rest hj), iT_congr (gs 2 (by omega) (by omega)) (gs 3 (by omega) (by omega)) (g0 2 (by omega)) (gt 1 (by omega) (by omega)) i1, ?_, iO_congr (by rw [gs 31 (by omega) (by omega)]) (fun c hc => gs c (by omega) (by omega)) (g0 51 (by omega)) (fun c hc => gt c (by omega) (by omega)) i3, fun k hk => i4 k hk, T, mi, a1, zTxC_congr (fun c q1 q2 => gs c (by omega) (by omega)) a2, TxM_congr (g0 18 (by omega)) (fun c q1 q2 => gt c (by omega) (by omega)) a3, RS_congr hv h7 (zRS_cell (fun c q1 q2 => si_ne (by omega)) (d3 mi _ h7 m1)), WV_congr hv m2, ⟨0, nx, by omega, b2, ?_, ?_, ?_, fun i hi => absurd hi (Nat.not_lt_zero _)⟩, iL_congr (by rw [gs 0 (by omega) (by omega)]) (fun c hc => gs c (by omega) (by omega)) (gt 36 (by omega) (by omega)) (gt 37 (by omega) (by omega)) a7⟩
      · rw [gs 0 (by omega) (by omega), g0 17 (by omega)]; exact i2
      · rw [si_get, if_pos ⟨rfl, rfl⟩]; rfl
      · rw [si_get, if_neg (by omega), d1.1 36 (by omega)]; exact b4
      · rw [si_get, if_pos ⟨rfl, rfl⟩]; rfl
    · have hb' : zb (nI hs) j = false := by simpa using hb
      rw [if_pos ((zb_f (by omega)).mpr hb'), (c3 j hj).2 hb', if_pos rfl, if_ib bj]
      exact ⟨_, _, _, rfl, rfl, hI⟩
  · rw [bind_eq (zin02f hx), if_pos rfl]
    by_cases q : x < 0
    · rw [if_pos q]
      exact ⟨_, _, _, rfl, rfl, hI⟩
    · have q2 : (3 : Int32) ≤ x := by
        rcases hx with h | h
        · exact absurd h q
        · exact h
      rw [if_neg q, if_pos q2]
      exact ⟨_, _, _, rfl, rfl, hI⟩
