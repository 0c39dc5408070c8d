/-! STAGE B, 28: things done, undone, held -/
theorem zfm1 : ∀ k, k < 40 → f_J9_floorMod_7cf53 (nI k) 40 = some (nI k) := by decide +kernel
theorem zfm2 : ∀ k, k < 40 → f_J9_floorMod_7cf53 (nI k + 1) 40 = some (nI ((k + 1) % 40)) := by decide +kernel
theorem zfm3 : ∀ k, k < 40 → f_J9_floorMod_7cf53 (nI k - 1) 40 = some (nI ((k + 39) % 40)) := by decide +kernel
theorem zmn40 : ∀ h, h < 41 → mn (nI h + 1) 40 = nI (min (h + 1) 40) := by decide +kernel
theorem zm26 : ∀ g, g < 41 → (26 : Int32) * nI g = nI (26 * g) := by decide +kernel
theorem C_remember {σ : St} {h nx : Nat} (hh : h ≤ 40) (hx : nx < 40) (e1 : σ.1 36 1 = nI h) (e2 : σ.1 36 2 = nI nx) :
    ∃ σ', f_X0_remember σ 38 = some σ' ∧ (∀ c, c ≠ 36 → (c < 46 + 4 * nx ∨ 46 + 4 * nx + 3 < c) → σ'.1 c = σ.1 c) ∧ σ'.1 36 1 = nI (min (h + 1) 40) ∧ σ'.1 36 2 = nI ((nx + 1) % 40) ∧ ∀ m V, m ≤ 7 → RS σ 38 m V → RS σ' (46 + 4 * nx) m V := by
  obtain ⟨σ1, a1, a2, a3⟩ := C_copyFrom (σ := σ) (o := 46 + 4 * nx) (p := 38) (by omega)
  have f1 : σ1.1 36 = σ.1 36 := a1.1 36 (by omega)
  have g2 : σ1.1 36 2 = nI nx := by rw [f1]; exact e2
  refine ⟨si (si σ1 36 2 (nI ((nx + 1) % 40))) 36 1 (nI (min (h + 1) 40)), ?_, fun c c1 c2 => ?_, ?_, ?_, fun m V hm hR => ?_⟩
  · unfold f_X0_remember
    rw [e2, bind_eq (zfm1 nx hx), if_ib (ib_t hx (by omega)), nI_clamp (by omega), wlet_eq, bind_eq a2, g2, bind_eq (zfm2 nx hx), wlet_eq, si_get, if_neg (by omega), f1, e1, zmn40 h (by omega), wlet_eq]
  · rw [si_ne c1, si_ne c1]; exact a1.1 c (by omega)
  · rw [si_get, if_pos ⟨rfl, rfl⟩]
  · rw [si_get, if_neg (by omega), si_get, if_pos ⟨rfl, rfl⟩]
  · exact zRS_cell (fun c c1 c2 => by rw [si_ne (by omega), si_ne (by omega)]) (a3 m V hm hR)
def zRc1 : St × Int32 → Option ((St × Int32) ⊕ (St)) :=
  un2 (fun (σ11_11 : St) (x1_11_11 : Int32) => if (1014 : Int32) ≤ x1_11_11 then (some (.inr σ11_11)) else (if ib (x1_11_11 + (26 : Int32)) 1040 = true then if ib x1_11_11 1040 = true then wlet (si σ11_11 29 (Int32.toNatClampNeg x1_11_11) (σ11_11.1 29 (Int32.toNatClampNeg (x1_11_11 + (26 : Int32))))) fun σ25 => wlet (x1_11_11 + (1 : Int32)) fun v26 => some (.inl (σ25, v26)) else none else none))
def zRc2 : St × Int32 → Option ((St × Int32) ⊕ (St)) :=
  un2 (fun (σ51_13 : St) (x1_51_13 : Int32) => if (26 : Int32) ≤ x1_51_13 then (some (.inr σ51_13)) else (if ib x1_51_13 26 = true then if ib (((26 : Int32) * (σ51_13.1 0 47)) + x1_51_13) 1040 = true then wlet (si σ51_13 29 (Int32.toNatClampNeg (((26 : Int32) * (σ51_13.1 0 47)) + x1_51_13)) (σ51_13.1 26 (Int32.toNatClampNeg x1_51_13))) fun σ20 => wlet (x1_51_13 + (1 : Int32)) fun v21 => some (.inl (σ20, v21)) else none else none))
def zRk : St → Option (Int32 × St) := fun σe => wlet (si σe 0 47 ((σe.1 0 47) + (1 : Int32))) fun σ3 => Option.bind (f_X11_keepsRow σ3) fun σ5 => some ((1 : Int32), σ5)
theorem M_rec2 {τ : St} {g : Nat} (hg : g < 40) (h : τ.1 0 47 = nI g) : Option.bind (lp zRc2 fuel (τ, 0)) zRk = some (1, sci (si (sci τ 26 29 0 (26 * g) 26) 0 47 (nI (g + 1))) 27 26 0 0 26) := by
  have e47 : ∀ i, (sci τ 26 29 0 (26 * g) i).1 0 47 = nI g := fun i => by rw [sci_get, if_neg (by omega)]; exact h
  have hl : lp zRc2 fuel (τ, 0) = some (sci τ 26 29 0 (26 * g) 26) := by
    refine zlp_copy (by omega) (Or.inl (by omega)) (fun i hi => ?_) ?_
    · have b1 : ib (nI i) 26 = true := ib_t (by omega) (by omega)
      have n1 : ¬ (26 : Int32) ≤ nI i := fun z => by have := (nI_leN (a := 26) (by omega) (by omega)).mp z; omega
      unfold zRc2
      dsimp only [un2]
      rw [if_neg n1, if_ib b1, e47, zm26 g (by omega), nI_add', if_ib (ib_t (show 26 * g + i < 1040 by omega) (by omega)), nI_clamp (show i < 2 ^ 31 by omega), nI_clamp (show 26 * g + i < 2 ^ 31 by omega), wlet_eq, wlet_eq, nI_succ, Nat.zero_add]
    · unfold zRc2
      dsimp only [un2]
      rw [if_pos (by decide)]
  rw [bind_eq hl]
  unfold zRk
  rw [wlet_eq, e47, bind_eq (M_keepsRow _), ← nI_succ]
theorem M_records {τ : St} {h : Nat} (hh : h ≤ 40) (h47 : τ.1 0 47 = nI h) : ∃ τ', f_X11_records τ = some (1, τ') ∧ (∀ c, c ≠ 0 → c ≠ 26 → c ≠ 29 → τ'.1 c = τ.1 c) ∧ (∀ i, i ≠ 47 → τ'.1 0 i = τ.1 0 i) ∧ τ'.2 = τ.2 ∧ τ'.1 0 47 = nI (min (h + 1) 40) ∧ (∀ i, i < 26 → τ'.1 26 i = τ.1 27 i) ∧ (∀ j k, k < 26 → j < min h 39 → hrow τ' j k = hrow τ (j + (h - min h 39)) k) ∧ ∀ k, k < 26 → hrow τ' (min h 39) k = τ.1 26 k := by
  by_cases e : h = 40
  · subst e
    have hl : lp zRc1 fuel (τ, 0) = some (sci τ 29 29 26 0 1014) := by
      refine zlp_copy (by omega) (Or.inr (by omega)) (fun i hi => ?_) ?_
      · have n1 : ¬ (1014 : Int32) ≤ nI i := fun z => by have := (nI_leN (a := 1014) (by omega) (by omega)).mp z; omega
        unfold zRc1
        dsimp only [un2]
        rw [if_neg n1, show nI i + (26 : Int32) = nI (i + 26) from nI_add' i 26, if_ib (ib_t (show i + 26 < 1040 by omega) (by omega)), if_ib (ib_t (show i < 1040 by omega) (by omega)), nI_clamp (show i < 2 ^ 31 by omega), nI_clamp (show i + 26 < 2 ^ 31 by omega), wlet_eq, wlet_eq, nI_succ, Nat.zero_add, Nat.add_comm 26 i]
      · unfold zRc1
        dsimp only [un2]
        rw [if_pos (by decide)]
    have e1 : (sci τ 29 29 26 0 1014).1 0 47 = nI 40 := by rw [sci_get, if_neg (by omega)]; exact h47
    have r2 := M_rec2 (τ := si (sci τ 29 29 26 0 1014) 0 47 (nI 39)) (g := 39) (by omega) (by rw [si_get, if_pos ⟨rfl, rfl⟩])
    refine ⟨sci (si (sci (si (sci τ 29 29 26 0 1014) 0 47 (nI 39)) 26 29 0 (26 * 39) 26) 0 47 (nI (39 + 1))) 27 26 0 0 26, ?_, fun c c1 c2 c3 => ?_, fun i hi => ?_, rfl, ?_, fun i hi => ?_, fun j k hk hj => ?_, fun k hk => ?_⟩
    · unfold f_X11_records
      rw [if_pos (show τ.1 0 47 = (40 : Int32) by rw [h47]; rfl), wlet_eq]
      refine (bind_eq hl).trans ?_
      rw [e1, nI_sub1 (by omega), wlet_eq, wlet_eq]
      exact r2
    · funext i
      rw [sci_get, if_neg c2, si_ne c1, sci_get, if_neg c3, si_ne c1, sci_get, if_neg c3]
    · rw [sci_get, if_neg (by omega), si_get, if_neg (by omega), sci_get, if_neg (by omega), si_get, if_neg (by omega), sci_get, if_neg (by omega)]
    · rw [sci_get, if_neg (by omega), si_get, if_pos ⟨rfl, rfl⟩]
      rfl
    · rw [sci_get, if_pos rfl, if_pos (by omega), si_ne (by omega), sci_get, if_neg (by omega), si_ne (by omega), sci_get, if_neg (by omega), Nat.zero_add, Nat.sub_zero]
    · have hj : j < 39 := by have : min 40 39 = 39 := by decide
                             omega
      unfold hrow
      rw [sci_get, if_neg (by omega), si_ne (by omega), sci_get, if_pos rfl, if_neg (by omega), si_ne (by omega), sci_get, if_pos rfl, if_pos (by omega)]
      refine congrArg (τ.1 29) ?_
      rw [show 40 - min 40 39 = 1 by decide]
      omega
    · unfold hrow
      rw [show min 40 39 = 39 by decide, sci_get, if_neg (by omega), si_ne (by omega), sci_get, if_pos rfl, if_pos (by omega), si_ne (by omega), sci_get, if_neg (by omega)]
      refine congrArg (τ.1 26) ?_
      omega
  · have h40 : h < 40 := by omega
    have hm : min h 39 = h := by omega
    refine ⟨sci (si (sci τ 26 29 0 (26 * h) 26) 0 47 (nI (h + 1))) 27 26 0 0 26, ?_, fun c c1 c2 c3 => ?_, fun i hi => ?_, rfl, ?_, fun i hi => ?_, fun j k hk hj => ?_, fun k hk => ?_⟩
    · unfold f_X11_records
      rw [if_neg (show ¬ τ.1 0 47 = (40 : Int32) from fun z => by rw [h47] at z; have := (nI_eqN (b := 40) (by omega) (by omega)).mp z; omega), wlet_eq]
      exact M_rec2 h40 h47
    · funext i
      rw [sci_get, if_neg c2, si_ne c1, sci_get, if_neg c3]
    · rw [sci_get, if_neg (by omega), si_get, if_neg (by omega), sci_get, if_neg (by omega)]
    · rw [sci_get, if_neg (by omega), si_get, if_pos ⟨rfl, rfl⟩, show min (h + 1) 40 = h + 1 by omega]
    · rw [sci_get, if_pos rfl, if_pos (by omega), si_ne (by omega), sci_get, if_neg (by omega), Nat.zero_add, Nat.sub_zero]
    · unfold hrow
      rw [sci_get, if_neg (by omega), si_ne (by omega), sci_get, if_pos rfl, if_neg (by omega), hm, show h - h = 0 by omega, Nat.add_zero]
    · unfold hrow
      rw [hm, sci_get, if_neg (by omega), si_ne (by omega), sci_get, if_pos rfl, if_pos (by omega)]
      refine congrArg (τ.1 26) ?_
      omega
theorem zdone {σ τ : St} {T : Tx} {m : Nat} (hI : iT σ τ ∧ σ.1 0 11 = τ.1 0 17 ∧ iO σ τ ∧ iK τ) (a1 : TxOK T) (a2 : TxC σ 4 T) (a3 : TxM τ T) (a4 : RS σ 38 m (τ.1 26)) (a5 : WV (tn T) m (τ.1 26)) (a6 : iH T σ τ) (a7 : iL T σ τ) :
    ∃ σ1, f_X0_remember σ 38 = some σ1 ∧ (∀ c, c < 36 ∨ (36 < c ∧ c < 46) ∨ 206 ≤ c → σ1.1 c = σ.1 c) ∧ ∀ τ1 σ2 m', zSc τ τ1 → zFo 38 σ1 σ2 → RS σ2 38 m' (τ1.1 27) → WV (tn T) m' (τ1.1 27) → ∃ τ2, f_X11_records τ1 = some (1, τ2) ∧ τ2.1 26 8 = τ1.1 27 8 ∧ Inv σ2 τ2 := by
  have h7 := zWV7 a5
  obtain ⟨hh, nx, b1, b2, b3, b4, b5, b6⟩ := a6
  obtain ⟨σ1, c1, c2, c3, c4, c5⟩ := C_remember b1 b2 b3 b4
  have fr1 : ∀ c, c < 36 ∨ (36 < c ∧ c < 46) ∨ 206 ≤ c → σ1.1 c = σ.1 c := fun c hc => c2 c (by omega) (by omega)
  refine ⟨σ1, c1, fr1, fun τ1 σ2 m' g f hR hW => ?_⟩
  have gc : ∀ c, c ≠ 0 → c ≠ 24 → c ≠ 25 → c ≠ 27 → c ≠ 28 → c ≠ 30 → c ≠ 34 → c ≠ 35 → τ1.1 c = τ.1 c := g.1
  obtain ⟨τ2, d1, d2, d3, d4, d5, d6, d7, d8⟩ := M_records b1 ((g.2.1 47 (by omega) (by omega) (by omega)).trans b5)
  have e29 : ∀ j, hrow τ1 j = hrow τ j := fun j => by unfold hrow; rw [gc 29 (by omega) (by omega) (by omega) (by omega) (by omega) (by omega) (by omega) (by omega)]
  have fs : ∀ c, (c < 22 ∨ (30 < c ∧ c < 36) ∨ 206 ≤ c) → σ2.1 c = σ.1 c := fun c hc => (f.1 c (by omega) (by omega)).trans (fr1 c (by omega))
  have ft : ∀ c, c ≠ 0 → c ≠ 26 → c ≠ 29 → c ≠ 24 → c ≠ 25 → c ≠ 27 → c ≠ 28 → c ≠ 30 → c ≠ 34 → c ≠ 35 → τ2.1 c = τ.1 c := fun c h1 h2 h3 h4 h5 h6 h7 h8 h9 h10 => (d2 c h1 h2 h3).trans (gc c h1 h4 h5 h6 h7 h8 h9 h10)
  have f0 : ∀ i, i ≠ 47 → i ≠ 42 → i ≠ 45 → i ≠ 50 → τ2.1 0 i = τ.1 0 i := fun i h1 h2 h3 h4 => (d3 i h1).trans (g.2.1 i h2 h3 h4)
  obtain ⟨i1, i2, i3, i4⟩ := hI
  refine ⟨τ2, d1, d6 8 (by omega), ?_, ?_, ?_, fun k hk => ?_, T, m', a1, ?_, ?_, ?_, ?_, ?_, ?_⟩
  · exact iT_congr (fs 2 (by omega)) (fs 3 (by omega)) (f0 2 (by omega) (by omega) (by omega) (by omega)) (ft 1 (by omega) (by omega) (by omega) (by omega) (by omega) (by omega) (by omega) (by omega) (by omega) (by omega)) i1
  · rw [fs 0 (by omega), f0 17 (by omega) (by omega) (by omega) (by omega)]; exact i2
  · exact iO_congr (by rw [fs 31 (by omega)]) (fun c hc => fs c (by omega)) (f0 51 (by omega) (by omega) (by omega) (by omega)) (fun c hc => ft c (by omega) (by omega) (by omega) (by omega) (by omega) (by omega) (by omega) (by omega) (by omega) (by omega)) i3
  · rw [d4, g.2.2]; exact i4 k hk
  · exact zTxC_congr (fun c h1 h2 => fs c (by omega)) a2
  · exact TxM_congr (f0 18 (by omega) (by omega) (by omega) (by omega)) (fun c h1 h2 => ft c (by omega) (by omega) (by omega) (by omega) (by omega) (by omega) (by omega) (by omega) (by omega) (by omega)) a3
  · exact RS_congr d6 (zWV7 hW) hR
  · exact WV_congr d6 hW
  · refine ⟨min (hh + 1) 40, (nx + 1) % 40, by omega, Nat.mod_lt _ (by omega), ?_, ?_, d5, fun i hi => ?_⟩
    · rw [f.1 36 (by omega) (by omega)]; exact c3
    · rw [f.1 36 (by omega) (by omega)]; exact c4
    · by_cases e : i = 0
      · subst e
        have q1 : (((nx + 1) % 40) + 39 - 0) % 40 = nx := by omega
        have q2 : min (hh + 1) 40 - 1 - 0 = min hh 39 := by omega
        rw [q1, q2]
        have hv : ∀ k, k < 26 → hrow τ2 (min hh 39) k = τ.1 26 k := fun k hk => by
          rw [d8 k hk, gc 26 (by omega) (by omega) (by omega) (by omega) (by omega) (by omega) (by omega) (by omega)]
        refine ⟨m, RS_congr hv h7 ?_, WV_congr hv a5⟩
        exact zRS_cell (fun c h1 h2 => f.1 c (by omega) (by omega)) (c5 m _ h7 a4)
      · obtain ⟨mi, m1, m2⟩ := b6 (i - 1) (by omega)
        have q1 : (((nx + 1) % 40) + 39 - i) % 40 = (nx + 39 - (i - 1)) % 40 := by omega
        have q3 : (nx + 39 - (i - 1)) % 40 ≠ nx := by omega
        have hv : ∀ k, k < 26 → hrow τ2 (min (hh + 1) 40 - 1 - i) k = hrow τ (hh - 1 - (i - 1)) k := fun k hk => by
          rw [d7 _ k hk (by omega), e29]
          congr 1
          omega
        rw [q1]
        refine ⟨mi, RS_congr hv (zWV7 m2) ?_, WV_congr hv m2⟩
        have := Nat.mod_lt (nx + 39 - (i - 1)) (show 0 < 40 by omega)
        exact zRS_cell (fun c h1 h2 => (f.1 c (by omega) (by omega)).trans (c2 c (by omega) (by omega))) m1
  · exact iL_congr (by rw [fs 0 (by omega)]) (fun c hc => fs c (by omega)) (ft 36 (by omega) (by omega) (by omega) (by omega) (by omega) (by omega) (by omega) (by omega) (by omega) (by omega)) (ft 37 (by omega) (by omega) (by omega) (by omega) (by omega) (by omega) (by omega) (by omega) (by omega) (by omega)) a7
theorem zrem38 {σ σ1 : St} (h : ∀ c, c < 36 ∨ (36 < c ∧ c < 46) ∨ 206 ≤ c → σ1.1 c = σ.1 c) {m : Nat} {V : Nat → Int32} (hR : RS σ 38 m V) : RS σ1 38 m V := zRS_cell (fun c h1 h2 => h c (by omega)) hR
theorem zFo_sc {o : Nat} (σ : St) {c : Nat} (f : Nat → Int32) (h : o ≤ c ∧ c ≤ o + 3) : zFo o σ (sc σ c f) := ⟨fun k _ h2 => zsc_ne (by omega), rfl⟩
theorem zFo_f1 {o : Nat} {a b : St} (h : fr o (o + 1) a b) : zFo o a b := ⟨fun k _ h2 => h.1 k (by omega), h.2⟩
theorem zdo_change : sim_change Inv := by
  intro σ τ hI x y
  obtain ⟨i1, i2, i3, i4, T, m, a1, a2, a3, a4, a5, a6, a7⟩ := id hI
  obtain ⟨τ1, b1, b2, b3, b4, b5, b6, b7⟩ := zcop a3 a5
  have R := b7 σ 38 a4
  have h7 := zWV7 b4
  have hQ := Inv_q hI (zK_refl _) b1
  unfold f_X10_change f_X11_change
  rw [bind_eq b2]
  by_cases e : x = y
  · rw [if_pos e, bind_eq (zTwo_f b3 a1 b4 (Or.inl e)), if_pos rfl]
    exact ⟨_, _, _, rfl, rfl, hQ⟩
  rw [if_neg e, bind_eq (C_isListed h7 R _)]
  rcases zwho b4 x with ⟨a, ha, rfl⟩ | ⟨c, hc, rfl, hp⟩ | ⟨hx, hp⟩
  · rw [zpO_at b4 ha, if_neg (nI_ne_m1 (by omega)), if_neg n10, bind_eq (C_isListed h7 R _)]
    rcases zwho b4 y with ⟨b, hb, rfl⟩ | ⟨c, hc, rfl, hp⟩ | ⟨hy, hp⟩
    · have hab : a ≠ b := fun z => e (by rw [z])
      obtain ⟨σ1, c1, c2, c3⟩ := zdone ⟨i1, i2, i3, i4⟩ a1 a2 a3 a4 a5 a6 a7
      have R1 := zrem38 c2 R
      obtain ⟨τ2, d1, d2, d3⟩ := c3 (sc τ1 27 (zsw (τ1.1 27) a b)) (sc σ1 (38 + 1) (zsw (σ1.1 (38 + 1)) a b)) m (zSc_trans b1 (zSc_Lc (zLc_sc _ _))) (zFo_sc _ _ (by omega)) (by rw [zsc_eq]; exact zRS_sw R1 ha hb h7) (by rw [zsc_eq]; exact zWV_sw b4 ha hb)
      rw [zpO_at b4 hb, if_neg (nI_ne_m1 (by omega)), if_neg n10, bind_eq c1, bind_eq (C_swap R1 b4 ha hb), bind_eq (zTwo_t b3 a1 b4 ha hb hab), if_neg n10, bind_eq (M_placeOf h7 b4.2.2.1 _), bind_eq (M_placeOf h7 b4.2.2.1 _), zpO_at b4 ha, zpO_at b4 hb, bind_eq (M_changes (by omega) (by omega)), bnd2_eq d1, if_pos bz1]
      exact ⟨_, _, _, rfl, rfl, d3⟩
    · rw [hp, if_pos rfl, if_pos rfl, bind_eq (zTwo_f b3 a1 b4 (Or.inr (Or.inr hp))), if_pos rfl]
      exact ⟨_, _, _, rfl, rfl, hQ⟩
    · rw [hp, if_pos rfl, if_pos rfl, bind_eq (zTwo_f b3 a1 b4 (Or.inr (Or.inr hp))), if_pos rfl]
      exact ⟨_, _, _, rfl, rfl, hQ⟩
  · rw [hp, if_pos rfl, if_pos rfl, bind_eq (zTwo_f b3 a1 b4 (Or.inr (Or.inl hp))), if_pos rfl]
    exact ⟨_, _, _, rfl, rfl, hQ⟩
  · rw [hp, if_pos rfl, if_pos rfl, bind_eq (zTwo_f b3 a1 b4 (Or.inr (Or.inl hp))), if_pos rfl]
    exact ⟨_, _, _, rfl, rfl, hQ⟩
theorem zdo_go : sim_go Inv := by
  intro σ τ hI x y
  obtain ⟨i1, i2, i3, i4, T, m, a1, a2, a3, a4, a5, a6, a7⟩ := id hI
  obtain ⟨τ1, b1, b2, b3, b4, b5, b6, b7⟩ := zcop a3 a5
  have R := b7 σ 38 a4
  have h7 := zWV7 b4
  have hQ := Inv_q hI (zK_refl _) b1
  unfold f_X10_go f_X11_go
  rw [bind_eq b2, bind_eq (C_isListed h7 R _)]
  rcases zwho b4 x with ⟨a, ha, rfl⟩ | ⟨c, hc, rfl, hp⟩ | ⟨hx, hp⟩
  · obtain ⟨e1, e2⟩ := cN_eq b4 ha
    have hcase : f_X11_isCase τ1 (τ1.1 27 a) = some 1 := by rw [e1]; exact M_isCase_t b3 a1 e2
    have hpl := zpO_at b4 ha
    rw [hpl, if_neg (nI_ne_m1 (by omega)), if_neg n10, bind_eq hcase, if_neg n10, bind_eq (M_isOn h7 b4.2.2.1 _), hpl, if_neg (nI_ne_m1 (by omega)), if_neg n10, if_ib b726, c7, b4.2.2.1]
    by_cases h1 : y < 0
    · rw [bind_eq (C_docketAt_out R (Or.inl h1)), if_pos rfl, bind_eq (zin_l h1), if_pos rfl]
      exact ⟨_, _, _, rfl, rfl, hQ⟩
    · obtain ⟨b, bk, rfl⟩ := i_nat h1
      by_cases h2 : b < m
      · have hne : ¬ τ1.1 27 b = (-1 : Int32) := fun e => by
          obtain ⟨k, k1, k2⟩ := b4.2.2.2.1 b h2
          rw [k2] at e
          exact nI_ne_m1 (by have := b4.2.1; omega) e
        rw [bind_eq (C_docketAt R h7 h2), if_neg hne, bind_eq (zin_t h1 ((zlt_le (by omega)).mpr ((nI_ltN (by omega) (by omega)).mpr h2))), if_neg n10, bind_eq (C_placeOf h7 R.1 R.2.2.2.2.2.1 _), hpl, if_ib (ib_t (show b < 26 by omega) (by omega)), nI_clamp (show b < 2 ^ 31 by omega)]
        by_cases e : a = b
        · rw [if_pos (by rw [e]), if_pos (by rw [e])]
          exact ⟨_, _, _, rfl, rfl, hQ⟩
        · have q1 : ¬ nI a = nI b := fun z => e ((nI_eqN (by omega) (by omega)).mp z)
          have q2 : ¬ τ1.1 27 b = τ1.1 27 a := fun z => e (b4.2.2.2.2 b a h2 ha z).symm
          obtain ⟨σ1, c1, c2, c3⟩ := zdone ⟨i1, i2, i3, i4⟩ a1 a2 a3 a4 a5 a6 a7
          have R1 := zrem38 c2 R
          obtain ⟨τ2, d1, d2, d3⟩ := c3 (sc τ1 27 (zmv (τ1.1 27) a b)) (sc σ1 (38 + 1) (zmv (σ1.1 (38 + 1)) a b)) m (zSc_trans b1 (zSc_Lc (zLc_sc _ _))) (zFo_sc _ _ (by omega)) (by rw [zsc_eq]; exact zRS_mv R1 ha h2 h7) (by rw [zsc_eq]; exact zWV_mv b4 ha h2)
          rw [if_neg q1, if_neg q2, bind_eq c1, bind_eq (C_move R1 b4 ha h2), bind_eq (M_placeOf h7 b4.2.2.1 _), hpl, bind_eq (M_moves (by omega) (by omega)), bnd2_eq d1, if_pos bz1]
          exact ⟨_, _, _, rfl, rfl, d3⟩
      · have h3 : nI m ≤ nI b := (nI_leN (by omega) bk).mpr (by omega)
        have h4 : nI m - (1 : Int32) < nI b := Classical.byContradiction fun z => (Int32.not_lt.mpr h3) ((zlt_le (by omega)).mp z)
        rw [bind_eq (C_docketAt_out R (Or.inr h3)), if_pos rfl, bind_eq (zin_r h4), if_pos rfl]
        exact ⟨_, _, _, rfl, rfl, hQ⟩
  · rw [hp, if_pos rfl, if_pos rfl, bind_eq (M_isCase_t b3 a1 hc), if_neg n10, bind_eq (M_isOn h7 b4.2.2.1 _), hp, if_pos rfl, if_pos rfl]
    exact ⟨_, _, _, rfl, rfl, hQ⟩
  · rw [hp, if_pos rfl, if_pos rfl, bind_eq (M_isCase_f b3 a1 hx), if_pos rfl]
    exact ⟨_, _, _, rfl, rfl, hQ⟩
theorem zdo_off : sim_off Inv := by
  intro σ τ hI x
  obtain ⟨i1, i2, i3, i4, T, m, a1, a2, a3, a4, a5, a6, a7⟩ := id hI
  obtain ⟨τ1, b1, b2, b3, b4, b5, b6, b7⟩ := zcop a3 a5
  have R := b7 σ 38 a4
  have h7 := zWV7 b4
  have hQ := Inv_q hI (zK_refl _) b1
  unfold f_X10_off f_X11_off
  rw [bind_eq b2, bind_eq (C_isListed h7 R _)]
  rcases zwho b4 x with ⟨a, ha, rfl⟩ | ⟨c, hc, rfl, hp⟩ | ⟨hx, hp⟩
  · obtain ⟨e1, e2⟩ := cN_eq b4 ha
    have hcase : f_X11_isCase τ1 (τ1.1 27 a) = some 1 := by rw [e1]; exact M_isCase_t b3 a1 e2
    have hpl := zpO_at b4 ha
    obtain ⟨σ1, c1, c2, c3⟩ := zdone ⟨i1, i2, i3, i4⟩ a1 a2 a3 a4 a5 a6 a7
    have R1 := zrem38 c2 R
    obtain ⟨σ2, s1, s2, s3⟩ := C_strike R1 b4 ha
    obtain ⟨τ2, d1, d2, d3⟩ := c3 (sc τ1 27 (zst (τ1.1 27) a m)) σ2 (m - 1) (zSc_trans b1 (zSc_Lc (zLc_sc _ _))) (zFo_f1 s1) (by rw [zsc_eq]; exact s3) (by rw [zsc_eq]; exact zWV_st b4 ha)
    rw [hpl, if_neg (nI_ne_m1 (by omega)), if_neg n10, bind_eq c1, bind_eq s2, bind_eq hcase, if_neg n10, bind_eq (M_isOn h7 b4.2.2.1 _), hpl, if_neg (nI_ne_m1 (by omega)), if_neg n10, bind_eq (M_placeOf h7 b4.2.2.1 _), hpl, bind_eq (M_putsOff ha h7 b4.2.2.1), bnd2_eq d1, if_pos bz1]
    exact ⟨_, _, _, rfl, rfl, d3⟩
  · rw [hp, if_pos rfl, if_pos rfl, bind_eq (M_isCase_t b3 a1 hc), if_neg n10, bind_eq (M_isOn h7 b4.2.2.1 _), hp, if_pos rfl, if_pos rfl]
    exact ⟨_, _, _, rfl, rfl, hQ⟩
  · rw [hp, if_pos rfl, if_pos rfl, bind_eq (M_isCase_f b3 a1 hx), if_pos rfl]
    exact ⟨_, _, _, rfl, rfl, hQ⟩
theorem zdo_on : sim_on Inv := by
  intro σ τ hI x
  obtain ⟨i1, i2, i3, i4, T, m, a1, a2, a3, a4, a5, a6, a7⟩ := id hI
  obtain ⟨τ1, b1, b2, b3, b4, b5, b6, b7⟩ := zcop a3 a5
  have R := b7 σ 38 a4
  have h7 := zWV7 b4
  have hQ := Inv_q hI (zK_refl _) b1
  unfold f_X10_on f_X11_on
  rw [bind_eq b2]
  rcases zwho b4 x with ⟨a, ha, rfl⟩ | ⟨c, hc, rfl, hp⟩ | ⟨hx, hp⟩
  · obtain ⟨e1, e2⟩ := cN_eq b4 ha
    have hcase : f_X11_isCase τ1 (τ1.1 27 a) = some 1 := by rw [e1]; exact M_isCase_t b3 a1 e2
    have hhas : f_X8_has σ 4 (τ1.1 27 a) = some 1 := by rw [e1]; exact C_has a2 a1 e2
    have hpl := zpO_at b4 ha
    rw [bind_eq hhas, if_neg n10, bind_eq (C_isListed h7 R _), hpl, if_neg (nI_ne_m1 (by omega)), if_neg n10, bind_eq hcase, if_neg n10, bind_eq (M_isOn h7 b4.2.2.1 _), hpl, if_neg (nI_ne_m1 (by omega)), if_neg n10]
    exact ⟨_, _, _, rfl, rfl, hQ⟩
  · obtain ⟨w1, w2⟩ := zWV_ap b4 hc hp
    have hn := a1.1
    obtain ⟨σ1, c1, c2, c3⟩ := zdone ⟨i1, i2, i3, i4⟩ a1 a2 a3 a4 a5 a6 a7
    have R1 := zrem38 c2 R
    have f1 : zFo 38 σ1 (si (si σ1 (38 + 1) m (nI c)) 38 3 (nI (m + 1))) := zFo_trans (zFo_si _ _ _ (by omega)) (zFo_si _ _ _ (by omega))
    obtain ⟨τ2, d1, d2, d3⟩ := c3 (sc τ1 27 (zap (τ1.1 27) m (nI c))) _ (m + 1) (zSc_trans b1 (zSc_Lc (zLc_sc _ _))) f1 (by rw [zsc_eq]; exact zRS_ap R1 (by omega) _) (by rw [zsc_eq]; exact w2)
    have bm : ib (nI m) 26 = true := ib_t (by omega) (by omega)
    have e7 : upd (τ1.1 27) m (nI c) 7 = nI m := by rw [upd_ne (by omega)]; exact b4.2.2.1
    rw [bind_eq (C_has a2 a1 hc), if_neg n10, bind_eq (C_isListed h7 R _), hp, if_pos rfl, if_pos rfl, bind_eq c1, bind_eq (C_append R1.1 (by omega) _), bind_eq (M_isCase_t b3 a1 hc), if_neg n10, bind_eq (M_isOn h7 b4.2.2.1 _), hp, if_pos rfl, if_pos rfl, if_ib b726, c7, b4.2.2.1, if_ib bm, nI_clamp (show m < 2 ^ 31 by omega), wlet_eq, if_ib b726, if_ib b726, wlet_eq, zsi_as τ1, zsi_sc, zsc_eq, e7, ← nI_succ, show upd (upd (τ1.1 27) m (nI c)) 7 (nI (m + 1)) = zap (τ1.1 27) m (nI c) from rfl, bnd2_eq d1, if_pos bz1]
    exact ⟨_, _, _, rfl, rfl, d3⟩
  · rw [bind_eq (C_has_f a2 hx), if_pos rfl, bind_eq (M_isCase_f b3 a1 hx), if_pos rfl]
    exact ⟨_, _, _, rfl, rfl, hQ⟩
theorem zRS_p {σ : St} {o m p : Nat} {V : Nat → Int32} (hR : RS σ o m V) (hm : m ≤ 7) (hp : p < 7) (x : Int32) : RS (si σ (o + 2) p x) o m (upd V (10 + p) x) := by
  obtain ⟨r1, r2, r3, r4, r5, r6, r7, r8⟩ := hR
  refine ⟨?_, ?_, ?_, ?_, ?_, fun i hi => ?_, fun c hc => ?_, fun c hc => ?_⟩
  · rw [si_get, if_neg (by omega)]; exact r1
  · rw [si_get, if_neg (by omega), upd_ne (by omega)]; exact r2
  · rw [si_get, if_neg (by omega), upd_ne (by omega)]; exact r3
  · rw [si_get, if_neg (by omega), upd_ne (by omega)]; exact r4
  · rw [si_get, if_neg (by omega), upd_ne (by omega)]; exact r5
  · rw [si_get, if_neg (by omega), upd_ne (by omega)]; exact r6 i hi
  · rw [si_get]
    by_cases e : c = p
    · rw [if_pos ⟨rfl, e⟩, e, upd_eq']
    · rw [if_neg (fun z => e z.2), upd_ne (by omega)]; exact r7 c hc
  · rw [si_get, if_neg (by omega), upd_ne (by omega)]; exact r8 c hc
theorem zdo_plead : sim_plead Inv := by
  intro σ τ hI x
  obtain ⟨i1, i2, i3, i4, T, m, a1, a2, a3, a4, a5, a6, a7⟩ := id hI
  obtain ⟨τ1, b1, b2, b3, b4, b5, b6, b7⟩ := zcop a3 a5
  have R := b7 σ 38 a4
  have h7 := zWV7 b4
  have hn := a1.1
  have hQ := Inv_q hI (zK_refl _) b1
  have hm1 : f_X8_has σ 4 (-1) = some 0 := C_has_f a2 (Or.inl (by decide))
  unfold f_X10_plead f_X11_plead
  rw [bind_eq b2]
  rcases zwho b4 x with ⟨a, ha, rfl⟩ | ⟨c, hc, rfl, hp⟩ | ⟨hx, hp⟩
  · obtain ⟨e1, e2⟩ := cN_eq b4 ha
    have hcase : f_X11_isCase τ1 (τ1.1 27 a) = some 1 := by rw [e1]; exact M_isCase_t b3 a1 e2
    have hpl := zpO_at b4 ha
    have hdp : f_X11_doesPlead τ1 (τ1.1 27 a) = some (plB (τ1.1 27) (τ1.1 27 a)) := by
      have := M_doesPlead (τ := τ1) (a := cN (τ1.1 27) a) (by omega)
      rw [← e1] at this; exact this
    rw [bind_eq (C_behind_in R b4 ha), bind_eq hcase, if_neg n10, bind_eq (M_isOn h7 b4.2.2.1 _), hpl, if_neg (nI_ne_m1 (by omega)), if_neg n10, bind_eq hdp]
    by_cases hl : a + 1 < m
    · obtain ⟨p1, p2⟩ := cN_eq b4 hl
      have hhas : f_X8_has σ 4 (τ1.1 27 (a + 1)) = some 1 := by rw [p1]; exact C_has a2 a1 p2
      rw [if_pos hl, bind_eq hhas, if_neg n10, bind_eq (C_isPleading R _)]
      rcases plB_01 (τ1.1 27) (τ1.1 27 a) with hz | hz
      · rw [hz, if_pos rfl, if_pos rfl]
        have hq1 : ¬ nI a = nI (m - 1) := fun z => by have := (nI_eqN (by omega) (by omega)).mp z; omega
        have ba : ib (nI (a + 1)) 26 = true := ib_t (by omega) (by omega)
        have ga : (nI (a + 1)).toNatClampNeg = a + 1 := nI_clamp (by omega)
        have hde : f_X11_deedAt τ1 (τ1.1 27 a) = some (nI (td T (cN (τ1.1 27) a))) := by rw [e1]; exact M_deedAt b3 a1 e2
        -- the class's fee
        obtain ⟨σ1, s1, s2, s3⟩ := C_seatAsListed a2 a1 R b4 (by omega) p2
        have T1 := TxC_fr s1 (by omega) a2
        obtain ⟨σ2, t1, t2, t3⟩ := C_sentence (k := 2) (d := nI (td T (cN (τ1.1 27) a))) (vs := VV T (τ1.1 27) (cN (τ1.1 27) (a + 1)) (plc (τ1.1 27) m (cN (τ1.1 27) (a + 1))) (plp (τ1.1 27) m (cN (τ1.1 27) (a + 1))) (nI (td T (cN (τ1.1 27) a)))) T1 a1 (by omega) rfl (fun k hk h0 => s3 _ k hk h0)
        have t2 : f_X1_sentence σ1 2 (nI (td T (cN (τ1.1 27) a))) = some (lsV T (τ1.1 27) m 2 99 (cN (τ1.1 27) (a + 1)) (nI (td T (cN (τ1.1 27) a))), σ2) := t2
        rw [ls_listed b4 hl] at t2
        have hPL := PL_on b4 hl
        rw [ahd_ahN b4 hl] at hPL
        obtain ⟨τ3, f1, f2⟩ := M_feeOf (d := nI (td T (cN (τ1.1 27) a))) b3 a1 p2 hPL
        rw [← p1] at f2
        generalize hfee : SV T 2 99 (VV T (τ1.1 27) (cN (τ1.1 27) (a + 1)) (nI (a + 1)) (plB (τ1.1 27) (ahN (a + 1) (cN (τ1.1 27) (a + 1 - 1)))) (nI (td T (cN (τ1.1 27) a)))) = fee at t2 f2
        have v3 := fl27 f1
        have hzk : zK σ σ2 := zK_frj (fr_trans (fr_mono s1 (by omega) (by omega)) t1)
        have hI2 := Inv_q hI hzk (zSc_refl τ)
        have R2 := zRS_K hzk R
        have hdC : f_X8_deedOf σ1 4 (τ1.1 27 a) = some (nI (td T (cN (τ1.1 27) a))) := by rw [e1]; exact C_deedOf T1 a1 e2
        have hsA : f_X1_seatAsListed σ 38 (τ1.1 27 (a + 1)) = some σ1 := by rw [p1]; exact s2
        have bp : ib (nI (cN (τ1.1 27) (a + 1))) 7 = true := ib_t (by omega) (by omega)
        have gp : (nI (cN (τ1.1 27) (a + 1))).toNatClampNeg = cN (τ1.1 27) (a + 1) := nI_clamp (by omega)
        have b10 : ib (nI (10 + cN (τ1.1 27) (a + 1))) 26 = true := ib_t (by omega) (by omega)
        have g10 : (nI (10 + cN (τ1.1 27) (a + 1))).toNatClampNeg = 10 + cN (τ1.1 27) (a + 1) := nI_clamp (by omega)
        have r40 : σ2.1 40 (cN (τ1.1 27) (a + 1)) = τ1.1 27 (10 + cN (τ1.1 27) (a + 1)) := R2.2.2.2.2.2.2.1 _ (by omega)
        have hbp : ib (τ1.1 27 (a + 1)) 7 = true := by rw [p1]; exact bp
        have hgp : (τ1.1 27 (a + 1)).toNatClampNeg = cN (τ1.1 27) (a + 1) := rfl
        have h10 : (10 : Int32) + τ1.1 27 (a + 1) = nI (10 + cN (τ1.1 27) (a + 1)) := by rw [← za10, ← p1]
        rw [bind_eq hsA, bind_eq hdC, bnd2_eq t2, if_ib hbp, hgp, r40, bind_eq (M_placeOf h7 b4.2.2.1 _), hpl, if_ib b726, c7, b4.2.2.1, nI_sub1 (by omega), if_neg hq1, bind_eq (M_placeOf h7 b4.2.2.1 _), hpl, wlet_eq, ← nI_succ, if_ib ba, ga, bind_eq hde, bnd2_eq f2, if_ib ba, v3, h10, if_ib b10, g10]
        by_cases hpay : fee ≤ τ1.1 27 (10 + cN (τ1.1 27) (a + 1))
        · obtain ⟨j1, j2, j3, j4, -⟩ := hI2
          have a2' := zTx_K hzk a2
          have a4' := zRS_K hzk a4
          have a6' : iH T σ2 τ := iH_congr (hzk.1 36 (by omega)) (fun c h1 h2 => hzk.1 c (by omega)) rfl rfl a6
          have a7' : iL T σ2 τ := iL_congr (by rw [hzk.1 0 (by omega)]) (fun c h1 => hzk.1 c (by omega)) rfl rfl a7
          obtain ⟨σ4, c1, c2, c3⟩ := zdone ⟨j1, j2, j3, j4⟩ a1 a2' a3 a4' a5 a6' a7'
          have R4 := zrem38 c2 R2
          have r40' : σ4.1 40 (cN (τ1.1 27) (a + 1)) = τ1.1 27 (10 + cN (τ1.1 27) (a + 1)) := R4.2.2.2.2.2.2.1 _ (by omega)
          have l1 := C_letPlead (σ := si σ4 40 (cN (τ1.1 27) (a + 1)) (τ1.1 27 (10 + cN (τ1.1 27) (a + 1)) - fee)) (o := 38) (c := cN (τ1.1 27) a) (by omega)
          rw [← e1] at l1
          have R5 : RS (si σ4 (38 + 2) (cN (τ1.1 27) (a + 1)) (τ1.1 27 (10 + cN (τ1.1 27) (a + 1)) - fee)) 38 m (upd (τ1.1 27) (10 + cN (τ1.1 27) (a + 1)) (τ1.1 27 (10 + cN (τ1.1 27) (a + 1)) - fee)) := zRS_p R4 h7 (by omega) _
          have R6 := zRS_24 R5 h7 ((si σ4 (38 + 2) (cN (τ1.1 27) (a + 1)) (τ1.1 27 (10 + cN (τ1.1 27) (a + 1)) - fee)).1 38 4 ||| ((1 : Int32) <<< (τ1.1 27 a &&& 31)))
          have e24 : (si σ4 (38 + 2) (cN (τ1.1 27) (a + 1)) (τ1.1 27 (10 + cN (τ1.1 27) (a + 1)) - fee)).1 38 4 = τ1.1 27 24 := by
            rw [si_ne (by omega)]; exact R4.2.1
          rw [e24] at R6
          have e24' : (si σ4 40 (cN (τ1.1 27) (a + 1)) (τ1.1 27 (10 + cN (τ1.1 27) (a + 1)) - fee)).1 38 4 = τ1.1 27 24 := e24
          rw [e24'] at l1
          have W6 : WV (tn T) m (upd (upd (τ1.1 27) (10 + cN (τ1.1 27) (a + 1)) (τ1.1 27 (10 + cN (τ1.1 27) (a + 1)) - fee)) 24 (τ1.1 27 24 ||| ((1 : Int32) <<< (τ1.1 27 a &&& 31)))) := zWV_24 (zWV_24 b4 _ _ (by omega)) _ _ (by omega)
          obtain ⟨τ5, d1, d2, d3⟩ := c3 (sc τ3 27 (upd (upd (τ1.1 27) (10 + cN (τ1.1 27) (a + 1)) (τ1.1 27 (10 + cN (τ1.1 27) (a + 1)) - fee)) 24 (τ1.1 27 24 ||| ((1 : Int32) <<< (τ1.1 27 a &&& 31))))) _ m (zSc_trans b1 (zSc_trans (zSc_fl f1) (zSc_Lc (zLc_sc _ _)))) (zFo_trans (zFo_si σ4 (c := 38 + 2) _ _ (by omega)) (zFo_si _ (c := 38) _ _ (by omega))) (by rw [zsc_eq]; exact R6) (by rw [zsc_eq]; exact W6)
          have hx3 : si τ3 27 (10 + cN (τ1.1 27) (a + 1)) (τ1.1 27 (10 + cN (τ1.1 27) (a + 1)) - fee) = sc τ3 27 (upd (τ1.1 27) (10 + cN (τ1.1 27) (a + 1)) (τ1.1 27 (10 + cN (τ1.1 27) (a + 1)) - fee)) := by rw [zsi_as, v3]
          rw [if_pos hpay, if_pos hpay, bind_eq c1, if_ib hbp, if_ib hbp, wlet_eq, r40', bind_eq l1, if_ib ba, if_ib b10, if_ib b10, wlet_eq, if_ib b2426, if_ib b2426, wlet_eq, tc24, hx3, zsi_sc, zsc_eq, upd_ne (show 24 ≠ 10 + cN (τ1.1 27) (a + 1) by omega), bnd2_eq d1]
          exact ⟨_, _, _, rfl, rfl, d3⟩
        · rw [if_neg hpay, if_neg hpay]
          exact ⟨_, _, _, rfl, rfl, Inv_q hI hzk (zSc_trans b1 (zSc_fl f1))⟩
      · rw [hz, if_neg n10, if_neg n10]
        exact ⟨_, _, _, rfl, rfl, hQ⟩
    · rw [if_neg hl, bind_eq hm1, if_pos rfl]
      rcases plB_01 (τ1.1 27) (τ1.1 27 a) with hz | hz
      · have hq1 : nI a = nI (m - 1) := by rw [show m - 1 = a by omega]
        rw [hz, if_pos rfl, bind_eq (M_placeOf h7 b4.2.2.1 _), hpl, if_ib b726, c7, b4.2.2.1, nI_sub1 (by omega), if_pos hq1]
        exact ⟨_, _, _, rfl, rfl, hQ⟩
      · rw [hz, if_neg n10]
        exact ⟨_, _, _, rfl, rfl, hQ⟩
  · rw [bind_eq (C_behind_out R h7 hp), bind_eq hm1, if_pos rfl, bind_eq (M_isCase_t b3 a1 hc), if_neg n10, bind_eq (M_isOn h7 b4.2.2.1 _), hp, if_pos rfl, if_pos rfl]
    exact ⟨_, _, _, rfl, rfl, hQ⟩
  · rw [bind_eq (C_behind_out R h7 hp), bind_eq hm1, if_pos rfl, bind_eq (M_isCase_f b3 a1 hx), if_pos rfl]
    exact ⟨_, _, _, rfl, rfl, hQ⟩
theorem zdo_sessions : sim_sessions Inv := by
  intro σ τ hI y
  obtain ⟨i1, i2, i3, i4, T, m, a1, a2, a3, a4, a5, a6, a7⟩ := id hI
  obtain ⟨τ1, b1, b2, b3, b4, b5, b6, b7⟩ := zcop a3 a5
  have R := b7 σ 38 a4
  have h7 := zWV7 b4
  unfold f_X10_sessions f_X11_sessions
  by_cases d0 : y < 0
  · rw [if_pos d0, bind_eq (M_isLong_f (Or.inl d0)), if_pos rfl]
    exact ⟨_, _, _, rfl, rfl, hI⟩
  rw [if_neg d0]
  by_cases d1 : y ≤ 40
  · obtain ⟨k, k1, rfl⟩ := znat (N := 40) (by omega) d0 (Int32.not_lt.mpr d1)
    rw [if_pos d1, bind_eq (M_isLong_t d0 (Int32.not_lt.mpr d1)), if_neg n10]
    by_cases k0 : k = 0
    · subst k0
      rw [if_pos (show nI 0 ≤ 0 by decide), if_pos (show nI 0 = 0 from rfl), if_ib b826, tc8]
      exact ⟨_, _, _, rfl, by rw [show σ.1 38 6 = _ from a4.2.2.2.1], hI⟩
    · have n1 : ¬ nI k ≤ 0 := fun z => by have := (nI_leN (b := 0) (by omega) (by omega)).mp z; omega
      have n2 : ¬ nI k = 0 := nI_ne0 (by omega) (by omega)
      obtain ⟨σ1, c1, c2, c3⟩ := zdone ⟨i1, i2, i3, i4⟩ a1 a2 a3 a4 a5 a6 a7
      have R1 := zrem38 c2 R
      have T1 := zTxC_congr (fun c h1 h2 => c2 c (by omega)) a2
      obtain ⟨σ2, e1, e2, e3⟩ := C_goThrough (s := nI (ts T)) T1 a1 R1 b4 (by omega) k1
      obtain ⟨τ2, g1, g2, g3⟩ := M_goes b3 a1 b4 k1
      rw [b5] at g3
      obtain ⟨τ3, d1', d2, d3⟩ := c3 τ2 σ2 _ (zSc_trans b1 (zSc_Lc g1)) e1 (by rw [g3]; exact e3) (by rw [g3]; exact zWV_goes b4 k)
      rw [if_neg n1, if_neg n2, bind_eq c1, T1.2.2.2.1, bind_eq e2, bind_eq b2, bind_eq g2, bnd2_eq d1', if_ib b826, tc8, d2, g3]
      exact ⟨_, _, _, rfl, by rw [show σ2.1 38 6 = _ from e3.2.2.2.1], d3⟩
  · rw [if_neg d1, bind_eq (M_isLong_f (Or.inr (Int32.not_le.mp d1))), if_pos rfl]
    exact ⟨_, _, _, rfl, rfl, hI⟩
