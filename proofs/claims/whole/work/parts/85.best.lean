/-! STAGE B, 36: the best orders -/
theorem zfo_snoc (g : Int32 → Int32 → Int32) (f : Nat → Int32) : ∀ (k i : Nat) (a : Int32), fo g f (k + 1) i a = g (fo g f k i a) (f (i + k)) := by
  intro k
  induction k with
  | zero => intro i a; rfl
  | succ k ih =>
    intro i a
    rw [fo, ih (i + 1) (g a (f i)), show i + 1 + k = i + (k + 1) by omega]
    rfl
/-- a loop that folds numbers alone -/
theorem zfo_run {st : Int32 × Int32 → Option ((Int32 × Int32) ⊕ Int32)} (g : Int32 → Int32 → Int32) (f : Nat → Int32) (m : Nat) (hm : m < 1000) (a0 : Int32) (hs : ∀ a j, j < m → st (a, nI j) = some (.inl (g a (f j), nI (j + 1)))) (ho : ∀ a, st (a, nI m) = some (.inr a)) : lp st fuel (a0, 0) = some (fo g f m 0 a0) := by
  refine zrun (fun t => (fo g f t 0 a0, nI t)) m (by omega) rfl (fun t ht => ?_) (ho _)
  rw [hs _ t ht, zfo_snoc, Nat.zero_add]
/-- how much by a goal -/
def zmu (T : Tx) (W : Nat → Int32) (m g : Nat) : Int32 := if g = 3 then fo mx (sufAt T W m) m 0 0 else if g = 2 then fo (· + ·) (fun j => ab (sufAt T W m j - duAt T W j)) m 0 0 else fo (· + ·) (sufAt T W m) m 0 0
def zMu (σ : St) (x1 : Int32) : Int32 × Int32 → Option ((Int32 × Int32) ⊕ (Int32)) :=
  un2 (fun (x2_4_1 : Int32) (x3_4_1 : Int32) => if (σ.1 25 5) ≤ x3_4_1 then (some (.inr x2_4_1)) else (Option.bind (f_X2_sufferingAt σ x3_4_1) fun v4 => if x1 = (3 : Int32) then (wlet (mx x2_4_1 v4) fun v13 => wlet (x3_4_1 + (1 : Int32)) fun v14 => some (.inl (v13, v14))) else (if x1 = (2 : Int32) then (Option.bind (f_X2_dueAt σ x3_4_1) fun v10 => wlet (x2_4_1 + (ab (v4 - v10))) fun v11 => wlet (x3_4_1 + (1 : Int32)) fun v12 => some (.inl (v11, v12))) else (wlet (x2_4_1 + v4) fun v7 => wlet (x3_4_1 + (1 : Int32)) fun v8 => some (.inl (v7, v8))))))
theorem C_muchFor {T : Tx} {V W : Nat → Int32} {m g : Nat} {s : St} (hn : tn T ≤ 7) (h : zO T V m s W) (hg : g ≤ 3) : f_X2_muchFor s (nI g) = some (zmu T W m g) := by
  have h7 := zWV7 h.2.2.1
  have ho : ∀ a, zMu s (nI g) (a, nI m) = some (.inr a) := fun a => by
    unfold zMu
    dsimp only [un2]
    rw [h.1, if_pos ((nI_leN (by omega) (by omega)).mpr (Nat.le_refl _))]
  unfold f_X2_muchFor zmu
  rw [wlet_eq]
  by_cases g3 : g = 3
  · rw [if_pos g3]
    refine (bind_eq (zfo_run (st := zMu s (nI g)) mx (sufAt T W m) m (by omega) 0 (fun a j hj => ?_) ho)).trans rfl
    have n1 : ¬ nI m ≤ nI j := fun z => by have := (nI_leN (by omega) (by omega)).mp z; omega
    unfold zMu
    dsimp only [un2]
    rw [h.1, if_neg n1, bind_eq (C_oSuf hn h hj), if_pos (show nI g = (3 : Int32) by rw [g3]; rfl), wlet_eq, wlet_eq, nI_succ]
  · have n3 : ¬ nI g = (3 : Int32) := fun z => g3 ((nI_eqN (b := 3) (by omega) (by omega)).mp z)
    rw [if_neg g3]
    by_cases g2 : g = 2
    · rw [if_pos g2]
      refine (bind_eq (zfo_run (st := zMu s (nI g)) (· + ·) (fun j => ab (sufAt T W m j - duAt T W j)) m (by omega) 0 (fun a j hj => ?_) ho)).trans rfl
      have n1 : ¬ nI m ≤ nI j := fun z => by have := (nI_leN (by omega) (by omega)).mp z; omega
      unfold zMu
      dsimp only [un2]
      rw [h.1, if_neg n1, bind_eq (C_oSuf hn h hj), if_neg n3, if_pos (show nI g = (2 : Int32) by rw [g2]; rfl), bind_eq (C_oDue hn h hj), wlet_eq, wlet_eq, nI_succ]
    · have n2 : ¬ nI g = (2 : Int32) := fun z => g2 ((nI_eqN (b := 2) (by omega) (by omega)).mp z)
      rw [if_neg g2]
      refine (bind_eq (zfo_run (st := zMu s (nI g)) (· + ·) (sufAt T W m) m (by omega) 0 (fun a j hj => ?_) ho)).trans rfl
      have n1 : ¬ nI m ≤ nI j := fun z => by have := (nI_leN (by omega) (by omega)).mp z; omega
      unfold zMu
      dsimp only [un2]
      rw [h.1, if_neg n1, bind_eq (C_oSuf hn h hj), if_neg n3, if_neg n2, wlet_eq, wlet_eq, nI_succ]
def zsg (g : Nat) (v : Int32) : Int32 := if g = 1 then -v else v
theorem M_byGoal {τ : St} {m g : Nat} {T : Tx} (hT : TxM τ T) (hOK : TxOK T) (hW : WV (tn T) m (τ.1 27)) (hg : g ≤ 3) : ∃ τ', fl τ τ' ∧ f_X11_byGoal τ (nI g) = some (zsg g (zmu T (τ.1 27) m g), τ') := by
  have : g = 0 ∨ g = 1 ∨ g = 2 ∨ g = 3 := by omega
  unfold f_X11_byGoal
  rcases this with rfl | rfl | rfl | rfl
  · obtain ⟨τ', a1, a2⟩ := M_sufferAll hT hOK hW
    exact ⟨τ', a1, by rw [if_pos (by decide), bnd2_eq a2]; rfl⟩
  · obtain ⟨τ', a1, a2⟩ := M_sufferAll hT hOK hW
    exact ⟨τ', a1, by rw [if_neg (by decide), if_pos (by decide), bnd2_eq a2]; rfl⟩
  · obtain ⟨τ', a1, a2⟩ := M_farAll hT hOK hW
    exact ⟨τ', a1, by rw [if_neg (by decide), if_neg (by decide), if_pos (by decide), bnd2_eq a2]; rfl⟩
  · obtain ⟨τ', a1, a2⟩ := M_mostAny hT hOK hW
    exact ⟨τ', a1, by rw [if_neg (by decide), if_neg (by decide), if_neg (by decide), bnd2_eq a2]; rfl⟩
-- small numbers
theorem zdiv2 : ∀ x, x ≤ 99 → nI x / (2 : Int32) = nI (x / 2) := by decide
theorem zdiv4 : ∀ x, x ≤ 99 → nI x / (4 : Int32) = nI (x / 4) := by decide
theorem zmx_nat {x y : Nat} (hx : x ≤ 99) (hy : y ≤ 99) : ∃ z, z ≤ 99 ∧ mx 0 (nI x - nI y) = nI z := by
  rw [← mx_mn_sub hx hy]
  exact mx_mn _ (by omega)
theorem zsuf_nat {T : Tx} (hOK : TxOK T) (V : Nat → Int32) (m j : Nat) {c : Nat} (a : Nat) (hc : c < tn T) : ∃ x, x ≤ 200 ∧ suf T V m j c a = nI x := by
  have hd := (hOK.2.1 c hc).1
  have hM : ∃ y, y ≤ 99 ∧ sufM T (VV T V c (nI j) (plB V (nI a))) V a = nI y := by
    unfold sufM
    obtain ⟨x, x1, x2⟩ := SV_nat T 0 (hi := 99) (VV T V c (nI j) (plB V (nI a)) (nI (td T a))) (by omega)
    by_cases q : plB V (nI a) = 0
    · rw [if_pos q]; exact ⟨x, x1, x2⟩
    · obtain ⟨y, y1, y2⟩ := SV_nat T 1 (hi := 99) (VV T V c (nI j) (plB V (nI a)) (nI (td T a))) (by omega)
      rw [if_neg q, x2, y2]
      exact zmx_nat x1 y1
  obtain ⟨y, y1, y2⟩ := hM
  unfold suf
  by_cases h1 : knd T m j c a = 1
  · rw [if_pos h1]; exact ⟨0, by omega, rfl⟩
  · rw [if_neg h1]
    by_cases h0 : knd T m j c a = 0
    · rw [if_pos h0]
      obtain ⟨x, x1, x2⟩ := SV_nat T 0 (hi := 99) (VV T V c (nI j) (plB V (-1)) (V 9)) (by omega)
      exact ⟨x, by omega, x2⟩
    · rw [if_neg h0, y2]
      unfold sufK
      by_cases h2 : knd T m j c a = 2
      · rw [if_pos h2, zdiv2 y y1]; exact ⟨y / 2, by omega, rfl⟩
      · rw [if_neg h2]
        by_cases h3 : knd T m j c a = 3
        · rw [if_pos h3, zdiv4 _ hd, nI_add']; exact ⟨y + td T c / 4, by omega, rfl⟩
        · rw [if_neg h3]; exact ⟨y, by omega, rfl⟩
theorem zfo_nat {f : Nat → Int32} : ∀ (k i y : Nat), (∀ j, i ≤ j → j < i + k → ∃ x, x ≤ 200 ∧ f j = nI x) → ∃ z, z ≤ y + 200 * k ∧ fo (· + ·) f k i (nI y) = nI z := by
  intro k
  induction k with
  | zero => intro i y _; exact ⟨y, by omega, rfl⟩
  | succ k ih =>
    intro i y h
    obtain ⟨x, x1, x2⟩ := h i (Nat.le_refl _) (by omega)
    obtain ⟨z, z1, z2⟩ := ih (i + 1) (y + x) (fun j h1 h2 => h j (by omega) (by omega))
    refine ⟨z, by omega, ?_⟩
    rw [fo, x2]
    show fo (· + ·) f k (i + 1) (nI y + nI x) = nI z
    rw [nI_add']; exact z2
theorem zmu_nat {T : Tx} {W : Nat → Int32} {m : Nat} (hOK : TxOK T) (hW : WV (tn T) m W) : ∃ z, z ≤ 1400 ∧ zmu T W m 1 = nI z := by
  have h7 := zWV7 hW
  obtain ⟨z, z1, z2⟩ := zfo_nat (f := sufAt T W m) m 0 0 (fun j _ hj => zsuf_nat hOK W m j _ (cN_eq hW (by omega)).2)
  exact ⟨z, by omega, z2⟩
theorem zneg_lt {x y : Nat} (hx : x ≤ 1400) (hy : y ≤ 1400) : (-nI x < -nI y) ↔ nI y < nI x := by
  rw [Int32.lt_iff_toInt_lt, Int32.toInt_neg, Int32.toInt_neg, nI_toInt (by omega), nI_toInt (by omega), nI_ltN (by omega) (by omega), Int.bmod_eq_of_le (by omega) (by omega), Int.bmod_eq_of_le (by omega) (by omega)]
  omega
/-- is v better than b -/
def zbt (g : Nat) (v b : Int32) : Bool := if g = 1 then decide (b < v) else decide (v < b)
def zSb3 (x1 : Int32) : St × Int32 × Int32 → Option ((St × Int32 × Int32) ⊕ (St)) :=
  un3 (fun (σ9_2 : St) (x2_9_2 : Int32) (x3_9_2 : Int32) => if (5040 : Int32) ≤ x3_9_2 then (some (.inr σ9_2)) else (if x2_9_2 = 0 then (some (.inr σ9_2)) else (Option.bind (f_X2_muchFor σ9_2 x1) fun v6 => wlet (fun (s0_63_7 : Int32) => (wlet (fun (σ_125_8 : St) => (bnd2 (f_X2_stepOn σ_125_8) fun v10 σ11 => wlet (x3_9_2 + (1 : Int32)) fun v12 => some (.inl (σ11, v10, v12)) : Option ((St × Int32 × Int32) ⊕ (St)))) fun k125_8 => wlet (fun (_ : Unit) => (wlet (si σ9_2 25 6 v6) fun σ14 => wlet (si σ14 25 7 (1 : Int32)) fun σ15 => wlet (sci σ15 28 29 (Int32.toNatClampNeg (0 : Int32)) (Int32.toNatClampNeg (0 : Int32)) (Int32.toNatClampNeg (7 : Int32))) fun σ16 => k125_8 σ16 : Option ((St × Int32 × Int32) ⊕ (St)))) fun k77_13 => if (σ9_2.1 25 7) = 0 then (k77_13 ()) else (if s0_63_7 = 0 then (if v6 = (σ9_2.1 25 6) then (wlet (si σ9_2 25 7 ((σ9_2.1 25 7) + (1 : Int32))) fun σ20 => k125_8 σ20) else (k125_8 σ9_2)) else (k77_13 ())) : Option ((St × Int32 × Int32) ⊕ (St)))) fun k63_7 => if x1 = (1 : Int32) then (if v6 ≤ (σ9_2.1 25 6) then (k63_7 (0 : Int32)) else (k63_7 (1 : Int32))) else (if (σ9_2.1 25 6) ≤ v6 then (k63_7 (0 : Int32)) else (k63_7 (1 : Int32))))))
def zbC (g : Nat) (v : Int32) (σ : St) : St := if σ.1 25 7 = 0 ∨ zbt g v (σ.1 25 6) = true then sci (si (si σ 25 6 v) 25 7 1) 28 29 0 0 7 else if v = σ.1 25 6 then si σ 25 7 (σ.1 25 7 + 1) else σ
theorem C_bstep {T : Tx} {V W : Nat → Int32} {m g i : Nat} {σ : St} (hn : tn T ≤ 7) (h : zO T V m σ W) (hg : g ≤ 3) (hi : i < 5040) : zSb3 (nI g) (σ, 1, nI i) = bnd2 (f_X2_stepOn (zbC g (zmu T W m g) σ)) fun v11 σ12 => some (.inl (σ12, v11, nI (i + 1))) := by
  have n1 : ¬ (5040 : Int32) ≤ nI i := fun z => by have := (nI_leN (a := 5040) (by omega) (by omega)).mp z; omega
  unfold zSb3
  dsimp only [un3]
  rw [if_neg n1, if_neg n10, bind_eq (C_muchFor hn h hg), wlet_eq]
  unfold zbC zbt
  by_cases g1 : g = 1
  · rw [if_pos (show nI g = (1 : Int32) by rw [g1]; rfl), if_pos g1]
    by_cases q : zmu T W m g ≤ σ.1 25 6
    · rw [if_pos q]
      dsimp only
      rw [wlet_eq, wlet_eq]
      by_cases w : σ.1 25 7 = 0
      · rw [if_pos w, if_pos (Or.inl w), wlet_eq, wlet_eq, wlet_eq, c0, c7]
        dsimp only
        rw [← nI_succ]
        rfl
      · have hb : ¬ (σ.1 25 7 = 0 ∨ decide (σ.1 25 6 < zmu T W m g) = true) := fun z => by
          rcases z with z | z
          · exact w z
          · exact Int32.not_lt.mpr q (of_decide_eq_true z)
        rw [if_neg w, if_neg hb, if_pos rfl]
        by_cases u : zmu T W m g = σ.1 25 6
        · rw [if_pos u, if_pos u, wlet_eq]
          dsimp only
          rw [← nI_succ]
          rfl
        · rw [if_neg u, if_neg u]
          dsimp only
          rw [← nI_succ]
          rfl
    · have hb : σ.1 25 7 = 0 ∨ decide (σ.1 25 6 < zmu T W m g) = true := Or.inr (decide_eq_true (Int32.not_le.mp q))
      rw [if_neg q, if_pos hb]
      dsimp only
      rw [wlet_eq, wlet_eq]
      by_cases w : σ.1 25 7 = 0
      · rw [if_pos w, wlet_eq, wlet_eq, wlet_eq, c0, c7]
        dsimp only
        rw [← nI_succ]
        rfl
      · rw [if_neg w, if_neg n10, wlet_eq, wlet_eq, wlet_eq, c0, c7]
        dsimp only
        rw [← nI_succ]
        rfl
  · rw [if_neg (show ¬ nI g = (1 : Int32) from fun z => g1 ((nI_eqN (b := 1) (by omega) (by omega)).mp z)), if_neg g1]
    by_cases q : σ.1 25 6 ≤ zmu T W m g
    · rw [if_pos q]
      dsimp only
      rw [wlet_eq, wlet_eq]
      by_cases w : σ.1 25 7 = 0
      · rw [if_pos w, if_pos (Or.inl w), wlet_eq, wlet_eq, wlet_eq, c0, c7]
        dsimp only
        rw [← nI_succ]
        rfl
      · have hb : ¬ (σ.1 25 7 = 0 ∨ decide (zmu T W m g < σ.1 25 6) = true) := fun z => by
          rcases z with z | z
          · exact w z
          · exact Int32.not_lt.mpr q (of_decide_eq_true z)
        rw [if_neg w, if_neg hb, if_pos rfl]
        by_cases u : zmu T W m g = σ.1 25 6
        · rw [if_pos u, if_pos u, wlet_eq]
          dsimp only
          rw [← nI_succ]
          rfl
        · rw [if_neg u, if_neg u]
          dsimp only
          rw [← nI_succ]
          rfl
    · have hb : σ.1 25 7 = 0 ∨ decide (zmu T W m g < σ.1 25 6) = true := Or.inr (decide_eq_true (Int32.not_le.mp q))
      rw [if_neg q, if_pos hb]
      dsimp only
      rw [wlet_eq, wlet_eq]
      by_cases w : σ.1 25 7 = 0
      · rw [if_pos w, wlet_eq, wlet_eq, wlet_eq, c0, c7]
        dsimp only
        rw [← nI_succ]
        rfl
      · rw [if_neg w, if_neg n10, wlet_eq, wlet_eq, wlet_eq, c0, c7]
        dsimp only
        rw [← nI_succ]
        rfl
def zMb3 (x1 : Int32) : St × Int32 × Int32 → Option ((St × Int32 × Int32) ⊕ (St × Int32)) :=
  un3 (fun (σ17_6 : St) (x2_17_6 : Int32) (x3_17_6 : Int32) => if x3_17_6 = 0 then (some (.inr (σ17_6, x2_17_6))) else (bnd2 (f_X11_byGoal σ17_6 x1) fun v10 σ11 => wlet (fun (σ_79_12 : St) (x2_79_12 : Int32) => (wlet (fun (σ_95_13 : St) => (bnd2 (f_X11_nextOrder σ_95_13) fun v15 σ16 => some (.inl (σ16, x2_79_12, v15)) : Option ((St × Int32 × Int32) ⊕ (St × Int32)))) fun k95_13 => if v10 = x2_79_12 then (wlet (si σ_79_12 0 50 ((σ_79_12.1 0 50) + (1 : Int32))) fun σ18 => k95_13 σ18) else (k95_13 σ_79_12) : Option ((St × Int32 × Int32) ⊕ (St × Int32)))) fun k79_12 => if (σ11.1 0 50) = 0 then (wlet (si σ11 0 50 (0 : Int32)) fun σ20 => wlet (un2 (fun (σ52_21 : St) (x5_52_21 : Int32) => if (7 : Int32) ≤ x5_52_21 then (some (.inr σ52_21)) else (if ib x5_52_21 26 = true then if ib x5_52_21 7 = true then wlet (si σ52_21 30 (Int32.toNatClampNeg x5_52_21) (σ52_21.1 27 (Int32.toNatClampNeg x5_52_21))) fun σ25 => wlet (x5_52_21 + (1 : Int32)) fun v26 => some (.inl (σ25, v26)) else none else none)) : St × Int32 → Option ((St × Int32) ⊕ (St))) fun st52_21 => Option.bind (lp st52_21 fuel (σ20, (0 : Int32))) ((fun (σe52_21 : St) => k79_12 σe52_21 v10))) else (if x2_17_6 ≤ v10 then (k79_12 σ11 x2_17_6) else (wlet (si σ11 0 50 (0 : Int32)) fun σ28 => wlet (un2 (fun (σ52_29 : St) (x5_52_29 : Int32) => if (7 : Int32) ≤ x5_52_29 then (some (.inr σ52_29)) else (if ib x5_52_29 26 = true then if ib x5_52_29 7 = true then wlet (si σ52_29 30 (Int32.toNatClampNeg x5_52_29) (σ52_29.1 27 (Int32.toNatClampNeg x5_52_29))) fun σ33 => wlet (x5_52_29 + (1 : Int32)) fun v34 => some (.inl (σ33, v34)) else none else none)) : St × Int32 → Option ((St × Int32) ⊕ (St))) fun st52_29 => Option.bind (lp st52_29 fuel (σ28, (0 : Int32))) ((fun (σe52_29 : St) => k79_12 σe52_29 v10))))))
def zCp7 : St × Int32 → Option ((St × Int32) ⊕ (St)) :=
  un2 (fun (σ52_21 : St) (x5_52_21 : Int32) => if (7 : Int32) ≤ x5_52_21 then (some (.inr σ52_21)) else (if ib x5_52_21 26 = true then if ib x5_52_21 7 = true then wlet (si σ52_21 30 (Int32.toNatClampNeg x5_52_21) (σ52_21.1 27 (Int32.toNatClampNeg x5_52_21))) fun σ25 => wlet (x5_52_21 + (1 : Int32)) fun v26 => some (.inl (σ25, v26)) else none else none))
theorem M_cp7 (τ : St) : lp zCp7 fuel (τ, 0) = some (sci τ 27 30 0 0 7) := by
  refine zlp_copy (by omega) (Or.inl (by omega)) (fun i hi => ?_) ?_
  · have n1 : ¬ (7 : Int32) ≤ nI i := fun z => by have := (nI_leN (a := 7) (by omega) (by omega)).mp z; omega
    unfold zCp7
    dsimp only [un2]
    rw [if_neg n1, if_ib (ib_t (show i < 26 by omega) (by omega)), if_ib (ib_t (show i < 7 by omega) (by omega)), nI_clamp (show i < 2 ^ 31 by omega), wlet_eq, wlet_eq, nI_succ, Nat.zero_add]
  · unfold zCp7
    dsimp only [un2]
    rw [if_pos (by decide)]
/-- the reference's best, behind an order that comes to v -/
def zbM (v l : Int32) (τ : St) : St × Int32 := if τ.1 0 50 = 0 ∨ v < l then (si (sci (si τ 0 50 0) 27 30 0 0 7) 0 50 1, v) else if v = l then (si τ 0 50 (τ.1 0 50 + 1), l) else (τ, l)
theorem M_bstep {T : Tx} {m g : Nat} {τ : St} {l : Int32} (hT : TxM τ T) (hOK : TxOK T) (hW : WV (tn T) m (τ.1 27)) (hg : g ≤ 3) : ∃ τ1, fl τ τ1 ∧ zMb3 (nI g) (τ, l, 1) = bnd2 (f_X11_nextOrder (zbM (zsg g (zmu T (τ.1 27) m g)) l τ1).1) fun v15 σ16 => some (.inl (σ16, (zbM (zsg g (zmu T (τ.1 27) m g)) l τ1).2, v15)) := by
  obtain ⟨τ1, a1, a2⟩ := M_byGoal hT hOK hW hg
  refine ⟨τ1, a1, ?_⟩
  generalize zsg g (zmu T (τ.1 27) m g) = v at *
  have e50 : ∀ s : St, (sci (si s 0 50 0) 27 30 0 0 7).1 0 50 = 0 := fun s => by rw [sci_get, if_neg (by omega), si_get, if_pos ⟨rfl, rfl⟩]
  unfold zMb3
  dsimp only [un3]
  rw [if_neg n10, bnd2_eq a2, wlet_eq]
  unfold zbM
  by_cases w : τ1.1 0 50 = 0
  · rw [if_pos w, if_pos (Or.inl w), wlet_eq, wlet_eq]
    refine (bind_eq (M_cp7 (si τ1 0 50 0))).trans ?_
    dsimp only
    rw [wlet_eq, if_pos rfl, wlet_eq, e50]
    rfl
  · rw [if_neg w]
    by_cases q : l ≤ v
    · have hb : ¬ (τ1.1 0 50 = 0 ∨ v < l) := fun z => by
        rcases z with z | z
        · exact w z
        · exact Int32.not_lt.mpr q z
      rw [if_pos q, if_neg hb]
      dsimp only
      rw [wlet_eq]
      by_cases u : v = l
      · rw [if_pos u, if_pos u, wlet_eq]
      · rw [if_neg u, if_neg u]
    · have hb : τ1.1 0 50 = 0 ∨ v < l := Or.inr (Int32.not_le.mp q)
      rw [if_neg q, if_pos hb, wlet_eq, wlet_eq]
      refine (bind_eq (M_cp7 (si τ1 0 50 0))).trans ?_
      dsimp only
      rw [wlet_eq, if_pos rfl, wlet_eq, e50]
      rfl
/-- how both stand with i orders gone through -/
def zBe (g m i : Nat) (σ τ : St) (l : Int32) : Prop := (i = 0 ∧ σ.1 25 7 = 0 ∧ τ.1 0 50 = 0 ∧ l = 0) ∨ (0 < i ∧ ∃ w b, 0 < w ∧ w ≤ i ∧ σ.1 25 7 = nI w ∧ τ.1 0 50 = nI w ∧ σ.1 25 6 = b ∧ l = zsg g b ∧ (g = 1 → ∃ z, z ≤ 1400 ∧ b = nI z) ∧ ∀ j, j < m → σ.1 29 j = τ.1 30 j)
theorem zbe_step {T : Tx} {V W : Nat → Int32} {m g i : Nat} {σ τ : St} {l : Int32} (hOK : TxOK T) (h : zO T V m σ W) (ht : τ.1 27 = W) (hi : i < 5040) (hB : zBe g m i σ τ l) : zBe g m (i + 1) (zbC g (zmu T W m g) σ) (zbM (zsg g (zmu T W m g)) l τ).1 (zbM (zsg g (zmu T W m g)) l τ).2 := by
  have h7 := zWV7 h.2.2.1
  have hz1 : g = 1 → ∃ z, z ≤ 1400 ∧ zmu T W m g = nI z := fun e => by rw [e]; exact zmu_nat hOK h.2.2.1
  generalize hv : zmu T W m g = v at *
  have fresh : zBe g m (i + 1) (sci (si (si σ 25 6 v) 25 7 1) 28 29 0 0 7) (si (sci (si τ 0 50 0) 27 30 0 0 7) 0 50 1) (zsg g v) := by
    refine Or.inr ⟨by omega, 1, v, by omega, by omega, ?_, ?_, ?_, rfl, hz1, fun j hj => ?_⟩
    · rw [sci_get, if_neg (by omega), si_get, if_pos ⟨rfl, rfl⟩]; rfl
    · rw [si_get, if_pos ⟨rfl, rfl⟩]; rfl
    · rw [sci_get, if_neg (by omega), si_get, if_neg (by omega), si_get, if_pos ⟨rfl, rfl⟩]
    · rw [sci_get, if_pos rfl, if_pos (by omega), si_get, if_neg (by omega), si_get, if_neg (by omega), si_get, if_neg (by omega), sci_get, if_pos rfl, if_pos (by omega), si_get, if_neg (by omega), ht, Nat.sub_zero, Nat.zero_add]
      exact h.2.1 j hj
  rcases hB with ⟨b1, b2, b3, b4⟩ | ⟨b1, w, b, b2, b3, b4, b5, b6, b7, b8, b9⟩
  · have e1 : zbC g v σ = sci (si (si σ 25 6 v) 25 7 1) 28 29 0 0 7 := by unfold zbC; rw [if_pos (Or.inl b2)]
    have e2 : zbM (zsg g v) l τ = (si (sci (si τ 0 50 0) 27 30 0 0 7) 0 50 1, zsg g v) := by unfold zbM; rw [if_pos (Or.inl b3)]
    rw [e1, e2]; exact fresh
  · have n1 : ¬ σ.1 25 7 = 0 := by rw [b4]; exact nI_ne0 b2 (by omega)
    have n2 : ¬ τ.1 0 50 = 0 := by rw [b5]; exact nI_ne0 b2 (by omega)
    have hlt : (zsg g v < l) ↔ zbt g v b = true := by
      rw [b7]
      unfold zsg zbt
      by_cases g1 : g = 1
      · obtain ⟨z, z1, z2⟩ := hz1 g1
        obtain ⟨y, y1, y2⟩ := b8 g1
        rw [if_pos g1, if_pos g1, if_pos g1, z2, y2, zneg_lt z1 y1, decide_eq_true_iff]
      · rw [if_neg g1, if_neg g1, if_neg g1, decide_eq_true_iff]
    have heq : (zsg g v = l) ↔ v = b := by
      rw [b7]
      unfold zsg
      by_cases g1 : g = 1
      · rw [if_pos g1, if_pos g1]
        exact ⟨fun e => Int32.neg_inj.mp e, fun e => by rw [e]⟩
      · rw [if_neg g1, if_neg g1]
    by_cases q : zbt g v b = true
    · have e1 : zbC g v σ = sci (si (si σ 25 6 v) 25 7 1) 28 29 0 0 7 := by unfold zbC; rw [if_pos (Or.inr (by rw [b6]; exact q))]
      have e2 : zbM (zsg g v) l τ = (si (sci (si τ 0 50 0) 27 30 0 0 7) 0 50 1, zsg g v) := by unfold zbM; rw [if_pos (Or.inr (hlt.mpr q))]
      rw [e1, e2]; exact fresh
    · have m1 : ¬ (σ.1 25 7 = 0 ∨ zbt g v (σ.1 25 6) = true) := fun z => by
        rcases z with z | z
        · exact n1 z
        · rw [b6] at z; exact q z
      have m2 : ¬ (τ.1 0 50 = 0 ∨ zsg g v < l) := fun z => by
        rcases z with z | z
        · exact n2 z
        · exact q (hlt.mp z)
      unfold zbC zbM
      rw [if_neg m1, if_neg m2, b6]
      by_cases u : v = b
      · rw [if_pos u, if_pos (heq.mpr u), b4, b5]
        refine Or.inr ⟨by omega, w + 1, b, by omega, by omega, ?_, ?_, ?_, b7, b8, fun j hj => ?_⟩
        · rw [si_get, if_pos ⟨rfl, rfl⟩, nI_succ]
        · rw [si_get, if_pos ⟨rfl, rfl⟩, nI_succ]
        · rw [si_get, if_neg (by omega)]; exact b6
        · rw [si_get, if_neg (by omega), si_get, if_neg (by omega)]; exact b9 j hj
      · rw [if_neg u, if_neg (fun z => u (heq.mp z))]
        exact Or.inr ⟨by omega, w, b, b2, by omega, b4, b5, b6, b7, b8, b9⟩
theorem zbC_fr (g : Nat) (v : Int32) (σ : St) : fr 25 29 σ (zbC g v σ) ∧ (zbC g v σ).1 25 5 = σ.1 25 5 ∧ (zbC g v σ).1 26 = σ.1 26 ∧ (zbC g v σ).1 27 = σ.1 27 ∧ (zbC g v σ).1 28 = σ.1 28 := by
  unfold zbC
  by_cases h : σ.1 25 7 = 0 ∨ zbt g v (σ.1 25 6) = true
  · rw [if_pos h]
    refine ⟨⟨fun c hc => ?_, rfl⟩, ?_, ?_, ?_, ?_⟩
    · funext j; rw [sci_get, if_neg (by omega), si_get, if_neg (by omega), si_get, if_neg (by omega)]
    · rw [sci_get, if_neg (by omega), si_get, if_neg (by omega), si_get, if_neg (by omega)]
    · funext j; rw [sci_get, if_neg (by omega), si_get, if_neg (by omega), si_get, if_neg (by omega)]
    · funext j; rw [sci_get, if_neg (by omega), si_get, if_neg (by omega), si_get, if_neg (by omega)]
    · funext j; rw [sci_get, if_neg (by omega), si_get, if_neg (by omega), si_get, if_neg (by omega)]
  · rw [if_neg h]
    by_cases u : v = σ.1 25 6
    · rw [if_pos u]
      exact ⟨fr_si _ _ _ _ (by omega), by rw [si_get, if_neg (by omega)], si_ne (by omega), si_ne (by omega), si_ne (by omega)⟩
    · rw [if_neg u]
      exact ⟨fr_refl _ _ _, rfl, rfl, rfl, rfl⟩
theorem zbM_fr (v l : Int32) (τ : St) : zSc τ (zbM v l τ).1 ∧ (zbM v l τ).1.1 27 = τ.1 27 := by
  unfold zbM
  by_cases h : τ.1 0 50 = 0 ∨ v < l
  · rw [if_pos h]
    refine ⟨zSc_trans (b := sci (si τ 0 50 0) 27 30 0 0 7) (zSc_trans (b := si τ 0 50 0) (zSc_si (by omega)) ?_) (zSc_si (by omega)), ?_⟩
    · refine ⟨fun k a1 a2 a3 a4 a5 a6 a7 a8 => ?_, fun j h1 h2 h3 => ?_, rfl⟩
      · funext j; rw [sci_get, if_neg a6]
      · rw [sci_get, if_neg (by omega)]
    · funext j
      rw [si_get, if_neg (by omega), sci_get, if_neg (by omega), si_get, if_neg (by omega)]
  · rw [if_neg h]
    by_cases u : v = l
    · rw [if_pos u]; exact ⟨zSc_si (by omega), si_ne (by omega)⟩
    · rw [if_neg u]; exact ⟨zSc_refl _, rfl⟩
theorem zBe_fl {g m i : Nat} {σ τ τ' : St} {l : Int32} (h : fl τ τ') (hB : zBe g m i σ τ l) : zBe g m i σ τ' l := by
  unfold zBe at hB ⊢
  rw [h.2.1 50 (by omega), h.1 30 (by omega) (by omega) (by omega)]
  exact hB
/-- the best orders, side by side -/
theorem zbest {σ1 τ0 : St} {T : Tx} {V : Nat → Int32} {m g K : Nat} (hOK : TxOK T) (hM : TxM τ0 T) (hg : g ≤ 3) (hK : K < 5040) (hA : zAl T V m K σ1 τ0) : ∃ σ' τ' l n, lp (zSb3 (nI g)) fuel (si σ1 25 7 0, 1, 0) = some σ' ∧ lp (zMb3 (nI g)) fuel (si τ0 0 50 0, 0, 1) = some (τ', l) ∧ fr 25 29 σ1 σ' ∧ zSc τ0 τ' ∧ 0 < n ∧ zBe g m n σ' τ' l ∧ σ'.1 25 5 = nI m := by
  obtain ⟨r, r', q1, q2, σ', τ', l, n, rfl, rfl, f1, f2, f3, f4, f5⟩ := lp_sim (s1 := zSb3 (nI g)) (s2 := zMb3 (nI g)) (fun k s t => ∃ i, fr 25 29 σ1 s.1 ∧ zSc τ0 t.1 ∧ s.2.2 = nI i ∧ i ≤ 5040 ∧ zBe g m i s.1 t.1 t.2.1 ∧ s.1.1 25 5 = nI m ∧ ((k = 0 ∧ 0 < i ∧ s.2.1 = 0 ∧ t.2.2 = 0) ∨ (∃ k', k = k' + 1 ∧ s.2.1 = 1 ∧ t.2.2 = 1 ∧ i + k' < 5040 ∧ zAl T V m k' s.1 t.1))) (fun r r' => ∃ (σ' τ' : St) (l : Int32) (n : Nat), r = σ' ∧ r' = (τ', l) ∧ fr 25 29 σ1 σ' ∧ zSc τ0 τ' ∧ 0 < n ∧ zBe g m n σ' τ' l ∧ σ'.1 25 5 = nI m) (by
    rintro k ⟨s, mo, j⟩ ⟨t, l, mo'⟩ ⟨i, h1, h2, h3, h4, h5, h55, h6⟩
    have h3 : j = nI i := h3
    subst h3
    have h1 : fr 25 29 σ1 s := h1
    have h2 : zSc τ0 t := h2
    have h5 : zBe g m i s t l := h5
    have h55 : s.1 25 5 = nI m := h55
    rcases h6 with ⟨rfl, g0, g1, g2⟩ | ⟨k', rfl, g1, g2, g3, W, g4, g5, g6⟩
    · have g1 : mo = 0 := g1
      have g2 : mo' = 0 := g2
      subst g1 g2
      refine Or.inr ⟨s, (t, l), ?_, ?_, s, t, l, i, rfl, rfl, h1, h2, g0, h5, h55⟩
      · unfold zSb3
        dsimp only [un3]
        by_cases q : (5040 : Int32) ≤ nI i
        · rw [if_pos q]
        · rw [if_neg q, if_pos rfl]
      · unfold zMb3
        dsimp only [un3]
        rw [if_pos rfl]
    · have g1 : mo = 1 := g1
      have g2 : mo' = 1 := g2
      subst g1 g2
      have g5 : zO T V m s W := g5
      have g6 : t.1 27 = W := g6
      have c1 := C_bstep hOK.1 g5 hg (show i < 5040 by omega)
      obtain ⟨t1, d1, d2⟩ := M_bstep (l := l) (zTxM_Sc h2 hM) hOK (by rw [g6]; exact g5.2.2.1) hg
      rw [g6] at d2
      have v1 : t1.1 27 = W := by rw [fl27 d1, g6]
      have hB := zbe_step hOK g5 v1 (show i < 5040 by omega) (zBe_fl d1 h5)
      obtain ⟨e1, e2, e3, e4, e5⟩ := zbC_fr g (zmu T W m g) s
      obtain ⟨p1, p2⟩ := zbM_fr (zsg g (zmu T W m g)) l t1
      have hO' := zO_cell g5 e2 e3 e4 e5
      rw [v1] at p2
      rcases zstep hO' p2 with ⟨o1, o2, o3⟩ | ⟨W', L, o1, o2, o3, o4⟩
      · refine Or.inl ⟨_, _, 0, c1.trans (bnd2_eq o2), d2.trans (bnd2_eq o3), by omega, i + 1, fr_trans h1 e1, zSc_trans h2 (zSc_trans (zSc_fl d1) p1), rfl, by omega, hB, by rw [e2]; exact h55, Or.inl ⟨rfl, by omega, rfl, rfl⟩⟩
      · cases k' with
        | zero => rw [show zmnx m W = none from g4] at o1; cases o1
        | succ k' =>
          obtain ⟨W2, w1, w2⟩ := g4
          rw [w1] at o1
          cases o1
          have hB2 : zBe g m (i + 1) (sc (zbC g (zmu T W m g) s) 28 L) (sc (zbM (zsg g (zmu T W m g)) l t1).1 27 W') (zbM (zsg g (zmu T W m g)) l t1).2 := by
            unfold zBe at hB ⊢
            rw [zsc_ne (by omega), zsc_ne (by omega), zsc_ne (by omega), zsc_ne (by omega)]
            exact hB
          refine Or.inl ⟨_, _, k' + 1, c1.trans (bnd2_eq o2), d2.trans (bnd2_eq o3), by omega, i + 1, fr_trans h1 (fr_trans e1 (zfr_sc _ _ _ (by omega))), zSc_trans h2 (zSc_trans (zSc_fl d1) (zSc_trans p1 (zSc_Lc (zLc_sc _ _)))), rfl, by omega, hB2, ?_, Or.inr ⟨k', rfl, rfl, rfl, by omega, W', w2, o4, zsc_eq _ _ _⟩⟩
          show (sc (zbC g (zmu T W m g) s) 28 L).1 25 5 = nI m
          rw [zsc_ne (by omega), e2]; exact h55) fuel (K + 1) (si σ1 25 7 0, 1, 0) (si τ0 0 50 0, 0, 1) (by
    obtain ⟨W, w1, w2, w3⟩ := hA
    refine ⟨0, fr_si _ _ _ _ (by omega), zSc_si (by omega), rfl, by omega, Or.inl ⟨rfl, by show (si σ1 25 7 0).1 25 7 = 0; rw [si_get, if_pos ⟨rfl, rfl⟩], by show (si τ0 0 50 0).1 0 50 = 0; rw [si_get, if_pos ⟨rfl, rfl⟩], rfl⟩, by show (si σ1 25 7 0).1 25 5 = _; rw [si_get, if_neg (by omega)]; exact w2.1, Or.inr ⟨K, rfl, rfl, rfl, by omega, W, w1, zO_cell w2 (by rw [si_get, if_neg (by omega)]) (si_ne (by omega)) (si_ne (by omega)) (si_ne (by omega)), ?_⟩⟩
    show (si τ0 0 50 0).1 27 = W
    rw [si_ne (by omega)]; exact w3) (by rw [fuel_eq]; omega)
  exact ⟨r, τ', l, n, q1, q2, f1, f2, f3, f4, f5⟩
theorem C_seekBest {σ σ' : St} {g : Nat} (h : lp (zSb3 (nI g)) fuel (si σ 25 7 0, 1, 0) = some σ') : f_X2_seekBest σ (nI g) = some σ' := by
  unfold f_X2_seekBest
  rw [wlet_eq, wlet_eq]
  exact (bind_eq h).trans rfl
theorem M_bestOf {τ τ1 τ0 τ' : St} {g : Nat} {l : Int32} (hg : g ≤ 3) (h1 : f_X11_copies τ = some τ1) (h2 : f_X11_firstOrder τ1 = some τ0) (h : lp (zMb3 (nI g)) fuel (si τ0 0 50 0, 0, 1) = some (τ', l)) : f_X11_bestOf τ (nI g) = some (zsg g l, τ') := by
  unfold f_X11_bestOf
  rw [bind_eq h1, bind_eq h2, wlet_eq, wlet_eq]
  refine (bind_eq h).trans ?_
  dsimp only [un2]
  unfold zsg
  by_cases g1 : g = 1
  · rw [if_pos g1, if_pos (show nI g = (1 : Int32) by rw [g1]; rfl)]
  · rw [if_neg g1, if_neg (show ¬ nI g = (1 : Int32) from fun z => g1 ((nI_eqN (b := 1) (by omega) (by omega)).mp z))]
theorem zsg_sg (g : Nat) (b : Int32) : zsg g (zsg g b) = b := by
  unfold zsg
  by_cases g1 : g = 1
  · rw [if_pos g1, if_pos g1, Int32.neg_neg]
  · rw [if_neg g1, if_neg g1]
theorem zm2 {x : Int32} (h : ¬ x < -2) : x = -2 ∨ x = -1 ∨ ¬ x < 0 := by
  by_cases h0 : x < 0
  · have h1 : ¬ x.toInt < -2 := fun z => h (by rw [Int32.lt_iff_toInt_lt, show (-2 : Int32).toInt = -2 by decide]; exact z)
    have h2 : x.toInt < 0 := i_lt0.mp h0
    have : x.toInt = -2 ∨ x.toInt = -1 := by omega
    rcases this with e | e
    · exact Or.inl (Int32.toInt_inj.mp (by rw [e]; decide))
    · exact Or.inr (Or.inl (Int32.toInt_inj.mp (by rw [e]; decide)))
  · exact Or.inr (Or.inr h0)
theorem zdo_best : sim_best Inv := by
  intro σ τ hI x y
  obtain ⟨-, -, -, -, T, m, a1, a2, a3, a4, a5, -, -⟩ := id hI
  obtain ⟨τ1, b1, b2, b3, b4, b5, b6, b7⟩ := zcop a3 a5
  have R := b7 σ 38 a4
  have h7 := zWV7 b4
  unfold f_X10_best f_X11_best
  by_cases x0 : x < 0
  · rw [if_pos x0, bind_eq (zin_l x0), if_pos rfl]
    exact ⟨_, _, _, rfl, rfl, hI⟩
  rw [if_neg x0]
  by_cases x3 : (3 : Int32) < x
  · rw [if_pos x3, bind_eq (zin_r x3), if_pos rfl]
    exact ⟨_, _, _, rfl, rfl, hI⟩
  rw [if_neg x3, bind_eq (zin_t x0 x3), if_neg n10]
  by_cases y2 : y < -2
  · rw [if_pos y2, if_pos y2]
    exact ⟨_, _, _, rfl, rfl, hI⟩
  rw [if_neg y2, if_neg y2, a4.1, if_ib b726, c7, a5.2.2.1]
  by_cases ym : y < nI m
  · obtain ⟨g, g3, rfl⟩ := znat (N := 3) (by omega) x0 x3
    obtain ⟨σ1, W0, K, c1, c2, c3, c4, c5⟩ := zlay a2 a1 b3 R b4
    obtain ⟨σ', τ', l, n, q1, q2, f1, f2, f3, f4, f5⟩ := zbest (g := g) a1 (zTxM_Sc (zSc_Lc (zLc_sc τ1 W0)) b3) g3 c4 c5
    have hQ := Inv_q hI (zK_trans c3 (zK_fr (fr_mono f1 (by omega) (by omega)))) (zSc_trans b1 (zSc_trans (zSc_Lc (zLc_sc τ1 W0)) f2))
    rw [if_pos ym, if_pos ym, bind_eq c1, bind_eq (C_seekBest q1), bnd2_eq (M_bestOf g3 b2 c2 q2)]
    rcases f4 with ⟨z1, -⟩ | ⟨z1, w, b, z2, z3, z4, z5, z6, z7, z8, z9⟩
    · omega
    · rw [z7, zsg_sg, z6]
      rcases zm2 y2 with rfl | rfl | y0
      · rw [if_neg (show ¬ (-2 : Int32) = -1 by decide), if_pos rfl, if_neg (show ¬ (-2 : Int32) = -1 by decide), if_pos rfl, z4, z5]
        exact ⟨_, _, _, rfl, rfl, hQ⟩
      · rw [if_pos rfl, if_pos rfl]
        exact ⟨_, _, _, rfl, rfl, hQ⟩
      · obtain ⟨k, k1, rfl⟩ := i_nat y0
        have km : k < m := (nI_ltN k1 (by omega)).mp ym
        have n1 := nI_ne_m1 (k := k) (by omega)
        have n2 := nI_ne_m2 (k := k) (by omega)
        have n3 : ¬ nI m ≤ nI k := fun z => by have := (nI_leN (by omega) (by omega)).mp z; omega
        have hb : f_X2_bestAt σ' (nI k) = some (σ'.1 29 k) := by
          unfold f_X2_bestAt
          rw [if_neg y0, f5, if_neg n3, if_ib (ib_t (show k < 7 by omega) (by omega)), nI_clamp (by omega)]
        rw [if_neg n1, if_neg n2, if_neg n1, if_neg n2, bind_eq hb, if_ib (ib_t (show k < 7 by omega) (by omega)), nI_clamp (show k < 2 ^ 31 by omega), z9 k km]
        exact ⟨_, _, _, rfl, rfl, hQ⟩
  · rw [if_neg ym, if_neg ym]
    exact ⟨_, _, _, rfl, rfl, hI⟩
