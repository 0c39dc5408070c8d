/-! STAGE B, 34: rows laid, steps side by side, trades, resting -/
theorem zmx7 : ∀ m, m < 8 → mx (0 : Int32) (mn (7 : Int32) (nI m)) = nI m := by decide
theorem zK_Ft {a b : St} (h : zFt a b) : zK a b := ⟨fun k hk => h.1 k (by omega) (by omega) (by omega) (by omega), fun i _ _ => by rw [h.1 31 (by omega) (by omega) (by omega) (by omega)], h.2⟩
def zLa (o1 : Nat) : St × Int32 → Option ((St × Int32) ⊕ (St)) :=
  un2 (fun (σ19_2 : St) (x2_19_2 : Int32) => if (σ19_2.1 25 5) ≤ x2_19_2 then (some (.inr σ19_2)) else (Option.bind (f_X6_docketAt σ19_2 o1 x2_19_2) fun v7 => if ib x2_19_2 7 = true then wlet (si σ19_2 28 (Int32.toNatClampNeg x2_19_2) v7) fun σ9 => wlet (x2_19_2 + (1 : Int32)) fun v10 => some (.inl (σ9, v10)) else none))
def zLf (o1 : Nat) : St × Int32 → Option ((St × Int32) ⊕ (St)) :=
  un2 (fun (σ7_2 : St) (x2_7_2 : Int32) => if (7 : Int32) ≤ x2_7_2 then (some (.inr σ7_2)) else (Option.bind (f_X6_isListed σ7_2 o1 x2_7_2) fun v7 => if v7 = 0 then (wlet (x2_7_2 + (1 : Int32)) fun v9 => some (.inl (σ7_2, v9))) else (if ib (σ7_2.1 25 5) 7 = true then wlet (si σ7_2 28 (Int32.toNatClampNeg (σ7_2.1 25 5)) x2_7_2) fun σ11 => wlet (si σ11 25 5 ((σ11.1 25 5) + (1 : Int32))) fun σ12 => wlet (x2_7_2 + (1 : Int32)) fun v13 => some (.inl (σ12, v13)) else none)))
theorem C_layAsListed {s : St} {m : Nat} {T : Tx} {V : Nat → Int32} (hT : TxC s 4 T) (hOK : TxOK T) (hR : RS s 38 m V) (hV : WV (tn T) m V) :
    ∃ s', f_X2_layAsListed s 38 = some s' ∧ zK s s' ∧ zO T V m s' V := by
  have h7 := zWV7 hV
  obtain ⟨s1, q1, f1, r1, r2⟩ := zinv (st := zLa 38) (s0 := (si s 25 5 (nI m), 0)) (fun t x => fr 25 28 s x.1 ∧ x.2 = nI t ∧ x.1.1 25 5 = nI m ∧ ∀ i, i < t → x.1.1 28 i = V i) (fun r => fr 25 28 s r ∧ r.1 25 5 = nI m ∧ ∀ i, i < m → r.1 28 i = V i) m (by omega) ⟨fr_si _ _ _ _ (by omega), rfl, by rw [si_get, if_pos ⟨rfl, rfl⟩], fun i hi => absurd hi (Nat.not_lt_zero _)⟩ (by
    rintro t ⟨x, q⟩ ht ⟨h1, h2, h3, h4⟩
    have h2 : q = nI t := h2
    subst h2
    have h1 : fr 25 28 s x := h1
    have h3 : x.1 25 5 = nI m := h3
    have h4 : ∀ i, i < t → x.1 28 i = V i := h4
    have n1 : ¬ nI m ≤ nI t := fun z => by have := (nI_leN (by omega) (by omega)).mp z; omega
    refine Or.inl ⟨(si x 28 t (V t), nI (t + 1)), ?_, fr_trans h1 (fr_si _ _ _ _ (by omega)), rfl, ?_, fun i hi => ?_⟩
    · unfold zLa
      dsimp only [un2]
      rw [h3, if_neg n1, bind_eq (C_docketAt (RS_fr h1 (by omega) hR) h7 ht), if_ib (ib_t (show t < 7 by omega) (by omega)), nI_clamp (show t < 2 ^ 31 by omega), wlet_eq, wlet_eq, nI_succ]
    · show (si x 28 t (V t)).1 25 5 = _
      rw [si_ne (by omega)]; exact h3
    · show (si x 28 t (V t)).1 28 i = _
      rw [si_get]
      by_cases e : i = t
      · rw [if_pos ⟨rfl, e⟩, e]
      · rw [if_neg (fun z => e z.2)]; exact h4 i (by omega)) (by
    rintro ⟨x, q⟩ ⟨h1, h2, h3, h4⟩
    have h2 : q = nI m := h2
    subst h2
    have h3 : x.1 25 5 = nI m := h3
    refine ⟨x, ?_, h1, h3, h4⟩
    unfold zLa
    dsimp only [un2]
    rw [h3, if_pos ((nI_leN (by omega) (by omega)).mpr (Nat.le_refl _))])
  have k1 : zK s s1 := zK_fr (fr_mono f1 (by omega) (by omega))
  obtain ⟨s2, q2, f2, b2⟩ := C_layTables (zTx_K k1 hT) hOK (zRS_K k1 hR) hV hV r1 r2
  refine ⟨s2, ?_, zK_trans k1 (zK_Ft f2), ?_, ?_, hV, fun _ _ => rfl, fun i hi => ⟨i, hi, rfl⟩, zTb_TC hOK.1 hV (fun j hj => ⟨j, hj, rfl⟩) b2⟩
  · unfold f_X2_layAsListed
    rw [hR.1, zmx7 m (by omega), wlet_eq, wlet_eq]
    refine (bind_eq q1).trans ?_
    rw [bind_eq q2]
  · rw [f2.1 25 (by omega) (by omega) (by omega) (by omega)]; exact r1
  · intro i hi
    rw [f2.1 28 (by omega) (by omega) (by omega) (by omega)]; exact r2 i hi
theorem C_layFirst {s : St} {m : Nat} {T : Tx} {V W : Nat → Int32} (hT : TxC s 4 T) (hOK : TxOK T) (hR : RS s 38 m V) (hV : WV (tn T) m V) (hW : WV (tn T) m W) (hA : zAs W m) (hh : ∀ i, 7 ≤ i → W i = V i) (h1 : ∀ i, i < m → ∃ j, j < m ∧ W i = V j) (h2 : ∀ j, j < m → ∃ i, i < m ∧ V j = W i) :
    ∃ s', f_X2_layFirst s 38 = some s' ∧ zK s s' ∧ zO T V m s' W := by
  have h7 := zWV7 hV
  have hn := hOK.1
  obtain ⟨s1, q1, f1, k, d, e1, e2, e3, e4, e5⟩ := zinv (st := zLf 38) (s0 := (si s 25 5 0, 0)) (fun t x => fr 25 28 s x.1 ∧ x.2 = nI t ∧ ∃ (k : Nat) (d : Nat → Nat), k ≤ t ∧ x.1.1 25 5 = nI k ∧ (∀ i, i < k → x.1.1 28 i = nI (d i) ∧ d i < t ∧ ¬ pO V m (nI (d i)) = -1) ∧ (∀ i j, i < j → j < k → d i < d j) ∧ ∀ c, c < t → ¬ pO V m (nI c) = -1 → ∃ i, i < k ∧ d i = c) (fun r => fr 25 28 s r ∧ ∃ (k : Nat) (d : Nat → Nat), k ≤ 7 ∧ r.1 25 5 = nI k ∧ (∀ i, i < k → r.1 28 i = nI (d i) ∧ d i < 7 ∧ ¬ pO V m (nI (d i)) = -1) ∧ (∀ i j, i < j → j < k → d i < d j) ∧ ∀ c, c < 7 → ¬ pO V m (nI c) = -1 → ∃ i, i < k ∧ d i = c) 7 (by omega) ⟨fr_si _ _ _ _ (by omega), rfl, 0, id, Nat.le_refl _, by rw [si_get, if_pos ⟨rfl, rfl⟩]; rfl, fun i hi => absurd hi (Nat.not_lt_zero _), fun i j _ hj => absurd hj (Nat.not_lt_zero _), fun c hc => absurd hc (Nat.not_lt_zero _)⟩ (by
    rintro t ⟨x, q⟩ ht ⟨h1, h2, k, d, h3, h4, h5, h6, h8⟩
    have h2 : q = nI t := h2
    subst h2
    have h1 : fr 25 28 s x := h1
    have h4 : x.1 25 5 = nI k := h4
    have h5 : ∀ i, i < k → x.1 28 i = nI (d i) ∧ d i < t ∧ ¬ pO V m (nI (d i)) = -1 := h5
    have n1 : ¬ (7 : Int32) ≤ nI t := fun z => by have := (nI_leN (a := 7) (by omega) (by omega)).mp z; omega
    refine Or.inl ?_
    by_cases e : pO V m (nI t) = -1
    · refine ⟨(x, nI (t + 1)), ?_, h1, rfl, k, d, by omega, h4, fun i hi => ⟨(h5 i hi).1, by have := (h5 i hi).2.1; omega, (h5 i hi).2.2⟩, h6, fun c hc hp => ?_⟩
      · unfold zLf
        dsimp only [un2]
        rw [if_neg n1, bind_eq (C_isListed h7 (RS_fr h1 (by omega) hR) _), if_pos e, if_pos rfl, wlet_eq, nI_succ]
      · by_cases z : c = t
        · rw [z] at hp; exact absurd e hp
        · exact h8 c (by omega) hp
    · refine ⟨(si (si x 28 k (nI t)) 25 5 (nI (k + 1)), nI (t + 1)), ?_, fr_trans h1 (fr_trans (fr_si _ _ _ _ (by omega)) (fr_si _ _ _ _ (by omega))), rfl, k + 1, fun i => if i = k then t else d i, by omega, ?_, fun i hi => ?_, fun i j hij hj => ?_, fun c hc hp => ?_⟩
      · unfold zLf
        dsimp only [un2]
        rw [if_neg n1, bind_eq (C_isListed h7 (RS_fr h1 (by omega) hR) _), if_neg e, if_neg n10, h4, if_ib (ib_t (show k < 7 by omega) (by omega)), nI_clamp (show k < 2 ^ 31 by omega), wlet_eq, wlet_eq, wlet_eq, si_ne (show 25 ≠ 28 by omega), h4, nI_succ, nI_succ]
      · show (si (si x 28 k (nI t)) 25 5 (nI (k + 1))).1 25 5 = _
        rw [si_get, if_pos ⟨rfl, rfl⟩]
      · show (si (si x 28 k (nI t)) 25 5 (nI (k + 1))).1 28 i = nI (if i = k then t else d i) ∧ (if i = k then t else d i) < t + 1 ∧ ¬ pO V m (nI (if i = k then t else d i)) = -1
        rw [si_ne (by omega), si_get]
        by_cases z : i = k
        · rw [if_pos ⟨rfl, z⟩, if_pos z]
          exact ⟨rfl, by omega, e⟩
        · rw [if_neg (fun w => z w.2), if_neg z]
          obtain ⟨a1, a2, a3⟩ := h5 i (by omega)
          exact ⟨a1, by omega, a3⟩
      · show (if i = k then t else d i) < (if j = k then t else d j)
        by_cases z : j = k
        · rw [if_neg (by omega), if_pos z]
          exact (h5 i (by omega)).2.1
        · rw [if_neg (by omega), if_neg z]
          exact h6 i j hij (by omega)
      · by_cases z : c = t
        · exact ⟨k, by omega, by show (if k = k then t else d k) = c; rw [if_pos rfl, z]⟩
        · obtain ⟨i, i1, i2⟩ := h8 c (by omega) hp
          exact ⟨i, by omega, by show (if i = k then t else d i) = c; rw [if_neg (by omega)]; exact i2⟩) (by
    rintro ⟨x, q⟩ ⟨h1, h2, h3⟩
    have h2 : q = nI 7 := h2
    subst h2
    refine ⟨x, ?_, h1, h3⟩
    unfold zLf
    dsimp only [un2]
    rw [if_pos (by decide)])
  obtain ⟨u1, u2⟩ := zuniq (r := d) (w := cN W) e4 hA (fun i hi => by
    obtain ⟨a1, a2, a3⟩ := e3 i hi
    obtain ⟨j, j1, j2, j3, j4⟩ := zon hV a3 (by omega)
    obtain ⟨l, l1, l2⟩ := h2 j j1
    refine ⟨l, l1, ?_⟩
    unfold cN
    rw [← l2, j2, nI_clamp (by omega)]) (fun j hj => by
    obtain ⟨l, l1, l2⟩ := h1 j hj
    obtain ⟨c1, c2⟩ := cN_eq hW hj
    have hp : ¬ pO V m (nI (cN W j)) = -1 := by
      rw [← c1, l2, zpO_at hV l1]; exact nI_ne_m1 (by omega)
    obtain ⟨i, i1, i2⟩ := e5 (cN W j) (by omega) hp
    exact ⟨i, i1, i2.symm⟩)
  subst u1
  have hrow : ∀ i, i < k → s1.1 28 i = W i := fun i hi => by rw [(e3 i hi).1, u2 i hi, ← (cN_eq hW hi).1]
  have k1 : zK s s1 := zK_fr (fr_mono f1 (by omega) (by omega))
  obtain ⟨s2, q2, f2, b2⟩ := C_layTables (zTx_K k1 hT) hOK (zRS_K k1 hR) hV hW e2 hrow
  refine ⟨s2, ?_, zK_trans k1 (zK_Ft f2), ?_, ?_, hW, hh, h1, zTb_TC hOK.1 hW h2 b2⟩
  · unfold f_X2_layFirst
    rw [wlet_eq, wlet_eq]
    refine (bind_eq q1).trans ?_
    rw [bind_eq q2]
  · rw [f2.1 25 (by omega) (by omega) (by omega) (by omega)]; exact e2
  · intro i hi
    rw [f2.1 28 (by omega) (by omega) (by omega) (by omega)]; exact hrow i hi
/-- another row, the tables as they are -/
theorem zO_row {T : Tx} {V W W' : Nat → Int32} {m : Nat} {s : St} {L : Nat → Int32} (h : zO T V m s W) (h1 : ∀ i, i < m → L i = W' i) (h2 : WV (tn T) m W') (h3 : ∀ i, 7 ≤ i → W' i = W i) (h4 : ∀ i, i < m → ∃ j, j < m ∧ W' i = W j) : zO T V m (sc s 28 L) W' := by
  obtain ⟨o1, o2, o3, o4, o5, o6⟩ := h
  refine ⟨by rw [zsc_ne (by omega)]; exact o1, fun i hi => by rw [zsc_eq]; exact h1 i hi, h2, fun i hi => (h3 i hi).trans (o4 i hi), fun i hi => ?_, fun p d a q1 q2 q3 q4 q5 q6 => ?_⟩
  · obtain ⟨j, j1, j2⟩ := h4 i hi
    obtain ⟨l, l1, l2⟩ := o5 j j1
    exact ⟨l, l1, j2.trans l2⟩
  · have := o6 p d a q1 q2 q3 q4 q5 q6
    unfold zEn at this ⊢
    rw [zsc_ne (by omega), zsc_ne (by omega)]
    exact this
theorem zO_sw {T : Tx} {V W : Nat → Int32} {m a b : Nat} {s : St} (h : zO T V m s W) (ha : a < m) (hb : b < m) : zO T V m (sc s 28 (zsw (s.1 28) a b)) (zsw W a b) := by
  have h7 := zWV7 h.2.2.1
  exact zO_row h (fun i hi => zsw_congr h.2.1 ha hb hi) (zWV_sw h.2.2.1 ha hb) (fun i hi => zsw_out (by omega) (by omega)) (fun i hi => ⟨zswP a b i, zswP_lt ha hb hi, zswP_eq _ _ _ _⟩)
/-- only cells of the orders differ: the order stands -/
theorem zO_cell {T : Tx} {V W : Nat → Int32} {m : Nat} {s s' : St} (h : zO T V m s W) (h25 : s'.1 25 5 = s.1 25 5) (h26 : s'.1 26 = s.1 26) (h27 : s'.1 27 = s.1 27) (h28 : s'.1 28 = s.1 28) : zO T V m s' W := by
  obtain ⟨o1, o2, o3, o4, o5, o6⟩ := h
  refine ⟨by rw [h25]; exact o1, fun i hi => by rw [h28]; exact o2 i hi, o3, o4, o5, fun p d a q1 q2 q3 q4 q5 q6 => ?_⟩
  have := o6 p d a q1 q2 q3 q4 q5 q6
  unfold zEn at this ⊢
  rw [h26, h27]
  exact this
theorem zstep {T : Tx} {V W : Nat → Int32} {m : Nat} {σ τ : St} (h : zO T V m σ W) (ht : τ.1 27 = W) :
    (zmnx m W = none ∧ f_X2_stepOn σ = some (0, σ) ∧ f_X11_nextOrder τ = some (0, τ)) ∨ ∃ W' L, zmnx m W = some W' ∧ f_X2_stepOn σ = some (1, sc σ 28 L) ∧ f_X11_nextOrder τ = some (1, sc τ 27 W') ∧ zO T V m (sc σ 28 L) W' := by
  have h7 := zWV7 h.2.2.1
  have hC := C_stepOn h.1 h7
  have hM := M_nextOrder (σ := τ) (m := m) (by rw [ht]; exact h.2.2.1.2.2.1) h7
  rw [ht] at hM
  cases e : zmnx m W with
  | none =>
    have e' := zmnx_none (V := W) (V' := σ.1 28) (fun i hi => (h.2.1 i hi).symm) e
    rw [e] at hM
    rw [e'] at hC
    exact Or.inl ⟨rfl, hC, hM⟩
  | some W' =>
    obtain ⟨L, l1, l2⟩ := zmnx_congr (V := W) (V' := σ.1 28) (fun i hi => (h.2.1 i hi).symm) e
    rw [e] at hM
    rw [l1] at hC
    obtain ⟨w1, w2, w3⟩ := zWV_nx h.2.2.1 e
    exact Or.inr ⟨W', L, rfl, hC, hM, zO_row h (fun i hi => (l2 i hi).symm) w1 w2 w3⟩
/-- do two trade -/
def ztr (T : Tx) (W : Nat → Int32) (m a b : Nat) : Bool := decide (sufAt T (zsw W a b) m b < sufAt T W m a) && decide (sufAt T (zsw W a b) m a < sufAt T W m b)
theorem zsw_i (W : Nat → Int32) (a b i : Nat) : zsw W a b i = if i = b then W a else if i = a then W b else W i := rfl
theorem zsw_sym (W : Nat → Int32) (a b : Nat) : zsw W a b = zsw W b a := by
  funext i
  rw [zsw_i, zsw_i]
  by_cases e1 : i = a
  · by_cases e2 : i = b
    · rw [if_pos e2, if_pos e1, ← e1, ← e2]
    · rw [if_neg e2, if_pos e1, if_pos e1]
  · by_cases e2 : i = b
    · rw [if_pos e2, if_neg e1, if_pos e2]
    · rw [if_neg e2, if_neg e1, if_neg e1, if_neg e2]
theorem ztr_1 {T : Tx} {W : Nat → Int32} {m a b : Nat} (q : sufAt T W m a ≤ sufAt T (zsw W a b) m b) : ¬ ztr T W m a b = true := fun z => by
  unfold ztr at z
  rw [Bool.and_eq_true, decide_eq_true_iff, decide_eq_true_iff] at z
  exact Int32.not_lt.mpr q z.1
theorem ztr_2 {T : Tx} {W : Nat → Int32} {m a b : Nat} (q : sufAt T W m b ≤ sufAt T (zsw W a b) m a) : ¬ ztr T W m a b = true := fun z => by
  unfold ztr at z
  rw [Bool.and_eq_true, decide_eq_true_iff, decide_eq_true_iff] at z
  exact Int32.not_lt.mpr q z.2
theorem ztr_3 {T : Tx} {W : Nat → Int32} {m a b : Nat} (q : ¬ sufAt T W m a ≤ sufAt T (zsw W a b) m b) (r : ¬ sufAt T W m b ≤ sufAt T (zsw W a b) m a) : ztr T W m a b = true := by
  unfold ztr
  rw [Bool.and_eq_true, decide_eq_true_iff, decide_eq_true_iff]
  exact ⟨Int32.not_le.mp q, Int32.not_le.mp r⟩
theorem ztr_sym (T : Tx) (W : Nat → Int32) (m a b : Nat) : ztr T W m a b = ztr T W m b a := by
  unfold ztr
  rw [zsw_sym W b a, Bool.and_comm]
theorem zsw_sw (W : Nat → Int32) (a b : Nat) : zsw (zsw W a b) a b = W := by
  funext i
  rw [zsw_i, zsw_i, zsw_i, zsw_i]
  by_cases e2 : i = b
  · rw [if_pos e2]
    by_cases e3 : a = b
    · rw [if_pos e3, e2, e3]
    · rw [if_neg e3, if_pos rfl, e2]
  · rw [if_neg e2]
    by_cases e1 : i = a
    · rw [if_pos e1, if_pos rfl, e1]
    · rw [if_neg e1, if_neg e2, if_neg e1]
theorem C_isTrade {T : Tx} {V W : Nat → Int32} {m a b : Nat} {s : St} (hn : tn T ≤ 7) (h : zO T V m s W) (ha : a < m) (hb : b < m) : f_X2_isTrade s (nI a) (nI b) = some ((if ztr T W m a b = true then 1 else 0), s) := by
  have h7 := zWV7 h.2.2.1
  have hs := zO_sw h ha hb
  have hx : f_X2_exchange (sc s 28 (zsw (s.1 28) a b)) (nI a) (nI b) = some s := by
    rw [C_exchange hs.1 h7 ha hb, zsc_eq, zsc_sc, zsw_sw, zsc_self]
  unfold f_X2_isTrade
  rw [bind_eq (C_oSuf hn h ha), bind_eq (C_oSuf hn h hb), bind_eq (C_exchange h.1 h7 ha hb), bind_eq (C_oSuf hn hs hb), wlet_eq, wlet_eq]
  by_cases q : sufAt T W m a ≤ sufAt T (zsw W a b) m b
  · rw [if_pos q]
    dsimp only
    rw [bind_eq hx, if_pos bz0, if_neg (ztr_1 q)]
  · have q' := Int32.not_le.mp q
    rw [if_neg q, bind_eq (C_oSuf hn hs ha)]
    by_cases r : sufAt T W m b ≤ sufAt T (zsw W a b) m a
    · rw [if_pos r]
      dsimp only
      rw [bind_eq hx, if_pos bz0, if_neg (ztr_2 r)]
    · have r' := Int32.not_le.mp r
      rw [if_neg r]
      dsimp only
      rw [bind_eq hx, if_pos bz1, if_pos (ztr_3 q r)]
theorem M_doTrade {τ : St} {m a b : Nat} {T : Tx} (hT : TxM τ T) (hOK : TxOK T) (hW : WV (tn T) m (τ.1 27)) (ha : a < m) (hb : b < m) : ∃ τ', fl τ τ' ∧ f_X11_doTrade τ (nI a) (nI b) = some ((if ztr T (τ.1 27) m a b = true then 1 else 0), τ') := by
  have h7 := zWV7 hW
  obtain ⟨τ1, a1, a2⟩ := M_sufferAt' hT hOK hW ha
  have v1 := fl27 a1
  obtain ⟨τ2, b1, b2⟩ := M_sufferAt' (TxM_fl a1 hT) hOK (by rw [v1]; exact hW) hb
  have f2 := fl_trans a1 b1
  have v2 := fl27 f2
  rw [v1] at b2
  have hWs := zWV_sw hW ha hb
  have T3 : TxM (sc τ2 27 (zsw (τ2.1 27) a b)) T := zTxM_Sc (zSc_trans (zSc_fl f2) (zSc_Lc (zLc_sc _ _))) hT
  obtain ⟨τ3, c1, c2⟩ := M_sufferAt' (j := b) T3 hOK (by rw [zsc_eq, v2]; exact hWs) hb
  have v3 := fl27 c1
  rw [zsc_eq, v2] at c2 v3
  rw [v2] at c1 T3
  obtain ⟨τ4, d1, d2⟩ := M_sufferAt' (j := a) (TxM_fl c1 T3) hOK (by rw [v3]; exact hWs) ha
  have v4 := (fl27 d1).trans v3
  rw [v3] at d2
  have back : ∀ x, fl (sc τ2 27 (zsw (τ.1 27) a b)) x → x.1 27 = zsw (τ.1 27) a b → f_X11_changes x (nI a) (nI b) = some (sc x 27 (τ.1 27)) ∧ fl τ (sc x 27 (τ.1 27)) := by
    intro x hx hv
    refine ⟨by rw [M_changes (by omega) (by omega), hv, zsw_sw], fun c c1 c2 c3 => ?_, fun i hi => ?_, ?_⟩
    · by_cases e : c = 27
      · rw [e, zsc_eq]
      · rw [zsc_ne e, hx.1 c c1 c2 c3, zsc_ne e, f2.1 c c1 c2 c3]
    · rw [zsc_ne (by omega), hx.2.1 i hi, zsc_ne (by omega), f2.2.1 i hi]
    · show x.2 = τ.2
      rw [hx.2.2]
      exact f2.2.2
  obtain ⟨g1, g2⟩ := back τ3 c1 v3
  obtain ⟨g3, g4⟩ := back τ4 (fl_trans c1 d1) v4
  unfold f_X11_doTrade
  rw [bnd2_eq a2, bnd2_eq b2, bind_eq (M_changes (by omega) (by omega)), v2, bnd2_eq c2, wlet_eq, wlet_eq]
  by_cases q : sufAt T (τ.1 27) m a ≤ sufAt T (zsw (τ.1 27) a b) m b
  · refine ⟨_, g2, ?_⟩
    rw [if_pos q]
    dsimp only
    rw [bind_eq g1, if_pos bz0, if_neg (ztr_1 q)]
  · have q' := Int32.not_le.mp q
    refine ⟨_, g4, ?_⟩
    rw [if_neg q, bnd2_eq d2]
    by_cases r : sufAt T (τ.1 27) m b ≤ sufAt T (zsw (τ.1 27) a b) m a
    · rw [if_pos r]
      dsimp only
      rw [bind_eq g3, if_pos bz0, if_neg (ztr_2 r)]
    · have r' := Int32.not_le.mp r
      rw [if_neg r]
      dsimp only
      rw [bind_eq g3, if_pos bz1, if_pos (ztr_3 q r)]
