/-! STAGE B, 24: what would be: then, listIn, year, gain -/
theorem C_inSessions {σ : St} {m k : Nat} {T : Tx} {V : Nat → Int32} (hT : TxC σ 4 T) (hOK : TxOK T) (hR : RS σ 38 m V) (hW : WV (tn T) m V) (hk : k ≤ 40) :
    ∃ σ', zK σ σ' ∧ f_X3_inSessions σ 38 (nI k) = some σ' ∧ RS σ' 42 (zgoes T (nI (ts T)) k (m, V)).1 (zgoes T (nI (ts T)) k (m, V)).2 := by
  have h7 := zWV7 hW
  obtain ⟨σ1, a1, a2, a3⟩ := C_copyFrom (σ := σ) (o := 42) (p := 38) (by omega)
  have T1 := zTx_K (zK_tr a1) hT
  obtain ⟨σ2, b1, b2, b3⟩ := C_goThrough (s := nI (ts T)) T1 hOK (a3 m V h7 hR) hW (by omega) hk
  refine ⟨σ2, zK_trans (zK_tr a1) (zK_Fo b1), ?_, b3⟩
  unfold f_X3_inSessions
  rw [bind_eq a2, T1.2.2.2.1, bind_eq b2]
theorem zdo_then : sim_then Inv := by
  intro σ τ hI x y
  obtain ⟨-, -, -, -, T, m, a1, a2, a3, a4, a5, -, -⟩ := id hI
  obtain ⟨τ1, b1, b2, b3, b4, b5, b6, b7⟩ := zcop a3 a5
  have R := b7 σ 38 a4
  have h7 := zWV7 b4
  have hn := a1.1
  unfold f_X10_then f_X11_then
  rcases zcase hn x with ⟨c, hc, rfl⟩ | hx
  · rw [bind_eq (C_has a2 a1 hc), if_neg n10, bind_eq (M_isCase_t a3 a1 hc), if_neg n10]
    by_cases d0 : y < 0
    · rw [if_pos d0, bind_eq (M_isLong_f (Or.inl d0)), if_pos rfl]
      exact ⟨_, _, _, rfl, rfl, hI⟩
    · rw [if_neg d0]
      by_cases d1 : y ≤ 40
      · obtain ⟨k, k1, rfl⟩ := znat (N := 40) (by omega) d0 (Int32.not_lt.mpr d1)
        obtain ⟨σ', e1, e2, e3⟩ := C_inSessions a2 a1 R b4 k1
        obtain ⟨τ', g1, g2, g3⟩ := M_goes b3 a1 b4 k1
        rw [b5] at g3
        rw [if_pos d1, bind_eq e2, if_ib (ib_t (show c < 7 by omega) (by omega)), nI_clamp (show c < 2 ^ 31 by omega), bind_eq (M_isLong_t d0 (Int32.not_lt.mpr d1)), if_neg n10, bind_eq b2, bind_eq g2, za17, if_ib (ib_t (show 17 + c < 26 by omega) (by omega)), nI_clamp (show 17 + c < 2 ^ 31 by omega), g3]
        exact ⟨_, _, _, rfl, by rw [show σ'.1 45 c = _ from e3.2.2.2.2.2.2.2 c (by omega)], Inv_q hI e1 (zSc_trans b1 (zSc_Lc g1))⟩
      · rw [if_neg d1, bind_eq (M_isLong_f (Or.inr (Int32.not_le.mp d1))), if_pos rfl]
        exact ⟨_, _, _, rfl, rfl, hI⟩
  · rw [bind_eq (C_has_f a2 hx), if_pos rfl, bind_eq (M_isCase_f a3 a1 hx), if_pos rfl]
    exact ⟨_, _, _, rfl, rfl, hI⟩
theorem zdo_listIn : sim_listIn Inv := by
  intro σ τ hI y x
  obtain ⟨-, -, -, -, T, m, a1, a2, a3, a4, a5, -, -⟩ := id hI
  obtain ⟨τ1, b1, b2, b3, b4, b5, b6, b7⟩ := zcop a3 a5
  have R := b7 σ 38 a4
  unfold f_X10_listIn f_X11_listIn
  by_cases d0 : y < 0
  · rw [if_pos d0, bind_eq (M_isLong_f (Or.inl d0)), if_pos rfl]
    exact ⟨_, _, _, rfl, rfl, hI⟩
  · rw [if_neg d0]
    by_cases d1 : (40 : Int32) < y
    · rw [if_pos d1, bind_eq (M_isLong_f (Or.inr d1)), if_pos rfl]
      exact ⟨_, _, _, rfl, rfl, hI⟩
    · obtain ⟨k, k1, rfl⟩ := znat (N := 40) (by omega) d0 d1
      obtain ⟨σ', e1, e2, e3⟩ := C_inSessions a2 a1 R b4 k1
      obtain ⟨τ', g1, g2, g3⟩ := M_goes b3 a1 b4 k1
      rw [b5] at g3
      have hQ := Inv_q hI e1 (zSc_trans b1 (zSc_Lc g1))
      have hW := zWV_goes (T := T) (s := nI (ts T)) b4 k
      rw [if_neg d1, bind_eq (M_isLong_t d0 d1), if_neg n10]
      rcases z01 x with rfl | rfl | ⟨hx, hx'⟩
      · rw [if_neg (show ¬ (0 : Int32) < 0 by decide), if_pos (show (0 : Int32) ≤ 1 by decide), bind_eq e2, if_pos rfl, bind_eq zin00, if_neg n10, bind_eq b2, bind_eq g2, if_pos rfl, if_ib b726, c7, g3, hW.2.2.1]
        exact ⟨_, _, _, by rw [show σ'.1 42 3 = _ from e3.1], rfl, hQ⟩
      · rw [if_neg (show ¬ (1 : Int32) < 0 by decide), if_pos (show (1 : Int32) ≤ 1 by decide), bind_eq e2, if_neg n10, bind_eq zin10, if_neg n10, bind_eq b2, bind_eq g2, if_neg n10, if_ib b926, tc9, g3]
        exact ⟨_, _, _, by rw [show σ'.1 42 5 = _ from e3.2.2.1], rfl, hQ⟩
      · rw [bind_eq hx, if_pos rfl]
        by_cases q : x < 0
        · rw [if_pos q]
          exact ⟨_, _, _, rfl, rfl, hI⟩
        · have q1 : ¬ x ≤ 1 := by
            rcases hx' with h | h
            · exact absurd h q
            · exact Int32.not_le.mpr h
          rw [if_neg q, if_neg q1]
          exact ⟨_, _, _, rfl, rfl, hI⟩
/-- the row behind copies -/
def zcp (τ : St) : Nat → Int32 := fun i => if i < 26 then τ.1 26 i else τ.1 27 i
theorem zcop2 {τ : St} {T : Tx} (hT : TxM τ T) : ∃ τ1, zSc τ τ1 ∧ f_X11_copies τ = some τ1 ∧ τ1.1 27 = zcp τ ∧ τ1.1 0 45 = nI (ts T) := by
  obtain ⟨τ1, a1, a2, a3, a4⟩ := M_copies hT
  refine ⟨τ1, a1, a2, ?_, a4⟩
  obtain ⟨w, w1, w2, _, _, _, w6, _⟩ := hT
  have e : f_X11_copies τ = some (si (sci τ 26 27 0 0 26) 0 45 (nI (ts T))) := by
    unfold f_X11_copies
    rw [wlet_eq, bind_eq (zlp_copy (s := 26) (d := 27) (sp := 0) (dp := 0) (n := 26) (by omega) (Or.inl (by omega)) (fun i hi => ?_) ?_)]
    · have e : (sci τ 26 27 0 0 26).1 0 18 = nI w := by rw [sci_get, if_neg (by omega)]; exact w2
      have e2 : (sci τ 26 27 0 0 26).1 13 w = nI (ts T) := by rw [sci_get, if_neg (by omega)]; exact w6
      rw [e, if_ib (ib_t (by omega) (by omega)), nI_clamp (by omega), e2, wlet_eq]
    · dsimp only [un2]
      rw [if_pos (by decide)]
    · have b1 : ib (nI i) 26 = true := ib_t (by omega) (by omega)
      have n1 : ¬ (26 : Int32) ≤ nI i := fun z => by have := (nI_leN (a := 26) (by omega) (by omega)).mp z; omega
      dsimp only [un2]
      rw [if_neg n1, if_ib b1, if_ib b1, nI_clamp (by omega), wlet_eq, wlet_eq, nI_succ, Nat.zero_add]
  rw [a2] at e
  cases e
  funext j
  rw [si_get, if_neg (by omega), sci_get, if_pos rfl]
  unfold zcp
  by_cases h : j < 26
  · rw [if_pos h, if_pos (by omega), Nat.zero_add, Nat.sub_zero]
  · rw [if_neg h, if_neg (by omega)]
theorem zcp_eq {τ τ' : St} (h : τ'.1 26 = τ.1 26) (h2 : ∀ i, 26 ≤ i → τ'.1 27 i = τ.1 27 i) : zcp τ' = zcp τ := by
  funext i
  unfold zcp
  by_cases q : i < 26
  · rw [if_pos q, if_pos q, h]
  · rw [if_neg q, if_neg q, h2 i (by omega)]
theorem zcp_WV {τ : St} {n m : Nat} (hW : WV n m (τ.1 26)) : WV n m (zcp τ) := WV_congr (fun i hi => by unfold zcp; rw [if_pos hi]) hW
theorem zcp_RS {σ τ : St} {o m : Nat} (h7 : m ≤ 7) (h : RS σ o m (τ.1 26)) : RS σ o m (zcp τ) := RS_congr (fun i hi => by unfold zcp; rw [if_pos hi]) h7 h
theorem zcp_hi {τ : St} {i : Nat} (h : 26 ≤ i) : zcp τ i = τ.1 27 i := by unfold zcp; rw [if_neg (by omega)]
theorem zses_hi {T : Tx} {s : Int32} {n m : Nat} {V : Nat → Int32} (hW : WV n m V) {i : Nat} (h : 26 ≤ i) : zses T s m V i = V i := by
  have h7 := zWV7 hW
  unfold zses
  rw [upd_ne (by omega), upd_ne (by omega), upd_ne (by omega), upd_ne (by omega)]
  exact zss_hi T s m V (zcN7 hW) m (Nat.le_refl _) h7 i (by omega) (by omega)
theorem zgoes_hi {T : Tx} {s : Int32} {n m : Nat} {V : Nat → Int32} (hW : WV n m V) (k : Nat) {i : Nat} (h : 26 ≤ i) : (zgoes T s k (m, V)).2 i = V i := by
  induction k with
  | zero => rfl
  | succ k ih =>
    show zses T s (zgoes T s k (m, V)).1 (zgoes T s k (m, V)).2 i = V i
    rw [zses_hi (zWV_goes hW k) h, ih]
theorem z26 {τ τ' : St} (h : zSc τ τ') : τ'.1 26 = τ.1 26 := h.1 26 (by omega) (by omega) (by omega) (by omega) (by omega) (by omega) (by omega) (by omega)
theorem zsc45 (τ : St) (v : Int32) : zSc τ (si τ 0 45 v) := zSc_si (by omega)
/-- in how many of the first t seeds is the case on the list -/
def zyr (T : Tx) (m k c : Nat) (V : Nat → Int32) : Nat → Int32
  | 0 => 0
  | t + 1 => if pO (zgoes T (nI (ts T) + nI t) k (m, V)).2 (zgoes T (nI (ts T) + nI t) k (m, V)).1 (nI c) = -1 then zyr T m k c V t else zyr T m k c V t + 1
def zSy1 (o1 : Nat) (x2 : Int32) (x3 : Int32) (x4 : Int32) : St × Int32 × Int32 → Option ((St × Int32 × Int32) ⊕ (St × Int32)) :=
  un3 (fun (σ6_1 : St) (x5_6_1 : Int32) (x6_6_1 : Int32) => if x4 ≤ x6_6_1 then (some (.inr (σ6_1, x5_6_1))) else (Option.bind (f_X6_copyFrom σ6_1 42 o1) fun σ4 => Option.bind (f_X1_goThrough σ4 42 x3 ((σ4.1 4 8) + x6_6_1)) fun σ6 => Option.bind (f_X6_isListed σ6 42 x2) fun v8 => if v8 = 0 then (wlet (x6_6_1 + (1 : Int32)) fun v10 => some (.inl (σ6, x5_6_1, v10))) else (wlet (x5_6_1 + (1 : Int32)) fun v11 => wlet (x6_6_1 + (1 : Int32)) fun v12 => some (.inl (σ6, v11, v12)))))
def zMy1 (x1 : Int32) (x2 : Int32) (x3 : Int32) : St × Int32 × Int32 → Option ((St × Int32 × Int32) ⊕ (St × Int32)) :=
  un3 (fun (σ33_10 : St) (x4_33_10 : Int32) (x5_33_10 : Int32) => if x3 ≤ x5_33_10 then (some (.inr (σ33_10, x4_33_10))) else (Option.bind (f_X11_copies σ33_10) fun σ13 => wlet (si σ13 0 45 ((σ13.1 0 45) + x5_33_10)) fun σ14 => Option.bind (f_X11_goes σ14 x2) fun σ16 => Option.bind (f_X11_isOn σ16 x1) fun v18 => if v18 = 0 then (wlet (x5_33_10 + (1 : Int32)) fun v20 => some (.inl (σ16, x4_33_10, v20))) else (wlet (x4_33_10 + (1 : Int32)) fun v21 => wlet (x5_33_10 + (1 : Int32)) fun v22 => some (.inl (σ16, v21, v22)))))
theorem C_year {σ : St} {m k c s : Nat} {T : Tx} {V : Nat → Int32} (hT : TxC σ 4 T) (hOK : TxOK T) (hR : RS σ 38 m V) (hW : WV (tn T) m V) (hk : k ≤ 40) (hs : s ≤ 20) :
    ∃ σ', zK σ σ' ∧ f_X3_seedsThatKeep σ 38 (nI c) (nI k) (nI s) = some (zyr T m k c V s, σ') := by
  have h7 := zWV7 hW
  obtain ⟨⟨s1, v1⟩, q1, f1, r1⟩ := zinv (st := zSy1 38 (nI c) (nI k) (nI s)) (s0 := (σ, 0, 0)) (fun t x => zK σ x.1 ∧ x.2.2 = nI t ∧ x.2.1 = zyr T m k c V t) (fun r => zK σ r.1 ∧ r.2 = zyr T m k c V s) s (by omega) ⟨zK_refl _, rfl, rfl⟩ (by
    rintro t ⟨x, v, p⟩ ht ⟨h1, h2, h3⟩
    have h1 : zK σ x := h1
    have h2 : p = nI t := h2
    subst h2
    have h3 : v = _ := h3
    obtain ⟨x1, g1, g2, g3⟩ := C_copyFrom (σ := x) (o := 42) (p := 38) (by omega)
    have T1 := zTx_K (zK_trans h1 (zK_tr g1)) hT
    obtain ⟨x2, l1, l2, l3⟩ := C_goThrough (s := nI (ts T) + nI t) T1 hOK (g3 m V h7 (zRS_K h1 hR)) hW (by omega) hk
    have n1 : ¬ nI s ≤ nI t := fun z => by have := (nI_leN (by omega) (by omega)).mp z; omega
    refine Or.inl ⟨(x2, zyr T m k c V (t + 1), nI (t + 1)), ?_, zK_trans h1 (zK_trans (zK_tr g1) (zK_Fo l1)), rfl, rfl⟩
    unfold zSy1
    dsimp only [un3]
    rw [if_neg n1, bind_eq g2, T1.2.2.2.1, bind_eq l2, bind_eq (C_isListed (zWV7 (zWV_goes hW k)) l3 _), h3, zyr, ← nI_succ]
    by_cases q : pO (zgoes T (nI (ts T) + nI t) k (m, V)).2 (zgoes T (nI (ts T) + nI t) k (m, V)).1 (nI c) = -1
    · rw [if_pos q, if_pos q, if_pos rfl, wlet_eq]
    · rw [if_neg q, if_neg q, if_neg n10, wlet_eq, wlet_eq]) (by
    rintro ⟨x, v, p⟩ ⟨h1, h2, h3⟩
    have h2 : p = nI s := h2
    subst h2
    refine ⟨(x, v), ?_, h1, h3⟩
    unfold zSy1
    dsimp only [un3]
    rw [if_pos ((nI_leN (by omega) (by omega)).mpr (Nat.le_refl _))])
  refine ⟨s1, f1, ?_⟩
  have r1 : v1 = _ := r1
  unfold f_X3_seedsThatKeep
  rw [wlet_eq]
  refine (bind_eq q1).trans ?_
  dsimp only [un2]
  rw [r1]
theorem M_year {τ : St} {m k c s : Nat} {T : Tx} (hT : TxM τ T) (hOK : TxOK T) (hW : WV (tn T) m (τ.1 26)) (hk : k ≤ 40) (hs : s ≤ 20) :
    ∃ τ', zSc τ τ' ∧ lp (zMy1 (nI c) (nI k) (nI s)) fuel (τ, 0, 0) = some (τ', zyr T m k c (zcp τ) s) := by
  have h7 := zWV7 hW
  obtain ⟨⟨s1, v1⟩, q1, f1, r1⟩ := zinv (st := zMy1 (nI c) (nI k) (nI s)) (s0 := (τ, 0, 0)) (fun t x => zSc τ x.1 ∧ x.2.2 = nI t ∧ x.2.1 = zyr T m k c (zcp τ) t ∧ ∀ i, 26 ≤ i → x.1.1 27 i = τ.1 27 i) (fun r => zSc τ r.1 ∧ r.2 = zyr T m k c (zcp τ) s) s (by omega) ⟨zSc_refl _, rfl, rfl, fun _ _ => rfl⟩ (by
    rintro t ⟨x, v, p⟩ ht ⟨h1, h2, h3, h4⟩
    have h1 : zSc τ x := h1
    have h2 : p = nI t := h2
    subst h2
    have h3 : v = _ := h3
    have h4 : ∀ i, 26 ≤ i → x.1 27 i = τ.1 27 i := h4
    obtain ⟨x1, g1, g2, g3, g4⟩ := zcop2 (zTxM_Sc h1 hT)
    rw [zcp_eq (z26 h1) h4] at g3
    have hx : (si x1 0 45 (nI (ts T) + nI t)).1 27 = zcp τ := by rw [si_ne (by omega), g3]
    obtain ⟨x2, l1, l2, l3⟩ := M_goes (m := m) (k := k) (zTxM_Sc (zSc_trans h1 (zSc_trans g1 (zsc45 x1 (nI (ts T) + nI t)))) hT) hOK (by rw [hx]; exact zcp_WV hW) hk
    have e45 : (si x1 0 45 (nI (ts T) + nI t)).1 0 45 = nI (ts T) + nI t := by rw [si_get, if_pos ⟨rfl, rfl⟩]
    rw [hx, e45] at l3
    have hWg := zWV_goes (T := T) (s := nI (ts T) + nI t) (zcp_WV hW) k
    have n1 : ¬ nI s ≤ nI t := fun z => by have := (nI_leN (by omega) (by omega)).mp z; omega
    refine Or.inl ⟨(x2, zyr T m k c (zcp τ) (t + 1), nI (t + 1)), ?_, zSc_trans h1 (zSc_trans g1 (zSc_trans (zsc45 _ _) (zSc_Lc l1))), rfl, rfl, fun i hi => ?_⟩
    · unfold zMy1
      dsimp only [un3]
      rw [if_neg n1, bind_eq g2, wlet_eq, g4, bind_eq l2, bind_eq (M_isOn (zWV7 hWg) (by rw [l3]; exact hWg.2.2.1) _), l3, h3, zyr, ← nI_succ]
      by_cases q : pO (zgoes T (nI (ts T) + nI t) k (m, zcp τ)).2 (zgoes T (nI (ts T) + nI t) k (m, zcp τ)).1 (nI c) = -1
      · rw [if_pos q, if_pos q, if_pos rfl, wlet_eq]
      · rw [if_neg q, if_neg q, if_neg n10, wlet_eq, wlet_eq]
    · show x2.1 27 i = _
      rw [l3, zgoes_hi (zcp_WV hW) k hi, zcp_hi hi]) (by
    rintro ⟨x, v, p⟩ ⟨h1, h2, h3, h4⟩
    have h2 : p = nI s := h2
    subst h2
    refine ⟨(x, v), ?_, h1, h3⟩
    unfold zMy1
    dsimp only [un3]
    rw [if_pos ((nI_leN (by omega) (by omega)).mpr (Nat.le_refl _))])
  have r1 : v1 = _ := r1
  rw [r1] at q1
  exact ⟨s1, f1, q1⟩
theorem zdo_year : sim_year Inv := by
  intro σ τ hI x y z
  obtain ⟨-, -, -, -, T, m, a1, a2, a3, a4, a5, -, -⟩ := id hI
  have hn := a1.1
  have h7 := zWV7 a5
  unfold f_X10_year f_X11_year
  rcases zcase hn x with ⟨c, hc, rfl⟩ | hx
  · rw [bind_eq (C_has a2 a1 hc), if_neg n10, bind_eq (M_isCase_t a3 a1 hc), if_neg n10]
    by_cases d0 : y < 0
    · rw [if_pos d0, bind_eq (M_isLong_f (Or.inl d0)), if_pos rfl]
      exact ⟨_, _, _, rfl, rfl, hI⟩
    · rw [if_neg d0]
      by_cases d1 : (40 : Int32) < y
      · rw [if_pos d1, bind_eq (M_isLong_f (Or.inr d1)), if_pos rfl]
        exact ⟨_, _, _, rfl, rfl, hI⟩
      · obtain ⟨k, k1, rfl⟩ := znat (N := 40) (by omega) d0 d1
        rw [if_neg d1, bind_eq (M_isLong_t d0 d1), if_neg n10]
        by_cases e0 : z < 1
        · rw [if_pos e0, bind_eq (zin_l e0), if_pos rfl]
          exact ⟨_, _, _, rfl, rfl, hI⟩
        · rw [if_neg e0]
          by_cases e1 : z ≤ 20
          · have z0 : ¬ z < 0 := fun q => e0 (Int32.lt_of_lt_of_le q (by decide))
            obtain ⟨s, s1, rfl⟩ := znat (N := 20) (by omega) z0 (Int32.not_lt.mpr e1)
            obtain ⟨σ', p1, p2⟩ := C_year (c := c) a2 a1 (zcp_RS h7 a4) (zcp_WV a5) k1 s1
            obtain ⟨τ', r1, r2⟩ := M_year (c := c) a3 a1 a5 k1 s1
            rw [if_pos e1, bnd2_eq p2, bind_eq (zin_t e0 (Int32.not_lt.mpr e1)), if_neg n10, wlet_eq]
            refine ⟨_, _, τ', rfl, ?_, Inv_q hI p1 r1⟩
            exact bind_eq r2
          · rw [if_neg e1, bind_eq (zin_r (Int32.not_le.mp e1)), if_pos rfl]
            exact ⟨_, _, _, rfl, rfl, hI⟩
  · rw [bind_eq (C_has_f a2 hx), if_pos rfl, bind_eq (M_isCase_f a3 a1 hx), if_pos rfl]
    exact ⟨_, _, _, rfl, rfl, hI⟩
theorem zTwo_t {τ : St} {m a b : Nat} {T : Tx} (hT : TxM τ T) (hOK : TxOK T) (hW : WV (tn T) m (τ.1 27)) (ha : a < m) (hb : b < m) (hab : a ≠ b) : f_X11_areTwo τ (τ.1 27 a) (τ.1 27 b) = some 1 := by
  have h7 := zWV7 hW
  obtain ⟨e1, e2⟩ := cN_eq hW ha
  obtain ⟨g1, g2⟩ := cN_eq hW hb
  have c1 : f_X11_isCase τ (τ.1 27 a) = some 1 := by rw [e1]; exact M_isCase_t hT hOK e2
  have c2 : f_X11_isCase τ (τ.1 27 b) = some 1 := by rw [g1]; exact M_isCase_t hT hOK g2
  unfold f_X11_areTwo
  rw [bind_eq c1, if_neg n10, bind_eq c2, if_neg n10, if_neg (fun e => hab (hW.2.2.2.2 a b ha hb e)), bind_eq (M_isOn h7 hW.2.2.1 _), zpO_at hW ha, if_neg (nI_ne_m1 (by omega)), if_neg n10, bind_eq (M_isOn h7 hW.2.2.1 _), zpO_at hW hb, if_neg (nI_ne_m1 (by omega)), if_neg n10]
theorem zTwo_f {τ : St} {m : Nat} {x y : Int32} {T : Tx} (hT : TxM τ T) (hOK : TxOK T) (hW : WV (tn T) m (τ.1 27)) (h : x = y ∨ pO (τ.1 27) m x = -1 ∨ pO (τ.1 27) m y = -1) : f_X11_areTwo τ x y = some 0 := by
  have h7 := zWV7 hW
  have hn := hOK.1
  unfold f_X11_areTwo
  rcases zcase hn x with ⟨c, hc, rfl⟩ | hx
  · rw [bind_eq (M_isCase_t hT hOK hc), if_neg n10]
    rcases zcase hn y with ⟨d, hd, rfl⟩ | hy
    · rw [bind_eq (M_isCase_t hT hOK hd), if_neg n10]
      by_cases e : nI c = nI d
      · rw [if_pos e]
      · rw [if_neg e, bind_eq (M_isOn h7 hW.2.2.1 _)]
        by_cases q : pO (τ.1 27) m (nI c) = -1
        · rw [if_pos q, if_pos rfl]
        · have q2 : pO (τ.1 27) m (nI d) = -1 := by
            rcases h with h | h | h
            · exact absurd h e
            · exact absurd h q
            · exact h
          rw [if_neg q, if_neg n10, bind_eq (M_isOn h7 hW.2.2.1 _), if_pos q2, if_pos rfl]
    · rw [bind_eq (M_isCase_f hT hOK hy), if_pos rfl]
  · rw [bind_eq (M_isCase_f hT hOK hx), if_pos rfl]
theorem zdo_gain : sim_gain Inv := by
  intro σ τ hI x y
  obtain ⟨-, -, -, -, T, m, a1, a2, a3, a4, a5, -, -⟩ := id hI
  obtain ⟨τ1, b1, b2, b3, b4, b5, b6, b7⟩ := zcop a3 a5
  have R := b7 σ 38 a4
  have h7 := zWV7 b4
  have hQ := Inv_q hI (zK_refl _) b1
  unfold f_X10_gain f_X11_gain
  rw [bind_eq b2]
  by_cases e : x = y
  · rw [if_pos e, bind_eq (zTwo_f b3 a1 b4 (Or.inl e)), if_pos rfl]
    exact ⟨_, _, _, rfl, rfl, hQ⟩
  rw [if_neg e, bind_eq (C_isListed h7 R _)]
  rcases zwho b4 x with ⟨a, ha, rfl⟩ | ⟨c, hc, rfl, hp⟩ | ⟨hx, hp⟩
  · rw [zpO_at b4 ha, if_neg (nI_ne_m1 (by omega)), if_neg n10, bind_eq (C_isListed h7 R _)]
    rcases zwho b4 y with ⟨b, hb, rfl⟩ | ⟨c, hc, rfl, hp⟩ | ⟨hy, hp⟩
    · have hab : a ≠ b := fun z => e (by rw [z])
      obtain ⟨σ1, c1, c2, c3⟩ := C_copyFrom (σ := σ) (o := 42) (p := 38) (by omega)
      have R1 := c3 m _ h7 R
      have k1 : zK σ (sc σ1 (42 + 1) (zsw (σ1.1 (42 + 1)) a b)) := zK_tr (fr_trans c1 (zfr_sc _ _ _ (by omega)))
      obtain ⟨σ2, d1, d2⟩ := C_allSuffering (zTx_K k1 a2) a1 (zRS_K k1 R) b4 (by omega)
      have k2 := zK_trans k1 (zK_frj d1)
      obtain ⟨σ3, e1, e2⟩ := C_allSuffering (zTx_K k2 a2) a1 (RS_fr d1 (by omega) (zRS_sw R1 ha hb h7)) (zWV_sw b4 ha hb) (by omega)
      obtain ⟨τ2, g1, g2⟩ := M_sufferAll b3 a1 b4
      have r2 := fl27 g1
      have h2 : τ2.1 27 7 = nI m := by rw [r2]; exact b4.2.2.1
      obtain ⟨τ3, l1, l2⟩ := M_sufferAll (τ := sc τ2 27 (zsw (τ2.1 27) a b)) (m := m) (zTxM_Sc (zSc_trans (zSc_fl g1) (zSc_Lc (zLc_sc _ _))) b3) a1 (by rw [zsc_eq, r2]; exact zWV_sw b4 ha hb)
      rw [zsc_eq, r2] at l2
      have p1 : pO (τ1.1 27) m (τ1.1 27 a) = nI a := zpO_at b4 ha
      have p2 : pO (τ1.1 27) m (τ1.1 27 b) = nI b := zpO_at b4 hb
      have q1 : f_X11_placeOf τ2 (τ1.1 27 a) = some (nI a) := by rw [M_placeOf h7 h2, r2, p1]
      have q2 : f_X11_placeOf τ2 (τ1.1 27 b) = some (nI b) := by rw [M_placeOf h7 h2, r2, p2]
      rw [p2, if_neg (nI_ne_m1 (by omega)), if_neg n10, bind_eq (zTwo_t b3 a1 b4 ha hb hab), if_neg n10, bnd2_eq g2, bind_eq q1, bind_eq q2, bind_eq (M_changes (by omega) (by omega)), r2, bnd2_eq l2]
      refine ⟨_, _, _, ?_, rfl, Inv_q hI (zK_trans k2 (zK_frj e1)) (zSc_trans b1 (zSc_trans (zSc_fl g1) (zSc_trans (zSc_Lc (zLc_sc _ _)) (zSc_fl l1))))⟩
      unfold f_X3_gainOfSwap
      rw [bind_eq c2, bind_eq (C_swap R1 b4 ha hb), bnd2_eq d2, bnd2_eq e2]
      rfl
    · rw [hp, if_pos rfl, if_pos rfl, bind_eq (zTwo_f b3 a1 b4 (Or.inr (Or.inr hp))), if_pos rfl]
      exact ⟨_, _, _, rfl, rfl, hQ⟩
    · rw [hp, if_pos rfl, if_pos rfl, bind_eq (zTwo_f b3 a1 b4 (Or.inr (Or.inr hp))), if_pos rfl]
      exact ⟨_, _, _, rfl, rfl, hQ⟩
  · rw [hp, if_pos rfl, if_pos rfl, bind_eq (zTwo_f b3 a1 b4 (Or.inr (Or.inl hp))), if_pos rfl]
    exact ⟨_, _, _, rfl, rfl, hQ⟩
  · rw [hp, if_pos rfl, if_pos rfl, bind_eq (zTwo_f b3 a1 b4 (Or.inr (Or.inl hp))), if_pos rfl]
    exact ⟨_, _, _, rfl, rfl, hQ⟩
