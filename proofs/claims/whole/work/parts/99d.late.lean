/-! STAGE B, 53: late faults; numbers -/
theorem zcmpN {a b : Nat} (ha : a < 2 ^ 63) (hb : b < 2 ^ 63) : lg_cmp (nL a) (nL b) ≤ 0 ↔ a ≤ b := by
  unfold lg_cmp
  by_cases h : nL a > nL b
  · have h2 : ¬ a ≤ b := fun q => by
      have := (nL_leN ha hb).mpr q
      exact absurd h (Int64.not_lt.mpr this)
    rw [if_pos h]
    exact ⟨fun q => absurd q (by decide), fun q => absurd q h2⟩
  · have h2 : a ≤ b := (nL_leN ha hb).mp (Int64.not_lt.mp h)
    rw [if_neg h]
    refine ⟨fun _ => h2, fun _ => ?_⟩
    by_cases e : nL a = nL b
    · rw [if_pos e]; decide
    · rw [if_neg e]; decide
/-- the late fault in both: none, or the same one at the same place -/
def rdT (G : Prop) (P : Nat → Nat) (t : Nat) (σ τ : St) : Prop := (G ∧ σ.1 10 5 = 0 ∧ τ.1 0 15 = 0) ∨ ∃ v p, v ≠ 0 ∧ v < 10 ∧ p < t ∧ σ.1 10 5 = nI v ∧ τ.1 0 15 = nI v ∧ σ.1 10 6 = nI (P p) ∧ τ.1 0 16 = nI (P p)
def rdP (K P : Nat → Nat) : Prop := (∀ i j, i < j → j ≤ 400 → (∀ m, m < j → K m ≠ 0) → P i < P j) ∧ ∀ i, P i ≤ 2000
theorem rdT_mono {G G' : Prop} {P : Nat → Nat} {t t' : Nat} {σ σ' τ τ' : St} (hG : G → G') (ht : t ≤ t') (h1 : σ'.1 10 5 = σ.1 10 5) (h2 : σ'.1 10 6 = σ.1 10 6) (h3 : τ'.1 0 15 = τ.1 0 15) (h4 : τ'.1 0 16 = τ.1 0 16) (h : rdT G P t σ τ) : rdT G' P t' σ' τ' := by
  unfold rdT at h ⊢
  rw [h1, h2, h3, h4]
  rcases h with ⟨a, b⟩ | ⟨v, p, a, b, c, d⟩
  · exact Or.inl ⟨hG a, b⟩
  · exact Or.inr ⟨v, p, a, b, by omega, d⟩
theorem C_failLate {σ : St} {K P V : Nat → Nat} {t v : Nat} (hT : zTk σ K P V) (hA : zAl0 σ t) : f_X4_failLate σ (nI v) = some (if σ.1 10 5 = 0 then si (si σ 10 5 (nI v)) 10 6 (nI (P t)) else σ) := by
  obtain ⟨a1, a2, a3⟩ := hA
  have n1 : ¬ nI t < 0 := nI_pos (by omega)
  have n2 : ¬ (402 : Int32) ≤ nI t := fun z => by have := (nI_leN (a := 402) (by omega) (by omega)).mp z; omega
  unfold f_X4_failLate
  by_cases q : σ.1 10 5 = 0
  · have e : (si σ 10 5 (nI v)).1 10 2 = nI t := by rw [si_get, if_neg (by omega)]; exact a2
    rw [if_pos q, if_pos q, a2, if_neg n1, if_neg n2, wlet_eq, e, if_ib (ib_t (by omega) (by omega)), nI_clamp (by omega), si_ne (by omega), (hT.1 t a1).2.1, wlet_eq]
  · rw [if_neg q, if_neg q]
theorem M_wrong {P : Nat → Nat} {τ : St} {v i : Nat} (hi : i ≤ 400) (hp : P i ≤ 2000) (h4 : τ.1 4 i = nI (P i)) (h13 : τ.1 0 13 = 0) (h : τ.1 0 15 = 0 ∨ ∃ u p, u ≠ 0 ∧ u < 10 ∧ τ.1 0 15 = nI u ∧ τ.1 0 16 = nI p ∧ (p < P i ∨ (p = P i ∧ u = v))) : f_X11_wrong τ (nI v) (nI i) = some (if τ.1 0 15 = 0 then si (si τ 0 15 (nI v)) 0 16 (nI (P i)) else τ) := by
  have n0 : ¬ (0 : Int32) < τ.1 0 13 := by rw [h13]; decide
  unfold f_X11_wrong
  rw [if_ib (ib_t (by omega) (by omega)), nI_clamp (by omega), h4, wlet_eq, if_neg n0]
  by_cases q : τ.1 0 15 = 0
  · rw [if_pos q, if_pos q, wlet_eq, wlet_eq]
  · rw [if_neg q, if_neg q]
    obtain ⟨u, p, u0, u9, e1, e2, hc⟩ := h.resolve_left q
    rw [e1, e2]
    rcases hc with hc | ⟨hc, rfl⟩
    · rw [if_pos ((nI_ltN (by omega) (by omega)).mpr hc)]
    · rw [hc, if_neg (fun z => Int32.lt_irrefl z), if_pos rfl, if_neg (fun z => Int32.lt_irrefl z)]
def rgC (σ σ' : St) : Prop := (∀ c, c ≠ 10 → σ'.1 c = σ.1 c) ∧ σ'.2 = σ.2 ∧ ∀ i, (i < 2 ∨ 6 < i) → σ'.1 10 i = σ.1 10 i
def rgM (τ τ' : St) : Prop := (∀ c, c ≠ 0 → τ'.1 c = τ.1 c) ∧ (∀ i, i ≠ 11 → i ≠ 13 → i ≠ 14 → i ≠ 15 → i ≠ 16 → τ'.1 0 i = τ.1 0 i) ∧ τ'.2 = τ.2
theorem rgC_refl (σ : St) : rgC σ σ := ⟨fun _ _ => rfl, rfl, fun _ _ => rfl⟩
theorem rgM_refl (σ : St) : rgM σ σ := ⟨fun _ _ => rfl, fun _ _ _ _ _ _ => rfl, rfl⟩
theorem rgC_trans {a b c : St} (h : rgC a b) (g : rgC b c) : rgC a c := ⟨fun k hk => (g.1 k hk).trans (h.1 k hk), g.2.1.trans h.2.1, fun i hi => (g.2.2 i hi).trans (h.2.2 i hi)⟩
theorem rgM_trans {a b c : St} (h : rgM a b) (g : rgM b c) : rgM a c := ⟨fun k hk => (g.1 k hk).trans (h.1 k hk), fun i h1 h2 h3 h4 h5 => (g.2.1 i h1 h2 h3 h4 h5).trans (h.2.1 i h1 h2 h3 h4 h5), g.2.2.trans h.2.2⟩
theorem rgC_10 (σ : St) (i : Nat) (v : Int32) (h : 2 ≤ i ∧ i ≤ 6) : rgC σ (si σ 10 i v) := ⟨fun c hc => si_ne hc, rfl, fun j hj => by rw [si_get, if_neg (by omega)]⟩
theorem rgM_0 (σ : St) (i : Nat) (v : Int32) (h : i = 11 ∨ i = 13 ∨ i = 14 ∨ i = 15 ∨ i = 16) : rgM σ (si σ 0 i v) := ⟨fun c hc => si_ne hc, fun j h1 h2 h3 h4 h5 => by rw [si_get, if_neg (by omega)], rfl⟩
theorem rgM_T {a b : St} (h : zfT a b) : rgM a b := ⟨h.1, fun i h1 h2 h3 _ _ => h.2.1 i h1 h2 h3, h.2.2⟩
theorem zTk_C {σ σ' : St} {K P V : Nat → Nat} (h : rgC σ σ') (hT : zTk σ K P V) : zTk σ' K P V := by
  unfold zTk at hT ⊢
  rw [h.1 12 (by omega), h.1 13 (by omega), h.2.1]; exact hT
theorem zTm_fM {σ σ' : St} {K P V N : Nat → Nat} (h : rgM σ σ') (hT : zTm σ K P V N) : zTm σ' K P V N := by
  unfold zTm at hT ⊢
  rw [h.1 3 (by omega), h.1 4 (by omega), h.1 5 (by omega), h.2.2]; exact hT
/-- a sign's end: the class -/
theorem C_take1 {σ : St} {K P V : Nat → Nat} {t k : Nat} (hT : zTk σ K P V) (hA : zAl0 σ t) (hk : k < 32) (h : K t = k) : ∃ σ', f_X4_expect σ (nI k) = some σ' ∧ rgC σ σ' ∧ σ'.1 10 5 = σ.1 10 5 ∧ σ'.1 10 6 = σ.1 10 6 ∧ ((t = 400 ∧ zDd0 σ' P 2 400) ∨ (t ≠ 400 ∧ zAl0 σ' (t + 1))) := by
  have i1 := C_isNext hT hA hk
  rw [if_pos h] at i1
  obtain ⟨a1, a2, a3⟩ := hA
  have n1 : ¬ (400 : Int32) < nI t := fun z => by have := (nI_ltN (a := 400) (by omega) (by omega)).mp z; omega
  refine ⟨si σ 10 2 (nI (t + 1)), ?_, rgC_10 _ _ _ (by omega), by rw [si_get, if_neg (by omega)], by rw [si_get, if_neg (by omega)], ?_⟩
  · unfold f_X4_expect
    rw [bind_eq i1, if_neg n10]
    unfold f_X4_take
    rw [if_pos a3, a2, if_neg n1, wlet_eq, ← nI_succ]
    rfl
  · by_cases q : t = 400
    · exact Or.inl ⟨q, Or.inr rfl, Or.inl ⟨by rw [si_get, if_pos ⟨rfl, rfl⟩, q], rfl, rfl⟩⟩
    · exact Or.inr ⟨q, by omega, by rw [si_get, if_pos ⟨rfl, rfl⟩], by rw [si_get, if_neg (by omega)]; exact a3⟩
theorem C_no1 {σ : St} {K P V : Nat → Nat} {t k : Nat} (hT : zTk σ K P V) (hA : zAl0 σ t) (hk : k < 32) (h : K t ≠ k) : ∃ σ', f_X4_expect σ (nI k) = some σ' ∧ rgC σ σ' ∧ zDd0 σ' P 1 t := by
  have i1 := C_isNext hT hA hk
  rw [if_neg h] at i1
  obtain ⟨σ', b1, b2, b3⟩ := C_fail (v := 1) hT hA (Or.inl rfl)
  have b4 : rgC σ σ' := by
    obtain ⟨a1, a2, a3⟩ := hA
    have n1 : ¬ nI t < 0 := nI_pos (by omega)
    have n2 : ¬ (402 : Int32) ≤ nI t := fun z => by have := (nI_leN (a := 402) (by omega) (by omega)).mp z; omega
    have e : (si σ 10 3 (nI 1)).1 10 2 = nI t := by rw [si_get, if_neg (by omega)]; exact a2
    unfold f_X4_fail at b1
    rw [if_pos a3, a2, if_neg n1, if_neg n2, wlet_eq, e, if_ib (ib_t (by omega) (by omega)), wlet_eq] at b1
    cases b1
    exact rgC_trans (rgC_10 _ _ _ (by omega)) (rgC_10 _ _ _ (by omega))
  exact ⟨σ', by unfold f_X4_expect; rw [bind_eq i1, if_pos rfl, show (1 : Int32) = nI 1 from rfl, bind_eq b1], b4, b3⟩
theorem J_num {σ τ : St} {K P V N : Nat → Nat} {t m : Nat} {G : Prop} (hV : ∀ j, K j = 3 → V j ≤ 9999) (hP : rdP K P) (hT : zTk σ K P V) (hM : zTm τ K P V N) (hA0 : zAl0 σ t) (hA : zAm K τ t) (hm : m = 99 ∨ m = 9999) (hG : rdT G P t σ τ) : ∃ v v' σ' τ', f_X4_readNumber σ (nI m) = some (v, σ') ∧ f_X11_bounded τ 0 (nI m) = some (v', τ') ∧ rgC σ σ' ∧ rgM τ τ' ∧ ((K t = 3 ∧ v = nI (V t) ∧ v' = nI (V t) ∧ zAl0 σ' (t + 1) ∧ zAm K τ' (t + 1) ∧ rdT (G ∧ V t ≤ m) P (t + 1) σ' τ') ∨ ∃ v p, zDd0 σ' P v p ∧ zDm P τ' v p) := by
  have t4 := hA.1
  have i0 := C_value hT hA0
  have i1 := C_isNext hT hA0 (k := 3) (by omega)
  have i2 := M_is hM hA (k := 3) (by omega)
  have p0 : ¬ (0 : Int32) < τ.1 0 13 := by rw [hA.2.2.1]; decide
  have bt : ib (nI t) 403 = true := ib_t (by omega) (by omega)
  have gt : (nI t).toNatClampNeg = t := nI_clamp (by omega)
  by_cases q : K t = 3
  case neg =>
    rw [if_neg q] at i1 i2
    obtain ⟨σ', a1, a2, a3⟩ := C_no1 hT hA0 (k := 3) (by omega) q
    obtain ⟨τ', b1, b2, b3, b4⟩ := M_fail hM hA (v := 1) (Or.inl rfl)
    refine ⟨Int64.toInt32 (nL (V t)), 0, σ', τ', ?_, ?_, a2, rgM_T b2, Or.inr ⟨1, t, a3, b4⟩⟩
    · unfold f_X4_readNumber
      rw [bind_eq i0, show (3 : Int32) = nI 3 from rfl, bind_eq i1, wlet_eq, if_pos rfl]
      exact bind_eq a1
    · unfold f_X11_bounded
      rw [wlet_eq, if_neg p0, show (2 : Int32) = nI (zrk 3) from rfl, bind_eq i2, if_pos rfl, show (1 : Int32) = nI 1 from rfl, bind_eq b1]
  case pos =>
    rw [if_pos q] at i1 i2
    have hv := hV t q
    obtain ⟨-, e4, e5, -⟩ := hM.1 t hA.1 hA.2.2.2
    have e5 := e5 q
    have hz : Int32.toInt64 (nI m) = nL m := by
      rcases hm with rfl | rfl
      · exact z99
      · exact z9999
    have hc : lg_cmp (nL (V t)) (nL m) ≤ 0 ↔ V t ≤ m := zcmpN (by omega) (by omega)
    have nv : ¬ nI (V t) < 0 := nI_pos (by omega)
    have hle : nI (V t) ≤ nI m ↔ V t ≤ m := nI_leN (by omega) (by omega)
    -- both with the late fault
    obtain ⟨σ1, τ1, c1, c2, c3, c4, c5, c6, c7, c8, c9⟩ : ∃ σ1 τ1, f_X4_readNumber σ (nI m) = (Option.bind (f_X4_expect σ1 (3 : Int32)) fun σ7 => some ((Int64.toInt32 (nL (V t))), σ7)) ∧ f_X11_bounded τ 0 (nI m) = (Option.bind (f_X11_goesOn τ1) fun σ12 => some (nI (V t), σ12)) ∧ rgC σ σ1 ∧ rgM τ τ1 ∧ zAl0 σ1 t ∧ zAm K τ1 t ∧ rdT (G ∧ V t ≤ m) P (t + 1) σ1 τ1 ∧ zTk σ1 K P V ∧ zTm τ1 K P V N := by
      by_cases w : V t ≤ m
      · refine ⟨σ, τ, ?_, ?_, rgC_refl _, rgM_refl _, hA0, hA, rdT_mono (fun g => ⟨g, w⟩) (by omega) rfl rfl rfl rfl hG, hT, hM⟩
        · unfold f_X4_readNumber
          rw [bind_eq i0, show (3 : Int32) = nI 3 from rfl, bind_eq i1, wlet_eq, if_neg n10, hz, if_pos (hc.mpr w)]
        · unfold f_X11_bounded
          rw [wlet_eq, if_neg p0, show (2 : Int32) = nI (zrk 3) from rfl, bind_eq i2, if_neg n10, hA.2.1, if_ib bt, gt, e5, wlet_eq, wlet_eq, wlet_eq, if_neg nv, if_pos (hle.mpr w)]
      · obtain ⟨σ1, h1⟩ : ∃ σ1, σ1 = (if σ.1 10 5 = 0 then si (si σ 10 5 (nI 5)) 10 6 (nI (P t)) else σ) := ⟨_, rfl⟩
        obtain ⟨τ1, h2⟩ : ∃ τ1, τ1 = (if τ.1 0 15 = 0 then si (si τ 0 15 (nI 5)) 0 16 (nI (P t)) else τ) := ⟨_, rfl⟩
        have d1 : f_X4_failLate σ (nI 5) = some σ1 := by rw [h1]; exact C_failLate hT hA0
        have d2 : f_X11_wrong τ (nI 5) (nI t) = some τ1 := by
          rw [h2]
          refine M_wrong hA.1 (hP.2 t) e4 hA.2.2.1 ?_
          rcases hG with ⟨_, _, g⟩ | ⟨u, p, g1, g2, g3, g4, g5, g6, g7⟩
          · exact Or.inl g
          · exact Or.inr ⟨u, P p, g1, g2, g5, g7, Or.inl (hP.1 p t g3 hA.1 hA.2.2.2)⟩
        have f1 : rgC σ σ1 := by
          rw [h1]
          split
          · exact rgC_trans (rgC_10 _ _ _ (by omega)) (rgC_10 _ _ _ (by omega))
          · exact rgC_refl _
        have f2 : rgM τ τ1 := by
          rw [h2]
          split
          · exact rgM_trans (rgM_0 _ _ _ (by omega)) (rgM_0 _ _ _ (by omega))
          · exact rgM_refl _
        have k1 : zAl0 σ1 t := by
          rw [h1]
          split
          · exact ⟨hA0.1, by rw [si_get, if_neg (by omega), si_get, if_neg (by omega)]; exact hA0.2.1, by rw [si_get, if_neg (by omega), si_get, if_neg (by omega)]; exact hA0.2.2⟩
          · exact hA0
        have k2 : zAm K τ1 t := by
          rw [h2]
          split
          · exact zAm_0 (zAm_0 hA (by omega)) (by omega)
          · exact hA
        refine ⟨σ1, τ1, ?_, ?_, f1, f2, k1, k2, ?_, zTk_C f1 hT, zTm_fM f2 hM⟩
        · unfold f_X4_readNumber
          rw [bind_eq i0, show (3 : Int32) = nI 3 from rfl, bind_eq i1, wlet_eq, if_neg n10, hz, if_neg (fun z => w (hc.mp z)), show (5 : Int32) = nI 5 from rfl, bind_eq d1]
        · unfold f_X11_bounded
          rw [wlet_eq, if_neg p0, show (2 : Int32) = nI (zrk 3) from rfl, bind_eq i2, if_neg n10, hA.2.1, if_ib bt, gt, e5, wlet_eq, wlet_eq, wlet_eq, if_neg nv, if_neg (fun z => w (hle.mp z)), show (5 : Int32) = nI 5 from rfl, bind_eq d2]
        · right
          rcases hG with ⟨_, g, g'⟩ | ⟨u, p, g1, g2, g3, g4, g5, g6, g7⟩
          · rw [h1, h2, if_pos g, if_pos g']
            exact ⟨5, t, by omega, by omega, by omega, by rw [si_get, if_neg (by omega), si_get, if_pos ⟨rfl, rfl⟩], by rw [si_get, if_neg (by omega), si_get, if_pos ⟨rfl, rfl⟩], by rw [si_get, if_pos ⟨rfl, rfl⟩], by rw [si_get, if_pos ⟨rfl, rfl⟩]⟩
          · have z1 : ¬ σ.1 10 5 = 0 := by rw [g4]; exact fun z => g1 ((nI_eqN (b := 0) (by omega) (by omega)).mp z)
            have z2 : ¬ τ.1 0 15 = 0 := by rw [g5]; exact fun z => g1 ((nI_eqN (b := 0) (by omega) (by omega)).mp z)
            rw [h1, h2, if_neg z1, if_neg z2]
            exact ⟨u, p, g1, g2, by omega, g4, g5, g6, g7⟩
    obtain ⟨σ2, a1, a2, a3, a4, a5⟩ := C_take1 c8 c5 (k := 3) (by omega) q
    obtain ⟨τ2, b1, b2, b3⟩ := M_goesOn c9 c6 (by omega)
    refine ⟨Int64.toInt32 (nL (V t)), nI (V t), σ2, τ2, by rw [c1, show (3 : Int32) = nI 3 from rfl, bind_eq a1], by rw [c2, bind_eq b1], rgC_trans c3 a2, rgM_trans c4 (rgM_T b2), ?_⟩
    rcases a5 with ⟨h, d⟩ | ⟨h, d⟩
    · rcases b3 with ⟨h', d'⟩ | ⟨h', d'⟩
      · exact Or.inr ⟨2, 400, d, d'⟩
      · exact absurd h h'
    · rcases b3 with ⟨h', d'⟩ | ⟨h', d'⟩
      · exact absurd h' h
      · exact Or.inl ⟨q, nL_I _, rfl, d, d', rdT_mono id (Nat.le_refl _) a3 a4 (b2.2.1 15 (by omega) (by omega) (by omega)) (b2.2.1 16 (by omega) (by omega) (by omega)) c7⟩
theorem J_num_d {σ τ : St} {K P V : Nat → Nat} {v p : Nat} {x y : Int32} (hT : zTk σ K P V) (d1 : zDd0 σ P v p) (d2 : zDm P τ v p) : ∃ u σ', f_X4_readNumber σ x = some (u, σ') ∧ f_X11_bounded τ 0 y = some (0, τ) ∧ zfE σ σ' ∧ zDd0 σ' P v p := by
  obtain ⟨u, h1⟩ := C_value_d d1
  have i1 := C_isNext_d hT d1 (k := 3) (by omega) (by omega)
  obtain ⟨σ', a1, a2, a3⟩ := C_expect_d (k := 3) (by omega) (by omega) σ v p hT d1
  have pp : (0 : Int32) < τ.1 0 13 := by
    rw [d2.2.1]
    rcases d2.1 with rfl | rfl <;> decide
  refine ⟨Int64.toInt32 u, σ', ?_, ?_, a2, a3⟩
  · unfold f_X4_readNumber
    rw [bind_eq h1, show (3 : Int32) = nI 3 from rfl, bind_eq i1, wlet_eq, if_pos rfl]
    exact bind_eq a1
  · unfold f_X11_bounded
    rw [wlet_eq, if_pos pp, bind_eq (M_fail_d d2 _)]
