/-! STAGE B, 58: a number told, both side by side -/
theorem J_int {σ τ : St} {K P V N : Nat → Nat} {s t L cd b m ic rc : Nat} {T : Tx} {T' : Nat → Tx} (hs : s ≤ 1) (hV : rdV K V N) (hP : rdP K P) (hT : zTk σ K P V) (hM : zTm τ K P V N) (hX : rdX K P V N s σ τ t T L cd b) (hk : K t ≠ 0) (hm : m = 99 ∨ m = 9999) (hic : ic = 7 ∨ ic = 8) (hrc : rc = 12 ∨ rc = 13) (hC : ∀ v σ', (∀ c, c ≠ 15 → c ≠ 10 → σ'.1 c = σ.1 c) → (∀ i, i ≠ ic → σ'.1 15 i = σ.1 15 i) → σ'.1 15 ic = nI v → TxC σ' 15 (T' v)) (hR : ∀ v τ', (∀ c, c ≠ 0 → c ≠ rc → τ'.1 c = τ.1 c) → τ'.1 rc s = nI v → rdS τ' s (T' v) cd b) (hn : ∀ v, tn (T' v) = tn T ∧ (∀ k, tr (T' v) k = tr T k ∧ te (T' v) k = te T k)) (hO : ∀ v, TxOK T ∧ v ≤ m → TxOK (T' v)) :
    ∃ σ1 v σ2 σ' τ', f_X4_take σ = some σ1 ∧ f_X4_readNumber σ1 (nI m) = some (v, σ2) ∧ f_X4_expect (si σ2 15 ic v) (nI 4) = some σ' ∧ (bnd2 (f_X11_toldInt τ (nI m)) fun v τ12 => some (si τ12 rc s v)) = some τ' ∧ rhC σ σ' ∧ rhM s τ τ' ∧ ((∃ t' T1, t < t' ∧ rdX K P V N s σ' τ' t' T1 L cd b) ∨ ∃ v p, zDd0 σ' P v p ∧ zDm P τ' v p) := by
  obtain ⟨⟨hA0, hA⟩, ⟨hTC, hTS, h7, hok⟩, ⟨hL, h12, h35, h29, h19, h20⟩, hN, hG, hl1, hl2, hl3, hl4, hl5⟩ := hX
  have t4 := hA.1
  have hr9 : rc = 9 ∨ rc = 12 ∨ rc = 13 := Or.inr hrc
  obtain ⟨σ1, τ1, a1, a2, a3, a4, a5, a6, a7⟩ := J_takeg (P := P) hM hA0 hA hk
  have T1 := zTk_C a3 hT
  have M1 := zTm_M (zfM_T (B := 0) (E := 0) a4) hM
  rcases a7 with ⟨A1, B1⟩ | ⟨v, p, d1, d2⟩
  case inr =>
    obtain ⟨u, σ2, c1, c2, c3, c4⟩ := J_num_d (x := nI m) (y := nI m) T1 d1 d2
    have f2 : rhC σ (si σ2 15 ic u) := rhC_trans (rhC_g a3) (rhC_trans (rhC_E c3) (rhC_si _ _ _ _ (by omega)))
    obtain ⟨σ3, e1, e2, e3⟩ := C_expect_d (k := 4) (by omega) (by omega) (si σ2 15 ic u) v p (zTk_H f2 hT) (zDd0_E (si_ne (by omega)) c4)
    refine ⟨σ1, u, σ2, σ3, si τ1 rc s 0, a1, c1, e1, ?_, rhC_trans f2 (rhC_E e2), rhM_trans (rhM_g (rgM_T a4)) (rhM_9 _ _ _ hr9), Or.inr ⟨v, p, e3, zDm_ne0 d2 (by omega)⟩⟩
    unfold f_X11_toldInt
    rw [bind_eq a2, bnd2_eq c2, bind_eq (M_must_d d2 _)]
    rfl
  have G1 : rdT (TxOK T) P (t + 1) σ1 τ1 := rdT_mono id (by omega) a5 a6 (a4.2.1 15 (by omega) (by omega) (by omega)) (a4.2.1 16 (by omega) (by omega) (by omega)) hG
  obtain ⟨x, y, σ2, τ2, e1, e2, e3, e4, e5⟩ := J_num hV.1 hP T1 M1 A1 B1 hm G1
  have F2 := rgC_trans a3 e3
  have f2 := rgM_trans (rgM_T a4) e4
  have F2' : rhC σ (si σ2 15 ic x) := rhC_trans (rhC_g F2) (rhC_si _ _ _ _ (by omega))
  have s10 : (si σ2 15 ic x).1 10 = σ2.1 10 := si_ne (by omega)
  have eT : (bnd2 (f_X11_toldInt τ (nI m)) fun v τ12 => some (si τ12 rc s v)) = Option.bind (f_X11_must τ2 (nI (zrk 4))) fun σ7 => some (si σ7 rc s y) := by
    unfold f_X11_toldInt
    rw [bind_eq a2, bnd2_eq e2, show (4 : Int32) = nI (zrk 4) from rfl]
    cases f_X11_must τ2 (nI (zrk 4)) <;> rfl
  rcases e5 with ⟨k3, rfl, rfl, A2, B2, G2⟩ | ⟨v, p, d1, d2⟩
  case inr =>
    obtain ⟨σ3, g1, g2, g3⟩ := C_expect_d (k := 4) (by omega) (by omega) (si σ2 15 ic x) v p (zTk_H F2' hT) (zDd0_E s10 d1)
    refine ⟨σ1, x, σ2, σ3, si τ2 rc s y, a1, e1, g1, by rw [eT, bind_eq (M_must_d d2 _)], rhC_trans F2' (rhC_E g2), rhM_trans (rhM_g f2) (rhM_9 _ _ _ hr9), Or.inr ⟨v, p, g3, zDm_ne0 d2 (by omega)⟩⟩
  obtain ⟨d, hd⟩ : ∃ d, d = V (t + 1) := ⟨_, rfl⟩
  rw [← hd] at eT G2 F2' s10 e1
  have A2' : zAl0 (si σ2 15 ic (nI d)) (t + 1 + 1) := ⟨A2.1, by rw [s10]; exact A2.2.1, by rw [s10]; exact A2.2.2⟩
  obtain ⟨σ3, τ3, c1, c2, c3, c4, c5⟩ := J_mustg (k := 4) (zTk_H F2' hT) (zTm_fM f2 hM) A2' B2 (by omega) (by omega)
  have F3 := rhC_trans F2' (rhC_g c3)
  have f3 : rhM s τ (si τ3 rc s (nI d)) := rhM_trans (rhM_g f2) (rhM_trans (rhM_g (rgM_T c4)) (rhM_9 _ _ _ hr9))
  refine ⟨σ1, nI d, σ2, σ3, si τ3 rc s (nI d), a1, e1, c1, by rw [eT, bind_eq c2], F3, f3, ?_⟩
  rcases c5 with ⟨-, l5, l6, A3, B3⟩ | ⟨v, p, d1, d2⟩
  case inr => exact Or.inr ⟨v, p, d1, zDm_ne0 d2 (by omega)⟩
  have x0 : ∀ i, i ≠ 11 → i ≠ 13 → i ≠ 14 → i ≠ 15 → i ≠ 16 → (si τ3 rc s (nI d)).1 0 i = τ.1 0 i := fun i h1 h2 h3 h4 h5 => by rw [si_ne (by omega), c4.2.1 i h1 h2 h3, f2.2.1 i h1 h2 h3 h4 h5]
  have x15 : ∀ i, i ≠ ic → σ3.1 15 i = σ.1 15 i := fun i hi => by rw [c3.1 15 (by omega), si_get, if_neg (by omega), F2.1 15 (by omega)]
  refine Or.inl ⟨t + 1 + 1 + 1, T' d, by omega, ⟨A3, ⟨B3.1, by rw [si_ne (by omega)]; exact B3.2.1, by rw [si_ne (by omega)]; exact B3.2.2.1, B3.2.2.2⟩⟩, ⟨hC d σ3 (fun c h1 h2 => by rw [c3.1 c h2, si_ne h1, F2.1 c h2]) x15 (by rw [c3.1 15 (by omega), si_get, if_pos ⟨rfl, rfl⟩]), hR d _ (fun c h1 h2 => by rw [si_ne h2, c4.1 c h1, f2.1 c h1]) (by rw [si_get, if_pos ⟨rfl, rfl⟩]), by rw [(hn d).1]; exact h7, fun k hk => by rw [((hn d).2 k).1, ((hn d).2 k).2]; exact hok k hk⟩, ⟨by rw [x15 5 (by omega)]; exact hL, by rw [x0 12 (by omega) (by omega) (by omega) (by omega) (by omega)]; exact h12, by rw [x0 35 (by omega) (by omega) (by omega) (by omega) (by omega)]; exact h35, by rw [x0 29 (by omega) (by omega) (by omega) (by omega) (by omega)]; exact h29, by rw [x0 19 (by omega) (by omega) (by omega) (by omega) (by omega)]; exact h19, by rw [x0 20 (by omega) (by omega) (by omega) (by omega) (by omega), (hn d).1]; exact h20⟩, ?_, ?_, by omega, hl2, by omega, hl4, by omega⟩
  · rw [(hn d).1]
    intro i hi
    obtain ⟨j, m1, m2, m3, m4⟩ := hN i hi
    refine ⟨j, by omega, m2, ?_, ?_⟩
    · rw [c3.2.1]
      show σ2.2 20 i = _
      rw [F2.2.1]; exact m3
    · show τ3.2 8 i = _
      rw [c4.2.2, f2.2.2]; exact m4
  · refine rdT_mono (hO d) (by omega) (t' := t + 1 + 1 + 1) ?_ ?_ ?_ ?_ G2
    · rw [l5, s10]
    · rw [l6, s10]
    · rw [si_ne (by omega), c4.2.1 15 (by omega) (by omega) (by omega)]
    · rw [si_ne (by omega), c4.2.1 16 (by omega) (by omega) (by omega)]
def txB (T : Tx) (v : Nat) : Tx := (tn T, td T, tp T, v, ts T, T.2.2.2.2.2)
def txD (T : Tx) (v : Nat) : Tx := (tn T, td T, tp T, tb T, v, T.2.2.2.2.2)
theorem txB_C {σ σ' : St} {T : Tx} {v : Nat} (h : TxC σ 15 T) (hc : ∀ c, c ≠ 15 → c ≠ 10 → σ'.1 c = σ.1 c) (h15 : ∀ i, i ≠ 7 → σ'.1 15 i = σ.1 15 i) (h7 : σ'.1 15 7 = nI v) : TxC σ' 15 (txB T v) := by
  obtain ⟨a1, a2, a3, a4, L, a5, a6, a7⟩ := h
  refine ⟨by rw [h15 6 (by omega)]; exact a1, fun c hcn => ?_, h7, by rw [h15 8 (by omega)]; exact a4, L, a5, by rw [h15 5 (by omega)]; exact a6, fun k hk => ?_⟩
  · rw [hc (15 + 3) (by omega) (by omega), hc (15 + 4) (by omega) (by omega)]; exact a2 c hcn
  · rw [hc (15 + 2) (by omega) (by omega), hc (15 + 1) (by omega) (by omega)]; exact a7 k hk
theorem txD_C {σ σ' : St} {T : Tx} {v : Nat} (h : TxC σ 15 T) (hc : ∀ c, c ≠ 15 → c ≠ 10 → σ'.1 c = σ.1 c) (h15 : ∀ i, i ≠ 8 → σ'.1 15 i = σ.1 15 i) (h7 : σ'.1 15 8 = nI v) : TxC σ' 15 (txD T v) := by
  obtain ⟨a1, a2, a3, a4, L, a5, a6, a7⟩ := h
  refine ⟨by rw [h15 6 (by omega)]; exact a1, fun c hcn => ?_, by rw [h15 7 (by omega)]; exact a3, h7, L, a5, by rw [h15 5 (by omega)]; exact a6, fun k hk => ?_⟩
  · rw [hc (15 + 3) (by omega) (by omega), hc (15 + 4) (by omega) (by omega)]; exact a2 c hcn
  · rw [hc (15 + 2) (by omega) (by omega), hc (15 + 1) (by omega) (by omega)]; exact a7 k hk
theorem txB_S {τ τ' : St} {s cd b v : Nat} {T : Tx} (h : rdS τ s T cd b) (hc : ∀ c, c ≠ 0 → c ≠ 12 → τ'.1 c = τ.1 c) (hv : τ'.1 12 s = nI v) : rdS τ' s (txB T v) cd b := by
  obtain ⟨a1, a2, a3, a4, a5⟩ := h
  refine ⟨by rw [hc 9 (by omega) (by omega)]; exact a1, by rw [hc 10 (by omega) (by omega), hc 11 (by omega) (by omega)]; exact a2, hv, by rw [hc 13 (by omega) (by omega)]; exact a4, fun k hk => ?_⟩
  rw [hc 14 (by omega) (by omega), hc 15 (by omega) (by omega)]
  rcases a5 k hk with c | ⟨b', B, b1, b2, b3, b4, b5⟩
  · exact Or.inl c
  · exact Or.inr ⟨b', B, b1, b2, b3, b4, MLaw_congr (lo := 0) (hi := B) (fun c i _ _ _ _ => by rw [hc c (by omega) (by omega)]) (fun c i _ _ _ _ => by rw [hc c (by omega) (by omega)]) (Nat.zero_le _) (Nat.le_refl _) b5⟩
theorem txD_S {τ τ' : St} {s cd b v : Nat} {T : Tx} (h : rdS τ s T cd b) (hc : ∀ c, c ≠ 0 → c ≠ 13 → τ'.1 c = τ.1 c) (hv : τ'.1 13 s = nI v) : rdS τ' s (txD T v) cd b := by
  obtain ⟨a1, a2, a3, a4, a5⟩ := h
  refine ⟨by rw [hc 9 (by omega) (by omega)]; exact a1, by rw [hc 10 (by omega) (by omega), hc 11 (by omega) (by omega)]; exact a2, by rw [hc 12 (by omega) (by omega)]; exact a3, hv, fun k hk => ?_⟩
  rw [hc 14 (by omega) (by omega), hc 15 (by omega) (by omega)]
  rcases a5 k hk with c | ⟨b', B, b1, b2, b3, b4, b5⟩
  · exact Or.inl c
  · exact Or.inr ⟨b', B, b1, b2, b3, b4, MLaw_congr (lo := 0) (hi := B) (fun c i _ _ _ _ => by rw [hc c (by omega) (by omega)]) (fun c i _ _ _ _ => by rw [hc c (by omega) (by omega)]) (Nat.zero_le _) (Nat.le_refl _) b5⟩
/-- the law k of a text told -/
def txL (T : Tx) (k : Nat) (r : List (List (Nat × Nat) × List (Nat × Nat) × List (Nat × Nat))) (e : List (Nat × Nat)) : Tx := (tn T, td T, tp T, tb T, ts T, fun j => if j = k then (r, e) else T.2.2.2.2.2 j)
theorem txL_r {T : Tx} {k j : Nat} {r : List (List (Nat × Nat) × List (Nat × Nat) × List (Nat × Nat))} {e : List (Nat × Nat)} : (j = k ∧ tr (txL T k r e) j = r ∧ te (txL T k r e) j = e) ∨ (j ≠ k ∧ tr (txL T k r e) j = tr T j ∧ te (txL T k r e) j = te T j) := by
  unfold tr te txL
  by_cases q : j = k
  · left; dsimp only; rw [if_pos q]; exact ⟨q, rfl, rfl⟩
  · right; dsimp only; rw [if_neg q]; exact ⟨q, rfl, rfl⟩
theorem txL_ok {T : Tx} {k : Nat} {r : List (List (Nat × Nat) × List (Nat × Nat) × List (Nat × Nat))} {e : List (Nat × Nat)} (hr : okL r e) (hk : ∀ j, j < 4 → okL (tr T j) (te T j)) : ∀ j, j < 4 → okL (tr (txL T k r e) j) (te (txL T k r e) j) := fun j hj => by
  rcases txL_r (T := T) (k := k) (j := j) (r := r) (e := e) with ⟨_, a, b⟩ | ⟨_, a, b⟩
  · rw [a, b]; exact hr
  · rw [a, b]; exact hk j hj
theorem rdCc {f g : Nat → Int32} {L : Nat} (h : ∀ i, i < L → g i = f i) : ∀ {r : List (List (Nat × Nat) × List (Nat × Nat) × List (Nat × Nat))} {e : List (Nat × Nat)} {p q : Nat}, q ≤ L → CLaw f p q r e → CLaw g p q r e := by
  intro r
  induction r with
  | nil =>
    intro e p q hq hc
    obtain ⟨c1, c2⟩ := hc
    refine ⟨CA_congr (fun i h1 h2 => h i ?_) c1, c2⟩
    rw [List.length_append] at h2
    have : [(7, 0)].length = 1 := rfl
    simp only [List.length_cons, List.length_nil] at h2
    omega
  | cons x r ih =>
    intro e p q hq hc
    obtain ⟨m, hm, c1, c2⟩ := hc
    have hle := CLaw_le c2
    refine ⟨m, hm, CA_congr (fun i h1 h2 => h i ?_) c1, ih hq c2⟩
    simp only [List.length_append, List.length_cons, List.length_nil] at h2
    omega
theorem C_law_d {σ : St} {K P V : Nat → Nat} {v p k : Nat} (hV : ∀ j, K j = 3 → V j ≤ 9999) (hT : zTk σ K P V) (hD : zDd0 σ P v p) (hk : k < 4) : ∃ σm σ', f_X4_readLaw σ (nI k) = some σm ∧ f_X4_expect σm (nI 4) = some σ' ∧ rfW k σ σ' ∧ zDd0 σ' P v p := by
  have nk1 : ¬ nI k < 0 := nI_pos (by omega)
  have nk2 : ¬ (4 : Int32) ≤ nI k := fun z => by have := (nI_leN (a := 4) (by omega) (by omega)).mp z; omega
  obtain ⟨σ2, a1, a2, a3⟩ := C_expect_d (k := 5) (by omega) (by omega) σ v p hT hD
  obtain ⟨σ4, e4⟩ : ∃ σ4, σ4 = si σ2 17 k (σ2.1 15 5) := ⟨_, rfl⟩
  have hbg : f_X8_beginLaw σ2 15 (nI k) = some σ4 := by
    unfold f_X8_beginLaw
    rw [if_neg nk1, if_neg nk2, if_ib (ib_t (by omega) (by omega)), nI_clamp (by omega), wlet_eq, ← e4]
  have W4 : rfW k σ σ4 := rfW_trans (rfW_E a2) (by rw [e4]; exact rfW_17 _ _ _)
  have T4 := zTk_W W4 hT
  have D4 : zDd0 σ4 P v p := zDd0_E (by rw [e4, si_ne (by omega)]) a3
  have i1 := C_isNext_d T4 D4 (k := 20) (by omega) (by omega)
  have hst : rdC (σ4, 0) = some (.inr σ4) := by
    unfold rdC un2
    dsimp only
    rw [if_neg (by decide), show (20 : Int32) = nI 20 from rfl, bind_eq i1, if_pos rfl]
  have hl : lp rdC fuel (σ4, 0) = some σ4 := by rw [fuel_eq]; exact lp_out hst
  obtain ⟨σm, σ', d3, d4, d5, d6⟩ := rdE2_d hV hT.2.2 T4 D4
  refine ⟨σm, σ', ?_, d4, rfW_trans W4 (rfW_E d5), d6⟩
  have eC : f_X4_readLaw σ (nI k) = rdE σ4 := by
    unfold f_X4_readLaw
    rw [show (5 : Int32) = nI 5 from rfl, bind_eq a1, bind_eq hbg, wlet_eq]
    exact bind_eq hl
  rw [eC]
  unfold rdE
  rw [show (20 : Int32) = nI 20 from rfl, bind_eq i1, wlet_eq, if_pos rfl]
  exact d3
theorem M_law_d {P : Nat → Nat} {τ : St} {v p s b c0 k : Nat} (hs : s ≤ 1) (hD : zDm P τ v p) (h29 : τ.1 0 29 = nI b) (hb : b < 130 * s + 130) (hk : k < 4) : ∃ τ', f_X11_tellLaw τ (nI k) = some τ' ∧ rfV (4 * s + k) s b c0 τ τ' ∧ zDm P τ' v p := by
  have hst : rdM (τ, 0) = some (.inr (.inl τ)) := by
    unfold rdM un2
    dsimp only
    rw [if_neg (zDm_ne hD)]
  have hl : lp rdM fuel (τ, 0) = some (.inl τ) := by rw [fuel_eq]; exact lp_out hst
  have bb : ib (nI b) 260 = true := ib_t (by omega) (by omega)
  have gb : (nI b).toNatClampNeg = b := nI_clamp (by omega)
  have D6 : zDm P (si τ 16 b (vp_nar .boolean (0 : Int32))) v p := zDm_ne0 hD (by omega)
  obtain ⟨τ7, g1, g2, g3, g4⟩ := M_term_d (w := s) (c0 := c0) D6 (by rw [si_ne (by omega)]; exact h29) hb hs
  refine ⟨τ7, ?_, rfV_L (zfL_trans (zfL_br _ _ _ _ (by omega) (by omega)) g2), g4⟩
  have eM : f_X11_tellLaw τ (nI k) = rdF (nI k) (nI b) τ := by
    unfold f_X11_tellLaw
    rw [bind_eq (M_must_d hD _), h29, wlet_eq, wlet_eq]
    exact bind_eq hl
  rw [eM]
  unfold rdF
  rw [h29, if_ib bb, gb, wlet_eq, bind_eq g1, bind_eq (M_must_d g4 _), if_neg (zDm_pos g4)]
theorem J_lawX {σ τ : St} {K P V N : Nat → Nat} {s t L cd b k : Nat} {T : Tx} (hs : s ≤ 1) (hV : rdV K V N) (hT : zTk σ K P V) (hM : zTm τ K P V N) (hX : rdX K P V N s σ τ t T L cd b) (hk0 : K t ≠ 0) (hk : k < 4) : ∃ σ1 σm σ' τ1 τ', f_X4_take σ = some σ1 ∧ f_X4_readLaw σ1 (nI k) = some σm ∧ f_X4_expect σm (nI 4) = some σ' ∧ f_X11_goesOn τ = some τ1 ∧ f_X11_tellLaw τ1 (nI k) = some τ' ∧ rhC σ σ' ∧ rhM s τ τ' ∧ ((∃ t' T1 L' cd' b', t < t' ∧ rdX K P V N s σ' τ' t' T1 L' cd' b') ∨ ∃ v p, zDd0 σ' P v p ∧ zDm P τ' v p) := by
  obtain ⟨⟨hA0, hA⟩, ⟨hTC, hTS, h7, hok⟩, ⟨hL, h12, h35, h29, h19, h20⟩, hN, hG, hl1, hl2, hl3, hl4, hl5⟩ := hX
  have t4 := hA.1
  obtain ⟨σ1, τ1, a1, a2, a3, a4, a5, a6, a7⟩ := J_takeg (P := P) hM hA0 hA hk0
  have T1 := zTk_C a3 hT
  have M1 := zTm_M (zfM_T (B := 0) (E := 0) a4) hM
  have u : ∀ i, i ≠ 11 → i ≠ 13 → i ≠ 14 → τ1.1 0 i = τ.1 0 i := a4.2.1
  rcases a7 with ⟨A1, B1⟩ | ⟨v, p, d1, d2⟩
  case inr =>
    obtain ⟨σm, σ', c1, c2, c3, c4⟩ := C_law_d hV.1 T1 d1 hk
    obtain ⟨τ', e1, e2, e3⟩ := M_law_d (c0 := cd) hs d2 (by rw [u 29 (by omega) (by omega) (by omega)]; exact h29) (by omega) hk
    exact ⟨σ1, σm, σ', τ1, τ', a1, c1, c2, a2, e1, rhC_trans (rhC_g a3) (rhC_W c3), rhM_trans (rhM_g (rgM_T a4)) (rhM_V hl4 hl2 hk e2), Or.inr ⟨v, p, c4, e3⟩⟩
  have L1 : σ1.1 15 5 = nI L := by rw [a3.1 15 (by omega)]; exact hL
  obtain ⟨σm, σ', τ', c1, c2, c3, c4, c5, c6⟩ := J_law hV.1 T1 M1 A1 L1 B1 (by rw [u 12 (by omega) (by omega) (by omega)]; exact h12) (by rw [u 35 (by omega) (by omega) (by omega)]; exact h35) (by rw [u 29 (by omega) (by omega) (by omega)]; exact h29) (by rw [u 19 (by omega) (by omega) (by omega)]; exact h19) hs hk (by omega) (by omega) (by omega)
  refine ⟨σ1, σm, σ', τ1, τ', a1, c1, c2, a2, c3, rhC_trans (rhC_g a3) (rhC_W c4), rhM_trans (rhM_g (rgM_T a4)) (rhM_V hl4 hl2 hk c5), ?_⟩
  rcases c6 with ⟨t', r, e, L', cd', B, e1, e2, e3, e4, e5, e6, e7, e8, e9, e10, e11, e12, e13, e14, e15, e16, e17, e18, e19, e20⟩ | d
  case inr => exact Or.inr d
  have t4' := e10.1
  have v0 : ∀ i, i ≠ 11 → i ≠ 12 → i ≠ 13 → i ≠ 14 → i ≠ 29 → i ≠ 35 → i ≠ 39 → τ'.1 0 i = τ.1 0 i := fun i h1 h2 h3 h4 h5 h6 h7 => (c5.2.1 i h1 h2 h3 h4 h5 h6 h7).trans (u i h1 h3 h4)
  have vc : ∀ c, c ≠ 0 → c < 14 → τ'.1 c = τ.1 c := fun c h1 h2 => (c5.1 c h1 (by omega) (by omega) (by omega)).trans (a4.1 c h1)
  have w15 : ∀ i, i ≠ 5 → σ'.1 15 i = σ.1 15 i := fun i hi => by rw [c4.2.2.1 i hi, a3.1 15 (by omega)]
  refine Or.inl ⟨t', txL T k r e, L', cd', B, by omega, ⟨e3, e10⟩, ⟨?_, ?_, h7, txL_ok e2 hok⟩, ⟨e4, e11, e12, e15, by rw [v0 19 (by omega) (by omega) (by omega) (by omega) (by omega) (by omega) (by omega)]; exact h19, by rw [v0 20 (by omega) (by omega) (by omega) (by omega) (by omega) (by omega) (by omega)]; exact h20⟩, ?_, ?_, by omega, by omega, by omega, by omega, by omega⟩
  · obtain ⟨b1, b2, b3, b4, L0, b5, b6, b7⟩ := hTC
    have hLL : L0 = L := (nI_eqN (by omega) (by omega)).mp (b6.symm.trans hL)
    subst hLL
    refine ⟨by rw [w15 6 (by omega)]; exact b1, fun c hc => ?_, by rw [w15 7 (by omega)]; exact b3, by rw [w15 8 (by omega)]; exact b4, L', by omega, e4, fun j hj => ?_⟩
    · rw [c4.1 (15 + 3) (by omega) (by omega) (by omega) (by omega), c4.1 (15 + 4) (by omega) (by omega) (by omega) (by omega), a3.1 (15 + 3) (by omega), a3.1 (15 + 4) (by omega)]
      exact b2 c hc
    · rcases txL_r (T := T) (k := k) (j := j) (r := r) (e := e) with ⟨rfl, y1, y2⟩ | ⟨y0, y1, y2⟩
      · rw [y1, y2]
        exact ⟨L0, L', Nat.le_refl _, e8, e9⟩
      · rw [y1, y2]
        obtain ⟨p, q, p1, p2, p3⟩ := b7 j hj
        refine ⟨p, q, by omega, ?_, rdCc (L := L0) (fun i hi => ?_) p1 p3⟩
        · rw [show (15 + 2 : Nat) = 17 from rfl, c4.2.2.2.2 j y0, a3.1 17 (by omega)]; exact p2
        · rw [show (15 + 1 : Nat) = 16 from rfl, e7 i hi, a3.1 16 (by omega)]
  · obtain ⟨b1, b2, b3, b4, b5⟩ := hTS
    refine ⟨by rw [vc 9 (by omega) (by omega)]; exact b1, by rw [vc 10 (by omega) (by omega), vc 11 (by omega) (by omega)]; exact b2, by rw [vc 12 (by omega) (by omega)]; exact b3, by rw [vc 13 (by omega) (by omega)]; exact b4, fun j hj => ?_⟩
    rcases txL_r (T := T) (k := k) (j := j) (r := r) (e := e) with ⟨rfl, y1, y2⟩ | ⟨y0, y1, y2⟩
    · rw [y1, y2]
      exact Or.inr ⟨b, B, hl4, Nat.le_refl _, e19, e20, rdMm hl2 (Nat.le_refl _) e18⟩
    · rw [y1, y2, (c5.2.2.2.2.2 (4 * s + j) (by omega)).1, (c5.2.2.2.2.2 (4 * s + j) (by omega)).2, a4.1 14 (by omega), a4.1 15 (by omega)]
      rcases b5 j hj with c | ⟨b', B', x1, x2, x3, x4, x5⟩
      · exact Or.inl c
      · refine Or.inr ⟨b', B', x1, by omega, x3, x4, rdMm (Nat.le_refl _) e13 (MLaw_congr (lo := 0) (hi := b) (fun c i h1 h2 _ h4 => ?_) (fun c i h1 h2 _ h4 => ?_) (Nat.zero_le _) x2 x5)⟩
        · rw [c5.2.2.2.1 c i h1 h2 (by omega), a4.1 c (by omega)]
        · rw [c5.2.2.2.2.1 c i h1 h2 (by omega), a4.1 c (by omega)]
  · show rdN K V N σ' τ' t' (tn T)
    intro i hi
    obtain ⟨j, m1, m2, m3, m4⟩ := hN i hi
    refine ⟨j, by omega, m2, ?_, ?_⟩
    · rw [c4.2.1, a3.2.1]; exact m3
    · rw [c5.2.2.1, a4.2.2]; exact m4
  · refine rdT_mono (fun h => ⟨h.1, h.2.1, h.2.2.1, h.2.2.2.1, txL_ok e2 h.2.2.2.2⟩) (by omega) (t := t) ?_ ?_ ?_ ?_ hG
    · rw [c4.2.2.2.1 5 (by omega) (by omega) (by omega), a5]
    · rw [c4.2.2.2.1 6 (by omega) (by omega) (by omega), a6]
    · rw [v0 15 (by omega) (by omega) (by omega) (by omega) (by omega) (by omega) (by omega)]
    · rw [v0 16 (by omega) (by omega) (by omega) (by omega) (by omega) (by omega) (by omega)]
