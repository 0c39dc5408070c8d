/-! STAGE B, 48: the reference's loop over an expression -/
def zE (K V : Nat → Nat) (σ0 : St) (t0 B E : Nat) (Q : zR) (md : Bool) (lo : Nat) (σ : St) : Prop := ∃ w t c, lo ≤ t ∧ t0 ≤ t ∧ zAm K σ t ∧ zXw σ0 σ B E (t - t0) w c ∧ ∃ f, zXm K V f md w t c = Q
def zF (P : Nat → Nat) (σ0 : St) (B E : Nat) (Q : zR) (σ : St) : Prop := zfM B E σ0 σ ∧ ∃ v p, zDm P σ v p ∧ Q = .inl (v, p)
def zG (P : Nat → Nat) (σ0 : St) (B E : Nat) (Q : zR) (σ : St) : Prop := ∃ v p m w c, zDm P σ v p ∧ Q = .inl (v, p) ∧ zXw σ0 σ B E m w c ∧ B + m ≤ E
theorem zG_F {P : Nat → Nat} {σ0 σ : St} {B E : Nat} {Q : zR} (h : zG P σ0 B E Q σ) : zF P σ0 B E Q σ := by
  obtain ⟨v, p, m, w, c, h1, h2, h3, h4⟩ := h
  exact ⟨h3.1, v, p, h1, h2⟩
theorem zDm_0 {P : Nat → Nat} {σ : St} {v p i : Nat} {x : Int32} (hD : zDm P σ v p) (h : i ≠ 13 ∧ i ≠ 14) : zDm P (si σ 0 i x) v p := ⟨hD.1, by rw [si_get, if_neg (by omega)]; exact hD.2.1, by rw [si_get, if_neg (by omega)]; exact hD.2.2⟩
theorem zDm_23 {P : Nat → Nat} {σ : St} {v p i : Nat} {x : Int32} (hD : zDm P σ v p) : zDm P (si σ 23 i x) v p := ⟨hD.1, by rw [si_ne (by omega)]; exact hD.2.1, by rw [si_ne (by omega)]; exact hD.2.2⟩
theorem zAm_0 {K : Nat → Nat} {σ : St} {t i : Nat} {x : Int32} (hA : zAm K σ t) (h : i ≠ 11 ∧ i ≠ 13) : zAm K (si σ 0 i x) t := ⟨hA.1, by rw [si_get, if_neg (by omega)]; exact hA.2.1, by rw [si_get, if_neg (by omega)]; exact hA.2.2.1, hA.2.2.2⟩
theorem zAm_23 {K : Nat → Nat} {σ : St} {t i : Nat} {x : Int32} (hA : zAm K σ t) : zAm K (si σ 23 i x) t := ⟨hA.1, by rw [si_ne (by omega)]; exact hA.2.1, by rw [si_ne (by omega)]; exact hA.2.2.1, hA.2.2.2⟩
def zXi1 : St → Option ((St) ⊕ (St)) :=
  fun (σ23_6 : St) => Option.bind (f_X11_is σ23_6 (6 : Int32)) fun v59 => if v59 = 0 then (some (.inr σ23_6)) else (wlet (fun (σ_46_61 : St) => (wlet (si σ_46_61 0 12 ((σ_46_61.1 0 12) + (1 : Int32))) fun σ62 => Option.bind (f_X11_goesOn σ62) fun σ64 => if ib (σ64.1 0 39) 64 = true then wlet (si σ64 23 (Int32.toNatClampNeg (σ64.1 0 39)) (6 : Int32)) fun σ66 => wlet (si σ66 0 39 ((σ66.1 0 39) + (1 : Int32))) fun σ67 => some (.inl σ67) else none : Option ((St) ⊕ (St)))) fun k46_61 => if (σ23_6.1 0 12) = (6 : Int32) then (Option.bind (f_X11_fail σ23_6 (2 : Int32)) fun σ70 => k46_61 σ70) else (k46_61 σ23_6))
def zXi2 (v2 : Int32) : St → Option ((St) ⊕ (St)) :=
  fun (σ96_10 : St) => Option.bind (f_X11_is σ96_10 (7 : Int32)) fun v49 => if v49 = 0 then (some (.inr σ96_10)) else (if (σ96_10.1 0 12) ≤ v2 then (some (.inr σ96_10)) else (Option.bind (f_X11_comesOut σ96_10 (0 : Int32)) fun σ53 => wlet (si σ53 0 39 ((σ53.1 0 39) - (1 : Int32))) fun σ54 => wlet (si σ54 0 12 ((σ54.1 0 12) - (1 : Int32))) fun σ55 => Option.bind (f_X11_goesOn σ55) fun σ57 => some (.inl σ57)))
def zXo (v2 : Int32) : St × Int32 → Option ((St × Int32) ⊕ ((St) ⊕ (St))) :=
  un2 (fun (σ12_3 : St) (x2_12_3 : Int32) => if x2_12_3 = 0 then (some (.inr (.inl σ12_3))) else (if (σ12_3.1 0 13) = 0 then (wlet (fun (σ23_6 : St) => Option.bind (f_X11_is σ23_6 (6 : Int32)) fun v59 => if v59 = 0 then (some (.inr σ23_6)) else (wlet (fun (σ_46_61 : St) => (wlet (si σ_46_61 0 12 ((σ_46_61.1 0 12) + (1 : Int32))) fun σ62 => Option.bind (f_X11_goesOn σ62) fun σ64 => if ib (σ64.1 0 39) 64 = true then wlet (si σ64 23 (Int32.toNatClampNeg (σ64.1 0 39)) (6 : Int32)) fun σ66 => wlet (si σ66 0 39 ((σ66.1 0 39) + (1 : Int32))) fun σ67 => some (.inl σ67) else none : Option ((St) ⊕ (St)))) fun k46_61 => if (σ23_6.1 0 12) = (6 : Int32) then (Option.bind (f_X11_fail σ23_6 (2 : Int32)) fun σ70 => k46_61 σ70) else (k46_61 σ23_6)) : St → Option ((St) ⊕ (St))) fun st23_6 => Option.bind (lp st23_6 fuel σ12_3) ((fun (σe23_6 : St) => Option.bind (f_X11_unit σe23_6) fun σ8 => if (σ8.1 0 13) ≤ 0 then (wlet (fun (σ96_10 : St) => Option.bind (f_X11_is σ96_10 (7 : Int32)) fun v49 => if v49 = 0 then (some (.inr σ96_10)) else (if (σ96_10.1 0 12) ≤ v2 then (some (.inr σ96_10)) else (Option.bind (f_X11_comesOut σ96_10 (0 : Int32)) fun σ53 => wlet (si σ53 0 39 ((σ53.1 0 39) - (1 : Int32))) fun σ54 => wlet (si σ54 0 12 ((σ54.1 0 12) - (1 : Int32))) fun σ55 => Option.bind (f_X11_goesOn σ55) fun σ57 => some (.inl σ57))) : St → Option ((St) ⊕ (St))) fun st96_10 => Option.bind (lp st96_10 fuel σ8) ((fun (σe96_10 : St) => Option.bind (f_X11_is σe96_10 (8 : Int32)) fun v12 => wlet (fun (s0_186_13 : Int32) => (if s0_186_13 = 0 then (wlet (fun (σ_204_31 : St) => (Option.bind (f_X11_comesOut σ_204_31 (0 : Int32)) fun σ33 => some (.inr (.inr σ33)) : Option ((St × Int32) ⊕ ((St) ⊕ (St))))) fun k204_31 => if (σe96_10.1 0 12) ≤ v2 then (k204_31 σe96_10) else (Option.bind (f_X11_fail σe96_10 (1 : Int32)) fun σ36 => k204_31 σ36)) else (Option.bind (f_X11_is σe96_10 (10 : Int32)) fun v16 => wlet (fun (s1_234_17 : Int32) => (Option.bind (f_X11_comesOut σe96_10 s1_234_17) fun σ19 => if ib (σ19.1 0 11) 403 = true then if ib (σ19.1 0 39) 64 = true then wlet (si σ19 23 (Int32.toNatClampNeg (σ19.1 0 39)) (σ19.1 3 (Int32.toNatClampNeg (σ19.1 0 11)))) fun σ22 => wlet (si σ22 0 39 ((σ22.1 0 39) + (1 : Int32))) fun σ23 => Option.bind (f_X11_goesOn σ23) fun σ25 => some (.inl (σ25, s0_186_13)) else none else none : Option ((St × Int32) ⊕ ((St) ⊕ (St))))) fun k234_17 => wlet (fun (_ : Unit) => (k234_17 (1 : Int32) : Option ((St × Int32) ⊕ ((St) ⊕ (St))))) fun k229_26 => if v16 = 0 then (Option.bind (f_X11_is σe96_10 (15 : Int32)) fun v29 => if v29 = 0 then (k234_17 (0 : Int32)) else (k229_26 ())) else (k229_26 ())) : Option ((St × Int32) ⊕ ((St) ⊕ (St))))) fun k186_13 => wlet (fun (_ : Unit) => (k186_13 (1 : Int32) : Option ((St × Int32) ⊕ ((St) ⊕ (St))))) fun k181_37 => if v12 = 0 then (Option.bind (f_X11_is σe96_10 (9 : Int32)) fun v40 => if v40 = 0 then (Option.bind (f_X11_is σe96_10 (10 : Int32)) fun v43 => if v43 = 0 then (Option.bind (f_X11_is σe96_10 (15 : Int32)) fun v46 => if v46 = 0 then (k186_13 (0 : Int32)) else (k181_37 ())) else (k181_37 ())) else (k181_37 ())) else (k181_37 ())))) else (some (.inr (.inr σ8)))))) else (some (.inr (.inl σ12_3)))))
theorem zXw_open {σ0 σ σ2 : St} {B E m : Nat} {w : List Nat} {c : List (Nat × Nat)} (hX : zXw σ0 σ B E m w c) (hb : zbr w < 6) (h : zfT (si σ 0 12 (nI (zbr w + 1))) σ2) : zXw σ0 (si (si σ2 23 w.length 6) 0 39 (nI (w.length + 1))) B E m (11 :: w) c := by
  obtain ⟨a1, a2, a3, a4, a5, a6, a7, a8, a9⟩ := hX
  have hb1 : zbr (11 :: w) = zbr w + 1 := by rw [zbr, if_pos rfl, Nat.add_comm]
  refine ⟨zfM_trans a1 (zfM_trans (zfM_0 _ _ _ (Or.inl rfl)) (zfM_trans (zfM_T h) (zfM_trans (zfM_23 _ _ _) (zfM_0 _ _ _ (by omega))))), ?_, ?_, ⟨?_, ?_⟩, ?_, ?_, ⟨Or.inl rfl, a7⟩, by omega, ?_⟩
  · rw [si_get, if_neg (by omega), si_ne (by omega), h.2.1 12 (by omega) (by omega) (by omega), si_get, if_pos ⟨rfl, rfl⟩, hb1]
  · rw [si_get, if_pos ⟨rfl, rfl⟩]; rfl
  · rw [si_ne (by omega), si_get, if_pos ⟨rfl, rfl⟩]; rfl
  · refine zWt_congr (fun i hi => ?_) a4
    rw [si_ne (by omega), si_get, if_neg (by omega), h.1 23 (by omega), si_ne (by omega)]
  · rw [si_get, if_neg (by omega), si_ne (by omega), h.2.1 35 (by omega) (by omega) (by omega), si_get, if_neg (by omega)]; exact a5
  · rw [si_ne (by omega), si_ne (by omega), si_ne (by omega), si_ne (by omega), h.1 21 (by omega), h.1 22 (by omega), si_ne (by omega), si_ne (by omega)]; exact a6
  · rw [zno, if_pos rfl, Nat.zero_add]; exact a9
theorem zXm_0 {K V : Nat → Nat} {md : Bool} {w : List Nat} {t f : Nat} {c : List (Nat × Nat)} {Q : zR} (hQ : Q ≠ .inl (0, 0)) (h : zXm K V f md w t c = Q) : ∃ g, f = g + 1 := by
  cases f with
  | zero => exact absurd h.symm hQ
  | succ f => exact ⟨f, rfl⟩
/-- brackets open -/
theorem M_open {K P V N : Nat → Nat} {σ0 σ : St} {t0 B E lo : Nat} {Q : zR} (hQ : Q ≠ .inl (0, 0)) (hT : zTm σ0 K P V N) (hE : zE K V σ0 t0 B E Q true lo σ) : ∃ σ', lp zXi1 fuel σ = some σ' ∧ ((∃ w t c, lo ≤ t ∧ t0 ≤ t ∧ zAm K σ' t ∧ zXw σ0 σ' B E (t - t0) w c ∧ (∃ f, zXm K V f true w t c = Q) ∧ K t ≠ 11) ∨ zF P σ0 B E Q σ') := by
  refine zinv (st := zXi1) (s0 := σ) (fun i s => zE K V σ0 t0 B E Q true (max lo i) s ∨ zF P σ0 B E Q s) (fun r => (∃ w t c, lo ≤ t ∧ t0 ≤ t ∧ zAm K r t ∧ zXw σ0 r B E (t - t0) w c ∧ (∃ f, zXm K V f true w t c = Q) ∧ K t ≠ 11) ∨ zF P σ0 B E Q r) 401 (by omega) (Or.inl (by rw [Nat.max_eq_left (Nat.zero_le _)]; exact hE)) ?_ ?_
  · rintro i s hi (⟨w, t, c, h1, h2, hA, hX, f, hf⟩ | ⟨hM, v, p, hD, hq⟩)
    · have T1 := zTm_M hX.1 hT
      have his : f_X11_is s (6 : Int32) = some (if K t = 11 then 1 else 0) := M_is T1 hA (k := 11) (by omega)
      by_cases q : K t = 11
      · obtain ⟨g, rfl⟩ := zXm_0 hQ hf
        rw [zXm_A, if_neg (by omega), if_neg (by omega), if_pos q] at hf
        have hlen := zok_20 hX.2.2.2.2.2.2.1 hX.2.2.2.2.2.2.2.1
        have a12 : s.1 0 12 = nI (zbr w) := hX.2.1
        have a39 : s.1 0 39 = nI w.length := hX.2.2.1
        have b39 : ib (nI w.length) 64 = true := ib_t (by omega) (by omega)
        have g39 : (nI w.length).toNatClampNeg = w.length := nI_clamp (by omega)
        have h6 := hX.2.2.2.2.2.2.2.1
        by_cases q6 : zbr w = 6
        · rw [if_pos q6] at hf
          obtain ⟨s1, c1, c2, c3, c4⟩ := M_fail T1 hA (v := 2) (Or.inr rfl)
          obtain ⟨s2, d1, d2, d3⟩ := M_goesOn_d (zDm_0 (i := 12) (x := s1.1 0 12 + 1) c4 (by omega))
          have e39 : s2.1 0 39 = nI w.length := by
            rw [d2.2.1 39 (by omega) (by omega) (by omega), si_get, if_neg (by omega), c2.2.1 39 (by omega) (by omega) (by omega)]; exact a39
          refine Or.inl ⟨si (si s2 23 w.length 6) 0 39 (nI w.length + 1), ?_, Or.inr ⟨zfM_trans hX.1 (zfM_trans (zfM_T c2) (zfM_trans (zfM_0 _ _ _ (Or.inl rfl)) (zfM_trans (zfM_T d2) (zfM_trans (zfM_23 _ _ _) (zfM_0 _ _ _ (by omega)))))), 2, t, zDm_0 (zDm_23 d3) (by omega), hf.symm⟩⟩
          unfold zXi1
          rw [bind_eq his, if_pos q, if_neg n10, wlet_eq, a12, if_pos (by rw [q6]; rfl)]
          rw [show (2 : Int32) = nI 2 from rfl, bind_eq c1]
          dsimp only
          rw [wlet_eq, bind_eq d1, e39, if_ib b39, g39, wlet_eq, wlet_eq, si_ne (show 0 ≠ 23 by omega), e39]
        · rw [if_neg q6] at hf
          have n6 : ¬ nI (zbr w) = (6 : Int32) := fun z => q6 ((nI_eqN (b := 6) (by omega) (by omega)).mp z)
          obtain ⟨s2, d1, d2, d3⟩ := M_goesOn (zTm_M (zfM_0 (B := B) (E := E) s 12 (nI (zbr w + 1)) (by omega)) T1) (zAm_0 (i := 12) (x := nI (zbr w + 1)) hA (by omega)) (by omega)
          have e39 : s2.1 0 39 = nI w.length := by
            rw [d2.2.1 39 (by omega) (by omega) (by omega), si_get, if_neg (by omega)]; exact a39
          have step : zXi1 s = some (.inl (si (si s2 23 w.length 6) 0 39 (nI (w.length + 1)))) := by
            unfold zXi1
            rw [bind_eq his, if_pos q, if_neg n10, wlet_eq, a12, if_neg n6]
            dsimp only
            rw [wlet_eq, a12, ← nI_succ, bind_eq d1, e39, if_ib b39, g39, wlet_eq, wlet_eq, si_ne (show 0 ≠ 23 by omega), e39, ← nI_succ]
          rcases d3 with ⟨e, d3⟩ | ⟨e, d3⟩
          · refine Or.inl ⟨_, step, Or.inr ⟨zfM_trans hX.1 (zfM_trans (zfM_0 _ _ _ (Or.inl rfl)) (zfM_trans (zfM_T d2) (zfM_trans (zfM_23 _ _ _) (zfM_0 _ _ _ (by omega))))), 2, 400, zDm_0 (zDm_23 d3) (by omega), ?_⟩⟩
            rw [← hf, e]; rfl
          · rw [zeat_ne _ e, zbd_r] at hf
            exact Or.inl ⟨_, step, Or.inl ⟨11 :: w, t + 1, c, by omega, by omega, zAm_0 (zAm_23 d3) (by omega), zXw_m (zXw_open hX (by omega) d2) (by omega), g, hf⟩⟩
      · refine Or.inr ⟨s, ?_, Or.inl ⟨w, t, c, by omega, h2, hA, hX, ⟨f, hf⟩, q⟩⟩
        unfold zXi1
        rw [bind_eq his, if_neg q, if_pos rfl]
    · refine Or.inr ⟨s, ?_, Or.inr ⟨hM, v, p, hD, hq⟩⟩
      unfold zXi1
      rw [bind_eq (M_is_d hD _), if_pos rfl]
  · rintro s (⟨w, t, c, h1, h2, hA, hX, f, hf⟩ | ⟨hM, v, p, hD, hq⟩)
    · have := hA.1; omega
    · refine ⟨s, ?_, Or.inr ⟨hM, v, p, hD, hq⟩⟩
      unfold zXi1
      rw [bind_eq (M_is_d hD _), if_pos rfl]
theorem zrk30 : ∀ k, k < 32 → ((zrk k < 30) ↔ k < 23) ∧ zrk k ≤ 38 ∧ (23 ≤ k → zrk k - 30 = k - 23) := by decide
/-- the unit -/
theorem M_unit {K P V N : Nat → Nat} {σ0 σ : St} {t0 B E lo t : Nat} {w : List Nat} {c : List (Nat × Nat)} {Q : zR} (hQ : Q ≠ .inl (0, 0)) (hT : zTm σ0 K P V N) (hB : B + (401 - t0) ≤ E) (hE : E ≤ 840) (hlo : lo ≤ t) (ht0 : t0 ≤ t) (hA : zAm K σ t) (hX : zXw σ0 σ B E (t - t0) w c) (hf : ∃ f, zXm K V f true w t c = Q) (h11 : K t ≠ 11) : ∃ σ', f_X11_unit σ = some σ' ∧ (zE K V σ0 t0 B E Q false (lo + 1) σ' ∨ zF P σ0 B E Q σ') := by
  obtain ⟨f, hf⟩ := hf
  obtain ⟨g, rfl⟩ := zXm_0 hQ hf
  have T1 := zTm_M hX.1 hT
  have ht := hA.1
  have hk := T1.2 t
  have a11 : σ.1 0 11 = nI t := hA.2.1
  have b11 : ib (nI t) 403 = true := ib_t (by omega) (by omega)
  have g11 : (nI t).toNatClampNeg = t := nI_clamp (by omega)
  have htk := T1.1 t ht hA.2.2.2
  have his : f_X11_is σ (2 : Int32) = some (if K t = 3 then 1 else 0) := M_is T1 hA (k := 3) (by omega)
  have h9 := hX.2.2.2.2.2.2.2.2
  have hem : ∀ o v, K t ≠ 0 → (zbd (zeat t []) (fun t1 _ => zXm K V g false w t1 (c ++ [(o, v)])) = Q) → ∃ σ', (Option.bind (f_X11_emit σ (nI o) (nI v)) fun σ14 => Option.bind (f_X11_goesOn σ14) fun σ16 => some σ16) = some σ' ∧ (zE K V σ0 t0 B E Q false (lo + 1) σ' ∨ zF P σ0 B E Q σ') := by
    intro o v hk0 hf
    obtain ⟨s1, c1, c2, c3⟩ := M_emit (m' := t + 1 - t0) hX (by omega) (by omega) hE o v
    obtain ⟨s2, d1, d2, d3⟩ := M_goesOn (zTm_M c2.1 hT) (zAm_k c3 hA) hk0
    have X2 := zXw_T d2 c2
    refine ⟨s2, by rw [bind_eq c1, bind_eq d1], ?_⟩
    rcases d3 with ⟨e, d3⟩ | ⟨e, d3⟩
    · refine Or.inr ⟨X2.1, 2, 400, d3, ?_⟩
      rw [← hf, e]; rfl
    · rw [zeat_ne _ e, zbd_r] at hf
      exact Or.inl ⟨w, t + 1, _, by omega, by omega, d3, X2, g, hf⟩
  rw [zXm_A] at hf
  unfold f_X11_unit
  rw [bind_eq his]
  by_cases q3 : K t = 3
  · rw [if_pos q3] at hf
    rw [if_pos q3, if_neg n10, a11, if_ib b11, g11, htk.2.2.1 q3]
    exact hem 0 (V t) (by omega) hf
  rw [if_neg q3] at hf
  rw [if_neg q3, if_pos rfl, wlet_eq, if_pos hA.2.2.1, a11, if_ib b11, g11, htk.1]
  obtain ⟨k1, k2, k3⟩ := zrk30 (K t) (by omega)
  by_cases q23 : 23 ≤ K t
  · have n1 : ¬ nI (zrk (K t)) < (30 : Int32) := fun z => by have := (nI_ltN (b := 30) (by omega) (by omega)).mp z; omega
    have n2 : ¬ (38 : Int32) < nI (zrk (K t)) := fun z => by have := (nI_ltN (a := 38) (by omega) (by omega)).mp z; omega
    have e1 : nI (zrk (K t)) - (30 : Int32) = nI (K t - 23) := by rw [← k3 q23]; exact nI_sub (b := 30) (by omega)
    rw [if_pos q23] at hf
    rw [if_neg n1, if_ib b11, if_neg n2, if_ib b11, e1]
    exact hem 1 (K t - 23) (by omega) hf
  · have n1 : nI (zrk (K t)) < (30 : Int32) := (nI_ltN (b := 30) (by omega) (by omega)).mpr (by omega)
    rw [if_neg q23, if_neg h11] at hf
    rw [if_pos n1]
    obtain ⟨s1, c1, c2, c3, c4⟩ := M_fail T1 hA (v := 1) (Or.inl rfl)
    exact ⟨s1, by rw [show (1 : Int32) = nI 1 from rfl, bind_eq c1], Or.inr ⟨zfM_trans hX.1 (zfM_T c2), 1, t, c4, hf.symm⟩⟩
theorem M_unit_d {P : Nat → Nat} {σ : St} {v p : Nat} (hD : zDm P σ v p) : f_X11_unit σ = some σ := by
  unfold f_X11_unit
  rw [bind_eq (M_is_d hD _), if_pos rfl, wlet_eq, if_neg (zDm_ne hD), bind_eq (M_fail_d hD _)]
/-- a bracket goes -/
theorem zXw_close {σ0 σ : St} {B E m : Nat} {w : List Nat} {c : List (Nat × Nat)} (hX : zXw σ0 σ B E m (11 :: w) c) : zXw σ0 (si (si σ 0 39 (nI w.length)) 0 12 (nI (zbr w))) B E m w c := by
  obtain ⟨a1, a2, a3, a4, a5, a6, a7, a8, a9⟩ := hX
  rw [zbr, if_pos rfl] at a2 a8
  rw [zno, if_pos rfl, Nat.zero_add] at a9
  refine ⟨zfM_trans a1 (zfM_trans (zfM_0 _ _ _ (Or.inr (Or.inr rfl))) (zfM_0 _ _ _ (Or.inl rfl))), ?_, ?_, ?_, ?_, ?_, a7.2, by omega, a9⟩
  · rw [si_get, if_pos ⟨rfl, rfl⟩]
  · rw [si_get, if_neg (by omega), si_get, if_pos ⟨rfl, rfl⟩]
  · rw [si_ne (by omega), si_ne (by omega)]; exact a4.2
  · rw [si_get, if_neg (by omega), si_get, if_neg (by omega)]; exact a5
  · rw [si_ne (by omega), si_ne (by omega), si_ne (by omega), si_ne (by omega)]; exact a6
/-- brackets close -/
theorem M_close {K P V N : Nat → Nat} {σ0 σ : St} {t0 B E lo : Nat} {Q : zR} (hQ : Q ≠ .inl (0, 0)) (hT : zTm σ0 K P V N) (hB : B + (401 - t0) ≤ E) (hE8 : E ≤ 840) (hE : zE K V σ0 t0 B E Q false lo σ) : ∃ σ', lp (zXi2 0) fuel σ = some σ' ∧ ((∃ w t c, lo ≤ t ∧ t0 ≤ t ∧ zAm K σ' t ∧ zXw σ0 σ' B E (t - t0) w c ∧ (∃ f, zXm K V f false w t c = Q) ∧ ¬ (K t = 12 ∧ 0 < zbr w)) ∨ zG P σ0 B E Q σ') := by
  refine zinv (st := zXi2 0) (s0 := σ) (fun i s => zE K V σ0 t0 B E Q false (max lo i) s ∨ zG P σ0 B E Q s) (fun r => (∃ w t c, lo ≤ t ∧ t0 ≤ t ∧ zAm K r t ∧ zXw σ0 r B E (t - t0) w c ∧ (∃ f, zXm K V f false w t c = Q) ∧ ¬ (K t = 12 ∧ 0 < zbr w)) ∨ zG P σ0 B E Q r) 401 (by omega) (Or.inl (by rw [Nat.max_eq_left (Nat.zero_le _)]; exact hE)) ?_ ?_
  · rintro i s hi (⟨w, t, c, h1, h2, hA, hX, f, hf⟩ | ⟨v, p, m, w, c, hD, hq, hX, hm⟩)
    · have T1 := zTm_M hX.1 hT
      have ht := hA.1
      have his : f_X11_is s (7 : Int32) = some (if K t = 12 then 1 else 0) := M_is T1 hA (k := 12) (by omega)
      have a12 : s.1 0 12 = nI (zbr w) := hX.2.1
      have h6 := hX.2.2.2.2.2.2.2.1
      by_cases q : K t = 12
      · by_cases q0 : 0 < zbr w
        · obtain ⟨g, rfl⟩ := zXm_0 hQ hf
          rw [zXm_B, if_pos ⟨q, q0⟩] at hf
          have n0 : ¬ nI (zbr w) ≤ (0 : Int32) := fun z => by have := (nI_leN (b := 0) (by omega) (by omega)).mp z; omega
          obtain ⟨s1, c1, c2, c3⟩ := M_comesOut0 (by omega) hE8 hX
          obtain ⟨r, hr⟩ := zpo_hd q0
          have hbr := (zpo_ok hX.2.2.2.2.2.2.1).2.2
          rw [hr] at c2 hf hbr
          have e1 : s1.1 0 39 - (1 : Int32) = nI r.length := by
            have e0 : s1.1 0 39 = nI (r.length + 1) := c2.2.2.1
            rw [e0]; exact nI_sub (b := 1) (by omega)
          have e2 : s1.1 0 12 - (1 : Int32) = nI (zbr r) := by
            have e0 : s1.1 0 12 = nI (zbr (11 :: r)) := c2.2.1
            rw [e0, zbr, if_pos rfl, Nat.add_comm]; exact nI_sub (b := 1) (by omega)
          have X2 := zXw_close c2
          obtain ⟨s2, d1, d2, d3⟩ := M_goesOn (zTm_M X2.1 hT) (zAm_0 (i := 12) (x := nI (zbr r)) (zAm_0 (i := 39) (x := nI r.length) (zAm_k c3 hA) (by omega)) (by omega)) (by omega)
          have X3 := zXw_T d2 X2
          have step : zXi2 0 s = some (.inl s2) := by
            unfold zXi2
            rw [bind_eq his, if_pos q, if_neg n10, a12, if_neg n0, bind_eq c1, wlet_eq, e1, wlet_eq, si_get, if_neg (show ¬ ((0 : Nat) = 0 ∧ (12 : Nat) = 39) by omega), e2, bind_eq d1]
          rcases d3 with ⟨e, d3⟩ | ⟨e, d3⟩
          · refine Or.inl ⟨_, step, Or.inr ⟨2, 400, _, _, _, d3, ?_, X3, by omega⟩⟩
            rw [← hf, e]; rfl
          · rw [zeat_ne _ e, zbd_r] at hf
            exact Or.inl ⟨_, step, Or.inl ⟨r, t + 1, _, by omega, by omega, d3, zXw_m X3 (by omega), g, hf⟩⟩
        · refine Or.inr ⟨s, ?_, Or.inl ⟨w, t, c, by omega, h2, hA, hX, ⟨f, hf⟩, fun z => q0 z.2⟩⟩
          have n0 : nI (zbr w) ≤ (0 : Int32) := (nI_leN (b := 0) (by omega) (by omega)).mpr (by omega)
          unfold zXi2
          rw [bind_eq his, if_pos q, if_neg n10, a12, if_pos n0]
      · refine Or.inr ⟨s, ?_, Or.inl ⟨w, t, c, by omega, h2, hA, hX, ⟨f, hf⟩, fun z => q z.1⟩⟩
        unfold zXi2
        rw [bind_eq his, if_neg q, if_pos rfl]
    · refine Or.inr ⟨s, ?_, Or.inr ⟨v, p, m, w, c, hD, hq, hX, hm⟩⟩
      unfold zXi2
      rw [bind_eq (M_is_d hD _), if_pos rfl]
  · rintro s (⟨w, t, c, h1, h2, hA, hX, f, hf⟩ | ⟨v, p, m, w, c, hD, hq, hX, hm⟩)
    · have := hA.1; omega
    · refine ⟨s, ?_, Or.inr ⟨v, p, m, w, c, hD, hq, hX, hm⟩⟩
      unfold zXi2
      rw [bind_eq (M_is_d hD _), if_pos rfl]
/-- what a whole expression leaves -/
def zRs (K P : Nat → Nat) (σ0 : St) (B E : Nat) (Q : zR) (σ : St) : Prop := zfM B E σ0 σ ∧ ((∃ v p, Q = .inl (v, p) ∧ zDm P σ v p) ∨ ∃ t c, Q = .inr (t, c) ∧ zAm K σ t ∧ σ.1 0 12 = 0 ∧ σ.1 0 35 = nI (B + c.length) ∧ CM (σ.1 21) (σ.1 22) B c)
theorem zF_R {K P : Nat → Nat} {σ0 σ : St} {B E : Nat} {Q : zR} (h : zF P σ0 B E Q σ) : zRs K P σ0 B E Q σ := by
  obtain ⟨h1, v, p, h2, h3⟩ := h
  exact ⟨h1, Or.inl ⟨v, p, h3, h2⟩⟩
theorem zXw_push {σ0 σ : St} {B E m x : Nat} {w : List Nat} {c : List (Nat × Nat)} (hX : zXw σ0 σ B E m w c) (hx : x = 6 ∨ x = 7 ∨ x = 8 ∨ x = 9) (hh : zh w < zkd x) : zXw σ0 (si (si σ 23 w.length (nI (zrk x))) 0 39 (nI (w.length + 1))) B E (m + 1) (x :: w) c := by
  obtain ⟨a1, a2, a3, a4, a5, a6, a7, a8, a9⟩ := hX
  refine ⟨zfM_trans a1 (zfM_trans (zfM_23 _ _ _) (zfM_0 _ _ _ (by omega))), ?_, ?_, ⟨?_, ?_⟩, ?_, ?_, ⟨Or.inr ⟨hx, hh⟩, a7⟩, by rw [zbr_op (by omega)]; exact a8, ?_⟩
  · rw [si_get, if_neg (by omega), si_ne (by omega), zbr_op (by omega)]; exact a2
  · rw [si_get, if_pos ⟨rfl, rfl⟩]; rfl
  · rw [si_ne (by omega), si_get, if_pos ⟨rfl, rfl⟩]
  · refine zWt_congr (fun i hi => ?_) a4
    rw [si_ne (by omega), si_get, if_neg (by omega)]
  · rw [si_get, if_neg (by omega), si_ne (by omega)]; exact a5
  · rw [si_ne (by omega), si_ne (by omega), si_ne (by omega), si_ne (by omega)]; exact a6
  · rw [zno, if_neg (by omega)]; omega
def zXtl (v2 : Int32) (σe96_10 : St) : Option ((St × Int32) ⊕ ((St) ⊕ (St))) := Option.bind (f_X11_is σe96_10 (8 : Int32)) fun v12 => wlet (fun (s0_186_13 : Int32) => (if s0_186_13 = 0 then (wlet (fun (σ_204_31 : St) => (Option.bind (f_X11_comesOut σ_204_31 (0 : Int32)) fun σ33 => some (.inr (.inr σ33)) : Option ((St × Int32) ⊕ ((St) ⊕ (St))))) fun k204_31 => if (σe96_10.1 0 12) ≤ v2 then (k204_31 σe96_10) else (Option.bind (f_X11_fail σe96_10 (1 : Int32)) fun σ36 => k204_31 σ36)) else (Option.bind (f_X11_is σe96_10 (10 : Int32)) fun v16 => wlet (fun (s1_234_17 : Int32) => (Option.bind (f_X11_comesOut σe96_10 s1_234_17) fun σ19 => if ib (σ19.1 0 11) 403 = true then if ib (σ19.1 0 39) 64 = true then wlet (si σ19 23 (Int32.toNatClampNeg (σ19.1 0 39)) (σ19.1 3 (Int32.toNatClampNeg (σ19.1 0 11)))) fun σ22 => wlet (si σ22 0 39 ((σ22.1 0 39) + (1 : Int32))) fun σ23 => Option.bind (f_X11_goesOn σ23) fun σ25 => some (.inl (σ25, s0_186_13)) else none else none : Option ((St × Int32) ⊕ ((St) ⊕ (St))))) fun k234_17 => wlet (fun (_ : Unit) => (k234_17 (1 : Int32) : Option ((St × Int32) ⊕ ((St) ⊕ (St))))) fun k229_26 => if v16 = 0 then (Option.bind (f_X11_is σe96_10 (15 : Int32)) fun v29 => if v29 = 0 then (k234_17 (0 : Int32)) else (k229_26 ())) else (k229_26 ())) : Option ((St × Int32) ⊕ ((St) ⊕ (St))))) fun k186_13 => wlet (fun (_ : Unit) => (k186_13 (1 : Int32) : Option ((St × Int32) ⊕ ((St) ⊕ (St))))) fun k181_37 => if v12 = 0 then (Option.bind (f_X11_is σe96_10 (9 : Int32)) fun v40 => if v40 = 0 then (Option.bind (f_X11_is σe96_10 (10 : Int32)) fun v43 => if v43 = 0 then (Option.bind (f_X11_is σe96_10 (15 : Int32)) fun v46 => if v46 = 0 then (k186_13 (0 : Int32)) else (k181_37 ())) else (k181_37 ())) else (k181_37 ())) else (k181_37 ())
/-- a sign taken: what waits goes out, it waits itself -/
theorem M_sign1 {K P V N : Nat → Nat} {σ0 σ : St} {t0 B E lo t : Nat} {w : List Nat} {c : List (Nat × Nat)} {Q : zR} (hQ : Q ≠ .inl (0, 0)) (hT : zTm σ0 K P V N) (hB : B + (401 - t0) ≤ E) (hE8 : E ≤ 840) (hlo : lo ≤ t) (ht0 : t0 ≤ t) (hA : zAm K σ t) (hX : zXw σ0 σ B E (t - t0) w c) (hf : ∃ f, zXm K V f false w t c = Q) (hop : K t = 6 ∨ K t = 7 ∨ K t = 8 ∨ K t = 9) (s : Int32) (hs : ((K t = 6 ∨ K t = 7) ∧ s = 0) ∨ ((K t = 8 ∨ K t = 9) ∧ s = 1)) : ∃ σ', (Option.bind (f_X11_comesOut σ s) fun σ19 => if ib (σ19.1 0 11) 403 = true then if ib (σ19.1 0 39) 64 = true then wlet (si σ19 23 (Int32.toNatClampNeg (σ19.1 0 39)) (σ19.1 3 (Int32.toNatClampNeg (σ19.1 0 11)))) fun σ22 => wlet (si σ22 0 39 ((σ22.1 0 39) + (1 : Int32))) fun σ23 => Option.bind (f_X11_goesOn σ23) fun σ25 => some (.inl (σ25, (1 : Int32))) else none else none : Option ((St × Int32) ⊕ ((St) ⊕ (St)))) = some (.inl (σ', 1)) ∧ (zE K V σ0 t0 B E Q true (lo + 1) σ' ∨ zF P σ0 B E Q σ') := by
  obtain ⟨f, hf⟩ := hf
  obtain ⟨g, rfl⟩ := zXm_0 hQ hf
  have ht := hA.1
  have hok := hX.2.2.2.2.2.2.1
  -- what is left waiting
  have key : ∃ w' c' s1, f_X11_comesOut σ s = some s1 ∧ zXw σ0 s1 B E (t - t0) w' c' ∧ zkp σ s1 ∧ zh w' < zkd (K t) ∧ zbd (zeat t []) (fun t1 _ => zXm K V g true (K t :: w') t1 c') = Q := by
    rw [zXm_B, if_neg (fun z => by omega)] at hf
    rcases hs with ⟨h1, rfl⟩ | ⟨h1, rfl⟩
    · rw [if_pos h1] at hf
      obtain ⟨s1, c1, c2, c3⟩ := M_comesOut0 (by omega) hE8 hX
      refine ⟨_, _, s1, c1, c2, c3, ?_, hf⟩
      rw [(zpo_ok hok).2.1]
      unfold zkd
      rw [if_neg (by omega), if_pos h1]; omega
    · rw [if_neg (by omega), if_pos h1] at hf
      obtain ⟨s1, c1, c2, c3⟩ := M_comesOut1 (by omega) hE8 hX
      refine ⟨_, _, s1, c1, c2, c3, ?_, hf⟩
      have := (zpq_ok hok).2.1
      unfold zkd
      rw [if_neg (by omega), if_neg (by omega)]; omega
  obtain ⟨w', c', s1, c1, c2, c3, c4, hf⟩ := key
  have A1 := zAm_k c3 hA
  have T1 := zTm_M c2.1 hT
  have hlen := zok_20 c2.2.2.2.2.2.2.1 c2.2.2.2.2.2.2.2.1
  have b11 : ib (nI t) 403 = true := ib_t (by omega) (by omega)
  have g11 : (nI t).toNatClampNeg = t := nI_clamp (by omega)
  have b39 : ib (nI w'.length) 64 = true := ib_t (by omega) (by omega)
  have g39 : (nI w'.length).toNatClampNeg = w'.length := nI_clamp (by omega)
  have a39 : s1.1 0 39 = nI w'.length := c2.2.2.1
  have X2 := zXw_push c2 hop c4
  obtain ⟨s2, d1, d2, d3⟩ := M_goesOn (zTm_M X2.1 hT) (zAm_0 (i := 39) (x := nI (w'.length + 1)) (zAm_23 (i := w'.length) (x := nI (zrk (K t))) A1) (by omega)) (by omega)
  have X3 := zXw_T d2 X2
  refine ⟨s2, ?_, ?_⟩
  · rw [bind_eq c1, A1.2.1, if_ib b11, a39, if_ib b39, g39, g11, (T1.1 t ht hA.2.2.2).1, wlet_eq, wlet_eq, si_ne (show 0 ≠ 23 by omega), a39, ← nI_succ, bind_eq d1]
  · rcases d3 with ⟨e, d3⟩ | ⟨e, d3⟩
    · refine Or.inr ⟨X3.1, 2, 400, d3, ?_⟩
      rw [← hf, e]; rfl
    · rw [zeat_ne _ e, zbd_r] at hf
      exact Or.inl ⟨_, t + 1, c', by omega, by omega, d3, zXw_m X3 (by omega), g, hf⟩
theorem M_tail {K P V N : Nat → Nat} {σ0 σ : St} {t0 B E lo : Nat} {Q : zR} (hQ : Q ≠ .inl (0, 0)) (hT : zTm σ0 K P V N) (hB : B + (401 - t0) ≤ E) (hE8 : E ≤ 840) (h : (∃ w t c, lo ≤ t ∧ t0 ≤ t ∧ zAm K σ t ∧ zXw σ0 σ B E (t - t0) w c ∧ (∃ f, zXm K V f false w t c = Q) ∧ ¬ (K t = 12 ∧ 0 < zbr w)) ∨ zG P σ0 B E Q σ) : (∃ σ', zXtl 0 σ = some (.inl (σ', 1)) ∧ (zE K V σ0 t0 B E Q true (lo + 1) σ' ∨ zF P σ0 B E Q σ')) ∨ ∃ σ', zXtl 0 σ = some (.inr (.inr σ')) ∧ zRs K P σ0 B E Q σ' := by
  rcases h with ⟨w, t, c, h1, h2, hA, hX, hf, h12⟩ | ⟨v, p, m, w, c, hD, hq, hX, hm⟩
  · have T1 := zTm_M hX.1 hT
    have i8 : f_X11_is σ (8 : Int32) = some (if K t = 6 then 1 else 0) := M_is T1 hA (k := 6) (by omega)
    have i9 : f_X11_is σ (9 : Int32) = some (if K t = 7 then 1 else 0) := M_is T1 hA (k := 7) (by omega)
    have i10 : f_X11_is σ (10 : Int32) = some (if K t = 8 then 1 else 0) := M_is T1 hA (k := 8) (by omega)
    have i15 : f_X11_is σ (15 : Int32) = some (if K t = 9 then 1 else 0) := M_is T1 hA (k := 9) (by omega)
    unfold zXtl
    rw [bind_eq i8, wlet_eq]
    by_cases q6 : K t = 6
    · left
      obtain ⟨σ', g1, g2⟩ := M_sign1 hQ hT hB hE8 h1 h2 hA hX hf (Or.inl q6) 0 (Or.inl ⟨Or.inl q6, rfl⟩)
      refine ⟨σ', ?_, g2⟩
      rw [wlet_eq, if_pos q6, if_neg n10]
      dsimp only
      have n8 : ¬ K t = 8 := by omega
      have n9 : ¬ K t = 9 := by omega
      rw [if_neg n10, bind_eq i10, wlet_eq, if_neg n8, wlet_eq, if_pos rfl, bind_eq i15, if_neg n9, if_pos rfl]
      exact g1
    rw [if_neg q6, wlet_eq, if_pos rfl, bind_eq i9]
    by_cases q7 : K t = 7
    · left
      obtain ⟨σ', g1, g2⟩ := M_sign1 hQ hT hB hE8 h1 h2 hA hX hf (Or.inr (Or.inl q7)) 0 (Or.inl ⟨Or.inr q7, rfl⟩)
      refine ⟨σ', ?_, g2⟩
      rw [if_pos q7, if_neg n10]
      dsimp only
      have n8 : ¬ K t = 8 := by omega
      have n9 : ¬ K t = 9 := by omega
      rw [if_neg n10, bind_eq i10, wlet_eq, if_neg n8, wlet_eq, if_pos rfl, bind_eq i15, if_neg n9, if_pos rfl]
      exact g1
    rw [if_neg q7, if_pos rfl, bind_eq i10]
    by_cases q8 : K t = 8
    · left
      obtain ⟨σ', g1, g2⟩ := M_sign1 hQ hT hB hE8 h1 h2 hA hX hf (Or.inr (Or.inr (Or.inl q8))) 1 (Or.inr ⟨Or.inl q8, rfl⟩)
      refine ⟨σ', ?_, g2⟩
      rw [if_pos q8, if_neg n10]
      dsimp only
      rw [if_neg n10, bind_eq i10, wlet_eq, if_pos q8, wlet_eq, if_neg n10]
      exact g1
    rw [if_neg q8, if_pos rfl, bind_eq i15]
    by_cases q9 : K t = 9
    · left
      obtain ⟨σ', g1, g2⟩ := M_sign1 hQ hT hB hE8 h1 h2 hA hX hf (Or.inr (Or.inr (Or.inr q9))) 1 (Or.inr ⟨Or.inr q9, rfl⟩)
      refine ⟨σ', ?_, g2⟩
      rw [if_pos q9, if_neg n10]
      dsimp only
      rw [if_neg n10, bind_eq i10, wlet_eq, if_neg q8, wlet_eq, if_pos rfl, bind_eq i15, if_pos q9, if_neg n10]
      exact g1
    right
    obtain ⟨f, hf⟩ := hf
    obtain ⟨g, rfl⟩ := zXm_0 hQ hf
    rw [zXm_B, if_neg h12, if_neg (by omega), if_neg (by omega)] at hf
    have a12 : σ.1 0 12 = nI (zbr w) := hX.2.1
    have h6 := hX.2.2.2.2.2.2.2.1
    have ht := hA.1
    rw [if_neg q9, if_pos rfl]
    dsimp only
    rw [if_pos rfl, wlet_eq, a12]
    by_cases q0 : 0 < zbr w
    · have n0 : ¬ nI (zbr w) ≤ (0 : Int32) := fun z => by have := (nI_leN (b := 0) (by omega) (by omega)).mp z; omega
      rw [if_pos q0] at hf
      obtain ⟨s1, c1, c2, c3, c4⟩ := M_fail T1 hA (v := 1) (Or.inl rfl)
      obtain ⟨s2, d1, d2, d3⟩ := M_comesOut0 (by omega) hE8 (zXw_T c2 hX)
      refine ⟨s2, ?_, d2.1, Or.inl ⟨1, t, hf.symm, zDm_k d3 c4⟩⟩
      rw [if_neg n0, show (1 : Int32) = nI 1 from rfl, bind_eq c1]
      dsimp only
      rw [bind_eq d1]
    · have n0 : nI (zbr w) ≤ (0 : Int32) := (nI_leN (b := 0) (by omega) (by omega)).mpr (by omega)
      rw [if_neg q0] at hf
      obtain ⟨s2, d1, d2, d3⟩ := M_comesOut0 (by omega) hE8 hX
      refine ⟨s2, ?_, d2.1, Or.inr ⟨t, _, hf.symm, zAm_k d3 hA, ?_, d2.2.2.2.2.1, d2.2.2.2.2.2.1⟩⟩
      · rw [if_pos n0]
        dsimp only
        rw [bind_eq d1]
      · rw [d2.2.1, (zpo_ok hX.2.2.2.2.2.2.1).2.2, show zbr w = 0 by omega]; rfl
  · right
    have hd := fun x => M_is_d hD x
    obtain ⟨s2, d1, d2, d3⟩ := M_comesOut0 hm hE8 hX
    refine ⟨s2, ?_, d2.1, Or.inl ⟨v, p, hq, zDm_k d3 hD⟩⟩
    unfold zXtl
    rw [bind_eq (hd _), wlet_eq, wlet_eq, if_pos rfl, bind_eq (hd _), if_pos rfl, bind_eq (hd _), if_pos rfl, bind_eq (hd _), if_pos rfl]
    dsimp only
    rw [if_pos rfl, wlet_eq]
    by_cases q : σ.1 0 12 ≤ 0
    · rw [if_pos q]
      dsimp only
      rw [bind_eq d1]
    · rw [if_neg q, bind_eq (M_fail_d hD _)]
      dsimp only
      rw [bind_eq d1]
/-- an expression, read by the reference -/
theorem M_expression {K P V N : Nat → Nat} {σ : St} {t B E : Nat} (hT : zTm σ K P V N) (hA : zAm K σ t) (h12 : σ.1 0 12 = 0) (h35 : σ.1 0 35 = nI B) (hB : B + (401 - t) ≤ E) (hE8 : E ≤ 840) (hG : zGd K 15 t (zSd K V 6 t)) : ∃ σ', f_X11_expression σ = some σ' ∧ zRs K P (si σ 0 39 0) B E (zSd K V 6 t) σ' := by
  have hQ : zSd K V 6 t ≠ .inl (0, 0) := fun z => by have := (hG.1 0 0 z).1; omega
  generalize hq : zSd K V 6 t = Q at *
  obtain ⟨f, hf⟩ := zXm_all (K := K) (V := V) hA.1
  rw [hq] at hf
  have T0 : zTm (si σ 0 39 0) K P V N := zTm_M (zfM_0 (B := B) (E := E) _ _ _ (by omega)) hT
  have start : zE K V (si σ 0 39 0) t B E Q true t (si σ 0 39 0) := ⟨[], t, [], Nat.le_refl _, Nat.le_refl _, zAm_0 hA (by omega), ⟨zfM_refl _ _ _, by rw [si_get, if_neg (by omega)]; exact h12, by rw [si_get, if_pos ⟨rfl, rfl⟩]; rfl, trivial, by rw [si_get, if_neg (by omega)]; exact h35, trivial, trivial, Nat.zero_le _, Nat.zero_le _⟩, f, hf⟩
  obtain ⟨r, h1, σ', h2, h3⟩ := zinv (st := zXo 0) (s0 := (si σ 0 39 0, 1)) (fun i s => s.2 = 1 ∧ (zE K V (si σ 0 39 0) t B E Q true (max t i) s.1 ∨ zF P (si σ 0 39 0) B E Q s.1)) (fun r => ∃ σ', (r = .inl σ' ∨ r = .inr σ') ∧ zRs K P (si σ 0 39 0) B E Q σ') 401 (by omega) ⟨rfl, Or.inl (by rw [Nat.max_eq_left (Nat.zero_le _)]; exact start)⟩ (by
    rintro i ⟨s, y⟩ hi ⟨h1, h2⟩
    have h1 : y = 1 := h1
    subst h1
    rcases h2 with h2 | h2
    · have h2 : zE K V (si σ 0 39 0) t B E Q true (max t i) s := h2
      have hf0 : s.1 0 13 = 0 := by obtain ⟨w, t', c, _, _, hA', _⟩ := h2; exact hA'.2.2.1
      have U : ∀ x, zXo 0 (s, 1) = x ↔ zXo 0 (s, 1) = x := fun _ => Iff.rfl
      obtain ⟨s1, c1, c2⟩ := M_open hQ T0 h2
      have hun : ∃ s2, f_X11_unit s1 = some s2 ∧ (zE K V (si σ 0 39 0) t B E Q false (max t i + 1) s2 ∨ zF P (si σ 0 39 0) B E Q s2) := by
        rcases c2 with ⟨w, t', c, d1, d2, d3, d4, d5, d6⟩ | ⟨hM, v, p, hD, hq'⟩
        · exact M_unit hQ T0 hB hE8 d1 d2 d3 d4 d5 d6
        · exact ⟨s1, M_unit_d hD, Or.inr ⟨hM, v, p, hD, hq'⟩⟩
      obtain ⟨s2, e1, e2⟩ := hun
      rcases e2 with e2 | e2
      · have hf2 : s2.1 0 13 = 0 := by obtain ⟨w, t', c, _, _, hA', _⟩ := e2; exact hA'.2.2.1
        obtain ⟨s3, g1, g2⟩ := M_close hQ T0 hB hE8 e2
        have hgo : zXo 0 (s, 1) = zXtl 0 s3 := by
          unfold zXo
          dsimp only [un2]
          rw [if_neg n10, if_pos hf0, wlet_eq]
          refine (bind_eq c1).trans ?_
          rw [bind_eq e1, if_pos (by rw [hf2]; decide), wlet_eq]
          exact (bind_eq g1).trans rfl
        rw [hgo]
        rcases M_tail hQ T0 hB hE8 g2 with ⟨σ', k1, k2⟩ | ⟨σ', k1, k2⟩
        · refine Or.inl ⟨_, k1, rfl, ?_⟩
          rcases k2 with ⟨w, t', c, k3, k4⟩ | k2
          · exact Or.inl ⟨w, t', c, by omega, k4⟩
          · exact Or.inr k2
        · exact Or.inr ⟨_, k1, σ', Or.inr rfl, k2⟩
      · refine Or.inr ⟨.inr s2, ?_, s2, Or.inr rfl, zF_R e2⟩
        obtain ⟨hM, v, p, hD, hq'⟩ := e2
        unfold zXo
        dsimp only [un2]
        rw [if_neg n10, if_pos hf0, wlet_eq]
        refine (bind_eq c1).trans ?_
        rw [bind_eq e1, if_neg (zDm_pos hD)]
    · have h2 : zF P (si σ 0 39 0) B E Q s := h2
      refine Or.inr ⟨.inl s, ?_, s, Or.inl rfl, zF_R h2⟩
      obtain ⟨hM, v, p, hD, hq'⟩ := h2
      unfold zXo
      dsimp only [un2]
      rw [if_neg n10, if_neg (zDm_ne hD)]) (by
    rintro ⟨s, y⟩ ⟨h1, h2⟩
    have h1 : y = 1 := h1
    subst h1
    rcases h2 with ⟨w, t', c, k3, k4, k5, _⟩ | h2
    · have := k5.1; omega
    · have h2 : zF P (si σ 0 39 0) B E Q s := h2
      refine ⟨.inl s, ?_, s, Or.inl rfl, zF_R h2⟩
      obtain ⟨hM, v, p, hD, hq'⟩ := h2
      unfold zXo
      dsimp only [un2]
      rw [if_neg n10, if_neg (zDm_ne hD)])
  refine ⟨σ', ?_, h3⟩
  have e12 : (si σ 0 39 0).1 0 12 = 0 := by rw [si_get, if_neg (by omega)]; exact h12
  unfold f_X11_expression
  rw [wlet_eq, wlet_eq, e12, wlet_eq]
  refine (bind_eq h1).trans ?_
  rcases h2 with e | e <;> rw [e] <;> rfl
theorem M_expression_d {P : Nat → Nat} {σ : St} {v p : Nat} (hD : zDm P σ v p) : f_X11_expression σ = some (si σ 0 39 0) := by
  have hD1 : zDm P (si σ 0 39 0) v p := zDm_0 hD (by omega)
  unfold f_X11_expression
  rw [wlet_eq, wlet_eq, wlet_eq]
  refine (bind_eq (zrun (st := zXo ((si σ 0 39 0).1 0 12)) (r := .inl (si σ 0 39 0)) (fun _ => (si σ 0 39 0, 1)) 0 (by omega) rfl (fun t ht => absurd ht (Nat.not_lt_zero _)) ?_)).trans rfl
  unfold zXo
  dsimp only [un2]
  rw [if_neg n10, if_neg (zDm_ne hD1)]
