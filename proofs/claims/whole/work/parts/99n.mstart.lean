/-! STAGE B, 63: the reference's start as a whole -/
def rmF (σe112_16 : St) : Option (Int32 × St) := wlet (fun (s1_164_17 : Int32) => (wlet (si σe112_16 0 17 s1_164_17) fun σ18 => if (σ18.1 0 13) ≤ 0 then (if (σ18.1 0 15) ≤ 0 then (wlet (si σ18 0 18 (σ18.1 0 19)) fun σ21 => Option.bind (f_X11_begins σ21) fun σ23 => Option.bind (f_X11_keepsRow σ23) fun σ25 => wlet (si σ25 0 47 (0 : Int32)) fun σ26 => wlet (si σ26 0 51 (0 : Int32)) fun σ27 => wlet (un2 (fun (σ219_28 : St) (x1_219_28 : Int32) => if (3 : Int32) ≤ x1_219_28 then (some (.inr σ219_28)) else (if ib x1_219_28 3 = true then wlet (si σ219_28 36 (Int32.toNatClampNeg x1_219_28) (vp_nar .boolean (0 : Int32))) fun σ31 => wlet (x1_219_28 + (1 : Int32)) fun v32 => some (.inl (σ31, v32)) else none)) : St × Int32 → Option ((St × Int32) ⊕ (St))) fun st219_28 => Option.bind (lp st219_28 fuel (σ27, (0 : Int32))) ((fun (σe219_28 : St) => some ((0 : Int32), σe219_28)))) else (some ((σ18.1 0 15), σ18))) else (some ((σ18.1 0 13), σ18)) : Option (Int32 × St))) fun k164_17 => if (σe112_16.1 0 13) ≤ 0 then (if (σe112_16.1 0 15) ≤ 0 then (k164_17 (-1 : Int32)) else (k164_17 (σe112_16.1 0 16))) else (k164_17 (σe112_16.1 0 14))
theorem rzM_0 {s : Nat} (τ : St) (i : Nat) (v : Int32) (h : i = 2 ∨ i = 4 ∨ (10 ≤ i ∧ i ≤ 16) ∨ i = 19 ∨ i = 20 ∨ i = 29 ∨ i = 35) : rzM s τ (si τ 0 i v) := rzM_c (fun c h1 _ => si_ne h1) (fun j _ _ _ _ _ _ _ _ => by rw [si_get, if_neg (by omega)]) (fun _ _ => rfl)
theorem M_start {τ : St} {b : Nat → Nat} {n w : Nat} (hn : n ≤ 2000) (hw : w ≤ 1) (h2 : τ.1 0 2 = nI n) (hb : ∀ i, i < n → (τ.1 1 i) &&& (255 : Int32) = nI (b i) ∧ b i < 256) (hK : iK τ) (h18 : τ.1 0 18 = nI w) : ∃ τ', f_X11_read τ = Option.bind (lp rkM fuel τ') rmF ∧ rzM (1 - w) τ τ' ∧ zTm τ' (zKk b n) (zKp b n) (zKv b n) (zKn b n) ∧ zAm (zKk b n) τ' 0 ∧ rdS τ' (1 - w) T0 (420 * (1 - w)) (130 * (1 - w)) ∧ (τ'.1 0 12 = 0 ∧ τ'.1 0 35 = nI (420 * (1 - w)) ∧ τ'.1 0 29 = nI (130 * (1 - w)) ∧ τ'.1 0 19 = nI (1 - w) ∧ τ'.1 0 20 = 0 ∧ τ'.1 0 15 = 0 ∧ τ'.1 0 2 = 0) := by
  obtain ⟨s, es⟩ : ∃ s, s = 1 - w := ⟨_, rfl⟩
  rw [← es]
  have hs : s ≤ 1 := by omega
  obtain ⟨τ1, h1⟩ : ∃ τ1, τ1 = si τ 0 4 (nI n) := ⟨_, rfl⟩
  obtain ⟨τ2, a1, a2, a3, a4⟩ := M_tape (τ := τ1) hn (by rw [h1, si_get, if_pos ⟨rfl, rfl⟩])
  obtain ⟨τ3, h3⟩ : ∃ τ3, τ3 = si τ2 0 2 0 := ⟨_, rfl⟩
  have f3 : rzM s τ τ3 := rzM_c (fun c c1 c2 => by rw [h3, si_ne c1, a2 c (by omega), h1, si_ne c1]) (fun i i1 i2 _ _ _ _ _ _ => by rw [h3, si_get, if_neg (fun z => i1 z.2), a2 0 (by omega), h1, si_get, if_neg (fun z => i2 z.2)]) (fun c _ => by rw [h3]; show τ2.2 c = _; rw [a3, h1]; rfl)
  have k3 : iK τ3 := fun k hk => by rw [f3.2.2.1 7 (by omega) (by omega)]; exact hK k hk
  have t3 : zTpM τ3 b n := ⟨by rw [h3, si_get, if_neg (by omega), a2 0 (by omega), h1, si_get, if_pos ⟨rfl, rfl⟩], hn, fun i hi => ⟨by rw [h3, si_ne (by omega), a4 i hi, h1, si_ne (by omega), znarB]; exact (hb i hi).1, (hb i hi).2⟩⟩
  obtain ⟨τ5, c1, c2, c3, c4, c5⟩ := M_cut t3 k3
  have f5 : rzM s τ τ5 := rzM_trans f3 (rzM_c (fun c d1 d2 => c2 c d1 (by omega) (by omega) (by omega)) (fun i _ _ i3 _ _ _ _ _ => c3 i (by omega)) c4)
  obtain ⟨τ9, h9⟩ : ∃ τ9, τ9 = si (si (si (si τ5 0 11 0) 0 12 0) 0 13 0) 0 15 0 := ⟨_, rfl⟩
  have f9 : rzM s τ τ9 := rzM_trans f5 (by rw [h9]; exact rzM_trans (rzM_0 _ _ _ (by omega)) (rzM_trans (rzM_0 _ _ _ (by omega)) (rzM_trans (rzM_0 _ _ _ (by omega)) (rzM_0 _ _ _ (by omega)))))
  have e18 : τ9.1 0 18 = nI w := by rw [f9.2.1 18 (by omega) (by omega) (by omega) (by omega) (by omega) (by omega) (by omega) (by omega)]; exact h18
  obtain ⟨τ11, h11⟩ : ∃ τ11, τ11 = si (si τ9 0 19 (nI s)) 0 20 0 := ⟨_, rfl⟩
  have f11 : rzM s τ τ11 := rzM_trans f9 (by rw [h11]; exact rzM_trans (rzM_0 _ _ _ (by omega)) (rzM_0 _ _ _ (by omega)))
  have e19 : τ11.1 0 19 = nI s := by rw [h11, si_get, if_neg (by omega), si_get, if_pos ⟨rfl, rfl⟩]
  obtain ⟨τ13, d1, d2, d3, d4, d5, d6⟩ := M_plain τ11 hs
  obtain ⟨τ15, h15⟩ : ∃ τ15, τ15 = si (si τ13 0 29 (nI (130 * s))) 0 35 (nI (420 * s)) := ⟨_, rfl⟩
  have f15 : rzM s τ τ15 := rzM_trans f11 (rzM_trans (rzM_H d2) (by rw [h15]; exact rzM_trans (rzM_0 _ _ _ (by omega)) (rzM_0 _ _ _ (by omega))))
  have m13 : τ13.1 0 19 = nI s := by rw [d3]; exact e19
  have e1w : (1 : Int32) - nI w = nI s := by rw [es]; exact nI_sub (a := 1) hw
  have z0 : ∀ i, i ≠ 29 → i ≠ 35 → τ15.1 0 i = τ11.1 0 i := fun i i1 i2 => by rw [h15, si_get, if_neg (fun z => i2 z.2), si_get, if_neg (fun z => i1 z.2), d3]
  have zc : ∀ c, c ≠ 0 → τ15.1 c = τ13.1 c := fun c hc => by rw [h15, si_ne hc, si_ne hc]
  have z9 : ∀ i, i ≠ 19 → i ≠ 20 → τ11.1 0 i = τ9.1 0 i := fun i i1 i2 => by rw [h11, si_get, if_neg (fun z => i2 z.2), si_get, if_neg (fun z => i1 z.2)]
  have y9 : ∀ c, c ≠ 0 → τ11.1 c = τ5.1 c := fun c hc => by rw [h11, si_ne hc, si_ne hc, h9, si_ne hc, si_ne hc, si_ne hc, si_ne hc]
  refine ⟨τ15, ?_, f15, ?_, ⟨by omega, by rw [z0 11 (by omega) (by omega), z9 11 (by omega) (by omega), h9, si_get, if_neg (by omega), si_get, if_neg (by omega), si_get, if_neg (by omega), si_get, if_pos ⟨rfl, rfl⟩]; rfl, by rw [z0 13 (by omega) (by omega), z9 13 (by omega) (by omega), h9, si_get, if_neg (by omega), si_get, if_pos ⟨rfl, rfl⟩], fun j hj => absurd hj (Nat.not_lt_zero _)⟩, ⟨by rw [zc 9 (by omega)]; exact d5.1, fun c hc => absurd hc (Nat.not_lt_zero _), by rw [zc 12 (by omega)]; exact d5.2.1, by rw [zc 13 (by omega)]; exact d5.2.2, fun k hk => Or.inl ⟨by rw [zc 14 (by omega), zc 15 (by omega), (d6 k hk).1, (d6 k hk).2], rfl, rfl⟩⟩, ?_, ?_, ?_, ?_, ?_, ?_, ?_⟩
  · unfold f_X11_read
    rw [h2, wlet_eq, ← h1, wlet_eq]
    refine (bind_eq a1).trans ?_
    rw [wlet_eq, ← h3, bind_eq c1, wlet_eq, wlet_eq, wlet_eq, wlet_eq, ← h9, e18, e1w, wlet_eq, wlet_eq, ← h11, e19, bind_eq d1, m13]
    rw [show (130 : Int32) * nI s = nI (130 * s) from znI_mul 130 s, wlet_eq, show (si τ13 0 29 (nI (130 * s))).1 0 19 = nI s by rw [si_get, if_neg (by omega)]; exact m13, show (420 : Int32) * nI s = nI (420 * s) from znI_mul 420 s, wlet_eq, ← h15, wlet_eq]
    rfl
  · have T5 := zTm_C2 c5
    unfold zTm at T5 ⊢
    rw [zc 3 (by omega), zc 4 (by omega), zc 5 (by omega), d2.1 3 (by omega) (by omega), d2.1 4 (by omega) (by omega), d2.1 5 (by omega) (by omega), y9 3 (by omega), y9 4 (by omega), y9 5 (by omega), show τ15.2 = τ5.2 by rw [h15]; show τ13.2 = _; rw [d4, h11, h9]; rfl]
    exact T5
  · rw [z0 12 (by omega) (by omega), z9 12 (by omega) (by omega), h9, si_get, if_neg (by omega), si_get, if_neg (by omega), si_get, if_pos ⟨rfl, rfl⟩]
  · rw [h15, si_get, if_pos ⟨rfl, rfl⟩]
  · rw [h15, si_get, if_neg (by omega), si_get, if_pos ⟨rfl, rfl⟩]
  · rw [z0 19 (by omega) (by omega)]; exact e19
  · rw [z0 20 (by omega) (by omega), h11, si_get, if_pos ⟨rfl, rfl⟩]
  · rw [z0 15 (by omega) (by omega), z9 15 (by omega) (by omega), h9, si_get, if_pos ⟨rfl, rfl⟩]
  · rw [z0 2 (by omega) (by omega), z9 2 (by omega) (by omega), h9, si_get, if_neg (by omega), si_get, if_neg (by omega), si_get, if_neg (by omega), si_get, if_neg (by omega), c3 2 (by omega), h3, si_get, if_pos ⟨rfl, rfl⟩]
