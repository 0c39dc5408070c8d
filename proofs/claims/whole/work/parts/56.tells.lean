/-! STAGE B, 7: the reference's laws -/
def sTells (v1 : Int32) : St × Int32 → Option ((St × Int32) ⊕ ((St) ⊕ (Int32 × St))) :=
  un2 (fun (σ39_8 : St) (x4_39_8 : Int32) => if ib v1 8 = true then if (σ39_8.1 15 (Int32.toNatClampNeg v1)) ≤ x4_39_8 then (some (.inr (.inl σ39_8))) else (if ib x4_39_8 260 = true then wlet (fun (σ_119_12 : St) => (if ib x4_39_8 260 = true then if ib x4_39_8 260 = true then bnd2 (f_X11_termOf σ_119_12 (σ_119_12.1 19 (Int32.toNatClampNeg x4_39_8)) (σ_119_12.1 20 (Int32.toNatClampNeg x4_39_8))) fun v16 σ17 => if (σ17.1 0 42) = 0 then (some (.inr (.inr (v16, σ17)))) else (some (.inr (.inr ((0 : Int32), σ17)))) else none else none : Option ((St × Int32) ⊕ ((St) ⊕ (Int32 × St))))) fun k119_12 => if (σ39_8.1 16 (Int32.toNatClampNeg x4_39_8)) = 0 then (k119_12 σ39_8) else (if ib x4_39_8 260 = true then if ib x4_39_8 260 = true then bnd2 (f_X11_termOf σ39_8 (σ39_8.1 17 (Int32.toNatClampNeg x4_39_8)) (σ39_8.1 18 (Int32.toNatClampNeg x4_39_8))) fun v23 σ24 => if ib x4_39_8 260 = true then if ib x4_39_8 260 = true then bnd2 (f_X11_termOf σ24 (σ24.1 18 (Int32.toNatClampNeg x4_39_8)) (σ24.1 19 (Int32.toNatClampNeg x4_39_8))) fun v28 σ29 => if (σ29.1 0 42) = 0 then (if v23 < v28 then (k119_12 σ29) else (wlet (x4_39_8 + (1 : Int32)) fun v32 => some (.inl (σ29, v32)))) else (some (.inr (.inr ((0 : Int32), σ29)))) else none else none else none else none) else none) else none)
/-- a law in the reference's branches from b to B, its code from u to w -/
def MLaw (τ : St) (u w : Nat) : Nat → Nat → List (List (Nat × Nat) × List (Nat × Nat) × List (Nat × Nat)) → List (Nat × Nat) → Prop
  | b, B, [], e => B = b + 1 ∧ τ.1 16 b = 0 ∧ ∃ p, u ≤ p ∧ p + e.length ≤ w ∧ τ.1 19 b = nI p ∧ τ.1 20 b = nI (p + e.length) ∧ CM (τ.1 21) (τ.1 22) p e
  | b, B, x :: r, e => τ.1 16 b ≠ 0 ∧ (∃ p q m, u ≤ p ∧ q = p + x.1.length ∧ m = q + x.2.1.length ∧ m + x.2.2.length ≤ w ∧ τ.1 17 b = nI p ∧ τ.1 18 b = nI q ∧ τ.1 19 b = nI m ∧ τ.1 20 b = nI (m + x.2.2.length) ∧ CM (τ.1 21) (τ.1 22) p x.1 ∧ CM (τ.1 21) (τ.1 22) q x.2.1 ∧ CM (τ.1 21) (τ.1 22) m x.2.2) ∧ MLaw τ u w (b + 1) B r e
theorem MLaw_le {τ : St} {u w : Nat} : ∀ {r : List (List (Nat × Nat) × List (Nat × Nat) × List (Nat × Nat))} {e : List (Nat × Nat)} {b B : Nat}, MLaw τ u w b B r e → b < B := by
  intro r
  induction r with
  | nil => intro e b B h; have := h.1; omega
  | cons x r ih => intro e b B h; have := ih h.2.2; omega
/-- a law stays where its own branches and its own code stay -/
theorem MLaw_congr {τ τ' : St} {u w lo hi : Nat} (h : ∀ c i, 16 ≤ c → c ≤ 20 → lo ≤ i → i < hi → τ'.1 c i = τ.1 c i) (hc : ∀ c i, 21 ≤ c → c ≤ 22 → u ≤ i → i < w → τ'.1 c i = τ.1 c i) : ∀ {r : List (List (Nat × Nat) × List (Nat × Nat) × List (Nat × Nat))} {e : List (Nat × Nat)} {b B : Nat}, lo ≤ b → B ≤ hi → MLaw τ u w b B r e → MLaw τ' u w b B r e := by
  intro r
  induction r with
  | nil =>
    intro e b B hb hB hm
    obtain ⟨m1, m2, p, m3, m4, m5, m6, m7⟩ := hm
    refine ⟨m1, by rw [h 16 b (by omega) (by omega) hb (by omega)]; exact m2, p, m3, m4, by rw [h 19 b (by omega) (by omega) hb (by omega)]; exact m5, by rw [h 20 b (by omega) (by omega) hb (by omega)]; exact m6, ?_⟩
    exact CM_congr (fun i a c => ⟨hc 21 i (by omega) (by omega) (by omega) (by omega), hc 22 i (by omega) (by omega) (by omega) (by omega)⟩) m7
  | cons x r ih =>
    intro e b B hb hB hm
    obtain ⟨m1, ⟨p, q, m, m0, hq, hmm, m2, m3, m4, m5, m6, m7, m8, m9⟩, m10⟩ := hm
    have hle := MLaw_le m10
    refine ⟨by rw [h 16 b (by omega) (by omega) hb (by omega)]; exact m1, ⟨p, q, m, m0, hq, hmm, m2, by rw [h 17 b (by omega) (by omega) hb (by omega)]; exact m3, by rw [h 18 b (by omega) (by omega) hb (by omega)]; exact m4, by rw [h 19 b (by omega) (by omega) hb (by omega)]; exact m5, by rw [h 20 b (by omega) (by omega) hb (by omega)]; exact m6, ?_, ?_, ?_⟩, ih (by omega) hB m10⟩
    · exact CM_congr (fun i a c => ⟨hc 21 i (by omega) (by omega) (by omega) (by omega), hc 22 i (by omega) (by omega) (by omega) (by omega)⟩) m7
    · exact CM_congr (fun i a c => ⟨hc 21 i (by omega) (by omega) (by omega) (by omega), hc 22 i (by omega) (by omega) (by omega) (by omega)⟩) m8
    · exact CM_congr (fun i a c => ⟨hc 21 i (by omega) (by omega) (by omega) (by omega), hc 22 i (by omega) (by omega) (by omega) (by omega)⟩) m9
theorem MLaw_fl {τ τ' : St} {u w : Nat} (h : fl τ τ') {r : List (List (Nat × Nat) × List (Nat × Nat) × List (Nat × Nat))} {e : List (Nat × Nat)} {b B : Nat} (hm : MLaw τ u w b B r e) : MLaw τ' u w b B r e :=
  MLaw_congr (lo := 0) (hi := B) (fun c i _ _ _ _ => by rw [h.1 c (by omega) (by omega) (by omega)]) (fun c i _ _ _ _ => by rw [h.1 c (by omega) (by omega) (by omega)]) (Nat.zero_le _) (Nat.le_refl _) hm
theorem M_last {vs : Nat → Int32} {p : Nat} {e : List (Nat × Nat)} {τ : St} (hq : p + e.length ≤ 840) (hok : okR e 0) (hc : CM (τ.1 21) (τ.1 22) p e) (hvs : ∀ k, k < 9 → τ.1 24 k = vs k) (h0 : τ.1 0 42 = 0) :
    ∃ τ', fl τ τ' ∧ (bnd2 (f_X11_termOf τ (nI p) (nI (p + e.length))) fun v16 σ17 => if (σ17.1 0 42) = 0 then (some (.inr (.inr (v16, σ17)))) else (some (.inr (.inr ((0 : Int32), σ17))))) = (some (.inr (.inr ((val vs e).getD 0, τ'))) : Option ((St × Int32) ⊕ ((St) ⊕ (Int32 × St)))) := by
  obtain ⟨τ', a1, a2, a3, a4⟩ := M_termOf (vs := vs) hq hok hc rfl hvs
  refine ⟨τ', a1, ?_⟩
  rw [bnd2_eq a3]
  rcases a4 with ⟨b1, b2⟩ | ⟨b1, b2⟩
  · rw [if_pos (by rw [b2]; exact h0)]
  · rw [if_neg (by rw [b2]; decide)]
    cases hv : val vs e with
    | none => rfl
    | some x => rw [hv] at b1; cases b1
theorem M_tellsrun {vs : Nat → Int32} {at' B u w : Nat} (hat : at' < 8) (hB : B ≤ 260) (hw : w ≤ 840) : ∀ (r : List (List (Nat × Nat) × List (Nat × Nat) × List (Nat × Nat))) (e : List (Nat × Nat)) (b f : Nat) (τ : St), okL r e → MLaw τ u w b B r e → τ.1 15 at' = nI B → (∀ k, k < 9 → τ.1 24 k = vs k) → τ.1 0 42 = 0 →
    ∃ τ', fl τ τ' ∧ lp (sTells (nI at')) (f + (B - b)) (τ, nI b) = some (.inr (lawV vs r e, τ')) := by
  have e8 : ib (nI at') 8 = true := ib_t (by omega) (by omega)
  have g8 : (nI at').toNatClampNeg = at' := nI_clamp (by omega)
  intro r
  induction r with
  | nil =>
    intro e b f τ hok hm hl hvs h0
    obtain ⟨m1, m2, p, m0, m3, m4, m5, m6⟩ := hm
    obtain ⟨τ', a1, a2⟩ := M_last (vs := vs) (p := p) (by omega) hok m6 hvs h0
    refine ⟨τ', a1, ?_⟩
    have e1 : ¬ nI B ≤ nI b := fun z => by have := (nI_leN (by omega) (by omega)).mp z; omega
    have e2 : ib (nI b) 260 = true := ib_t (by omega) (by omega)
    have g1 : (nI b).toNatClampNeg = b := nI_clamp (by omega)
    rw [show f + (B - b) = f + 1 by omega]
    refine lp_out ?_
    unfold sTells un2
    dsimp only
    rw [if_ib e8, g8, hl, if_neg e1, if_ib e2, wlet_eq, g1, m2, if_pos rfl]
    dsimp only
    rw [if_ib e2, if_ib e2, m4, m5]
    exact a2
  | cons x r ih =>
    intro e b f τ hok hm hl hvs h0
    have hle := MLaw_le hm.2.2
    obtain ⟨m1, ⟨p, q, m, m0, hq, hmm, m2, m3, m4, m5, m6, m7, m8, m9⟩, m10⟩ := hm
    obtain ⟨o1, o2, o3, o4⟩ := hok
    have e1 : ¬ nI B ≤ nI b := fun z => by have := (nI_leN (by omega) (by omega)).mp z; omega
    have e2 : ib (nI b) 260 = true := ib_t (by omega) (by omega)
    have g1 : (nI b).toNatClampNeg = b := nI_clamp (by omega)
    obtain ⟨τ1, a1, a2, a3, a4⟩ := M_termOf (vs := vs) (p := p) (q := q) (by omega) o1 m7 (by omega) hvs
    obtain ⟨τ2, b1, b2, b3, b4⟩ := M_termOf (vs := vs) (τ := τ1) (p := q) (q := m) (by omega) o2 (by rw [a1.1 21 (by omega) (by omega) (by omega), a1.1 22 (by omega) (by omega) (by omega)]; exact m8) (by omega) (fun k hk => by rw [a2]; exact hvs k hk)
    have fl2 : fl τ τ2 := fl_trans a1 b1
    have v2 : ∀ k, k < 9 → τ2.1 24 k = vs k := fun k hk => by rw [b2, a2]; exact hvs k hk
    have st : ∀ (P : Option ((St × Int32) ⊕ ((St) ⊕ (Int32 × St)))), (if (τ2.1 0 42) = 0 then (if (val vs x.1).getD 0 < (val vs x.2.1).getD 0 then (bnd2 (f_X11_termOf τ2 (nI m) (nI (m + x.2.2.length))) fun v16 σ17 => if (σ17.1 0 42) = 0 then (some (.inr (.inr (v16, σ17)))) else (some (.inr (.inr ((0 : Int32), σ17))))) else (some (.inl (τ2, nI (b + 1))))) else (some (.inr (.inr ((0 : Int32), τ2))))) = P → sTells (nI at') (τ, nI b) = P := by
      intro P hP
      unfold sTells un2
      dsimp only
      rw [if_ib e8, g8, hl, if_neg e1, if_ib e2, wlet_eq, g1, if_neg m1, if_ib e2, if_ib e2, m3, m4, bnd2_eq a3, if_ib e2, if_ib e2, a1.1 18 (by omega) (by omega) (by omega), a1.1 19 (by omega) (by omega) (by omega), m4, m5, bnd2_eq b3, ← hP]
      by_cases z : τ2.1 0 42 = 0
      · rw [if_pos z, if_pos z]
        by_cases y : (val vs x.1).getD 0 < (val vs x.2.1).getD 0
        · rw [if_pos y, if_pos y]
          dsimp only
          rw [if_ib e2, if_ib e2, fl2.1 19 (by omega) (by omega) (by omega), fl2.1 20 (by omega) (by omega) (by omega), m5, m6]
        · rw [if_neg y, if_neg y, wlet_eq, nI_succ]
      · rw [if_neg z, if_neg z]
    rw [show f + (B - b) = f + (B - (b + 1)) + 1 by omega]
    cases hv1 : val vs x.1 with
    | none =>
      have z : τ2.1 0 42 = 1 ∨ τ2.1 0 42 = τ1.1 0 42 := by rcases b4 with b4 | b4; exact Or.inr b4.2; exact Or.inl b4.2
      have z1 : τ1.1 0 42 = 1 := by
        rcases a4 with a4 | a4
        · rw [hv1] at a4; cases a4.1
        · exact a4.2
      have z2 : ¬ τ2.1 0 42 = 0 := by
        rcases z with z | z
        · rw [z]; decide
        · rw [z, z1]; decide
      refine ⟨τ2, fl2, lp_out (st _ ?_)⟩
      rw [if_neg z2, lawV, hv1]
    | some u =>
      cases hv2 : val vs x.2.1 with
      | none =>
        have z2 : ¬ τ2.1 0 42 = 0 := by
          rcases b4 with b4 | b4
          · rw [hv2] at b4; cases b4.1
          · rw [b4.2]; decide
        refine ⟨τ2, fl2, lp_out (st _ ?_)⟩
        rw [if_neg z2, lawV, hv1, hv2]
      | some w =>
        have z2 : τ2.1 0 42 = 0 := by
          rcases b4 with b4 | b4
          · rcases a4 with a4 | a4
            · rw [b4.2, a4.2, h0]
            · rw [hv1] at a4; cases a4.1
          · rw [hv2] at b4; cases b4.1
        have st' := st
        rw [hv1, hv2] at st'
        rw [lawV, hv1, hv2]
        dsimp only
        by_cases y : u < w
        · obtain ⟨τ', c1, c2⟩ := M_last (vs := vs) (τ := τ2) (p := m) (by omega) o3 (by rw [fl2.1 21 (by omega) (by omega) (by omega), fl2.1 22 (by omega) (by omega) (by omega)]; exact m9) v2 z2
          refine ⟨τ', fl_trans fl2 c1, lp_out (st' _ ?_)⟩
          rw [if_pos z2, if_pos y]
          show (if u < w then _ else _) = _
          rw [if_pos y]
          exact c2
        · obtain ⟨τ', c1, c2⟩ := ih e (b + 1) f τ2 o4 (MLaw_fl fl2 m10) (by rw [fl2.1 15 (by omega) (by omega) (by omega)]; exact hl) v2 z2
          refine ⟨τ', fl_trans fl2 c1, ?_⟩
          rw [lp_step (st' (.some (.inl (τ2, nI (b + 1)))) (by
            rw [if_pos z2]
            show (if u < w then _ else _) = _
            rw [if_neg y])), if_neg y]
          exact c2
theorem lawTells_eq (τ : St) (x1 x2 : Int32) : f_X11_lawTells τ x1 x2 = wlet (((4 : Int32) * (τ.1 0 18)) + x1) fun v1 => if ib v1 8 = true then if ib v1 8 = true then if (τ.1 14 (Int32.toNatClampNeg v1)) = (τ.1 15 (Int32.toNatClampNeg v1)) then (some (x2, τ)) else (wlet (si τ 0 42 (0 : Int32)) fun σ5 => if ib v1 8 = true then wlet (σ5.1 14 (Int32.toNatClampNeg v1)) fun v7 => Option.bind (lp (sTells v1) fuel (σ5, v7)) (sumk (fun (σe39_8 : St) => some ((0 : Int32), σe39_8)) (fun m => some m)) else none) else none else none := rfl
/-- the reference's lawTells, where the law is told -/
theorem M_lawTells {vs : Nat → Int32} {at' b B u w : Nat} {r : List (List (Nat × Nat) × List (Nat × Nat) × List (Nat × Nat))} {e : List (Nat × Nat)} {τ : St} {x1 x2 : Int32} (hat : at' < 8) (hat2 : (4 : Int32) * τ.1 0 18 + x1 = nI at') (hB : B ≤ 260) (hw : w ≤ 840) (hok : okL r e) (hm : MLaw τ u w b B r e) (hf : τ.1 14 at' = nI b) (hl : τ.1 15 at' = nI B) (hvs : ∀ k, k < 9 → τ.1 24 k = vs k) :
    ∃ τ', fl τ τ' ∧ f_X11_lawTells τ x1 x2 = some (lawV vs r e, τ') := by
  have hle := MLaw_le hm
  have e8 : ib (nI at') 8 = true := ib_t (by omega) (by omega)
  have g8 : (nI at').toNatClampNeg = at' := nI_clamp (by omega)
  have fb := fl_br τ 0
  obtain ⟨τ', a1, a2⟩ := M_tellsrun (vs := vs) hat hB hw r e b (fuel - (B - b)) (si τ 0 42 0) hok (MLaw_fl fb hm) (by rw [fb.1 15 (by omega) (by omega) (by omega)]; exact hl) (fun k hk => by rw [si_get, if_neg (fun z => by omega)]; exact hvs k hk) (by rw [si_get, if_pos ⟨rfl, rfl⟩])
  rw [show fuel - (B - b) + (B - b) = fuel by rw [fuel_eq]; omega] at a2
  refine ⟨τ', fl_trans fb a1, ?_⟩
  rw [lawTells_eq, wlet_eq, hat2, if_ib e8, if_ib e8, g8, hf, hl, if_neg (fun z => by have := (nI_eqN (by omega) (by omega)).mp z; omega), wlet_eq, if_ib e8, wlet_eq, fb.1 14 (by omega) (by omega) (by omega), hf]
  rw [a2]
  rfl
theorem M_lawPlain {at' : Nat} {τ : St} {x1 x2 : Int32} (hat : at' < 8) (hat2 : (4 : Int32) * τ.1 0 18 + x1 = nI at') (he : τ.1 14 at' = τ.1 15 at') : f_X11_lawTells τ x1 x2 = some (x2, τ) := by
  have e8 : ib (nI at') 8 = true := ib_t (by omega) (by omega)
  have g8 : (nI at').toNatClampNeg = at' := nI_clamp (by omega)
  unfold f_X11_lawTells
  rw [wlet_eq, hat2, if_ib e8, if_ib e8, g8, if_pos he]
