/-! STAGE B, 6: the reference gives sentence by the code of a law -/
def sTerm (x2 : Int32) : St × Int32 × Int32 → Option ((St × Int32 × Int32) ⊕ ((St) ⊕ (Int32 × St))) :=
  un3 (fun (σ5_1 : St) (x3_5_1 : Int32) (x4_5_1 : Int32) => if x2 ≤ x4_5_1 then (some (.inr (.inl σ5_1))) else (if ib x4_5_1 840 = true then wlet (σ5_1.1 21 (Int32.toNatClampNeg x4_5_1)) fun v5 => if (2 : Int32) ≤ v5 then (wlet (x3_5_1 + (-1 : Int32)) fun v7 => if ib (v7 - (1 : Int32)) 400 = true then wlet (σ5_1.1 25 (Int32.toNatClampNeg (v7 - (1 : Int32)))) fun v9 => if ib v7 400 = true then wlet (σ5_1.1 25 (Int32.toNatClampNeg v7)) fun v11 => wlet (fun (_ : Unit) => (if v5 = (2 : Int32) then (if ib (v7 - (1 : Int32)) 400 = true then wlet (si σ5_1 25 (Int32.toNatClampNeg (v7 - (1 : Int32))) (v9 + v11)) fun σ27 => wlet (x4_5_1 + (1 : Int32)) fun v28 => some (.inl (σ27, v7, v28)) else none) else (if v5 = (3 : Int32) then (if ib (v7 - (1 : Int32)) 400 = true then wlet (si σ5_1 25 (Int32.toNatClampNeg (v7 - (1 : Int32))) (v9 - v11)) fun σ24 => wlet (x4_5_1 + (1 : Int32)) fun v25 => some (.inl (σ24, v7, v25)) else none) else (if v5 = (4 : Int32) then (if ib (v7 - (1 : Int32)) 400 = true then wlet (si σ5_1 25 (Int32.toNatClampNeg (v7 - (1 : Int32))) (v9 * v11)) fun σ21 => wlet (x4_5_1 + (1 : Int32)) fun v22 => some (.inl (σ21, v7, v22)) else none) else (if v11 = 0 then none else (if ib (v7 - (1 : Int32)) 400 = true then wlet (si σ5_1 25 (Int32.toNatClampNeg (v7 - (1 : Int32))) (v9 / v11)) fun σ18 => wlet (x4_5_1 + (1 : Int32)) fun v19 => some (.inl (σ18, v7, v19)) else none)))) : Option ((St × Int32 × Int32) ⊕ ((St) ⊕ (Int32 × St))))) fun k104_12 => if v5 = (5 : Int32) then (if v11 = 0 then (wlet (si σ5_1 0 42 (1 : Int32)) fun σ31 => some (.inr (.inr ((0 : Int32), σ31)))) else (k104_12 ())) else (k104_12 ()) else none else none) else (if v5 = 0 then (if ib x4_5_1 840 = true then if ib x3_5_1 400 = true then wlet (si σ5_1 25 (Int32.toNatClampNeg x3_5_1) (σ5_1.1 22 (Int32.toNatClampNeg x4_5_1))) fun σ41 => wlet (x3_5_1 + (1 : Int32)) fun v42 => wlet (x4_5_1 + (1 : Int32)) fun v43 => some (.inl (σ41, v42, v43)) else none else none) else (if ib x4_5_1 840 = true then if ib (σ5_1.1 22 (Int32.toNatClampNeg x4_5_1)) 9 = true then if ib x3_5_1 400 = true then wlet (si σ5_1 25 (Int32.toNatClampNeg x3_5_1) (σ5_1.1 24 (Int32.toNatClampNeg (σ5_1.1 22 (Int32.toNatClampNeg x4_5_1))))) fun σ36 => wlet (x3_5_1 + (1 : Int32)) fun v37 => wlet (x4_5_1 + (1 : Int32)) fun v38 => some (.inl (σ36, v37, v38)) else none else none else none)) else none))
def TermSt (τ : St) (q p o v : Nat) : Prop := q ≤ 840 ∧ p < q ∧ τ.1 21 p = nI o ∧ τ.1 22 p = nI v ∧ o < 8 ∧ v < 10000
theorem sTerm_int {τ : St} {q p v hh : Nat} (H : TermSt τ q p 0 v) (h : hh < 400) : sTerm (nI q) (τ, nI hh, nI p) = some (.inl (si τ 25 hh (nI v), nI (hh + 1), nI (p + 1))) := by
  obtain ⟨hq, hp, hc, hd, ho, hv⟩ := H
  have e1 : ¬ nI q ≤ nI p := fun z => by have := (nI_leN (by omega) (by omega)).mp z; omega
  have e3 : ib (nI p) 840 = true := ib_t (by omega) (by omega)
  have e5 : ib (nI hh) 400 = true := ib_t (by omega) (by omega)
  have g1 : (nI p).toNatClampNeg = p := nI_clamp (by omega)
  have g2 : (nI hh).toNatClampNeg = hh := nI_clamp (by omega)
  unfold sTerm un3
  dsimp only
  rw [if_neg e1, if_ib e3, g1, hc, wlet_eq, if_neg (by decide), if_pos (by decide), if_ib e3, if_ib e5, g2, hd, wlet_eq, wlet_eq, wlet_eq, nI_succ, nI_succ]
theorem sTerm_var {τ : St} {q p v hh : Nat} (H : TermSt τ q p 1 v) (h : hh < 400) (h9 : v < 9) : sTerm (nI q) (τ, nI hh, nI p) = some (.inl (si τ 25 hh (τ.1 24 v), nI (hh + 1), nI (p + 1))) := by
  obtain ⟨hq, hp, hc, hd, ho, hv⟩ := H
  have e1 : ¬ nI q ≤ nI p := fun z => by have := (nI_leN (by omega) (by omega)).mp z; omega
  have e3 : ib (nI p) 840 = true := ib_t (by omega) (by omega)
  have e5 : ib (nI hh) 400 = true := ib_t (by omega) (by omega)
  have e8 : ib (nI v) 9 = true := ib_t (by omega) (by omega)
  have g1 : (nI p).toNatClampNeg = p := nI_clamp (by omega)
  have g2 : (nI hh).toNatClampNeg = hh := nI_clamp (by omega)
  have g3 : (nI v).toNatClampNeg = v := nI_clamp (by omega)
  unfold sTerm un3
  dsimp only
  rw [if_neg e1, if_ib e3, g1, hc, wlet_eq, if_neg (by decide), if_neg (by decide), if_ib e3, hd, if_ib e8, if_ib e5, g2, g3, wlet_eq, wlet_eq, wlet_eq, nI_succ, nI_succ]
theorem sTerm_op {τ : St} {q p o v hh : Nat} (H : TermSt τ q p o v) (h : hh + 1 < 400) (h2 : 2 ≤ o) (h5 : o ≤ 5) : sTerm (nI q) (τ, nI (hh + 2), nI p) = if o = 5 ∧ τ.1 25 (hh + 1) = 0 then some (.inr (.inr (0, si τ 0 42 1))) else some (.inl (si τ 25 hh (arO o (τ.1 25 hh) (τ.1 25 (hh + 1))), nI (hh + 1), nI (p + 1))) := by
  obtain ⟨hq, hp, hc, hd, ho, hv⟩ := H
  have e1 : ¬ nI q ≤ nI p := fun z => by have := (nI_leN (by omega) (by omega)).mp z; omega
  have e3 : ib (nI p) 840 = true := ib_t (by omega) (by omega)
  have e2 : (2 : Int32) ≤ nI o := (nI_leN (a := 2) (by omega) (by omega)).mpr h2
  have e5 : ib (nI hh) 400 = true := ib_t (by omega) (by omega)
  have e6 : nI (hh + 2) + (-1 : Int32) = nI (hh + 1) := by
    rw [show nI (hh + 2) = nI (hh + 1) + nI 1 from (nI_add (hh + 1) 1).symm]
    rw [Int32.add_assoc, show nI 1 + (-1 : Int32) = 0 by decide, Int32.add_zero]
  have e7 : nI (hh + 1) - (1 : Int32) = nI hh := nI_sub (b := 1) (by omega)
  have e7' : nI p + (1 : Int32) = nI (p + 1) := (nI_succ p).symm
  have e8 : ib (nI (hh + 1)) 400 = true := ib_t (by omega) (by omega)
  have g1 : (nI p).toNatClampNeg = p := nI_clamp (by omega)
  have g2 : (nI hh).toNatClampNeg = hh := nI_clamp (by omega)
  have g3 : (nI (hh + 1)).toNatClampNeg = hh + 1 := nI_clamp (by omega)
  unfold sTerm un3
  dsimp only
  rw [if_neg e1, if_ib e3, g1, hc, wlet_eq, if_pos e2, e6, wlet_eq, e7, if_ib e5, g2, wlet_eq, if_ib e8, g3, wlet_eq, wlet_eq]
  generalize τ.1 25 hh = a
  generalize τ.1 25 (hh + 1) = b
  by_cases w : o = 5 ∧ b = 0
  · rw [if_pos w, if_pos (by rw [w.1]; decide), if_pos w.2, wlet_eq]
  · rw [if_neg w]
    have done : (if nI o = (2 : Int32) then (if ib (nI hh) 400 = true then wlet (si τ 25 hh (a + b)) fun σ27 => wlet (nI p + (1 : Int32)) fun v28 => some (.inl (σ27, nI (hh + 1), v28)) else none) else (if nI o = (3 : Int32) then (if ib (nI hh) 400 = true then wlet (si τ 25 hh (a - b)) fun σ27 => wlet (nI p + (1 : Int32)) fun v28 => some (.inl (σ27, nI (hh + 1), v28)) else none) else (if nI o = (4 : Int32) then (if ib (nI hh) 400 = true then wlet (si τ 25 hh (a * b)) fun σ27 => wlet (nI p + (1 : Int32)) fun v28 => some (.inl (σ27, nI (hh + 1), v28)) else none) else (if b = 0 then none else (if ib (nI hh) 400 = true then wlet (si τ 25 hh (a / b)) fun σ27 => wlet (nI p + (1 : Int32)) fun v28 => some (.inl (σ27, nI (hh + 1), v28)) else none))))) = (some (.inl (si τ 25 hh (arO o a b), nI (hh + 1), nI (p + 1))) : Option ((St × Int32 × Int32) ⊕ ((St) ⊕ (Int32 × St)))) := by
      have : o = 2 ∨ o = 3 ∨ o = 4 ∨ o = 5 := by omega
      unfold arO
      rcases this with rfl | rfl | rfl | rfl
      · rw [if_pos (by decide), if_ib e5, wlet_eq, wlet_eq, e7', if_pos rfl]
      · rw [if_neg (by decide), if_pos (by decide), if_ib e5, wlet_eq, wlet_eq, e7', if_neg (by decide), if_pos rfl]
      · rw [if_neg (by decide), if_neg (by decide), if_pos (by decide), if_ib e5, wlet_eq, wlet_eq, e7', if_neg (by decide), if_neg (by decide), if_pos rfl]
      · have hb : ¬ b = 0 := fun z => w ⟨rfl, z⟩
        rw [if_neg (by decide), if_neg (by decide), if_neg (by decide), if_neg hb, if_ib e5, wlet_eq, wlet_eq, e7', if_neg (by decide), if_neg (by decide), if_neg (by decide)]
    by_cases h : nI o = (5 : Int32)
    · have ho5 : o = 5 := (nI_eqN (b := 5) (by omega) (by omega)).mp h
      rw [if_pos h, if_neg (fun z => w ⟨ho5, z⟩)]
      exact done
    · rw [if_neg h]
      exact done
/-- the reference's law evaluation leaves all but its pile, its variables and isBroken -/
def fl (τ τ' : St) : Prop := (∀ c, c ≠ 0 → c ≠ 24 → c ≠ 25 → τ'.1 c = τ.1 c) ∧ (∀ i, i ≠ 42 → τ'.1 0 i = τ.1 0 i) ∧ τ'.2 = τ.2
theorem fl_refl (τ : St) : fl τ τ := ⟨fun _ _ _ _ => rfl, fun _ _ => rfl, rfl⟩
theorem fl_trans {a b c : St} (h : fl a b) (h' : fl b c) : fl a c :=
  ⟨fun k h1 h2 h3 => (h'.1 k h1 h2 h3).trans (h.1 k h1 h2 h3), fun i hi => (h'.2.1 i hi).trans (h.2.1 i hi), h'.2.2.trans h.2.2⟩
theorem fl_25 (τ : St) (i : Nat) (v : Int32) : fl τ (si τ 25 i v) := by
  refine ⟨fun c h0 h1 h2 => ?_, fun j hj => ?_, rfl⟩
  · funext k; rw [si_get, if_neg (fun z => h2 z.1)]
  · rw [si_get, if_neg (fun z => by omega)]
theorem fl_24 (τ : St) (i : Nat) (v : Int32) : fl τ (si τ 24 i v) := by
  refine ⟨fun c h0 h1 h2 => ?_, fun j hj => ?_, rfl⟩
  · funext k; rw [si_get, if_neg (fun z => h1 z.1)]
  · rw [si_get, if_neg (fun z => by omega)]
theorem fl_br (τ : St) (v : Int32) : fl τ (si τ 0 42 v) := by
  refine ⟨fun c h0 h1 h2 => ?_, fun j hj => ?_, rfl⟩
  · funext k; rw [si_get, if_neg (fun z => h0 z.1)]
  · rw [si_get, if_neg (fun z => hj z.2)]
theorem SR_push25 {σ : St} {s : List Int32} (x : Int32) (h : SR (σ.1 25) 0 s) : SR ((si σ 25 s.length x).1 25) 0 (x :: s) := by
  refine ⟨by rw [si_get, if_pos ⟨rfl, by omega⟩], SR_congr (fun i hi => ?_) h⟩
  rw [si_get, if_neg (fun q => by omega)]
theorem M_run {vs : Nat → Int32} {q : Nat} (hq : q ≤ 840) : ∀ (l : List (Nat × Nat)) (s : List Int32) (τ : St) (p f : Nat), okR l s.length → s.length ≤ 15 → SR (τ.1 25) 0 s → CM (τ.1 21) (τ.1 22) p l → p + l.length = q → (∀ k, k < 9 → τ.1 24 k = vs k) →
    ∃ τ', fl τ τ' ∧ τ'.1 24 = τ.1 24 ∧ ((∃ x, ex vs l s = some [x] ∧ τ'.1 25 0 = x ∧ τ'.1 0 42 = τ.1 0 42 ∧ lp (sTerm (nI q)) (f + l.length + 1) (τ, nI s.length, nI p) = some (.inl τ')) ∨ (ex vs l s = none ∧ τ'.1 0 42 = 1 ∧ lp (sTerm (nI q)) (f + l.length + 1) (τ, nI s.length, nI p) = some (.inr (0, τ')))) := by
  intro l
  induction l with
  | nil =>
    intro s τ p f hok _ hs _ hp _
    have hok : s.length = 1 := hok
    obtain ⟨x, rfl⟩ : ∃ x, s = [x] := by
      cases s with
      | nil => cases hok
      | cons x s => cases s with
        | nil => exact ⟨x, rfl⟩
        | cons y s => simp at hok
    refine ⟨τ, fl_refl _, rfl, Or.inl ⟨x, rfl, hs.1, rfl, ?_⟩⟩
    have hp : p = q := hp
    subst hp
    exact lp_out (if_pos ((nI_leN (by omega) (by omega)).mpr (Nat.le_refl _)))
  | cons x l ih =>
    intro s τ p f hok hs15 hs hc hp hvs
    rw [List.length_cons] at hp
    have hlen : f + (x :: l).length + 1 = (f + l.length + 1) + 1 := by rw [List.length_cons]; omega
    rw [hlen]
    have keep : ∀ (i : Nat) (v : Int32), CM ((si τ 25 i v).1 21) ((si τ 25 i v).1 22) (p + 1) l ∧ (∀ k, k < 9 → (si τ 25 i v).1 24 k = vs k) := by
      intro i v
      refine ⟨?_, fun k hk => by rw [si_get, if_neg (fun z => by omega)]; exact hvs k hk⟩
      exact CM_congr (fun j _ _ => ⟨by rw [si_get, if_neg (fun z => by omega)], by rw [si_get, if_neg (fun z => by omega)]⟩) hc.2.2
    have k24 : ∀ (i : Nat) (v : Int32), (si τ 25 i v).1 24 = τ.1 24 := fun i v => by funext k; rw [si_get, if_neg (fun z => by omega)]
    have k42 : ∀ (i : Nat) (v : Int32), (si τ 25 i v).1 0 42 = τ.1 0 42 := fun i v => by rw [si_get, if_neg (fun z => by omega)]
    by_cases h0 : x.1 = 0
    · rw [okR_cons0 h0] at hok
      rw [ex_cons0 h0]
      have H : TermSt τ q p 0 x.2 := ⟨hq, by omega, by rw [hc.1, h0], hc.2.1, by omega, by omega⟩
      rw [lp_step (sTerm_int H (hh := s.length) (by omega))]
      obtain ⟨k1, k2⟩ := keep s.length (nI x.2)
      obtain ⟨τ', a1, a2, a3⟩ := ih (nI x.2 :: s) _ (p + 1) f (by rw [List.length_cons]; exact hok.2.2) (by rw [List.length_cons]; omega) (SR_push25 _ hs) k1 (by omega) k2
      rw [k42] at a3
      exact ⟨τ', fl_trans (fl_25 _ _ _) a1, a2.trans (k24 _ _), a3⟩
    · by_cases h1 : x.1 = 1
      · rw [okR_cons1 h1] at hok
        rw [ex_cons1 h1]
        have H : TermSt τ q p 1 x.2 := ⟨hq, by omega, by rw [hc.1, h1], hc.2.1, by omega, by omega⟩
        rw [lp_step (sTerm_var H (hh := s.length) (by omega) hok.1), hvs _ hok.1]
        obtain ⟨k1, k2⟩ := keep s.length (vs x.2)
        obtain ⟨τ', a1, a2, a3⟩ := ih (vs x.2 :: s) _ (p + 1) f (by rw [List.length_cons]; exact hok.2.2) (by rw [List.length_cons]; omega) (SR_push25 _ hs) k1 (by omega) k2
        rw [k42] at a3
        exact ⟨τ', fl_trans (fl_25 _ _ _) a1, a2.trans (k24 _ _), a3⟩
      · have h2 : 2 ≤ x.1 := by omega
        rw [okR_cons2 h2] at hok
        obtain ⟨y, z, s', rfl⟩ : ∃ y z s', s = y :: z :: s' := by
          cases s with
          | nil => exact absurd hok.2.2.1 (by simp)
          | cons y s => cases s with
            | nil => exact absurd hok.2.2.1 (by simp)
            | cons z s' => exact ⟨y, z, s', rfl⟩
        rw [ex_cons2 h2]
        simp only [List.length_cons] at hok hs15
        obtain ⟨o5, o0, _, hok⟩ := hok
        have H : TermSt τ q p x.1 x.2 := ⟨hq, by omega, hc.1, hc.2.1, by omega, by omega⟩
        have hz : τ.1 25 s'.length = z := by have := hs.2.1; rwa [Nat.zero_add] at this
        have hy : τ.1 25 (s'.length + 1) = y := by have := hs.1; rwa [Nat.zero_add] at this
        have st := sTerm_op H (hh := s'.length) (by omega) h2 o5
        rw [hz, hy] at st
        simp only [List.length_cons]
        by_cases w : x.1 = 5 ∧ y = 0
        · rw [if_pos w] at st
          rw [if_pos w]
          exact ⟨si τ 0 42 1, fl_br _ _, by funext k; rw [si_get, if_neg (fun z => by omega)], Or.inr ⟨rfl, by rw [si_get, if_pos ⟨rfl, rfl⟩], lp_out st⟩⟩
        · rw [if_neg w] at st
          rw [if_neg w, lp_step st]
          obtain ⟨k1, k2⟩ := keep s'.length (arO x.1 z y)
          obtain ⟨τ', a1, a2, a3⟩ := ih (arO x.1 z y :: s') _ (p + 1) f (by rw [List.length_cons]; exact hok) (by rw [List.length_cons]; omega) (SR_push25 _ hs.2.2) k1 (by omega) k2
          rw [k42] at a3
          exact ⟨τ', fl_trans (fl_25 _ _ _) a1, a2.trans (k24 _ _), a3⟩
theorem M_termOf {vs : Nat → Int32} {q p : Nat} {l : List (Nat × Nat)} {τ : St} (hq : q ≤ 840) (hok : okR l 0) (hc : CM (τ.1 21) (τ.1 22) p l) (hp : p + l.length = q) (hvs : ∀ k, k < 9 → τ.1 24 k = vs k) :
    ∃ τ', fl τ τ' ∧ τ'.1 24 = τ.1 24 ∧ f_X11_termOf τ (nI p) (nI q) = some ((val vs l).getD 0, τ') ∧ ((val vs l).isSome = true ∧ τ'.1 0 42 = τ.1 0 42 ∨ (val vs l).isSome = false ∧ τ'.1 0 42 = 1) := by
  obtain ⟨τ', a1, a2, a3⟩ := M_run (vs := vs) hq l [] τ p (fuel - l.length - 1) hok (by simp) trivial hc hp hvs
  rw [show fuel - l.length - 1 + l.length + 1 = fuel by rw [fuel_eq]; omega] at a3
  refine ⟨τ', a1, a2, ?_⟩
  unfold f_X11_termOf
  rw [wlet_eq]
  show Option.bind (lp (sTerm (nI q)) fuel (τ, 0, nI p)) _ = _ ∧ _
  rcases a3 with ⟨x, b1, b2, b3, b4⟩ | ⟨b1, b2, b3⟩
  · have b4 : lp (sTerm (nI q)) fuel (τ, 0, nI p) = some (.inl τ') := b4
    rw [b4, val_some b1]
    refine ⟨?_, Or.inl ⟨rfl, b3⟩⟩
    show (if ib (0 : Int32) 400 = true then some (τ'.1 25 (Int32.toNatClampNeg 0), τ') else none) = _
    rw [if_ib (by decide), c0, b2]
    rfl
  · have b3 : lp (sTerm (nI q)) fuel (τ, 0, nI p) = some (.inr (0, τ')) := b3
    rw [b3, val_none b1]
    exact ⟨rfl, Or.inr ⟨rfl, b2⟩⟩
