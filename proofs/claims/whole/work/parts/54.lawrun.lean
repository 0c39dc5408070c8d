/-! STAGE B, 5: the class: an expression, a law -/
/-- int cells outside lo..hi and all long cells are as they were -/
def fr (lo hi : Nat) (σ σ' : St) : Prop := (∀ c, c < lo ∨ hi < c → σ'.1 c = σ.1 c) ∧ σ'.2 = σ.2
theorem fr_refl (lo hi : Nat) (σ : St) : fr lo hi σ σ := ⟨fun _ _ => rfl, rfl⟩
theorem fr_trans {lo hi : Nat} {a b c : St} (h1 : fr lo hi a b) (h2 : fr lo hi b c) : fr lo hi a c :=
  ⟨fun k hk => (h2.1 k hk).trans (h1.1 k hk), h2.2.trans h1.2⟩
theorem fr_mono {lo hi lo' hi' : Nat} {a b : St} (h : fr lo hi a b) (h1 : lo' ≤ lo) (h2 : hi ≤ hi') : fr lo' hi' a b :=
  ⟨fun k hk => h.1 k (by omega), h.2⟩
theorem fr_si {lo hi : Nat} (σ : St) (c i : Nat) (v : Int32) (h : lo ≤ c ∧ c ≤ hi) : fr lo hi σ (si σ c i v) := by
  refine ⟨fun k hk => ?_, rfl⟩
  funext j
  rw [si_get, if_neg (fun q => by omega)]
theorem SR_push {σ : St} {b : Nat} {s : List Int32} (x : Int32) (h : SR (σ.1 23) b s) : SR ((si σ 23 (b + s.length) x).1 23) b (x :: s) := by
  refine ⟨by rw [si_get, if_pos ⟨rfl, rfl⟩], SR_congr (fun i hi => ?_) h⟩
  rw [si_get, if_neg (fun q => by omega)]
theorem C_run {vs : Nat → Int32} {b L : Nat} (hb : b ≤ 1) (hL2 : L ≤ 420) : ∀ (l : List (Nat × Nat)) (s : List Int32) (σ : St) (p f : Nat), okR l s.length → s.length ≤ 15 → SR (σ.1 23) b s → CA (σ.1 5) p l → σ.1 4 5 = nI L → p + l.length ≤ L → (∀ k, k < 9 → σ.1 22 k = vs k) →
    ∃ σ', fr 23 23 σ σ' ∧ (∀ i, i < b → σ'.1 23 i = σ.1 23 i) ∧ ((∃ x, ex vs l s = some [x] ∧ σ'.1 23 b = x ∧ lp sLaw (f + l.length) (σ, nI (b + s.length), nI p) = lp sLaw f (σ', nI (b + 1), nI (p + l.length))) ∨ (ex vs l s = none ∧ lp sLaw (f + l.length) (σ, nI (b + s.length), nI p) = some (.inr (0, σ')))) := by
  intro l
  induction l with
  | nil =>
    intro s σ p f hok _ hs _ _ _ _
    have hok : s.length = 1 := hok
    obtain ⟨x, rfl⟩ : ∃ x, s = [x] := by
      cases s with
      | nil => cases hok
      | cons x s => cases s with
        | nil => exact ⟨x, rfl⟩
        | cons y s => simp at hok
    exact ⟨σ, fr_refl _ _ _, fun _ _ => rfl, Or.inl ⟨x, rfl, hs.1, rfl⟩⟩
  | cons x l ih =>
    intro s σ p f hok hs15 hs hc hL hp hvs
    rw [List.length_cons] at hp
    have hlen : f + (x :: l).length = (f + l.length) + 1 := by rw [List.length_cons]; omega
    have hpl : p + (x :: l).length = p + 1 + l.length := by rw [List.length_cons]; omega
    rw [hlen, hpl]
    have keep : ∀ (i : Nat) (v : Int32), b ≤ i → ((∀ j, j < b → (si σ 23 i v).1 23 j = σ.1 23 j) ∧ (si σ 23 i v).1 4 5 = nI L ∧ CA ((si σ 23 i v).1 5) (p + 1) l ∧ (∀ k, k < 9 → (si σ 23 i v).1 22 k = vs k)) := by
      intro i v hi
      refine ⟨fun j hj => by rw [si_get, if_neg (fun q => by omega)], by rw [si_get, if_neg (fun q => by omega)]; exact hL, ?_, fun k hk => by rw [si_get, if_neg (fun q => by omega)]; exact hvs k hk⟩
      exact CA_congr (fun j _ _ => by rw [si_get, if_neg (fun q => by omega)]) hc.2
    by_cases h0 : x.1 = 0
    · rw [okR_cons0 h0] at hok
      rw [ex_cons0 h0]
      have H : LawSt σ L p 0 x.2 := ⟨hL, hL2, by omega, by rw [hc.1, h0], by omega, by omega⟩
      rw [lp_step (sLaw_int H (hh := b + s.length) (by omega))]
      obtain ⟨k1, k2, k3, k4⟩ := keep (b + s.length) (nI x.2) (by omega)
      obtain ⟨σ', a1, a2, a3⟩ := ih (nI x.2 :: s) _ (p + 1) f (by rw [List.length_cons]; exact hok.2.2) (by rw [List.length_cons]; omega) (SR_push _ hs) k3 k2 (by omega) k4
      exact ⟨σ', fr_trans (fr_si _ _ _ _ (by omega)) a1, fun i hi => (a2 i hi).trans (k1 i hi), a3⟩
    · by_cases h1 : x.1 = 1
      · rw [okR_cons1 h1] at hok
        rw [ex_cons1 h1]
        have H : LawSt σ L p 1 x.2 := ⟨hL, hL2, by omega, by rw [hc.1, h1], by omega, by omega⟩
        rw [lp_step (sLaw_var H (hh := b + s.length) (by omega) hok.1), hvs _ hok.1]
        obtain ⟨k1, k2, k3, k4⟩ := keep (b + s.length) (vs x.2) (by omega)
        obtain ⟨σ', a1, a2, a3⟩ := ih (vs x.2 :: s) _ (p + 1) f (by rw [List.length_cons]; exact hok.2.2) (by rw [List.length_cons]; omega) (SR_push _ hs) k3 k2 (by omega) k4
        exact ⟨σ', fr_trans (fr_si _ _ _ _ (by omega)) a1, fun i hi => (a2 i hi).trans (k1 i hi), a3⟩
      · have h2 : 2 ≤ x.1 := by omega
        rw [okR_cons2 h2] at hok
        obtain ⟨y, z, s', rfl⟩ : ∃ y z s', s = y :: z :: s' := by
          cases s with
          | nil => exact absurd hok.2.2.1 (by simp)
          | cons y s => cases s with
            | nil => exact absurd hok.2.2.1 (by simp)
            | cons z s' => exact ⟨y, z, s', rfl⟩
        rw [ex_cons2 h2]
        simp only [List.length_cons] at hok hs15
        obtain ⟨o5, o0, _, hok⟩ := hok
        have H : LawSt σ L p x.1 x.2 := ⟨hL, hL2, by omega, hc.1, by omega, by omega⟩
        have hz : σ.1 23 (b + s'.length) = z := hs.2.1
        have hy : σ.1 23 (b + s'.length + 1) = y := hs.1
        have st := sLaw_op H (hh := b + s'.length) (by omega) h2 o5
        rw [hz, hy] at st
        simp only [List.length_cons]
        rw [show b + (s'.length + 1 + 1) = b + s'.length + 2 by omega]
        by_cases q : x.1 = 5 ∧ y = 0
        · rw [if_pos q] at st
          rw [if_pos q]
          exact ⟨σ, fr_refl _ _ _, fun _ _ => rfl, Or.inr ⟨rfl, lp_out st⟩⟩
        · rw [if_neg q] at st
          rw [if_neg q, lp_step st]
          obtain ⟨k1, k2, k3, k4⟩ := keep (b + s'.length) (arO x.1 z y) (by omega)
          obtain ⟨σ', a1, a2, a3⟩ := ih (arO x.1 z y :: s') _ (p + 1) f (by rw [List.length_cons]; exact hok) (by rw [List.length_cons]; omega) (SR_push _ hs.2.2) k3 k2 (by omega) k4
          exact ⟨σ', fr_trans (fr_si _ _ _ _ (by omega)) a1, fun i hi => (a2 i hi).trans (k1 i hi), a3⟩
/-- a law: tests (left, right, what then) and the last expression -/
def lawV (vs : Nat → Int32) : List (List (Nat × Nat) × List (Nat × Nat) × List (Nat × Nat)) → List (Nat × Nat) → Int32
  | [], e => (val vs e).getD 0
  | x :: r, e => match val vs x.1, val vs x.2.1 with
    | some a, some b => if a < b then (val vs x.2.2).getD 0 else lawV vs r e
    | _, _ => 0
def okL : List (List (Nat × Nat) × List (Nat × Nat) × List (Nat × Nat)) → List (Nat × Nat) → Prop
  | [], e => okR e 0
  | x :: r, e => okR x.1 0 ∧ okR x.2.1 0 ∧ okR x.2.2 0 ∧ okL r e
/-- a law in the class's steps from p to q -/
def CLaw (f : Nat → Int32) : Nat → Nat → List (List (Nat × Nat) × List (Nat × Nat) × List (Nat × Nat)) → List (Nat × Nat) → Prop
  | p, q, [], e => CA f p (e ++ [(7, 0)]) ∧ q = p + e.length + 1
  | p, q, x :: r, e => ∃ m, m = p + x.1.length + x.2.1.length + x.2.2.length + 2 ∧ CA f p (x.1 ++ x.2.1 ++ (6, m) :: x.2.2 ++ [(7, 0)]) ∧ CLaw f m q r e
theorem val_some {vs : Nat → Int32} {l : List (Nat × Nat)} {x : Int32} (h : ex vs l [] = some [x]) : val vs l = some x := by rw [val, h]; rfl
theorem val_none {vs : Nat → Int32} {l : List (Nat × Nat)} (h : ex vs l [] = none) : val vs l = none := by rw [val, h]; rfl
theorem CLaw_le {f : Nat → Int32} : ∀ {r : List (List (Nat × Nat) × List (Nat × Nat) × List (Nat × Nat))} {e : List (Nat × Nat)} {p q : Nat}, CLaw f p q r e → p < q := by
  intro r
  induction r with
  | nil => intro e p q h; have := h.2; omega
  | cons x r ih =>
    intro e p q h
    obtain ⟨m, hm, _, h3⟩ := h
    have := ih h3
    omega
theorem C_end {vs : Nat → Int32} {L : Nat} (hL2 : L ≤ 420) {e : List (Nat × Nat)} {σ : St} {p f : Nat} (hok : okR e 0) (hc : CA (σ.1 5) p (e ++ [(7, 0)])) (hL : σ.1 4 5 = nI L) (hp : p + e.length + 1 ≤ L) (hvs : ∀ k, k < 9 → σ.1 22 k = vs k) :
    ∃ σ', fr 23 23 σ σ' ∧ lp sLaw (f + (e.length + 1)) (σ, nI 0, nI p) = some (.inr ((val vs e).getD 0, σ')) := by
  obtain ⟨c1, c2⟩ := CA_append.mp hc
  obtain ⟨σ', a1, a2, a3⟩ := C_run (vs := vs) (b := 0) (by omega) hL2 e [] σ p (f + 1) hok (by simp) trivial c1 hL (by omega) hvs
  rw [show f + (e.length + 1) = f + 1 + e.length by omega]
  rcases a3 with ⟨x, b1, b2, b3⟩ | ⟨b1, b2⟩
  · refine ⟨σ', a1, ?_⟩
    have b3 : lp sLaw (f + 1 + e.length) (σ, nI 0, nI p) = lp sLaw (f + 1) (σ', nI (0 + 1), nI (p + e.length)) := b3
    have H : LawSt σ' L (p + e.length) 7 0 := by
      refine ⟨?_, hL2, by omega, ?_, by omega, by omega⟩
      · rw [a1.1 4 (by omega)]; exact hL
      · rw [a1.1 5 (by omega)]; exact c2.1
    rw [b3, lp_out (sLaw_fin H (hh := 0) (by omega)), b2, val_some b1]
    rfl
  · refine ⟨σ', a1, ?_⟩
    have b2 : lp sLaw (f + 1 + e.length) (σ, nI 0, nI p) = some (.inr (0, σ')) := b2
    rw [b2, val_none b1]
    rfl
theorem C_lawrun {vs : Nat → Int32} {L : Nat} (hL2 : L ≤ 420) : ∀ (r : List (List (Nat × Nat) × List (Nat × Nat) × List (Nat × Nat))) (e : List (Nat × Nat)) (p q f : Nat) (σ : St), okL r e → CLaw (σ.1 5) p q r e → σ.1 4 5 = nI L → q ≤ L → (∀ k, k < 9 → σ.1 22 k = vs k) →
    ∃ σ', fr 23 23 σ σ' ∧ lp sLaw (f + (q - p)) (σ, nI 0, nI p) = some (.inr (lawV vs r e, σ')) := by
  intro r
  induction r with
  | nil =>
    intro e p q f σ hok hc hL hq hvs
    obtain ⟨c1, c2⟩ := hc
    rw [show q - p = e.length + 1 by omega]
    exact C_end hL2 hok c1 hL (by omega) hvs
  | cons x r ih =>
    intro e p q f σ hok hc hL hq hvs
    obtain ⟨m, hm, c1, c2⟩ := hc
    have hmq := CLaw_le c2
    obtain ⟨o1, o2, o3, o4⟩ := hok
    obtain ⟨d1, d4⟩ := CA_append.mp c1
    obtain ⟨d1, d3⟩ := CA_append.mp d1
    obtain ⟨d1, d2⟩ := CA_append.mp d1
    rw [List.length_append] at d3 d4
    rw [List.length_append, List.length_cons] at d4
    have d5 : CA (σ.1 5) (p + x.1.length + x.2.1.length + 1) (x.2.2 ++ [(7, 0)]) := by
      refine CA_append.mpr ⟨?_, ?_⟩
      · have := d3.2
        rwa [show p + (x.1.length + x.2.1.length) + 1 = p + x.1.length + x.2.1.length + 1 by omega] at this
      · rwa [show p + (x.1.length + x.2.1.length + (x.2.2.length + 1)) = p + x.1.length + x.2.1.length + 1 + x.2.2.length by omega] at d4
    have d6 : σ.1 5 (p + x.1.length + x.2.1.length) = nI (8 * m + 6) := by
      have := d3.1
      rwa [show p + (x.1.length + x.2.1.length) = p + x.1.length + x.2.1.length by omega] at this
    obtain ⟨σ1, a1, a2, a3⟩ := C_run (vs := vs) (b := 0) (by omega) hL2 x.1 [] σ p (f + (q - p) - x.1.length) o1 (by simp) trivial d1 hL (by omega) hvs
    rw [show f + (q - p) - x.1.length + x.1.length = f + (q - p) by omega] at a3
    rcases a3 with ⟨u, b1, b2, b3⟩ | ⟨b1, b2⟩
    · have b3 : lp sLaw (f + (q - p)) (σ, nI 0, nI p) = lp sLaw (f + (q - p) - x.1.length) (σ1, nI (0 + 1), nI (p + x.1.length)) := b3
      obtain ⟨σ2, g1, g2, g3⟩ := C_run (vs := vs) (b := 1) (by omega) hL2 x.2.1 [] σ1 (p + x.1.length) (f + (q - p) - x.1.length - x.2.1.length) o2 (by simp) trivial (by rw [a1.1 5 (by omega)]; exact d2) (by rw [a1.1 4 (by omega)]; exact hL) (by omega) (fun k hk => by rw [a1.1 22 (by omega)]; exact hvs k hk)
      rw [show f + (q - p) - x.1.length - x.2.1.length + x.2.1.length = f + (q - p) - x.1.length by omega] at g3
      rw [b3]
      have fr2 : fr 23 23 σ σ2 := fr_trans a1 g1
      rcases g3 with ⟨w, i1, i2, i3⟩ | ⟨i1, i2⟩
      · have i3 : lp sLaw (f + (q - p) - x.1.length) (σ1, nI (0 + 1), nI (p + x.1.length)) = lp sLaw (f + (q - p) - x.1.length - x.2.1.length) (σ2, nI (0 + 2), nI (p + x.1.length + x.2.1.length)) := i3
        rw [i3]
        have H : LawSt σ2 L (p + x.1.length + x.2.1.length) 6 m := by
          refine ⟨?_, hL2, by omega, ?_, by omega, by omega⟩
          · rw [fr2.1 4 (by omega)]; exact hL
          · rw [fr2.1 5 (by omega)]; exact d6
        have st := sLaw_unl H (hh := 0) (by omega) (by omega)
        rw [show (0 : Nat) + 1 = 1 from rfl, i2, show σ2.1 23 0 = u from (g2 0 (by omega)).trans b2] at st
        rw [show f + (q - p) - x.1.length - x.2.1.length = f + (q - p) - x.1.length - x.2.1.length - 1 + 1 by omega, lp_step st]
        rw [lawV, val_some b1, val_some i1]
        dsimp only
        by_cases hlt : u < w
        · rw [if_pos hlt, if_pos hlt, show f + (q - p) - x.1.length - x.2.1.length - 1 = f + (q - m) + (x.2.2.length + 1) by omega]
          obtain ⟨σ3, j1, j2⟩ := C_end (vs := vs) (f := f + (q - m)) hL2 (σ := σ2) (p := p + x.1.length + x.2.1.length + 1) o3 (by rw [fr2.1 5 (by omega)]; exact d5) (by rw [fr2.1 4 (by omega)]; exact hL) (by omega) (fun k hk => by rw [fr2.1 22 (by omega)]; exact hvs k hk)
          exact ⟨σ3, fr_trans fr2 j1, j2⟩
        · rw [if_neg hlt, if_neg hlt, show f + (q - p) - x.1.length - x.2.1.length - 1 = f + x.2.2.length + 1 + (q - m) by omega]
          obtain ⟨σ3, j1, j2⟩ := ih e m q (f + x.2.2.length + 1) σ2 o4 (by rw [fr2.1 5 (by omega)]; exact c2) (by rw [fr2.1 4 (by omega)]; exact hL) hq (fun k hk => by rw [fr2.1 22 (by omega)]; exact hvs k hk)
          exact ⟨σ3, fr_trans fr2 j1, j2⟩
      · refine ⟨σ2, fr2, ?_⟩
        have i2 : lp sLaw (f + (q - p) - x.1.length) (σ1, nI (0 + 1), nI (p + x.1.length)) = some (.inr (0, σ2)) := i2
        rw [i2, lawV, val_some b1, val_none i1]
    · refine ⟨σ1, a1, ?_⟩
      have b2 : lp sLaw (f + (q - p)) (σ, nI 0, nI p) = some (.inr (0, σ1)) := b2
      rw [b2, lawV, val_none b1]
/-- the class's lawFor, where the law k stands in the text's steps -/
theorem C_lawFor {vs : Nat → Int32} {L k p q : Nat} {r : List (List (Nat × Nat) × List (Nat × Nat) × List (Nat × Nat))} {e : List (Nat × Nat)} {σ : St} {d : Int32} (hk : k < 4) (hL2 : L ≤ 420) (hok : okL r e) (hst : σ.1 6 k = nI p) (hc : CLaw (σ.1 5) p q r e) (hL : σ.1 4 5 = nI L) (hq : q ≤ L) (h0 : vs 0 = d) (hvs : ∀ k, k < 9 → k ≠ 0 → σ.1 22 k = vs k) :
    ∃ σ', fr 22 23 σ σ' ∧ f_X1_lawFor σ (nI k) d = some (lawV vs r e, σ') ∧ (∀ k, k < 9 → k ≠ 0 → σ'.1 22 k = σ.1 22 k) := by
  have hpq := CLaw_le hc
  have e0 : ib (0 : Int32) 9 = true := by decide
  have f1 : fr 22 23 σ (si σ 22 0 d) := fr_si _ _ _ _ (by omega)
  obtain ⟨σ', a1, a2⟩ := C_lawrun (vs := vs) (f := fuel - (q - p)) hL2 r e p q (σ := si σ 22 0 d) hok (by rw [f1.1 5 (by omega)]; exact hc) (by rw [f1.1 4 (by omega)]; exact hL) hq (fun j hj => by
    rw [si_get]
    by_cases z : j = 0
    · rw [if_pos ⟨rfl, z⟩, z, h0]
    · rw [if_neg (fun w => z w.2)]; exact hvs j hj z)
  rw [show fuel - (q - p) + (q - p) = fuel by rw [fuel_eq]; omega] at a2
  have f2 : fr 22 23 σ σ' := fr_trans f1 (fr_mono a1 (by omega) (by omega))
  refine ⟨σ', f2, ?_, fun j hj hz => ?_⟩
  · have n1 : ¬ nI k < 0 := nI_pos (by omega)
    have n2 : ¬ (4 : Int32) ≤ nI k := fun z => by have := (nI_leN (a := 4) (by omega) (by omega)).mp z; omega
    have n3 : ib (nI k) 4 = true := ib_t (by omega) (by omega)
    have n4 : (nI k).toNatClampNeg = k := nI_clamp (by omega)
    have n5 : mx (0 : Int32) (nI p) = nI p := by
      unfold mx
      by_cases z : (0 : Int32) < nI p
      · rw [if_pos z]
      · rw [if_neg z]
        have : ¬ 0 < p := fun y => z ((nI_ltN (a := 0) (by omega) (by omega)).mpr y)
        rw [show p = 0 by omega]
        decide
    have n6 : (si σ 22 0 d).1 6 k = nI p := by rw [f1.1 6 (by omega)]; exact hst
    have a2 : lp sLaw fuel (si σ 22 0 d, 0, nI p) = some (.inr (lawV vs r e, σ')) := a2
    show (if ib (0 : Int32) 9 = true then _ else _) = _
    rw [if_ib e0, c0, wlet_eq, wlet_eq, wlet_eq, if_neg n1, if_neg n2, if_ib n3, n4, n6]
    show wlet (mx 0 (nI p)) _ = _
    rw [n5, wlet_eq]
    show Option.bind (lp sLaw fuel (si σ 22 0 d, 0, nI p)) _ = _
    rw [a2]
    rfl
  · rw [a1.1 22 (by omega), si_get, if_neg (fun w => hz w.2)]
