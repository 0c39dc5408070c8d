/-! STAGE B, 47: the reference reads an expression -/
/-- the reference's tokens, up to the first end -/
def zTm (σ : St) (K P V N : Nat → Nat) : Prop := (∀ i, i ≤ 400 → (∀ j, j < i → K j ≠ 0) → σ.1 3 i = nI (zrk (K i)) ∧ σ.1 4 i = nI (P i) ∧ (K i = 3 → σ.1 5 i = nI (V i)) ∧ (K i = 2 → σ.2 6 i = nL (N i))) ∧ ∀ i, K i ≤ 31
def zfT (σ σ' : St) : Prop := (∀ c, c ≠ 0 → σ'.1 c = σ.1 c) ∧ (∀ i, i ≠ 11 → i ≠ 13 → i ≠ 14 → σ'.1 0 i = σ.1 0 i) ∧ σ'.2 = σ.2
theorem zfT_refl (σ : St) : zfT σ σ := ⟨fun _ _ => rfl, fun _ _ _ _ => rfl, rfl⟩
theorem zfT_trans {a b c : St} (h : zfT a b) (g : zfT b c) : zfT a c := ⟨fun k hk => (g.1 k hk).trans (h.1 k hk), fun i h1 h2 h3 => (g.2.1 i h1 h2 h3).trans (h.2.1 i h1 h2 h3), g.2.2.trans h.2.2⟩
theorem zfT_si (σ : St) (i : Nat) (v : Int32) (h : i = 11 ∨ i = 13 ∨ i = 14) : zfT σ (si σ 0 i v) := ⟨fun c hc => si_ne hc, fun j h1 h2 h3 => by rw [si_get, if_neg (by omega)], rfl⟩
/-- what reading an expression may change -/
def zfM (B E : Nat) (σ σ' : St) : Prop := (∀ c, c ≠ 0 → c ≠ 21 → c ≠ 22 → c ≠ 23 → σ'.1 c = σ.1 c) ∧ (∀ i, i ≠ 11 → i ≠ 12 → i ≠ 13 → i ≠ 14 → i ≠ 35 → i ≠ 39 → σ'.1 0 i = σ.1 0 i) ∧ σ'.2 = σ.2 ∧ ∀ i, (i < B ∨ E ≤ i) → σ'.1 21 i = σ.1 21 i ∧ σ'.1 22 i = σ.1 22 i
theorem zfM_refl (B E : Nat) (σ : St) : zfM B E σ σ := ⟨fun _ _ _ _ _ => rfl, fun _ _ _ _ _ _ _ => rfl, rfl, fun _ _ => ⟨rfl, rfl⟩⟩
theorem zfM_trans {B E : Nat} {a b c : St} (h : zfM B E a b) (g : zfM B E b c) : zfM B E a c := ⟨fun k h1 h2 h3 h4 => (g.1 k h1 h2 h3 h4).trans (h.1 k h1 h2 h3 h4), fun i h1 h2 h3 h4 h5 h6 => (g.2.1 i h1 h2 h3 h4 h5 h6).trans (h.2.1 i h1 h2 h3 h4 h5 h6), g.2.2.1.trans h.2.2.1, fun i hi => ⟨(g.2.2.2 i hi).1.trans (h.2.2.2 i hi).1, (g.2.2.2 i hi).2.trans (h.2.2.2 i hi).2⟩⟩
theorem zfM_T {B E : Nat} {a b : St} (h : zfT a b) : zfM B E a b := ⟨fun k h1 _ _ _ => h.1 k h1, fun i h1 _ h3 h4 _ _ => h.2.1 i h1 h3 h4, h.2.2, fun i _ => ⟨by rw [h.1 21 (by omega)], by rw [h.1 22 (by omega)]⟩⟩
theorem zfM_0 {B E : Nat} (σ : St) (i : Nat) (v : Int32) (h : i = 12 ∨ i = 35 ∨ i = 39) : zfM B E σ (si σ 0 i v) := ⟨fun c hc _ _ _ => si_ne hc, fun j h1 h2 h3 h4 h5 h6 => by rw [si_get, if_neg (by omega)], rfl, fun j _ => ⟨by rw [si_ne (by omega)], by rw [si_ne (by omega)]⟩⟩
theorem zfM_23 {B E : Nat} (σ : St) (i : Nat) (v : Int32) : zfM B E σ (si σ 23 i v) := ⟨fun c _ _ _ hc => si_ne hc, fun j h1 h2 h3 h4 h5 h6 => by rw [si_get, if_neg (by omega)], rfl, fun j _ => ⟨by rw [si_ne (by omega)], by rw [si_ne (by omega)]⟩⟩
theorem zfM_21 {B E : Nat} (σ : St) (i : Nat) (v : Int32) (h : B ≤ i) (h2 : i < E) : zfM B E σ (si σ 21 i v) := ⟨fun c _ hc _ _ => si_ne hc, fun j h1 h2 h3 h4 h5 h6 => by rw [si_get, if_neg (by omega)], rfl, fun j _ => ⟨by rw [si_get, if_neg (by omega)], by rw [si_ne (by omega)]⟩⟩
theorem zfM_22 {B E : Nat} (σ : St) (i : Nat) (v : Int32) (h : B ≤ i) (h2 : i < E) : zfM B E σ (si σ 22 i v) := ⟨fun c _ _ hc _ => si_ne hc, fun j h1 h2 h3 h4 h5 h6 => by rw [si_get, if_neg (by omega)], rfl, fun j _ => ⟨by rw [si_ne (by omega)], by rw [si_get, if_neg (by omega)]⟩⟩
theorem zTm_M {B E : Nat} {σ σ' : St} {K P V N : Nat → Nat} (h : zfM B E σ σ') (hT : zTm σ K P V N) : zTm σ' K P V N := by
  unfold zTm at hT ⊢
  rw [h.1 3 (by omega) (by omega) (by omega) (by omega), h.1 4 (by omega) (by omega) (by omega) (by omega), h.1 5 (by omega) (by omega) (by omega) (by omega), h.2.2.1]; exact hT
def zAm (K : Nat → Nat) (σ : St) (t : Nat) : Prop := t ≤ 400 ∧ σ.1 0 11 = nI t ∧ σ.1 0 13 = 0 ∧ ∀ j, j < t → K j ≠ 0
def zDm (P : Nat → Nat) (σ : St) (v p : Nat) : Prop := (v = 1 ∨ v = 2) ∧ σ.1 0 13 = nI v ∧ σ.1 0 14 = nI (P p)
theorem zrk_inj : ∀ a, a < 32 → ∀ b, b < 32 → zrk a = zrk b → a = b := by decide
theorem zrk_lt : ∀ a, a < 32 → zrk a < 40 := by decide
theorem M_is {σ : St} {K P V N : Nat → Nat} {t : Nat} (hT : zTm σ K P V N) (hA : zAm K σ t) {k : Nat} (hk : k < 32) : f_X11_is σ (nI (zrk k)) = some (if K t = k then 1 else 0) := by
  obtain ⟨a1, a2, a3, a4⟩ := hA
  have := hT.2 t
  unfold f_X11_is
  rw [if_pos a3, a2, if_ib (ib_t (by omega) (by omega)), nI_clamp (by omega), (hT.1 t a1 a4).1]
  by_cases e : K t = k
  · rw [if_pos e, if_pos (by rw [e])]
  · have h1 := zrk_lt (K t) (by omega)
    have h2 := zrk_lt k hk
    rw [if_neg e, if_neg (fun z => e (zrk_inj _ (by omega) _ hk ((nI_eqN (by omega) (by omega)).mp z)))]
theorem M_is_d {σ : St} {P : Nat → Nat} {v p : Nat} (hD : zDm P σ v p) (x : Int32) : f_X11_is σ x = some 0 := by
  unfold f_X11_is
  rw [hD.2.1, if_neg (nI_v0 hD.1)]
theorem zDm_pos {σ : St} {P : Nat → Nat} {v p : Nat} (hD : zDm P σ v p) : ¬ σ.1 0 13 ≤ 0 := by
  rw [hD.2.1]
  rcases hD.1 with e | e <;> rw [e] <;> decide
theorem zDm_ne {σ : St} {P : Nat → Nat} {v p : Nat} (hD : zDm P σ v p) : ¬ σ.1 0 13 = 0 := by
  rw [hD.2.1]; exact nI_v0 hD.1
theorem M_fail {σ : St} {K P V N : Nat → Nat} {t v : Nat} (hT : zTm σ K P V N) (hA : zAm K σ t) (hv : v = 1 ∨ v = 2) : ∃ σ', f_X11_fail σ (nI v) = some σ' ∧ zfT σ σ' ∧ σ'.1 0 11 = σ.1 0 11 ∧ zDm P σ' v t := by
  obtain ⟨a1, a2, a3, a4⟩ := hA
  have e1 : (si σ 0 13 (nI v)).1 0 11 = nI t := by rw [si_get, if_neg (by omega)]; exact a2
  refine ⟨si (si σ 0 13 (nI v)) 0 14 (nI (P t)), ?_, zfT_trans (zfT_si _ _ _ (by omega)) (zfT_si _ _ _ (by omega)), by rw [si_get, if_neg (by omega)]; exact e1.trans a2.symm, hv, ?_, ?_⟩
  · unfold f_X11_fail
    rw [a3, if_pos (by decide), wlet_eq, e1, if_ib (ib_t (by omega) (by omega)), nI_clamp (by omega), si_ne (show 4 ≠ 0 by omega), (hT.1 t a1 a4).2.1, wlet_eq]
  · rw [si_get, if_neg (by omega), si_get, if_pos ⟨rfl, rfl⟩]
  · rw [si_get, if_pos ⟨rfl, rfl⟩]
theorem M_fail_d {σ : St} {P : Nat → Nat} {v p : Nat} (hD : zDm P σ v p) (x : Int32) : f_X11_fail σ x = some σ := by
  unfold f_X11_fail
  rw [if_neg (zDm_pos hD)]
theorem M_goesOn {σ : St} {K P V N : Nat → Nat} {t : Nat} (hT : zTm σ K P V N) (hA : zAm K σ t) (hk : K t ≠ 0) : ∃ σ', f_X11_goesOn σ = some σ' ∧ zfT σ σ' ∧ ((t = 400 ∧ zDm P σ' 2 400) ∨ (t ≠ 400 ∧ zAm K σ' (t + 1))) := by
  have a1 := hA.1
  have a2 := hA.2.1
  unfold f_X11_goesOn
  by_cases e : t = 400
  · obtain ⟨σ', h1, h2, h3, h4⟩ := M_fail hT hA (Or.inr rfl)
    rw [a2, if_pos (by rw [e]; rfl)]
    exact ⟨σ', by rw [show (2 : Int32) = nI 2 from rfl, bind_eq h1], h2, Or.inl ⟨e, by rw [← e]; exact h4⟩⟩
  · have n1 : ¬ nI t = (400 : Int32) := fun z => e ((nI_eqN (b := 400) (by omega) (by omega)).mp z)
    rw [a2, if_neg n1, wlet_eq, ← nI_succ]
    refine ⟨_, rfl, zfT_si _ _ _ (by omega), Or.inr ⟨e, by omega, by rw [si_get, if_pos ⟨rfl, rfl⟩], by rw [si_get, if_neg (by omega)]; exact hA.2.2.1, fun j hj => ?_⟩⟩
    by_cases j1 : j = t
    · rw [j1]; exact hk
    · exact hA.2.2.2 j (by omega)
theorem M_goesOn_d {σ : St} {P : Nat → Nat} {v p : Nat} (hD : zDm P σ v p) : ∃ σ', f_X11_goesOn σ = some σ' ∧ zfT σ σ' ∧ zDm P σ' v p := by
  unfold f_X11_goesOn
  by_cases e : σ.1 0 11 = (400 : Int32)
  · rw [if_pos e]
    exact ⟨σ, by rw [bind_eq (M_fail_d hD _)], zfT_refl _, hD⟩
  · rw [if_neg e, wlet_eq]
    refine ⟨_, rfl, zfT_si _ _ _ (by omega), hD.1, ?_, ?_⟩
    · rw [si_get, if_neg (by omega)]; exact hD.2.1
    · rw [si_get, if_neg (by omega)]; exact hD.2.2
-- the waiting signs
def zno : List Nat → Nat
  | [] => 0
  | x :: w => (if x = 11 then 0 else 1) + zno w
def zkd (x : Nat) : Nat := if x = 11 then 0 else if x = 6 ∨ x = 7 then 1 else 2
def zh : List Nat → Nat
  | [] => 0
  | x :: _ => zkd x
def zok : List Nat → Prop
  | [] => True
  | x :: w => (x = 11 ∨ ((x = 6 ∨ x = 7 ∨ x = 8 ∨ x = 9) ∧ zh w < zkd x)) ∧ zok w
def zWt (f : Nat → Int32) : List Nat → Prop
  | [] => True
  | x :: w => f w.length = nI (zrk x) ∧ zWt f w
theorem zh_le (w : List Nat) : zh w ≤ 2 := by
  cases w with
  | nil => exact Nat.zero_le _
  | cons x w =>
    show zkd x ≤ 2
    unfold zkd
    by_cases e : x = 11
    · rw [if_pos e]; omega
    · rw [if_neg e]
      by_cases e2 : x = 6 ∨ x = 7
      · rw [if_pos e2]; omega
      · rw [if_neg e2]; omega
theorem zok_len : ∀ {w : List Nat}, zok w → w.length ≤ 3 * zbr w + zh w := by
  intro w
  induction w with
  | nil => intro _; exact Nat.zero_le _
  | cons x w ih =>
    rintro ⟨h1, h2⟩
    have := ih h2
    have h3 := zh_le w
    rw [List.length_cons, zbr, zh]
    rcases h1 with h1 | ⟨h1, h4⟩
    · rw [if_pos h1]; omega
    · rw [if_neg (by omega)]; omega
theorem zok_20 {w : List Nat} (h : zok w) (hb : zbr w ≤ 6) : w.length ≤ 20 := by
  have := zok_len h
  have := zh_le w
  omega
theorem zWt_congr {f g : Nat → Int32} : ∀ {w : List Nat}, (∀ i, i < w.length → g i = f i) → zWt f w → zWt g w := by
  intro w
  induction w with
  | nil => intro _ _; trivial
  | cons x w ih =>
    intro h hw
    rw [List.length_cons] at h
    exact ⟨by rw [h _ (by omega)]; exact hw.1, ih (fun i hi => h i (by omega)) hw.2⟩
theorem zpo_ok : ∀ {w : List Nat}, zok w → zok (zpo w).1 ∧ zh (zpo w).1 = 0 ∧ zbr (zpo w).1 = zbr w := by
  intro w
  induction w with
  | nil => intro h; exact ⟨h, rfl, rfl⟩
  | cons x w ih =>
    intro h
    by_cases e : x = 11
    · rw [zpo, if_pos e]
      exact ⟨h, by show zkd x = 0; unfold zkd; rw [if_pos e], rfl⟩
    · rw [zpo_op e, zbr_op e]
      exact ih h.2
theorem zpq_ok : ∀ {w : List Nat}, zok w → zok (zpq w).1 ∧ zh (zpq w).1 ≤ 1 ∧ zbr (zpq w).1 = zbr w := by
  intro w
  induction w with
  | nil => intro h; exact ⟨h, Nat.zero_le _, rfl⟩
  | cons x w ih =>
    intro h
    by_cases e : x = 8 ∨ x = 9
    · rw [zpq_op e, zbr_op (by omega)]
      exact ih h.2
    · rw [zpq, if_neg e]
      refine ⟨h, ?_, rfl⟩
      show zkd x ≤ 1
      unfold zkd
      rcases h.1 with h1 | ⟨h1, _⟩
      · rw [if_pos h1]; omega
      · rw [if_neg (by omega), if_pos (by omega)]; omega
theorem zpo_hd {w : List Nat} (h : 0 < zbr w) : ∃ r, (zpo w).1 = 11 :: r := by
  induction w with
  | nil => exact absurd h (Nat.lt_irrefl _)
  | cons x w ih =>
    by_cases e : x = 11
    · rw [zpo, if_pos e, e]; exact ⟨w, rfl⟩
    · rw [zpo_op e]; rw [zbr_op e] at h; exact ih h
/-- where the reference stands in an expression -/
def zXw (σ0 σ : St) (B E m : Nat) (w : List Nat) (c : List (Nat × Nat)) : Prop := zfM B E σ0 σ ∧ σ.1 0 12 = nI (zbr w) ∧ σ.1 0 39 = nI w.length ∧ zWt (σ.1 23) w ∧ σ.1 0 35 = nI (B + c.length) ∧ CM (σ.1 21) (σ.1 22) B c ∧ zok w ∧ zbr w ≤ 6 ∧ c.length + zno w ≤ m
theorem zXw_T {σ0 σ σ' : St} {B E m : Nat} {w : List Nat} {c : List (Nat × Nat)} (h : zfT σ σ') (hX : zXw σ0 σ B E m w c) : zXw σ0 σ' B E m w c := by
  obtain ⟨a1, a2, a3, a4, a5, a6, a7, a8, a9⟩ := hX
  refine ⟨zfM_trans a1 (zfM_T h), ?_, ?_, ?_, ?_, ?_, a7, a8, a9⟩
  · rw [h.2.1 12 (by omega) (by omega) (by omega)]; exact a2
  · rw [h.2.1 39 (by omega) (by omega) (by omega)]; exact a3
  · rw [h.1 23 (by omega)]; exact a4
  · rw [h.2.1 35 (by omega) (by omega) (by omega)]; exact a5
  · rw [h.1 21 (by omega), h.1 22 (by omega)]; exact a6
theorem zXw_m {σ0 σ : St} {B E m m' : Nat} {w : List Nat} {c : List (Nat × Nat)} (hX : zXw σ0 σ B E m w c) (h : m ≤ m') : zXw σ0 σ B E m' w c := by
  obtain ⟨a1, a2, a3, a4, a5, a6, a7, a8, a9⟩ := hX
  exact ⟨a1, a2, a3, a4, a5, a6, a7, a8, by omega⟩
/-- the slots of the place and of the fault -/
def zkp (σ σ' : St) : Prop := σ'.1 0 11 = σ.1 0 11 ∧ σ'.1 0 13 = σ.1 0 13 ∧ σ'.1 0 14 = σ.1 0 14
theorem zkp_trans {a b c : St} (h : zkp a b) (g : zkp b c) : zkp a c := ⟨g.1.trans h.1, g.2.1.trans h.2.1, g.2.2.trans h.2.2⟩
theorem zAm_k {K : Nat → Nat} {σ σ' : St} {t : Nat} (h : zkp σ σ') (hA : zAm K σ t) : zAm K σ' t := ⟨hA.1, h.1.trans hA.2.1, h.2.1.trans hA.2.2.1, hA.2.2.2⟩
theorem zDm_k {P : Nat → Nat} {σ σ' : St} {v p : Nat} (h : zkp σ σ') (hD : zDm P σ v p) : zDm P σ' v p := ⟨hD.1, h.2.1.trans hD.2.1, h.2.2.trans hD.2.2⟩
theorem M_emit {σ0 σ : St} {B E m m' : Nat} {w : List Nat} {c : List (Nat × Nat)} (hX : zXw σ0 σ B E m w c) (hm : c.length + zno w + 1 ≤ m') (hE : B + m' ≤ E) (hE2 : E ≤ 840) (o v : Nat) : ∃ σ', f_X11_emit σ (nI o) (nI v) = some σ' ∧ zXw σ0 σ' B E m' w (c ++ [(o, v)]) ∧ zkp σ σ' := by
  obtain ⟨a1, a2, a3, a4, a5, a6, a7, a8, a9⟩ := hX
  have b1 : ib (nI (B + c.length)) 840 = true := ib_t (by omega) (by omega)
  have g1 : (nI (B + c.length)).toNatClampNeg = B + c.length := nI_clamp (by omega)
  have e1 : (si σ 21 (B + c.length) (nI o)).1 0 35 = nI (B + c.length) := by rw [si_ne (by omega)]; exact a5
  have e2 : (si (si σ 21 (B + c.length) (nI o)) 22 (B + c.length) (nI v)).1 0 35 = nI (B + c.length) := by rw [si_ne (by omega)]; exact e1
  refine ⟨si (si (si σ 21 (B + c.length) (nI o)) 22 (B + c.length) (nI v)) 0 35 (nI (B + c.length + 1)), ?_, ⟨zfM_trans a1 (zfM_trans (zfM_21 _ _ _ (by omega) (by omega)) (zfM_trans (zfM_22 _ _ _ (by omega) (by omega)) (zfM_0 _ _ _ (by omega)))), ?_, ?_, ?_, ?_, ?_, a7, a8, ?_⟩, ?_, ?_, ?_⟩
  · unfold f_X11_emit
    rw [a5, if_ib b1, g1, wlet_eq, e1, if_ib b1, g1, wlet_eq, wlet_eq, e2, ← nI_succ]
  · rw [si_get, if_neg (by omega), si_ne (by omega), si_ne (by omega)]; exact a2
  · rw [si_get, if_neg (by omega), si_ne (by omega), si_ne (by omega)]; exact a3
  · rw [si_ne (by omega), si_ne (by omega), si_ne (by omega)]; exact a4
  · rw [si_get, if_pos ⟨rfl, rfl⟩, List.length_append]; rfl
  · refine CM_append.mpr ⟨CM_congr (fun i i1 i2 => ⟨?_, ?_⟩) a6, ?_, ?_, trivial⟩
    · rw [si_ne (by omega), si_ne (by omega), si_get, if_neg (by omega)]
    · rw [si_ne (by omega), si_get, if_neg (by omega), si_ne (by omega)]
    · rw [si_ne (by omega), si_ne (by omega), si_get, if_pos ⟨rfl, rfl⟩]
    · rw [si_ne (by omega), si_get, if_pos ⟨rfl, rfl⟩]
  · rw [List.length_append]; show c.length + 1 + zno w ≤ m'; omega
  · rw [si_get, if_neg (by omega), si_ne (by omega), si_ne (by omega)]
  · rw [si_get, if_neg (by omega), si_ne (by omega), si_ne (by omega)]
  · rw [si_get, if_neg (by omega), si_ne (by omega), si_ne (by omega)]
/-- the top goes -/
theorem zXw_pop {σ0 σ : St} {B E m x : Nat} {w : List Nat} {c : List (Nat × Nat)} (hX : zXw σ0 σ B E m (x :: w) c) (h : x ≠ 11) : zXw σ0 (si σ 0 39 (nI w.length)) B E m w c ∧ c.length + zno w + 1 ≤ m ∧ zkp σ (si σ 0 39 (nI w.length)) := by
  obtain ⟨a1, a2, a3, a4, a5, a6, a7, a8, a9⟩ := hX
  rw [zbr_op h] at a2 a8
  rw [zno, if_neg h] at a9
  refine ⟨⟨zfM_trans a1 (zfM_0 _ _ _ (by omega)), ?_, ?_, ?_, ?_, ?_, a7.2, a8, by omega⟩, by omega, ?_, ?_, ?_⟩
  · rw [si_get, if_neg (by omega)]; exact a2
  · rw [si_get, if_pos ⟨rfl, rfl⟩]
  · rw [si_ne (by omega)]; exact a4.2
  · rw [si_get, if_neg (by omega)]; exact a5
  · rw [si_ne (by omega), si_ne (by omega)]; exact a6
  · rw [si_get, if_neg (by omega)]
  · rw [si_get, if_neg (by omega)]
  · rw [si_get, if_neg (by omega)]
def zXe (x1 : Int32) : St → Option ((St) ⊕ ((St) ⊕ (St))) :=
  fun (σ0_1 : St) => if (σ0_1.1 0 39) ≤ 0 then (some (.inr (.inl σ0_1))) else (if ib ((σ0_1.1 0 39) - (1 : Int32)) 64 = true then wlet (σ0_1.1 23 (Int32.toNatClampNeg ((σ0_1.1 0 39) - (1 : Int32)))) fun v4 => if v4 = (6 : Int32) then (some (.inr (.inr σ0_1))) else (wlet (fun (_ : Unit) => (wlet (si σ0_1 0 39 ((σ0_1.1 0 39) - (1 : Int32))) fun σ7 => wlet (fun (s1_84_8 : Int32) => (Option.bind (f_X11_emit σ7 s1_84_8 (0 : Int32)) fun σ10 => some (.inl σ10) : Option ((St) ⊕ ((St) ⊕ (St))))) fun k84_8 => if v4 = (8 : Int32) then (k84_8 (2 : Int32)) else (if v4 = (9 : Int32) then (k84_8 (3 : Int32)) else (if v4 = (10 : Int32) then (k84_8 (4 : Int32)) else (k84_8 (5 : Int32)))) : Option ((St) ⊕ ((St) ⊕ (St))))) fun k42_6 => if x1 = 0 then (k42_6 ()) else (if v4 = (8 : Int32) then (some (.inr (.inr σ0_1))) else (if v4 = (9 : Int32) then (some (.inr (.inr σ0_1))) else (k42_6 ())))) else none)
/-- one sign comes out -/
theorem M_out1 {σ0 σ : St} {B E m x : Nat} {w : List Nat} {c : List (Nat × Nat)} (hX : zXw σ0 σ B E m (x :: w) c) (h : x = 6 ∨ x = 7 ∨ x = 8 ∨ x = 9) (hE : B + m ≤ E) (hE2 : E ≤ 840) (s : Int32) (hs : s = 0 ∨ (x = 8 ∨ x = 9)) : ∃ σ', zXe s σ = some (.inl σ') ∧ zXw σ0 σ' B E m w (c ++ [(zopc x, 0)]) ∧ zkp σ σ' := by
  have hlen := zok_20 hX.2.2.2.2.2.2.1 hX.2.2.2.2.2.2.2.1
  rw [List.length_cons] at hlen
  have a3 : σ.1 0 39 = nI (w.length + 1) := hX.2.2.1
  have a4 : σ.1 23 w.length = nI (zrk x) := hX.2.2.2.1.1
  obtain ⟨b1, b2, b3⟩ := zXw_pop hX (by omega)
  obtain ⟨σ', c1, c2, c3⟩ := M_emit b1 b2 hE hE2 (zopc x) 0
  refine ⟨σ', ?_, c2, zkp_trans b3 c3⟩
  have n1 : ¬ nI (w.length + 1) ≤ (0 : Int32) := fun z => by have := (nI_leN (b := 0) (by omega) (by omega)).mp z; omega
  have e1 : nI (w.length + 1) - (1 : Int32) = nI w.length := nI_sub (b := 1) (by omega)
  unfold zXe
  rw [a3, if_neg n1, e1, if_ib (ib_t (by omega) (by omega)), nI_clamp (by omega), a4, wlet_eq]
  have hz : zopc x = if x = 6 then 2 else if x = 7 then 3 else if x = 8 then 4 else 5 := rfl
  rcases h with rfl | rfl | rfl | rfl
  · rw [show zrk 6 = 8 from rfl, if_neg (by decide), wlet_eq, if_pos (hs.resolve_right (by omega)), wlet_eq, wlet_eq, if_pos (by decide)]
    dsimp only
    rw [show (2 : Int32) = nI (zopc 6) from rfl, show (0 : Int32) = nI 0 from rfl, bind_eq c1]
  · rw [show zrk 7 = 9 from rfl, if_neg (by decide), wlet_eq, if_pos (hs.resolve_right (by omega)), wlet_eq, wlet_eq, if_neg (by decide), if_pos (by decide)]
    dsimp only
    rw [show (3 : Int32) = nI (zopc 7) from rfl, show (0 : Int32) = nI 0 from rfl, bind_eq c1]
  · have K : (wlet (si σ 0 39 (nI w.length)) fun σ7 => wlet (fun (s1_84_8 : Int32) => (Option.bind (f_X11_emit σ7 s1_84_8 (0 : Int32)) fun σ10 => some (.inl σ10) : Option ((St) ⊕ ((St) ⊕ (St))))) fun k84_8 => if nI (zrk 8) = (8 : Int32) then (k84_8 (2 : Int32)) else (if nI (zrk 8) = (9 : Int32) then (k84_8 (3 : Int32)) else (if nI (zrk 8) = (10 : Int32) then (k84_8 (4 : Int32)) else (k84_8 (5 : Int32))))) = some (.inl σ') := by
      rw [wlet_eq, wlet_eq, if_neg (by decide), if_neg (by decide), if_pos (by decide)]
      dsimp only
      rw [show (4 : Int32) = nI (zopc 8) from rfl, show (0 : Int32) = nI 0 from rfl, bind_eq c1]
    rw [if_neg (by decide), wlet_eq]
    by_cases q : s = 0
    · rw [if_pos q]; exact K
    · rw [if_neg q, if_neg (by decide), if_neg (by decide)]; exact K
  · have K : (wlet (si σ 0 39 (nI w.length)) fun σ7 => wlet (fun (s1_84_8 : Int32) => (Option.bind (f_X11_emit σ7 s1_84_8 (0 : Int32)) fun σ10 => some (.inl σ10) : Option ((St) ⊕ ((St) ⊕ (St))))) fun k84_8 => if nI (zrk 9) = (8 : Int32) then (k84_8 (2 : Int32)) else (if nI (zrk 9) = (9 : Int32) then (k84_8 (3 : Int32)) else (if nI (zrk 9) = (10 : Int32) then (k84_8 (4 : Int32)) else (k84_8 (5 : Int32))))) = some (.inl σ') := by
      rw [wlet_eq, wlet_eq, if_neg (by decide), if_neg (by decide), if_neg (by decide)]
      dsimp only
      rw [show (5 : Int32) = nI (zopc 9) from rfl, show (0 : Int32) = nI 0 from rfl, bind_eq c1]
    rw [if_neg (by decide), wlet_eq]
    by_cases q : s = 0
    · rw [if_pos q]; exact K
    · rw [if_neg q, if_neg (by decide), if_neg (by decide)]; exact K
/-- out to a bracket -/
theorem M_outs0 {σ0 : St} {B E m : Nat} (hE : B + m ≤ E) (hE2 : E ≤ 840) : ∀ w σ c F, zXw σ0 σ B E m w c → w.length < F → ∃ r σ', lp (zXe 0) F σ = some r ∧ (r = .inl σ' ∨ r = .inr σ') ∧ zXw σ0 σ' B E m (zpo w).1 (c ++ (zpo w).2) ∧ zkp σ σ' := by
  intro w
  induction w with
  | nil =>
    intro σ c F hX hF
    have a3 : σ.1 0 39 = 0 := hX.2.2.1
    refine ⟨.inl σ, σ, ?_, Or.inl rfl, by rw [show (zpo []).2 = [] from rfl, List.append_nil]; exact hX, rfl, rfl, rfl⟩
    rw [show F = (F - 1) + 1 by omega]
    refine lp_out ?_
    unfold zXe
    rw [a3, if_pos (by decide)]
  | cons x w ih =>
    intro σ c F hX hF
    rw [List.length_cons] at hF
    have hlen := zok_20 hX.2.2.2.2.2.2.1 hX.2.2.2.2.2.2.2.1
    rw [List.length_cons] at hlen
    by_cases e : x = 11
    · have a3 : σ.1 0 39 = nI (w.length + 1) := hX.2.2.1
      have a4 : σ.1 23 w.length = nI (zrk x) := hX.2.2.2.1.1
      have n1 : ¬ nI (w.length + 1) ≤ (0 : Int32) := fun z => by have := (nI_leN (b := 0) (by omega) (by omega)).mp z; omega
      have e1 : nI (w.length + 1) - (1 : Int32) = nI w.length := nI_sub (b := 1) (by omega)
      refine ⟨.inr σ, σ, ?_, Or.inr rfl, by rw [zpo, if_pos e, List.append_nil]; exact hX, rfl, rfl, rfl⟩
      rw [show F = (F - 1) + 1 by omega]
      refine lp_out ?_
      unfold zXe
      rw [a3, if_neg n1, e1, if_ib (ib_t (by omega) (by omega)), nI_clamp (by omega), a4, wlet_eq, e, if_pos (by decide)]
    · have hx : x = 6 ∨ x = 7 ∨ x = 8 ∨ x = 9 := by
        rcases hX.2.2.2.2.2.2.1.1 with h | h
        · exact absurd h e
        · exact h.1
      obtain ⟨σ1, b1, b2, b3⟩ := M_out1 hX hx hE hE2 0 (Or.inl rfl)
      obtain ⟨r, σ2, c1, c2, c3, c4⟩ := ih σ1 _ (F - 1) b2 (by omega)
      refine ⟨r, σ2, ?_, c2, ?_, zkp_trans b3 c4⟩
      · rw [show F = (F - 1) + 1 by omega, lp_step b1]; exact c1
      · rw [zpo_op e]
        rw [List.append_assoc] at c3
        exact c3
theorem M_comesOut0 {σ0 σ : St} {B E m : Nat} (hE : B + m ≤ E) (hE2 : E ≤ 840) {w : List Nat} {c : List (Nat × Nat)} (hX : zXw σ0 σ B E m w c) : ∃ σ', f_X11_comesOut σ 0 = some σ' ∧ zXw σ0 σ' B E m (zpo w).1 (c ++ (zpo w).2) ∧ zkp σ σ' := by
  have hlen := zok_20 hX.2.2.2.2.2.2.1 hX.2.2.2.2.2.2.2.1
  obtain ⟨r, σ', h1, h2, h3, h4⟩ := M_outs0 hE hE2 w σ c fuel hX (by rw [fuel_eq]; omega)
  refine ⟨σ', ?_, h3, h4⟩
  unfold f_X11_comesOut
  rw [wlet_eq]
  refine (bind_eq h1).trans ?_
  rcases h2 with e | e <;> rw [e] <;> rfl
theorem M_outs1 {σ0 : St} {B E m : Nat} (hE : B + m ≤ E) (hE2 : E ≤ 840) : ∀ w σ c F, zXw σ0 σ B E m w c → w.length < F → ∃ r σ', lp (zXe 1) F σ = some r ∧ (r = .inl σ' ∨ r = .inr σ') ∧ zXw σ0 σ' B E m (zpq w).1 (c ++ (zpq w).2) ∧ zkp σ σ' := by
  intro w
  induction w with
  | nil =>
    intro σ c F hX hF
    have a3 : σ.1 0 39 = 0 := hX.2.2.1
    refine ⟨.inl σ, σ, ?_, Or.inl rfl, by rw [show (zpq []).2 = [] from rfl, List.append_nil]; exact hX, rfl, rfl, rfl⟩
    rw [show F = (F - 1) + 1 by omega]
    refine lp_out ?_
    unfold zXe
    rw [a3, if_pos (by decide)]
  | cons x w ih =>
    intro σ c F hX hF
    rw [List.length_cons] at hF
    have hlen := zok_20 hX.2.2.2.2.2.2.1 hX.2.2.2.2.2.2.2.1
    rw [List.length_cons] at hlen
    by_cases e : x = 8 ∨ x = 9
    · obtain ⟨σ1, b1, b2, b3⟩ := M_out1 hX (by omega) hE hE2 1 (Or.inr e)
      obtain ⟨r, σ2, c1, c2, c3, c4⟩ := ih σ1 _ (F - 1) b2 (by omega)
      refine ⟨r, σ2, ?_, c2, ?_, zkp_trans b3 c4⟩
      · rw [show F = (F - 1) + 1 by omega, lp_step b1]; exact c1
      · rw [zpq_op e]
        rw [List.append_assoc] at c3
        exact c3
    · have a3 : σ.1 0 39 = nI (w.length + 1) := hX.2.2.1
      have a4 : σ.1 23 w.length = nI (zrk x) := hX.2.2.2.1.1
      have n1 : ¬ nI (w.length + 1) ≤ (0 : Int32) := fun z => by have := (nI_leN (b := 0) (by omega) (by omega)).mp z; omega
      have e1 : nI (w.length + 1) - (1 : Int32) = nI w.length := nI_sub (b := 1) (by omega)
      refine ⟨.inr σ, σ, ?_, Or.inr rfl, by rw [zpq, if_neg e, List.append_nil]; exact hX, rfl, rfl, rfl⟩
      rw [show F = (F - 1) + 1 by omega]
      refine lp_out ?_
      unfold zXe
      rw [a3, if_neg n1, e1, if_ib (ib_t (by omega) (by omega)), nI_clamp (by omega), a4, wlet_eq]
      rcases hX.2.2.2.2.2.2.1.1 with h | ⟨h, _⟩
      · rw [h, if_pos (by decide)]
      · have : x = 6 ∨ x = 7 := by omega
        rcases this with h | h
        · rw [h, if_neg (by decide), wlet_eq, if_neg n10, if_pos (by decide)]
        · rw [h, if_neg (by decide), wlet_eq, if_neg n10, if_neg (by decide), if_pos (by decide)]
theorem M_comesOut1 {σ0 σ : St} {B E m : Nat} (hE : B + m ≤ E) (hE2 : E ≤ 840) {w : List Nat} {c : List (Nat × Nat)} (hX : zXw σ0 σ B E m w c) : ∃ σ', f_X11_comesOut σ 1 = some σ' ∧ zXw σ0 σ' B E m (zpq w).1 (c ++ (zpq w).2) ∧ zkp σ σ' := by
  have hlen := zok_20 hX.2.2.2.2.2.2.1 hX.2.2.2.2.2.2.2.1
  obtain ⟨r, σ', h1, h2, h3, h4⟩ := M_outs1 hE hE2 w σ c fuel hX (by rw [fuel_eq]; omega)
  refine ⟨σ', ?_, h3, h4⟩
  unfold f_X11_comesOut
  rw [wlet_eq]
  refine (bind_eq h1).trans ?_
  rcases h2 with e | e <;> rw [e] <;> rfl
