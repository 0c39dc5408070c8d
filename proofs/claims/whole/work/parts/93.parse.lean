/-! STAGE B, 44: expressions of the tape, as mathematics -/
abbrev zR : Type := (Nat × Nat) ⊕ (Nat × List (Nat × Nat))
def zeat (t : Nat) (c : List (Nat × Nat)) : zR := if t = 400 then .inl (2, 400) else .inr (t + 1, c)
def zbd (r : zR) (f : Nat → List (Nat × Nat) → zR) : zR := Sum.elim (fun e => .inl e) (fun x => f x.1 x.2) r
theorem zbd_l (e : Nat × Nat) (f : Nat → List (Nat × Nat) → zR) : zbd (.inl e) f = .inl e := rfl
theorem zbd_r (x : Nat × List (Nat × Nat)) (f : Nat → List (Nat × Nat) → zR) : zbd (.inr x) f = f x.1 x.2 := rfl
theorem zbd_zbd (r : zR) (f g : Nat → List (Nat × Nat) → zR) : zbd (zbd r f) g = zbd r (fun t c => zbd (f t c) g) := by
  cases r <;> rfl
theorem zeat_400 (c : List (Nat × Nat)) : zeat 400 c = .inl (2, 400) := rfl
theorem zeat_ne {t : Nat} (c : List (Nat × Nat)) (h : t ≠ 400) : zeat t c = .inr (t + 1, c) := by unfold zeat; rw [if_neg h]
/-- a number, a word, or what stands in brackets: d brackets more may open -/
def zUn (K V : Nat → Nat) (d : Nat) (S : Nat → zR) (t : Nat) : zR := if K t = 3 then zeat t [(0, V t)] else if 23 ≤ K t then zeat t [(1, K t - 23)] else if K t = 11 then (if d = 0 then .inl (2, t) else zbd (zeat t []) fun t1 _ => zbd (S t1) fun t2 c => if K t2 = 12 then zeat t2 c else .inl (1, t2)) else .inl (1, t)
def zQl (K : Nat → Nat) (a b oa ob : Nat) (U : Nat → zR) : Nat → Nat → List (Nat × Nat) → zR
  | 0, t, c => .inr (t, c)
  | f + 1, t, c => if K t = a ∨ K t = b then zbd (zeat t []) fun t1 _ => zbd (U t1) fun t2 c2 => zQl K a b oa ob U f t2 (c ++ c2 ++ [((if K t = a then oa else ob), 0)]) else .inr (t, c)
def zPr (K : Nat → Nat) (U : Nat → zR) (t : Nat) : zR := zbd (U t) fun t1 c => zQl K 8 9 4 5 U 400 t1 c
def zSm (K : Nat → Nat) (P : Nat → zR) (t : Nat) : zR := zbd (P t) fun t1 c => zQl K 6 7 2 3 P 400 t1 c
def zUd (K V : Nat → Nat) : Nat → Nat → zR
  | 0 => zUn K V 0 (fun t => .inl (0, t))
  | d + 1 => zUn K V (d + 1) (zSm K (zPr K (zUd K V d)))
def zSd (K V : Nat → Nat) (d : Nat) : Nat → zR := zSm K (zPr K (zUd K V d))
/-- code that keeps to H high above where it begins, and leaves one number -/
def okX (c : List (Nat × Nat)) (H : Nat) : Prop := ∀ h r, h + H ≤ 15 → okR r (h + 1) → okR (c ++ r) h
def zGd (K : Nat → Nat) (H t : Nat) (q : zR) : Prop := (∀ v p, q = .inl (v, p) → (v = 1 ∨ v = 2) ∧ t ≤ p ∧ p ≤ 400 ∧ ∀ j, t ≤ j → j < p → K j ≠ 0) ∧ ∀ t' c, q = .inr (t', c) → t < t' ∧ t' ≤ 400 ∧ c.length ≤ t' - t ∧ (∀ j, t ≤ j → j < t' → K j ≠ 0) ∧ okX c H
theorem zGd_eat {K : Nat → Nat} {H t : Nat} {c : List (Nat × Nat)} (ht : t ≤ 400) (hk : K t ≠ 0) (hc : c.length ≤ 1) (ho : okX c H) : zGd K H t (zeat t c) := by
  by_cases e : t = 400
  · subst e
    refine ⟨fun v p q => ?_, fun t' c' q => ?_⟩
    · injection q with q; injection q with q1 q2
      subst q1; subst q2
      exact ⟨Or.inr rfl, Nat.le_refl _, Nat.le_refl _, fun j h1 h2 => by omega⟩
    · cases q
  · rw [zeat_ne _ e]
    refine ⟨fun v p q => (by cases q), fun t' c' q => ?_⟩
    injection q with q; injection q with q1 q2
    subst q1; subst q2
    refine ⟨by omega, by omega, by omega, fun j h1 h2 => ?_, ho⟩
    have : j = t := by omega
    rw [this]; exact hk
theorem zGd_fail {K : Nat → Nat} {H t v : Nat} (ht : t ≤ 400) (hv : v = 1 ∨ v = 2) : zGd K H t (.inl (v, t)) := by
  refine ⟨fun v' p q => ?_, fun t' c' q => by cases q⟩
  injection q with q; injection q with q1 q2
  subst q1; subst q2
  exact ⟨hv, Nat.le_refl _, ht, fun j h1 h2 => by omega⟩
theorem okX_0 {v : Nat} (h : v ≤ 9999) {H : Nat} (hH : 1 ≤ H) : okX [(0, v)] H := fun h' r h1 h2 => by
  show okR ((0, v) :: r) h'
  exact (okR_cons0 rfl).mpr ⟨h, by omega, h2⟩
theorem okX_1 {v : Nat} (h : v < 9) {H : Nat} (hH : 1 ≤ H) : okX [(1, v)] H := fun h' r h1 h2 => by
  show okR ((1, v) :: r) h'
  exact (okR_cons1 rfl).mpr ⟨h, by omega, h2⟩
theorem okX_mono {c : List (Nat × Nat)} {H H' : Nat} (h : okX c H) (hH : H ≤ H') : okX c H' := fun h' r h1 h2 => h h' r (by omega) h2
theorem okX_op {c c2 : List (Nat × Nat)} {H o : Nat} (h : okX c (H + 1)) (h2 : okX c2 H) (o2 : 2 ≤ o) (o5 : o ≤ 5) : okX (c ++ c2 ++ [(o, 0)]) (H + 1) := fun h' r g1 g2 => by
  rw [List.append_assoc, List.append_assoc]
  refine h h' _ g1 (h2 (h' + 1) _ (by omega) ?_)
  exact (okR_cons2 o2).mpr ⟨o5, rfl, by omega, g2⟩
theorem okR_X {c : List (Nat × Nat)} (h : okX c 15) : okR c 0 := by
  have := h 0 [] (Nat.le_refl _) rfl
  rwa [List.append_nil] at this
theorem zGd_Ql {K : Nat → Nat} {a b oa ob : Nat} {U : Nat → zR} {H : Nat} (ha : a ≠ 0) (hb : b ≠ 0) (hoa : 2 ≤ oa ∧ oa ≤ 5) (hob : 2 ≤ ob ∧ ob ≤ 5) (hU : ∀ t, t ≤ 400 → zGd K H t (U t)) : ∀ f t0 t c, t0 < t → t ≤ 400 → c.length ≤ t - t0 → (∀ j, t0 ≤ j → j < t → K j ≠ 0) → okX c (H + 1) → zGd K (H + 1) t0 (zQl K a b oa ob U f t c) := by
  intro f
  induction f with
  | zero =>
    intro t0 t c h1 h2 h3 h4 h5
    refine ⟨fun v p q => (by cases q), fun t' c' q => ?_⟩
    injection q with q; injection q with q1 q2
    subst q1; subst q2
    exact ⟨h1, h2, h3, h4, h5⟩
  | succ f ih =>
    intro t0 t c h1 h2 h3 h4 h5
    rw [zQl]
    by_cases q : K t = a ∨ K t = b
    · have hk : K t ≠ 0 := by omega
      rw [if_pos q]
      by_cases e : t = 400
      · subst e
        rw [zeat_400, zbd_l]
        refine ⟨fun v p q => ?_, fun t' c' q => (by cases q)⟩
        injection q with q; injection q with q1 q2
        subst q1; subst q2
        exact ⟨Or.inr rfl, by omega, Nat.le_refl _, h4⟩
      · rw [zeat_ne _ e, zbd_r]
        dsimp only
        obtain ⟨u1, u2⟩ := hU (t + 1) (by omega)
        cases hq : U (t + 1) with
        | inl x =>
          obtain ⟨v, p⟩ := x
          obtain ⟨w1, w2, w3, w4⟩ := u1 v p hq
          rw [zbd_l]
          refine ⟨fun v' p' q => ?_, fun t' c' q => (by cases q)⟩
          injection q with q; injection q with q1 q2
          subst q1; subst q2
          refine ⟨w1, by omega, w3, fun j j1 j2 => ?_⟩
          by_cases j3 : j < t
          · exact h4 j j1 j3
          · by_cases j4 : j = t
            · rw [j4]; exact hk
            · exact w4 j (by omega) j2
        | inr x =>
          obtain ⟨t2, c2⟩ := x
          obtain ⟨w1, w2, w3, w4, w5⟩ := u2 t2 c2 hq
          rw [zbd_r]
          dsimp only
          refine ih t0 t2 _ (by omega) w2 ?_ (fun j j1 j2 => ?_) ?_
          · rw [List.length_append, List.length_append]
            show c.length + c2.length + 1 ≤ _
            omega
          · by_cases j3 : j < t
            · exact h4 j j1 j3
            · by_cases j4 : j = t
              · rw [j4]; exact hk
              · exact w4 j (by omega) j2
          · refine okX_op h5 w5 ?_ ?_ <;> split <;> omega
    · rw [if_neg q]
      refine ⟨fun v p q => (by cases q), fun t' c' q => ?_⟩
      injection q with q; injection q with q1 q2
      subst q1; subst q2
      exact ⟨h1, h2, h3, h4, h5⟩
theorem zGd_bd {K : Nat → Nat} {H t : Nat} {U : Nat → zR} {g : Nat → List (Nat × Nat) → zR} (hU : zGd K H t (U t)) (hg : ∀ t' c, t < t' → t' ≤ 400 → c.length ≤ t' - t → (∀ j, t ≤ j → j < t' → K j ≠ 0) → okX c H → zGd K (H + 1) t (g t' c)) : zGd K (H + 1) t (zbd (U t) g) := by
  obtain ⟨u1, u2⟩ := hU
  cases hq : U t with
  | inl x =>
    obtain ⟨v, p⟩ := x
    rw [zbd_l]
    refine ⟨fun v' p' q => ?_, fun t' c' q => (by cases q)⟩
    injection q with q; injection q with q1 q2
    subst q1; subst q2
    exact u1 v p hq
  | inr x =>
    obtain ⟨t2, c2⟩ := x
    obtain ⟨w1, w2, w3, w4, w5⟩ := u2 t2 c2 hq
    rw [zbd_r]
    exact hg t2 c2 w1 w2 w3 w4 w5
theorem zGd_Sm {K : Nat → Nat} {U : Nat → zR} {H : Nat} (hU : ∀ t, t ≤ 400 → zGd K H t (U t)) : ∀ t, t ≤ 400 → zGd K (H + 2) t (zSm K (zPr K U) t) := by
  have hP : ∀ t, t ≤ 400 → zGd K (H + 1) t (zPr K U t) := fun t ht => zGd_bd (hU t ht) fun t' c w1 w2 w3 w4 w5 => zGd_Ql (by omega) (by omega) (by omega) (by omega) hU 400 t t' c w1 w2 w3 w4 (okX_mono w5 (by omega))
  exact fun t ht => zGd_bd (hP t ht) fun t' c w1 w2 w3 w4 w5 => zGd_Ql (by omega) (by omega) (by omega) (by omega) hP 400 t t' c w1 w2 w3 w4 (okX_mono w5 (by omega))
theorem zGd_Un {K V : Nat → Nat} {d H : Nat} {S : Nat → zR} (hK : ∀ j, K j ≤ 31) (hV : ∀ j, K j = 3 → V j ≤ 9999) (hH : 1 ≤ H) (hS : d = 0 ∨ ∀ t, t ≤ 400 → zGd K H t (S t)) : ∀ t, t ≤ 400 → zGd K H t (zUn K V d S t) := by
  intro t ht
  unfold zUn
  by_cases q3 : K t = 3
  · rw [if_pos q3]
    exact zGd_eat ht (by omega) (Nat.le_refl _) (okX_0 (hV t q3) hH)
  rw [if_neg q3]
  by_cases q23 : 23 ≤ K t
  · rw [if_pos q23]
    have := hK t
    exact zGd_eat ht (by omega) (Nat.le_refl _) (okX_1 (by omega) hH)
  rw [if_neg q23]
  by_cases q11 : K t = 11
  · rw [if_pos q11]
    by_cases q0 : d = 0
    · rw [if_pos q0]; exact zGd_fail ht (Or.inr rfl)
    · rw [if_neg q0]
      have hS := hS.resolve_left q0
      by_cases e : t = 400
      · subst e
        rw [zeat_400, zbd_l]
        exact zGd_fail ht (Or.inr rfl)
      · rw [zeat_ne _ e, zbd_r]
        dsimp only
        obtain ⟨u1, u2⟩ := hS (t + 1) (by omega)
        have hj : ∀ p, (∀ j, t + 1 ≤ j → j < p → K j ≠ 0) → ∀ j, t ≤ j → j < p → K j ≠ 0 := fun p h j j1 j2 => by
          by_cases j4 : j = t
          · rw [j4]; omega
          · exact h j (by omega) j2
        cases hq : S (t + 1) with
        | inl x =>
          obtain ⟨v, p⟩ := x
          obtain ⟨w1, w2, w3, w4⟩ := u1 v p hq
          rw [zbd_l]
          refine ⟨fun v' p' q => ?_, fun t' c' q => (by cases q)⟩
          injection q with q; injection q with q1 q2
          subst q1; subst q2
          exact ⟨w1, by omega, w3, hj _ w4⟩
        | inr x =>
          obtain ⟨t2, c2⟩ := x
          obtain ⟨w1, w2, w3, w4, w5⟩ := u2 t2 c2 hq
          rw [zbd_r]
          dsimp only
          by_cases q12 : K t2 = 12
          · rw [if_pos q12]
            by_cases e2 : t2 = 400
            · subst e2
              rw [zeat_400]
              refine ⟨fun v' p' q => ?_, fun t' c' q => (by cases q)⟩
              injection q with q; injection q with q1 q2
              subst q1; subst q2
              exact ⟨Or.inr rfl, by omega, Nat.le_refl _, hj _ w4⟩
            · rw [zeat_ne _ e2]
              refine ⟨fun v' p' q => (by cases q), fun t' c' q => ?_⟩
              injection q with q; injection q with q1 q2
              subst q1; subst q2
              refine ⟨by omega, by omega, by omega, fun j j1 j2 => ?_, w5⟩
              by_cases j4 : j = t2
              · rw [j4]; omega
              · exact hj _ w4 j j1 (by omega)
          · rw [if_neg q12]
            refine ⟨fun v' p' q => ?_, fun t' c' q => (by cases q)⟩
            injection q with q; injection q with q1 q2
            subst q1; subst q2
            exact ⟨Or.inl rfl, by omega, by omega, hj _ w4⟩
  · rw [if_neg q11]; exact zGd_fail ht (Or.inl rfl)
theorem zGd_Ud {K V : Nat → Nat} (hK : ∀ j, K j ≤ 31) (hV : ∀ j, K j = 3 → V j ≤ 9999) : ∀ d t, t ≤ 400 → zGd K (1 + 2 * d) t (zUd K V d t) := by
  intro d
  induction d with
  | zero => exact zGd_Un hK hV (by omega) (Or.inl rfl)
  | succ d ih =>
    have := zGd_Sm ih
    exact zGd_Un hK hV (by omega) (Or.inr this)
theorem zGd_Sd {K V : Nat → Nat} (hK : ∀ j, K j ≤ 31) (hV : ∀ j, K j = 3 → V j ≤ 9999) (d : Nat) : ∀ t, t ≤ 400 → zGd K (3 + 2 * d) t (zSd K V d t) := by
  intro t ht
  have := zGd_Sm (zGd_Ud hK hV d) t ht
  rw [show 1 + 2 * d + 2 = 3 + 2 * d by omega] at this
  exact this
/-- behind a product, a sum, no sign goes on -/
theorem zQl_next {K : Nat → Nat} {a b oa ob : Nat} {U : Nat → zR} (hU : ∀ t, t ≤ 400 → ∀ t' c, U t = .inr (t', c) → t < t' ∧ t' ≤ 400) : ∀ f t c t' c', 400 < f + t → t ≤ 400 → zQl K a b oa ob U f t c = .inr (t', c') → K t' ≠ a ∧ K t' ≠ b := by
  intro f
  induction f with
  | zero => intro t c t' c' h1 h2; omega
  | succ f ih =>
    intro t c t' c' h1 h2 h3
    rw [zQl] at h3
    by_cases q : K t = a ∨ K t = b
    · rw [if_pos q] at h3
      by_cases e : t = 400
      · subst e
        rw [zeat_400, zbd_l] at h3; cases h3
      · rw [zeat_ne _ e, zbd_r] at h3
        dsimp only at h3
        cases hq : U (t + 1) with
        | inl x => rw [hq, zbd_l] at h3; cases h3
        | inr x =>
          obtain ⟨t2, c2⟩ := x
          rw [hq, zbd_r] at h3
          obtain ⟨w1, w2⟩ := hU (t + 1) (by omega) t2 c2 hq
          exact ih t2 _ t' c' (by omega) w2 h3
    · rw [if_neg q] at h3
      injection h3 with h3; injection h3 with q1 q2
      subst q1
      omega
theorem zPr_next {K : Nat → Nat} {U : Nat → zR} (hU : ∀ t, t ≤ 400 → ∀ t' c, U t = .inr (t', c) → t < t' ∧ t' ≤ 400) {t t' : Nat} {c : List (Nat × Nat)} (ht : t ≤ 400) (h : zPr K U t = .inr (t', c)) : K t' ≠ 8 ∧ K t' ≠ 9 := by
  unfold zPr at h
  cases hq : U t with
  | inl x => rw [hq, zbd_l] at h; cases h
  | inr x =>
    obtain ⟨t2, c2⟩ := x
    obtain ⟨w1, w2⟩ := hU t ht t2 c2 hq
    rw [hq, zbd_r] at h
    exact zQl_next hU 400 t2 c2 t' c (by omega) w2 h
