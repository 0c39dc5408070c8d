/-! STAGE B, 45: the same expressions with a row of waiting signs -/
def zbr : List Nat → Nat
  | [] => 0
  | x :: w => (if x = 11 then 1 else 0) + zbr w
def zopc (x : Nat) : Nat := if x = 6 then 2 else if x = 7 then 3 else if x = 8 then 4 else 5
/-- out come all up to a bracket; out come the strong ones -/
def zpo : List Nat → List Nat × List (Nat × Nat)
  | [] => ([], [])
  | x :: w => if x = 11 then (x :: w, []) else ((zpo w).1, (zopc x, 0) :: (zpo w).2)
def zpq : List Nat → List Nat × List (Nat × Nat)
  | [] => ([], [])
  | x :: w => if x = 8 ∨ x = 9 then ((zpq w).1, (zopc x, 0) :: (zpq w).2) else (x :: w, [])
/-- true: a unit is wanted; false: a unit has been -/
def zXm (K V : Nat → Nat) : Nat → Bool → List Nat → Nat → List (Nat × Nat) → zR
  | 0, _, _, _, _ => .inl (0, 0)
  | f + 1, true, w, t, c => if K t = 3 then zbd (zeat t []) (fun t1 _ => zXm K V f false w t1 (c ++ [(0, V t)])) else if 23 ≤ K t then zbd (zeat t []) (fun t1 _ => zXm K V f false w t1 (c ++ [(1, K t - 23)])) else if K t = 11 then (if zbr w = 6 then .inl (2, t) else zbd (zeat t []) fun t1 _ => zXm K V f true (11 :: w) t1 c) else .inl (1, t)
  | f + 1, false, w, t, c => if K t = 12 ∧ 0 < zbr w then zbd (zeat t []) (fun t1 _ => zXm K V f false (zpo w).1.tail t1 (c ++ (zpo w).2)) else if K t = 6 ∨ K t = 7 then zbd (zeat t []) (fun t1 _ => zXm K V f true (K t :: (zpo w).1) t1 (c ++ (zpo w).2)) else if K t = 8 ∨ K t = 9 then zbd (zeat t []) (fun t1 _ => zXm K V f true (K t :: (zpq w).1) t1 (c ++ (zpq w).2)) else if 0 < zbr w then .inl (1, t) else .inr (t, c ++ (zpo w).2)
theorem zXm_A {K V : Nat → Nat} (f : Nat) (w : List Nat) (t : Nat) (c : List (Nat × Nat)) : zXm K V (f + 1) true w t c = if K t = 3 then zbd (zeat t []) (fun t1 _ => zXm K V f false w t1 (c ++ [(0, V t)])) else if 23 ≤ K t then zbd (zeat t []) (fun t1 _ => zXm K V f false w t1 (c ++ [(1, K t - 23)])) else if K t = 11 then (if zbr w = 6 then .inl (2, t) else zbd (zeat t []) fun t1 _ => zXm K V f true (11 :: w) t1 c) else .inl (1, t) := rfl
theorem zXm_B {K V : Nat → Nat} (f : Nat) (w : List Nat) (t : Nat) (c : List (Nat × Nat)) : zXm K V (f + 1) false w t c = if K t = 12 ∧ 0 < zbr w then zbd (zeat t []) (fun t1 _ => zXm K V f false (zpo w).1.tail t1 (c ++ (zpo w).2)) else if K t = 6 ∨ K t = 7 then zbd (zeat t []) (fun t1 _ => zXm K V f true (K t :: (zpo w).1) t1 (c ++ (zpo w).2)) else if K t = 8 ∨ K t = 9 then zbd (zeat t []) (fun t1 _ => zXm K V f true (K t :: (zpq w).1) t1 (c ++ (zpq w).2)) else if 0 < zbr w then .inl (1, t) else .inr (t, c ++ (zpo w).2) := rfl
theorem zpo_op {x : Nat} {w : List Nat} (h : x ≠ 11) : zpo (x :: w) = ((zpo w).1, (zopc x, 0) :: (zpo w).2) := by rw [zpo, if_neg h]
theorem zbr_op {x : Nat} {w : List Nat} (h : x ≠ 11) : zbr (x :: w) = zbr w := by rw [zbr, if_neg h, Nat.zero_add]
theorem zpq_op {x : Nat} {w : List Nat} (h : x = 8 ∨ x = 9) : zpq (x :: w) = ((zpq w).1, (zopc x, 0) :: (zpq w).2) := by rw [zpq, if_pos h]
theorem zXm_strong {K V : Nat → Nat} {k : Nat} (hk : k = 8 ∨ k = 9) (f : Nat) (w : List Nat) (t : Nat) (c : List (Nat × Nat)) : zXm K V f false (k :: w) t c = zXm K V f false w t (c ++ [(zopc k, 0)]) := by
  cases f with
  | zero => rfl
  | succ f =>
    rw [zXm_B, zXm_B, zpo_op (by omega), zbr_op (by omega), zpq_op hk, List.append_assoc, List.append_assoc]
    rfl
theorem zXm_weak {K V : Nat → Nat} {k : Nat} (hk : k = 6 ∨ k = 7) (f : Nat) (w : List Nat) (t : Nat) (h8 : K t ≠ 8) (h9 : K t ≠ 9) (c : List (Nat × Nat)) : zXm K V f false (k :: w) t c = zXm K V f false w t (c ++ [(zopc k, 0)]) := by
  have h89 : ¬ (K t = 8 ∨ K t = 9) := by omega
  cases f with
  | zero => rfl
  | succ f =>
    rw [zXm_B, zXm_B, zpo_op (by omega), zbr_op (by omega), if_neg h89, if_neg h89, List.append_assoc]
    rfl
/-- a parser U does what the row does, where w waits -/
def zSame (K V : Nat → Nat) (w : List Nat) (U : Nat → zR) : Prop := ∀ t, t ≤ 400 → ∃ n, ∀ f c, zXm K V (n + f) true w t c = zbd (U t) (fun t' c' => zXm K V f false w t' (c ++ c'))
theorem zQl_keep {K : Nat → Nat} {a b oa ob : Nat} {U : Nat → zR} {Q : Nat → Prop} (hU : ∀ t t' c, t ≤ 400 → U t = .inr (t', c) → Q t') : ∀ f t c t' c', Q t → t ≤ 400 → zQl K a b oa ob U f t c = .inr (t', c') → (∀ t, t ≤ 400 → ∀ t' c, U t = .inr (t', c) → t < t' ∧ t' ≤ 400) → Q t' := by
  intro f
  induction f with
  | zero =>
    intro t c t' c' h1 _ h2 _
    injection h2 with h2; injection h2 with q1 q2
    rw [← q1]; exact h1
  | succ f ih =>
    intro t c t' c' h1 ht h2 h3
    rw [zQl] at h2
    by_cases q : K t = a ∨ K t = b
    · rw [if_pos q] at h2
      by_cases e : t = 400
      · subst e
        rw [zeat_400, zbd_l] at h2; cases h2
      · rw [zeat_ne _ e, zbd_r] at h2
        dsimp only at h2
        cases hq : U (t + 1) with
        | inl x => rw [hq, zbd_l] at h2; cases h2
        | inr x =>
          obtain ⟨t2, c2⟩ := x
          rw [hq, zbd_r] at h2
          obtain ⟨w1, w2⟩ := h3 (t + 1) (by omega) t2 c2 hq
          exact ih t2 _ t' c' (hU _ _ _ (by omega) hq) w2 h2 h3
    · rw [if_neg q] at h2
      injection h2 with h2; injection h2 with q1 q2
      rw [← q1]; exact h1
/-- the loop of a level -/
theorem zSame_loop {K V : Nat → Nat} {a b oa ob : Nat} {U : Nat → zR} {w : List Nat} (hin : ∀ t, t ≤ 400 → ∀ t' c, U t = .inr (t', c) → t < t' ∧ t' ≤ 400) (hU : ∀ k, k = a ∨ k = b → zSame K V (k :: w) U) (hop : ∀ f t c, K t = a ∨ K t = b → zXm K V (f + 1) false w t c = zbd (zeat t []) (fun t1 _ => zXm K V f true (K t :: w) t1 c)) (hB : ∀ k, k = a ∨ k = b → ∀ t, t ≤ 400 → ∀ t2 c2, U t = .inr (t2, c2) → ∀ f c, zXm K V f false (k :: w) t2 c = zXm K V f false w t2 (c ++ [(if k = a then oa else ob, 0)])) : ∀ m t c1, t ≤ 400 → ∃ n, ∀ f c, zXm K V (n + f) false w t (c ++ c1) = zbd (zQl K a b oa ob U m t c1) (fun t' c' => zXm K V f false w t' (c ++ c')) := by
  intro m
  induction m with
  | zero => intro t c1 _; exact ⟨0, fun f c => by rw [Nat.zero_add]; rfl⟩
  | succ m ih =>
    intro t c1 ht
    by_cases q : K t = a ∨ K t = b
    · by_cases e : t = 400
      · refine ⟨1, fun f c => ?_⟩
        rw [Nat.add_comm, hop f t _ q, zQl, if_pos q, e, zeat_400, zbd_l, zbd_l, zbd_l]
      · obtain ⟨n1, h1⟩ := hU (K t) q (t + 1) (by omega)
        cases hq : U (t + 1) with
        | inl x =>
          refine ⟨n1 + 1, fun f c => ?_⟩
          rw [show n1 + 1 + f = n1 + f + 1 by omega, hop _ t _ q, zQl, if_pos q, zeat_ne _ e, zbd_r, zbd_r]
          dsimp only
          rw [h1, hq, zbd_l, zbd_l, zbd_l]
        | inr x =>
          obtain ⟨t2, c2⟩ := x
          obtain ⟨w1, w2⟩ := hin (t + 1) (by omega) t2 c2 hq
          obtain ⟨n2, h2⟩ := ih t2 (c1 ++ c2 ++ [(if K t = a then oa else ob, 0)]) w2
          refine ⟨n1 + n2 + 1, fun f c => ?_⟩
          rw [show n1 + n2 + 1 + f = n1 + (n2 + f) + 1 by omega, hop _ t _ q, zQl, if_pos q, zeat_ne _ e, zbd_r, zbd_r]
          dsimp only
          rw [h1, hq, zbd_r, zbd_r]
          dsimp only
          rw [hB (K t) q (t + 1) (by omega) t2 c2 hq, ← h2 f c]
          congr 1
          simp only [List.append_assoc]
    · refine ⟨0, fun f c => ?_⟩
      rw [Nat.zero_add, zQl, if_neg q]
      rfl
theorem zSame_bd {K V : Nat → Nat} {w : List Nat} {U : Nat → zR} {g : Nat → List (Nat × Nat) → zR} (hin : ∀ t, t ≤ 400 → ∀ t' c, U t = .inr (t', c) → t < t' ∧ t' ≤ 400) (hU : zSame K V w U) (hg : ∀ t c1, t ≤ 400 → ∃ n, ∀ f c, zXm K V (n + f) false w t (c ++ c1) = zbd (g t c1) (fun t' c' => zXm K V f false w t' (c ++ c'))) : zSame K V w (fun t => zbd (U t) g) := by
  intro t ht
  dsimp only
  obtain ⟨n1, h1⟩ := hU t ht
  cases hq : U t with
  | inl x => exact ⟨n1, fun f c => by rw [h1, hq]; rfl⟩
  | inr x =>
    obtain ⟨t2, c2⟩ := x
    obtain ⟨w1, w2⟩ := hin t ht t2 c2 hq
    obtain ⟨n2, h2⟩ := hg t2 c2 w2
    refine ⟨n1 + n2, fun f c => ?_⟩
    rw [Nat.add_assoc, h1, hq, zbd_r, zbd_r]
    exact h2 f c
theorem zSame_Pr {K V : Nat → Nat} {w : List Nat} {U : Nat → zR} {d : Nat} (hin : ∀ t, t ≤ 400 → ∀ t' c, U t = .inr (t', c) → t < t' ∧ t' ≤ 400) (hU : ∀ w, zbr w + d = 6 → zSame K V w U) (hw : zbr w + d = 6) (hq : zpq w = (w, [])) : zSame K V w (zPr K U) := by
  refine zSame_bd hin (hU w hw) fun t c1 ht => zSame_loop hin (fun k hk => hU _ (by rw [zbr_op (by omega)]; exact hw)) (fun f t c h => ?_) (fun k hk t _ t2 c2 _ f c => ?_) 400 t c1 ht
  · rw [zXm_B, if_neg (fun z => by omega), if_neg (by omega), if_pos h, hq, List.append_nil]
  · rw [zXm_strong hk]
    congr 3
    unfold zopc
    rcases hk with rfl | rfl <;> rfl
theorem zin_bd {U : Nat → zR} {g : Nat → List (Nat × Nat) → zR} (hin : ∀ t, t ≤ 400 → ∀ t' c, U t = .inr (t', c) → t < t' ∧ t' ≤ 400) (hg : ∀ t c t' c', t ≤ 400 → g t c = .inr (t', c') → t ≤ t' ∧ t' ≤ 400) : ∀ t, t ≤ 400 → ∀ t' c, zbd (U t) g = .inr (t', c) → t < t' ∧ t' ≤ 400 := by
  intro t ht t' c h
  cases hq : U t with
  | inl x => rw [hq, zbd_l] at h; cases h
  | inr x =>
    obtain ⟨t2, c2⟩ := x
    obtain ⟨w1, w2⟩ := hin t ht t2 c2 hq
    rw [hq, zbd_r] at h
    have := hg t2 c2 t' c w2 h
    omega
theorem zin_Ql {K : Nat → Nat} {a b oa ob : Nat} {U : Nat → zR} (hin : ∀ t, t ≤ 400 → ∀ t' c, U t = .inr (t', c) → t < t' ∧ t' ≤ 400) : ∀ f t c t' c', t ≤ 400 → zQl K a b oa ob U f t c = .inr (t', c') → t ≤ t' ∧ t' ≤ 400 := by
  intro f
  induction f with
  | zero =>
    intro t c t' c' ht h
    injection h with h; injection h with q1 q2
    omega
  | succ f ih =>
    intro t c t' c' ht h
    rw [zQl] at h
    by_cases q : K t = a ∨ K t = b
    · rw [if_pos q] at h
      by_cases e : t = 400
      · subst e
        rw [zeat_400, zbd_l] at h; cases h
      · rw [zeat_ne _ e, zbd_r] at h
        dsimp only at h
        cases hq : U (t + 1) with
        | inl x => rw [hq, zbd_l] at h; cases h
        | inr x =>
          obtain ⟨t2, c2⟩ := x
          rw [hq, zbd_r] at h
          obtain ⟨w1, w2⟩ := hin (t + 1) (by omega) t2 c2 hq
          have := ih t2 _ t' c' w2 h
          omega
    · rw [if_neg q] at h
      injection h with h; injection h with q1 q2
      omega
theorem zin_Pr {K : Nat → Nat} {U : Nat → zR} (hin : ∀ t, t ≤ 400 → ∀ t' c, U t = .inr (t', c) → t < t' ∧ t' ≤ 400) : ∀ t, t ≤ 400 → ∀ t' c, zPr K U t = .inr (t', c) → t < t' ∧ t' ≤ 400 :=
  zin_bd hin fun t c t' c' ht h => zin_Ql hin 400 t c t' c' ht h
theorem zin_Sm {K : Nat → Nat} {P : Nat → zR} (hin : ∀ t, t ≤ 400 → ∀ t' c, P t = .inr (t', c) → t < t' ∧ t' ≤ 400) : ∀ t, t ≤ 400 → ∀ t' c, zSm K P t = .inr (t', c) → t < t' ∧ t' ≤ 400 :=
  zin_bd hin fun t c t' c' ht h => zin_Ql hin 400 t c t' c' ht h
theorem zSm_next {K : Nat → Nat} {U : Nat → zR} (hin : ∀ t, t ≤ 400 → ∀ t' c, U t = .inr (t', c) → t < t' ∧ t' ≤ 400) {t t' : Nat} {c : List (Nat × Nat)} (ht : t ≤ 400) (h : zSm K (zPr K U) t = .inr (t', c)) : K t' ≠ 6 ∧ K t' ≠ 7 ∧ K t' ≠ 8 ∧ K t' ≠ 9 := by
  have hP := zin_Pr hin (K := K)
  unfold zSm at h
  cases hq : zPr K U t with
  | inl x => rw [hq, zbd_l] at h; cases h
  | inr x =>
    obtain ⟨t2, c2⟩ := x
    obtain ⟨w1, w2⟩ := hP t ht t2 c2 hq
    rw [hq, zbd_r] at h
    have a1 := zQl_next hP 400 t2 c2 t' c (by omega) w2 h
    have a2 := zQl_keep (Q := fun t => K t ≠ 8 ∧ K t ≠ 9) (fun t t' c ht' h => zPr_next hin ht' h) 400 t2 c2 t' c (zPr_next hin ht hq) w2 h hP
    exact ⟨a1.1, a1.2, a2.1, a2.2⟩
theorem zSame_Sm {K V : Nat → Nat} {w : List Nat} {U : Nat → zR} {d : Nat} (hin : ∀ t, t ≤ 400 → ∀ t' c, U t = .inr (t', c) → t < t' ∧ t' ≤ 400) (hU : ∀ w, zbr w + d = 6 → zSame K V w U) (hw : zbr w + d = 6) (hq : zpq w = (w, [])) (ho : zpo w = (w, [])) : zSame K V w (zSm K (zPr K U)) := by
  have hP := zin_Pr hin (K := K)
  refine zSame_bd hP (zSame_Pr hin hU hw hq) fun t c1 ht => zSame_loop hP (fun k hk => zSame_Pr hin hU (by rw [zbr_op (by omega)]; exact hw) (by rw [zpq, if_neg (by omega)])) (fun f t c h => ?_) (fun k hk t ht t2 c2 h2 f c => ?_) 400 t c1 ht
  · rw [zXm_B, if_neg (fun z => by omega), if_pos h, ho, List.append_nil]
  · obtain ⟨n1, n2⟩ := zPr_next hin ht h2
    rw [zXm_weak hk f w t2 n1 n2]
    congr 3
    unfold zopc
    rcases hk with rfl | rfl <;> rfl
theorem zin_Un {K V : Nat → Nat} {d : Nat} {S : Nat → zR} (hS : d = 0 ∨ ∀ t, t ≤ 400 → ∀ t' c, S t = .inr (t', c) → t < t' ∧ t' ≤ 400) : ∀ t, t ≤ 400 → ∀ t' c, zUn K V d S t = .inr (t', c) → t < t' ∧ t' ≤ 400 := by
  have he : ∀ t c t' c', t ≤ 400 → zeat t c = .inr (t', c') → t < t' ∧ t' ≤ 400 := fun t c t' c' ht h => by
    by_cases e : t = 400
    · rw [e, zeat_400] at h; cases h
    · rw [zeat_ne _ e] at h
      injection h with h; injection h with q1 q2
      omega
  intro t ht t' c h
  unfold zUn at h
  by_cases q3 : K t = 3
  · rw [if_pos q3] at h; exact he _ _ _ _ ht h
  rw [if_neg q3] at h
  by_cases q23 : 23 ≤ K t
  · rw [if_pos q23] at h; exact he _ _ _ _ ht h
  rw [if_neg q23] at h
  by_cases q11 : K t = 11
  · rw [if_pos q11] at h
    by_cases q0 : d = 0
    · rw [if_pos q0] at h; cases h
    · rw [if_neg q0] at h
      have hS := hS.resolve_left q0
      by_cases e : t = 400
      · rw [e, zeat_400, zbd_l] at h; cases h
      · rw [zeat_ne _ e, zbd_r] at h
        dsimp only at h
        cases hq : S (t + 1) with
        | inl x => rw [hq, zbd_l] at h; cases h
        | inr x =>
          obtain ⟨t2, c2⟩ := x
          obtain ⟨w1, w2⟩ := hS (t + 1) (by omega) t2 c2 hq
          rw [hq, zbd_r] at h
          dsimp only at h
          by_cases q12 : K t2 = 12
          · rw [if_pos q12] at h
            have := he _ _ _ _ w2 h
            omega
          · rw [if_neg q12] at h; cases h
  · rw [if_neg q11] at h; cases h
theorem zin_Ud {K V : Nat → Nat} : ∀ d t, t ≤ 400 → ∀ t' c, zUd K V d t = .inr (t', c) → t < t' ∧ t' ≤ 400 := by
  intro d
  induction d with
  | zero => exact zin_Un (Or.inl rfl)
  | succ d ih => exact zin_Un (Or.inr (zin_Sm (zin_Pr ih)))
theorem zSame_Ud {K V : Nat → Nat} : ∀ d w, zbr w + d = 6 → zSame K V w (zUd K V d) := by
  -- what does not open a bracket
  have pl : ∀ d w S t, zbr w + d = 6 → t ≤ 400 → (K t = 11 → ∃ n, ∀ f c, zXm K V (n + f) true w t c = zbd (zUn K V d S t) (fun t' c' => zXm K V f false w t' (c ++ c'))) → ∃ n, ∀ f c, zXm K V (n + f) true w t c = zbd (zUn K V d S t) (fun t' c' => zXm K V f false w t' (c ++ c')) := by
    intro d w S t hw ht h11
    have he : ∀ c0 : List (Nat × Nat), ∀ f c, zbd (zeat t []) (fun t1 _ => zXm K V f false w t1 (c ++ c0)) = zbd (zeat t c0) (fun t' c' => zXm K V f false w t' (c ++ c')) := by
      intro c0 f c
      by_cases e : t = 400
      · rw [e]; rfl
      · rw [zeat_ne _ e, zeat_ne _ e]; rfl
    by_cases q3 : K t = 3
    · refine ⟨1, fun f c => ?_⟩
      rw [Nat.add_comm, zXm_A, if_pos q3, zUn, if_pos q3, he]
    by_cases q23 : 23 ≤ K t
    · refine ⟨1, fun f c => ?_⟩
      rw [Nat.add_comm, zXm_A, if_neg q3, if_pos q23, zUn, if_neg q3, if_pos q23, he]
    by_cases q11 : K t = 11
    · exact h11 q11
    · refine ⟨1, fun f c => ?_⟩
      rw [Nat.add_comm, zXm_A, if_neg q3, if_neg q23, if_neg q11, zUn, if_neg q3, if_neg q23, if_neg q11]
      rfl
  intro d
  induction d with
  | zero =>
    intro w hw t ht
    refine pl 0 w _ t hw ht fun q11 => ⟨1, fun f c => ?_⟩
    rw [Nat.add_comm, zXm_A, if_neg (by omega), if_neg (by omega), if_pos q11, if_pos (by omega), zUn, if_neg (by omega), if_neg (by omega), if_pos q11, if_pos rfl]
    rfl
  | succ d ih =>
    intro w hw t ht
    refine pl (d + 1) w _ t hw ht fun q11 => ?_
    have hw2 : zbr (11 :: w) + d = 6 := by rw [zbr, if_pos rfl]; omega
    have hS := zSame_Sm (w := 11 :: w) (zin_Ud d) ih hw2 (by rw [zpq, if_neg (by omega)]) (by rw [zpo, if_pos rfl])
    by_cases e : t = 400
    · subst e
      refine ⟨1, fun f c => ?_⟩
      rw [Nat.add_comm, zXm_A, if_neg (by omega), if_neg (by omega), if_pos q11, if_neg (by omega), zUn, if_neg (by omega), if_neg (by omega), if_pos q11, if_neg (by omega), zeat_400]
      rfl
    · obtain ⟨n, h⟩ := hS (t + 1) (by omega)
      refine ⟨n + 2, fun f c => ?_⟩
      rw [show n + 2 + f = n + (f + 1) + 1 by omega, zXm_A, if_neg (by omega), if_neg (by omega), if_pos q11, if_neg (by omega), zUn, if_neg (by omega), if_neg (by omega), if_pos q11, if_neg (by omega), zeat_ne _ e, zbd_r, zbd_r]
      dsimp only
      rw [h]
      cases hq : zSm K (zPr K (zUd K V d)) (t + 1) with
      | inl x => rfl
      | inr x =>
        obtain ⟨t2, c2⟩ := x
        obtain ⟨n1, n2, n3, n4⟩ := zSm_next (zin_Ud d) (by omega) hq
        rw [zbd_r, zbd_r]
        dsimp only
        have hb : 0 < zbr (11 :: w) := by rw [zbr, if_pos rfl]; omega
        rw [zXm_B]
        by_cases q12 : K t2 = 12
        · rw [if_pos ⟨q12, hb⟩, if_pos q12, zpo, if_pos rfl]
          by_cases e2 : t2 = 400
          · rw [e2]; rfl
          · rw [zeat_ne _ e2, zeat_ne _ e2, zbd_r, zbd_r, List.append_nil]; rfl
        · rw [if_neg (fun z => q12 z.1), if_neg (by omega), if_neg (by omega), if_pos hb, if_neg q12]
          rfl
/-- an expression: the row comes to what the parser comes to -/
theorem zXm_all {K V : Nat → Nat} {t : Nat} (ht : t ≤ 400) : ∃ f, zXm K V f true [] t [] = zSd K V 6 t := by
  obtain ⟨n, h⟩ := zSame_Sm (w := []) (zin_Ud 6) (zSame_Ud 6) (by rfl) rfl rfl t ht
  refine ⟨n + 1, ?_⟩
  rw [h]
  show zbd (zSd K V 6 t) _ = _
  cases hq : zSd K V 6 t with
  | inl x => rfl
  | inr x =>
    obtain ⟨t2, c2⟩ := x
    obtain ⟨n1, n2, n3, n4⟩ := zSm_next (zin_Ud 6) ht hq
    rw [zbd_r]
    dsimp only
    rw [List.nil_append, show (1 : Nat) = 0 + 1 from rfl, zXm_B, if_neg (fun z => absurd z.2 (Nat.lt_irrefl _)), if_neg (by omega), if_neg (by omega), if_neg (show ¬ 0 < zbr [] from Nat.lt_irrefl 0)]
    rw [show (zpo []).2 = [] from rfl, List.append_nil]
