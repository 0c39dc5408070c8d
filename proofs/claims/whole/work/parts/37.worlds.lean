/-! FROM THE CONSTRUCTORS TO THE TWO WORLDS -/
/-- where a cell of WC stands in the order of making -/
def pmL : List Nat := [0, 205, 1, 2, 3, 4, 5, 6, 7, 8, 9, 16, 17, 18, 19, 10, 11, 12, 13, 14, 15, 20, 21, 22, 23, 24, 25, 26, 27, 28, 29, 34, 35, 36, 37, 38, 43, 44, 39, 40, 41, 42, 30, 31, 32, 33]
def pm (c : Nat) : Nat := if c < 46 then pmL.getD c 0 else if c < 206 then c - 1 else c
theorem pm_lt : ∀ c, c < 218 → pm c < 218 := by decide +kernel
theorem pm_inj {a b : Nat} (ha : a < 218) (hb : b < 218) (h : pm a = pm b) : a = b := by
  have inv : ∃ g : Nat → Nat, ∀ c, c < 218 → g (pm c) = c :=
    ⟨fun x => ((List.range 218).map fun c => (pm c, c)).lookup x |>.getD 0, by decide +kernel⟩
  obtain ⟨g, hg⟩ := inv
  rw [← hg a ha, ← hg b hb, h]
/-- the class as its constructor leaves it -/
def σC : St := (fun c => if 4 ≤ c ∧ c < 10 then σT.1 (c - 4) else if 15 ≤ c ∧ c < 21 then σT.1 (c - 15) else if c = 0 then (fun i => if i = 11 then -1 else 0) else fun _ => 0, fun c => if 4 ≤ c ∧ c < 10 then σT.2 (c - 4) else if 15 ≤ c ∧ c < 21 then σT.2 (c - 15) else fun _ => 0)
theorem arrV_congr {cA : ClassId} {n : Nat} {f g : Nat → Value} (h : ∀ j, j < n → f j = g j) : arrV cA n f = arrV cA n g := by
  unfold arrV
  have e : (fun j : Fin n => f j.val) = fun j : Fin n => g j.val := funext fun j => h j.val j.isLt
  rw [e]
theorem refs_at {D : va_G} {a n : Nat} {cA : ClassId} {f g : Nat → Option Nat} {H : Heap} (h : va_at D vwCl (a, .inl (cA, n, .inr (.inr (.inr (.inr f))))) H) (hfg : ∀ j, j < n → f j = g j) : va_at D vwCl (a, .inl (cA, n, .inr (.inr (.inr (.inr g))))) H := by
  have h1 : H[a]? = some (vp_cell cA (n, .inr (.inr (.inr (.inr f))))) := h
  show H[a]? = some (vp_cell cA (n, .inr (.inr (.inr (.inr g)))))
  rw [h1]
  refine congrArg some ?_
  show arrV cA n (fun j => va_rf (f j)) = arrV cA n (fun j => va_rf (g j))
  exact arrV_congr (fun j hj => by rw [hfg j hj])
theorem wfldS {ad : Nat → Nat} {σ : St} {k : Nat} (h : isSt k) (hσ : ∀ i, σ.1 k i = 0) : wfld WC ad σ 6 8 k = [.ref (ad (k + 1)), .ref (ad (k + 2)), .ref (ad (k + 3)), .int 0, .int 0, .int 0, .int 0, .int 0] := by
  have e : List.range 8 = [0, 1, 2, 3, 4, 5, 6, 7] := by decide
  unfold wfld
  rw [e]
  simp only [List.map_cons, List.map_nil, h.r0, h.r1, h.r2, hσ]
  rfl
theorem wentS {cy : Nat → ClassId} {ad A : Nat → Nat} {σ : St} {k r : Nat} (h : isSt k) (hr : r < 4) (hσ : ∀ d, d < 4 → ∀ i, σ.1 (k + d) i = 0) (hA : ∀ j, j < 4 → ad (k + j) = A j) : F_X6 cy A r = went WC ad cy σ (k + r) := by
  match r, hr with
  | 0, _ =>
    show _ = went WC ad cy σ k
    rw [went_obj h.s0, wfldS h (hσ 0 (by decide)), hA 1 (by decide), hA 2 (by decide), hA 3 (by decide)]
    rfl
  | 1, _ => rw [went_i h.s1, show σ.1 (k + 1) = fun _ => 0 from funext (hσ 1 (by decide))]; rfl
  | 2, _ => rw [went_i h.s2, show σ.1 (k + 2) = fun _ => 0 from funext (hσ 2 (by decide))]; rfl
  | 3, _ => rw [went_i h.s3, show σ.1 (k + 3) = fun _ => 0 from funext (hσ 3 (by decide))]; rfl
theorem σC_0 {c i : Nat} (h : 21 ≤ c) : σC.1 c i = 0 := by
  show (if 4 ≤ c ∧ c < 10 then σT.1 (c - 4) else if 15 ≤ c ∧ c < 21 then σT.1 (c - 15) else if c = 0 then (fun i => if i = 11 then -1 else 0) else fun _ => 0) i = 0
  rw [if_neg (by omega), if_neg (by omega), if_neg (by omega)]
theorem wentT {cy : Nat → ClassId} {ad A : Nat → Nat} {σ τ : St} {o i : Nat} (h : isTx WC o) (hi : i < 6) (hσ : ∀ d, d < 6 → σ.1 (o + d) = τ.1 d ∧ σ.2 (o + d) = τ.2 d) (hA : ∀ j, j < 6 → ad (o + j) = A j) : went WT A cy τ i = went WC ad cy σ (o + i) := by
  match i, hi with
  | 0, _ =>
    show _ = went WC ad cy σ o
    have e1 : σ.1 o = τ.1 0 := (hσ 0 (by decide)).1
    have e : List.range 9 = [0, 1, 2, 3, 4, 5, 6, 7, 8] := by decide
    rw [went_obj h.s0, went_obj txT.s0]
    unfold wfld
    rw [e]
    simp only [List.map_cons, List.map_nil, h.r0, h.r1, h.r2, h.r3, h.r4, e1, hA 1 (by decide), hA 2 (by decide), hA 3 (by decide), hA 4 (by decide), hA 5 (by decide)]
    rfl
  | 1, _ => rw [went_i h.s1, went_i txT.s1, (hσ 1 (by decide)).1]
  | 2, _ => rw [went_i h.s2, went_i txT.s2, (hσ 2 (by decide)).1]
  | 3, _ => rw [went_i h.s3, went_i txT.s3, (hσ 3 (by decide)).1]
  | 4, _ => rw [went_i h.s4, went_i txT.s4, (hσ 4 (by decide)).1]
  | 5, _ => rw [went_j h.s5, went_j txT.s5, (hσ 5 (by decide)).2]
theorem σC_t1 : ∀ d, d < 6 → σC.1 (4 + d) = σT.1 d ∧ σC.2 (4 + d) = σT.2 d := by
  intro d hd
  refine ⟨?_, ?_⟩
  · show (if 4 ≤ 4 + d ∧ 4 + d < 10 then σT.1 (4 + d - 4) else _) = _
    rw [if_pos (by omega), Nat.add_sub_cancel_left]
  · show (if 4 ≤ 4 + d ∧ 4 + d < 10 then σT.2 (4 + d - 4) else _) = _
    rw [if_pos (by omega), Nat.add_sub_cancel_left]
theorem σC_t2 : ∀ d, d < 6 → σC.1 (15 + d) = σT.1 d ∧ σC.2 (15 + d) = σT.2 d := by
  intro d hd
  refine ⟨?_, ?_⟩
  · show (if 4 ≤ 15 + d ∧ 15 + d < 10 then σT.1 (15 + d - 4) else if 15 ≤ 15 + d ∧ 15 + d < 21 then σT.1 (15 + d - 15) else _) = _
    rw [if_neg (by omega), if_pos (by omega), Nat.add_sub_cancel_left]
  · show (if 4 ≤ 15 + d ∧ 15 + d < 10 then σT.2 (15 + d - 4) else if 15 ≤ 15 + d ∧ 15 + d < 21 then σT.2 (15 + d - 15) else _) = _
    rw [if_neg (by omega), if_pos (by omega), Nat.add_sub_cancel_left]
theorem pm_t1 {ad : Nat → Nat} {j : Nat} (hj : j < 6) : (fun c => ad (pm c)) (4 + j) = (fun j => ad (3 + j)) j := by
  have h : ∀ j, j < 6 → pm (4 + j) = 3 + j := by decide
  show ad (pm (4 + j)) = ad (3 + j)
  rw [h j hj]
theorem pm_t2 {ad : Nat → Nat} {j : Nat} (hj : j < 6) : (fun c => ad (pm c)) (15 + j) = (fun j => ad (10 + j)) j := by
  have h : ∀ j, j < 6 → pm (15 + j) = 10 + j := by decide
  show ad (pm (15 + j)) = ad (10 + j)
  rw [h j hj]
theorem toWC {D : va_G} {cy : Nat → ClassId} {ad : Nat → Nat} {H : Heap} (hP : va_P D vwCl (cL ad (F_X10 cy ad) 218) H) : va_P D vwCl (wl WC (fun c => ad (pm c)) cy σC) H := by
  intro k q hk
  obtain ⟨hk1, rfl⟩ := wl_of hk
  clear hk
  have hk : k < 218 := hk1
  clear hk1
  have h0 := hP (pm k) _ (cL_at (pm_lt k hk))
  by_cases h46 : k < 46
  · clear hk
    match k, h46 with
    | 0, _ => exact h0
    | 1, _ => exact refs_at h0 (fun j hj => by
        match j, hj with
        | 0, _ => rfl
        | 1, _ => rfl
        | 2, _ => rfl)
    | 2, _ => exact h0
    | 3, _ => exact h0
    | 4, _ => exact (show F_X10 cy ad 3 = went WC (fun c => ad (pm c)) cy σC (4 + 0) from wentT (i := 0) (A := fun j => ad (3 + j)) tx_1 (by decide) σC_t1 (fun j hj => pm_t1 hj)) ▸ h0
    | 5, _ => exact (show F_X10 cy ad 4 = went WC (fun c => ad (pm c)) cy σC (4 + 1) from wentT (i := 1) (A := fun j => ad (3 + j)) tx_1 (by decide) σC_t1 (fun j hj => pm_t1 hj)) ▸ h0
    | 6, _ => exact (show F_X10 cy ad 5 = went WC (fun c => ad (pm c)) cy σC (4 + 2) from wentT (i := 2) (A := fun j => ad (3 + j)) tx_1 (by decide) σC_t1 (fun j hj => pm_t1 hj)) ▸ h0
    | 7, _ => exact (show F_X10 cy ad 6 = went WC (fun c => ad (pm c)) cy σC (4 + 3) from wentT (i := 3) (A := fun j => ad (3 + j)) tx_1 (by decide) σC_t1 (fun j hj => pm_t1 hj)) ▸ h0
    | 8, _ => exact (show F_X10 cy ad 7 = went WC (fun c => ad (pm c)) cy σC (4 + 4) from wentT (i := 4) (A := fun j => ad (3 + j)) tx_1 (by decide) σC_t1 (fun j hj => pm_t1 hj)) ▸ h0
    | 9, _ => exact (show F_X10 cy ad 8 = went WC (fun c => ad (pm c)) cy σC (4 + 5) from wentT (i := 5) (A := fun j => ad (3 + j)) tx_1 (by decide) σC_t1 (fun j hj => pm_t1 hj)) ▸ h0
    | 10, _ => exact h0
    | 11, _ => exact h0
    | 12, _ => exact h0
    | 13, _ => exact h0
    | 14, _ => exact h0
    | 15, _ => exact (show F_X10 cy ad 10 = went WC (fun c => ad (pm c)) cy σC (15 + 0) from wentT (i := 0) (A := fun j => ad (10 + j)) tx_2 (by decide) σC_t2 (fun j hj => pm_t2 hj)) ▸ h0
    | 16, _ => exact (show F_X10 cy ad 11 = went WC (fun c => ad (pm c)) cy σC (15 + 1) from wentT (i := 1) (A := fun j => ad (10 + j)) tx_2 (by decide) σC_t2 (fun j hj => pm_t2 hj)) ▸ h0
    | 17, _ => exact (show F_X10 cy ad 12 = went WC (fun c => ad (pm c)) cy σC (15 + 2) from wentT (i := 2) (A := fun j => ad (10 + j)) tx_2 (by decide) σC_t2 (fun j hj => pm_t2 hj)) ▸ h0
    | 18, _ => exact (show F_X10 cy ad 13 = went WC (fun c => ad (pm c)) cy σC (15 + 3) from wentT (i := 3) (A := fun j => ad (10 + j)) tx_2 (by decide) σC_t2 (fun j hj => pm_t2 hj)) ▸ h0
    | 19, _ => exact (show F_X10 cy ad 14 = went WC (fun c => ad (pm c)) cy σC (15 + 4) from wentT (i := 4) (A := fun j => ad (10 + j)) tx_2 (by decide) σC_t2 (fun j hj => pm_t2 hj)) ▸ h0
    | 20, _ => exact (show F_X10 cy ad 15 = went WC (fun c => ad (pm c)) cy σC (15 + 5) from wentT (i := 5) (A := fun j => ad (10 + j)) tx_2 (by decide) σC_t2 (fun j hj => pm_t2 hj)) ▸ h0
    | 21, _ => exact h0
    | 22, _ => exact h0
    | 23, _ => exact h0
    | 24, _ => exact h0
    | 25, _ => exact h0
    | 26, _ => exact h0
    | 27, _ => exact h0
    | 28, _ => exact h0
    | 29, _ => exact h0
    | 30, _ => exact h0
    | 31, _ => exact h0
    | 32, _ => exact h0
    | 33, _ => exact h0
    | 34, _ => exact h0
    | 35, _ => exact h0
    | 36, _ => exact h0
    | 37, _ => exact refs_at h0 (fun j hj => by
        show (if j < 40 then some (ad (43 + (2 + 4 * j))) else none) = some (ad (pm (46 + 4 * j)))
        rw [if_pos hj, pm, if_neg (by omega), if_pos (by omega), show 46 + 4 * j - 1 = 43 + (2 + 4 * j) by omega])
    | 38, _ => exact h0
    | 39, _ => exact h0
    | 40, _ => exact h0
    | 41, _ => exact h0
    | 42, _ => exact h0
    | 43, _ => exact h0
    | 44, _ => exact h0
    | 45, _ => exact h0
    | k + 46, h => exact absurd h (by omega)
  · by_cases h206 : k < 206
    · obtain ⟨j, r, hr, rfl⟩ : ∃ j r, r < 4 ∧ k = 46 + 4 * j + r := ⟨(k - 46) / 4, (k - 46) % 4, Nat.mod_lt _ (by decide), by omega⟩
      have hp : pm (46 + 4 * j + r) = 45 + 4 * j + r := by rw [pm, if_neg h46, if_pos h206]; omega
      have e : F_X10 cy ad (45 + 4 * j + r) = went WC (fun c => ad (pm c)) cy σC (46 + 4 * j + r) := by
        rw [F_X10]
        rw [if_neg (show ¬ 45 + 4 * j + r < 1 by omega)]
        rw [if_neg (show ¬ 45 + 4 * j + r < 3 by omega)]
        rw [if_neg (show ¬ 45 + 4 * j + r < 9 by omega)]
        rw [if_neg (show ¬ 45 + 4 * j + r < 20 by omega)]
        rw [if_neg (show ¬ 45 + 4 * j + r < 24 by omega)]
        rw [if_neg (show ¬ 45 + 4 * j + r < 29 by omega)]
        rw [if_neg (show ¬ 45 + 4 * j + r < 34 by omega)]
        rw [if_neg (show ¬ 45 + 4 * j + r < 39 by omega)]
        rw [if_neg (show ¬ 45 + 4 * j + r < 43 by omega)]
        rw [if_pos (show 45 + 4 * j + r < 205 by omega), F_X0, if_neg (by omega), if_neg (by omega)]
        rw [show (45 + 4 * j + r - 43 - 2) / 4 = j by omega, show (45 + 4 * j + r - 43 - 2) % 4 = r by omega]
        refine wentS (k := 46 + 4 * j) ⟨2 + j, by omega, by omega⟩ hr (fun d _ i => σC_0 (by omega)) (fun t ht => ?_)
        show ad (pm (46 + 4 * j + t)) = ad (43 + (2 + 4 * j + t))
        rw [pm, if_neg (by omega), if_pos (by omega), show 46 + 4 * j + t - 1 = 43 + (2 + 4 * j + t) by omega]
      rw [hp, e] at h0
      have h1 : (fun c => ad (pm c)) (46 + 4 * j + r) = ad (45 + 4 * j + r) := by show ad (pm _) = _; rw [hp]
      rw [← h1] at h0
      exact h0
    · obtain ⟨j, r, hr, rfl⟩ : ∃ j r, r < 4 ∧ k = 206 + 4 * j + r := ⟨(k - 206) / 4, (k - 206) % 4, Nat.mod_lt _ (by decide), by omega⟩
      have hp : pm (206 + 4 * j + r) = 206 + 4 * j + r := by rw [pm, if_neg h46, if_neg h206]
      have e : F_X10 cy ad (206 + 4 * j + r) = went WC (fun c => ad (pm c)) cy σC (206 + 4 * j + r) := by
        rw [F_X10]
        rw [if_neg (show ¬ 206 + 4 * j + r < 1 by omega)]
        rw [if_neg (show ¬ 206 + 4 * j + r < 3 by omega)]
        rw [if_neg (show ¬ 206 + 4 * j + r < 9 by omega)]
        rw [if_neg (show ¬ 206 + 4 * j + r < 20 by omega)]
        rw [if_neg (show ¬ 206 + 4 * j + r < 24 by omega)]
        rw [if_neg (show ¬ 206 + 4 * j + r < 29 by omega)]
        rw [if_neg (show ¬ 206 + 4 * j + r < 34 by omega)]
        rw [if_neg (show ¬ 206 + 4 * j + r < 39 by omega)]
        rw [if_neg (show ¬ 206 + 4 * j + r < 43 by omega)]
        rw [if_neg (show ¬ 206 + 4 * j + r < 205 by omega)]
        rw [if_neg (show ¬ 206 + 4 * j + r < 206 by omega)]
        rw [show (206 + 4 * j + r - 206) / 4 = j by omega, show (206 + 4 * j + r - 206) % 4 = r by omega]
        refine wentS (k := 206 + 4 * j) ⟨42 + j, by omega, by omega⟩ hr (fun d _ i => σC_0 (by omega)) (fun t ht => ?_)
        show ad (pm (206 + 4 * j + t)) = ad (206 + 4 * j + t)
        rw [pm, if_neg (by omega), if_neg (by omega)]
      rw [hp, e] at h0
      have h1 : (fun c => ad (pm c)) (206 + 4 * j + r) = ad (206 + 4 * j + r) := by show ad (pm _) = _; rw [hp]
      rw [← h1] at h0
      exact h0
