/-! STAGE B, 30: orders: the next one, how many -/
def zlfB (le : Nat → Nat → Bool) : Nat → Option Nat
  | 0 => none
  | k + 1 => if le k (k + 1) = true then some k else zlfB le k
def zrtB (le : Nat → Nat → Bool) (i : Nat) : Nat → Nat
  | 0 => 0
  | j + 1 => if le i (j + 1) = true then j + 1 else zrtB le i j
def zrvP : Nat → Nat → Nat → Nat → Nat
  | 0, _, _, t => t
  | k + 1, a, b, t => if a < b then zswP a b (zrvP k (a + 1) (b - 1) t) else t
/-- whence the numbers of the next order come -/
def znp (m : Nat) (le : Nat → Nat → Bool) : Option (Nat → Nat) :=
  match zlfB le (m - 1) with
  | none => none
  | some i => some (fun t => zswP i (zrtB le i (m - 1)) (zrvP 4 (i + 1) (m - 1) t))
def zleV (V : Nat → Int32) (a b : Nat) : Bool := decide (V a ≤ V b)
def zmnx (m : Nat) (V : Nat → Int32) : Option (Nat → Int32) := (znp m (zleV V)).map fun q t => V (q t)
/-- k orders more -/
def zCV (m : Nat) : Nat → (Nat → Int32) → Prop
  | 0, V => zmnx m V = none
  | k + 1, V => ∃ V', zmnx m V = some V' ∧ zCV m k V'
theorem zlf_lt {le : Nat → Nat → Bool} : ∀ {k i : Nat}, zlfB le k = some i → i < k ∧ le i (i + 1) = true := by
  intro k
  induction k with
  | zero => intro i h; cases h
  | succ k ih =>
    intro i h
    rw [zlfB] at h
    by_cases e : le k (k + 1) = true
    · rw [if_pos e] at h; cases h; exact ⟨Nat.lt_succ_self _, e⟩
    · rw [if_neg e] at h
      obtain ⟨h1, h2⟩ := ih h
      exact ⟨by omega, h2⟩
theorem zlf_congr {le le' : Nat → Nat → Bool} : ∀ {k : Nat}, (∀ a b, a ≤ k → b ≤ k → le a b = le' a b) → zlfB le k = zlfB le' k := by
  intro k
  induction k with
  | zero => intro _; rfl
  | succ k ih =>
    intro h
    rw [zlfB, zlfB, h k (k + 1) (by omega) (by omega), ih (fun a b ha hb => h a b (by omega) (by omega))]
theorem zrt_congr {le le' : Nat → Nat → Bool} {i : Nat} : ∀ {k : Nat}, (∀ b, b ≤ k → le i b = le' i b) → zrtB le i k = zrtB le' i k := by
  intro k
  induction k with
  | zero => intro _; rfl
  | succ k ih =>
    intro h
    rw [zrtB, zrtB, h (k + 1) (by omega), ih (fun b hb => h b (by omega))]
theorem zrt_le {le : Nat → Nat → Bool} {i : Nat} : ∀ {k : Nat}, zrtB le i k ≤ k := by
  intro k
  induction k with
  | zero => exact Nat.le_refl _
  | succ k ih =>
    rw [zrtB]
    by_cases e : le i (k + 1) = true
    · rw [if_pos e]; exact Nat.le_refl _
    · rw [if_neg e]; omega
theorem zrt_gt {le : Nat → Nat → Bool} {i : Nat} (h : le i (i + 1) = true) : ∀ {k : Nat}, i < k → i < zrtB le i k := by
  intro k
  induction k with
  | zero => intro h; omega
  | succ k ih =>
    intro hk
    rw [zrtB]
    by_cases e : le i (k + 1) = true
    · rw [if_pos e]; exact hk
    · rw [if_neg e]
      by_cases q : i = k
      · subst q; exact absurd h e
      · exact ih (by omega)
theorem zrv_lt : ∀ {k a b m t : Nat}, b < m → t < m → zrvP k a b t < m := by
  intro k
  induction k with
  | zero => intro a b m t _ h; exact h
  | succ k ih =>
    intro a b m t hb ht
    rw [zrvP]
    by_cases e : a < b
    · rw [if_pos e]
      exact zswP_lt (by omega) hb (ih (by omega) ht)
    · rw [if_neg e]; exact ht
theorem zrv_inj : ∀ {k a b t s : Nat}, zrvP k a b t = zrvP k a b s → t = s := by
  intro k
  induction k with
  | zero => intro a b t s h; exact h
  | succ k ih =>
    intro a b t s h
    rw [zrvP, zrvP] at h
    by_cases e : a < b
    · rw [if_pos e, if_pos e] at h
      exact ih (zswP_inj h)
    · rw [if_neg e, if_neg e] at h; exact h
theorem zswP_out {a b t : Nat} (h : t ≠ a) (h2 : t ≠ b) : zswP a b t = t := by
  unfold zswP
  rw [if_neg h2, if_neg h]
theorem zrv_out : ∀ {k a b t : Nat}, b < t → zrvP k a b t = t := by
  intro k
  induction k with
  | zero => intro a b t _; rfl
  | succ k ih =>
    intro a b t h
    rw [zrvP]
    by_cases e : a < b
    · rw [if_pos e, ih (by omega), zswP_out (by omega) (by omega)]
    · rw [if_neg e]
theorem znp_lt {m : Nat} {le : Nat → Nat → Bool} {q : Nat → Nat} (h : znp m le = some q) : (∀ t, t < m → q t < m) ∧ (∀ t s, q t = q s → t = s) ∧ ∀ t, m ≤ t → q t = t := by
  unfold znp at h
  cases e : zlfB le (m - 1) with
  | none => rw [e] at h; cases h
  | some i =>
    rw [e] at h
    cases h
    obtain ⟨h1, h2⟩ := zlf_lt e
    have h3 := zrt_le (le := le) (i := i) (k := m - 1)
    refine ⟨fun t ht => ?_, fun t s hts => zrv_inj (zswP_inj hts), fun t ht => ?_⟩
    · exact zswP_lt (by omega) (by omega) (zrv_lt (by omega) ht)
    · show zswP i _ (zrvP 4 (i + 1) (m - 1) t) = t
      rw [zrv_out (by omega), zswP_out (by omega) (by omega)]
theorem znp_congr {m : Nat} {le le' : Nat → Nat → Bool} (h : ∀ a b, a < m → b < m → le a b = le' a b) : znp m le = znp m le' := by
  unfold znp
  by_cases hm : m = 0
  · subst hm; rfl
  · rw [zlf_congr (le := le) (le' := le') (k := m - 1) (fun a b ha hb => h a b (by omega) (by omega))]
    cases e : zlfB le' (m - 1) with
    | none => rfl
    | some i =>
      obtain ⟨h1, h2⟩ := zlf_lt e
      dsimp only
      rw [zrt_congr (le := le) (le' := le') (k := m - 1) (fun b hb => h i b (by omega) (by omega))]
theorem zmnx_congr {m : Nat} {V V' W : Nat → Int32} (h : ∀ i, i < m → V i = V' i) (hW : zmnx m V = some W) : ∃ W', zmnx m V' = some W' ∧ ∀ i, i < m → W i = W' i := by
  unfold zmnx at hW ⊢
  rw [← znp_congr (le := zleV V) (le' := zleV V') (fun a b ha hb => by unfold zleV; rw [h a ha, h b hb])]
  cases e : znp m (zleV V) with
  | none => rw [e] at hW; cases hW
  | some q =>
    rw [e] at hW
    cases hW
    exact ⟨_, rfl, fun i hi => h _ ((znp_lt e).1 i hi)⟩
theorem zmnx_none {m : Nat} {V V' : Nat → Int32} (h : ∀ i, i < m → V i = V' i) (hW : zmnx m V = none) : zmnx m V' = none := by
  unfold zmnx at hW ⊢
  rw [← znp_congr (le := zleV V) (le' := zleV V') (fun a b ha hb => by unfold zleV; rw [h a ha, h b hb])]
  cases e : znp m (zleV V) with
  | none => rfl
  | some q => rw [e] at hW; cases hW
/-- the next order is made of the same numbers -/
theorem zmnx_of {m : Nat} {V W : Nat → Int32} (hW : zmnx m V = some W) : ∃ q : Nat → Nat, (∀ t, t < m → q t < m) ∧ (∀ t s, q t = q s → t = s) ∧ (∀ t, m ≤ t → q t = t) ∧ W = fun t => V (q t) := by
  unfold zmnx at hW
  cases e : znp m (zleV V) with
  | none => rw [e] at hW; cases hW
  | some q =>
    rw [e] at hW
    cases hW
    obtain ⟨h1, h2, h3⟩ := znp_lt e
    exact ⟨q, h1, h2, h3, rfl⟩
theorem zWV_nx {n m : Nat} {V W : Nat → Int32} (hV : WV n m V) (hW : zmnx m V = some W) : WV n m W ∧ (∀ i, 7 ≤ i → W i = V i) ∧ ∀ i, i < m → ∃ j, j < m ∧ W i = V j := by
  obtain ⟨q, h1, h2, h3, rfl⟩ := zmnx_of hW
  have h7 := zWV7 hV
  refine ⟨zWV_sub q hV hV.1 (by rw [h3 7 h7]; exact hV.2.2.1) h1 (fun i j _ _ e => h2 i j e) (fun _ _ => rfl), fun i hi => by show V (q i) = V i; rw [h3 i (by omega)], fun i hi => ⟨q i, h1 i hi, rfl⟩⟩
-- orders as lists of small numbers
def zfz {A : Type} (n : Nat) (k : Nat → A) : A := Nat.rec (k 0) (fun n _ => k (n + 1)) n
theorem zfz_eq {A : Type} (n : Nat) (k : Nat → A) : zfz n k = k n := by
  cases n <;> rfl
def zfl {A : Type} : List Nat → (List Nat → A) → A
  | [], k => k []
  | x :: l, k => zfz x (fun v => zfl l (fun r => k (v :: r)))
theorem zfl_eq {A : Type} : ∀ (l : List Nat) (k : List Nat → A), zfl l k = k l := by
  intro l
  induction l with
  | nil => intro k; rfl
  | cons x l ih => intro k; rw [zfl, zfz_eq, ih]
def zleL (l : List Nat) (a b : Nat) : Bool := Nat.ble (l.getD a 0) (l.getD b 0)
def zlist_map (l : List Nat) (q : Nat → Nat) : Nat → Nat → List Nat
  | 0, _ => []
  | k + 1, t => l.getD (q t) 0 :: zlist_map l q k (t + 1)
def znL (l : List Nat) : Option (List Nat) :=
  match znp l.length (zleL l) with
  | none => none
  | some q => some (zlist_map l q l.length 0)
def zit : Nat → List Nat → Option (List Nat)
  | 0, l => some l
  | k + 1, l => match znL l with
    | none => none
    | some l' => zfl l' (fun r => zit k r)
def zCL : Nat → List Nat → Prop
  | 0, l => znL l = none
  | k + 1, l => ∃ l', znL l = some l' ∧ zCL k l'
theorem zit_CL : ∀ {n k : Nat} {l l' : List Nat}, zit n l = some l' → zCL k l' → zCL (n + k) l := by
  intro n
  induction n with
  | zero => intro k l l' h hc; cases h; rw [Nat.zero_add]; exact hc
  | succ n ih =>
    intro k l l' h hc
    rw [zit] at h
    cases e : znL l with
    | none => rw [e] at h; cases h
    | some l1 =>
      rw [e] at h
      dsimp only at h
      rw [zfl_eq] at h
      rw [show n + 1 + k = n + k + 1 by omega]
      exact ⟨l1, e, ih h hc⟩
theorem zmap_len (l : List Nat) (q : Nat → Nat) : ∀ k t, (zlist_map l q k t).length = k := by
  intro k
  induction k with
  | zero => intro t; rfl
  | succ k ih => intro t; rw [zlist_map, List.length_cons, ih]
theorem zmap_get (l : List Nat) (q : Nat → Nat) : ∀ k t i, i < k → (zlist_map l q k t).getD i 0 = l.getD (q (t + i)) 0 := by
  intro k
  induction k with
  | zero => intro t i h; omega
  | succ k ih =>
    intro t i h
    rw [zlist_map]
    cases i with
    | zero => rfl
    | succ i =>
      rw [List.getD_cons_succ, ih (t + 1) i (by omega), show t + 1 + i = t + (i + 1) by omega]
/-- an order by its list -/
theorem zCL_CV {m : Nat} {c : Nat → Nat} (hc : ∀ x y, x < m → y < m → (x ≤ y ↔ c x ≤ c y)) (hb : ∀ x, x < m → c x < 1000) : ∀ {k : Nat} {l : List Nat} {V : Nat → Int32}, l.length = m → (∀ i, i < m → l.getD i 0 < m) → (∀ i, i < m → V i = nI (c (l.getD i 0))) → zCL k l → zCV m k V := by
  intro k
  induction k with
  | zero =>
    intro l V hl hm hV h
    have h : znL l = none := h
    show zmnx m V = none
    have hle : znp m (zleV V) = znp m (zleL l) := znp_congr (fun a b ha hb' => by
      unfold zleV zleL
      rw [hV a ha, hV b hb']
      have h1 := hm a ha
      have h2 := hm b hb'
      have h3 := nI_leN (a := c (l.getD a 0)) (b := c (l.getD b 0)) (by have := hb _ h1; omega) (by have := hb _ h2; omega)
      have h4 := hc _ _ h1 h2
      rw [Bool.eq_iff_iff, decide_eq_true_iff, Nat.ble_eq, h3, h4])
    unfold znL at h
    rw [hl, ← hle] at h
    unfold zmnx
    cases e : znp m (zleV V) with
    | none => rfl
    | some q => rw [e] at h; cases h
  | succ k ih =>
    intro l V hl hm hV h
    obtain ⟨l', h1, h2⟩ := h
    have hle : znp m (zleV V) = znp m (zleL l) := znp_congr (fun a b ha hb' => by
      unfold zleV zleL
      rw [hV a ha, hV b hb']
      have h1 := hm a ha
      have h2 := hm b hb'
      have h3 := nI_leN (a := c (l.getD a 0)) (b := c (l.getD b 0)) (by have := hb _ h1; omega) (by have := hb _ h2; omega)
      have h4 := hc _ _ h1 h2
      rw [Bool.eq_iff_iff, decide_eq_true_iff, Nat.ble_eq, h3, h4])
    unfold znL at h1
    rw [hl, ← hle] at h1
    cases e : znp m (zleV V) with
    | none => rw [e] at h1; cases h1
    | some q =>
      rw [e] at h1
      cases h1
      obtain ⟨g1, g2, g3⟩ := znp_lt e
      refine ⟨fun t => V (q t), by unfold zmnx; rw [e]; rfl, ih (zmap_len _ _ _ _) (fun i hi => ?_) (fun i hi => ?_) h2⟩
      · rw [zmap_get l q m 0 i hi, Nat.zero_add]; exact hm _ (g1 i hi)
      · rw [zmap_get l q m 0 i hi, Nat.zero_add]; exact hV _ (g1 i hi)
theorem zend0 : zCL 0 ([] : List Nat) := by show znL [] = none; decide +kernel
theorem zord0 : ∃ k, k < 5040 ∧ zCL k ([] : List Nat) := ⟨_, by decide, zend0⟩
theorem zend1 : zCL 0 ([0] : List Nat) := by show znL [0] = none; decide +kernel
theorem zord1 : ∃ k, k < 5040 ∧ zCL k ([0] : List Nat) := ⟨_, by decide, zend1⟩
theorem zit2_0 : zit 1 [0, 1] = some [1, 0] := by decide +kernel
theorem zend2 : zCL 0 ([1, 0] : List Nat) := by show znL [1, 0] = none; decide +kernel
theorem zord2 : ∃ k, k < 5040 ∧ zCL k ([0, 1] : List Nat) := ⟨_, by decide, (zit_CL zit2_0 zend2)⟩
theorem zit3_0 : zit 5 [0, 1, 2] = some [2, 1, 0] := by decide +kernel
theorem zend3 : zCL 0 ([2, 1, 0] : List Nat) := by show znL [2, 1, 0] = none; decide +kernel
theorem zord3 : ∃ k, k < 5040 ∧ zCL k ([0, 1, 2] : List Nat) := ⟨_, by decide, (zit_CL zit3_0 zend3)⟩
theorem zit4_0 : zit 23 [0, 1, 2, 3] = some [3, 2, 1, 0] := by decide +kernel
theorem zend4 : zCL 0 ([3, 2, 1, 0] : List Nat) := by show znL [3, 2, 1, 0] = none; decide +kernel
theorem zord4 : ∃ k, k < 5040 ∧ zCL k ([0, 1, 2, 3] : List Nat) := ⟨_, by decide, (zit_CL zit4_0 zend4)⟩
theorem zit5_0 : zit 119 [0, 1, 2, 3, 4] = some [4, 3, 2, 1, 0] := by decide +kernel
theorem zend5 : zCL 0 ([4, 3, 2, 1, 0] : List Nat) := by show znL [4, 3, 2, 1, 0] = none; decide +kernel
theorem zord5 : ∃ k, k < 5040 ∧ zCL k ([0, 1, 2, 3, 4] : List Nat) := ⟨_, by decide, (zit_CL zit5_0 zend5)⟩
theorem zit6_0 : zit 180 [0, 1, 2, 3, 4, 5] = some [1, 3, 4, 0, 2, 5] := by decide +kernel
theorem zit6_180 : zit 180 [1, 3, 4, 0, 2, 5] = some [3, 0, 1, 2, 4, 5] := by decide +kernel
theorem zit6_360 : zit 180 [3, 0, 1, 2, 4, 5] = some [4, 2, 3, 0, 1, 5] := by decide +kernel
theorem zit6_540 : zit 179 [4, 2, 3, 0, 1, 5] = some [5, 4, 3, 2, 1, 0] := by decide +kernel
theorem zend6 : zCL 0 ([5, 4, 3, 2, 1, 0] : List Nat) := by show znL [5, 4, 3, 2, 1, 0] = none; decide +kernel
theorem zord6 : ∃ k, k < 5040 ∧ zCL k ([0, 1, 2, 3, 4, 5] : List Nat) := ⟨_, by decide, (zit_CL zit6_0 (zit_CL zit6_180 (zit_CL zit6_360 (zit_CL zit6_540 zend6))))⟩
theorem zit7_0 : zit 180 [0, 1, 2, 3, 4, 5, 6] = some [0, 2, 4, 5, 1, 3, 6] := by decide +kernel
theorem zit7_180 : zit 180 [0, 2, 4, 5, 1, 3, 6] = some [0, 4, 1, 2, 3, 5, 6] := by decide +kernel
theorem zit7_360 : zit 180 [0, 4, 1, 2, 3, 5, 6] = some [0, 5, 3, 4, 1, 2, 6] := by decide +kernel
theorem zit7_540 : zit 180 [0, 5, 3, 4, 1, 2, 6] = some [1, 0, 2, 3, 4, 5, 6] := by decide +kernel
theorem zit7_720 : zit 180 [1, 0, 2, 3, 4, 5, 6] = some [1, 2, 4, 5, 0, 3, 6] := by decide +kernel
theorem zit7_900 : zit 180 [1, 2, 4, 5, 0, 3, 6] = some [1, 4, 0, 2, 3, 5, 6] := by decide +kernel
theorem zit7_1080 : zit 180 [1, 4, 0, 2, 3, 5, 6] = some [1, 5, 3, 4, 0, 2, 6] := by decide +kernel
theorem zit7_1260 : zit 180 [1, 5, 3, 4, 0, 2, 6] = some [2, 0, 1, 3, 4, 5, 6] := by decide +kernel
theorem zit7_1440 : zit 180 [2, 0, 1, 3, 4, 5, 6] = some [2, 1, 4, 5, 0, 3, 6] := by decide +kernel
theorem zit7_1620 : zit 180 [2, 1, 4, 5, 0, 3, 6] = some [2, 4, 0, 1, 3, 5, 6] := by decide +kernel
theorem zit7_1800 : zit 180 [2, 4, 0, 1, 3, 5, 6] = some [2, 5, 3, 4, 0, 1, 6] := by decide +kernel
theorem zit7_1980 : zit 180 [2, 5, 3, 4, 0, 1, 6] = some [3, 0, 1, 2, 4, 5, 6] := by decide +kernel
theorem zit7_2160 : zit 180 [3, 0, 1, 2, 4, 5, 6] = some [3, 1, 4, 5, 0, 2, 6] := by decide +kernel
theorem zit7_2340 : zit 180 [3, 1, 4, 5, 0, 2, 6] = some [3, 4, 0, 1, 2, 5, 6] := by decide +kernel
theorem zit7_2520 : zit 180 [3, 4, 0, 1, 2, 5, 6] = some [3, 5, 2, 4, 0, 1, 6] := by decide +kernel
theorem zit7_2700 : zit 180 [3, 5, 2, 4, 0, 1, 6] = some [4, 0, 1, 2, 3, 5, 6] := by decide +kernel
theorem zit7_2880 : zit 180 [4, 0, 1, 2, 3, 5, 6] = some [4, 1, 3, 5, 0, 2, 6] := by decide +kernel
theorem zit7_3060 : zit 180 [4, 1, 3, 5, 0, 2, 6] = some [4, 3, 0, 1, 2, 5, 6] := by decide +kernel
theorem zit7_3240 : zit 180 [4, 3, 0, 1, 2, 5, 6] = some [4, 5, 2, 3, 0, 1, 6] := by decide +kernel
theorem zit7_3420 : zit 180 [4, 5, 2, 3, 0, 1, 6] = some [5, 0, 1, 2, 3, 4, 6] := by decide +kernel
theorem zit7_3600 : zit 180 [5, 0, 1, 2, 3, 4, 6] = some [5, 1, 3, 4, 0, 2, 6] := by decide +kernel
theorem zit7_3780 : zit 180 [5, 1, 3, 4, 0, 2, 6] = some [5, 3, 0, 1, 2, 4, 6] := by decide +kernel
theorem zit7_3960 : zit 180 [5, 3, 0, 1, 2, 4, 6] = some [5, 4, 2, 3, 0, 1, 6] := by decide +kernel
theorem zit7_4140 : zit 180 [5, 4, 2, 3, 0, 1, 6] = some [6, 0, 1, 2, 3, 4, 5] := by decide +kernel
theorem zit7_4320 : zit 180 [6, 0, 1, 2, 3, 4, 5] = some [6, 1, 3, 4, 0, 2, 5] := by decide +kernel
theorem zit7_4500 : zit 180 [6, 1, 3, 4, 0, 2, 5] = some [6, 3, 0, 1, 2, 4, 5] := by decide +kernel
theorem zit7_4680 : zit 180 [6, 3, 0, 1, 2, 4, 5] = some [6, 4, 2, 3, 0, 1, 5] := by decide +kernel
theorem zit7_4860 : zit 179 [6, 4, 2, 3, 0, 1, 5] = some [6, 5, 4, 3, 2, 1, 0] := by decide +kernel
theorem zend7 : zCL 0 ([6, 5, 4, 3, 2, 1, 0] : List Nat) := by show znL [6, 5, 4, 3, 2, 1, 0] = none; decide +kernel
theorem zord7 : ∃ k, k < 5040 ∧ zCL k ([0, 1, 2, 3, 4, 5, 6] : List Nat) := ⟨_, by decide, (zit_CL zit7_0 (zit_CL zit7_180 (zit_CL zit7_360 (zit_CL zit7_540 (zit_CL zit7_720 (zit_CL zit7_900 (zit_CL zit7_1080 (zit_CL zit7_1260 (zit_CL zit7_1440 (zit_CL zit7_1620 (zit_CL zit7_1800 (zit_CL zit7_1980 (zit_CL zit7_2160 (zit_CL zit7_2340 (zit_CL zit7_2520 (zit_CL zit7_2700 (zit_CL zit7_2880 (zit_CL zit7_3060 (zit_CL zit7_3240 (zit_CL zit7_3420 (zit_CL zit7_3600 (zit_CL zit7_3780 (zit_CL zit7_3960 (zit_CL zit7_4140 (zit_CL zit7_4320 (zit_CL zit7_4500 (zit_CL zit7_4680 (zit_CL zit7_4860 zend7))))))))))))))))))))))))))))⟩
theorem zords {m : Nat} (h : m ≤ 7) : ∃ k, k < 5040 ∧ zCL k (List.range m) := by
  have : m = 0 ∨ m = 1 ∨ m = 2 ∨ m = 3 ∨ m = 4 ∨ m = 5 ∨ m = 6 ∨ m = 7 := by omega
  rcases this with rfl | rfl | rfl | rfl | rfl | rfl | rfl | rfl
  · exact zord0
  · exact zord1
  · exact zord2
  · exact zord3
  · exact zord4
  · exact zord5
  · exact zord6
  · exact zord7
/-- from an ascending row fewer than 5040 orders more -/
theorem zasc {m : Nat} (hm : m ≤ 7) {c : Nat → Nat} {V : Nat → Int32} (hc : ∀ x y, x < y → y < m → c x < c y) (hb : ∀ x, x < m → c x < 1000) (hV : ∀ i, i < m → V i = nI (c i)) : ∃ k, k < 5040 ∧ zCV m k V := by
  obtain ⟨k, h1, h2⟩ := zords hm
  refine ⟨k, h1, zCL_CV (c := c) (fun x y hx hy => ?_) hb (List.length_range) (fun i hi => ?_) (fun i hi => ?_) h2⟩
  · constructor
    · intro h
      by_cases e : x = y
      · rw [e]; exact Nat.le_refl _
      · have := hc x y (by omega) hy; omega
    · intro h
      exact Nat.le_of_not_lt fun z => by have := hc y x z hx; omega
  · rw [List.getD_eq_getElem?_getD, List.getElem?_range hi]; exact hi
  · rw [List.getD_eq_getElem?_getD, List.getElem?_range hi]; exact hV i hi
