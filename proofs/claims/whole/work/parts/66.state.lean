/-! STAGE B, 17: loops that run, stores by cells, the list changed -/
theorem zrun {S R : Type} {st : S → Option (S ⊕ R)} {r : R} {s0 : S} (A : Nat → S) (n : Nat) (hn : n < 99999) (h0 : A 0 = s0) (h : ∀ t, t < n → st (A t) = some (.inl (A (t + 1)))) (ho : st (A n) = some (.inr r)) : lp st fuel s0 = some r := by
  have key : ∀ k i F, i + k = n → lp st (F + k + 1) (A i) = some r := by
    intro k
    induction k with
    | zero =>
      intro i F hi
      have hi : i = n := hi
      subst hi
      exact lp_out ho
    | succ k ih =>
      intro i F hi
      rw [show F + (k + 1) + 1 = F + k + 1 + 1 by omega, lp_step (h i (by omega))]
      exact ih (i + 1) F (by omega)
  have := key n 0 (fuel - n - 1) (by omega)
  rw [show fuel - n - 1 + n + 1 = fuel by rw [fuel_eq]; omega, h0] at this
  exact this
theorem zinv {S R : Type} {st : S → Option (S ⊕ R)} {s0 : S} (I : Nat → S → Prop) (O : R → Prop) (n : Nat) (hn : n < 99999) (h0 : I 0 s0) (h : ∀ t s, t < n → I t s → (∃ s', st s = some (.inl s') ∧ I (t + 1) s') ∨ ∃ r, st s = some (.inr r) ∧ O r) (ho : ∀ s, I n s → ∃ r, st s = some (.inr r) ∧ O r) : ∃ r, lp st fuel s0 = some r ∧ O r := by
  refine lp_spec (fun k s => ∃ t, t + k = n ∧ I t s) O ?_ fuel n s0 ⟨0, by omega, h0⟩ (by rw [fuel_eq]; omega)
  rintro k s ⟨t, ht, hI⟩
  cases k with
  | zero =>
    have ht : t = n := ht
    subst ht
    exact Or.inr (ho s hI)
  | succ k =>
    rcases h t s (by omega) hI with ⟨s', h1, h2⟩ | h1
    · exact Or.inl ⟨s', k, h1, by omega, t + 1, by omega, h2⟩
    · exact Or.inr h1
def sc (σ : St) (c : Nat) (f : Nat → Int32) : St := (fun d => if d = c then f else σ.1 d, σ.2)
theorem zsc_eq (σ : St) (c : Nat) (f : Nat → Int32) : (sc σ c f).1 c = f := by simp [sc]
theorem zsc_ne {σ : St} {c d : Nat} {f : Nat → Int32} (h : d ≠ c) : (sc σ c f).1 d = σ.1 d := by simp [sc, h]
theorem zsi_as (σ : St) (c i : Nat) (v : Int32) : si σ c i v = sc σ c (upd (σ.1 c) i v) := rfl
theorem zsc_sc (σ : St) (c : Nat) (f g : Nat → Int32) : sc (sc σ c f) c g = sc σ c g := by
  refine Prod.ext ?_ rfl
  funext d
  by_cases h : d = c <;> simp [sc, h]
theorem zsi_sc (σ : St) (c i : Nat) (f : Nat → Int32) (v : Int32) : si (sc σ c f) c i v = sc σ c (upd f i v) := by
  rw [zsi_as, zsc_sc, zsc_eq]
theorem zsc_self (σ : St) (c : Nat) : sc σ c (σ.1 c) = σ := by
  refine Prod.ext ?_ rfl
  funext d
  by_cases h : d = c
  · subst h; simp [sc]
  · simp [sc, h]
theorem zfr_sc {lo hi : Nat} (σ : St) (c : Nat) (f : Nat → Int32) (h : lo ≤ c ∧ c ≤ hi) : fr lo hi σ (sc σ c f) :=
  ⟨fun d hd => zsc_ne (by omega), rfl⟩
theorem nI_dec {k : Nat} (h : 0 < k) : nI k + (-1 : Int32) = nI (k - 1) := by
  have h1 : nI k = nI (k - 1) + 1 := by
    rw [← nI_succ, Nat.sub_add_cancel h]
  rw [h1, Int32.add_assoc, show (1 : Int32) + -1 = 0 by decide, Int32.add_zero]
theorem nI_sub1 {k : Nat} (h : 0 < k) : nI k - (1 : Int32) = nI (k - 1) := nI_sub (b := 1) h
/-- two changed about; one that goes from a place to another -/
def zsw (V : Nat → Int32) (a b : Nat) : Nat → Int32 := upd (upd V a (V b)) b (V a)
def zmv (V : Nat → Int32) (a b : Nat) : Nat → Int32 := fun i => if i = b then V a else if a ≤ i ∧ i < b then V (i + 1) else if b < i ∧ i ≤ a then V (i - 1) else V i
def zup (V : Nat → Int32) (a t : Nat) : Nat → Int32 := fun i => if a ≤ i ∧ i < t then V (i + 1) else V i
def zdn (V : Nat → Int32) (t a : Nat) : Nat → Int32 := fun i => if t < i ∧ i ≤ a then V (i - 1) else V i
theorem zup_0 (V : Nat → Int32) (a : Nat) : zup V a a = V := by
  funext i; unfold zup; rw [if_neg (by omega)]
theorem zdn_0 (V : Nat → Int32) (a : Nat) : zdn V a a = V := by
  funext i; unfold zdn; rw [if_neg (by omega)]
theorem zup_s {V : Nat → Int32} {a t : Nat} (h : a ≤ t) : upd (zup V a t) t (zup V a t (t + 1)) = zup V a (t + 1) := by
  funext i
  unfold upd zup
  rw [if_neg (show ¬ (a ≤ t + 1 ∧ t + 1 < t) by omega)]
  by_cases e : i = t
  · subst e
    rw [if_pos rfl, if_pos (by omega)]
  · rw [if_neg e]
    by_cases e2 : a ≤ i ∧ i < t
    · rw [if_pos e2, if_pos (by omega)]
    · rw [if_neg e2, if_neg (by omega)]
theorem zdn_s {V : Nat → Int32} {a t : Nat} (h : t ≤ a) (h0 : 0 < t) : upd (zdn V t a) t (zdn V t a (t - 1)) = zdn V (t - 1) a := by
  funext i
  unfold upd zdn
  rw [if_neg (show ¬ (t < t - 1 ∧ t - 1 ≤ a) by omega)]
  by_cases e : i = t
  · subst e
    rw [if_pos rfl, if_pos (by omega)]
  · rw [if_neg e]
    by_cases e2 : t < i ∧ i ≤ a
    · rw [if_pos e2, if_pos (by omega)]
    · rw [if_neg e2, if_neg (by omega)]
theorem zup_end {V : Nat → Int32} {a b : Nat} (h : a ≤ b) : upd (zup V a b) b (V a) = zmv V a b := by
  funext i
  unfold upd zup zmv
  by_cases e : i = b
  · rw [if_pos e, if_pos e]
  · rw [if_neg e, if_neg e]
    by_cases e2 : a ≤ i ∧ i < b
    · rw [if_pos e2, if_pos e2]
    · rw [if_neg e2, if_neg e2, if_neg (by omega)]
theorem zdn_end {V : Nat → Int32} {a b : Nat} (h : b ≤ a) : upd (zdn V b a) b (V a) = zmv V a b := by
  funext i
  unfold upd zdn zmv
  by_cases e : i = b
  · rw [if_pos e, if_pos e]
  · rw [if_neg e, if_neg e, if_neg (show ¬ (a ≤ i ∧ i < b) by omega)]
theorem M_changes {τ : St} {a b : Nat} (ha : a < 26) (hb : b < 26) : f_X11_changes τ (nI a) (nI b) = some (sc τ 27 (zsw (τ.1 27) a b)) := by
  have b1 : ib (nI a) 26 = true := ib_t ha (by omega)
  have b2 : ib (nI b) 26 = true := ib_t hb (by omega)
  have g1 : (nI a).toNatClampNeg = a := nI_clamp (by omega)
  have g2 : (nI b).toNatClampNeg = b := nI_clamp (by omega)
  unfold f_X11_changes
  rw [if_ib b1, wlet_eq, if_ib b2, if_ib b1, wlet_eq, if_ib b2, wlet_eq, g1, g2, zsi_as τ, zsi_sc]
  rfl
theorem M_moves {τ : St} {a b : Nat} (ha : a < 26) (hb : b < 26) : f_X11_moves τ (nI a) (nI b) = some (sc τ 27 (zmv (τ.1 27) a b)) := by
  have b1 : ib (nI a) 26 = true := ib_t ha (by omega)
  have b2 : ib (nI b) 26 = true := ib_t hb (by omega)
  have g1 : (nI a).toNatClampNeg = a := nI_clamp (by omega)
  have g2 : (nI b).toNatClampNeg = b := nI_clamp (by omega)
  unfold f_X11_moves
  rw [if_ib b1, wlet_eq, wlet_eq, bind_eq (zrun (r := sc τ 27 (zup (τ.1 27) a (a + (b - a)))) (fun t => (sc τ 27 (zup (τ.1 27) a (a + t)), nI (a + t))) (b - a) (by omega) ?_ ?_ ?_)]
  · rw [wlet_eq, bind_eq (zrun (r := sc τ 27 (zdn (zup (τ.1 27) a (a + (b - a))) (a - (a - b)) a)) (fun t => (sc τ 27 (zdn (zup (τ.1 27) a (a + (b - a))) (a - t) a), nI (a - t))) (a - b) (by omega) ?_ ?_ ?_)]
    · rw [if_ib b2, wlet_eq, g1, g2, zsi_sc]
      by_cases h : a ≤ b
      · rw [show a - (a - b) = a by omega, zdn_0, show a + (b - a) = b by omega, zup_end h]
      · rw [show a - (a - b) = b by omega, show a + (b - a) = a by omega, zup_0, zdn_end (by omega)]
    · show (sc τ 27 (zdn _ (a - 0) a), nI (a - 0)) = _
      rw [Nat.sub_zero, zdn_0]
    · intro t ht
      have n1 : ¬ nI (a - t) ≤ nI b := fun z => by have := (nI_leN (by omega) (by omega)).mp z; omega
      dsimp only [un2]
      rw [if_neg n1, nI_sub1 (show 0 < a - t by omega), if_ib (ib_t (show a - t - 1 < 26 by omega) (by omega)), if_ib (ib_t (show a - t < 26 by omega) (by omega)), nI_clamp (show a - t - 1 < 2 ^ 31 by omega), nI_clamp (show a - t < 2 ^ 31 by omega), wlet_eq, wlet_eq, nI_dec (show 0 < a - t by omega), zsc_eq, zsi_sc, zdn_s (by omega) (by omega)]
      rfl
    · have n1 : nI (a - (a - b)) ≤ nI b := (nI_leN (by omega) (by omega)).mpr (by omega)
      dsimp only [un2]
      rw [if_pos n1]
  · show (sc τ 27 (zup _ a (a + 0)), nI (a + 0)) = _
    rw [Nat.add_zero, zup_0, zsc_self]
  · intro t ht
    have n1 : ¬ nI b ≤ nI (a + t) := fun z => by have := (nI_leN (by omega) (by omega)).mp z; omega
    dsimp only [un2]
    rw [if_neg n1, ← nI_succ, if_ib (ib_t (show a + t + 1 < 26 by omega) (by omega)), if_ib (ib_t (show a + t < 26 by omega) (by omega)), nI_clamp (show a + t + 1 < 2 ^ 31 by omega), nI_clamp (show a + t < 2 ^ 31 by omega), wlet_eq, wlet_eq, zsc_eq, zsi_sc, zup_s (by omega)]
    rfl
  · have n1 : nI b ≤ nI (a + (b - a)) := (nI_leN (by omega) (by omega)).mpr (by omega)
    dsimp only [un2]
    rw [if_pos n1]
/-- one put off the list -/
def zst (V : Nat → Int32) (a m : Nat) : Nat → Int32 := upd (upd (zmv (upd V 24 (V 24 &&& (((1 : Int32) <<< (V a &&& 31)) ^^^ (-1 : Int32)))) a (m - 1)) 7 (nI (m - 1))) (m - 1) 0
theorem zmv_out {V : Nat → Int32} {a b i : Nat} (ha : a < i) (hb : b < i) : zmv V a b i = V i := by
  unfold zmv
  rw [if_neg (by omega), if_neg (by omega), if_neg (by omega)]
theorem upd_ne {f : Nat → Int32} {k i : Nat} {x : Int32} (h : i ≠ k) : upd f k x i = f i := if_neg h
theorem upd_eq' (f : Nat → Int32) (k : Nat) (x : Int32) : upd f k x k = x := if_pos rfl
theorem M_putsOff {τ : St} {a m : Nat} (ha : a < m) (hm : m ≤ 7) (h7 : τ.1 27 7 = nI m) : f_X11_putsOff τ (nI a) = some (sc τ 27 (zst (τ.1 27) a m)) := by
  have b1 : ib (nI a) 26 = true := ib_t (by omega) (by omega)
  have g1 : (nI a).toNatClampNeg = a := nI_clamp (by omega)
  have e1 : (sc τ 27 (upd (τ.1 27) 24 (τ.1 27 24 &&& (((1 : Int32) <<< (τ.1 27 a &&& 31)) ^^^ (-1 : Int32))))).1 27 7 = nI m := by
    rw [zsc_eq, upd_ne (by omega), h7]
  have e2 : (zmv (upd (τ.1 27) 24 (τ.1 27 24 &&& (((1 : Int32) <<< (τ.1 27 a &&& 31)) ^^^ (-1 : Int32)))) a (m - 1)) 7 = nI m := by
    rw [zmv_out (by omega) (by omega), upd_ne (by omega), h7]
  have b3 : ib (nI (m - 1)) 26 = true := ib_t (by omega) (by omega)
  unfold f_X11_putsOff
  rw [if_ib b2426, if_ib b1, if_ib b2426, wlet_eq, tc24, g1, zsi_as τ, if_ib b726, c7, e1, nI_sub1 (by omega), bind_eq (M_moves (by omega) (by omega)), if_ib b726, if_ib b726, wlet_eq, zsc_eq, zsc_sc, zsc_eq, e2, nI_sub1 (by omega), zsi_sc, zsc_eq, upd_eq', if_ib b726, if_ib b3, nI_clamp (show m - 1 < 2 ^ 31 by omega), wlet_eq, zsi_sc]
  rfl
