/-! STAGE B, 19: bits; lots; a session -/
def zb (x : Int32) (i : Nat) : Bool := x.toBitVec.getLsbD i
theorem zb_ext {x y : Int32} (h : ∀ i, i < 32 → zb x i = zb y i) : x = y := by
  apply Int32.toBitVec_inj.mp
  exact BitVec.eq_of_getLsbD_eq (fun i hi => h i hi)
theorem zand31 : ∀ j, j < 32 → nI j &&& 31 = nI j := by decide
theorem zsmod : ∀ j, j < 32 → (nI j).toBitVec.smod 32 = BitVec.ofNat 32 j := by decide
theorem zone : ∀ j, j < 32 → ∀ i, i < 32 → ((1 : Int32) <<< (nI j &&& 31)).toBitVec.getLsbD i = decide (i = j) := by decide +kernel
theorem zb_shr {x : Int32} {i : Nat} (hi : i < 31) : ((x >>> (nI i &&& 31)) &&& (1 : Int32)).toBitVec = if zb x i = true then BitVec.ofNat 32 1 else BitVec.ofNat 32 0 := by
  rw [zand31 i (by omega), Int32.toBitVec_and, Int32.toBitVec_shiftRight, zsmod i (by omega), BitVec.sshiftRight_eq']
  apply BitVec.eq_of_getLsbD_eq
  intro k hk
  rw [BitVec.getLsbD_and]
  have h1 : (Int32.toBitVec 1).getLsbD k = decide (k = 0) := by
    have : ∀ k, k < 32 → (Int32.toBitVec 1).getLsbD k = decide (k = 0) := by decide
    exact this k hk
  have h2 : (if zb x i = true then BitVec.ofNat 32 1 else BitVec.ofNat 32 0).getLsbD k = (zb x i && decide (k = 0)) := by
    have h3 : ∀ k, k < 32 → (BitVec.ofNat 32 0).getLsbD k = false := by decide
    cases zb x i
    · exact h3 k hk
    · exact h1
  rw [h1, h2]
  by_cases e : k = 0
  · subst e
    have h4 : (BitVec.ofNat 32 i).toNat = i := by rw [BitVec.toNat_ofNat]; omega
    rw [h4, BitVec.getLsbD_sshiftRight]
    simp [zb, show i < 32 by omega]
  · simp [e]
theorem zb_t {x : Int32} {i : Nat} (hi : i < 31) : ((x >>> (nI i &&& 31)) &&& (1 : Int32) = (1 : Int32)) ↔ zb x i = true := by
  rw [← Int32.toBitVec_inj, zb_shr hi]
  cases zb x i <;> decide
theorem zb_f {x : Int32} {i : Nat} (hi : i < 31) : ((x >>> (nI i &&& 31)) &&& (1 : Int32) = (0 : Int32)) ↔ zb x i = false := by
  rw [← Int32.toBitVec_inj, zb_shr hi]
  cases zb x i <;> decide
theorem zb_or {x : Int32} {i j : Nat} (hi : i < 32) (hj : j < 32) : zb (x ||| ((1 : Int32) <<< (nI j &&& 31))) i = (zb x i || decide (i = j)) := by
  unfold zb
  rw [Int32.toBitVec_or, BitVec.getLsbD_or, zone j hj i hi]
theorem zb_0 (i : Nat) : zb 0 i = false := by
  unfold zb
  rw [Int32.toBitVec_zero]
  simp
theorem zb_m1 : ∀ i, i < 32 → (Int32.toBitVec (-1)).getLsbD i = true := by decide
theorem zb_clr {x : Int32} {i j : Nat} (hi : i < 32) (hj : j < 32) : zb (x &&& (((1 : Int32) <<< (nI j &&& 31)) ^^^ (-1 : Int32))) i = (zb x i && !decide (i = j)) := by
  unfold zb
  rw [Int32.toBitVec_and, BitVec.getLsbD_and, Int32.toBitVec_xor, BitVec.getLsbD_xor, zone j hj i hi, zb_m1 i hi]
  cases decide (i = j) <;> rfl
theorem zb_back {x : Int32} {j : Nat} (hj : j < 31) (h : zb x j = false) : (x ||| ((1 : Int32) <<< (nI j &&& 31))) &&& (((1 : Int32) <<< (nI j &&& 31)) ^^^ (-1 : Int32)) = x := by
  apply zb_ext
  intro i hi
  rw [zb_clr hi (by omega), zb_or hi (by omega)]
  by_cases e : i = j
  · subst e; rw [h]; simp
  · simp [e]
theorem zplB {V : Nat → Int32} {a : Nat} (ha : a < 7) : plB V (nI a) = if zb (V 24) a = true then 1 else 0 := by
  have n2 : ¬ (7 : Int32) ≤ nI a := fun z => by have := (nI_leN (a := 7) (by omega) (by omega)).mp z; omega
  have n1 : ¬ nI a < 0 := nI_pos (by omega)
  unfold plB
  rw [if_neg n1, if_neg n2]
  by_cases h : zb (V 24) a = true
  · rw [if_pos h, if_pos ((zb_t (by omega)).mpr h)]
  · rw [if_neg h, if_neg (fun z => h ((zb_t (by omega)).mp z))]
/-- a lot -/
def zmix (h v : Int32) : Int32 := (((h ^^^ v) * (1103515245 : Int32)) + (12345 : Int32)) ^^^ (usr (((h ^^^ v) * (1103515245 : Int32)) + (12345 : Int32)) (15 : Int32))
def zlot (s w : Int32) : Int32 := (usr (zmix (zmix s (221 : Int32)) w) (1 : Int32)) - (usr (zmix (zmix s (221 : Int32)) w) (1 : Int32)) / (100 : Int32) * (100 : Int32)
theorem C_lot (s w : Int32) : f_X1_lot s w = some (zlot s w) := rfl
theorem M_lot (τ : St) (w : Int32) : f_X11_lotOf τ w = some (zlot (τ.1 0 45) w) := rfl
/-- is the case at place j adjourned -/
def zadj (T : Tx) (s : Int32) (V : Nat → Int32) (j : Nat) : Bool := decide (zlot s ((8 : Int32) * V 8 + V j) < SV T 3 100 (VV T V (cN V j) (nI j) (plB V (ahN j (cN V (j - 1)))) (nI (td T (cN V j)))))
/-- how many of the first t are adjourned; what is left before; all numbers behind the first t -/
def zcnt (T : Tx) (s : Int32) (V : Nat → Int32) : Nat → Nat
  | 0 => 0
  | t + 1 => if zadj T s V t = true then zcnt T s V t + 1 else zcnt T s V t
def zlast (T : Tx) (s : Int32) (V : Nat → Int32) : Nat → Int32
  | 0 => V 9
  | t + 1 => if zadj T s V t = true then zlast T s V t else nI (td T (cN V t))
def zss (T : Tx) (s : Int32) (m : Nat) (V : Nat → Int32) : Nat → Nat → Int32
  | 0 => V
  | t + 1 => if zadj T s V t = true then upd (upd (zss T s m V t) t 0) (zcnt T s V t) (V t) else upd (upd (upd (zss T s m V t) t 0) (17 + cN V t) (zss T s m V t (17 + cN V t) + sufAt T V m t)) 25 (zss T s m V t 25 + 1)
/-- behind a session -/
def zses (T : Tx) (s : Int32) (m : Nat) (V : Nat → Int32) : Nat → Int32 := upd (upd (upd (upd (zss T s m V m) 7 (nI (zcnt T s V m))) 9 (zlast T s V m)) 24 0) 8 (V 8 + 1)
theorem zcnt_le (T : Tx) (s : Int32) (V : Nat → Int32) : ∀ t, zcnt T s V t ≤ t := by
  intro t
  induction t with
  | zero => exact Nat.le_refl _
  | succ t ih =>
    rw [zcnt]
    by_cases h : zadj T s V t = true
    · rw [if_pos h]; omega
    · rw [if_neg h]; omega
theorem zss_hi (T : Tx) (s : Int32) (m : Nat) (V : Nat → Int32) (hc : ∀ j, j < m → cN V j < 7) : ∀ t, t ≤ m → m ≤ 7 → ∀ i, t ≤ i → (i < 17 ∨ i = 24 ∨ 25 < i) → zss T s m V t i = V i := by
  intro t
  induction t with
  | zero => intro _ _ i _ _; rfl
  | succ t ih =>
    intro ht hm i hi h
    have h1 := ih (by omega) hm i (by omega) h
    have h2 := zcnt_le T s V t
    have h3 := hc t (by omega)
    rw [zss]
    by_cases e : zadj T s V t = true
    · rw [if_pos e, upd_ne (by omega), upd_ne (by omega), h1]
    · rw [if_neg e, upd_ne (by omega), upd_ne (by omega), upd_ne (by omega), h1]
/-- the list's places that stay -/
theorem zss_list (T : Tx) (s : Int32) (m : Nat) (V : Nat → Int32) (hm : m ≤ 7) (hc : ∀ j, j < m → cN V j < 7) : ∀ t, t ≤ m → ∃ p : Nat → Nat, (∀ i, i < zcnt T s V t → p i < t ∧ zss T s m V t i = V (p i)) ∧ ∀ i j, i < zcnt T s V t → j < zcnt T s V t → p i = p j → i = j := by
  intro t
  induction t with
  | zero => intro _; exact ⟨id, fun i hi => absurd hi (Nat.not_lt_zero _), fun i j hi => absurd hi (Nat.not_lt_zero _)⟩
  | succ t ih =>
    intro ht
    obtain ⟨p, h1, h2⟩ := ih (by omega)
    have h3 := zcnt_le T s V t
    have h4 := hc t (by omega)
    rw [zcnt, zss]
    by_cases e : zadj T s V t = true
    · rw [if_pos e, if_pos e]
      refine ⟨fun i => if i = zcnt T s V t then t else p i, fun i hi => ?_, fun i j hi hj q => ?_⟩
      · dsimp only
        by_cases k : i = zcnt T s V t
        · rw [if_pos k, k, upd_eq']; exact ⟨by omega, rfl⟩
        · have := h1 i (by omega)
          rw [if_neg k, upd_ne k, upd_ne (by omega)]; exact ⟨by omega, this.2⟩
      · dsimp only at q
        by_cases k : i = zcnt T s V t <;> by_cases l : j = zcnt T s V t
        · omega
        · rw [if_pos k, if_neg l] at q; have := h1 j (by omega); omega
        · rw [if_neg k, if_pos l] at q; have := h1 i (by omega); omega
        · rw [if_neg k, if_neg l] at q; exact h2 i j (by omega) (by omega) q
    · rw [if_neg e, if_neg e]
      refine ⟨p, fun i hi => ?_, h2⟩
      have := h1 i hi
      rw [upd_ne (by omega), upd_ne (by omega), upd_ne (by omega)]
      exact ⟨by omega, this.2⟩
theorem zcN7 {n m : Nat} {V : Nat → Int32} (hW : WV n m V) : ∀ j, j < m → cN V j < 7 := fun j hj => by
  have := (cN_eq hW hj).2
  have := hW.2.1
  omega
theorem zses_list {T : Tx} {s : Int32} {m i : Nat} {V : Nat → Int32} (hi : i < 7) : zses T s m V i = zss T s m V m i := by
  unfold zses
  rw [upd_ne (by omega), upd_ne (by omega), upd_ne (by omega), upd_ne (by omega)]
theorem zWV_ses {T : Tx} {s : Int32} {n m : Nat} {V : Nat → Int32} (hW : WV n m V) : WV n (zcnt T s V m) (zses T s m V) := by
  have h7 := zWV7 hW
  obtain ⟨p, h1, h2⟩ := zss_list T s m V h7 (zcN7 hW) m (Nat.le_refl _)
  have h3 := zcnt_le T s V m
  refine zWV_sub p hW (by have := hW.1; omega) ?_ (fun i hi => (h1 i hi).1) h2 (fun i hi => ?_)
  · unfold zses
    rw [upd_ne (by omega), upd_ne (by omega), upd_ne (by omega), upd_eq']
  · rw [zses_list (by omega)]; exact (h1 i hi).2
/-- sessions -/
def zgoes (T : Tx) (s : Int32) : Nat → Nat × (Nat → Int32) → Nat × (Nat → Int32)
  | 0, x => x
  | k + 1, x => (zcnt T s (zgoes T s k x).2 (zgoes T s k x).1, zses T s (zgoes T s k x).1 (zgoes T s k x).2)
