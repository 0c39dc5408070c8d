/-! STAGE B, 40: bytes, letters, long numbers -/
def nL (n : Nat) : Int64 := Int64.ofNat n
theorem nL_add (a b : Nat) : nL a + nL b = nL (a + b) := (Int64.ofNat_add a b).symm
theorem nL_mul (a b : Nat) : nL a * nL b = nL (a * b) := (Int64.ofNat_mul a b).symm
theorem nL_toInt {n : Nat} (h : n < 2 ^ 63) : (nL n).toInt = (n : Int) := by
  unfold nL
  rw [Int64.toInt_ofNat_of_lt h]
theorem nL_eqN {a b : Nat} (ha : a < 2 ^ 63) (hb : b < 2 ^ 63) : nL a = nL b ↔ a = b := by
  constructor
  · intro h
    have := congrArg Int64.toInt h
    rw [nL_toInt ha, nL_toInt hb] at this
    omega
  · intro h; rw [h]
theorem nL_leN {a b : Nat} (ha : a < 2 ^ 63) (hb : b < 2 ^ 63) : nL a ≤ nL b ↔ a ≤ b := by
  rw [Int64.le_iff_toInt_le, nL_toInt ha, nL_toInt hb]; omega
theorem nL_I (n : Nat) : Int64.toInt32 (nL n) = nI n := by
  apply Int32.toBitVec_inj.mp
  show BitVec.signExtend 32 (BitVec.ofNat 64 n) = BitVec.ofNat 32 n
  rw [BitVec.signExtend_eq_setWidth_of_le _ (by omega)]
  apply BitVec.eq_of_toNat_eq
  rw [BitVec.toNat_setWidth, BitVec.toNat_ofNat, BitVec.toNat_ofNat]
  omega
theorem zcmp0 (x y : Int64) : lg_cmp x y = 0 ↔ x = y := by
  unfold lg_cmp
  by_cases h : x > y
  · rw [if_pos h]
    refine ⟨fun e => absurd e (by decide), fun e => ?_⟩
    rw [e] at h
    exact absurd h (Int64.lt_irrefl)
  · rw [if_neg h]
    by_cases e : x = y
    · rw [if_pos e]; exact ⟨fun _ => e, fun _ => rfl⟩
    · rw [if_neg e]; exact ⟨fun q => absurd q (by decide), fun q => absurd q e⟩
/-- letters, the last first, as a number to a base -/
def zcr (B : Nat) : List Nat → Nat
  | [] => 0
  | d :: r => zcr B r * B + d
theorem zcr_inj {B : Nat} (hB : 26 < B) : ∀ {l r : List Nat}, (∀ d, d ∈ l → 1 ≤ d ∧ d ≤ 26) → (∀ d, d ∈ r → 1 ≤ d ∧ d ≤ 26) → zcr B l = zcr B r → l = r := by
  intro l
  induction l with
  | nil =>
    intro r _ hr h
    cases r with
    | nil => rfl
    | cons d r =>
      have := hr d List.mem_cons_self
      rw [zcr, zcr] at h
      omega
  | cons d l ih =>
    intro r hl hr h
    have h1 := hl d List.mem_cons_self
    cases r with
    | nil => rw [zcr, zcr] at h; omega
    | cons e r =>
      have h2 := hr e List.mem_cons_self
      rw [zcr, zcr] at h
      have hd : d = e := by
        have a1 : (zcr B l * B + d) % B = d := by rw [Nat.mul_add_mod_self_right]; exact Nat.mod_eq_of_lt (by omega)
        have a2 : (zcr B r * B + e) % B = e := by rw [Nat.mul_add_mod_self_right]; exact Nat.mod_eq_of_lt (by omega)
        rw [← a1, ← a2, h]
      subst hd
      have hm : zcr B l * B = zcr B r * B := by omega
      have hlr := Nat.eq_of_mul_eq_mul_right (by omega) hm
      rw [ih (fun x hx => hl x (List.mem_cons_of_mem _ hx)) (fun x hx => hr x (List.mem_cons_of_mem _ hx)) hlr]
theorem zcr_lt {B : Nat} (hB : 26 < B) : ∀ {l : List Nat}, (∀ d, d ∈ l → 1 ≤ d ∧ d ≤ 26) → zcr B l < B ^ l.length := by
  intro l
  induction l with
  | nil => intro _; exact Nat.zero_lt_one
  | cons d l ih =>
    intro hl
    have h1 := hl d List.mem_cons_self
    have h2 := ih (fun x hx => hl x (List.mem_cons_of_mem _ hx))
    rw [zcr, List.length_cons, Nat.pow_succ]
    have h3 : zcr B l + 1 ≤ B ^ l.length := h2
    have h4 := Nat.mul_le_mul_right B h3
    rw [Nat.add_mul, Nat.one_mul] at h4
    omega
theorem zcr_63 {B : Nat} (hB : 26 < B) (hB2 : B ≤ 32) {l : List Nat} (hl : ∀ d, d ∈ l → 1 ≤ d ∧ d ≤ 26) (h8 : l.length ≤ 8) : zcr B l < 2 ^ 63 := by
  have h1 := zcr_lt hB hl
  have h2 : B ^ l.length ≤ 32 ^ l.length := Nat.pow_le_pow_left hB2 _
  have h3 : 32 ^ l.length ≤ 32 ^ 8 := Nat.pow_le_pow_right (by omega) h8
  have h4 : 32 ^ 8 < 2 ^ 63 := by decide
  omega
theorem znL_cr {B : Nat} (hB : 26 < B) (hB2 : B ≤ 32) {l r : List Nat} (hl : ∀ d, d ∈ l → 1 ≤ d ∧ d ≤ 26) (hr : ∀ d, d ∈ r → 1 ≤ d ∧ d ≤ 26) (h8 : l.length ≤ 8) (g8 : r.length ≤ 8) : nL (zcr B l) = nL (zcr B r) ↔ l = r := by
  rw [nL_eqN (zcr_63 hB hB2 hl h8) (zcr_63 hB hB2 hr g8)]
  exact ⟨zcr_inj hB hl hr, fun e => by rw [e]⟩
-- a byte
theorem zbyte (x : Int32) : ∃ b, b < 256 ∧ x &&& (255 : Int32) = nI b := by
  refine ⟨x.toBitVec.toNat % 256, Nat.mod_lt _ (by omega), ?_⟩
  apply Int32.toBitVec_inj.mp
  apply BitVec.eq_of_toNat_eq
  rw [Int32.toBitVec_and, BitVec.toNat_and]
  show x.toBitVec.toNat &&& (2 ^ 8 - 1) = (BitVec.ofNat 32 (x.toBitVec.toNat % 256)).toNat
  rw [Nat.and_two_pow_sub_one_eq_mod, BitVec.toNat_ofNat]
  omega
theorem zlet64 : ∀ c, c < 123 → 97 ≤ c → Int32.toInt64 ((nI c - (97 : Int32)) + (1 : Int32)) = nL (c - 96) := by decide
theorem zdig64 : ∀ c, c < 58 → 48 ≤ c → Int32.toInt64 (nI c - (48 : Int32)) = nL (c - 48) := by decide
theorem z99 : Int32.toInt64 (99 : Int32) = nL 99 := by decide
theorem z9999 : Int32.toInt64 (9999 : Int32) = nL 9999 := by decide
def zisL (c : Nat) : Bool := decide (97 ≤ c ∧ c ≤ 122)
def zisD (c : Nat) : Bool := decide (48 ≤ c ∧ c ≤ 57)
def zisB (c : Nat) : Bool := decide (c = 9 ∨ c = 10 ∨ c = 13 ∨ c = 32)
def zb2i (b : Bool) : Int32 := if b = true then 1 else 0
theorem C_isL : ∀ c, c < 256 → f_X5_isLetter (nI c) = some (zb2i (zisL c)) := by decide +kernel
theorem C_isD : ∀ c, c < 256 → f_X5_isDigit (nI c) = some (zb2i (zisD c)) := by decide +kernel
theorem C_isB : ∀ c, c < 256 → f_X5_isBlank (nI c) = some (zb2i (zisB c)) := by decide +kernel
theorem M_isL : ∀ c, c < 256 → f_X11_isLetter (nI c) = some (zb2i (zisL c)) := by decide +kernel
theorem M_isD : ∀ c, c < 256 → f_X11_isDigit (nI c) = some (zb2i (zisD c)) := by decide +kernel
theorem zb2_t {b : Bool} (h : b = true) : zb2i b = 1 := by unfold zb2i; rw [if_pos h]
theorem zb2_f {b : Bool} (h : b = false) : zb2i b = 0 := by unfold zb2i; rw [if_neg (by rw [h]; decide)]
theorem znarB (x : Int32) : (vp_nar .byte x) &&& (255 : Int32) = x &&& (255 : Int32) := by
  apply Int32.toBitVec_inj.mp
  rw [Int32.toBitVec_and, Int32.toBitVec_and]
  show (BitVec.signExtend 32 (BitVec.signExtend 8 x.toBitVec)) &&& BitVec.ofNat 32 255 = x.toBitVec &&& BitVec.ofNat 32 255
  have h255 : ∀ k, k < 32 → (BitVec.ofNat 32 255).getLsbD k = decide (k < 8) := by decide
  apply BitVec.eq_of_getLsbD_eq
  intro k hk
  rw [BitVec.getLsbD_and, BitVec.getLsbD_and, h255 k hk]
  by_cases e : k < 8
  · rw [BitVec.getLsbD_signExtend, BitVec.getLsbD_signExtend]
    simp [e, hk, show k < 32 by omega]
  · simp [e]
