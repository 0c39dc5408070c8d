/-! STAGE B, 3: expressions as rows of (step, number), what they come to -/
def arO (o : Nat) (a b : Int32) : Int32 := if o = 2 then a + b else if o = 3 then a - b else if o = 4 then a * b else a / b
def ex (vs : Nat → Int32) : List (Nat × Nat) → List Int32 → Option (List Int32)
  | [], s => some s
  | x :: r, s => if x.1 = 0 then ex vs r (nI x.2 :: s) else if x.1 = 1 then ex vs r (vs x.2 :: s) else if x.1 = 5 ∧ s.headD 0 = 0 then none else ex vs r (arO x.1 (s.tail.headD 0) (s.headD 0) :: s.tail.tail)
/-- steps that keep to 15 high and end at 1 -/
def okR : List (Nat × Nat) → Nat → Prop
  | [], h => h = 1
  | x :: r, h => if x.1 = 0 then x.2 ≤ 9999 ∧ h < 15 ∧ okR r (h + 1) else if x.1 = 1 then x.2 < 9 ∧ h < 15 ∧ okR r (h + 1) else x.1 ≤ 5 ∧ x.2 = 0 ∧ 2 ≤ h ∧ okR r (h - 1)
/-- what an expression comes to: none is a division by 0 -/
def val (vs : Nat → Int32) (l : List (Nat × Nat)) : Option Int32 := (ex vs l []).map (fun s => s.headD 0)
/-- code of the class from p on -/
def CA (f : Nat → Int32) : Nat → List (Nat × Nat) → Prop
  | _, [] => True
  | p, x :: r => f p = nI (8 * x.2 + x.1) ∧ CA f (p + 1) r
theorem CA_append {f : Nat → Int32} : ∀ {l r : List (Nat × Nat)} {p : Nat}, CA f p (l ++ r) ↔ CA f p l ∧ CA f (p + l.length) r := by
  intro l
  induction l with
  | nil => intro r p; simp [CA]
  | cons x l ih =>
    intro r p
    rw [List.cons_append, CA, CA, ih, List.length_cons, show p + 1 + l.length = p + (l.length + 1) by omega]
    constructor
    · rintro ⟨a, b, c⟩; exact ⟨⟨a, b⟩, c⟩
    · rintro ⟨⟨a, b⟩, c⟩; exact ⟨a, b, c⟩
theorem CA_congr {f g : Nat → Int32} : ∀ {l : List (Nat × Nat)} {p : Nat}, (∀ i, p ≤ i → i < p + l.length → g i = f i) → CA f p l → CA g p l := by
  intro l
  induction l with
  | nil => intro p _ _; trivial
  | cons x l ih =>
    intro p h hc
    rw [List.length_cons] at h
    exact ⟨by rw [h p (Nat.le_refl _) (by omega)]; exact hc.1, ih (fun i a b => h i (by omega) (by omega)) hc.2⟩
/-- code of the reference from p on -/
def CM (f g : Nat → Int32) : Nat → List (Nat × Nat) → Prop
  | _, [] => True
  | p, x :: r => f p = nI x.1 ∧ g p = nI x.2 ∧ CM f g (p + 1) r
theorem CM_append {f g : Nat → Int32} : ∀ {l r : List (Nat × Nat)} {p : Nat}, CM f g p (l ++ r) ↔ CM f g p l ∧ CM f g (p + l.length) r := by
  intro l
  induction l with
  | nil => intro r p; simp [CM]
  | cons x l ih =>
    intro r p
    rw [List.cons_append, CM, CM, ih, List.length_cons, show p + 1 + l.length = p + (l.length + 1) by omega]
    constructor
    · rintro ⟨a, b, c, d⟩; exact ⟨⟨a, b, c⟩, d⟩
    · rintro ⟨⟨a, b, c⟩, d⟩; exact ⟨a, b, c, d⟩
theorem CM_congr {f g f' g' : Nat → Int32} : ∀ {l : List (Nat × Nat)} {p : Nat}, (∀ i, p ≤ i → i < p + l.length → f' i = f i ∧ g' i = g i) → CM f g p l → CM f' g' p l := by
  intro l
  induction l with
  | nil => intro p _ _; trivial
  | cons x l ih =>
    intro p h hc
    rw [List.length_cons] at h
    have := h p (Nat.le_refl _) (by omega)
    exact ⟨by rw [this.1]; exact hc.1, by rw [this.2]; exact hc.2.1, ih (fun i a b => h i (by omega) (by omega)) hc.2.2⟩
/-- the stack's numbers from b on, the top first -/
def SR (f : Nat → Int32) (b : Nat) : List Int32 → Prop
  | [] => True
  | x :: s => f (b + s.length) = x ∧ SR f b s
theorem SR_congr {f g : Nat → Int32} {b : Nat} : ∀ {s : List Int32}, (∀ i, i < s.length → g (b + i) = f (b + i)) → SR f b s → SR g b s := by
  intro s
  induction s with
  | nil => intro _ _; trivial
  | cons x s ih =>
    intro h hs
    rw [List.length_cons] at h
    exact ⟨by rw [h _ (by omega)]; exact hs.1, ih (fun i hi => h i (by omega)) hs.2⟩
theorem ex_cons0 {vs : Nat → Int32} {x : Nat × Nat} {r : List (Nat × Nat)} {s : List Int32} (h : x.1 = 0) : ex vs (x :: r) s = ex vs r (nI x.2 :: s) := by rw [ex, if_pos h]
theorem ex_cons1 {vs : Nat → Int32} {x : Nat × Nat} {r : List (Nat × Nat)} {s : List Int32} (h : x.1 = 1) : ex vs (x :: r) s = ex vs r (vs x.2 :: s) := by rw [ex, if_neg (by omega), if_pos h]
theorem ex_cons2 {vs : Nat → Int32} {x : Nat × Nat} {r : List (Nat × Nat)} {s : List Int32} {a b : Int32} (h : 2 ≤ x.1) : ex vs (x :: r) (b :: a :: s) = if x.1 = 5 ∧ b = 0 then none else ex vs r (arO x.1 a b :: s) := by rw [ex, if_neg (by omega), if_neg (by omega)]; rfl
theorem okR_cons0 {x : Nat × Nat} {r : List (Nat × Nat)} {k : Nat} (h : x.1 = 0) : okR (x :: r) k ↔ x.2 ≤ 9999 ∧ k < 15 ∧ okR r (k + 1) := by rw [okR, if_pos h]
theorem okR_cons1 {x : Nat × Nat} {r : List (Nat × Nat)} {k : Nat} (h : x.1 = 1) : okR (x :: r) k ↔ x.2 < 9 ∧ k < 15 ∧ okR r (k + 1) := by rw [okR, if_neg (by omega), if_pos h]
theorem okR_cons2 {x : Nat × Nat} {r : List (Nat × Nat)} {k : Nat} (h : 2 ≤ x.1) : okR (x :: r) k ↔ x.1 ≤ 5 ∧ x.2 = 0 ∧ 2 ≤ k ∧ okR r (k - 1) := by rw [okR, if_neg (by omega), if_neg (by omega)]
-- the class's step: 8 * number + step
theorem enc_op {o v : Nat} (ho : o < 8) (hv : 8 * v + o < 2 ^ 31) : nI (8 * v + o) &&& (7 : Int32) = nI o := by
  apply Int32.toBitVec_inj.mp
  show BitVec.ofNat 32 (8 * v + o) &&& BitVec.ofNat 32 7 = BitVec.ofNat 32 o
  apply BitVec.eq_of_toNat_eq
  rw [BitVec.toNat_and, BitVec.toNat_ofNat, BitVec.toNat_ofNat, BitVec.toNat_ofNat, Nat.mod_eq_of_lt (a := 8 * v + o) (by omega), Nat.mod_eq_of_lt (a := o) (by omega)]
  show (8 * v + o) &&& (2 ^ 3 - 1) = o
  rw [Nat.and_two_pow_sub_one_eq_mod]
  omega
theorem enc_num {o v : Nat} (ho : o < 8) (hv : 8 * v + o < 2 ^ 31) : nI (8 * v + o) >>> ((3 : Int32) &&& 31) = nI v := by
  rw [show (3 : Int32) &&& 31 = 3 by decide]
  apply Int32.toBitVec_inj.mp
  rw [Int32.toBitVec_shiftRight]
  have hn : (nI (8 * v + o)).toBitVec = BitVec.ofNat 32 (8 * v + o) := rfl
  have hm : (BitVec.ofNat 32 (8 * v + o)).msb = false := by
    rw [BitVec.msb_eq_false_iff_two_mul_lt, BitVec.toNat_ofNat, Nat.mod_eq_of_lt (by omega)]
    omega
  rw [hn, show (Int32.toBitVec 3).smod 32 = 3#32 by decide, BitVec.sshiftRight_eq', show (3#32).toNat = 3 by decide, BitVec.sshiftRight_eq_of_msb_false hm]
  apply BitVec.eq_of_toNat_eq
  rw [BitVec.toNat_ushiftRight, BitVec.toNat_ofNat, Nat.mod_eq_of_lt (by omega), Nat.shiftRight_eq_div_pow]
  show _ = (BitVec.ofNat 32 v).toNat
  rw [BitVec.toNat_ofNat, Nat.mod_eq_of_lt (by omega)]
  omega
