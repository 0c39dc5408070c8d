/-! STAGE B, 41: words -/
def zwords : List (List Nat) := [[5, 19, 1, 3], [5, 18, 15, 6, 5, 2], [13, 15, 15, 4], [1, 5, 12, 16], [5, 5, 6], [19, 14, 18, 21, 15, 10, 4, 1], [4, 5, 5, 19], [6, 9], [14, 5, 8, 20], [5, 19, 12, 5], [4, 5, 5, 4], [14, 23, 15], [5, 19, 18, 21, 16], [5, 3, 1, 12, 16], [14, 15, 9, 19, 19, 5, 19], [8, 3, 9, 8, 23], [19, 5, 19, 1, 3], [4, 5, 12, 16], [5, 14, 15, 7]]
def zwl (k : Nat) : List Nat := zwords.getD k []
/-- a word's bytes, blanks behind it -/
def zpad (r : List Nat) (i : Nat) : Nat := if i < r.length then 96 + r.getD (r.length - 1 - i) 0 else 32
theorem zwl_ok : ∀ k, k < 19 → (zwl k).length ≤ 8 ∧ ∀ d, d ∈ zwl k → 1 ≤ d ∧ d ≤ 26 := by decide
theorem zwl_inj : ∀ k, k < 19 → ∀ l, l < 19 → zwl k = zwl l → k = l := by decide
theorem zkeys : ∀ k, k < 19 → σM.2 7 k = nL (zcr 27 (zwl k)) := by decide +kernel
theorem ztabA : (wtx 1).toList = (List.range 152).map (fun j => Char.ofNat (zpad (zwl (j / 8)) (j % 8))) := by decide +kernel
theorem zsch : ∀ k, k < 19 → ∀ i, i < 8 → sch 1 (nI (8 * k + i)) = some (nI (zpad (zwl k) i)) := by decide +kernel
def zsgk (c : Nat) : Nat := if c = 59 then 4 else if c = 61 then 5 else if c = 43 then 6 else if c = 45 then 7 else if c = 42 then 8 else if c = 47 then 9 else if c = 60 then 10 else if c = 40 then 11 else if c = 41 then 12 else 1
theorem zsix : ∀ c, c < 256 → ∃ v, six 0 (i2c (nI c)) = some v ∧ (if 0 ≤ v then (4 : Int32) + v else 1) = nI (zsgk c) := by
  have h : ∀ c, c < 256 → (if 0 ≤ sixF (i2c (nI c)) (wbyt.getD 0 []) 0 then (4 : Int32) + sixF (i2c (nI c)) (wbyt.getD 0 []) 0 else 1) = nI (zsgk c) := by decide +kernel
  exact fun c hc => ⟨_, rfl, h c hc⟩
