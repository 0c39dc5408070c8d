/-! STAGE B, 61: the tokens of a tape -/
def zKk (b : Nat → Nat) (n : Nat) (i : Nat) : Nat := ztk b n (zps b n i)
def zKp (b : Nat → Nat) (n : Nat) (i : Nat) : Nat := zps b n i
def zKv (b : Nat → Nat) (n : Nat) (i : Nat) : Nat := ztw b n (zps b n i)
def zKn (b : Nat → Nat) (n : Nat) (i : Nat) : Nat := zcr 27 (zlw b n (zps b n i))
theorem zsgk_c (c : Nat) : zsgk c = 1 ∨ (4 ≤ zsgk c ∧ zsgk c ≤ 12) := by
  unfold zsgk
  repeat' split
  all_goals omega
theorem zkw_c (r : List Nat) : zkw r = 2 ∨ (13 ≤ zkw r ∧ zkw r ≤ 31) := by
  rcases zkw_ok r with ⟨j, j1, j2, j3, j4⟩ | ⟨j1, j2⟩
  · right; omega
  · exact Or.inl j2
theorem zKk_le (b : Nat → Nat) (n i : Nat) : zKk b n i ≤ 31 := by
  unfold zKk ztk
  have h1 := zsgk_c (b (zps b n i))
  have h2 := zkw_c (zlr b (zps b n i) (zen b n zisL (zps b n i) - zps b n i))
  repeat' split
  all_goals omega
theorem zdv_le {b : Nat → Nat} {p : Nat} : ∀ k, (∀ i, p ≤ i → i < p + k → zisD (b i) = true) → zdv b p k < 10 ^ k := by
  intro k
  induction k with
  | zero => intro _; exact Nat.one_pos
  | succ k ih =>
    intro h
    have h1 := ih (fun i h1 h2 => h i h1 (by omega))
    have h2 := of_decide_eq_true (h (p + k) (by omega) (by omega))
    rw [zdv, Nat.pow_succ]
    omega
theorem zKp_P (b : Nat → Nat) {n : Nat} (hn : n ≤ 2000) : rdP (zKk b n) (zKp b n) := by
  refine ⟨fun i j hij hj hm => ?_, fun i => by have := zps_le (b := b) (n := n) i; unfold zKp; omega⟩
  have hstep : ∀ m, zKk b n m ≠ 0 → zps b n m < zps b n (m + 1) := fun m h => by
    have hlt : zps b n m < n := by
      refine Classical.byContradiction fun z => h ?_
      unfold zKk ztk
      rw [if_pos (by omega)]
    obtain ⟨t1, t2, t3⟩ := zte_le (b := b) (Nat.le_of_lt hlt)
    have := (zen_ok (b := b) (P := zisB) t2).1
    have := t3 hlt
    show zps b n m < zen b n zisB (zte b n (zps b n m))
    omega
  clear hj
  unfold zKp
  induction j with
  | zero => omega
  | succ j ih =>
    have h1 := hstep j (hm j (by omega))
    by_cases e : i = j
    · rw [e]; exact h1
    · have := ih (by omega) (fun m hmj => hm m (by omega))
      omega
theorem zKv_V (b : Nat → Nat) (n : Nat) : rdV (zKk b n) (zKv b n) (zKn b n) := by
  refine ⟨fun j hj => ?_, fun i j hi hj => ?_⟩
  · unfold zKk ztk at hj
    unfold zKv ztw
    have hp := zps_le (b := b) (n := n) j
    by_cases q1 : n ≤ zps b n j
    · rw [if_pos q1] at hj; omega
    rw [if_neg q1] at hj ⊢
    by_cases q2 : zisL (b (zps b n j)) = true
    · rw [if_pos q2] at hj
      have := zkw_c (zlr b (zps b n j) (zen b n zisL (zps b n j) - zps b n j))
      split at hj <;> omega
    rw [if_neg q2] at hj ⊢
    by_cases q3 : zisD (b (zps b n j)) = true
    · rw [if_pos q3] at hj ⊢
      by_cases q4 : zen b n zisD (zps b n j) - zps b n j ≤ 4
      · obtain ⟨e1, e2, e3, -⟩ := zen_ok (b := b) (P := zisD) hp
        have h1 := zdv_le (b := b) (p := zps b n j) (zen b n zisD (zps b n j) - zps b n j) (fun i h1 h2 => e3 i h1 (by omega))
        have h2 : 10 ^ (zen b n zisD (zps b n j) - zps b n j) ≤ 10 ^ 4 := Nat.pow_le_pow_right (by omega) q4
        omega
      · rw [if_neg q4] at hj; omega
    · rw [if_neg q3] at hj
      have := zsgk_c (b (zps b n j))
      omega
  · have key : ∀ m, zKk b n m = 2 → zKv b n m = zcr 32 (zlw b n (zps b n m)) ∧ (zlw b n (zps b n m)).length ≤ 8 ∧ ∀ d, d ∈ zlw b n (zps b n m) → 1 ≤ d ∧ d ≤ 26 := fun m hm => by
      unfold zKk ztk at hm
      unfold zKv ztw zlw
      have hp := zps_le (b := b) (n := n) m
      by_cases q1 : n ≤ zps b n m
      · rw [if_pos q1] at hm; omega
      rw [if_neg q1] at hm ⊢
      by_cases q2 : zisL (b (zps b n m)) = true
      · rw [if_pos q2] at hm ⊢
        obtain ⟨e1, e2, e3, -⟩ := zen_ok (b := b) (P := zisL) hp
        by_cases q4 : zen b n zisL (zps b n m) - zps b n m ≤ 8
        · exact ⟨rfl, by rw [zlr_len]; exact q4, zlr_dig (fun i h1 h2 => e3 i h1 (by omega))⟩
        · rw [if_neg q4] at hm; omega
      rw [if_neg q2] at hm
      by_cases q3 : zisD (b (zps b n m)) = true
      · rw [if_pos q3] at hm
        split at hm <;> omega
      · rw [if_neg q3] at hm
        have := zsgk_c (b (zps b n m))
        omega
    obtain ⟨i1, i2, i3⟩ := key i hi
    obtain ⟨j1, j2, j3⟩ := key j hj
    rw [i1, j1]
    unfold zKn
    rw [znL_cr (by omega) (by omega) i3 j3 i2 j2, znL_cr (by omega) (by omega) i3 j3 i2 j2]
theorem zTk_C2 {σ : St} {b : Nat → Nat} {n : Nat} (h : zTkC σ b n) : zTk σ (zKk b n) (zKp b n) (zKv b n) := ⟨h.1, h.2, fun i => zKk_le b n i⟩
theorem zTm_C2 {τ : St} {b : Nat → Nat} {n : Nat} (h : zTkM τ b n) : zTm τ (zKk b n) (zKp b n) (zKv b n) (zKn b n) := ⟨fun i hi hj => h i hi hj, fun i => zKk_le b n i⟩
/-- the class up to the first statement -/
theorem C_start {σ : St} {b : Nat → Nat} {n : Nat} (h : zTpC σ b n) : ∃ σ1 σ2, f_X5_scanTape σ = some σ1 ∧ f_X4_begin σ1 = some σ2 ∧ (∀ c, (c < 10 ∨ c = 14 ∨ 19 < c) → σ2.1 c = σ.1 c) ∧ (∀ c, c ≠ 11 → c ≠ 14 → σ2.2 c = σ.2 c) ∧ zTk σ2 (zKk b n) (zKp b n) (zKv b n) ∧ zAl0 σ2 0 ∧ TxC σ2 15 T0 ∧ σ2.1 15 5 = nI 12 ∧ σ2.1 10 5 = 0 := by
  obtain ⟨σ1, a1, a2, a3, a4⟩ := C_scanTape h
  obtain ⟨σx, b1, b2, b3, b4, b5, -⟩ := C_clear σ1 15
  refine ⟨σ1, si (si (si σx 10 2 0) 10 3 0) 10 5 0, a1, ?_, fun c hc => ?_, fun c c1 c2 => ?_, ?_, ⟨by omega, by rw [si_get, if_neg (by omega), si_get, if_neg (by omega), si_get, if_pos ⟨rfl, rfl⟩]; rfl, by rw [si_get, if_neg (by omega), si_get, if_pos ⟨rfl, rfl⟩]⟩, ?_, ?_, by rw [si_get, if_pos ⟨rfl, rfl⟩]⟩
  · unfold f_X4_begin
    rw [bind_eq b1, wlet_eq, wlet_eq, wlet_eq]
  · rw [si_ne (by omega), si_ne (by omega), si_ne (by omega), b4 c (by omega) (by omega) (by omega), a2 c (by omega)]
  · show σx.2 c = _
    rw [b5, a3 c c1 c2]
  · have T1 := zTk_C2 a4
    unfold zTk at T1 ⊢
    rw [si_ne (by omega), si_ne (by omega), si_ne (by omega), si_ne (by omega), si_ne (by omega), si_ne (by omega), b4 12 (by omega) (by omega) (by omega), b4 13 (by omega) (by omega) (by omega)]
    show (∀ i, i ≤ 400 → σ1.1 12 i = nI (zKk b n i) ∧ σ1.1 13 i = nI (zKp b n i) ∧ σx.2 14 i = nL (zKv b n i)) ∧ _
    rw [b5]; exact T1
  · unfold TxC at b2 ⊢
    rw [si_ne (by omega), si_ne (by omega), si_ne (by omega), si_ne (by omega), si_ne (by omega), si_ne (by omega), si_ne (by omega), si_ne (by omega), si_ne (by omega), si_ne (by omega), si_ne (by omega), si_ne (by omega), si_ne (by omega), si_ne (by omega), si_ne (by omega)]
    exact b2
  · rw [si_ne (by omega), si_ne (by omega), si_ne (by omega)]; exact b3
