/-! STAGE B, 42: tokens; the class's scanner -/
theorem zpad_inj {r s : List Nat} (hr : r.length ≤ 8) (hs : s.length ≤ 8) (hr1 : ∀ d, d ∈ r → 1 ≤ d) (hs1 : ∀ d, d ∈ s → 1 ≤ d) (h : ∀ i, i < 8 → zpad r i = zpad s i) : r = s := by
  have hlen : r.length = s.length := by
    rcases Nat.lt_trichotomy r.length s.length with q | q | q
    · have := h r.length (by omega)
      unfold zpad at this
      rw [if_neg (by omega), if_pos q] at this
      omega
    · exact q
    · have := h s.length (by omega)
      unfold zpad at this
      rw [if_pos q, if_neg (by omega)] at this
      omega
  apply List.ext_getElem hlen
  intro i h1 h2
  have := h (r.length - 1 - i) (by omega)
  unfold zpad at this
  rw [if_pos (by omega), if_pos (by omega), show r.length - 1 - (r.length - 1 - i) = i by omega, show s.length - 1 - (r.length - 1 - i) = i by omega] at this
  have e1 : r.getD i 0 = r[i] := by rw [List.getD_eq_getElem?_getD, List.getElem?_eq_getElem h1]; rfl
  have e2 : s.getD i 0 = s[i] := by rw [List.getD_eq_getElem?_getD, List.getElem?_eq_getElem h2]; rfl
  rw [e1, e2] at this
  omega
-- runs of bytes
def zrne (b : Nat → Nat) (P : Nat → Bool) : Nat → Nat → Nat
  | 0, p => p
  | k + 1, p => if P (b p) = true then zrne b P k (p + 1) else p
/-- the end of a run from p on -/
def zen (b : Nat → Nat) (n : Nat) (P : Nat → Bool) (p : Nat) : Nat := zrne b P (n - p) p
theorem zrne_ok {b : Nat → Nat} {P : Nat → Bool} : ∀ k p, p ≤ zrne b P k p ∧ zrne b P k p ≤ p + k ∧ (∀ i, p ≤ i → i < zrne b P k p → P (b i) = true) ∧ (zrne b P k p = p + k ∨ P (b (zrne b P k p)) = false) := by
  intro k
  induction k with
  | zero => intro p; exact ⟨Nat.le_refl _, Nat.le_refl _, fun i h1 h2 => absurd h1 (Nat.not_le.mpr h2), Or.inl rfl⟩
  | succ k ih =>
    intro p
    rw [zrne]
    by_cases e : P (b p) = true
    · rw [if_pos e]
      obtain ⟨a1, a2, a3, a4⟩ := ih (p + 1)
      refine ⟨by omega, by omega, fun i h1 h2 => ?_, ?_⟩
      · by_cases q : i = p
        · rw [q]; exact e
        · exact a3 i (by omega) h2
      · rcases a4 with a4 | a4
        · left; omega
        · right; exact a4
    · rw [if_neg e]
      exact ⟨Nat.le_refl _, by omega, fun i h1 h2 => by omega, Or.inr (by simpa using e)⟩
theorem zen_ok {b : Nat → Nat} {n : Nat} {P : Nat → Bool} {p : Nat} (hp : p ≤ n) : p ≤ zen b n P p ∧ zen b n P p ≤ n ∧ (∀ i, p ≤ i → i < zen b n P p → P (b i) = true) ∧ (zen b n P p = n ∨ P (b (zen b n P p)) = false) := by
  obtain ⟨a1, a2, a3, a4⟩ := zrne_ok (b := b) (P := P) (n - p) p
  unfold zen
  refine ⟨a1, by omega, a3, ?_⟩
  rcases a4 with a4 | a4
  · left; omega
  · right; exact a4
/-- the letters of a run, the last first; a number's value -/
def zlr (b : Nat → Nat) (p : Nat) : Nat → List Nat
  | 0 => []
  | k + 1 => (b (p + k) - 96) :: zlr b p k
def zdv (b : Nat → Nat) (p : Nat) : Nat → Nat
  | 0 => 0
  | k + 1 => zdv b p k * 10 + (b (p + k) - 48)
theorem zlr_len (b : Nat → Nat) (p : Nat) : ∀ k, (zlr b p k).length = k := by
  intro k
  induction k with
  | zero => rfl
  | succ k ih => rw [zlr, List.length_cons, ih]
theorem zlr_dig {b : Nat → Nat} {p : Nat} : ∀ {k : Nat}, (∀ i, p ≤ i → i < p + k → zisL (b i) = true) → ∀ d, d ∈ zlr b p k → 1 ≤ d ∧ d ≤ 26 := by
  intro k
  induction k with
  | zero => intro _ d hd; cases hd
  | succ k ih =>
    intro h d hd
    rcases List.mem_cons.mp hd with rfl | hd
    · have := of_decide_eq_true (h (p + k) (by omega) (by omega))
      omega
    · exact ih (fun i h1 h2 => h i h1 (by omega)) d hd
theorem zlr_get {b : Nat → Nat} {p : Nat} : ∀ {k i : Nat}, i < k → (zlr b p k).getD (k - 1 - i) 0 = b (p + i) - 96 := by
  intro k
  induction k with
  | zero => intro i h; omega
  | succ k ih =>
    intro i h
    rw [zlr]
    by_cases e : i = k
    · rw [e, show k + 1 - 1 - k = 0 by omega]; rfl
    · rw [show k + 1 - 1 - i = (k - 1 - i) + 1 by omega, List.getD_cons_succ]
      exact ih (by omega)
/-- the kind of a word -/
def zkf (r : List Nat) : Nat → Nat → Nat
  | 0, _ => 2
  | f + 1, k => if r = zwl k then 13 + k else zkf r f (k + 1)
def zkw (r : List Nat) : Nat := zkf r 19 0
-- tokens at a place p that is no blank, or the end
def zte (b : Nat → Nat) (n p : Nat) : Nat := if n ≤ p then p else if zisL (b p) = true then zen b n zisL p else if zisD (b p) = true then zen b n zisD p else p + 1
def ztk (b : Nat → Nat) (n p : Nat) : Nat := if n ≤ p then 0 else if zisL (b p) = true then (if zen b n zisL p - p ≤ 8 then zkw (zlr b p (zen b n zisL p - p)) else 1) else if zisD (b p) = true then (if zen b n zisD p - p ≤ 4 then 3 else 1) else zsgk (b p)
def ztw (b : Nat → Nat) (n p : Nat) : Nat := if n ≤ p then 0 else if zisL (b p) = true then zcr 32 (zlr b p (zen b n zisL p - p)) else if zisD (b p) = true then zdv b p (zen b n zisD p - p) else 0
def zps (b : Nat → Nat) (n : Nat) : Nat → Nat
  | 0 => zen b n zisB 0
  | i + 1 => zen b n zisB (zte b n (zps b n i))
theorem zte_le {b : Nat → Nat} {n p : Nat} (h : p ≤ n) : p ≤ zte b n p ∧ zte b n p ≤ n ∧ (p < n → p < zte b n p) := by
  unfold zte
  by_cases h0 : n ≤ p
  · rw [if_pos h0]; exact ⟨Nat.le_refl _, h, fun q => by omega⟩
  · rw [if_neg h0]
    by_cases h1 : zisL (b p) = true
    · rw [if_pos h1]
      obtain ⟨a1, a2, a3, a4⟩ := zen_ok (b := b) (P := zisL) h
      refine ⟨a1, a2, fun _ => ?_⟩
      rcases a4 with a4 | a4
      · omega
      · rcases Nat.lt_or_ge p (zen b n zisL p) with q | q
        · exact q
        · have : zen b n zisL p = p := by omega
          rw [this, h1] at a4; cases a4
    · rw [if_neg h1]
      by_cases h2 : zisD (b p) = true
      · rw [if_pos h2]
        obtain ⟨a1, a2, a3, a4⟩ := zen_ok (b := b) (P := zisD) h
        refine ⟨a1, a2, fun _ => ?_⟩
        rcases a4 with a4 | a4
        · omega
        · rcases Nat.lt_or_ge p (zen b n zisD p) with q | q
          · exact q
          · have : zen b n zisD p = p := by omega
            rw [this, h2] at a4; cases a4
      · rw [if_neg h2]; exact ⟨by omega, by omega, fun _ => by omega⟩
theorem zps_le {b : Nat → Nat} {n : Nat} : ∀ i, zps b n i ≤ n := by
  intro i
  induction i with
  | zero => exact (zen_ok (Nat.zero_le _)).2.1
  | succ i ih => exact (zen_ok (zte_le ih).2.1).2.1
-- the class's tape
def zTpC (σ : St) (b : Nat → Nat) (n : Nat) : Prop := σ.1 2 1 = nI n ∧ n ≤ 2000 ∧ ∀ i, i < n → (σ.1 3 i) &&& (255 : Int32) = nI (b i) ∧ b i < 256
theorem C_byte {σ : St} {b : Nat → Nat} {n p : Nat} (h : zTpC σ b n) (hp : p < n) : f_X7_byteAt σ (nI p) = some (nI (b p)) := by
  obtain ⟨h1, h2, h3⟩ := h
  have n1 : ¬ nI n ≤ nI p := fun z => by have := (nI_leN (by omega) (by omega)).mp z; omega
  have n2 : ¬ (2000 : Int32) ≤ nI p := fun z => by have := (nI_leN (a := 2000) (by omega) (by omega)).mp z; omega
  unfold f_X7_byteAt
  rw [if_neg (nI_pos (by omega)), h1, if_neg n1, if_neg n2, if_ib (ib_t (by omega) (by omega)), nI_clamp (by omega), (h3 p hp).1]
theorem C_byte_end {σ : St} {b : Nat → Nat} {n p : Nat} (h : zTpC σ b n) (hp : n ≤ p) (hp2 : p < 2 ^ 31) : f_X7_byteAt σ (nI p) = some (-1) := by
  obtain ⟨h1, h2, h3⟩ := h
  unfold f_X7_byteAt
  rw [if_neg (nI_pos hp2), h1, if_pos ((nI_leN (by omega) hp2).mpr hp)]
/-- the scanner at a place, with a value -/
def zss2 (σ : St) (q : Nat) (v : Int64) : St := (fun d => if d = 11 then upd (σ.1 11) 4 (nI q) else σ.1 d, fun d => if d = 11 then vp_updL (σ.2 11) 5 v else σ.2 d)
theorem zss2_up (σ : St) (q r : Nat) (v w : Int64) : si (sj (zss2 σ q v) 11 5 w) 11 4 (nI r) = zss2 σ r w := by
  refine Prod.ext ?_ ?_
  · funext d j
    rw [si_get]
    by_cases e : d = 11
    · subst e
      by_cases e2 : j = 4
      · subst e2; simp [zss2, upd]
      · simp [zss2, upd, e2, sj_get1]
    · simp [zss2, e, sj_get1]
  · funext d j
    show (sj (zss2 σ q v) 11 5 w).2 d j = (zss2 σ r w).2 d j
    rw [sj_get]
    by_cases e : d = 11
    · subst e
      by_cases e2 : j = 5
      · subst e2; simp [zss2, vp_updL]
      · simp [zss2, vp_updL, e2]
    · simp [zss2, e]
theorem zss2_p (σ : St) (q r : Nat) (v : Int64) : si (zss2 σ q v) 11 4 (nI r) = zss2 σ r v := by
  have h : sj (zss2 σ q v) 11 5 v = zss2 σ q v := by
    refine Prod.ext rfl ?_
    funext d j
    rw [sj_get]
    by_cases e : d = 11 ∧ j = 5
    · rw [if_pos e, e.1, e.2]; simp [zss2, vp_updL]
    · rw [if_neg e]
  have := zss2_up σ q r v v
  rw [h] at this
  exact this
theorem zss2_self {σ : St} {q : Nat} {v : Int64} (h : σ.1 11 4 = nI q) (h2 : σ.2 11 5 = v) : zss2 σ q v = σ := by
  refine Prod.ext ?_ ?_
  · funext d j
    by_cases e : d = 11
    · subst e
      by_cases e2 : j = 4
      · subst e2; simp [zss2, upd, h]
      · simp [zss2, upd, e2]
    · simp [zss2, e]
  · funext d j
    by_cases e : d = 11
    · subst e
      by_cases e2 : j = 5
      · subst e2; simp [zss2, vp_updL, h2]
      · simp [zss2, vp_updL, e2]
    · simp [zss2, e]
theorem zss2_4 (σ : St) (q : Nat) (v : Int64) : (zss2 σ q v).1 11 4 = nI q := by simp [zss2, upd]
theorem zss2_5 (σ : St) (q : Nat) (v : Int64) : (zss2 σ q v).2 11 5 = v := by simp [zss2, vp_updL]
theorem zss2_ne {σ : St} {q d : Nat} {v : Int64} (h : d ≠ 11) : (zss2 σ q v).1 d = σ.1 d ∧ (zss2 σ q v).2 d = σ.2 d := by simp [zss2, h]
theorem zTpC_s {σ : St} {b : Nat → Nat} {n q : Nat} {v : Int64} (h : zTpC σ b n) : zTpC (zss2 σ q v) b n := by
  unfold zTpC at h ⊢
  rw [(zss2_ne (by omega)).1, (zss2_ne (by omega)).1]; exact h
def zPb1 : St → Option ((St) ⊕ (St)) :=
  fun (σ0_1 : St) => if (σ0_1.1 2 1) ≤ (σ0_1.1 11 4) then (some (.inr σ0_1)) else (Option.bind (f_X7_byteAt σ0_1 (σ0_1.1 11 4)) fun v4 => Option.bind (f_X5_isBlank v4) fun v6 => if v6 = 0 then (some (.inr σ0_1)) else (wlet (si σ0_1 11 4 ((σ0_1.1 11 4) + (1 : Int32))) fun σ8 => some (.inl σ8)))
def zSd1 : St → Option ((St) ⊕ (St)) :=
  fun (σ5_2 : St) => if (σ5_2.1 2 1) ≤ (σ5_2.1 11 4) then (some (.inr σ5_2)) else (Option.bind (f_X7_byteAt σ5_2 (σ5_2.1 11 4)) fun v6 => Option.bind (f_X5_isDigit v6) fun v8 => if v8 = 0 then (some (.inr σ5_2)) else (Option.bind (f_X7_byteAt σ5_2 (σ5_2.1 11 4)) fun v11 => wlet (sj σ5_2 11 5 (((σ5_2.2 11 5) * (10 : Int64)) + (Int32.toInt64 (v11 - (48 : Int32))))) fun σ12 => wlet (si σ12 11 4 ((σ12.1 11 4) + (1 : Int32))) fun σ13 => some (.inl σ13)))
def zSl9 : St → Option ((St) ⊕ (St)) :=
  fun (σ5_2 : St) => if (σ5_2.1 2 1) ≤ (σ5_2.1 11 4) then (some (.inr σ5_2)) else (Option.bind (f_X7_byteAt σ5_2 (σ5_2.1 11 4)) fun v8 => Option.bind (f_X5_isLetter v8) fun v10 => if v10 = 0 then (some (.inr σ5_2)) else (Option.bind (f_X7_byteAt σ5_2 (σ5_2.1 11 4)) fun v13 => wlet (sj σ5_2 11 5 (((σ5_2.2 11 5) * (32 : Int64)) + (Int32.toInt64 ((v13 - (97 : Int32)) + (1 : Int32))))) fun σ14 => wlet (si σ14 11 4 ((σ14.1 11 4) + (1 : Int32))) fun σ15 => some (.inl σ15)))
theorem C_passBlanks {σ : St} {b : Nat → Nat} {n p : Nat} {v : Int64} (h : zTpC σ b n) (hp : p ≤ n) : f_X5_passBlanks (zss2 σ p v) = some (zss2 σ (zen b n zisB p) v) := by
  obtain ⟨a1, a2, a3, a4⟩ := zen_ok (b := b) (P := zisB) hp
  have hn := h.2.1
  unfold f_X5_passBlanks
  rw [wlet_eq]
  refine (bind_eq (zrun (st := zPb1) (r := zss2 σ (zen b n zisB p) v) (fun t => zss2 σ (p + t) v) (zen b n zisB p - p) (by omega) rfl (fun t ht => ?_) ?_)).trans rfl
  · have n1 : ¬ nI n ≤ nI (p + t) := fun z => by have := (nI_leN (by omega) (by omega)).mp z; omega
    unfold zPb1
    rw [zss2_4, (zTpC_s h).1, if_neg n1, bind_eq (C_byte (zTpC_s h) (show p + t < n by omega)), bind_eq (C_isB _ (h.2.2 (p + t) (by omega)).2), zb2_t (a3 _ (by omega) (by omega)), if_neg n10, wlet_eq, ← nI_succ, zss2_p]
    rfl
  · rw [show p + (zen b n zisB p - p) = zen b n zisB p by omega]
    unfold zPb1
    rw [zss2_4, (zTpC_s h).1]
    rcases a4 with a4 | a4
    · rw [if_pos (by rw [a4]; exact Int32.le_refl _)]
    · by_cases q : zen b n zisB p = n
      · rw [if_pos (by rw [q]; exact Int32.le_refl _)]
      · have n1 : ¬ nI n ≤ nI (zen b n zisB p) := fun z => by have := (nI_leN (by omega) (by omega)).mp z; omega
        rw [if_neg n1, bind_eq (C_byte (zTpC_s h) (show zen b n zisB p < n by omega)), bind_eq (C_isB _ (h.2.2 _ (by omega)).2), zb2_f a4, if_pos rfl]
theorem C_scanDigits {σ : St} {b : Nat → Nat} {n p : Nat} (h : zTpC σ b n) (hp : p ≤ n) : f_X5_scanDigits (zss2 σ p 0) = some (nI (if zen b n zisD p - p ≤ 4 then 3 else 1), zss2 σ (zen b n zisD p) (nL (zdv b p (zen b n zisD p - p)))) := by
  obtain ⟨a1, a2, a3, a4⟩ := zen_ok (b := b) (P := zisD) hp
  have hn := h.2.1
  unfold f_X5_scanDigits
  rw [wlet_eq, wlet_eq, zss2_4]
  refine (bind_eq (zrun (st := zSd1) (r := zss2 σ (zen b n zisD p) (nL (zdv b p (zen b n zisD p - p)))) (fun t => zss2 σ (p + t) (nL (zdv b p t))) (zen b n zisD p - p) (by omega) rfl (fun t ht => ?_) ?_)).trans ?_
  · have n1 : ¬ nI n ≤ nI (p + t) := fun z => by have := (nI_leN (by omega) (by omega)).mp z; omega
    have hd := a3 (p + t) (by omega) (by omega)
    have hd' := of_decide_eq_true hd
    have hb := C_byte (zTpC_s (q := p + t) (v := nL (zdv b p t)) h) (show p + t < n by omega)
    unfold zSd1
    rw [zss2_4, (zTpC_s h).1, if_neg n1, bind_eq hb, bind_eq (C_isD _ (h.2.2 (p + t) (by omega)).2), zb2_t hd, if_neg n10, bind_eq hb, wlet_eq, wlet_eq, zss2_5, zdig64 _ (by omega) (by omega), show (10 : Int64) = nL 10 from rfl, nL_mul, nL_add, show (sj (zss2 σ (p + t) (nL (zdv b p t))) 11 5 (nL (zdv b p t * 10 + (b (p + t) - 48)))).1 11 4 = nI (p + t) from zss2_4 σ (p + t) (nL (zdv b p t)), ← nI_succ, zss2_up]
    rfl
  · rw [show p + (zen b n zisD p - p) = zen b n zisD p by omega]
    unfold zSd1
    rw [zss2_4, (zTpC_s h).1]
    rcases a4 with a4 | a4
    · rw [if_pos (by rw [a4]; exact Int32.le_refl _)]
    · by_cases q : zen b n zisD p = n
      · rw [if_pos (by rw [q]; exact Int32.le_refl _)]
      · have n1 : ¬ nI n ≤ nI (zen b n zisD p) := fun z => by have := (nI_leN (by omega) (by omega)).mp z; omega
        rw [if_neg n1, bind_eq (C_byte (zTpC_s h) (show zen b n zisD p < n by omega)), bind_eq (C_isD _ (h.2.2 _ (by omega)).2), zb2_f a4, if_pos rfl]
  · show (if (zss2 σ (zen b n zisD p) (nL (zdv b p (zen b n zisD p - p)))).1 11 4 - nI p ≤ (4 : Int32) then _ else _) = _
    rw [zss2_4, nI_sub a1]
    by_cases q : zen b n zisD p - p ≤ 4
    · have w : nI (zen b n zisD p - p) ≤ (4 : Int32) := (nI_leN (b := 4) (by omega) (by omega)).mpr q
      rw [if_pos w, if_pos q]; rfl
    · have w : ¬ nI (zen b n zisD p - p) ≤ (4 : Int32) := fun z => q ((nI_leN (b := 4) (by omega) (by omega)).mp z)
      rw [if_neg w, if_neg q]; rfl
def zIw1 (σ : St) (x1 : Int32) (x2 : Int32) : Int32 → Option ((Int32) ⊕ ((Unit) ⊕ (Int32))) :=
  fun (x3_2_1 : Int32) => if (8 : Int32) ≤ x3_2_1 then (some (.inr (.inl ()))) else (wlet (fun (s0_33_3 : Int32) => (if x2 < 0 then (some (.inr (.inr (0 : Int32)))) else (if (152 : Int32) ≤ (x2 + x3_2_1) then (some (.inr (.inr (0 : Int32)))) else (Option.bind (sch 1 (x2 + x3_2_1)) fun v6 => if v6 = s0_33_3 then (wlet (x3_2_1 + (1 : Int32)) fun v9 => some (.inl v9)) else (some (.inr (.inr (0 : Int32)))))) : Option ((Int32) ⊕ ((Unit) ⊕ (Int32))))) fun k33_3 => if (σ.1 11 4) ≤ (x1 + x3_2_1) then (k33_3 (32 : Int32)) else (Option.bind (f_X7_byteAt σ (x1 + x3_2_1)) fun v12 => k33_3 v12))
def zKw1 (σ : St) (x1 : Int32) : Int32 → Option ((Int32) ⊕ ((Unit) ⊕ (Int32))) :=
  fun (x2_3_1 : Int32) => if (31 : Int32) < x2_3_1 then (some (.inr (.inl ()))) else (Option.bind (f_X5_isWord σ x1 ((x2_3_1 - (13 : Int32)) * (8 : Int32))) fun v4 => if v4 = 0 then (wlet (x2_3_1 + (1 : Int32)) fun v6 => some (.inl v6)) else (some (.inr (.inr x2_3_1))))
/-- is the run a word -/
theorem C_isWord {σ : St} {b : Nat → Nat} {n p e k : Nat} (h : zTpC σ b n) (h4 : σ.1 11 4 = nI e) (hpe : p ≤ e) (hen : e ≤ n) (h8 : e - p ≤ 8) (hL : ∀ i, p ≤ i → i < e → zisL (b i) = true) (hk : k < 19) : f_X5_isWord σ (nI p) (nI (8 * k)) = some (if zlr b p (e - p) = zwl k then 1 else 0) := by
  have hn := h.2.1
  obtain ⟨w1, w2⟩ := zwl_ok k hk
  have hpl : ∀ i, i < 8 → (if i < e - p then b (p + i) else 32) = zpad (zlr b p (e - p)) i := fun i hi => by
    unfold zpad
    rw [zlr_len]
    by_cases q : i < e - p
    · rw [if_pos q, if_pos q, zlr_get q]
      have := of_decide_eq_true (hL (p + i) (by omega) (by omega))
      omega
    · rw [if_neg q, if_neg q]
  have hstep : ∀ i, i < 8 → zIw1 σ (nI p) (nI (8 * k)) (nI i) = if zpad (zwl k) i = zpad (zlr b p (e - p)) i then some (.inl (nI (i + 1))) else some (.inr (.inr 0)) := fun i hi => by
    have n1 : ¬ (8 : Int32) ≤ nI i := fun z => by have := (nI_leN (a := 8) (by omega) (by omega)).mp z; omega
    have n3 : ¬ (152 : Int32) ≤ nI (8 * k + i) := fun z => by have := (nI_leN (a := 152) (by omega) (by omega)).mp z; omega
    have hfin : ∀ c : Nat, c < 300 → (if nI (8 * k) < 0 then (some (.inr (.inr (0 : Int32))) : Option (Int32 ⊕ (Unit ⊕ Int32))) else (if (152 : Int32) ≤ (nI (8 * k) + nI i) then (some (.inr (.inr (0 : Int32)))) else (Option.bind (sch 1 (nI (8 * k) + nI i)) fun v6 => if v6 = nI c then (wlet (nI i + (1 : Int32)) fun v9 => some (.inl v9)) else (some (.inr (.inr (0 : Int32))))))) = if zpad (zwl k) i = c then some (.inl (nI (i + 1))) else some (.inr (.inr 0)) := fun c hc => by
      have hpw : zpad (zwl k) i < 300 := by
        unfold zpad
        split
        · have hmem : (zwl k).getD ((zwl k).length - 1 - i) 0 ≤ 26 := by
            rw [List.getD_eq_getElem?_getD]
            cases hg : (zwl k)[(zwl k).length - 1 - i]? with
            | none => exact Nat.zero_le _
            | some d => exact (w2 d (List.mem_of_getElem? hg)).2
          omega
        · omega
      rw [if_neg (nI_pos (by omega)), nI_add', if_neg n3, bind_eq (zsch k hk i hi)]
      by_cases q : zpad (zwl k) i = c
      · rw [if_pos (by rw [q]), if_pos q, wlet_eq, nI_succ]
      · rw [if_neg (fun z => q ((nI_eqN (by omega) (by omega)).mp z)), if_neg q]
    rw [← hpl i hi]
    unfold zIw1
    rw [if_neg n1, wlet_eq, h4, nI_add']
    by_cases q : i < e - p
    · have n2 : ¬ nI e ≤ nI (p + i) := fun z => by have := (nI_leN (by omega) (by omega)).mp z; omega
      have hbb := (h.2.2 (p + i) (by omega)).2
      rw [if_neg n2, bind_eq (C_byte h (show p + i < n by omega)), if_pos q]
      exact hfin _ (by omega)
    · have n2 : nI e ≤ nI (p + i) := (nI_leN (by omega) (by omega)).mpr (by omega)
      rw [if_pos n2, if_neg q]
      exact hfin 32 (by omega)
  have heq : (∀ i, i < 8 → zpad (zwl k) i = zpad (zlr b p (e - p)) i) → zlr b p (e - p) = zwl k := fun z =>
    (zpad_inj w1 (by rw [zlr_len]; exact h8) (fun d hd => (w2 d hd).1) (fun d hd => (zlr_dig (fun i h1 h2 => hL i h1 (by omega)) d hd).1) z).symm
  obtain ⟨r, q1, q2⟩ := zinv (st := zIw1 σ (nI p) (nI (8 * k))) (s0 := 0) (fun i x => x = nI i ∧ ∀ j, j < i → zpad (zwl k) j = zpad (zlr b p (e - p)) j) (fun r => (r = .inl () ∧ zlr b p (e - p) = zwl k) ∨ (r = .inr 0 ∧ ¬ zlr b p (e - p) = zwl k)) 8 (by omega) ⟨rfl, fun j hj => absurd hj (Nat.not_lt_zero _)⟩ (by
    rintro i x hi ⟨rfl, h2⟩
    rw [hstep i hi]
    by_cases q : zpad (zwl k) i = zpad (zlr b p (e - p)) i
    · rw [if_pos q]
      refine Or.inl ⟨_, rfl, rfl, fun j hj => ?_⟩
      by_cases e2 : j = i
      · rw [e2]; exact q
      · exact h2 j (by omega)
    · rw [if_neg q]
      exact Or.inr ⟨_, rfl, Or.inr ⟨rfl, fun z => q (by rw [z])⟩⟩) (by
    rintro x ⟨rfl, h2⟩
    refine ⟨.inl (), ?_, Or.inl ⟨rfl, heq h2⟩⟩
    unfold zIw1
    rw [if_pos (by decide)])
  unfold f_X5_isWord
  rw [wlet_eq]
  refine (bind_eq q1).trans ?_
  rcases q2 with ⟨rfl, q2⟩ | ⟨rfl, q2⟩
  · rw [if_pos q2]; rfl
  · rw [if_neg q2]; rfl
theorem zkf_ok (r : List Nat) : ∀ f k, (∃ j, k ≤ j ∧ j < k + f ∧ r = zwl j ∧ zkf r f k = 13 + j ∧ ∀ i, k ≤ i → i < j → ¬ r = zwl i) ∨ ((∀ i, k ≤ i → i < k + f → ¬ r = zwl i) ∧ zkf r f k = 2) := by
  intro f
  induction f with
  | zero => intro k; exact Or.inr ⟨fun i h1 h2 => by omega, rfl⟩
  | succ f ih =>
    intro k
    rw [zkf]
    by_cases e : r = zwl k
    · rw [if_pos e]; exact Or.inl ⟨k, Nat.le_refl _, by omega, e, rfl, fun i h1 h2 => by omega⟩
    · rw [if_neg e]
      rcases ih (k + 1) with ⟨j, j1, j2, j3, j4, j5⟩ | ⟨j1, j2⟩
      · refine Or.inl ⟨j, by omega, by omega, j3, j4, fun i h1 h2 => ?_⟩
        by_cases q : i = k
        · rw [q]; exact e
        · exact j5 i (by omega) h2
      · refine Or.inr ⟨fun i h1 h2 => ?_, j2⟩
        by_cases q : i = k
        · rw [q]; exact e
        · exact j1 i (by omega) (by omega)
theorem zkw_ok (r : List Nat) : (∃ j, j < 19 ∧ r = zwl j ∧ zkw r = 13 + j ∧ ∀ i, i < j → ¬ r = zwl i) ∨ ((∀ i, i < 19 → ¬ r = zwl i) ∧ zkw r = 2) := by
  rcases zkf_ok r 19 0 with ⟨j, j1, j2, j3, j4, j5⟩ | ⟨j1, j2⟩
  · exact Or.inl ⟨j, by omega, j3, j4, fun i hi => j5 i (Nat.zero_le _) hi⟩
  · exact Or.inr ⟨fun i hi => j1 i (Nat.zero_le _) (by omega), j2⟩
theorem C_kindOfWord {σ : St} {b : Nat → Nat} {n p e : Nat} (h : zTpC σ b n) (h4 : σ.1 11 4 = nI e) (hpe : p ≤ e) (hen : e ≤ n) (h8 : e - p ≤ 8) (hL : ∀ i, p ≤ i → i < e → zisL (b i) = true) : f_X5_kindOfWord σ (nI p) = some (nI (zkw (zlr b p (e - p)))) := by
  have hst : ∀ k, k < 19 → zKw1 σ (nI p) (nI (13 + k)) = if zlr b p (e - p) = zwl k then some (.inr (.inr (nI (13 + k)))) else some (.inl (nI (13 + (k + 1)))) := fun k hk => by
    have n1 : ¬ (31 : Int32) < nI (13 + k) := fun z => by have := (nI_ltN (a := 31) (by omega) (by omega)).mp z; omega
    have e8 : (nI (13 + k) - (13 : Int32)) * (8 : Int32) = nI (8 * k) := by
      rw [show nI (13 + k) - (13 : Int32) = nI (13 + k - 13) from nI_sub (b := 13) (by omega), Nat.add_sub_cancel_left, show (8 : Int32) = nI 8 from rfl, znI_mul, Nat.mul_comm]
    unfold zKw1
    rw [if_neg n1, e8, bind_eq (C_isWord h h4 hpe hen h8 hL hk)]
    by_cases q : zlr b p (e - p) = zwl k
    · rw [if_pos q, if_pos q, if_neg n10]
    · rw [if_neg q, if_neg q, if_pos rfl, wlet_eq, ← nI_succ]
      rfl
  unfold f_X5_kindOfWord
  rw [wlet_eq]
  rcases zkw_ok (zlr b p (e - p)) with ⟨j, j1, j2, j3, j4⟩ | ⟨j1, j2⟩
  · refine (bind_eq (zrun (st := zKw1 σ (nI p)) (r := .inr (nI (13 + j))) (fun t => nI (13 + t)) j (by omega) rfl (fun t ht => ?_) ?_)).trans ?_
    · rw [hst t (by omega), if_neg (j4 t ht)]
    · rw [hst j j1, if_pos j2]
    · rw [j3]; rfl
  · refine (bind_eq (zrun (st := zKw1 σ (nI p)) (r := .inl ()) (fun t => nI (13 + t)) 19 (by omega) rfl (fun t ht => ?_) ?_)).trans ?_
    · rw [hst t ht, if_neg (j1 t ht)]
    · unfold zKw1
      rw [if_pos (by decide)]
    · rw [j2]; rfl
theorem C_scanLetters {σ : St} {b : Nat → Nat} {n p : Nat} (h : zTpC σ b n) (hp : p ≤ n) : f_X5_scanLetters (zss2 σ p 0) = some (nI (if zen b n zisL p - p ≤ 8 then zkw (zlr b p (zen b n zisL p - p)) else 1), zss2 σ (zen b n zisL p) (nL (zcr 32 (zlr b p (zen b n zisL p - p))))) := by
  obtain ⟨a1, a2, a3, a4⟩ := zen_ok (b := b) (P := zisL) hp
  have hn := h.2.1
  unfold f_X5_scanLetters
  rw [wlet_eq, wlet_eq, zss2_4]
  refine (bind_eq (zrun (st := zSl9) (r := zss2 σ (zen b n zisL p) (nL (zcr 32 (zlr b p (zen b n zisL p - p))))) (fun t => zss2 σ (p + t) (nL (zcr 32 (zlr b p t)))) (zen b n zisL p - p) (by omega) rfl (fun t ht => ?_) ?_)).trans ?_
  · have n1 : ¬ nI n ≤ nI (p + t) := fun z => by have := (nI_leN (by omega) (by omega)).mp z; omega
    have hd := a3 (p + t) (by omega) (by omega)
    have hd' := of_decide_eq_true hd
    have hb := C_byte (zTpC_s (q := p + t) (v := nL (zcr 32 (zlr b p t))) h) (show p + t < n by omega)
    unfold zSl9
    rw [zss2_4, (zTpC_s h).1, if_neg n1, bind_eq hb, bind_eq (C_isL _ (h.2.2 (p + t) (by omega)).2), zb2_t hd, if_neg n10, bind_eq hb, wlet_eq, wlet_eq, zss2_5, zlet64 _ (by omega) (by omega), show (32 : Int64) = nL 32 from rfl, nL_mul, nL_add, show (sj (zss2 σ (p + t) (nL (zcr 32 (zlr b p t)))) 11 5 (nL (zcr 32 (zlr b p t) * 32 + (b (p + t) - 96)))).1 11 4 = nI (p + t) from zss2_4 σ (p + t) (nL (zcr 32 (zlr b p t))), ← nI_succ, zss2_up]
    rfl
  · rw [show p + (zen b n zisL p - p) = zen b n zisL p by omega]
    unfold zSl9
    rw [zss2_4, (zTpC_s h).1]
    rcases a4 with a4 | a4
    · rw [if_pos (by rw [a4]; exact Int32.le_refl _)]
    · by_cases q : zen b n zisL p = n
      · rw [if_pos (by rw [q]; exact Int32.le_refl _)]
      · have n1 : ¬ nI n ≤ nI (zen b n zisL p) := fun z => by have := (nI_leN (by omega) (by omega)).mp z; omega
        rw [if_neg n1, bind_eq (C_byte (zTpC_s h) (show zen b n zisL p < n by omega)), bind_eq (C_isL _ (h.2.2 _ (by omega)).2), zb2_f a4, if_pos rfl]
  · show (if (zss2 σ (zen b n zisL p) (nL (zcr 32 (zlr b p (zen b n zisL p - p))))).1 11 4 - nI p ≤ (8 : Int32) then _ else _) = _
    rw [zss2_4, nI_sub a1]
    by_cases q : zen b n zisL p - p ≤ 8
    · have w : nI (zen b n zisL p - p) ≤ (8 : Int32) := (nI_leN (b := 8) (by omega) (by omega)).mpr q
      rw [if_pos w, if_pos q, bind_eq (C_kindOfWord (zTpC_s h) (zss2_4 _ _ _) a1 a2 q a3)]
    · have w : ¬ nI (zen b n zisL p - p) ≤ (8 : Int32) := fun z => q ((nI_leN (b := 8) (by omega) (by omega)).mp z)
      rw [if_neg w, if_neg q]; rfl
theorem C_scanToken {σ : St} {b : Nat → Nat} {n p : Nat} (h : zTpC σ b n) (hp : p ≤ n) : f_X5_scanToken (zss2 σ p 0) = some (nI (ztk b n p), zss2 σ (zte b n p) (nL (ztw b n p))) := by
  have hn := h.2.1
  unfold f_X5_scanToken
  rw [zss2_4]
  unfold ztk zte ztw
  by_cases h0 : n ≤ p
  · rw [bind_eq (C_byte_end (zTpC_s h) h0 (by omega)), if_pos rfl, if_pos h0, if_pos h0, if_pos h0]; rfl
  · have hb := (h.2.2 p (by omega)).2
    rw [bind_eq (C_byte (zTpC_s h) (show p < n by omega)), if_neg (nI_ne_m1 (by omega)), bind_eq (C_isL _ hb), if_neg h0, if_neg h0, if_neg h0]
    by_cases h1 : zisL (b p) = true
    · rw [zb2_t h1, if_neg n10, if_pos h1, if_pos h1, if_pos h1, bnd2_eq (C_scanLetters h hp)]
    · have h1' : zisL (b p) = false := by simpa using h1
      rw [zb2_f h1', if_pos rfl, bind_eq (C_isD _ hb), if_neg h1, if_neg h1, if_neg h1]
      by_cases h2 : zisD (b p) = true
      · rw [zb2_t h2, if_neg n10, if_pos h2, if_pos h2, if_pos h2, bnd2_eq (C_scanDigits h hp)]
      · have h2' : zisD (b p) = false := by simpa using h2
        obtain ⟨v, v1, v2⟩ := zsix (b p) hb
        rw [zb2_f h2', if_pos rfl, wlet_eq, ← nI_succ, zss2_p, bind_eq v1, if_neg h2, if_neg h2, if_neg h2, ← v2]
        by_cases q : 0 ≤ v
        · rw [if_pos q, if_pos q]; rfl
        · rw [if_neg q, if_neg q]; rfl
def zTa1 : St × Int32 → Option ((St × Int32) ⊕ (St)) :=
  un2 (fun (σ7_2 : St) (x1_7_2 : Int32) => if (402 : Int32) ≤ x1_7_2 then (some (.inr σ7_2)) else (Option.bind (f_X5_passBlanks σ7_2) fun σ5 => if ib x1_7_2 402 = true then wlet (si σ5 13 (Int32.toNatClampNeg x1_7_2) (σ5.1 11 4)) fun σ7 => wlet (sj σ7 11 5 (0 : Int64)) fun σ8 => wlet (fun (σ_55_9 : St) (s1_55_9 : Int32) (s2_55_9 : Int32) => (if ib s1_55_9 402 = true then wlet (si σ_55_9 12 (Int32.toNatClampNeg s1_55_9) s2_55_9) fun σ11 => if ib x1_7_2 402 = true then wlet (sj σ11 14 (Int32.toNatClampNeg x1_7_2) (σ11.2 11 5)) fun σ13 => wlet (x1_7_2 + (1 : Int32)) fun v14 => some (.inl (σ13, v14)) else none else none : Option ((St × Int32) ⊕ (St)))) fun k55_9 => if (400 : Int32) < x1_7_2 then (k55_9 σ8 x1_7_2 (0 : Int32)) else (bnd2 (f_X5_scanToken σ8) fun v17 σ18 => k55_9 σ18 x1_7_2 v17) else none))
/-- the class's tokens -/
def zTkC (σ : St) (b : Nat → Nat) (n : Nat) : Prop := (∀ i, i ≤ 400 → σ.1 12 i = nI (ztk b n (zps b n i)) ∧ σ.1 13 i = nI (zps b n i) ∧ σ.2 14 i = nL (ztw b n (zps b n i))) ∧ σ.1 12 401 = 0
theorem C_scanTape {σ : St} {b : Nat → Nat} {n : Nat} (h : zTpC σ b n) : ∃ σ', f_X5_scanTape σ = some σ' ∧ (∀ c, (c < 11 ∨ 13 < c) → σ'.1 c = σ.1 c) ∧ (∀ c, c ≠ 11 → c ≠ 14 → σ'.2 c = σ.2 c) ∧ zTkC σ' b n := by
  have hn := h.2.1
  obtain ⟨r, q1, f1, f2, r1, r2⟩ := zinv (st := zTa1) (s0 := (si σ 11 4 0, 0)) (fun t x => (∀ c, (c < 11 ∨ 13 < c) → x.1.1 c = σ.1 c) ∧ (∀ c, c ≠ 11 → c ≠ 14 → x.1.2 c = σ.2 c) ∧ x.2 = nI t ∧ (∃ p, p ≤ n ∧ x.1.1 11 4 = nI p ∧ (t ≤ 400 → zen b n zisB p = zps b n t)) ∧ (∀ i, i < t → i ≤ 400 → x.1.1 12 i = nI (ztk b n (zps b n i)) ∧ x.1.1 13 i = nI (zps b n i) ∧ x.1.2 14 i = nL (ztw b n (zps b n i))) ∧ (401 < t → x.1.1 12 401 = 0)) (fun r => (∀ c, (c < 11 ∨ 13 < c) → r.1 c = σ.1 c) ∧ (∀ c, c ≠ 11 → c ≠ 14 → r.2 c = σ.2 c) ∧ (∀ i, i ≤ 400 → r.1 12 i = nI (ztk b n (zps b n i)) ∧ r.1 13 i = nI (zps b n i) ∧ r.2 14 i = nL (ztw b n (zps b n i))) ∧ r.1 12 401 = 0) 402 (by omega) ⟨fun c hc => si_ne (by omega), fun _ _ _ => rfl, rfl, ⟨0, Nat.zero_le _, by rw [si_get, if_pos ⟨rfl, rfl⟩]; rfl, fun _ => rfl⟩, fun i hi => absurd hi (Nat.not_lt_zero _), fun z => by omega⟩ (by
    rintro t ⟨x, y⟩ ht ⟨h1, h2, h3, ⟨p, p1, p2, p3⟩, h5, h6⟩
    have h3 : y = nI t := h3
    subst h3
    have h1 : ∀ c, (c < 11 ∨ 13 < c) → x.1 c = σ.1 c := h1
    have h2 : ∀ c, c ≠ 11 → c ≠ 14 → x.2 c = σ.2 c := h2
    have p2 : x.1 11 4 = nI p := p2
    have hx : zTpC x b n := by
      unfold zTpC at h ⊢
      rw [h1 2 (by omega), h1 3 (by omega)]; exact h
    have n1 : ¬ (402 : Int32) ≤ nI t := fun z => by have := (nI_leN (a := 402) (by omega) (by omega)).mp z; omega
    have bt : ib (nI t) 402 = true := ib_t (by omega) (by omega)
    have gt : (nI t).toNatClampNeg = t := nI_clamp (by omega)
    obtain ⟨a1, a2, a3, a4⟩ := zen_ok (b := b) (P := zisB) p1
    have hpb := C_passBlanks (v := x.2 11 5) hx p1
    rw [zss2_self p2 rfl] at hpb
    generalize hq : zen b n zisB p = q at *
    have hp4 : (zss2 x q (x.2 11 5)).1 11 4 = nI q := zss2_4 _ _ _
    -- the state with the start laid down
    have hx2 : zTpC (si (zss2 x q (x.2 11 5)) 13 t (nI q)) b n := by
      unfold zTpC at hx ⊢
      rw [si_ne (by omega), si_ne (by omega), (zss2_ne (by omega)).1, (zss2_ne (by omega)).1]; exact hx
    have e0 : sj (si (zss2 x q (x.2 11 5)) 13 t (nI q)) 11 5 0 = zss2 (si (zss2 x q (x.2 11 5)) 13 t (nI q)) q 0 := by
      have h1 : (si (zss2 x q (x.2 11 5)) 13 t (nI q)).1 11 4 = nI q := by rw [si_ne (by omega)]; exact hp4
      have := zss2_up (si (zss2 x q (x.2 11 5)) 13 t (nI q)) q q ((si (zss2 x q (x.2 11 5)) 13 t (nI q)).2 11 5) 0
      rw [zss2_self h1 rfl] at this
      rw [← this]
      refine Prod.ext ?_ rfl
      funext d j
      rw [si_get]
      by_cases e : d = 11 ∧ j = 4
      · rw [if_pos e, e.1, e.2, sj_get1]; exact h1
      · rw [if_neg e]
    by_cases ht4 : t ≤ 400
    · have hzp : q = zps b n t := p3 ht4
      have htok := C_scanToken hx2 a2
      have hle := zte_le (b := b) a2
      have n2 : ¬ (400 : Int32) < nI t := fun z => by have := (nI_ltN (a := 400) (by omega) (by omega)).mp z; omega
      refine Or.inl ⟨(sj (si (zss2 (si (zss2 x q (x.2 11 5)) 13 t (nI q)) (zte b n q) (nL (ztw b n q))) 12 t (nI (ztk b n q))) 14 t (nL (ztw b n q)), nI (t + 1)), ?_, fun c hc => ?_, fun c c1 c2 => ?_, rfl, ⟨zte b n q, hle.2.1, ?_, fun _ => by rw [hzp]; rfl⟩, fun i hi hi4 => ?_, fun z => by omega⟩
      · unfold zTa1
        dsimp only [un2]
        rw [if_neg n1, bind_eq hpb, if_ib bt, wlet_eq, hp4, gt, wlet_eq, wlet_eq, if_neg n2, e0, bnd2_eq htok]
        dsimp only
        rw [if_ib bt, wlet_eq, if_ib bt, wlet_eq, gt, wlet_eq, nI_succ, si_get2, zss2_5]
      · show (sj (si (zss2 (si (zss2 x q (x.2 11 5)) 13 t (nI q)) (zte b n q) (nL (ztw b n q))) 12 t (nI (ztk b n q))) 14 t (nL (ztw b n q))).1 c = _
        rw [sj_get1, si_ne (by omega), (zss2_ne (by omega)).1, si_ne (by omega), (zss2_ne (by omega)).1]; exact h1 c hc
      · show (sj (si (zss2 (si (zss2 x q (x.2 11 5)) 13 t (nI q)) (zte b n q) (nL (ztw b n q))) 12 t (nI (ztk b n q))) 14 t (nL (ztw b n q))).2 c = _
        rw [sj_ne c2, si_get2, (zss2_ne c1).2, si_get2, (zss2_ne c1).2]; exact h2 c c1 c2
      · show (sj (si (zss2 (si (zss2 x q (x.2 11 5)) 13 t (nI q)) (zte b n q) (nL (ztw b n q))) 12 t (nI (ztk b n q))) 14 t (nL (ztw b n q))).1 11 4 = _
        rw [sj_get1, si_ne (by omega), zss2_4]
      · show (sj (si (zss2 (si (zss2 x q (x.2 11 5)) 13 t (nI q)) (zte b n q) (nL (ztw b n q))) 12 t (nI (ztk b n q))) 14 t (nL (ztw b n q))).1 12 i = _ ∧ (sj (si (zss2 (si (zss2 x q (x.2 11 5)) 13 t (nI q)) (zte b n q) (nL (ztw b n q))) 12 t (nI (ztk b n q))) 14 t (nL (ztw b n q))).1 13 i = _ ∧ (sj (si (zss2 (si (zss2 x q (x.2 11 5)) 13 t (nI q)) (zte b n q) (nL (ztw b n q))) 12 t (nI (ztk b n q))) 14 t (nL (ztw b n q))).2 14 i = _
        refine ⟨?_, ?_, ?_⟩
        · rw [sj_get1, si_get]
          by_cases e : i = t
          · rw [if_pos ⟨rfl, e⟩, e, hzp]
          · rw [if_neg (fun z => e z.2), (zss2_ne (show 12 ≠ 11 by omega)).1, si_ne (show 12 ≠ 13 by omega), (zss2_ne (show 12 ≠ 11 by omega)).1]
            exact (h5 i (by omega) hi4).1
        · rw [sj_get1, si_ne (show 13 ≠ 12 by omega), (zss2_ne (show 13 ≠ 11 by omega)).1, si_get]
          by_cases e : i = t
          · rw [if_pos ⟨rfl, e⟩, e, hzp]
          · rw [if_neg (fun z => e z.2), (zss2_ne (show 13 ≠ 11 by omega)).1]
            exact (h5 i (by omega) hi4).2.1
        · rw [sj_get]
          by_cases e : i = t
          · rw [if_pos ⟨rfl, e⟩, e, hzp]
          · rw [if_neg (fun z => e z.2), si_get2, (zss2_ne (show 14 ≠ 11 by omega)).2, si_get2, (zss2_ne (show 14 ≠ 11 by omega)).2]
            exact (h5 i (by omega) hi4).2.2
    · have n2 : (400 : Int32) < nI t := (nI_ltN (a := 400) (by omega) (by omega)).mpr (by omega)
      have ht1 : t = 401 := by omega
      refine Or.inl ⟨(sj (si (zss2 (si (zss2 x q (x.2 11 5)) 13 t (nI q)) q 0) 12 t 0) 14 t 0, nI (t + 1)), ?_, fun c hc => ?_, fun c c1 c2 => ?_, rfl, ⟨q, a2, ?_, fun z => by omega⟩, fun i hi hi4 => ?_, fun z => ?_⟩
      · unfold zTa1
        dsimp only [un2]
        rw [if_neg n1, bind_eq hpb, if_ib bt, wlet_eq, hp4, gt, wlet_eq, wlet_eq, if_pos n2, e0]
        dsimp only
        rw [if_ib bt, wlet_eq, if_ib bt, wlet_eq, gt, wlet_eq, nI_succ, si_get2, zss2_5]
      · show (sj (si (zss2 (si (zss2 x q (x.2 11 5)) 13 t (nI q)) q 0) 12 t 0) 14 t 0).1 c = _
        rw [sj_get1, si_ne (by omega), (zss2_ne (by omega)).1, si_ne (by omega), (zss2_ne (by omega)).1]; exact h1 c hc
      · show (sj (si (zss2 (si (zss2 x q (x.2 11 5)) 13 t (nI q)) q 0) 12 t 0) 14 t 0).2 c = _
        rw [sj_ne c2, si_get2, (zss2_ne c1).2, si_get2, (zss2_ne c1).2]; exact h2 c c1 c2
      · show (sj (si (zss2 (si (zss2 x q (x.2 11 5)) 13 t (nI q)) q 0) 12 t 0) 14 t 0).1 11 4 = _
        rw [sj_get1, si_ne (by omega), zss2_4]
      · show (sj (si (zss2 (si (zss2 x q (x.2 11 5)) 13 t (nI q)) q 0) 12 t 0) 14 t 0).1 12 i = _ ∧ (sj (si (zss2 (si (zss2 x q (x.2 11 5)) 13 t (nI q)) q 0) 12 t 0) 14 t 0).1 13 i = _ ∧ (sj (si (zss2 (si (zss2 x q (x.2 11 5)) 13 t (nI q)) q 0) 12 t 0) 14 t 0).2 14 i = _
        refine ⟨?_, ?_, ?_⟩
        · rw [sj_get1, si_get, if_neg (by omega), (zss2_ne (show 12 ≠ 11 by omega)).1, si_ne (show 12 ≠ 13 by omega), (zss2_ne (show 12 ≠ 11 by omega)).1]
          exact (h5 i (by omega) hi4).1
        · rw [sj_get1, si_ne (show 13 ≠ 12 by omega), (zss2_ne (show 13 ≠ 11 by omega)).1, si_get, if_neg (by omega), (zss2_ne (show 13 ≠ 11 by omega)).1]
          exact (h5 i (by omega) hi4).2.1
        · rw [sj_get, if_neg (by omega), si_get2, (zss2_ne (show 14 ≠ 11 by omega)).2, si_get2, (zss2_ne (show 14 ≠ 11 by omega)).2]
          exact (h5 i (by omega) hi4).2.2
      · show (sj (si (zss2 (si (zss2 x q (x.2 11 5)) 13 t (nI q)) q 0) 12 t 0) 14 t 0).1 12 401 = _
        rw [sj_get1, si_get, if_pos ⟨rfl, ht1.symm⟩]) (by
    rintro ⟨x, y⟩ ⟨h1, h2, h3, h4, h5, h6⟩
    have h3 : y = nI 402 := h3
    subst h3
    refine ⟨x, ?_, h1, h2, fun i hi => h5 i (by omega) hi, h6 (by omega)⟩
    unfold zTa1
    dsimp only [un2]
    rw [if_pos (by decide)])
  refine ⟨r, ?_, f1, f2, r1, r2⟩
  unfold f_X5_scanTape
  rw [wlet_eq, wlet_eq]
  exact (bind_eq q1).trans rfl
