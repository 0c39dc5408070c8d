/-! STAGE B, 43: the reference's cut of the tape -/
/-- kinds as the reference has them -/
def zrk (k : Nat) : Nat := if k = 0 then 0 else if k = 1 then 3 else if k = 2 then 1 else if k = 3 then 2 else if k = 4 then 4 else if k = 5 then 5 else if k = 6 then 8 else if k = 7 then 9 else if k = 8 then 10 else if k = 9 then 15 else if k = 10 then 13 else if k = 11 then 6 else if k = 12 then 7 else k + 7
def zsr (x : Int32) : Int32 := if x = 60 then 13 else if x = 47 then 15 else if x = 42 then 10 else if x = 45 then 9 else if x = 43 then 8 else if x = 59 then 4 else if x = 61 then 5 else if x = 40 then 6 else if x = 41 then 7 else 3
theorem zsr_ok : ∀ c, c < 256 → zsr (nI c) = nI (zrk (zsgk c)) := by decide +kernel
def ztok (x : St) (i : Nat) (a b c : Int32) (d : Int64) : St := si (sj (si (si (si x 3 i a) 4 i b) 5 i c) 6 i d) 0 10 (nI (i + 1))
theorem M_token {x : St} {i : Nat} (h : x.1 0 10 = nI i) (hi : i ≤ 402) (a b c : Int32) (d : Int64) : f_X11_token x a b c d = some (ztok x i a b c d) := by
  have b1 : ib (nI i) 403 = true := ib_t (by omega) (by omega)
  have g1 : (nI i).toNatClampNeg = i := nI_clamp (by omega)
  have e2 : (si x 3 i a).1 0 10 = nI i := by rw [si_ne (by omega)]; exact h
  have e3 : (si (si x 3 i a) 4 i b).1 0 10 = nI i := by rw [si_ne (by omega)]; exact e2
  have e4 : (si (si (si x 3 i a) 4 i b) 5 i c).1 0 10 = nI i := by rw [si_ne (by omega)]; exact e3
  have e5 : (sj (si (si (si x 3 i a) 4 i b) 5 i c) 6 i d).1 0 10 = nI i := e4
  unfold f_X11_token
  rw [h, if_ib b1, g1, wlet_eq, e2, if_ib b1, g1, wlet_eq, e3, if_ib b1, g1, wlet_eq, e4, if_ib b1, g1, wlet_eq, wlet_eq, e5, ← nI_succ]
  rfl
theorem M_sign {x : St} {i : Nat} (h : x.1 0 10 = nI i) (hi : i ≤ 402) (p v w : Int32) : f_X11_sign x p v w = some ((1 : Int32), ztok x i (zsr v) p 0 0) := by
  have ht := fun a => M_token h hi a p 0 0
  unfold f_X11_sign zsr
  rw [wlet_eq]
  by_cases h1 : v = 60
  · subst h1
    rw [if_neg (by decide), if_neg (by decide), if_neg (by decide), if_neg (by decide)]
    dsimp only
    rw [wlet_eq, if_neg (by decide)]
    dsimp only
    rw [wlet_eq, if_neg (by decide)]
    dsimp only
    rw [wlet_eq, if_neg (by decide)]
    dsimp only
    rw [wlet_eq, if_neg (by decide)]
    dsimp only
    rw [wlet_eq, if_pos rfl, if_pos rfl]
    dsimp only
    rw [bind_eq (ht _)]
  rw [if_neg h1]
  have R : ∀ s, (wlet (fun (x4_55_2 : Int32) => (wlet (fun (x4_65_3 : Int32) => (wlet (fun (x4_75_4 : Int32) => (wlet (fun (x4_85_5 : Int32) => (wlet (fun (x4_95_6 : Int32) => (Option.bind (f_X11_token x x4_95_6 p (0 : Int32) (0 : Int64)) fun σ8 => some ((1 : Int32), σ8) : Option (Int32 × St))) fun k95_6 => if v = (60 : Int32) then (k95_6 (13 : Int32)) else (k95_6 x4_85_5) : Option (Int32 × St))) fun k85_5 => if v = (47 : Int32) then (k85_5 (15 : Int32)) else (k85_5 x4_75_4) : Option (Int32 × St))) fun k75_4 => if v = (42 : Int32) then (k75_4 (10 : Int32)) else (k75_4 x4_65_3) : Option (Int32 × St))) fun k65_3 => if v = (45 : Int32) then (k65_3 (9 : Int32)) else (k65_3 x4_55_2) : Option (Int32 × St))) fun k55_2 => if v = (43 : Int32) then (k55_2 (8 : Int32)) else (k55_2 s)) = some ((1 : Int32), ztok x i (if v = 47 then 15 else if v = 42 then 10 else if v = 45 then 9 else if v = 43 then 8 else s) p 0 0) := by
    intro s
    have L6 : ∀ s, wlet (fun (x4_95_6 : Int32) => (Option.bind (f_X11_token x x4_95_6 p (0 : Int32) (0 : Int64)) fun σ8 => some ((1 : Int32), σ8) : Option (Int32 × St))) (fun k95_6 => if v = (60 : Int32) then (k95_6 (13 : Int32)) else (k95_6 s)) = some ((1 : Int32), ztok x i s p 0 0) := by
      intro s
      rw [wlet_eq, if_neg h1]
      dsimp only
      rw [bind_eq (ht _)]
    rw [wlet_eq]
    by_cases h5 : v = 43
    · subst h5
      rw [if_pos rfl, if_neg (by decide), if_neg (by decide), if_neg (by decide), if_pos rfl]
      dsimp only
      rw [wlet_eq, if_neg (by decide)]
      dsimp only
      rw [wlet_eq, if_neg (by decide)]
      dsimp only
      rw [wlet_eq, if_neg (by decide)]
      exact L6 _
    rw [if_neg h5, if_neg h5]
    dsimp only
    rw [wlet_eq]
    by_cases h4 : v = 45
    · subst h4
      rw [if_pos rfl, if_neg (by decide), if_neg (by decide), if_pos rfl]
      dsimp only
      rw [wlet_eq, if_neg (by decide)]
      dsimp only
      rw [wlet_eq, if_neg (by decide)]
      exact L6 _
    rw [if_neg h4, if_neg h4]
    dsimp only
    rw [wlet_eq]
    by_cases h3 : v = 42
    · subst h3
      rw [if_pos rfl, if_neg (by decide), if_pos rfl]
      dsimp only
      rw [wlet_eq, if_neg (by decide)]
      exact L6 _
    rw [if_neg h3, if_neg h3]
    dsimp only
    rw [wlet_eq]
    by_cases h2 : v = 47
    · subst h2
      rw [if_pos rfl, if_pos rfl]
      exact L6 _
    rw [if_neg h2, if_neg h2]
    exact L6 _
  by_cases g1 : v = 59
  · subst g1
    rw [if_pos rfl]
    refine (R _).trans ?_
    rfl
  rw [if_neg g1]
  by_cases g2 : v = 61
  · subst g2
    rw [if_pos rfl]
    refine (R _).trans ?_
    rfl
  rw [if_neg g2]
  by_cases g3 : v = 40
  · subst g3
    rw [if_pos rfl]
    refine (R _).trans ?_
    rfl
  rw [if_neg g3]
  by_cases g4 : v = 41
  · subst g4
    rw [if_pos rfl]
    refine (R _).trans ?_
    rfl
  rw [if_neg g4]
  refine (R _).trans ?_
  rw [if_neg g1, if_neg g2, if_neg g3, if_neg g4]
-- the reference's text
def zTpM (x : St) (b : Nat → Nat) (n : Nat) : Prop := x.1 0 4 = nI n ∧ n ≤ 2000 ∧ ∀ i, i < n → (x.1 2 i) &&& (255 : Int32) = nI (b i) ∧ b i < 256
theorem M_byte {x : St} {b : Nat → Nat} {n p : Nat} (h : zTpM x b n) (hp : p ≤ n + 1) : f_X11_byteAt x (nI p) = some (nI (if p < n then b p else 0)) := by
  obtain ⟨h1, h2, h3⟩ := h
  unfold f_X11_byteAt
  rw [h1]
  by_cases q : p < n
  · have n1 : ¬ nI n ≤ nI p := fun z => by have := (nI_leN (by omega) (by omega)).mp z; omega
    rw [if_neg n1, if_ib (ib_t (by omega) (by omega)), nI_clamp (by omega), (h3 p q).1, if_pos q]
  · rw [if_pos ((nI_leN (by omega) (by omega)).mpr (by omega)), if_neg q]; rfl
def zCd (σ7_2 : St) (x1_7_2 : Int32) : Int32 × Int32 → Option ((Int32 × Int32) ⊕ (Int32 × Int32)) :=
  un2 (fun (x3_208_26 : Int32) (x4_208_26 : Int32) => Option.bind (f_X11_byteAt σ7_2 (x1_7_2 + x3_208_26)) fun v33 => Option.bind (f_X11_isDigit v33) fun v35 => if v35 = 0 then (some (.inr (x3_208_26, x4_208_26))) else (if (4 : Int32) ≤ x3_208_26 then (wlet (x3_208_26 + (1 : Int32)) fun v38 => some (.inl (v38, x4_208_26))) else (Option.bind (f_X11_byteAt σ7_2 (x1_7_2 + x3_208_26)) fun v40 => wlet ((((10 : Int32) * x4_208_26) + v40) - (48 : Int32)) fun v41 => wlet (x3_208_26 + (1 : Int32)) fun v42 => some (.inl (v42, v41)))))
def zCl (σ7_2 : St) (x1_7_2 : Int32) : Int32 × Int64 → Option ((Int32 × Int64) ⊕ (Int32 × Int64)) :=
  un2 (fun (x3_85_43 : Int32) (x4_85_43 : Int64) => Option.bind (f_X11_byteAt σ7_2 (x1_7_2 + x3_85_43)) fun v59 => Option.bind (f_X11_isLetter v59) fun v61 => if v61 = 0 then (some (.inr (x3_85_43, x4_85_43))) else (if (8 : Int32) ≤ x3_85_43 then (wlet (x3_85_43 + (1 : Int32)) fun v64 => some (.inl (v64, x4_85_43))) else (Option.bind (f_X11_byteAt σ7_2 (x1_7_2 + x3_85_43)) fun v66 => Option.bind (f_X11_appends x4_85_43 v66) fun v68 => wlet (x3_85_43 + (1 : Int32)) fun v69 => some (.inl (v69, v68)))))
def zCk (σ7_2 : St) (x4_e85_43 : Int64) : Int32 × Int32 → Option ((Int32 × Int32) ⊕ (Int32)) :=
  un2 (fun (x6_146_50 : Int32) (x7_146_50 : Int32) => if (19 : Int32) ≤ x7_146_50 then (some (.inr x6_146_50)) else (if ib x7_146_50 19 = true then if (lg_cmp (σ7_2.2 7 (Int32.toNatClampNeg x7_146_50)) x4_e85_43) = 0 then (wlet ((20 : Int32) + x7_146_50) fun v55 => wlet (x7_146_50 + (1 : Int32)) fun v56 => some (.inl (v55, v56))) else (wlet (x7_146_50 + (1 : Int32)) fun v54 => some (.inl (x6_146_50, v54))) else none))
def zCm : St × Int32 → Option ((St × Int32) ⊕ ((St) ⊕ (St))) :=
  un2 (fun (σ7_2 : St) (x1_7_2 : Int32) => if (400 : Int32) < (σ7_2.1 0 10) then (some (.inr (.inl σ7_2))) else (Option.bind (f_X11_byteAt σ7_2 x1_7_2) fun v5 => if x1_7_2 < (σ7_2.1 0 4) then (if v5 = (9 : Int32) then (wlet (x1_7_2 + (1 : Int32)) fun v8 => some (.inl (σ7_2, v8))) else (if v5 = (10 : Int32) then (wlet (x1_7_2 + (1 : Int32)) fun v10 => some (.inl (σ7_2, v10))) else (if v5 = (13 : Int32) then (wlet (x1_7_2 + (1 : Int32)) fun v12 => some (.inl (σ7_2, v12))) else (if v5 = (32 : Int32) then (wlet (x1_7_2 + (1 : Int32)) fun v70 => some (.inl (σ7_2, v70))) else (Option.bind (f_X11_isLetter v5) fun v15 => if v15 = 0 then (Option.bind (f_X11_isDigit v5) fun v18 => if v18 = 0 then (Option.bind (f_X11_byteAt σ7_2 (x1_7_2 + (1 : Int32))) fun v21 => bnd2 (f_X11_sign σ7_2 x1_7_2 v5 v21) fun v23 σ24 => wlet (x1_7_2 + v23) fun v25 => some (.inl (σ24, v25))) else (wlet (un2 (fun (x3_208_26 : Int32) (x4_208_26 : Int32) => Option.bind (f_X11_byteAt σ7_2 (x1_7_2 + x3_208_26)) fun v33 => Option.bind (f_X11_isDigit v33) fun v35 => if v35 = 0 then (some (.inr (x3_208_26, x4_208_26))) else (if (4 : Int32) ≤ x3_208_26 then (wlet (x3_208_26 + (1 : Int32)) fun v38 => some (.inl (v38, x4_208_26))) else (Option.bind (f_X11_byteAt σ7_2 (x1_7_2 + x3_208_26)) fun v40 => wlet ((((10 : Int32) * x4_208_26) + v40) - (48 : Int32)) fun v41 => wlet (x3_208_26 + (1 : Int32)) fun v42 => some (.inl (v42, v41))))) : Int32 × Int32 → Option ((Int32 × Int32) ⊕ (Int32 × Int32))) fun st208_26 => Option.bind (lp st208_26 fuel ((0 : Int32), (0 : Int32))) ((un2 (fun (x3_e208_26 : Int32) (x4_e208_26 : Int32) => wlet (fun (s1_261_27 : Int32) => (Option.bind (f_X11_token σ7_2 s1_261_27 x1_7_2 x4_e208_26 (0 : Int64)) fun σ29 => wlet (x1_7_2 + x3_e208_26) fun v30 => some (.inl (σ29, v30)) : Option ((St × Int32) ⊕ ((St) ⊕ (St))))) fun k261_27 => if x3_e208_26 ≤ (4 : Int32) then (k261_27 (2 : Int32)) else (k261_27 (3 : Int32))))))) else (wlet (un2 (fun (x3_85_43 : Int32) (x4_85_43 : Int64) => Option.bind (f_X11_byteAt σ7_2 (x1_7_2 + x3_85_43)) fun v59 => Option.bind (f_X11_isLetter v59) fun v61 => if v61 = 0 then (some (.inr (x3_85_43, x4_85_43))) else (if (8 : Int32) ≤ x3_85_43 then (wlet (x3_85_43 + (1 : Int32)) fun v64 => some (.inl (v64, x4_85_43))) else (Option.bind (f_X11_byteAt σ7_2 (x1_7_2 + x3_85_43)) fun v66 => Option.bind (f_X11_appends x4_85_43 v66) fun v68 => wlet (x3_85_43 + (1 : Int32)) fun v69 => some (.inl (v69, v68))))) : Int32 × Int64 → Option ((Int32 × Int64) ⊕ (Int32 × Int64))) fun st85_43 => Option.bind (lp st85_43 fuel ((0 : Int32), (0 : Int64))) ((un2 (fun (x3_e85_43 : Int32) (x4_e85_43 : Int64) => wlet (fun (s0_135_44 : Int32) => (wlet (fun (x6_179_45 : Int32) => (Option.bind (f_X11_token σ7_2 x6_179_45 x1_7_2 (0 : Int32) x4_e85_43) fun σ47 => wlet (x1_7_2 + x3_e85_43) fun v48 => some (.inl (σ47, v48)) : Option ((St × Int32) ⊕ ((St) ⊕ (St))))) fun k179_45 => if (8 : Int32) < x3_e85_43 then (k179_45 s0_135_44) else (wlet (un2 (fun (x6_146_50 : Int32) (x7_146_50 : Int32) => if (19 : Int32) ≤ x7_146_50 then (some (.inr x6_146_50)) else (if ib x7_146_50 19 = true then if (lg_cmp (σ7_2.2 7 (Int32.toNatClampNeg x7_146_50)) x4_e85_43) = 0 then (wlet ((20 : Int32) + x7_146_50) fun v55 => wlet (x7_146_50 + (1 : Int32)) fun v56 => some (.inl (v55, v56))) else (wlet (x7_146_50 + (1 : Int32)) fun v54 => some (.inl (x6_146_50, v54))) else none)) : Int32 × Int32 → Option ((Int32 × Int32) ⊕ (Int32))) fun st146_50 => Option.bind (lp st146_50 fuel (s0_135_44, (0 : Int32))) ((fun (x6_e146_50 : Int32) => k179_45 x6_e146_50))) : Option ((St × Int32) ⊕ ((St) ⊕ (St))))) fun k135_44 => if x3_e85_43 ≤ (8 : Int32) then (k135_44 (1 : Int32)) else (k135_44 (3 : Int32))))))))))) else (Option.bind (f_X11_token σ7_2 (0 : Int32) (σ7_2.1 0 4) (0 : Int32) (0 : Int64)) fun σ72 => some (.inr (.inr σ72)))))
theorem M_digits {x : St} {b : Nat → Nat} {n p : Nat} (h : zTpM x b n) (hp : p ≤ n) : ∃ v, lp (zCd x (nI p)) fuel ((0 : Int32), (0 : Int32)) = some (nI (zen b n zisD p - p), v) ∧ (zen b n zisD p - p ≤ 4 → v = nI (zdv b p (zen b n zisD p - p))) := by
  obtain ⟨a1, a2, a3, a4⟩ := zen_ok (b := b) (P := zisD) hp
  have hn := h.2.1
  refine ⟨nI (zdv b p (min (zen b n zisD p - p) 4)), zrun (fun t => (nI t, nI (zdv b p (min t 4)))) (zen b n zisD p - p) (by omega) rfl (fun t ht => ?_) ?_, fun q => by rw [Nat.min_eq_left q]⟩
  · have hb := M_byte h (show p + t ≤ n + 1 by omega)
    have hd := a3 (p + t) (by omega) (by omega)
    have hd' := of_decide_eq_true hd
    rw [if_pos (by omega)] at hb
    unfold zCd
    dsimp only [un2]
    rw [nI_add, bind_eq hb, bind_eq (M_isD _ (by omega)), zb2_t hd, if_neg n10]
    by_cases q : 4 ≤ t
    · have w : (4 : Int32) ≤ nI t := (nI_leN (a := 4) (by omega) (by omega)).mpr q
      rw [if_pos w, wlet_eq, ← nI_succ, show min (t + 1) 4 = min t 4 by omega]
    · have w : ¬ (4 : Int32) ≤ nI t := fun z => q ((nI_leN (a := 4) (by omega) (by omega)).mp z)
      have e1 : nI (10 * zdv b p t + b (p + t)) - (48 : Int32) = nI (10 * zdv b p t + b (p + t) - 48) := nI_sub (b := 48) (by omega)
      have e2 : zdv b p (t + 1) = 10 * zdv b p t + b (p + t) - 48 := by rw [zdv]; omega
      rw [if_neg w, bind_eq hb, wlet_eq, wlet_eq, ← nI_succ, show min (t + 1) 4 = t + 1 by omega, show min t 4 = t by omega, show (10 : Int32) = nI 10 from rfl, znI_mul, nI_add, e1, e2]
  · have hb := M_byte h (show p + (zen b n zisD p - p) ≤ n + 1 by omega)
    unfold zCd
    dsimp only [un2]
    rw [nI_add, bind_eq hb]
    have hlt : (if p + (zen b n zisD p - p) < n then b (p + (zen b n zisD p - p)) else 0) < 256 := by
      by_cases q : p + (zen b n zisD p - p) < n
      · rw [if_pos q]; exact (h.2.2 _ q).2
      · rw [if_neg q]; omega
    have hf : zisD (if p + (zen b n zisD p - p) < n then b (p + (zen b n zisD p - p)) else 0) = false := by
      by_cases q : p + (zen b n zisD p - p) < n
      · rw [if_pos q, show p + (zen b n zisD p - p) = zen b n zisD p by omega]
        rcases a4 with a4 | a4
        · omega
        · exact a4
      · rw [if_neg q]; rfl
    rw [bind_eq (M_isD _ hlt), zb2_f hf, if_pos rfl]
theorem M_appends (v : Nat) : ∀ c, c < 123 → 97 ≤ c → f_X11_appends (nL v) (nI c) = some (nL (v * 27 + (c - 96))) := by
  intro c h1 h2
  unfold f_X11_appends
  rw [if_neg (fun z => by have := (nI_eqN (b := 0) (by omega) (by omega)).mp z; omega), zlet64 c h1 h2, show (27 : Int64) = nL 27 from rfl, nL_mul, nL_add, Nat.mul_comm]
theorem M_letters {x : St} {b : Nat → Nat} {n p : Nat} (h : zTpM x b n) (hp : p ≤ n) : ∃ v, lp (zCl x (nI p)) fuel ((0 : Int32), (0 : Int64)) = some (nI (zen b n zisL p - p), v) ∧ (zen b n zisL p - p ≤ 8 → v = nL (zcr 27 (zlr b p (zen b n zisL p - p)))) := by
  obtain ⟨a1, a2, a3, a4⟩ := zen_ok (b := b) (P := zisL) hp
  have hn := h.2.1
  refine ⟨nL (zcr 27 (zlr b p (min (zen b n zisL p - p) 8))), zrun (fun t => (nI t, nL (zcr 27 (zlr b p (min t 8))))) (zen b n zisL p - p) (by omega) rfl (fun t ht => ?_) ?_, fun q => by rw [Nat.min_eq_left q]⟩
  · have hb := M_byte h (show p + t ≤ n + 1 by omega)
    have hd := a3 (p + t) (by omega) (by omega)
    have hd' := of_decide_eq_true hd
    rw [if_pos (by omega)] at hb
    unfold zCl
    dsimp only [un2]
    rw [nI_add, bind_eq hb, bind_eq (M_isL _ (by omega)), zb2_t hd, if_neg n10]
    by_cases q : 8 ≤ t
    · have w : (8 : Int32) ≤ nI t := (nI_leN (a := 8) (by omega) (by omega)).mpr q
      rw [if_pos w, wlet_eq, ← nI_succ, show min (t + 1) 8 = min t 8 by omega]
    · have w : ¬ (8 : Int32) ≤ nI t := fun z => q ((nI_leN (a := 8) (by omega) (by omega)).mp z)
      rw [if_neg w, bind_eq hb, show min (t + 1) 8 = t + 1 by omega, show min t 8 = t by omega, bind_eq (M_appends _ _ (by omega) (by omega)), wlet_eq, ← nI_succ]
      rfl
  · have hb := M_byte h (show p + (zen b n zisL p - p) ≤ n + 1 by omega)
    unfold zCl
    dsimp only [un2]
    rw [nI_add, bind_eq hb]
    have hlt : (if p + (zen b n zisL p - p) < n then b (p + (zen b n zisL p - p)) else 0) < 256 := by
      by_cases q : p + (zen b n zisL p - p) < n
      · rw [if_pos q]; exact (h.2.2 _ q).2
      · rw [if_neg q]; omega
    have hf : zisL (if p + (zen b n zisL p - p) < n then b (p + (zen b n zisL p - p)) else 0) = false := by
      by_cases q : p + (zen b n zisL p - p) < n
      · rw [if_pos q, show p + (zen b n zisL p - p) = zen b n zisL p by omega]
        rcases a4 with a4 | a4
        · omega
        · exact a4
      · rw [if_neg q]; rfl
    rw [bind_eq (M_isL _ hlt), zb2_f hf, if_pos rfl]
/-- the keyword a run is -/
def zkr (r : List Nat) : Nat → Nat
  | 0 => 1
  | t + 1 => if zwl t = r then 20 + t else zkr r t
theorem zkr_out {r : List Nat} : ∀ t, (∀ j, j < t → zwl j ≠ r) → zkr r t = 1 := by
  intro t
  induction t with
  | zero => intro _; rfl
  | succ t ih => intro h; rw [zkr, if_neg (h t (by omega))]; exact ih fun j hj => h j (by omega)
theorem zkr_in {r : List Nat} {j : Nat} (hj : j < 19) (h : zwl j = r) : ∀ t, t ≤ 19 → j < t → zkr r t = 20 + j := by
  intro t
  induction t with
  | zero => intro _ h; omega
  | succ t ih =>
    intro ht hjt
    rw [zkr]
    by_cases e : t = j
    · rw [e, if_pos h]
    · rw [if_neg (fun z => e (zwl_inj t (by omega) j hj (z.trans h.symm)))]
      exact ih (by omega) (by omega)
theorem zkr_ok (r : List Nat) : zkr r 19 = zrk (zkw r) := by
  rcases zkw_ok r with ⟨j, j1, j2, j3, j4⟩ | ⟨j1, j2⟩
  · rw [zkr_in j1 j2.symm 19 (Nat.le_refl _) j1, j3]
    unfold zrk
    rw [if_neg (by omega), if_neg (by omega), if_neg (by omega), if_neg (by omega), if_neg (by omega), if_neg (by omega), if_neg (by omega), if_neg (by omega), if_neg (by omega), if_neg (by omega), if_neg (by omega), if_neg (by omega), if_neg (by omega)]
    omega
  · rw [zkr_out 19 (fun j hj z => j1 j hj z.symm), j2]; rfl
theorem M_keyword {x : St} (hk : iK x) {r : List Nat} (hr : ∀ d, d ∈ r → 1 ≤ d ∧ d ≤ 26) (h8 : r.length ≤ 8) : lp (zCk x (nL (zcr 27 r))) fuel ((1 : Int32), (0 : Int32)) = some (nI (zrk (zkw r))) := by
  rw [← zkr_ok]
  refine zrun (fun t => (nI (zkr r t), nI t)) 19 (by omega) rfl (fun t ht => ?_) ?_
  · have n1 : ¬ (19 : Int32) ≤ nI t := fun z => by have := (nI_leN (a := 19) (by omega) (by omega)).mp z; omega
    obtain ⟨w1, w2⟩ := zwl_ok t ht
    unfold zCk
    dsimp only [un2]
    rw [if_neg n1, if_ib (ib_t (by omega) (by omega)), nI_clamp (by omega), hk t ht, zkeys t ht, zkr]
    by_cases e : zwl t = r
    · rw [if_pos ((zcmp0 _ _).mpr (by rw [e])), if_pos e, wlet_eq, wlet_eq, ← nI_succ, show (20 : Int32) + nI t = nI (20 + t) from nI_add' 20 t]
    · rw [if_neg (fun z => e ((znL_cr (by omega) (by omega) w2 hr w1 h8).mp ((zcmp0 _ _).mp z))), if_neg e, wlet_eq, ← nI_succ]
  · unfold zCk
    dsimp only [un2]
    rw [if_pos (by decide)]
def zlw (b : Nat → Nat) (n p : Nat) : List Nat := zlr b p (zen b n zisL p - p)
/-- one turn of the cut -/
theorem M_cut1 {x : St} {b : Nat → Nat} {n p i : Nat} (h : zTpM x b n) (hk : iK x) (hp : p < n) (hi : x.1 0 10 = nI i) (hi4 : i ≤ 400) (hB : zisB (b p) = false) : ∃ v w, zCm (x, nI p) = some (.inl (ztok x i (nI (zrk (ztk b n p))) (nI p) v w, nI (zte b n p))) ∧ (ztk b n p = 3 → v = nI (ztw b n p)) ∧ (ztk b n p = 2 → w = nL (zcr 27 (zlw b n p))) := by
  have hn := h.2.1
  have hb := M_byte h (show p ≤ n + 1 by omega)
  rw [if_pos hp] at hb
  have hb2 := (h.2.2 p hp).2
  have n1 : ¬ (400 : Int32) < nI i := fun z => by have := (nI_ltN (a := 400) (by omega) (by omega)).mp z; omega
  have hB' : ¬ (b p = 9 ∨ b p = 10 ∨ b p = 13 ∨ b p = 32) := of_decide_eq_false hB
  have q1 : ¬ nI (b p) = (9 : Int32) := fun z => by have := (nI_eqN (b := 9) (by omega) (by omega)).mp z; omega
  have q2 : ¬ nI (b p) = (10 : Int32) := fun z => by have := (nI_eqN (b := 10) (by omega) (by omega)).mp z; omega
  have q3 : ¬ nI (b p) = (13 : Int32) := fun z => by have := (nI_eqN (b := 13) (by omega) (by omega)).mp z; omega
  have q4 : ¬ nI (b p) = (32 : Int32) := fun z => by have := (nI_eqN (b := 32) (by omega) (by omega)).mp z; omega
  have plt : nI p < nI n := (nI_ltN (by omega) (by omega)).mpr hp
  have np : ¬ n ≤ p := by omega
  unfold zCm
  dsimp only [un2]
  rw [hi, if_neg n1, bind_eq hb, h.1, if_pos plt, if_neg q1, if_neg q2, if_neg q3, if_neg q4, bind_eq (M_isL _ hb2)]
  unfold ztk ztw zte
  rw [if_neg np, if_neg np, if_neg np]
  by_cases h1 : zisL (b p) = true
  · obtain ⟨a1, a2, a3, a4⟩ := zen_ok (b := b) (n := n) (P := zisL) (p := p) (by omega)
    obtain ⟨v, v1, v2⟩ := M_letters h (show p ≤ n by omega)
    rw [zb2_t h1, if_neg n10, wlet_eq, if_pos h1, if_pos h1, if_pos h1]
    by_cases q : zen b n zisL p - p ≤ 8
    · have w1 : nI (zen b n zisL p - p) ≤ (8 : Int32) := (nI_leN (b := 8) (by omega) (by omega)).mpr q
      have w2 : ¬ (8 : Int32) < nI (zen b n zisL p - p) := fun z => by have := (nI_ltN (a := 8) (by omega) (by omega)).mp z; omega
      have hkw := M_keyword hk (r := zlw b n p) (zlr_dig (fun i h1 h2 => a3 i h1 (by omega))) (by unfold zlw; rw [zlr_len]; exact q)
      refine ⟨0, v, ?_, fun z => ?_, fun _ => v2 q⟩
      · refine (bind_eq v1).trans ?_
        dsimp only [un2]
        rw [wlet_eq, if_pos w1]
        dsimp only
        rw [wlet_eq, if_neg w2, wlet_eq, v2 q]
        refine (bind_eq hkw).trans ?_
        dsimp only
        rw [bind_eq (M_token hi (by omega) _ _ _ _), wlet_eq, nI_add, show p + (zen b n zisL p - p) = zen b n zisL p by omega, if_pos q]
        rfl
      · rw [if_pos q] at z
        rcases zkw_ok (zlr b p (zen b n zisL p - p)) with ⟨j, j1, j2, j3, j4⟩ | ⟨j1, j2⟩ <;> omega
    · have w1 : ¬ nI (zen b n zisL p - p) ≤ (8 : Int32) := fun z => by have := (nI_leN (b := 8) (by omega) (by omega)).mp z; omega
      have w2 : (8 : Int32) < nI (zen b n zisL p - p) := (nI_ltN (a := 8) (by omega) (by omega)).mpr (by omega)
      refine ⟨0, v, ?_, fun z => ?_, fun z => ?_⟩
      · refine (bind_eq v1).trans ?_
        dsimp only [un2]
        rw [wlet_eq, if_neg w1]
        dsimp only
        rw [wlet_eq, if_pos w2]
        dsimp only
        rw [bind_eq (M_token hi (by omega) _ _ _ _), wlet_eq, nI_add, show p + (zen b n zisL p - p) = zen b n zisL p by omega, if_neg q]
        rfl
      · rw [if_neg q] at z; omega
      · rw [if_neg q] at z; omega
  · have h1' : zisL (b p) = false := by simpa using h1
    rw [zb2_f h1', if_pos rfl, bind_eq (M_isD _ hb2), if_neg h1, if_neg h1, if_neg h1]
    by_cases h2 : zisD (b p) = true
    · obtain ⟨a1, a2, a3, a4⟩ := zen_ok (b := b) (n := n) (P := zisD) (p := p) (by omega)
      obtain ⟨v, v1, v2⟩ := M_digits h (show p ≤ n by omega)
      rw [zb2_t h2, if_neg n10, wlet_eq, if_pos h2, if_pos h2, if_pos h2]
      by_cases q : zen b n zisD p - p ≤ 4
      · have w1 : nI (zen b n zisD p - p) ≤ (4 : Int32) := (nI_leN (b := 4) (by omega) (by omega)).mpr q
        refine ⟨v, 0, ?_, fun _ => v2 q, fun z => ?_⟩
        · refine (bind_eq v1).trans ?_
          dsimp only [un2]
          rw [wlet_eq, if_pos w1]
          dsimp only
          rw [bind_eq (M_token hi (by omega) _ _ _ _), wlet_eq, nI_add, show p + (zen b n zisD p - p) = zen b n zisD p by omega, if_pos q]
          rfl
        · rw [if_pos q] at z; omega
      · have w1 : ¬ nI (zen b n zisD p - p) ≤ (4 : Int32) := fun z => by have := (nI_leN (b := 4) (by omega) (by omega)).mp z; omega
        refine ⟨v, 0, ?_, fun z => ?_, fun z => ?_⟩
        · refine (bind_eq v1).trans ?_
          dsimp only [un2]
          rw [wlet_eq, if_neg w1]
          dsimp only
          rw [bind_eq (M_token hi (by omega) _ _ _ _), wlet_eq, nI_add, show p + (zen b n zisD p - p) = zen b n zisD p by omega, if_neg q]
          rfl
        · rw [if_neg q] at z; omega
        · rw [if_neg q] at z; omega
    · have h2' : zisD (b p) = false := by simpa using h2
      have hs : ∀ c, c < 256 → zsgk c ≠ 3 ∧ zsgk c ≠ 2 := by decide +kernel
      rw [zb2_f h2', if_pos rfl, ← nI_succ, bind_eq (M_byte h (show p + 1 ≤ n + 1 by omega)), bnd2_eq (M_sign hi (by omega) _ _ _), wlet_eq, if_neg h2, if_neg h2, if_neg h2, zsr_ok _ hb2, ← nI_succ]
      exact ⟨0, 0, rfl, fun z => absurd z (hs _ hb2).1, fun z => absurd z (hs _ hb2).2⟩
/-- a token as the reference has it -/
def zTkM1 (x : St) (b : Nat → Nat) (n j : Nat) : Prop := x.1 3 j = nI (zrk (ztk b n (zps b n j))) ∧ x.1 4 j = nI (zps b n j) ∧ (ztk b n (zps b n j) = 3 → x.1 5 j = nI (ztw b n (zps b n j))) ∧ (ztk b n (zps b n j) = 2 → x.2 6 j = nL (zcr 27 (zlw b n (zps b n j))))
def zTkM (x : St) (b : Nat → Nat) (n : Nat) : Prop := ∀ i, i ≤ 400 → (∀ j, j < i → ztk b n (zps b n j) ≠ 0) → zTkM1 x b n i
theorem ztok_1 (x : St) (i : Nat) (a c e : Int32) (d : Int64) (k j : Nat) : (ztok x i a c e d).1 k j = if k = 0 ∧ j = 10 then nI (i + 1) else if k = 3 ∧ j = i then a else if k = 4 ∧ j = i then c else if k = 5 ∧ j = i then e else x.1 k j := by
  unfold ztok
  rw [si_get, sj_get1, si_get, si_get, si_get]
  by_cases q0 : k = 0 ∧ j = 10
  · rw [if_pos q0, if_pos q0]
  rw [if_neg q0, if_neg q0]
  by_cases q3 : k = 3 ∧ j = i
  · rw [if_neg (by omega), if_neg (by omega), if_pos q3, if_pos q3]
  by_cases q4 : k = 4 ∧ j = i
  · rw [if_neg (by omega), if_pos q4, if_neg q3, if_pos q4]
  rw [if_neg q3, if_neg q3, if_neg q4, if_neg q4]
theorem ztok_2 (x : St) (i : Nat) (a c e : Int32) (d : Int64) (k j : Nat) : (ztok x i a c e d).2 k j = if k = 6 ∧ j = i then d else x.2 k j := by
  unfold ztok
  rw [si_get2, sj_get]; rfl
theorem ztk_0 {b : Nat → Nat} {n p : Nat} (h : p < n) : ztk b n p ≠ 0 := by
  unfold ztk
  rw [if_neg (by omega)]
  split
  · split
    · rcases zkw_ok (zlr b p (zen b n zisL p - p)) with ⟨j, j1, j2, j3, j4⟩ | ⟨j1, j2⟩ <;> omega
    · omega
  · split
    · split <;> omega
    · unfold zsgk
      repeat (first | omega | split)
theorem zps_end {b : Nat → Nat} {n p i : Nat} (h : zen b n zisB p = zps b n i) (hp : p < n) (hB : zisB (b p) = true) : zen b n zisB (p + 1) = zps b n i := by
  rw [← h]
  unfold zen
  rw [show n - p = (n - (p + 1)) + 1 by omega, zrne, if_pos hB]
theorem zps_here {b : Nat → Nat} {n p : Nat} (h : p < n → zisB (b p) = false) : zen b n zisB p = p := by
  unfold zen
  by_cases q : p < n
  · rw [show n - p = (n - (p + 1)) + 1 by omega, zrne, if_neg (by rw [h q]; decide)]
  · rw [show n - p = 0 by omega]; rfl
theorem M_cutB {x : St} {b : Nat → Nat} {n p i : Nat} (h : zTpM x b n) (hp : p < n) (hi : x.1 0 10 = nI i) (hi4 : i ≤ 400) (hB : zisB (b p) = true) : zCm (x, nI p) = some (.inl (x, nI (p + 1))) := by
  have hn := h.2.1
  have hb := M_byte h (show p ≤ n + 1 by omega)
  rw [if_pos hp] at hb
  have hb2 := (h.2.2 p hp).2
  have n1 : ¬ (400 : Int32) < nI i := fun z => by have := (nI_ltN (a := 400) (by omega) (by omega)).mp z; omega
  have hB' : b p = 9 ∨ b p = 10 ∨ b p = 13 ∨ b p = 32 := of_decide_eq_true hB
  have plt : nI p < nI n := (nI_ltN (by omega) (by omega)).mpr hp
  unfold zCm
  dsimp only [un2]
  rw [hi, if_neg n1, bind_eq hb, h.1, if_pos plt]
  rcases hB' with e | e | e | e
  · rw [e, if_pos (by decide), wlet_eq, ← nI_succ]
  · rw [e, if_neg (by decide), if_pos (by decide), wlet_eq, ← nI_succ]
  · rw [e, if_neg (by decide), if_neg (by decide), if_pos (by decide), wlet_eq, ← nI_succ]
  · rw [e, if_neg (by decide), if_neg (by decide), if_neg (by decide), if_pos (by decide), wlet_eq, ← nI_succ]
theorem M_cutE {x : St} {b : Nat → Nat} {n i : Nat} (h : zTpM x b n) (hi : x.1 0 10 = nI i) (hi4 : i ≤ 400) : zCm (x, nI n) = some (.inr (.inr (ztok x i 0 (nI n) 0 0))) := by
  have hn := h.2.1
  have n1 : ¬ (400 : Int32) < nI i := fun z => by have := (nI_ltN (a := 400) (by omega) (by omega)).mp z; omega
  unfold zCm
  dsimp only [un2]
  rw [hi, if_neg n1, bind_eq (M_byte h (show n ≤ n + 1 by omega)), h.1, if_neg (fun z : nI n < nI n => Int32.lt_irrefl z), bind_eq (M_token hi (by omega) _ _ _ _)]
/-- the cut -/
theorem M_cut {x : St} {b : Nat → Nat} {n : Nat} (h : zTpM x b n) (hk : iK x) : ∃ x', f_X11_cut x = some x' ∧ (∀ c, c ≠ 0 → c ≠ 3 → c ≠ 4 → c ≠ 5 → x'.1 c = x.1 c) ∧ (∀ j, j ≠ 10 → x'.1 0 j = x.1 0 j) ∧ (∀ c, c ≠ 6 → x'.2 c = x.2 c) ∧ zTkM x' b n := by
  have hn := h.2.1
  obtain ⟨r, q1, r', e1, f1, f2, f3, f4⟩ := zinv (st := zCm) (s0 := (si x 0 10 0, 0)) (fun t s => (∀ c, c ≠ 0 → c ≠ 3 → c ≠ 4 → c ≠ 5 → s.1.1 c = x.1 c) ∧ (∀ j, j ≠ 10 → s.1.1 0 j = x.1 0 j) ∧ (∀ c, c ≠ 6 → s.1.2 c = x.2 c) ∧ ∃ p i, t ≤ p ∧ p ≤ n ∧ i ≤ 401 ∧ s.2 = nI p ∧ s.1.1 0 10 = nI i ∧ zen b n zisB p = zps b n i ∧ ∀ j, j < i → zTkM1 s.1 b n j ∧ ztk b n (zps b n j) ≠ 0) (fun r => ∃ r', (r = .inl r' ∨ r = .inr r') ∧ (∀ c, c ≠ 0 → c ≠ 3 → c ≠ 4 → c ≠ 5 → r'.1 c = x.1 c) ∧ (∀ j, j ≠ 10 → r'.1 0 j = x.1 0 j) ∧ (∀ c, c ≠ 6 → r'.2 c = x.2 c) ∧ zTkM r' b n) (n + 1) (by omega) ⟨fun c c0 _ _ _ => si_ne c0, fun j hj => by rw [si_get, if_neg (fun z => hj z.2)], fun _ _ => rfl, 0, 0, Nat.le_refl _, Nat.zero_le _, by omega, rfl, by rw [si_get, if_pos ⟨rfl, rfl⟩]; rfl, rfl, fun j hj => absurd hj (Nat.not_lt_zero _)⟩ (by
    rintro t ⟨s, y⟩ ht ⟨h1, h2, h3, p, i, h4, h5, h6, h7, h8, h9, h10⟩
    have h7 : y = nI p := h7
    subst h7
    have h1 : ∀ c, c ≠ 0 → c ≠ 3 → c ≠ 4 → c ≠ 5 → s.1 c = x.1 c := h1
    have h2 : ∀ j, j ≠ 10 → s.1 0 j = x.1 0 j := h2
    have h3 : ∀ c, c ≠ 6 → s.2 c = x.2 c := h3
    have h8 : s.1 0 10 = nI i := h8
    have h10 : ∀ j, j < i → zTkM1 s b n j ∧ ztk b n (zps b n j) ≠ 0 := h10
    have hT : zTpM s b n := by
      unfold zTpM at h ⊢
      rw [h2 4 (by omega), h1 2 (by omega) (by omega) (by omega) (by omega)]; exact h
    have hk' : iK s := fun k q => by rw [h3 7 (by omega)]; exact hk k q
    by_cases q401 : i = 401
    · refine Or.inr ⟨.inl s, ?_, s, Or.inl rfl, h1, h2, h3, fun j hj _ => (h10 j (by omega)).1⟩
      unfold zCm
      dsimp only [un2]
      rw [h8, q401, if_pos (by decide)]
    have hi4 : i ≤ 400 := by omega
    have fr : ∀ a c e d, (∀ k, k ≠ 0 → k ≠ 3 → k ≠ 4 → k ≠ 5 → (ztok s i a c e d).1 k = x.1 k) ∧ (∀ j, j ≠ 10 → (ztok s i a c e d).1 0 j = x.1 0 j) ∧ (∀ k, k ≠ 6 → (ztok s i a c e d).2 k = x.2 k) ∧ (∀ j, j < i → zTkM1 (ztok s i a c e d) b n j ∧ ztk b n (zps b n j) ≠ 0) := by
      intro a c e d
      refine ⟨fun k k0 k3 k4 k5 => ?_, fun j hj => ?_, fun k hk => ?_, fun j hj => ⟨?_, (h10 j hj).2⟩⟩
      · funext j
        rw [ztok_1, if_neg (fun z => k0 z.1), if_neg (fun z => k3 z.1), if_neg (fun z => k4 z.1), if_neg (fun z => k5 z.1)]
        exact congrFun (h1 k k0 k3 k4 k5) j
      · rw [ztok_1, if_neg (fun z => hj z.2), if_neg (by omega), if_neg (by omega), if_neg (by omega)]
        exact h2 j hj
      · funext j
        rw [ztok_2, if_neg (fun z => hk z.1)]
        exact congrFun (h3 k hk) j
      · have := (h10 j hj).1
        unfold zTkM1 at this ⊢
        rw [ztok_1, if_neg (by omega), if_neg (by omega), if_neg (by omega), if_neg (by omega), ztok_1, if_neg (by omega), if_neg (by omega), if_neg (by omega), if_neg (by omega), ztok_1, if_neg (by omega), if_neg (by omega), if_neg (by omega), if_neg (by omega), ztok_2, if_neg (by omega)]
        exact this
    by_cases qp : p < n
    · by_cases hB : zisB (b p) = true
      · exact Or.inl ⟨_, M_cutB hT qp h8 hi4 hB, h1, h2, h3, p + 1, i, by omega, by omega, h6, rfl, h8, zps_end h9 qp hB, h10⟩
      · have hB' : zisB (b p) = false := by simpa using hB
        obtain ⟨v, w, w1, w2, w3⟩ := M_cut1 hT hk' qp h8 hi4 hB'
        obtain ⟨g1, g2, g3, g4⟩ := fr (nI (zrk (ztk b n p))) (nI p) v w
        have hpp : zps b n i = p := by rw [← h9]; exact zps_here (fun _ => hB')
        have hle := zte_le (b := b) (n := n) (p := p) (by omega)
        refine Or.inl ⟨_, w1, g1, g2, g3, zte b n p, i + 1, ?_, hle.2.1, by omega, rfl, ?_, ?_, fun j hj => ?_⟩
        · have := hle.2.2 qp; omega
        · show (ztok s i (nI (zrk (ztk b n p))) (nI p) v w).1 0 10 = _
          rw [ztok_1, if_pos ⟨rfl, rfl⟩]
        · rw [zps, hpp]
        · by_cases e : j < i
          · exact g4 j e
          · have e : j = i := by omega
            subst e
            rw [hpp]
            refine ⟨?_, ztk_0 qp⟩
            unfold zTkM1
            rw [hpp]
            refine ⟨?_, ?_, fun z => ?_, fun z => ?_⟩
            · show (ztok s j (nI (zrk (ztk b n p))) (nI p) v w).1 3 j = _
              rw [ztok_1, if_neg (by omega), if_pos ⟨rfl, rfl⟩]
            · show (ztok s j (nI (zrk (ztk b n p))) (nI p) v w).1 4 j = _
              rw [ztok_1, if_neg (by omega), if_neg (by omega), if_pos ⟨rfl, rfl⟩]
            · show (ztok s j (nI (zrk (ztk b n p))) (nI p) v w).1 5 j = _
              rw [ztok_1, if_neg (by omega), if_neg (by omega), if_neg (by omega), if_pos ⟨rfl, rfl⟩]; exact w2 z
            · show (ztok s j (nI (zrk (ztk b n p))) (nI p) v w).2 6 j = _
              rw [ztok_2, if_pos ⟨rfl, rfl⟩]; exact w3 z
    · have e : p = n := by omega
      subst e
      obtain ⟨g1, g2, g3, g4⟩ := fr 0 (nI p) 0 0
      have hpp : zps b p i = p := by rw [← h9]; exact zps_here (fun z => absurd z (Nat.lt_irrefl _))
      have hk0 : ztk b p p = 0 := by unfold ztk; rw [if_pos (Nat.le_refl _)]
      refine Or.inr ⟨_, M_cutE hT h8 hi4, _, Or.inr rfl, g1, g2, g3, fun j hj hj2 => ?_⟩
      by_cases e : j < i
      · exact (g4 j e).1
      · by_cases e2 : j = i
        · subst e2
          unfold zTkM1
          rw [hpp, hk0]
          refine ⟨?_, ?_, fun z => absurd z (by decide), fun z => absurd z (by decide)⟩
          · rw [ztok_1, if_neg (by omega), if_pos ⟨rfl, rfl⟩]; rfl
          · rw [ztok_1, if_neg (by omega), if_neg (by omega), if_pos ⟨rfl, rfl⟩]
        · exact absurd (by rw [hpp, hk0]) (hj2 i (by omega))) (by
    rintro ⟨s, y⟩ ⟨h1, h2, h3, p, i, h4, h5, h6⟩
    omega)
  refine ⟨r', ?_, f1, f2, f3, f4⟩
  unfold f_X11_cut
  rw [wlet_eq, wlet_eq]
  refine (bind_eq q1).trans ?_
  rcases e1 with e1 | e1 <;> rw [e1] <;> rfl
