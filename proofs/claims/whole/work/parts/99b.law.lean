/-! STAGE B, 51: a law, both side by side -/
/-- the clauses' steps in the class, from p on -/
def zlc : Nat → List (List (Nat × Nat) × List (Nat × Nat) × List (Nat × Nat)) → List (Nat × Nat)
  | _, [] => []
  | p, x :: r => zlx p x ++ zlc (p + (x.1.length + x.2.1.length + x.2.2.length + 2)) r
theorem zlc_snoc (x : List (Nat × Nat) × List (Nat × Nat) × List (Nat × Nat)) : ∀ (r : List (List (Nat × Nat) × List (Nat × Nat) × List (Nat × Nat))) (p : Nat), zlc p (r ++ [x]) = zlc p r ++ zlx (p + (zlc p r).length) x
  | [], p => by simp only [List.nil_append, zlc, List.append_nil, List.length_nil, Nat.add_zero]
  | y :: r, p => by
    rw [List.cons_append, zlc, zlc, zlc_snoc x r, List.append_assoc, List.length_append, zlx_len]
    congr 2
    congr 1
    omega
theorem rdCL {f : Nat → Int32} {e : List (Nat × Nat)} : ∀ (r : List (List (Nat × Nat) × List (Nat × Nat) × List (Nat × Nat))) (p : Nat), CA f p (zlc p r ++ (e ++ [(7, 0)])) → CLaw f p (p + (zlc p r).length + e.length + 1) r e
  | [], p, h => ⟨h, by rw [zlc]; simp⟩
  | x :: r, p, h => by
    rw [zlc, List.append_assoc] at h
    obtain ⟨h1, h2⟩ := CA_append.mp h
    rw [zlx_len] at h2
    have h3 := rdCL r _ h2
    refine ⟨p + x.1.length + x.2.1.length + x.2.2.length + 2, rfl, h1, ?_⟩
    rw [zlc, List.length_append, zlx_len]
    rw [show p + (x.1.length + x.2.1.length + x.2.2.length + 2) = p + x.1.length + x.2.1.length + x.2.2.length + 2 by omega] at h3 ⊢
    rw [show p + (x.1.length + x.2.1.length + x.2.2.length + 2 + (zlc (p + x.1.length + x.2.1.length + x.2.2.length + 2) r).length) + e.length + 1 = p + x.1.length + x.2.1.length + x.2.2.length + 2 + (zlc (p + x.1.length + x.2.1.length + x.2.2.length + 2) r).length + e.length + 1 by omega]
    exact h3
/-- the branches of the reference, from b on -/
def zMP (τ : St) (u w : Nat) : Nat → List (List (Nat × Nat) × List (Nat × Nat) × List (Nat × Nat)) → Prop
  | _, [] => True
  | b, x :: r => zFd τ u w b x ∧ zMP τ u w (b + 1) r
theorem zFd_mono {τ τ' : St} {u u' w w' b : Nat} {x : List (Nat × Nat) × List (Nat × Nat) × List (Nat × Nat)} (hu : u' ≤ u) (hw : w ≤ w') (hb : ∀ c, 16 ≤ c → c ≤ 20 → τ'.1 c b = τ.1 c b) (hc : ∀ c i, 21 ≤ c → c ≤ 22 → u ≤ i → i < w → τ'.1 c i = τ.1 c i) (h : zFd τ u w b x) : zFd τ' u' w' b x := by
  obtain ⟨m1, p, q, m, m0, hq, hmm, m2, m3, m4, m5, m6, m7, m8, m9⟩ := h
  refine ⟨by rw [hb 16 (by omega) (by omega)]; exact m1, p, q, m, by omega, hq, hmm, by omega, by rw [hb 17 (by omega) (by omega)]; exact m3, by rw [hb 18 (by omega) (by omega)]; exact m4, by rw [hb 19 (by omega) (by omega)]; exact m5, by rw [hb 20 (by omega) (by omega)]; exact m6, ?_, ?_, ?_⟩
  · exact CM_congr (fun i a c => ⟨hc 21 i (by omega) (by omega) (by omega) (by omega), hc 22 i (by omega) (by omega) (by omega) (by omega)⟩) m7
  · exact CM_congr (fun i a c => ⟨hc 21 i (by omega) (by omega) (by omega) (by omega), hc 22 i (by omega) (by omega) (by omega) (by omega)⟩) m8
  · exact CM_congr (fun i a c => ⟨hc 21 i (by omega) (by omega) (by omega) (by omega), hc 22 i (by omega) (by omega) (by omega) (by omega)⟩) m9
theorem zMP_mono {τ τ' : St} {u w w' lo hi : Nat} (hw : w ≤ w') (hb : ∀ c i, 16 ≤ c → c ≤ 20 → lo ≤ i → i < hi → τ'.1 c i = τ.1 c i) (hc : ∀ c i, 21 ≤ c → c ≤ 22 → u ≤ i → i < w → τ'.1 c i = τ.1 c i) : ∀ (r : List (List (Nat × Nat) × List (Nat × Nat) × List (Nat × Nat))) (b : Nat), lo ≤ b → b + r.length ≤ hi → zMP τ u w b r → zMP τ' u w' b r
  | [], _, _, _, _ => trivial
  | x :: r, b, h1, h2, h => by
    rw [List.length_cons] at h2
    exact ⟨zFd_mono (Nat.le_refl _) hw (fun c c1 c2 => hb c b c1 c2 h1 (by omega)) hc h.1, zMP_mono hw hb hc r (b + 1) (by omega) (by omega) h.2⟩
theorem zMP_snoc {τ : St} {u w : Nat} {x : List (Nat × Nat) × List (Nat × Nat) × List (Nat × Nat)} : ∀ (r : List (List (Nat × Nat) × List (Nat × Nat) × List (Nat × Nat))) (b : Nat), zMP τ u w b r → zFd τ u w (b + r.length) x → zMP τ u w b (r ++ [x])
  | [], _, _, h => ⟨h, trivial⟩
  | y :: r, b, h1, h2 => by
    rw [List.length_cons, show b + (r.length + 1) = b + 1 + r.length by omega] at h2
    exact ⟨h1.1, zMP_snoc r (b + 1) h1.2 h2⟩
theorem rdML {τ : St} {u w : Nat} {e : List (Nat × Nat)} : ∀ (r : List (List (Nat × Nat) × List (Nat × Nat) × List (Nat × Nat))) (b : Nat), zMP τ u w b r → (τ.1 16 (b + r.length) = 0 ∧ ∃ p, u ≤ p ∧ p + e.length ≤ w ∧ τ.1 19 (b + r.length) = nI p ∧ τ.1 20 (b + r.length) = nI (p + e.length) ∧ CM (τ.1 21) (τ.1 22) p e) → MLaw τ u w b (b + r.length + 1) r e
  | [], b, _, h2 => ⟨rfl, h2⟩
  | y :: r, b, h1, h2 => by
    rw [List.length_cons, show b + (r.length + 1) = b + 1 + r.length by omega] at h2 ⊢
    exact ⟨h1.1.1, h1.1.2, rdML r (b + 1) h1.2 h2⟩
theorem rdMm {τ : St} {u u' w w' : Nat} (hu : u' ≤ u) (hw : w ≤ w') : ∀ {r : List (List (Nat × Nat) × List (Nat × Nat) × List (Nat × Nat))} {e : List (Nat × Nat)} {b B : Nat}, MLaw τ u w b B r e → MLaw τ u' w' b B r e := by
  intro r
  induction r with
  | nil =>
    intro e b B h
    obtain ⟨m1, m2, p, m3, m4, m5⟩ := h
    exact ⟨m1, m2, p, by omega, by omega, m5⟩
  | cons x r ih =>
    intro e b B h
    obtain ⟨m1, ⟨p, q, m, m0, hq, hmm, m2, m3⟩, m4⟩ := h
    exact ⟨m1, ⟨p, q, m, by omega, hq, hmm, by omega, m3⟩, ih m4⟩
/-- clauses whose expressions can be taken -/
def rdO (r : List (List (Nat × Nat) × List (Nat × Nat) × List (Nat × Nat))) : Prop := ∀ x, x ∈ r → okR x.1 0 ∧ okR x.2.1 0 ∧ okR x.2.2 0
theorem rdO_L {e : List (Nat × Nat)} (he : okR e 0) : ∀ (r : List (List (Nat × Nat) × List (Nat × Nat) × List (Nat × Nat))), rdO r → okL r e
  | [], _ => he
  | x :: r, h => ⟨(h x List.mem_cons_self).1, (h x List.mem_cons_self).2.1, (h x List.mem_cons_self).2.2, rdO_L he r (fun y hy => h y (List.mem_cons_of_mem _ hy))⟩
theorem okR_pos {c : List (Nat × Nat)} (h : okR c 0) : 0 < c.length := by
  cases c with
  | nil => exact absurd h (by unfold okR; omega)
  | cons x c => rw [List.length_cons]; omega
/-- alive behind k clauses -/
def rdA (K P : Nat → Nat) (σ0 : St) (L t0 c0 b0 k : Nat) (σ τ : St) (t : Nat) (r : List (List (Nat × Nat) × List (Nat × Nat) × List (Nat × Nat))) (cd : Nat) : Prop := r.length = k ∧ rdO r ∧ t0 + 5 * k ≤ t ∧ zSt P σ0 σ L (.inr (t, zlc L r)) ∧ zAm K τ t ∧ τ.1 0 12 = 0 ∧ τ.1 0 35 = nI cd ∧ c0 ≤ cd ∧ cd ≤ c0 + (t - t0) ∧ zMP τ c0 cd b0 r ∧ (zlc L r).length ≤ t - t0
def rdI (K P : Nat → Nat) (σ0 τ0 : St) (w L t0 c0 b0 : Nat) (n : Nat) (s u : St × Int32) : Prop := ∃ k σ τ, s = (σ, nI k) ∧ u = (τ, nI k) ∧ k ≤ 4 ∧ n = 4 - k ∧ zfE σ0 σ ∧ zfL w b0 c0 τ0 τ ∧ τ.1 0 29 = nI (b0 + k) ∧ ((∃ t r cd, rdA K P σ0 L t0 c0 b0 k σ τ t r cd) ∨ ∃ v p, zDd0 σ P v p ∧ zDm P τ v p)
def rdQ (K P : Nat → Nat) (σ0 τ0 : St) (w L t0 c0 b0 : Nat) (σ : St) (u : St ⊕ St) : Prop := ∃ k τ, k ≤ 4 ∧ zfE σ0 σ ∧ zfL w b0 c0 τ0 τ ∧ τ.1 0 29 = nI (b0 + k) ∧ ((u = .inl τ ∧ ((∃ t r cd, K t ≠ 20 ∧ rdA K P σ0 L t0 c0 b0 k σ τ t r cd) ∨ ∃ v p, zDd0 σ P v p ∧ zDm P τ v p)) ∨ (u = .inr τ ∧ ∃ t, zAl0 σ t ∧ K t = 20 ∧ zDm P τ 2 t))
theorem rdStep {σ0 τ0 : St} {K P V N : Nat → Nat} {w L t0 c0 b0 : Nat} (hV : ∀ j, K j = 3 → V j ≤ 9999) (hT : zTk σ0 K P V) (hM : zTm τ0 K P V N) (hL : L + (400 - t0) < 420) (hB : c0 + (401 - t0) ≤ 420 * w + 420) (hb : b0 + 4 < 130 * w + 130) (hw : w ≤ 1) (n : Nat) (s u : St × Int32) (hI : rdI K P σ0 τ0 w L t0 c0 b0 n s u) : (∃ s' u' m, rdC s = some (.inl s') ∧ rdM u = some (.inl u') ∧ m < n ∧ rdI K P σ0 τ0 w L t0 c0 b0 m s' u') ∨ ∃ r r', rdC s = some (.inr r) ∧ rdM u = some (.inr r') ∧ rdQ K P σ0 τ0 w L t0 c0 b0 r r' := by
  obtain ⟨k, σ, τ, rfl, rfl, hk, rfl, F, fl, h29, hq⟩ := hI
  have T1 := zTk_E F hT
  have M1 := zTm_L fl hM
  rcases hq with ⟨t, r, cd, hr, hO, ht, S, A, h12, h35, hc0, hcd, hP, hz⟩ | ⟨v, p, d1, d2⟩
  · have t4 := A.1
    obtain ⟨-, A0, L0⟩ := zSt_al S
    have i1 := C_isNext T1 A0 (k := 20) (by omega)
    have i2 := M_is M1 A (k := 20) (by omega)
    by_cases q : K t = 20
    · by_cases q4 : k < 4
      · left
        obtain ⟨σ', τ', a1, a2, a3, a4, a5, a6⟩ := J_clause hV T1 M1 S A q q4 h12 h35 h29 (by omega) (by omega) (by omega) hw
        refine ⟨(σ', nI (k + 1)), (τ', nI (k + 1)), 4 - (k + 1), by rw [a1, nI_succ], by rw [a2, nI_succ], by omega, k + 1, σ', τ', rfl, rfl, by omega, rfl, zfE_trans F a3, zfL_trans fl (zfL_mono a4 (by omega) hc0), by rw [a5]; rfl, ?_⟩
        rcases a6 with ⟨t', x, y1, y2, y3, y4, y5, y6, y7, y8, y9, y10⟩ | d
        · have e1 := okR_pos y2
          have e2 := okR_pos y3
          have e3 := okR_pos y4
          refine Or.inl ⟨t', r ++ [x], _, by rw [List.length_append, hr]; rfl, ?_, by omega, by rw [zlc_snoc]; exact y5, y6, y7, y8, by omega, by omega, ?_, ?_⟩
          · intro z hz
            rcases List.mem_append.mp hz with hz | hz
            · exact hO z hz
            · rw [List.mem_singleton] at hz
              rw [hz]
              exact ⟨y2, y3, y4⟩
          · refine zMP_snoc r b0 (zMP_mono (lo := b0) (hi := b0 + k) (by omega) (fun c i h1 h2 h3 h4 => a4.2.2.2.1 c i h1 h2 (by omega)) (fun c i h1 h2 h3 h4 => a4.2.2.2.2 c i h1 h2 (by omega)) r b0 (Nat.le_refl _) (by omega) hP) ?_
            rw [hr]
            exact zFd_mono hc0 (Nat.le_refl _) (fun _ _ _ => rfl) (fun _ _ _ _ _ _ => rfl) y10
          · rw [zlc_snoc, List.length_append, zlx_len]; omega
        · exact Or.inr d
      · right
        have k4 : k = 4 := by omega
        subst k4
        rw [if_pos q] at i2
        obtain ⟨τ', b1, b2, b3, b4⟩ := M_fail M1 A (v := 2) (Or.inr rfl)
        refine ⟨σ, .inr τ', ?_, ?_, 4, τ', Nat.le_refl _, F, zfL_trans fl (zfL_T b2), by rw [b2.2.1 29 (by omega) (by omega) (by omega)]; exact h29, Or.inr ⟨rfl, t, A0, q, b4⟩⟩
        · unfold rdC un2
          dsimp only
          rw [if_pos (by decide)]
        · unfold rdM un2
          dsimp only
          rw [if_pos A.2.2.1, show (27 : Int32) = nI (zrk 20) from rfl, bind_eq i2, if_neg n10, wlet_eq, if_pos (by decide), show (2 : Int32) = nI 2 from rfl, bind_eq b1]
          dsimp only
          rw [if_neg (zDm_pos b4)]
    · right
      rw [if_neg q] at i1 i2
      refine ⟨σ, .inl τ, ?_, ?_, k, τ, hk, F, fl, h29, Or.inl ⟨rfl, Or.inl ⟨t, r, cd, q, hr, hO, ht, S, A, h12, h35, hc0, hcd, hP, hz⟩⟩⟩
      · unfold rdC un2
        dsimp only
        by_cases q4 : (4 : Int32) ≤ nI k
        · rw [if_pos q4]
        · rw [if_neg q4, show (20 : Int32) = nI 20 from rfl, bind_eq i1, if_pos rfl]
      · unfold rdM un2
        dsimp only
        rw [if_pos A.2.2.1, show (27 : Int32) = nI (zrk 20) from rfl, bind_eq i2, if_pos rfl]
  · right
    refine ⟨σ, .inl τ, ?_, ?_, k, τ, hk, F, fl, h29, Or.inl ⟨rfl, Or.inr ⟨v, p, d1, d2⟩⟩⟩
    · unfold rdC un2
      dsimp only
      by_cases q4 : (4 : Int32) ≤ nI k
      · rw [if_pos q4]
      · rw [if_neg q4, show (20 : Int32) = nI 20 from rfl, bind_eq (C_isNext_d T1 d1 (k := 20) (by omega) (by omega)), if_pos rfl]
    · unfold rdM un2
      dsimp only
      rw [if_neg (zDm_ne d2)]
