/-! STAGE B, 18: the class's State: the list changed -/
theorem zsc_get (σ : St) (c d i : Nat) (f : Nat → Int32) : (sc σ c f).1 d i = if d = c then f i else σ.1 d i := by
  by_cases h : d = c <;> simp [sc, h]
theorem C_isListed {σ : St} {o m : Nat} {V : Nat → Int32} (hm : m ≤ 7) (hR : RS σ o m V) (x : Int32) : f_X6_isListed σ o x = some (if pO V m x = -1 then 0 else 1) := by
  unfold f_X6_isListed
  rw [bind_eq (C_placeOf hm hR.1 hR.2.2.2.2.2.1 x)]
  by_cases h : pO V m x = -1
  · rw [if_pos h, if_pos h]
  · rw [if_neg h, if_neg h]
theorem zdkt {σ : St} {o m j : Nat} (h : σ.1 o 3 = nI m) (hm : m ≤ 7) (hj : j < m) : f_X6_docketAt σ o (nI j) = some (σ.1 (o + 1) j) := by
  have n1 : ¬ nI j < 0 := nI_pos (by omega)
  have n2 : ¬ nI m ≤ nI j := fun z => by have := (nI_leN (by omega) (by omega)).mp z; omega
  have n3 : ¬ (7 : Int32) ≤ nI j := fun z => by have := (nI_leN (a := 7) (by omega) (by omega)).mp z; omega
  unfold f_X6_docketAt
  rw [if_neg n1, h, if_neg n2, if_neg n3, if_ib (ib_t (by omega) (by omega)), nI_clamp (by omega)]
theorem zpO_at {n m : Nat} {V : Nat → Int32} (hW : WV n m V) {j : Nat} (hj : j < m) : pO V m (V j) = nI j :=
  pO_at hj (fun t ht e => by have := hW.2.2.2.2 t j (by omega) hj e; omega)
theorem zWV7 {n m : Nat} {V : Nat → Int32} (hW : WV n m V) : m ≤ 7 := by have := hW.1; have := hW.2.1; omega
theorem C_behind_in {σ : St} {o n m j : Nat} {V : Nat → Int32} (hR : RS σ o m V) (hW : WV n m V) (hj : j < m) : f_X6_behindOf σ o (V j) = some (if j + 1 < m then V (j + 1) else -1) := by
  have h7 := zWV7 hW
  unfold f_X6_behindOf
  rw [bind_eq (C_placeOf h7 hR.1 hR.2.2.2.2.2.1 _), zpO_at hW hj, if_neg (nI_ne_m1 (by omega)), ← nI_succ]
  by_cases h : j + 1 < m
  · rw [if_pos h, bind_eq (C_docketAt hR h7 h)]
  · rw [if_neg h, bind_eq (C_docketAt_out hR (Or.inr ((nI_leN (by omega) (by omega)).mpr (by omega))))]
theorem C_behind_out {σ : St} {o m : Nat} {V : Nat → Int32} (hR : RS σ o m V) (hm : m ≤ 7) {x : Int32} (h : pO V m x = -1) : f_X6_behindOf σ o x = some (-1) := by
  unfold f_X6_behindOf
  rw [bind_eq (C_placeOf hm hR.1 hR.2.2.2.2.2.1 _), h, if_pos rfl]
theorem zlist {σ : St} {o m : Nat} {V : Nat → Int32} (hR : RS σ o m V) {i : Nat} (hi : i < m) : σ.1 (o + 1) i = V i := hR.2.2.2.2.2.1 i hi
theorem C_swap {σ : St} {o n m a b : Nat} {V : Nat → Int32} (hR : RS σ o m V) (hW : WV n m V) (ha : a < m) (hb : b < m) : f_X6_swap σ o (V a) (V b) = some (sc σ (o + 1) (zsw (σ.1 (o + 1)) a b)) := by
  have h7 := zWV7 hW
  unfold f_X6_swap
  rw [bind_eq (C_placeOf h7 hR.1 hR.2.2.2.2.2.1 _), bind_eq (C_placeOf h7 hR.1 hR.2.2.2.2.2.1 _), zpO_at hW ha, zpO_at hW hb, if_neg (nI_ne_m1 (by omega)), if_neg (nI_ne_m1 (by omega)), if_ib (ib_t (show a < 7 by omega) (by omega)), wlet_eq, if_ib (ib_t (show b < 7 by omega) (by omega)), wlet_eq, nI_clamp (show a < 2 ^ 31 by omega), nI_clamp (show b < 2 ^ 31 by omega), zsi_as σ, zsi_sc, ← zlist hR ha, ← zlist hR hb]
  rfl
theorem C_move {σ : St} {o n m a b : Nat} {V : Nat → Int32} (hR : RS σ o m V) (hW : WV n m V) (ha : a < m) (hb : b < m) : f_X6_move σ o (V a) (nI b) = some (sc σ (o + 1) (zmv (σ.1 (o + 1)) a b)) := by
  have h7 := zWV7 hW
  have h3 : ∀ f, (sc σ (o + 1) f).1 o 3 = nI m := fun f => by rw [zsc_ne (by omega)]; exact hR.1
  have bb : ib (nI b) 7 = true := ib_t (by omega) (by omega)
  have gb : (nI b).toNatClampNeg = b := nI_clamp (by omega)
  have hne : ¬ V b = (-1 : Int32) := fun e => by
    obtain ⟨k, k1, k2⟩ := hW.2.2.2.1 b hb
    rw [k2] at e
    exact nI_ne_m1 (by have := hW.2.1; omega) e
  unfold f_X6_move
  rw [bind_eq (C_placeOf h7 hR.1 hR.2.2.2.2.2.1 _), zpO_at hW ha, if_neg (nI_ne_m1 (by omega)), bind_eq (C_docketAt hR h7 hb), if_neg hne]
  by_cases h : b ≤ a
  · rw [if_pos ((nI_leN (by omega) (by omega)).mpr h), wlet_eq, bind_eq (zrun (r := sc σ (o + 1) (zdn (σ.1 (o + 1)) b a)) (fun t => (sc σ (o + 1) (zdn (σ.1 (o + 1)) (a - t) a), nI (a - t), nI t)) (a - b) (by omega) ?_ ?_ ?_)]
    · rw [if_ib bb, wlet_eq, gb, zsi_sc, ← zlist hR ha, zdn_end h]
    · show (sc σ (o + 1) (zdn _ (a - 0) a), nI (a - 0), nI 0) = _
      rw [Nat.sub_zero, zdn_0, zsc_self]
      rfl
    · intro t ht
      have n1 : ¬ (7 : Int32) ≤ nI t := fun z => by have := (nI_leN (a := 7) (by omega) (by omega)).mp z; omega
      have n2 : ¬ nI (a - t) = nI b := fun z => by have := (nI_eqN (by omega) (by omega)).mp z; omega
      dsimp only [un3]
      rw [if_neg n1, if_neg n2, nI_dec (show 0 < a - t by omega), bind_eq (zdkt (h3 _) h7 (show a - t - 1 < m by omega)), if_ib (ib_t (show a - t < 7 by omega) (by omega)), wlet_eq, wlet_eq, wlet_eq, nI_clamp (show a - t < 2 ^ 31 by omega), zsc_eq, zsi_sc, zdn_s (by omega) (by omega), nI_succ]
      rfl
    · have n1 : ¬ (7 : Int32) ≤ nI (a - b) := fun z => by have := (nI_leN (a := 7) (by omega) (by omega)).mp z; omega
      dsimp only [un3]
      rw [if_neg n1, show a - (a - b) = b by omega, if_pos rfl]
  · have n0 : ¬ nI b ≤ nI a := fun z => by have := (nI_leN (by omega) (by omega)).mp z; omega
    rw [if_neg n0, wlet_eq, bind_eq (zrun (r := sc σ (o + 1) (zup (σ.1 (o + 1)) a b)) (fun t => (sc σ (o + 1) (zup (σ.1 (o + 1)) a (a + t)), nI (a + t), nI t)) (b - a) (by omega) ?_ ?_ ?_)]
    · rw [if_ib bb, wlet_eq, gb, zsi_sc, ← zlist hR ha, zup_end (by omega)]
    · show (sc σ (o + 1) (zup _ a (a + 0)), nI (a + 0), nI 0) = _
      rw [Nat.add_zero a, zup_0, zsc_self]
      rfl
    · intro t ht
      have n1 : ¬ (7 : Int32) ≤ nI t := fun z => by have := (nI_leN (a := 7) (by omega) (by omega)).mp z; omega
      have n2 : ¬ nI (a + t) = nI b := fun z => by have := (nI_eqN (by omega) (by omega)).mp z; omega
      dsimp only [un3]
      rw [if_neg n1, if_neg n2, ← nI_succ, bind_eq (zdkt (h3 _) h7 (show a + t + 1 < m by omega)), if_ib (ib_t (show a + t < 7 by omega) (by omega)), wlet_eq, wlet_eq, wlet_eq, nI_clamp (show a + t < 2 ^ 31 by omega), zsc_eq, zsi_sc, zup_s (by omega), ← nI_succ t]
      rfl
    · have n1 : ¬ (7 : Int32) ≤ nI (b - a) := fun z => by have := (nI_leN (a := 7) (by omega) (by omega)).mp z; omega
      dsimp only [un3]
      rw [if_neg n1, show a + (b - a) = b by omega, if_pos rfl]
theorem zRS_list {σ : St} {o m : Nat} {V V' L' : Nat → Int32} (hR : RS σ o m V) (h : ∀ i, i < m → L' i = V' i) (h' : ∀ i, 7 ≤ i → V' i = V i) : RS (sc σ (o + 1) L') o m V' := by
  obtain ⟨r1, r2, r3, r4, r5, r6, r7, r8⟩ := hR
  refine ⟨?_, ?_, ?_, ?_, ?_, fun i hi => ?_, fun c hc => ?_, fun c hc => ?_⟩
  · rw [zsc_ne (by omega)]; exact r1
  · rw [zsc_ne (by omega), h' 24 (by omega)]; exact r2
  · rw [zsc_ne (by omega), h' 9 (by omega)]; exact r3
  · rw [zsc_ne (by omega), h' 8 (by omega)]; exact r4
  · rw [zsc_ne (by omega), h' 25 (by omega)]; exact r5
  · rw [zsc_eq, h i hi]
  · rw [zsc_ne (by omega), h' _ (by omega)]; exact r7 c hc
  · rw [zsc_ne (by omega), h' _ (by omega)]; exact r8 c hc
theorem zmv_congr {f g : Nat → Int32} {a b m i : Nat} (h : ∀ j, j < m → f j = g j) (ha : a < m) (hb : b < m) (hi : i < m) : zmv f a b i = zmv g a b i := by
  unfold zmv
  by_cases e : i = b
  · rw [if_pos e, if_pos e, h a ha]
  · rw [if_neg e, if_neg e]
    by_cases e2 : a ≤ i ∧ i < b
    · rw [if_pos e2, if_pos e2, h _ (by omega)]
    · rw [if_neg e2, if_neg e2]
      by_cases e3 : b < i ∧ i ≤ a
      · rw [if_pos e3, if_pos e3, h _ (by omega)]
      · rw [if_neg e3, if_neg e3, h _ hi]
theorem zsw_congr {f g : Nat → Int32} {a b m i : Nat} (h : ∀ j, j < m → f j = g j) (ha : a < m) (hb : b < m) (hi : i < m) : zsw f a b i = zsw g a b i := by
  unfold zsw upd
  by_cases e : i = b
  · rw [if_pos e, if_pos e, h a ha]
  · rw [if_neg e, if_neg e]
    by_cases e2 : i = a
    · rw [if_pos e2, if_pos e2, h b hb]
    · rw [if_neg e2, if_neg e2, h i hi]
theorem zsw_out {V : Nat → Int32} {a b i : Nat} (ha : a < i) (hb : b < i) : zsw V a b i = V i := by
  unfold zsw
  rw [upd_ne (by omega), upd_ne (by omega)]
theorem zRS_sw {σ : St} {o m a b : Nat} {V : Nat → Int32} (hR : RS σ o m V) (ha : a < m) (hb : b < m) (hm : m ≤ 7) : RS (sc σ (o + 1) (zsw (σ.1 (o + 1)) a b)) o m (zsw V a b) :=
  zRS_list hR (fun _ hi => zsw_congr (fun _ hj => zlist hR hj) ha hb hi) (fun _ hi => zsw_out (by omega) (by omega))
theorem zRS_mv {σ : St} {o m a b : Nat} {V : Nat → Int32} (hR : RS σ o m V) (ha : a < m) (hb : b < m) (hm : m ≤ 7) : RS (sc σ (o + 1) (zmv (σ.1 (o + 1)) a b)) o m (zmv V a b) :=
  zRS_list hR (fun _ hi => zmv_congr (fun _ hj => zlist hR hj) ha hb hi) (fun _ hi => zmv_out (by omega) (by omega))
/-- a list made of places of another -/
theorem zWV_sub {n m m' : Nat} {V V' : Nat → Int32} (p : Nat → Nat) (hW : WV n m V) (hm : m' ≤ n) (h7 : V' 7 = nI m') (hp : ∀ i, i < m' → p i < m) (hj : ∀ i j, i < m' → j < m' → p i = p j → i = j) (h : ∀ i, i < m' → V' i = V (p i)) : WV n m' V' := by
  obtain ⟨w1, w2, w3, w4, w5⟩ := hW
  refine ⟨hm, w2, h7, fun i hi => ?_, fun i j hi hj' e => ?_⟩
  · rw [h i hi]; exact w4 _ (hp i hi)
  · rw [h i hi, h j hj'] at e
    exact hj i j hi hj' (w5 _ _ (hp i hi) (hp j hj') e)
def zmvP (a b i : Nat) : Nat := if i = b then a else if a ≤ i ∧ i < b then i + 1 else if b < i ∧ i ≤ a then i - 1 else i
theorem zmvP_eq (V : Nat → Int32) (a b i : Nat) : zmv V a b i = V (zmvP a b i) := by
  unfold zmv zmvP
  by_cases e : i = b
  · rw [if_pos e, if_pos e]
  · rw [if_neg e, if_neg e]
    by_cases e2 : a ≤ i ∧ i < b
    · rw [if_pos e2, if_pos e2]
    · rw [if_neg e2, if_neg e2]
      by_cases e3 : b < i ∧ i ≤ a
      · rw [if_pos e3, if_pos e3]
      · rw [if_neg e3, if_neg e3]
theorem zmvP_lt {a b i m : Nat} (ha : a < m) (hb : b < m) (hi : i < m) : zmvP a b i < m := by
  unfold zmvP; split <;> (try split) <;> (try split) <;> omega
theorem zmvP_inj {a b i j : Nat} (h : zmvP a b i = zmvP a b j) : i = j := by
  unfold zmvP at h
  split at h <;> split at h <;> (try split at h) <;> (try split at h) <;> (try split at h) <;> (try split at h) <;> omega
def zswP (a b i : Nat) : Nat := if i = b then a else if i = a then b else i
theorem zswP_eq (V : Nat → Int32) (a b i : Nat) : zsw V a b i = V (zswP a b i) := by
  unfold zsw zswP upd
  by_cases e : i = b
  · rw [if_pos e, if_pos e]
  · rw [if_neg e, if_neg e]
    by_cases e2 : i = a
    · rw [if_pos e2, if_pos e2]
    · rw [if_neg e2, if_neg e2]
theorem zswP_lt {a b i m : Nat} (ha : a < m) (hb : b < m) (hi : i < m) : zswP a b i < m := by
  unfold zswP; split <;> (try split) <;> omega
theorem zswP_inj {a b i j : Nat} (h : zswP a b i = zswP a b j) : i = j := by
  unfold zswP at h
  split at h <;> split at h <;> (try split at h) <;> (try split at h) <;> omega
theorem zWV_mv {n m a b : Nat} {V : Nat → Int32} (hW : WV n m V) (ha : a < m) (hb : b < m) : WV n m (zmv V a b) := by
  have h7 := zWV7 hW
  exact zWV_sub (zmvP a b) hW hW.1 (by rw [zmv_out (by omega) (by omega)]; exact hW.2.2.1) (fun _ hi => zmvP_lt ha hb hi) (fun _ _ _ _ e => zmvP_inj e) (fun _ _ => zmvP_eq _ _ _ _)
theorem zWV_sw {n m a b : Nat} {V : Nat → Int32} (hW : WV n m V) (ha : a < m) (hb : b < m) : WV n m (zsw V a b) := by
  have h7 := zWV7 hW
  exact zWV_sub (zswP a b) hW hW.1 (by rw [zsw_out (by omega) (by omega)]; exact hW.2.2.1) (fun _ hi => zswP_lt ha hb hi) (fun _ _ _ _ e => zswP_inj e) (fun _ _ => zswP_eq _ _ _ _)
theorem zst_list {V : Nat → Int32} {a m i : Nat} (hm : m ≤ 7) (ha : a < m) (hi : i < m - 1) : zst V a m i = V (zmvP a (m - 1) i) := by
  unfold zst
  rw [upd_ne (by omega), upd_ne (by omega), zmvP_eq, upd_ne]
  have := zmvP_lt (show a < m from ha) (show m - 1 < m by omega) (show i < m by omega)
  omega
theorem zst_out {V : Nat → Int32} {a m i : Nat} (hm : m ≤ 7) (ha : a < m) (hi : 7 < i) (h : i ≠ 24) : zst V a m i = V i := by
  unfold zst
  rw [upd_ne (by omega), upd_ne (by omega), zmv_out (by omega) (by omega), upd_ne h]
theorem zst_24 {V : Nat → Int32} {a m : Nat} (hm : m ≤ 7) (ha : a < m) : zst V a m 24 = V 24 &&& (((1 : Int32) <<< (V a &&& 31)) ^^^ (-1 : Int32)) := by
  unfold zst
  rw [upd_ne (by omega), upd_ne (by omega), zmv_out (by omega) (by omega), upd_eq']
theorem zst_7 {V : Nat → Int32} {a m : Nat} (hm : m ≤ 7) (ha : a < m) : zst V a m 7 = nI (m - 1) := by
  unfold zst
  rw [upd_ne (by omega), upd_eq']
theorem zWV_st {n m a : Nat} {V : Nat → Int32} (hW : WV n m V) (ha : a < m) : WV n (m - 1) (zst V a m) := by
  have h7 := zWV7 hW
  exact zWV_sub (zmvP a (m - 1)) hW (by have := hW.1; omega) (zst_7 h7 ha) (fun i hi => zmvP_lt (m := m) ha (by omega) (by omega)) (fun _ _ _ _ e => zmvP_inj e) (fun i hi => zst_list h7 ha hi)
theorem C_strike {σ : St} {o n m a : Nat} {V : Nat → Int32} (hR : RS σ o m V) (hW : WV n m V) (ha : a < m) :
    ∃ σ', fr o (o + 1) σ σ' ∧ f_X6_strike σ o (V a) = some σ' ∧ RS σ' o (m - 1) (zst V a m) := by
  have h7 := zWV7 hW
  obtain ⟨r1, r2, r3, r4, r5, r6, r7, r8⟩ := id hR
  refine ⟨si (si (sc σ (o + 1) (zmv (σ.1 (o + 1)) a (m - 1))) o 3 (nI (m - 1))) o 4 (V 24 &&& (((1 : Int32) <<< (V a &&& 31)) ^^^ (-1 : Int32))), ?_, ?_, ?_⟩
  · exact fr_trans (fr_trans (zfr_sc _ _ _ (by omega)) (fr_si _ _ _ _ (by omega))) (fr_si _ _ _ _ (by omega))
  · unfold f_X6_strike
    rw [bind_eq (C_isListed h7 hR _), zpO_at hW ha, if_neg (nI_ne_m1 (by omega)), if_neg (by decide), hR.1, nI_sub1 (by omega), bind_eq (C_move hR hW ha (by omega)), wlet_eq, wlet_eq, zsc_ne (show o ≠ o + 1 by omega), hR.1, nI_sub1 (by omega), si_get, if_neg (by omega), zsc_ne (show o ≠ o + 1 by omega), r2]
  · refine ⟨?_, ?_, ?_, ?_, ?_, fun i hi => ?_, fun c hc => ?_, fun c hc => ?_⟩
    · rw [si_get, if_neg (by omega), si_get, if_pos ⟨rfl, rfl⟩]
    · rw [si_get, if_pos ⟨rfl, rfl⟩, zst_24 h7 ha]
    · rw [si_get, if_neg (by omega), si_get, if_neg (by omega), zsc_ne (by omega), zst_out h7 ha (by omega) (by omega)]; exact r3
    · rw [si_get, if_neg (by omega), si_get, if_neg (by omega), zsc_ne (by omega), zst_out h7 ha (by omega) (by omega)]; exact r4
    · rw [si_get, if_neg (by omega), si_get, if_neg (by omega), zsc_ne (by omega), zst_out h7 ha (by omega) (by omega)]; exact r5
    · rw [si_get, if_neg (by omega), si_get, if_neg (by omega), zsc_eq, zst_list h7 ha hi, zmvP_eq]
      exact r6 _ (zmvP_lt (m := m) ha (by omega) (by omega))
    · rw [si_get, if_neg (by omega), si_get, if_neg (by omega), zsc_ne (by omega), zst_out h7 ha (by omega) (by omega)]; exact r7 c hc
    · rw [si_get, if_neg (by omega), si_get, if_neg (by omega), zsc_ne (by omega), zst_out h7 ha (by omega) (by omega)]; exact r8 c hc
/-- one put at the end -/
def zap (V : Nat → Int32) (m : Nat) (x : Int32) : Nat → Int32 := upd (upd V m x) 7 (nI (m + 1))
theorem C_append {σ : St} {o m : Nat} (r1 : σ.1 o 3 = nI m) (hm : m < 7) (x : Int32) : f_X6_append σ o x = some (si (si σ (o + 1) m x) o 3 (nI (m + 1))) := by
  unfold f_X6_append
  rw [r1, if_neg (nI_pos (by omega)), if_neg (fun z => by have := (nI_leN (a := 7) (by omega) (by omega)).mp z; omega), if_ib (ib_t (by omega) (by omega)), wlet_eq, wlet_eq, nI_clamp (by omega), si_get, if_neg (by omega), r1, nI_succ]
theorem zRS_ap {σ : St} {o m : Nat} {V : Nat → Int32} (hR : RS σ o m V) (hm : m < 7) (x : Int32) : RS (si (si σ (o + 1) m x) o 3 (nI (m + 1))) o (m + 1) (zap V m x) := by
  obtain ⟨r1, r2, r3, r4, r5, r6, r7, r8⟩ := hR
  unfold zap
  refine ⟨?_, ?_, ?_, ?_, ?_, fun i hi => ?_, fun c hc => ?_, fun c hc => ?_⟩
  · rw [si_get, if_pos ⟨rfl, rfl⟩]
  · rw [si_get, if_neg (by omega), si_get, if_neg (by omega), upd_ne (by omega), upd_ne (by omega)]; exact r2
  · rw [si_get, if_neg (by omega), si_get, if_neg (by omega), upd_ne (by omega), upd_ne (by omega)]; exact r3
  · rw [si_get, if_neg (by omega), si_get, if_neg (by omega), upd_ne (by omega), upd_ne (by omega)]; exact r4
  · rw [si_get, if_neg (by omega), si_get, if_neg (by omega), upd_ne (by omega), upd_ne (by omega)]; exact r5
  · rw [si_get, if_neg (by omega), si_get, upd_ne (by omega)]
    by_cases e : i = m
    · rw [if_pos ⟨rfl, e⟩, e, upd_eq']
    · rw [if_neg (by omega), upd_ne e]; exact r6 i (by omega)
  · rw [si_get, if_neg (by omega), si_get, if_neg (by omega), upd_ne (by omega), upd_ne (by omega)]; exact r7 c hc
  · rw [si_get, if_neg (by omega), si_get, if_neg (by omega), upd_ne (by omega), upd_ne (by omega)]; exact r8 c hc
theorem zRS_ext {σ : St} {o m : Nat} {V V' : Nat → Int32} (hR : RS σ o m V) (h : ∀ i, i < m → V' i = V i) (h' : ∀ i, 7 < i → V' i = V i) : RS σ o m V' := by
  obtain ⟨r1, r2, r3, r4, r5, r6, r7, r8⟩ := hR
  refine ⟨r1, ?_, ?_, ?_, ?_, fun i hi => ?_, fun c hc => ?_, fun c hc => ?_⟩
  · rw [h' _ (by omega)]; exact r2
  · rw [h' _ (by omega)]; exact r3
  · rw [h' _ (by omega)]; exact r4
  · rw [h' _ (by omega)]; exact r5
  · rw [h i hi]; exact r6 i hi
  · rw [h' _ (by omega)]; exact r7 c hc
  · rw [h' _ (by omega)]; exact r8 c hc
/-- a list has no more than there are cases -/
theorem zpig : ∀ (n m : Nat) (f : Nat → Nat), (∀ i, i < m → f i < n) → (∀ i j, i < m → j < m → f i = f j → i = j) → m ≤ n := by
  intro n
  induction n with
  | zero =>
    intro m f h _
    cases m with
    | zero => exact Nat.le_refl _
    | succ m => exact absurd (h 0 (by omega)) (Nat.not_lt_zero _)
  | succ n ih =>
    intro m f h hj
    by_cases e : ∃ i, i < m ∧ f i = n
    · obtain ⟨i, hi, e⟩ := e
      have := ih (m - 1) (fun k => if k < i then f k else f (k + 1)) (fun k hk => by
        by_cases q : k < i
        · rw [if_pos q]
          have h1 := h k (by omega)
          have h2 : f k ≠ n := fun z => by have := hj k i (by omega) hi (z.trans e.symm); omega
          omega
        · rw [if_neg q]
          have h1 := h (k + 1) (by omega)
          have h2 : f (k + 1) ≠ n := fun z => by have := hj (k + 1) i (by omega) hi (z.trans e.symm); omega
          omega) (fun k l hk hl z => by
        by_cases q : k < i <;> by_cases q2 : l < i
        · rw [if_pos q, if_pos q2] at z; exact hj k l (by omega) (by omega) z
        · rw [if_pos q, if_neg q2] at z; have := hj k (l + 1) (by omega) (by omega) z; omega
        · rw [if_neg q, if_pos q2] at z; have := hj (k + 1) l (by omega) (by omega) z; omega
        · rw [if_neg q, if_neg q2] at z; have := hj (k + 1) (l + 1) (by omega) (by omega) z; omega)
      omega
    · have := ih m f (fun i hi => by
        have h1 := h i hi
        have h2 : f i ≠ n := fun z => e ⟨i, hi, z⟩
        omega) hj
      omega
theorem zWV_ap {n m c : Nat} {V : Nat → Int32} (hW : WV n m V) (hc : c < n) (h : pO V m (nI c) = -1) : m < n ∧ WV n (m + 1) (zap V m (nI c)) := by
  have h7 := zWV7 hW
  obtain ⟨w1, w2, w3, w4, w5⟩ := id hW
  have hno : ∀ i, i < m → V i ≠ nI c := by
    rcases pO_cases V m (nI c) with ⟨i, i1, i2, i3, i4⟩ | ⟨i1, i2⟩
    · rw [i3] at h
      exact absurd h (nI_ne_m1 (by omega))
    · exact i1
  have hlt : m + 1 ≤ n := by
    refine zpig n (m + 1) (fun i => if i = m then c else cN V i) (fun i hi => ?_) (fun i j hi hj e => ?_)
    · by_cases q : i = m
      · rw [if_pos q]; exact hc
      · rw [if_neg q]; exact (cN_eq hW (by omega)).2
    · by_cases q : i = m <;> by_cases q2 : j = m
      · omega
      · rw [if_pos q, if_neg q2] at e
        exact absurd ((cN_eq hW (show j < m by omega)).1.trans (by rw [← e])) (hno j (by omega))
      · rw [if_neg q, if_pos q2] at e
        exact absurd ((cN_eq hW (show i < m by omega)).1.trans (by rw [e])) (hno i (by omega))
      · rw [if_neg q, if_neg q2] at e
        exact w5 i j (by omega) (by omega) (by rw [(cN_eq hW (show i < m by omega)).1, (cN_eq hW (show j < m by omega)).1, e])
  have hv : ∀ i, i < m → zap V m (nI c) i = V i := fun i hi => by unfold zap; rw [upd_ne (by omega), upd_ne (by omega)]
  have hv2 : zap V m (nI c) m = nI c := by unfold zap; rw [upd_ne (by omega), upd_eq']
  refine ⟨hlt, hlt, w2, by unfold zap; rw [upd_eq'], fun i hi => ?_, fun i j hi hj e => ?_⟩
  · by_cases q : i = m
    · rw [q, hv2]; exact ⟨c, hc, rfl⟩
    · rw [hv i (by omega)]; exact w4 i (by omega)
  · by_cases q : i = m <;> by_cases q2 : j = m
    · omega
    · rw [q, hv2, hv j (by omega)] at e
      exact absurd e.symm (hno j (by omega))
    · rw [q2, hv2, hv i (by omega)] at e
      exact absurd e (hno i (by omega))
    · rw [hv i (by omega), hv j (by omega)] at e
      exact w5 i j (by omega) (by omega) e
theorem C_copyFrom {σ : St} {o p : Nat} (h : o + 3 < p ∨ p + 3 < o) : ∃ σ', fr o (o + 3) σ σ' ∧ f_X6_copyFrom σ o p = some σ' ∧ ∀ m V, m ≤ 7 → RS σ p m V → RS σ' o m V := by
  refine ⟨_, ?_, rfl, fun m V hm hR => ?_⟩
  · rw [c0, c7]
    refine fr_trans ?_ (fr_si _ _ _ _ (by omega))
    refine fr_trans ?_ (fr_si _ _ _ _ (by omega))
    refine fr_trans ?_ (fr_si _ _ _ _ (by omega))
    refine fr_trans ?_ (fr_si _ _ _ _ (by omega))
    refine fr_trans ?_ (fr_si _ _ _ _ (by omega))
    refine ⟨fun c hc => ?_, rfl⟩
    funext i
    rw [sci_get, if_neg (by omega), sci_get, if_neg (by omega), sci_get, if_neg (by omega)]
  · obtain ⟨r1, r2, r3, r4, r5, r6, r7, r8⟩ := hR
    rw [c0, c7]
    have n1 : p ≠ o := by omega
    have n2 : p ≠ o + 1 := by omega
    have n3 : p ≠ o + 2 := by omega
    have n4 : p ≠ o + 3 := by omega
    have n5 : p + 2 ≠ o + 1 := by omega
    have n6 : p + 3 ≠ o + 1 := by omega
    have n7 : p + 3 ≠ o + 2 := by omega
    refine ⟨?_, ?_, ?_, ?_, ?_, fun i hi => ?_, fun c hc => ?_, fun c hc => ?_⟩
    · simp only [si_get, sci_get]; simp [n1, n2, n3, n4, r1]
    · simp only [si_get, sci_get]; simp [n1, n2, n3, n4, r2]
    · simp only [si_get, sci_get]; simp [n1, n2, n3, n4, r3]
    · simp only [si_get, sci_get]; simp [n1, n2, n3, n4, r4]
    · simp only [si_get, sci_get]; simp [n1, n2, n3, n4, r5]
    · simp only [si_get, sci_get]; simp [n5, n6, n7, r6 i hi, show i < 7 by omega]
    · simp only [si_get, sci_get]; simp [n5, n6, n7, r7 c hc, hc]
    · simp only [si_get, sci_get]; simp [n5, n6, n7, r8 c hc, hc]
theorem C_letPlead {σ : St} {o c : Nat} (hc : c < 7) : f_X6_letPlead σ o (nI c) = some (si σ o 4 (σ.1 o 4 ||| ((1 : Int32) <<< (nI c &&& 31)))) := by
  unfold f_X6_letPlead
  rw [if_neg (nI_pos (by omega)), if_neg (fun z => by have := (nI_leN (a := 7) (by omega) (by omega)).mp z; omega), wlet_eq]
theorem zRS_24 {σ : St} {o m : Nat} {V : Nat → Int32} (hR : RS σ o m V) (hm : m ≤ 7) (x : Int32) : RS (si σ o 4 x) o m (upd V 24 x) := by
  obtain ⟨r1, r2, r3, r4, r5, r6, r7, r8⟩ := hR
  refine ⟨?_, ?_, ?_, ?_, ?_, fun i hi => ?_, fun c hc => ?_, fun c hc => ?_⟩
  · rw [si_get, if_neg (by omega)]; exact r1
  · rw [si_get, if_pos ⟨rfl, rfl⟩, upd_eq']
  · rw [si_get, if_neg (by omega), upd_ne (by omega)]; exact r3
  · rw [si_get, if_neg (by omega), upd_ne (by omega)]; exact r4
  · rw [si_get, if_neg (by omega), upd_ne (by omega)]; exact r5
  · rw [si_get, if_neg (by omega), upd_ne (by omega)]; exact r6 i hi
  · rw [si_get, if_neg (by omega), upd_ne (by omega)]; exact r7 c hc
  · rw [si_get, if_neg (by omega), upd_ne (by omega)]; exact r8 c hc
theorem zWV_24 {n m : Nat} {V : Nat → Int32} (hW : WV n m V) (x : Int32) (i : Nat) (hi : 7 < i) : WV n m (upd V i x) := by
  have h7 := zWV7 hW
  exact zWV_sub id hW hW.1 (by rw [upd_ne (by omega)]; exact hW.2.2.1) (fun _ h => h) (fun _ _ _ _ e => e) (fun j hj => upd_ne (by omega))
