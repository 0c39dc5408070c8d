/-! THE WORLD: cells by numbers. A shape says of each cell what it is; a store says what it holds; 'ad' says where it lies. -/
abbrev St : Type := (Nat → Nat → Int32) × (Nat → Nat → Int64)
/-- int cell c, place i -/
def si (σ : St) (c i : Nat) (v : Int32) : St := (fun d => if d = c then upd (σ.1 c) i v else σ.1 d, σ.2)
def sj (σ : St) (c i : Nat) (v : Int64) : St := (σ.1, fun d => if d = c then vp_updL (σ.2 c) i v else σ.2 d)
def sci (σ : St) (a b sp dp n : Nat) : St := (fun d => if d = b then va_cpy (σ.1 a) (σ.1 b) sp dp n else σ.1 d, σ.2)
def scj (σ : St) (a b sp dp n : Nat) : St := (σ.1, fun d => if d = b then va_cpy (σ.2 a) (σ.2 b) sp dp n else σ.2 d)
def ib (i : Int32) (n : Nat) : Bool := decide (¬ (i < 0 ∨ n ≤ i.toNatClampNeg))
theorem ib_in {i : Int32} {n : Nat} (h : ib i n = true) : vp_in i n := of_decide_eq_true (p := ¬ (i < 0 ∨ n ≤ i.toNatClampNeg)) h
/-- shapes: (0, class, fields), (1, n, _) ints, (2, n, _) longs, (3, n, _) bytes, (4, n, _) booleans, (5, n, _) references; what the reference fields hold; how many cells -/
abbrev Wd : Type := (Nat → Nat × Nat × Nat) × (Nat → Nat → Nat) × Nat
def wfld (w : Wd) (ad : Nat → Nat) (σ : St) (ci N c : Nat) : List Value :=
  (List.range N).map fun k => if fk ci k = 0 then Value.int (σ.1 c k) else if fk ci k = 1 then Value.long (σ.2 c k) else Value.ref (ad (w.2.1 c k))
def went (w : Wd) (ad : Nat → Nat) (cy : Nat → ClassId) (σ : St) (c : Nat) : va_E :=
  match w.1 c with
  | (0, ci, N) => .inr (ci, wfld w ad σ ci N c)
  | (1, n, _) => .inl (cy 0, n, .inl (σ.1 c))
  | (2, n, _) => .inl (cy 1, n, .inr (.inl (σ.2 c)))
  | (3, n, _) => .inl (cy 2, n, .inl (σ.1 c))
  | (4, n, _) => .inl (cy 3, n, .inl (σ.1 c))
  | (_, n, _) => .inl (cy 4, n, .inr (.inr (.inr (.inr (fun j => some (ad (w.2.1 c j)))))))
def wl (w : Wd) (ad : Nat → Nat) (cy : Nat → ClassId) (σ : St) : va_W := (List.range w.2.2).map fun c => (ad c, went w ad cy σ c)
theorem wl_at {w : Wd} {ad : Nat → Nat} {cy : Nat → ClassId} {σ : St} {c : Nat} (hc : c < w.2.2) {e : va_E} (he : went w ad cy σ c = e) : (wl w ad cy σ)[c]? = some (ad c, e) := by
  subst he
  simp [wl, hc]
theorem wl_set {w : Wd} {ad : Nat → Nat} {cy : Nat → ClassId} {σ σ' : St} {c : Nat} {e : va_E} (he : went w ad cy σ' c = e) (ho : ∀ d, d ≠ c → went w ad cy σ' d = went w ad cy σ d) :
    (wl w ad cy σ).set c (ad c, e) = wl w ad cy σ' := by
  apply List.ext_getElem?
  intro i
  by_cases hi : i < w.2.2
  · by_cases hic : i = c
    · subst hic
      simp [wl, hi, he]
    · rw [List.getElem?_set_ne (Ne.symm hic), wl_at hi rfl, wl_at hi (ho i hic)]
  · have h1 : (wl w ad cy σ).length ≤ i := by simp [wl]; omega
    have h2 : (wl w ad cy σ').length ≤ i := by simp [wl]; omega
    rw [List.getElem?_eq_none (by simpa using h1), List.getElem?_eq_none h2]
theorem went_same {w : Wd} {ad : Nat → Nat} {cy : Nat → ClassId} {σ σ' : St} {d : Nat} (h1 : σ'.1 d = σ.1 d) (h2 : σ'.2 d = σ.2 d) : went w ad cy σ' d = went w ad cy σ d := by
  unfold went wfld
  rw [h1, h2]
theorem went_obj {w : Wd} {ad : Nat → Nat} {cy : Nat → ClassId} {σ : St} {c ci N : Nat} (h : w.1 c = (0, ci, N)) : went w ad cy σ c = .inr (ci, wfld w ad σ ci N c) := by
  unfold went; rw [h]; rfl
theorem went_i {w : Wd} {ad : Nat → Nat} {cy : Nat → ClassId} {σ : St} {c n x : Nat} (h : w.1 c = (1, n, x)) : went w ad cy σ c = .inl (cy 0, n, .inl (σ.1 c)) := by
  unfold went; rw [h]; rfl
theorem went_j {w : Wd} {ad : Nat → Nat} {cy : Nat → ClassId} {σ : St} {c n x : Nat} (h : w.1 c = (2, n, x)) : went w ad cy σ c = .inl (cy 1, n, .inr (.inl (σ.2 c))) := by
  unfold went; rw [h]; rfl
theorem went_b {w : Wd} {ad : Nat → Nat} {cy : Nat → ClassId} {σ : St} {c n x : Nat} (h : w.1 c = (3, n, x)) : went w ad cy σ c = .inl (cy 2, n, .inl (σ.1 c)) := by
  unfold went; rw [h]; rfl
theorem went_z {w : Wd} {ad : Nat → Nat} {cy : Nat → ClassId} {σ : St} {c n x : Nat} (h : w.1 c = (4, n, x)) : went w ad cy σ c = .inl (cy 3, n, .inl (σ.1 c)) := by
  unfold went; rw [h]; rfl
theorem went_r {w : Wd} {ad : Nat → Nat} {cy : Nat → ClassId} {σ : St} {c n x : Nat} (h : w.1 c = (5, n, x)) : went w ad cy σ c = .inl (cy 4, n, .inr (.inr (.inr (.inr (fun j => some (ad (w.2.1 c j))))))) := by
  unfold went; rw [h]; rfl
theorem si_ne {σ : St} {c i d : Nat} {v : Int32} (h : d ≠ c) : (si σ c i v).1 d = σ.1 d := by simp [si, h]
theorem si_eq {σ : St} {c i : Nat} {v : Int32} : (si σ c i v).1 c = upd (σ.1 c) i v := by simp [si]
theorem sj_ne {σ : St} {c i d : Nat} {v : Int64} (h : d ≠ c) : (sj σ c i v).2 d = σ.2 d := by simp [sj, h]
theorem sj_eq {σ : St} {c i : Nat} {v : Int64} : (sj σ c i v).2 c = vp_updL (σ.2 c) i v := by simp [sj]
theorem wfld_int {w : Wd} {ad : Nat → Nat} {σ : St} {ci N c k : Nat} (hk : k < N) (h : fk ci k = 0) : (wfld w ad σ ci N c)[k]? = some (.int (σ.1 c k)) := by
  simp [wfld, hk, h]
theorem wfld_long {w : Wd} {ad : Nat → Nat} {σ : St} {ci N c k : Nat} (hk : k < N) (h : fk ci k = 1) : (wfld w ad σ ci N c)[k]? = some (.long (σ.2 c k)) := by
  simp [wfld, hk, h]
theorem wfld_ref {w : Wd} {ad : Nat → Nat} {σ : St} {ci N c k b : Nat} (hk : k < N) (h : fk ci k = 2) (hb : w.2.1 c k = b) : (wfld w ad σ ci N c)[k]? = some (.ref (ad b)) := by
  subst hb
  simp [wfld, hk, h]
theorem wfld_len {w : Wd} {ad : Nat → Nat} {σ : St} {ci N c : Nat} : (wfld w ad σ ci N c).length = N := by simp [wfld]
theorem wfld_set {w : Wd} {ad : Nat → Nat} {σ : St} {ci N c k : Nat} {v : Int32} (h : fk ci k = 0) : (wfld w ad σ ci N c).set k (.int v) = wfld w ad (si σ c k v) ci N c := by
  apply List.ext_getElem?
  intro i
  by_cases hi : i < N
  · by_cases hik : i = k
    · subst hik
      simp [wfld, hi, h, si, upd]
    · rw [List.getElem?_set_ne (Ne.symm hik)]
      simp [wfld, hi, si, upd, hik]
  · rw [List.getElem?_eq_none (by simp [wfld]; omega), List.getElem?_eq_none (by simp [wfld]; omega)]
theorem wfld_setL {w : Wd} {ad : Nat → Nat} {σ : St} {ci N c k : Nat} {v : Int64} (h : fk ci k = 1) : (wfld w ad σ ci N c).set k (.long v) = wfld w ad (sj σ c k v) ci N c := by
  apply List.ext_getElem?
  intro i
  by_cases hi : i < N
  · by_cases hik : i = k
    · subst hik
      simp [wfld, hi, h, sj, vp_updL]
    · rw [List.getElem?_set_ne (Ne.symm hik)]
      simp [wfld, hi, sj, vp_updL, hik]
  · rw [List.getElem?_eq_none (by simp [wfld]; omega), List.getElem?_eq_none (by simp [wfld]; omega)]
/-- where the world lies -/
def wA (w : Wd) (ad : Nat → Nat) : Nat → Prop := fun q => ∃ c, c < w.2.2 ∧ q = ad c
def wI (w : Wd) (ad : Nat → Nat) : Prop := ∀ i j, i < w.2.2 → j < w.2.2 → ad i = ad j → i = j
theorem wl_of {w : Wd} {ad : Nat → Nat} {cy : Nat → ClassId} {σ : St} {k : Nat} {q : Nat × va_E} (h : (wl w ad cy σ)[k]? = some q) : k < w.2.2 ∧ q = (ad k, went w ad cy σ k) := by
  by_cases hk : k < w.2.2
  · rw [wl_at hk rfl] at h
    exact ⟨hk, (Option.some.inj h).symm⟩
  · rw [List.getElem?_eq_none (by simp [wl]; omega)] at h
    cases h
theorem wD {w : Wd} {ad : Nat → Nat} (hI : wI w ad) (cy : Nat → ClassId) (σ : St) : va_D (wA w ad) (wl w ad cy σ) := by
  refine ⟨fun i j p q hi hj e => ?_, fun k q hk => ?_⟩
  · obtain ⟨h1, rfl⟩ := wl_of hi
    obtain ⟨h2, rfl⟩ := wl_of hj
    exact hI i j h1 h2 e
  · obtain ⟨h1, rfl⟩ := wl_of hk
    exact ⟨k, h1, rfl⟩
def wtys (cy : Nat → ClassId) : List (ClassId × FieldType) := [(cy 0, .int), (cy 1, .long), (cy 2, .byte), (cy 3, .boolean), (cy 4, .object "CaseBefore$State")]
/-- the links of nest mates -/
def isNest : Cond → Bool
  | .methodLinkNest _ _ _ _ => true
  | .fieldLinkNest _ _ _ _ _ _ => true
  | _ => false
def wN (U : State) : Prop := ∀ x ∈ lw_tbl, isNest x = true → va_Nw x U
/-- the two String constants -/
abbrev wStr : Type := (Nat → Nat) × (Nat → Nat)
def wlen : List Nat := [9, 152]
def wtx (i : Nat) : String := if i = 0 then ";=+-*/<()" else "case    before  doom    plea    fee     adjournsseed    if      then    else    deed    own     purse   place   session which   cases   pled    gone    "
def wbyt : List (List Int32) := [(wtx 0).toList.map (fun c => nI c.toNat), (wtx 1).toList.map (fun c => nI c.toNat)]
def wT (A : Nat → Prop) (z : wStr) (U : State) : Prop := vk_S 2 wlen wbyt z.1 z.2 A U U.heap ∧ vk_R "CaseBefore$Scanner" 66 (wtx 0) (z.1 0) U ∧ vk_R "CaseBefore$Scanner" 84 (wtx 1) (z.1 1) U ∧ va_Z "java/lang/String" "COMPACT_STRINGS" "Z" (.int 1) A U U.heap ∧ va_Zq "jdk/internal/util/Preconditions" "SIOOBE_FORMATTER" "Ljava/util/function/BiFunction;" A U U.heap
/-- all that doesn't change -/
def wK (D : va_G) (cy : Nat → ClassId) (z : wStr) (A : Nat → Prop) (U : State) : Prop := va_K D vwCl (wtys cy) U ∧ wN U ∧ wT A z U
/-- the world holds σ -/
def wH (w : Wd) (ad : Nat → Nat) (D : va_G) (cy : Nat → ClassId) (s : State) (σ : St) (H : Heap) (locs : List Loc) : Prop := va_P D vwCl (wl w ad cy σ) H ∧ va_S (wA w ad) s.heap H locs
