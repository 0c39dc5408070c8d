/-! CONSTRUCTORS: cells in the order in which they are made, at addresses ad, entries F -/
def cL (ad : Nat → Nat) (F : Nat → va_E) (k : Nat) : va_W := (List.range k).map fun i => (ad i, F i)
theorem cL_at {ad : Nat → Nat} {F : Nat → va_E} {k i : Nat} (h : i < k) : (cL ad F k)[i]? = some (ad i, F i) := by simp [cL, h]
theorem cL_len {ad : Nat → Nat} {F : Nat → va_E} {k : Nat} : (cL ad F k).length = k := by simp [cL]
theorem cL_push {ad : Nat → Nat} {F : Nat → va_E} {k q : Nat} {e : va_E} : cL ad F k ++ [(q, e)] = cL (va_up ad k q) (va_up F k e) (k + 1) := by
  apply List.ext_getElem?
  intro i
  rcases Nat.lt_trichotomy i k with h | h | h
  · rw [List.getElem?_append_left (by rw [cL_len]; exact h), cL_at h, cL_at (by omega)]
    simp [va_up, Nat.ne_of_lt h]
  · subst h
    rw [List.getElem?_append_right (by rw [cL_len]; exact Nat.le_refl _), cL_at (Nat.lt_succ_self _)]
    simp [va_up, cL_len]
  · rw [List.getElem?_eq_none (by rw [List.length_append, cL_len]; simp; omega), List.getElem?_eq_none (by rw [cL_len]; omega)]
theorem cL_set {ad : Nat → Nat} {F : Nat → va_E} {k i : Nat} {e : va_E} : (cL ad F k).set i (ad i, e) = cL ad (va_up F i e) k := by
  apply List.ext_getElem?
  intro j
  by_cases hj : j < k
  · by_cases hij : i = j
    · subst hij
      rw [cL_at hj, List.getElem?_set_self (by rw [cL_len]; exact hj)]
      simp [va_up]
    · rw [List.getElem?_set_ne hij, cL_at hj, cL_at hj]
      simp [va_up, Ne.symm hij]
  · rw [List.getElem?_eq_none (by rw [List.length_set, cL_len]; omega), List.getElem?_eq_none (by rw [cL_len]; omega)]
theorem cL_congr {ad ad' : Nat → Nat} {F F' : Nat → va_E} {k : Nat} (h1 : ∀ i, i < k → ad i = ad' i) (h2 : ∀ i, i < k → F i = F' i) : cL ad F k = cL ad' F' k := by
  apply List.ext_getElem?
  intro i
  by_cases h : i < k
  · rw [cL_at h, cL_at h, h1 i h, h2 i h]
  · rw [List.getElem?_eq_none (by rw [cL_len]; omega), List.getElem?_eq_none (by rw [cL_len]; omega)]
/-- where a constructor that begins at h0 may write -/
def cA (h0 sz : Nat) : Nat → Prop := fun q => q = h0 ∨ sz ≤ q
def cB (ad : Nat → Nat) (k : Nat) : Nat → Prop := fun q => ∃ i, i < k ∧ q = ad i
/-- what doesn't change, from cell b0 on being ours -/
def cK (D : va_G) (cy : Nat → ClassId) (z : wStr) (b0 : Nat) (U : State) : Prop := va_K D vwCl (wtys cy) U ∧ va_AO "CaseBefore$State" U ∧ wN U ∧ wT (fun q => b0 ≤ q) z U
def cX (p : Program) (m : MethodId) (c : Code) (cc : ByteArray) (nL : Nat) (s : State) (args : Array Value) (meth : Method) (y0 : Cond) (own : String) (D : va_G) (cy : Nat → ClassId) (z : wStr) (b0 h0 : Nat) : Prop :=
  CallFix p m c cc nL s args (y0 :: aw) own ∧ cK D cy z b0 s ∧ meth.locks = false ∧ b0 ≤ h0 ∧ b0 ≤ s.heap.size
def cH (D : va_G) (s : State) (h0 : Nat) (ad : Nat → Nat) (F : Nat → va_E) (k : Nat) (H : Heap) (locs : List Loc) : Prop := va_P D vwCl (cL ad F k) H ∧ va_D (cA h0 s.heap.size) (cL ad F k) ∧ va_S (cA h0 s.heap.size) s.heap H locs ∧ (h0 < s.heap.size → 0 < k ∧ ad 0 = h0)
/-- a constructor's end: k cells, the first where it began -/
def cQ (D : va_G) (F : (Nat → Nat) → Nat → va_E) (k : Nat) (h0 sz : Nat) : Array Value → State → Outcome → State → Prop := va_Qv (fun (_ : Unit) => True) (fun _ t => ∃ ad : Nat → Nat, ad 0 = h0 ∧ va_P D vwCl (cL ad (F ad) k) t.heap ∧ va_D (cA h0 sz) (cL ad (F ad) k)) (cA h0 sz)
def cC (D : va_G) (cy : Nat → ClassId) (z : wStr) (l : Launch) (y : MethodName) (ws : List Cond) (f n mc ms : Nat) (b0 h0 sz : Nat) (xs : List Value) (e0 : va_E) (F : (Nat → Nat) → Nat → va_E) (k : Nat) : Prop :=
  Met l y ws { frames := f, cells := mc, slots := ms, locals := n } (va_Pc (.ref h0 :: xs) (fun U => U.heap.size = sz ∧ va_P D vwCl [(h0, e0)] U.heap ∧ cK D cy z b0 U)) (cQ D F k h0 sz) mc ms (cA h0 sz)
theorem arrC_eq {s : State} {a b : ClassId} {ty : FieldType} (h1 : va_RA s a ty) (h2 : va_RA s b ty) (hty : ty = .int ∨ ty = .long ∨ ty = .byte ∨ ty = .boolean ∨ ty = .object "CaseBefore$State") : a = b := by
  rcases hty with rfl | rfl | rfl | rfl | rfl
  · exact Option.some.inj ((show s.vm.findClass _ = some a from h1).symm.trans h2)
  · exact Option.some.inj ((show s.vm.findClass _ = some a from h1).symm.trans h2)
  · exact Option.some.inj ((show s.vm.findClass _ = some a from h1).symm.trans h2)
  · exact Option.some.inj ((show s.vm.findClass _ = some a from h1).symm.trans h2)
  · obtain ⟨_, _, _, _, _, e1⟩ := h1
    obtain ⟨_, _, _, _, _, e2⟩ := h2
    exact Option.some.inj (e1.symm.trans e2)
theorem arc_int : Cond.arrayClass .int ∈ aw := a1 (mh (i := 109) rfl) rfl
theorem arc_long : Cond.arrayClass .long ∈ aw := a1 (mh (i := 110) rfl) rfl
theorem arc_byte : Cond.arrayClass .byte ∈ aw := a1 (mh (i := 44) rfl) rfl
theorem arc_boolean : Cond.arrayClass .boolean ∈ aw := a2 (mh (i := 86) rfl) rfl
theorem oi_im : Cond.instanceMethod Lib.objectInit ∈ aw := a1 (mh (i := 27) rfl) rfl
theorem oi_co : Cond.code Lib.objectInit ⟨#[0xb1]⟩ 1 none ∈ aw := a1 (mh (i := 28) rfl) rfl
theorem va_S.mono {A B : Nat → Prop} {H0 H : Heap} {locs : List Loc} (h : va_S A H0 H locs) (hAB : ∀ q, A q → B q) : va_S B H0 H locs := ⟨h.1, fun q h1 h2 => h.2.1 q h1 (fun h3 => h2 (hAB q h3)), fun l hl => hAB _ (h.2.2 l hl)⟩
def cj {α : Type} (f : Nat → α) (j : Nat) (g : Nat → α) : Nat → α := fun i => if i < j then f i else g (i - j)
section CROWS
variable {p : Program} {l : Launch} {e : Env} {R : Room} {s : State} {m : MethodId} {args : Array Value} {below : List Frame} {meth : Method} {c : Code} {H : Heap} {locs : List Loc} {cells slots : Nat} {Q : State → Prop} {cc : ByteArray} {pc nL : Nat} {ls : Array Slot} {rest : List Value} {own : String} {y0 : Cond} {ad : Nat → Nat} {D : va_G} {cy : Nat → ClassId} {z : wStr} {b0 h0 k : Nat} {F : Nat → va_E}
theorem cX.hx (X : cX p m c cc nL s args meth y0 own D cy z b0 h0) : p.tables.exec = Jvm.exec := X.1.1
theorem cX.hb (X : cX p m c cc nL s args meth y0 own D cy z b0 h0) : c.code = cc := X.1.2.1
theorem cX.ml (X : cX p m c cc nL s args meth y0 own D cy z b0 h0) : c.maxLocals = nL := X.1.2.2.1
theorem cX.ow (X : cX p m c cc nL s args meth y0 own D cy z b0 h0) : s.vm.findClass own = some m.cls := X.1.2.2.2.1
theorem cX.ts (X : cX p m c cc nL s args meth y0 own D cy z b0 h0) : ∀ x ∈ y0 :: aw, x.before args s = true := X.1.2.2.2.2
theorem cX.tw (X : cX p m c cc nL s args meth y0 own D cy z b0 h0) {x : Cond} (h : x ∈ aw) : x.before args s = true := X.ts x (List.mem_cons_of_mem _ h)
theorem cX.K (X : cX p m c cc nL s args meth y0 own D cy z b0 h0) : va_K D vwCl (wtys cy) s := X.2.1.1
theorem cX.nst (X : cX p m c cc nL s args meth y0 own D cy z b0 h0) {x : Cond} (h : x ∈ lw_tbl) (hn : isNest x = true) : va_Nw x s := X.2.1.2.2.1 x h hn
theorem cH.AB (hw : cH D s h0 ad F k H locs) : ∀ q, cB ad k q → cA h0 s.heap.size q := by
  rintro q ⟨i, hi, rfl⟩
  exact hw.2.1.2 i _ (cL_at hi)
theorem cH.SA (hw : cH D s h0 ad F k H locs) : va_S (cA h0 s.heap.size) s.heap H locs := hw.2.2.1
/-- the cells, and what was written before -/
def cE (ad : Nat → Nat) (k : Nat) (locs : List Loc) : Nat → Prop := fun q => cB ad k q ∨ ∃ y ∈ locs, q = y.base
theorem cH.SE (hw : cH D s h0 ad F k H locs) : va_S (cE ad k locs) s.heap H locs := ⟨hw.2.2.1.1, fun q h1 h2 => hw.2.2.1.2.1 q h1 (fun h3 => by
  rcases h3 with rfl | h3
  · obtain ⟨a, b⟩ := hw.2.2.2 h1
    exact h2 (Or.inl ⟨0, a, b.symm⟩)
  · omega), fun x hx => Or.inr ⟨x, hx, rfl⟩⟩
theorem cH.EA (hw : cH D s h0 ad F k H locs) : ∀ q, cE ad k locs q → cA h0 s.heap.size q := by
  rintro q (h | ⟨y, hy, rfl⟩)
  · exact hw.AB q h
  · exact hw.2.2.1.2.2 y hy
theorem cH.DE (hw : cH D s h0 ad F k H locs) : va_D (cE ad k locs) (cL ad F k) := ⟨hw.2.1.1, fun i q hi => by
  have hik : i < k := by have := (List.getElem?_eq_some_iff.mp hi).1; rw [cL_len] at this; exact this
  rw [cL_at hik] at hi
  cases hi
  exact Or.inl ⟨i, hik, rfl⟩⟩
theorem cr_obj (X : cX p m c cc nL s args meth y0 own D cy z b0 h0) (hl : ls.size = nL) {idx a : Nat} (hm : Cond.methodLink own idx Lib.objectInit ∈ aw) (hdg : decode cc pc = .ok (.invokespecial idx, 3)) (hf : 1 ≤ R.frames) (hn : (rest.map fun v => v.category).sum + 12 ≤ R.locals)
    (kk : W p l e R s m args below meth c H locs cells slots Q (F0 m (pc + 3) ls rest)) : W p l e R s m args below meth c H locs cells slots Q (F0 m pc ls (.ref a :: rest)) :=
  W.objInit X.hx X.hb X.ow (X.tw hm) (X.tw oi_im) (X.tw oi_co) rfl (by rw [X.ml]; exact hl) rfl hdg hf (by show 2 * 0 + _ + 12 ≤ _; omega) kk
/-- a new cell beside the others -/
theorem cH.grow (hw : cH D s h0 ad F k H locs) {q : Nat} {e1 : va_E} {H1 : Heap} (hP : va_P D vwCl (cL ad F k ++ [(q, e1)]) H1) (hD : va_D (cA h0 s.heap.size) (cL ad F k ++ [(q, e1)])) (hS : va_S (cA h0 s.heap.size) s.heap H1 locs) : cH D s h0 (va_up ad k q) (va_up F k e1) (k + 1) H1 locs := by
  rw [cL_push] at hP hD
  refine ⟨hP, hD, hS, fun h => ?_⟩
  obtain ⟨a, b⟩ := hw.2.2.2 h
  exact ⟨by omega, by rw [show va_up ad k q 0 = ad 0 by simp [va_up, Nat.ne_of_lt a]]; exact b⟩
theorem cr_new (X : cX p m c cc nL s args meth y0 own D cy z b0 h0) (hw : cH D s h0 ad F k H locs) {C : String} {T : u_T} {N ci index : Nat} (huw : ∀ x ∈ u_ws C T N, x ∈ aw) (ty : Nat → FieldType) (hty : ∀ k, k < N → parseFieldDescriptor (T k).2.2.1 = some (ty k)) (hcl : Cond.classLink own index C ∈ aw) (hin : Cond.instantiable C N ∈ aw) (hini : Cond.initialized C ∈ aw) (hc : vwCl[ci]? = some (C, T, N)) {fs : List Value} (hfs : ∀ j, j < N → defaultValue (ty j) = vp_V fs j) (hcells : cells + 1 ≤ R.cells) (hslots : slots + N ≤ R.slots) (hdg : decode cc pc = .ok (.new index, 3))
    (kk : ∀ (q : Nat) (H1 : Heap), cH D s h0 (va_up ad k q) (va_up F k (.inr (ci, fs))) (k + 1) H1 locs → W p l e R s m args below meth c H1 locs (cells + 1) (slots + N) Q (F0 m (pc + 3) ls (.ref q :: rest))) : W p l e R s m args below meth c H locs cells slots Q (F0 m pc ls rest) :=
  va_new X.hx X.hb X.ts (fun x h => List.mem_cons_of_mem _ (huw x h)) ty hty X.ow (X.tw hcl) (X.tw hin) (X.tw hini) X.K hw.1 hw.2.1 hw.SA (fun q h => Or.inr h) hc hfs hcells hslots hdg (fun q H1 hP hD hS => kk q H1 (hw.grow hP hD hS))
theorem cr_newa (X : cX p m c cc nL s args meth y0 own D cy z b0 h0) (hw : cH D s h0 ad F k H locs) {atype : ArrayType} {ty : FieldType} (harr : Cond.arrayClass (newarray.typeOf atype) ∈ aw) (hty : newarray.typeOf atype = ty) (t : Nat) (ht : (wtys cy)[t]? = some (cy t, ty)) (htt : ty = .int ∨ ty = .long ∨ ty = .byte ∨ ty = .boolean ∨ ty = .object "CaseBefore$State") {n : Int32} {N' : Nat} {a0 : vp_A} (ha : ∀ cA : ClassId, vp_cell cA a0 = arrV cA N' (fun _ => defaultValue ty)) (hn : ¬ n < 0) (hN : n.toNatClampNeg = N') (hbytes : N' * componentBytes ty ≤ 536870912) (hcells : cells + 1 ≤ R.cells) (hslots : slots + N' ≤ R.slots) (hdg : decode cc pc = .ok (.newarray atype, 2))
    (kk : ∀ (q : Nat) (H1 : Heap), cH D s h0 (va_up ad k q) (va_up F k (.inl (cy t, a0))) (k + 1) H1 locs → W p l e R s m args below meth c H1 locs (cells + 1) (slots + N') Q (F0 m (pc + 2) ls (.ref q :: rest))) : W p l e R s m args below meth c H locs cells slots Q (F0 m pc ls (.int n :: rest)) := by
  refine va_newa X.hx X.hb (X.tw harr) hty X.K hw.1 hw.2.1 hw.SA (fun q h => Or.inr h) ha hn hN hbytes hcells hslots hdg (fun q cA H1 hK hP hD hS => ?_)
  have h1 := (hK.2 5 (cA, ty) (by rfl)).2
  have h2 := (X.K.2 t _ ht).2
  have e := arrC_eq h1 h2 htt
  subst e
  exact kk q H1 (hw.grow hP hD hS)
theorem cr_newq (X : cX p m c cc nL s args meth y0 own D cy z b0 h0) (hw : cH D s h0 ad F k H locs) {index : Nat} (hcl : Cond.classLink own index "CaseBefore$State" ∈ aw) {n : Int32} {N' : Nat} (hn : ¬ n < 0) (hN : n.toNatClampNeg = N') (hbytes : N' * 4 ≤ 536870912) (hcells : cells + 1 ≤ R.cells) (hslots : slots + N' ≤ R.slots) (hdg : decode cc pc = .ok (.anewarray index, 3))
    (kk : ∀ (q : Nat) (H1 : Heap), cH D s h0 (va_up ad k q) (va_up F k (.inl (cy 4, N', .inr (.inr (.inr (.inr (fun _ => none))))))) (k + 1) H1 locs → W p l e R s m args below meth c H1 locs (cells + 1) (slots + N') Q (F0 m (pc + 3) ls (.ref q :: rest))) : W p l e R s m args below meth c H locs cells slots Q (F0 m pc ls (.int n :: rest)) := by
  refine va_newq X.hx X.hb X.ow (X.tw hcl) X.2.1.2.1 X.K hw.1 hw.2.1 hw.SA (fun q h => Or.inr h) hn hN hbytes hcells hslots hdg (fun q cA H1 hK hP hD hS => ?_)
  have h1 := (hK.2 5 (cA, _) (by rfl)).2
  have h2 := (X.K.2 4 _ rfl).2
  have e := arrC_eq h1 h2 (Or.inr (Or.inr (Or.inr (Or.inr rfl))))
  subst e
  exact kk q H1 (hw.grow hP hD hS)
theorem cH.put (hw : cH D s h0 ad F k H locs) {i : Nat} {e1 : va_E} {H1 : Heap} {locs1 : List Loc} (hP : va_P D vwCl ((cL ad F k).set i (ad i, e1)) H1) (hD : va_D (cE ad k locs) ((cL ad F k).set i (ad i, e1))) (hS : va_S (cE ad k locs) s.heap H1 locs1) : cH D s h0 ad (va_up F i e1) k H1 locs1 := by
  rw [cL_set] at hP hD
  exact ⟨hP, ⟨hD.1, fun j q hj => hw.EA _ (hD.2 j q hj)⟩, hS.mono hw.EA, hw.2.2.2⟩
theorem cr_putF (X : cX p m c cc nL s args meth y0 own D cy z b0 h0) (hw : cH D s h0 ad F k H locs) (hname : meth.name = "<init>") {C : String} {T : u_T} {N ci index : Nat} (huw : ∀ x ∈ u_ws C T N, x ∈ aw) (ty0 : Nat → FieldType) (hty : ∀ k, k < N → parseFieldDescriptor (T k).2.2.1 = some (ty0 k)) (hnm : ∀ a, a < N → ∀ b, b < N → a ≠ b → (T a).2.1 ≠ (T b).2.1) (hc : vwCl[ci]? = some (C, T, N)) (i : Nat) (hi : i < k) {a : Nat} (hai : a = ad i) {fs : List Value} (he : F i = .inr (ci, fs)) (j : Nat) (hj : j < N) {nm ds : String} (hT : (T j).1 = C ∧ (T j).2.1 = nm ∧ (T j).2.2.1 = ds) (hfin : (T j).2.2.2 = true) (hown : C = own) {ty : FieldType} {v : Value} (hd : parseFieldDescriptor ds = some ty) (hn : narrow ty v = v) (hfit : fits ty v = true) (hl : j < fs.length) (hlink : Cond.fieldLink own index C nm ds ∈ aw)
    (hdg : decode cc pc = .ok (.putfield index, 3)) (kk : ∀ (H1 : Heap) (locs1 : List Loc), cH D s h0 ad (va_up F i (.inr (ci, fs.set j v))) k H1 locs1 → (∀ x ∈ locs1, cE ad k locs x.base) → W p l e R s m args below meth c H1 locs1 cells slots Q (F0 m (pc + 3) ls rest)) : W p l e R s m args below meth c H locs cells slots Q (F0 m pc ls (v :: .ref a :: rest)) := by
  obtain ⟨h1, rfl, rfl⟩ := hT
  subst hai
  exact va_putF (ty := ty) (v := v) X.hx X.hb X.ts (fun x h => List.mem_cons_of_mem _ (huw x h)) ty0 hty hnm X.ow X.K hw.1 hw.DE hw.SE i (by rw [cL_at hi, he]) hc j hj (X.tw hlink) (by rw [h1]; exact fun _ h => h) hfin hname (h1.trans hown) hd hn hfit hl hdg (fun H1 locs1 hP hD hS => kk H1 locs1 (hw.put hP hD hS) hS.2.2)
theorem cr_put (X : cX p m c cc nL s args meth y0 own D cy z b0 h0) (hw : cH D s h0 ad F k H locs) {C : String} {T : u_T} {N ci index : Nat} (huw : ∀ x ∈ u_ws C T N, x ∈ aw) (ty0 : Nat → FieldType) (hty : ∀ k, k < N → parseFieldDescriptor (T k).2.2.1 = some (ty0 k)) (hnm : ∀ a, a < N → ∀ b, b < N → a ≠ b → (T a).2.1 ≠ (T b).2.1) (hc : vwCl[ci]? = some (C, T, N)) (i : Nat) (hi : i < k) {a : Nat} (hai : a = ad i) {fs : List Value} (he : F i = .inr (ci, fs)) (j : Nat) (hj : j < N) {nm ds : String} (hT : (T j).1 = C ∧ (T j).2.1 = nm ∧ (T j).2.2.1 = ds) (hfin : (T j).2.2.2 = false) {ty : FieldType} {v : Value} (hd : parseFieldDescriptor ds = some ty) (hn : narrow ty v = v) (hfit : fits ty v = true) (hl : j < fs.length) (hlink : Cond.fieldLink own index C nm ds ∈ aw)
    (hdg : decode cc pc = .ok (.putfield index, 3)) (kk : ∀ (H1 : Heap) (locs1 : List Loc), cH D s h0 ad (va_up F i (.inr (ci, fs.set j v))) k H1 locs1 → (∀ x ∈ locs1, cE ad k locs x.base) → W p l e R s m args below meth c H1 locs1 cells slots Q (F0 m (pc + 3) ls rest)) : W p l e R s m args below meth c H locs cells slots Q (F0 m pc ls (v :: .ref a :: rest)) := by
  obtain ⟨h1, rfl, rfl⟩ := hT
  subst hai
  exact va_put (ty := ty) (v := v) X.hx X.hb X.ts (fun x h => List.mem_cons_of_mem _ (huw x h)) ty0 hty hnm X.ow X.K hw.1 hw.DE hw.SE i (by rw [cL_at hi, he]) hc j hj (X.tw hlink) (by rw [h1]; exact fun _ h => h) hfin hd hn hfit hl hdg (fun H1 locs1 hP hD hS => kk H1 locs1 (hw.put hP hD hS) hS.2.2)
theorem cr_get (X : cX p m c cc nL s args meth y0 own D cy z b0 h0) (hw : cH D s h0 ad F k H locs) {C : String} {T : u_T} {N ci index : Nat} (huw : ∀ x ∈ u_ws C T N, x ∈ aw) (hc : vwCl[ci]? = some (C, T, N)) (i : Nat) (hi : i < k) {a : Nat} (hai : a = ad i) {fs : List Value} (he : F i = .inr (ci, fs)) (j : Nat) (hj : j < N) {nm ds : String} (hT : (T j).1 = C ∧ (T j).2.1 = nm ∧ (T j).2.2.1 = ds) {v : Value} (hv : fs[j]? = some v) (hlink : Cond.fieldLink own index C nm ds ∈ aw)
    (hdg : decode cc pc = .ok (.getfield index, 3)) (kk : W p l e R s m args below meth c H locs cells slots Q (F0 m (pc + 3) ls (v :: rest))) : W p l e R s m args below meth c H locs cells slots Q (F0 m pc ls (.ref a :: rest)) := by
  obtain ⟨h1, rfl, rfl⟩ := hT
  subst hai
  exact va_get X.hx X.hb X.ts (fun x h => List.mem_cons_of_mem _ (huw x h)) X.ow X.K hw.1 i (by rw [cL_at hi, he]) hc j hj (X.tw hlink) (by rw [h1]; exact fun _ h => h) hv hdg kk
theorem cr_aast (X : cX p m c cc nL s args meth y0 own D cy z b0 h0) (hw : cH D s h0 ad F k H locs) (i : Nat) (hi : i < k) {a : Nat} (hai : a = ad i) {n : Nat} {f : Nat → Option Nat} (he : F i = .inl (cy 4, n, .inr (.inr (.inr (.inr f))))) (j : Nat) (hj : j < k) {v : Nat} (hvj : v = ad j) {vs : List Value} (hv : F j = .inr (6, vs)) {x : Int32} (hin : vp_in x n) (hdg : decode cc pc = .ok (.aastore, 1))
    (kk : ∀ (H1 : Heap) (locs1 : List Loc), cH D s h0 ad (va_up F i (.inl (cy 4, n, .inr (.inr (.inr (.inr (va_up f x.toNatClampNeg (some v)))))))) k H1 locs1 → (∀ x ∈ locs1, cE ad k locs x.base) → W p l e R s m args below meth c H1 locs1 cells slots Q (F0 m (pc + 1) ls rest)) : W p l e R s m args below meth c H locs cells slots Q (F0 m pc ls (.ref v :: .int x :: .ref a :: rest)) := by
  subst hai; subst hvj
  exact va_astq (r := (RX6, TX6, 8)) X.hx X.hb X.K hw.1 hw.DE hw.SE i 4 j 6 (by rw [cL_at hi, he]) rfl (by rw [cL_at hj, hv]) rfl hin hdg (fun H1 locs1 hP hD hS => kk H1 locs1 (hw.put hP hD hS) hS.2.2)
theorem cK.calling {U : State} (h : cK D cy z b0 U) (g : JFrame) (mk : MethodId) (a : Array Value) : cK D cy z b0 (U.calling g mk a) := by
  obtain ⟨h1, h2, h3, h4⟩ := h
  obtain ⟨q1, q2, q3⟩ := wK.calling (A := fun q => b0 ≤ q) (z := z) ⟨h1, h3, h4⟩ g mk a
  exact ⟨q1, va_AO.moved (u := U) (U := U.calling g mk a) (Vm.Alike.refl U.vm) h2, q2, q3⟩
theorem cK.moved {U : State} {H : Heap} {locs : List Loc} (h : cK D cy z b0 s) (hS : va_S (fun q => b0 ≤ q) s.heap H locs) (hU : U.heap = H) (hW : s.WarmedH U.vm) : cK D cy z b0 U := by
  obtain ⟨h1, h2, h3, h4⟩ := h
  obtain ⟨q1, q2, q3⟩ := wK.moved (A := fun q => b0 ≤ q) (z := z) ⟨h1, h3, h4⟩ hS hU hW
  exact ⟨q1, va_AO.moved hW.alike h2, q2, q3⟩
theorem cPc_blind {e0 : va_E} {xs : List Value} {sz : Nat} : FrameBlind (va_Pc (.ref h0 :: xs) (fun U => U.heap.size = sz ∧ va_P D vwCl [(h0, e0)] U.heap ∧ cK D cy z b0 U)) := fun a U g mk q => ⟨q.1, q.2.1, q.2.2.1, q.2.2.2.calling g mk a⟩
/-- behind a constructor's call: its cells beside ours -/
theorem cH.join (hw : cH D s h0 ad F (k + 1) H locs) {k' : Nat} {F' : Nat → va_E} {ad2 : Nat → Nat} {H1 : Heap} {locs1 : List Loc} (h0' : ad2 0 = ad k) (hk' : 0 < k') (hP : va_P D vwCl (cL ad2 F' k') H1) (hD : va_D (cA (ad k) H.size) (cL ad2 F' k')) (hk : ∀ q : Nat, q < H.size → ¬ cA (ad k) H.size q → H1[q]? = H[q]?) (hS : va_S (cA h0 s.heap.size) s.heap H1 locs1) : cH D s h0 (cj ad k ad2) (cj F k F') (k + k') H1 locs1 := by
  have hlt : ∀ i, i < k → ad i < H.size ∧ ad i ≠ ad k := by
    intro i hi
    refine ⟨va_at.lt (hw.1 i _ (cL_at (by omega))), fun e => ?_⟩
    have := hw.2.1.1 i k _ _ (cL_at (by omega)) (cL_at (by omega)) e
    omega
  have hat : ∀ i, i < k + k' → (cL (cj ad k ad2) (cj F k F') (k + k'))[i]? = some (if i < k then (ad i, F i) else (ad2 (i - k), F' (i - k))) := by
    intro i hi
    rw [cL_at hi]
    by_cases h : i < k <;> simp [cj, h]
  have hle : ∀ {i : Nat} {q : Nat × va_E}, (cL (cj ad k ad2) (cj F k F') (k + k'))[i]? = some q → i < k + k' := by
    intro i q h
    have := (List.getElem?_eq_some_iff.mp h).1
    rw [cL_len] at this
    exact this
  have hsz : s.heap.size ≤ H.size := hw.2.2.1.1
  refine ⟨fun i q hi => ?_, ⟨fun i j q r hi hj e => ?_, fun i q hi => ?_⟩, hS, fun h => ?_⟩
  · have hik := hle hi
    rw [hat i hik] at hi
    cases hi
    by_cases h : i < k
    · rw [if_pos h]
      have hi2 := hlt i h
      refine (hw.1 i _ (cL_at (by omega))).kept (hk _ hi2.1 (fun h3 => ?_))
      rcases h3 with h3 | h3
      · exact hi2.2 h3
      · exact absurd hi2.1 (Nat.not_lt.mpr h3)
    · rw [if_neg h]
      exact hP (i - k) _ (cL_at (by omega))
  · have hik := hle hi
    have hjk := hle hj
    rw [hat i hik] at hi
    rw [hat j hjk] at hj
    cases hi; cases hj
    have hnew : ∀ n, n < k' → cA (ad k) H.size (ad2 n) := fun n hn => hD.2 n _ (cL_at hn)
    by_cases h : i < k <;> by_cases h' : j < k
    · rw [if_pos h, if_pos h'] at e
      exact hw.2.1.1 i j _ _ (cL_at (by omega)) (cL_at (by omega)) e
    · rw [if_pos h, if_neg h'] at e
      have e : ad i = ad2 (j - k) := e
      rcases hnew (j - k) (by omega) with h3 | h3
      · exact absurd (e.trans h3) (hlt i h).2
      · rw [← e] at h3
        exact absurd (hlt i h).1 (Nat.not_lt.mpr h3)
    · rw [if_neg h, if_pos h'] at e
      have e : ad2 (i - k) = ad j := e
      rcases hnew (i - k) (by omega) with h3 | h3
      · exact absurd (e.symm.trans h3) (hlt j h').2
      · rw [e] at h3
        exact absurd (hlt j h').1 (Nat.not_lt.mpr h3)
    · rw [if_neg h, if_neg h'] at e
      have := hD.1 (i - k) (j - k) _ _ (cL_at (by omega)) (cL_at (by omega)) e
      omega
  · have hik := hle hi
    rw [hat i hik] at hi
    cases hi
    by_cases h : i < k
    · rw [if_pos h]
      exact hw.2.1.2 i _ (cL_at (by omega))
    · rw [if_neg h]
      rcases hD.2 (i - k) _ (cL_at (by omega)) with h3 | h3
      · have h3 : ad2 (i - k) = ad k := h3
        show cA h0 s.heap.size (ad2 (i - k))
        rw [h3]
        exact hw.2.1.2 k _ (cL_at (by omega))
      · exact Or.inr (Nat.le_trans hsz h3)
  · obtain ⟨a, b⟩ := hw.2.2.2 h
    refine ⟨by omega, ?_⟩
    by_cases hk0 : 0 < k
    · simp [cj, hk0, b]
    · have : k = 0 := by omega
      subst this
      simp [cj, h0', b]
theorem cr_callN (X : cX p m c cc nL s args meth y0 own D cy z b0 h0) (hw : cH D s h0 ad F (k + 1) H locs) (hl : ls.size = nL) {y : MethodName} {bytes : ByteArray} {maxL f n mc ms nn index : Nat} {host : String} {xs : List Value} {F' : (Nat → Nat) → Nat → va_E} {k' : Nat} (hk' : 0 < k') {a : Nat} (ha : a = ad k) {st : List Value} (hC : ∀ sz, cC D cy z l y (Cond.code y bytes maxL none :: aw) f n mc ms b0 a sz xs (F k) F' k') (hlen : xs.length = nn) (hm1 : Cond.methodLinkNest own index y host ∈ lw_tbl) (hm2 : Cond.instanceMethod y ∈ aw) (hm4 : Cond.initialized y.cls ∈ aw) (hm5 : Cond.code y bytes maxL none ∈ aw)
    (hd : y.name = "<init>" ∧ y.cls ≠ "java/lang/invoke/MethodHandle" ∧ y.cls ≠ "java/lang/invoke/VarHandle" ∧ (parseMethodDescriptor y.desc).map (fun d => d.parameters.length) = some nn) (hR : f + 1 ≤ R.frames ∧ 8 + (maxL + 11) + n ≤ R.locals) (hcs : cells + mc ≤ R.cells ∧ slots + ms ≤ R.slots) (hcat : (rest.map fun v => v.category).sum ≤ 8) (hdg : decode cc pc = .ok (.invokespecial index, 3)) (hst : st = xs.reverse ++ .ref a :: rest)
    (kk : ∀ (ad2 : Nat → Nat) (H1 : Heap) (locs1 : List Loc), ad2 0 = ad k → cH D s h0 (cj ad k ad2) (cj F k (F' ad2)) (k + k') H1 locs1 → W p l e R s m args below meth c H1 locs1 (cells + mc) (slots + ms) Q (F0 m (pc + 3) ls rest)) : W p l e R s m args below meth c H locs cells slots Q (F0 m pc ls st) := by
  subst hst
  subst ha
  have hG : GoodIn (y0 :: aw) (Cond.code y bytes maxL none :: aw) := by
    intro x hx
    have : x ∈ aw := by
      rcases List.mem_cons.mp hx with rfl | hx
      · exact hm5
      · exact hx
    exact ⟨List.mem_cons_of_mem _ this, good_of_word (List.mem_filter.mp this).2⟩
  have hbS : va_S (fun q => b0 ≤ q) s.heap H locs := hw.2.2.1.mono (fun q hq => by
    rcases hq with rfl | hq
    · exact X.2.2.2.1
    · exact Nat.le_trans X.2.2.2.2 hq)
  refine va_callv (va_runIN (As := xs) (rest := rest) X.1 (hC H.size) ⟨va_cnB nn X.ts hG rfl rfl rfl (X.nst hm1 rfl) (X.tw hm4) ⟨hd.2.1, hd.2.2.1, hd.2.2.2⟩ ⟨hR.1, hR.2⟩, hd.1, X.tw hm2⟩ ⟨cPc_blind, fun U hU hW => ⟨rfl, by rw [hU], ?_, X.2.1.moved hbS hU hW⟩⟩ rfl hlen hl rfl (lv_room hcat) hdg hcs) hw.2.2.1 (fun q hq h => ?_) (fun q h => ?_) (fun u t H1 locs1 ht hvm hw1 hB hz hk hS => ?_)
  · rw [hU]
    intro i q hi
    have h0 : i = 0 := by
      have := (List.getElem?_eq_some_iff.mp hi).1
      simp at this
      exact this
    subst h0
    cases hi
    exact hw.1 k _ (cL_at (Nat.lt_succ_self k))
  · rcases h with rfl | h
    · exact hw.2.1.2 k _ (cL_at (Nat.lt_succ_self k))
    · omega
  · rcases h with rfl | h
    · exact hw.2.1.2 k _ (cL_at (Nat.lt_succ_self k))
    · exact Or.inr (Nat.le_trans hw.2.2.1.1 h)
  · obtain ⟨ad2, e2, hP2, hD2⟩ := hB
    rw [ht] at hP2
    exact kk ad2 H1 locs1 e2 (hw.join e2 hk' hP2 hD2 hk hS)
theorem cr_start {y : MethodName} {ws : List Cond} {f n mc ms sz maxL : Nat} {xs : List Value} {e0 : va_E} {F' : (Nat → Nat) → Nat → va_E} {k' : Nat} (hb0 : b0 ≤ h0)
    (hy : plainFor y = true) (hws : ws = Cond.code y cc maxL none :: aw) (hlen : (lg_sl (.ref h0 :: xs)).length ≤ maxL) (hown : y.cls = own) (hnm : y.name = "<init>")
    (body : ∀ (p : Program) (e : Env) (s : State) (m : MethodId) (below : List Frame) (meth : Method) (c : Code) (ls : Array Slot), cX p m c cc maxL s (.ref h0 :: xs).toArray meth (Cond.code y cc maxL none) own D cy z b0 h0 → meth.name = "<init>" → s.heap.size = sz → h0 < sz → cH D s h0 (fun _ => h0) (fun _ => e0) 1 s.heap [] → meth.sig.returnType = none → lv_has ls maxL (lv_args 0 (.ref h0 :: xs)) →
      W p l e { frames := f, cells := mc, slots := ms, locals := n } s m (.ref h0 :: xs).toArray below meth c s.heap [] 0 0 (MQ below (cQ D F' k' h0 sz) (.ref h0 :: xs).toArray s mc ms (cA h0 sz)) (F0 m 0 ls [])) : cC D cy z l y ws f n mc ms b0 h0 sz xs e0 F' k' := by
  refine Met.ofF (cc := cc) (maxL := maxL) (ret := none) hy hws ?_
  intro p e s m args below meth c s₁ B hml hv
  obtain ⟨rfl, hsz, hP, hK⟩ := hv
  subst hws
  rw [lg_entry_eq]
  have hlt : h0 < s.heap.size := va_at.lt (hP 0 _ rfl)
  refine body p e s m below meth c _ ⟨⟨B.exec, B.bytes, hml, ?_, atoms_spec (ws := Cond.code y cc maxL none :: aw) B.pre⟩, hK, B.notSynchronized, hb0, Nat.le_trans hb0 (Nat.le_of_lt hlt)⟩ ((name_of_methodNamed B.named B.method).1.trans hnm) hsz (by rw [← hsz]; exact hlt) ⟨hP, ⟨fun i j p q hi hj e => ?_, fun i q hi => ?_⟩, va_S.rf, fun _ => ⟨by decide, rfl⟩⟩ B.returns (lv_entry _ hlen)
  · rw [← hown]
    exact findClass_of_methodNamed B.named
  · have h1 := (List.getElem?_eq_some_iff.mp hi).1
    have h2 := (List.getElem?_eq_some_iff.mp hj).1
    rw [cL_len] at h1 h2
    omega
  · have h1 := (List.getElem?_eq_some_iff.mp hi).1
    rw [cL_len] at h1
    have : i = 0 := by omega
    subst this
    cases hi
    exact Or.inl rfl
theorem cr_ret (X : cX p m c cc nL s args meth y0 own D cy z b0 h0) (hw : cH D s h0 ad F k H locs) {F' : (Nat → Nat) → Nat → va_E} (h0s : h0 < s.heap.size) (hF : ∀ i, i < k → F i = F' ad i) (hr : meth.sig.returnType = none) (hdg : decode cc pc = .ok (.return_, 1)) : W p l e R s m args below meth c H locs cells slots (MQ below (cQ D F' k h0 s.heap.size) args s cells slots (cA h0 s.heap.size)) (F0 m pc ls []) := by
  have hL : cL ad F k = cL ad (F' ad) k := cL_congr (fun _ _ => rfl) hF
  refine W.vret X.hx X.hb hr (fun t ht hW => ⟨⟨(), rfl, trivial, ad, (hw.2.2.2 h0s).2, ?_, ?_⟩, hw.2.2.1.F ht⟩) hw.2.2.1.2.2 hdg X.2.2.1
  · rw [ht, ← hL]
    exact hw.1
  · rw [← hL]
    exact hw.2.1
end CROWS
