def bz (v : Int32) : Bool := v == 0 || v == 1
theorem bz_nar {v : Int32} (h : bz v = true) : narrow .boolean (.int v) = .int v := by
  simp only [bz, Bool.or_eq_true, beq_iff_eq] at h
  rcases h with rfl | rfl <;> rfl
section ROWS
variable {p : Program} {l : Launch} {e : Env} {R : Room} {s : State} {m : MethodId} {args : Array Value} {below : List Frame} {meth : Method} {c : Code} {H : Heap} {locs : List Loc} {Q : State → Prop} {cc : ByteArray} {pc nL : Nat} {ls : Array Slot} {rest : List Value} {own : String} {y0 : Cond} {w : Wd} {ad : Nat → Nat} {D : va_G} {cy : Nat → ClassId} {z : wStr} {σ : St}
/-- what stays through a walk -/
def wX (p : Program) (m : MethodId) (c : Code) (cc : ByteArray) (nL : Nat) (s : State) (args : Array Value) (meth : Method) (y0 : Cond) (own : String) (w : Wd) (ad : Nat → Nat) (D : va_G) (cy : Nat → ClassId) (z : wStr) : Prop :=
  CallFix p m c cc nL s args (y0 :: aw) own ∧ wK D cy z (wA w ad) s ∧ wI w ad ∧ meth.locks = false
theorem wX.hx (X : wX p m c cc nL s args meth y0 own w ad D cy z) : p.tables.exec = Jvm.exec := X.1.1
theorem wX.hb (X : wX p m c cc nL s args meth y0 own w ad D cy z) : c.code = cc := X.1.2.1
theorem wX.ml (X : wX p m c cc nL s args meth y0 own w ad D cy z) : c.maxLocals = nL := X.1.2.2.1
theorem wX.ow (X : wX p m c cc nL s args meth y0 own w ad D cy z) : s.vm.findClass own = some m.cls := X.1.2.2.2.1
theorem wX.ts (X : wX p m c cc nL s args meth y0 own w ad D cy z) : ∀ x ∈ y0 :: aw, x.before args s = true := X.1.2.2.2.2
theorem wX.tw (X : wX p m c cc nL s args meth y0 own w ad D cy z) {x : Cond} (h : x ∈ aw) : x.before args s = true := X.ts x (List.mem_cons_of_mem _ h)
theorem wX.nst (X : wX p m c cc nL s args meth y0 own w ad D cy z) {x : Cond} (h : x ∈ lw_tbl) (hn : isNest x = true) : va_Nw x s := X.2.1.2.1 x h hn
theorem wr_get (X : wX p m c cc nL s args meth y0 own w ad D cy z) (hw : wH w ad D cy s σ H locs) {cid ci N : Nat} {C : String} {T : u_T} (hsh : w.1 cid = (0, ci, N)) (hcn : cid < w.2.2) (hc : vwCl[ci]? = some (C, T, N)) (huw : ∀ x ∈ u_ws C T N, x ∈ aw) (k : Nat) (hk : k < N) {nm ds : String} (hT : (T k).1 = C ∧ (T k).2.1 = nm ∧ (T k).2.2.1 = ds) {v : Value} (hv : (wfld w ad σ ci N cid)[k]? = some v) {index : Nat} (hlink : Cond.fieldLink own index C nm ds ∈ aw) (hdg : decode cc pc = .ok (.getfield index, 3))
    (kk : W p l e R s m args below meth c H locs 0 0 Q (F0 m (pc + 3) ls (v :: rest))) : W p l e R s m args below meth c H locs 0 0 Q (F0 m pc ls (.ref (ad cid) :: rest)) := by
  obtain ⟨h1, rfl, rfl⟩ := hT
  exact va_get X.hx X.hb X.ts (fun x h => List.mem_cons_of_mem _ (huw x h)) X.ow X.2.1.1 hw.1 cid (wl_at hcn (went_obj hsh)) hc k hk (X.tw hlink) (by rw [h1]; exact fun _ h => h) hv hdg kk
theorem wr_getN (X : wX p m c cc nL s args meth y0 own w ad D cy z) (hw : wH w ad D cy s σ H locs) {cid ci N : Nat} {C host : String} {T : u_T} (hsh : w.1 cid = (0, ci, N)) (hcn : cid < w.2.2) (hc : vwCl[ci]? = some (C, T, N)) (huw : ∀ x ∈ u_ws C T N, x ∈ aw) (k : Nat) (hk : k < N) {nm ds : String} (hT : (T k).1 = C ∧ (T k).2.1 = nm ∧ (T k).2.2.1 = ds) {v : Value} (hv : (wfld w ad σ ci N cid)[k]? = some v) {index : Nat} (hlink : Cond.fieldLinkNest own index C nm ds host ∈ lw_tbl) (hdg : decode cc pc = .ok (.getfield index, 3))
    (kk : W p l e R s m args below meth c H locs 0 0 Q (F0 m (pc + 3) ls (v :: rest))) : W p l e R s m args below meth c H locs 0 0 Q (F0 m pc ls (.ref (ad cid) :: rest)) := by
  obtain ⟨h1, rfl, rfl⟩ := hT
  exact va_getN X.hx X.hb X.ts (fun x h => List.mem_cons_of_mem _ (huw x h)) X.ow X.2.1.1 hw.1 cid (wl_at hcn (went_obj hsh)) hc k hk (va_Nw.use rfl (X.nst hlink rfl)) (by rw [h1]; exact fun _ h => h) hv hdg kk
theorem wH.seti (hw : wH w ad D cy s σ H locs) {H1 : Heap} {locs1 : List Loc} {b : Nat} {σ' : St} {e : va_E} (hP : va_P D vwCl ((wl w ad cy σ).set b (ad b, e)) H1) (hS : va_S (wA w ad) s.heap H1 locs1) (he : went w ad cy σ' b = e) (ho : ∀ d, d ≠ b → went w ad cy σ' d = went w ad cy σ d) : wH w ad D cy s σ' H1 locs1 := ⟨by rw [← wl_set he ho]; exact hP, hS⟩
theorem wr_put (X : wX p m c cc nL s args meth y0 own w ad D cy z) (hw : wH w ad D cy s σ H locs) {cid ci N : Nat} {C host : String} {T : u_T} (hsh : w.1 cid = (0, ci, N)) (hcn : cid < w.2.2) (hc : vwCl[ci]? = some (C, T, N)) (huw : ∀ x ∈ u_ws C T N, x ∈ aw) (ty0 : Nat → FieldType) (hty : ∀ k, k < N → parseFieldDescriptor (T k).2.2.1 = some (ty0 k)) (hnm : ∀ a, a < N → ∀ b, b < N → a ≠ b → (T a).2.1 ≠ (T b).2.1) (k : Nat) (hk : k < N) {nm ds : String} (hT : (T k).1 = C ∧ (T k).2.1 = nm ∧ (T k).2.2.1 = ds ∧ (T k).2.2.2 = false) (hd : parseFieldDescriptor ds = some .int) (hf : fk ci k = 0) {v : Int32} {index : Nat} (hlink : Cond.fieldLink own index C nm ds ∈ aw) (hdg : decode cc pc = .ok (.putfield index, 3))
    (kk : ∀ (H1 : Heap) (locs1 : List Loc), wH w ad D cy s (si σ cid k v) H1 locs1 → W p l e R s m args below meth c H1 locs1 0 0 Q (F0 m (pc + 3) ls rest)) : W p l e R s m args below meth c H locs 0 0 Q (F0 m pc ls (.int v :: .ref (ad cid) :: rest)) := by
  obtain ⟨h1, rfl, rfl, h4⟩ := hT
  refine va_put (ty := .int) (v := .int v) X.hx X.hb X.ts (fun x h => List.mem_cons_of_mem _ (huw x h)) ty0 hty hnm X.ow X.2.1.1 hw.1 (wD X.2.2.1 cy σ) hw.2 cid (wl_at hcn (went_obj hsh)) hc k hk (X.tw hlink) (by rw [h1]; exact fun _ h => h) h4 hd rfl rfl (by rw [wfld_len]; exact hk) hdg (fun H1 locs1 hP _ hS => kk H1 locs1 (hw.seti hP hS ?_ (fun d hd => went_same (si_ne hd) rfl)))
  rw [went_obj hsh, wfld_set hf]
theorem wr_putL (X : wX p m c cc nL s args meth y0 own w ad D cy z) (hw : wH w ad D cy s σ H locs) {cid ci N : Nat} {C host : String} {T : u_T} (hsh : w.1 cid = (0, ci, N)) (hcn : cid < w.2.2) (hc : vwCl[ci]? = some (C, T, N)) (huw : ∀ x ∈ u_ws C T N, x ∈ aw) (ty0 : Nat → FieldType) (hty : ∀ k, k < N → parseFieldDescriptor (T k).2.2.1 = some (ty0 k)) (hnm : ∀ a, a < N → ∀ b, b < N → a ≠ b → (T a).2.1 ≠ (T b).2.1) (k : Nat) (hk : k < N) {nm ds : String} (hT : (T k).1 = C ∧ (T k).2.1 = nm ∧ (T k).2.2.1 = ds ∧ (T k).2.2.2 = false) (hd : parseFieldDescriptor ds = some .long) (hf : fk ci k = 1) {v : Int64} {index : Nat} (hlink : Cond.fieldLink own index C nm ds ∈ aw) (hdg : decode cc pc = .ok (.putfield index, 3))
    (kk : ∀ (H1 : Heap) (locs1 : List Loc), wH w ad D cy s (sj σ cid k v) H1 locs1 → W p l e R s m args below meth c H1 locs1 0 0 Q (F0 m (pc + 3) ls rest)) : W p l e R s m args below meth c H locs 0 0 Q (F0 m pc ls (.long v :: .ref (ad cid) :: rest)) := by
  obtain ⟨h1, rfl, rfl, h4⟩ := hT
  refine va_put (ty := .long) (v := .long v) X.hx X.hb X.ts (fun x h => List.mem_cons_of_mem _ (huw x h)) ty0 hty hnm X.ow X.2.1.1 hw.1 (wD X.2.2.1 cy σ) hw.2 cid (wl_at hcn (went_obj hsh)) hc k hk (X.tw hlink) (by rw [h1]; exact fun _ h => h) h4 hd rfl rfl (by rw [wfld_len]; exact hk) hdg (fun H1 locs1 hP _ hS => kk H1 locs1 (hw.seti hP hS ?_ (fun d hd => went_same rfl (sj_ne hd))))
  rw [went_obj hsh, wfld_setL hf]
theorem wr_putN (X : wX p m c cc nL s args meth y0 own w ad D cy z) (hw : wH w ad D cy s σ H locs) {cid ci N : Nat} {C host : String} {T : u_T} (hsh : w.1 cid = (0, ci, N)) (hcn : cid < w.2.2) (hc : vwCl[ci]? = some (C, T, N)) (huw : ∀ x ∈ u_ws C T N, x ∈ aw) (ty0 : Nat → FieldType) (hty : ∀ k, k < N → parseFieldDescriptor (T k).2.2.1 = some (ty0 k)) (hnm : ∀ a, a < N → ∀ b, b < N → a ≠ b → (T a).2.1 ≠ (T b).2.1) (k : Nat) (hk : k < N) {nm ds : String} (hT : (T k).1 = C ∧ (T k).2.1 = nm ∧ (T k).2.2.1 = ds ∧ (T k).2.2.2 = false) (hd : parseFieldDescriptor ds = some .int) (hf : fk ci k = 0) {v : Int32} {index : Nat} (hlink : Cond.fieldLinkNest own index C nm ds host ∈ lw_tbl) (hdg : decode cc pc = .ok (.putfield index, 3))
    (kk : ∀ (H1 : Heap) (locs1 : List Loc), wH w ad D cy s (si σ cid k v) H1 locs1 → W p l e R s m args below meth c H1 locs1 0 0 Q (F0 m (pc + 3) ls rest)) : W p l e R s m args below meth c H locs 0 0 Q (F0 m pc ls (.int v :: .ref (ad cid) :: rest)) := by
  obtain ⟨h1, rfl, rfl, h4⟩ := hT
  refine va_putN (ty := .int) (v := .int v) X.hx X.hb X.ts (fun x h => List.mem_cons_of_mem _ (huw x h)) ty0 hty hnm X.ow X.2.1.1 hw.1 (wD X.2.2.1 cy σ) hw.2 cid (wl_at hcn (went_obj hsh)) hc k hk (va_Nw.use rfl (X.nst hlink rfl)) (by rw [h1]; exact fun _ h => h) h4 hd rfl rfl (by rw [wfld_len]; exact hk) hdg (fun H1 locs1 hP _ hS => kk H1 locs1 (hw.seti hP hS ?_ (fun d hd => went_same (si_ne hd) rfl)))
  rw [went_obj hsh, wfld_set hf]
theorem wr_putLN (X : wX p m c cc nL s args meth y0 own w ad D cy z) (hw : wH w ad D cy s σ H locs) {cid ci N : Nat} {C host : String} {T : u_T} (hsh : w.1 cid = (0, ci, N)) (hcn : cid < w.2.2) (hc : vwCl[ci]? = some (C, T, N)) (huw : ∀ x ∈ u_ws C T N, x ∈ aw) (ty0 : Nat → FieldType) (hty : ∀ k, k < N → parseFieldDescriptor (T k).2.2.1 = some (ty0 k)) (hnm : ∀ a, a < N → ∀ b, b < N → a ≠ b → (T a).2.1 ≠ (T b).2.1) (k : Nat) (hk : k < N) {nm ds : String} (hT : (T k).1 = C ∧ (T k).2.1 = nm ∧ (T k).2.2.1 = ds ∧ (T k).2.2.2 = false) (hd : parseFieldDescriptor ds = some .long) (hf : fk ci k = 1) {v : Int64} {index : Nat} (hlink : Cond.fieldLinkNest own index C nm ds host ∈ lw_tbl) (hdg : decode cc pc = .ok (.putfield index, 3))
    (kk : ∀ (H1 : Heap) (locs1 : List Loc), wH w ad D cy s (sj σ cid k v) H1 locs1 → W p l e R s m args below meth c H1 locs1 0 0 Q (F0 m (pc + 3) ls rest)) : W p l e R s m args below meth c H locs 0 0 Q (F0 m pc ls (.long v :: .ref (ad cid) :: rest)) := by
  obtain ⟨h1, rfl, rfl, h4⟩ := hT
  refine va_putN (ty := .long) (v := .long v) X.hx X.hb X.ts (fun x h => List.mem_cons_of_mem _ (huw x h)) ty0 hty hnm X.ow X.2.1.1 hw.1 (wD X.2.2.1 cy σ) hw.2 cid (wl_at hcn (went_obj hsh)) hc k hk (va_Nw.use rfl (X.nst hlink rfl)) (by rw [h1]; exact fun _ h => h) h4 hd rfl rfl (by rw [wfld_len]; exact hk) hdg (fun H1 locs1 hP _ hS => kk H1 locs1 (hw.seti hP hS ?_ (fun d hd => went_same rfl (sj_ne hd))))
  rw [went_obj hsh, wfld_setL hf]
theorem wr_iald (X : wX p m c cc nL s args meth y0 own w ad D cy z) (hw : wH w ad D cy s σ H locs) {b n x : Nat} (hsh : w.1 b = (1, n, x)) (hbn : b < w.2.2) {i : Int32} (hin : ib i n = true) (hdg : decode cc pc = .ok (.iaload, 1))
    (kk : W p l e R s m args below meth c H locs 0 0 Q (F0 m (pc + 1) ls (.int (σ.1 b i.toNatClampNeg) :: rest))) : W p l e R s m args below meth c H locs 0 0 Q (F0 m pc ls (.int i :: .ref (ad b) :: rest)) :=
  va_iald X.hx X.hb X.2.1.1 hw.1 b 0 (wl_at hbn (went_i hsh)) rfl (ib_in hin) hdg kk
theorem wr_bald (X : wX p m c cc nL s args meth y0 own w ad D cy z) (hw : wH w ad D cy s σ H locs) {b n x : Nat} (hsh : w.1 b = (3, n, x)) (hbn : b < w.2.2) {i : Int32} (hin : ib i n = true) (hdg : decode cc pc = .ok (.baload, 1))
    (kk : W p l e R s m args below meth c H locs 0 0 Q (F0 m (pc + 1) ls (.int (σ.1 b i.toNatClampNeg) :: rest))) : W p l e R s m args below meth c H locs 0 0 Q (F0 m pc ls (.int i :: .ref (ad b) :: rest)) :=
  va_bald X.hx X.hb X.2.1.1 hw.1 b 2 (wl_at hbn (went_b hsh)) rfl (ib_in hin) hdg kk
theorem wr_zald (X : wX p m c cc nL s args meth y0 own w ad D cy z) (hw : wH w ad D cy s σ H locs) {b n x : Nat} (hsh : w.1 b = (4, n, x)) (hbn : b < w.2.2) {i : Int32} (hin : ib i n = true) (hdg : decode cc pc = .ok (.baload, 1))
    (kk : W p l e R s m args below meth c H locs 0 0 Q (F0 m (pc + 1) ls (.int (σ.1 b i.toNatClampNeg) :: rest))) : W p l e R s m args below meth c H locs 0 0 Q (F0 m pc ls (.int i :: .ref (ad b) :: rest)) :=
  va_zald X.hx X.hb X.2.1.1 hw.1 b 3 (wl_at hbn (went_z hsh)) rfl (ib_in hin) hdg kk
theorem wr_lald (X : wX p m c cc nL s args meth y0 own w ad D cy z) (hw : wH w ad D cy s σ H locs) {b n x : Nat} (hsh : w.1 b = (2, n, x)) (hbn : b < w.2.2) {i : Int32} (hin : ib i n = true) (hdg : decode cc pc = .ok (.laload, 1))
    (kk : W p l e R s m args below meth c H locs 0 0 Q (F0 m (pc + 1) ls (.long (σ.2 b i.toNatClampNeg) :: rest))) : W p l e R s m args below meth c H locs 0 0 Q (F0 m pc ls (.int i :: .ref (ad b) :: rest)) :=
  va_lald X.hx X.hb X.2.1.1 hw.1 b 1 (wl_at hbn (went_j hsh)) rfl (ib_in hin) hdg kk
theorem wr_iast (X : wX p m c cc nL s args meth y0 own w ad D cy z) (hw : wH w ad D cy s σ H locs) {b n q : Nat} (hsh : w.1 b = (1, n, q)) (hbn : b < w.2.2) {i : Int32} {x : Int32} (hin : ib i n = true) (hdg : decode cc pc = .ok (.iastore, 1))
    (kk : ∀ (H1 : Heap) (locs1 : List Loc), wH w ad D cy s (si σ b i.toNatClampNeg x) H1 locs1 → W p l e R s m args below meth c H1 locs1 0 0 Q (F0 m (pc + 1) ls rest)) : W p l e R s m args below meth c H locs 0 0 Q (F0 m pc ls (.int x :: .int i :: .ref (ad b) :: rest)) := by
  refine va_iast X.hx X.hb X.2.1.1 hw.1 (wD X.2.2.1 cy σ) hw.2 b 0 (wl_at hbn (went_i hsh)) rfl (ib_in hin) hdg (fun H1 locs1 hP _ hS => kk H1 locs1 (hw.seti hP hS ?_ (fun d hd => went_same (si_ne hd) rfl)))
  rw [went_i hsh, si_eq]
theorem wr_bast (X : wX p m c cc nL s args meth y0 own w ad D cy z) (hw : wH w ad D cy s σ H locs) {b n q : Nat} (hsh : w.1 b = (3, n, q)) (hbn : b < w.2.2) {i : Int32} {x : Int32} (hin : ib i n = true) (hdg : decode cc pc = .ok (.bastore, 1))
    (kk : ∀ (H1 : Heap) (locs1 : List Loc), wH w ad D cy s (si σ b i.toNatClampNeg (vp_nar .byte x)) H1 locs1 → W p l e R s m args below meth c H1 locs1 0 0 Q (F0 m (pc + 1) ls rest)) : W p l e R s m args below meth c H locs 0 0 Q (F0 m pc ls (.int x :: .int i :: .ref (ad b) :: rest)) := by
  refine va_bast X.hx X.hb X.2.1.1 hw.1 (wD X.2.2.1 cy σ) hw.2 b 2 (wl_at hbn (went_b hsh)) rfl (ib_in hin) hdg (fun H1 locs1 hP _ hS => kk H1 locs1 (hw.seti hP hS ?_ (fun d hd => went_same (si_ne hd) rfl)))
  rw [went_b hsh, si_eq]
theorem wr_zast (X : wX p m c cc nL s args meth y0 own w ad D cy z) (hw : wH w ad D cy s σ H locs) {b n q : Nat} (hsh : w.1 b = (4, n, q)) (hbn : b < w.2.2) {i : Int32} {x : Int32} (hin : ib i n = true) (hdg : decode cc pc = .ok (.bastore, 1))
    (kk : ∀ (H1 : Heap) (locs1 : List Loc), wH w ad D cy s (si σ b i.toNatClampNeg (vp_nar .boolean x)) H1 locs1 → W p l e R s m args below meth c H1 locs1 0 0 Q (F0 m (pc + 1) ls rest)) : W p l e R s m args below meth c H locs 0 0 Q (F0 m pc ls (.int x :: .int i :: .ref (ad b) :: rest)) := by
  refine va_zast X.hx X.hb X.2.1.1 hw.1 (wD X.2.2.1 cy σ) hw.2 b 3 (wl_at hbn (went_z hsh)) rfl (ib_in hin) hdg (fun H1 locs1 hP _ hS => kk H1 locs1 (hw.seti hP hS ?_ (fun d hd => went_same (si_ne hd) rfl)))
  rw [went_z hsh, si_eq]
theorem wr_last (X : wX p m c cc nL s args meth y0 own w ad D cy z) (hw : wH w ad D cy s σ H locs) {b n q : Nat} (hsh : w.1 b = (2, n, q)) (hbn : b < w.2.2) {i : Int32} {x : Int64} (hin : ib i n = true) (hdg : decode cc pc = .ok (.lastore, 1))
    (kk : ∀ (H1 : Heap) (locs1 : List Loc), wH w ad D cy s (sj σ b i.toNatClampNeg x) H1 locs1 → W p l e R s m args below meth c H1 locs1 0 0 Q (F0 m (pc + 1) ls rest)) : W p l e R s m args below meth c H locs 0 0 Q (F0 m pc ls (.long x :: .int i :: .ref (ad b) :: rest)) := by
  refine va_last X.hx X.hb X.2.1.1 hw.1 (wD X.2.2.1 cy σ) hw.2 b 1 (wl_at hbn (went_j hsh)) rfl (ib_in hin) hdg (fun H1 locs1 hP _ hS => kk H1 locs1 (hw.seti hP hS ?_ (fun d hd => went_same rfl (sj_ne hd))))
  rw [went_j hsh, sj_eq]
theorem wr_aald (X : wX p m c cc nL s args meth y0 own w ad D cy z) (hw : wH w ad D cy s σ H locs) {b n x : Nat} (hsh : w.1 b = (5, n, x)) (hbn : b < w.2.2) {i : Int32} (hin : ib i n = true) (hdg : decode cc pc = .ok (.aaload, 1))
    (kk : W p l e R s m args below meth c H locs 0 0 Q (F0 m (pc + 1) ls (.ref (ad (w.2.1 b i.toNatClampNeg)) :: rest))) : W p l e R s m args below meth c H locs 0 0 Q (F0 m pc ls (.int i :: .ref (ad b) :: rest)) :=
  va_aldq X.hx X.hb X.2.1.1 hw.1 b 4 (wl_at hbn (went_r hsh)) rfl (ib_in hin) hdg kk
theorem wr_alen (X : wX p m c cc nL s args meth y0 own w ad D cy z) (hw : wH w ad D cy s σ H locs) {b n x t : Nat} (hsh : w.1 b = (t + 1, n, x)) (hbn : b < w.2.2) (ht : t < 5) {v : Int32} (hv : Int32.ofNat n = v) (hdg : decode cc pc = .ok (.arraylength, 1))
    (kk : W p l e R s m args below meth c H locs 0 0 Q (F0 m (pc + 1) ls (.int v :: rest))) : W p l e R s m args below meth c H locs 0 0 Q (F0 m pc ls (.ref (ad b) :: rest)) := by
  match t, ht with
  | 0, _ => exact va_alen X.hx X.hb X.2.1.1 hw.1 b 0 (wl_at hbn (went_i hsh)) rfl hv hdg kk
  | 1, _ => exact va_alen X.hx X.hb X.2.1.1 hw.1 b 1 (wl_at hbn (went_j hsh)) rfl hv hdg kk
  | 2, _ => exact va_alen X.hx X.hb X.2.1.1 hw.1 b 2 (wl_at hbn (went_b hsh)) rfl hv hdg kk
  | 3, _ => exact va_alen X.hx X.hb X.2.1.1 hw.1 b 3 (wl_at hbn (went_z hsh)) rfl hv hdg kk
  | 4, _ => exact va_alen X.hx X.hb X.2.1.1 hw.1 b 4 (wl_at hbn (went_r hsh)) rfl hv hdg kk
/-- a method's contract: from a world that holds σ, with the arguments av -/
def wC (w : Wd) (ad : Nat → Nat) (D : va_G) (cy : Nat → ClassId) (z : wStr) (l : Launch) (y : MethodName) (ws : List Cond) (f n : Nat) (av : List Value) (σ : St) (Qc : Array Value → State → Outcome → State → Prop) : Prop :=
  Met l y ws { frames := f, cells := 0, slots := 0, locals := n } (va_Pc av (fun U => va_P D vwCl (wl w ad cy σ) U.heap ∧ wK D cy z (wA w ad) U)) Qc 0 0 (wA w ad)
def wQi (w : Wd) (ad : Nat → Nat) (D : va_G) (cy : Nat → ClassId) (r : Int32) (σ : St) : Array Value → State → Outcome → State → Prop := va_Qi (fun x (_ : Unit) => x = r) (fun _ t => va_P D vwCl (wl w ad cy σ) t.heap) (wA w ad)
def wQl (w : Wd) (ad : Nat → Nat) (D : va_G) (cy : Nat → ClassId) (r : Int64) (σ : St) : Array Value → State → Outcome → State → Prop := va_Ql (fun x (_ : Unit) => x = r) (fun _ t => va_P D vwCl (wl w ad cy σ) t.heap) (wA w ad)
def wQv (w : Wd) (ad : Nat → Nat) (D : va_G) (cy : Nat → ClassId) (σ : St) : Array Value → State → Outcome → State → Prop := va_Qv (fun (_ : Unit) => True) (fun _ t => va_P D vwCl (wl w ad cy σ) t.heap) (wA w ad)
def wQr (w : Wd) (ad : Nat → Nat) (D : va_G) (cy : Nat → ClassId) (b : Nat) (σ : St) : Array Value → State → Outcome → State → Prop := va_Qr (fun (_ : Unit) => True) (fun _ a t => a = ad b ∧ va_P D vwCl (wl w ad cy σ) t.heap) (wA w ad)
theorem wN.moved {u U : State} (h : wN u) (hW : u.WarmedH U.vm) : wN U := by
  intro x hx hn
  have h0 := h x hx hn
  cases x with
  | methodLinkNest a i y h => exact va_Nw.warmM hW h0
  | fieldLinkNest a i b n d h => exact va_Nw.warmF hW h0
  | _ => cases hn
theorem wK.calling {A : Nat → Prop} {U : State} (h : wK D cy z A U) (g : JFrame) (mk : MethodId) (a : Array Value) : wK D cy z A (U.calling g mk a) := by
  obtain ⟨h1, h2, h3, h4, h5, h6, h7⟩ := h
  refine ⟨va_K.moved (u := U) (U := U.calling g mk a) (Vm.Alike.refl U.vm) h1, fun x hx hn => ?_, ?_, vk_R.same (u := U) rfl h4, vk_R.same (u := U) rfl h5, va_Z.moved (u := U) (U := U.calling g mk a) (Vm.Alike.refl U.vm) h6, va_Zq.moved (u := U) (U := U.calling g mk a) (Vm.Alike.refl U.vm) h7⟩
  · have h0 := h2 x hx hn
    refine va_Nw.same ?_ (u := U) rfl h0
    cases x <;> first | rfl | cases hn
  · exact vk_S.moved (u := U) (U := U.calling g mk a) (Vm.Alike.refl U.vm) h3
theorem wK.moved {A : Nat → Prop} {U : State} {H : Heap} {locs : List Loc} (h : wK D cy z A s) (hS : va_S A s.heap H locs) (hU : U.heap = H) (hW : s.WarmedH U.vm) : wK D cy z A U := by
  obtain ⟨h1, h2, h3, h4, h5, h6, h7⟩ := h
  refine ⟨va_K.moved hW.alike h1, h2.moved hW, ?_, h4.warm hW, h5.warm hW, ?_, ?_⟩
  · rw [hU]
    exact vk_S.moved hW.alike (h3.kept hS.2.1)
  · rw [hU]
    exact va_Z.moved hW.alike (h6.kept hS.2.1)
  · rw [hU]
    exact va_Zq.moved hW.alike (h7.kept hS.2.1)
theorem wPc_blind {A : Nat → Prop} {av : List Value} : FrameBlind (va_Pc av (fun U => va_P D vwCl (wl w ad cy σ) U.heap ∧ wK D cy z A U)) := fun a U g mk q => ⟨q.1, q.2.1, q.2.2.calling g mk a⟩
theorem Met.ofF {y : MethodName} {ws ws' : List Cond} {rm : Room} {Pc : Array Value → State → Prop} {Qc : Array Value → State → Outcome → State → Prop} {mc ms : Nat} {free : Addr → Prop} {cc : ByteArray} {maxL : Nat} {ret : Option FieldType}
    (hy : plainFor y = true) (hw : ws = Cond.code y cc maxL ret :: ws')
    (body : ∀ p e s m args below meth c s₁, BodyLoose p l y (headSpec ws rm) cc maxL ret e s m args below meth c s₁ → c.maxLocals = maxL → Pc args s →
      W p l e (headSpec ws rm).room s m args below meth c s.heap [] 0 0 (MQ below Qc args s mc ms free) (entryFrame m args maxL)) : Met l y ws rm Pc Qc mc ms free := by
  refine MetFree.of_bodySF (code := cc) (maxLocals := maxL) (ret := ret) hy ?_ ?_
  · intro args s m h hn
    obtain ⟨meth, c, h1, h2, h3, h4, h5, h6, -, -⟩ := Cond.code_spec hn (atoms_spec (ws := ws) h _ (by rw [hw]; exact List.mem_cons_self))
    exact ⟨meth, c, h1, h2, h3, h4, h5, h6⟩
  · intro p e s m args below meth c s₁ B hml hP _
    have hh0 : s₁.heap = s.heap := by rw [B.state]; rfl
    obtain ⟨t, a1, o, b1, b2, b3⟩ := body p e s m args below meth c s₁ B hml hP s₁ hh0 (Stand.of_body B)
    exact ⟨t, o, a1, b1, b2, ⟨b3.1, b3.2⟩⟩
theorem wr_start {y : MethodName} {ws : List Cond} {f n maxL : Nat} {av : List Value} {ret : Option FieldType} {Qc : Array Value → State → Outcome → State → Prop} (hI : wI w ad)
    (hy : plainFor y = true) (hws : ws = Cond.code y cc maxL ret :: aw) (hlen : (lg_sl av).length ≤ maxL) (hown : y.cls = own)
    (body : ∀ (p : Program) (e : Env) (s : State) (m : MethodId) (below : List Frame) (meth : Method) (c : Code) (ls : Array Slot), wX p m c cc maxL s av.toArray meth (Cond.code y cc maxL ret) own w ad D cy z → wH w ad D cy s σ s.heap [] → meth.sig.returnType = ret → lv_has ls maxL (lv_args 0 av) →
      W p l e { frames := f, cells := 0, slots := 0, locals := n } s m av.toArray below meth c s.heap [] 0 0 (MQ below Qc av.toArray s 0 0 (wA w ad)) (F0 m 0 ls [])) : wC w ad D cy z l y ws f n av σ Qc := by
  refine Met.ofF (cc := cc) (maxL := maxL) (ret := ret) hy hws ?_
  intro p e s m args below meth c s₁ B hml hv
  obtain ⟨rfl, hP, hK⟩ := hv
  subst hws
  rw [lg_entry_eq]
  refine body p e s m below meth c _ ⟨⟨B.exec, B.bytes, hml, ?_, atoms_spec (ws := Cond.code y cc maxL ret :: aw) B.pre⟩, hK, hI, B.notSynchronized⟩ ⟨hP, va_S.rf⟩ B.returns (lv_entry av hlen)
  rw [← hown]
  exact findClass_of_methodNamed B.named
theorem wr_cVi (X : wX p m c cc nL s args meth y0 own w ad D cy z) (hw : wH w ad D cy s σ H locs) (hl : ls.size = nL) {y : MethodName} {bytes : ByteArray} {maxL f n k index : Nat} {ret : Option FieldType} {av : List Value} {σ' : St} {r : Int32} {st : List Value} {cid ci N : Nat} {C : String} {T : u_T} (hsh : w.1 cid = (0, ci, N)) (hcn : cid < w.2.2) (hc : vwCl[ci]? = some (C, T, N)) (hC : wC w ad D cy z l y (Cond.code y bytes maxL ret :: aw) f n (.ref (ad cid) :: av) σ (wQi w ad D cy r σ')) (hlen : av.length = k) (hm1 : Cond.methodLink own index y ∈ aw) (hm2 : Cond.instanceMethod y ∈ aw) (hm3 : Cond.selects C y y ∈ aw) (hm4 : Cond.initialized C ∈ aw) (hm5 : Cond.code y bytes maxL ret ∈ aw)
    (hd : y.cls = C ∧ y.cls ≠ "java/lang/invoke/MethodHandle" ∧ y.cls ≠ "java/lang/invoke/VarHandle" ∧ (parseMethodDescriptor y.desc).map (fun d => d.parameters.length) = some k) (hR : f + 1 ≤ R.frames ∧ 8 + (maxL + 11) + n ≤ R.locals) (hcat : (rest.map fun v => v.category).sum ≤ 8) (hdg : decode cc pc = .ok (.invokevirtual index, 3)) (hst : st = av.reverse ++ .ref (ad cid) :: rest)
    (kk : ∀ (H1 : Heap) (locs1 : List Loc), wH w ad D cy s σ' H1 locs1 → W p l e R s m args below meth c H1 locs1 0 0 Q (F0 m (pc + 3) ls (.int r :: rest))) : W p l e R s m args below meth c H locs 0 0 Q (F0 m pc ls st) := by
  subst hst
  have hG : GoodIn (y0 :: aw) (wsV own index C y (Cond.code y bytes maxL ret :: aw)) := by
    intro x hx
    have : x ∈ aw := by
      simp only [wsV, List.cons_append, List.nil_append, List.mem_cons] at hx
      rcases hx with rfl | rfl | rfl | rfl | rfl | hx
      · exact hm1
      · exact hm2
      · exact hm3
      · exact hm4
      · exact hm5
      · exact hx
    exact ⟨List.mem_cons_of_mem _ this, good_of_word (List.mem_filter.mp this).2⟩
  refine va_calli (va_runV (rest := rest) X.1 hC (cwV k X.ts hG rfl rfl rfl hd ⟨hR.1, hR.2⟩) ⟨wPc_blind, va_recv X.2.1.1 hw.1 hc (wl_at hcn (went_obj hsh)), fun U hU hW => ⟨rfl, by rw [hU]; exact hw.1, X.2.1.moved hw.2 hU hW⟩⟩ rfl hlen hl rfl (lv_room hcat) hdg ⟨Nat.zero_le _, Nat.zero_le _⟩) hw.2 (fun _ _ h => h) (fun _ h => h) (fun r2 u t H1 locs1 ht hvm hw1 hB hz hk hS => by
    subst hw1
    exact kk H1 locs1 ⟨by rw [← ht]; exact hB, hS⟩)
theorem wr_cNi (X : wX p m c cc nL s args meth y0 own w ad D cy z) (hw : wH w ad D cy s σ H locs) (hl : ls.size = nL) {y : MethodName} {bytes : ByteArray} {maxL f n k index : Nat} {ret : Option FieldType} {av : List Value} {σ' : St} {r : Int32} {st : List Value} {cid ci N : Nat} {C host : String} {T : u_T} (hsh : w.1 cid = (0, ci, N)) (hcn : cid < w.2.2) (hc : vwCl[ci]? = some (C, T, N)) (hC : wC w ad D cy z l y (Cond.code y bytes maxL ret :: aw) f n (.ref (ad cid) :: av) σ (wQi w ad D cy r σ')) (hlen : av.length = k) (hm1 : Cond.methodLinkNest own index y host ∈ lw_tbl) (hm2 : Cond.instanceMethod y ∈ aw) (hm3 : Cond.selects C y y ∈ aw) (hm4 : Cond.initialized C ∈ aw) (hm5 : Cond.code y bytes maxL ret ∈ aw)
    (hd : y.cls = C ∧ y.cls ≠ "java/lang/invoke/MethodHandle" ∧ y.cls ≠ "java/lang/invoke/VarHandle" ∧ (parseMethodDescriptor y.desc).map (fun d => d.parameters.length) = some k) (hR : f + 1 ≤ R.frames ∧ 8 + (maxL + 11) + n ≤ R.locals) (hcat : (rest.map fun v => v.category).sum ≤ 8) (hdg : decode cc pc = .ok (.invokevirtual index, 3)) (hst : st = av.reverse ++ .ref (ad cid) :: rest)
    (kk : ∀ (H1 : Heap) (locs1 : List Loc), wH w ad D cy s σ' H1 locs1 → W p l e R s m args below meth c H1 locs1 0 0 Q (F0 m (pc + 3) ls (.int r :: rest))) : W p l e R s m args below meth c H locs 0 0 Q (F0 m pc ls st) := by
  subst hst
  have hG : GoodIn (y0 :: aw) (Cond.code y bytes maxL ret :: aw) := by
    intro x hx
    have : x ∈ aw := by
      rcases List.mem_cons.mp hx with rfl | hx
      · exact hm5
      · exact hx
    exact ⟨List.mem_cons_of_mem _ this, good_of_word (List.mem_filter.mp this).2⟩
  refine va_calli (va_runVN (rest := rest) (C := C) X.1 hC ⟨va_cnB k X.ts hG rfl rfl rfl (X.nst hm1 rfl) (X.tw (by rw [hd.1]; exact hm4)) ⟨hd.2.1, hd.2.2.1, hd.2.2.2⟩ ⟨hR.1, hR.2⟩, X.tw hm2, X.tw hm3⟩ ⟨wPc_blind, va_recv X.2.1.1 hw.1 hc (wl_at hcn (went_obj hsh)), fun U hU hW => ⟨rfl, by rw [hU]; exact hw.1, X.2.1.moved hw.2 hU hW⟩⟩ rfl hlen hl rfl (lv_room hcat) hdg ⟨Nat.zero_le _, Nat.zero_le _⟩) hw.2 (fun _ _ h => h) (fun _ h => h) (fun r2 u t H1 locs1 ht hvm hw1 hB hz hk hS => by
    subst hw1
    exact kk H1 locs1 ⟨by rw [← ht]; exact hB, hS⟩)
theorem wr_cSi (X : wX p m c cc nL s args meth y0 own w ad D cy z) (hw : wH w ad D cy s σ H locs) (hl : ls.size = nL) {y : MethodName} {bytes : ByteArray} {maxL f n k index : Nat} {ret : Option FieldType} {av : List Value} {σ' : St} {r : Int32} {st : List Value} (hC : wC w ad D cy z l y (Cond.code y bytes maxL ret :: aw) f n av σ (wQi w ad D cy r σ')) (hlen : av.length = k) (hm1 : Cond.methodLink own index y ∈ aw) (hm2 : Cond.static y ∈ aw) (hm4 : Cond.initialized y.cls ∈ aw) (hm5 : Cond.code y bytes maxL ret ∈ aw)
    (hd : y.cls ≠ "java/lang/invoke/MethodHandle" ∧ y.cls ≠ "java/lang/invoke/VarHandle" ∧ (parseMethodDescriptor y.desc).map (fun d => d.parameters.length) = some k) (hR : f + 1 ≤ R.frames ∧ 8 + (maxL + 11) + n ≤ R.locals) (hcat : (rest.map fun v => v.category).sum ≤ 8) (hdg : decode cc pc = .ok (.invokestatic index, 3)) (hst : st = av.reverse ++ rest)
    (kk : ∀ (H1 : Heap) (locs1 : List Loc), wH w ad D cy s σ' H1 locs1 → W p l e R s m args below meth c H1 locs1 0 0 Q (F0 m (pc + 3) ls (.int r :: rest))) : W p l e R s m args below meth c H locs 0 0 Q (F0 m pc ls st) := by
  subst hst
  have hG : GoodIn (y0 :: aw) (va_wsS own index y (Cond.code y bytes maxL ret :: aw)) := by
    intro x hx
    have : x ∈ aw := by
      simp only [va_wsS, List.cons_append, List.nil_append, List.mem_cons] at hx
      rcases hx with rfl | rfl | rfl | rfl | hx
      · exact hm1
      · exact hm2
      · exact hm4
      · exact hm5
      · exact hx
    exact ⟨List.mem_cons_of_mem _ this, good_of_word (List.mem_filter.mp this).2⟩
  refine va_calli (va_runS (rest := rest) X.1 hC (va_cwS k X.ts hG rfl rfl rfl hd ⟨hR.1, hR.2⟩) ⟨wPc_blind, fun U hU hW => ⟨rfl, by rw [hU]; exact hw.1, X.2.1.moved hw.2 hU hW⟩⟩ rfl hlen hl rfl (lv_room hcat) hdg ⟨Nat.zero_le _, Nat.zero_le _⟩) hw.2 (fun _ _ h => h) (fun _ h => h) (fun r2 u t H1 locs1 ht hvm hw1 hB hz hk hS => by
    subst hw1
    exact kk H1 locs1 ⟨by rw [← ht]; exact hB, hS⟩)
theorem wr_cVl (X : wX p m c cc nL s args meth y0 own w ad D cy z) (hw : wH w ad D cy s σ H locs) (hl : ls.size = nL) {y : MethodName} {bytes : ByteArray} {maxL f n k index : Nat} {ret : Option FieldType} {av : List Value} {σ' : St} {r : Int64} {st : List Value} {cid ci N : Nat} {C : String} {T : u_T} (hsh : w.1 cid = (0, ci, N)) (hcn : cid < w.2.2) (hc : vwCl[ci]? = some (C, T, N)) (hC : wC w ad D cy z l y (Cond.code y bytes maxL ret :: aw) f n (.ref (ad cid) :: av) σ (wQl w ad D cy r σ')) (hlen : av.length = k) (hm1 : Cond.methodLink own index y ∈ aw) (hm2 : Cond.instanceMethod y ∈ aw) (hm3 : Cond.selects C y y ∈ aw) (hm4 : Cond.initialized C ∈ aw) (hm5 : Cond.code y bytes maxL ret ∈ aw)
    (hd : y.cls = C ∧ y.cls ≠ "java/lang/invoke/MethodHandle" ∧ y.cls ≠ "java/lang/invoke/VarHandle" ∧ (parseMethodDescriptor y.desc).map (fun d => d.parameters.length) = some k) (hR : f + 1 ≤ R.frames ∧ 8 + (maxL + 11) + n ≤ R.locals) (hcat : (rest.map fun v => v.category).sum ≤ 8) (hdg : decode cc pc = .ok (.invokevirtual index, 3)) (hst : st = av.reverse ++ .ref (ad cid) :: rest)
    (kk : ∀ (H1 : Heap) (locs1 : List Loc), wH w ad D cy s σ' H1 locs1 → W p l e R s m args below meth c H1 locs1 0 0 Q (F0 m (pc + 3) ls (.long r :: rest))) : W p l e R s m args below meth c H locs 0 0 Q (F0 m pc ls st) := by
  subst hst
  have hG : GoodIn (y0 :: aw) (wsV own index C y (Cond.code y bytes maxL ret :: aw)) := by
    intro x hx
    have : x ∈ aw := by
      simp only [wsV, List.cons_append, List.nil_append, List.mem_cons] at hx
      rcases hx with rfl | rfl | rfl | rfl | rfl | hx
      · exact hm1
      · exact hm2
      · exact hm3
      · exact hm4
      · exact hm5
      · exact hx
    exact ⟨List.mem_cons_of_mem _ this, good_of_word (List.mem_filter.mp this).2⟩
  refine va_calll (va_runV (rest := rest) X.1 hC (cwV k X.ts hG rfl rfl rfl hd ⟨hR.1, hR.2⟩) ⟨wPc_blind, va_recv X.2.1.1 hw.1 hc (wl_at hcn (went_obj hsh)), fun U hU hW => ⟨rfl, by rw [hU]; exact hw.1, X.2.1.moved hw.2 hU hW⟩⟩ rfl hlen hl rfl (lv_room hcat) hdg ⟨Nat.zero_le _, Nat.zero_le _⟩) hw.2 (fun _ _ h => h) (fun _ h => h) (fun r2 u t H1 locs1 ht hvm hw1 hB hz hk hS => by
    subst hw1
    exact kk H1 locs1 ⟨by rw [← ht]; exact hB, hS⟩)
theorem wr_cNl (X : wX p m c cc nL s args meth y0 own w ad D cy z) (hw : wH w ad D cy s σ H locs) (hl : ls.size = nL) {y : MethodName} {bytes : ByteArray} {maxL f n k index : Nat} {ret : Option FieldType} {av : List Value} {σ' : St} {r : Int64} {st : List Value} {cid ci N : Nat} {C host : String} {T : u_T} (hsh : w.1 cid = (0, ci, N)) (hcn : cid < w.2.2) (hc : vwCl[ci]? = some (C, T, N)) (hC : wC w ad D cy z l y (Cond.code y bytes maxL ret :: aw) f n (.ref (ad cid) :: av) σ (wQl w ad D cy r σ')) (hlen : av.length = k) (hm1 : Cond.methodLinkNest own index y host ∈ lw_tbl) (hm2 : Cond.instanceMethod y ∈ aw) (hm3 : Cond.selects C y y ∈ aw) (hm4 : Cond.initialized C ∈ aw) (hm5 : Cond.code y bytes maxL ret ∈ aw)
    (hd : y.cls = C ∧ y.cls ≠ "java/lang/invoke/MethodHandle" ∧ y.cls ≠ "java/lang/invoke/VarHandle" ∧ (parseMethodDescriptor y.desc).map (fun d => d.parameters.length) = some k) (hR : f + 1 ≤ R.frames ∧ 8 + (maxL + 11) + n ≤ R.locals) (hcat : (rest.map fun v => v.category).sum ≤ 8) (hdg : decode cc pc = .ok (.invokevirtual index, 3)) (hst : st = av.reverse ++ .ref (ad cid) :: rest)
    (kk : ∀ (H1 : Heap) (locs1 : List Loc), wH w ad D cy s σ' H1 locs1 → W p l e R s m args below meth c H1 locs1 0 0 Q (F0 m (pc + 3) ls (.long r :: rest))) : W p l e R s m args below meth c H locs 0 0 Q (F0 m pc ls st) := by
  subst hst
  have hG : GoodIn (y0 :: aw) (Cond.code y bytes maxL ret :: aw) := by
    intro x hx
    have : x ∈ aw := by
      rcases List.mem_cons.mp hx with rfl | hx
      · exact hm5
      · exact hx
    exact ⟨List.mem_cons_of_mem _ this, good_of_word (List.mem_filter.mp this).2⟩
  refine va_calll (va_runVN (rest := rest) (C := C) X.1 hC ⟨va_cnB k X.ts hG rfl rfl rfl (X.nst hm1 rfl) (X.tw (by rw [hd.1]; exact hm4)) ⟨hd.2.1, hd.2.2.1, hd.2.2.2⟩ ⟨hR.1, hR.2⟩, X.tw hm2, X.tw hm3⟩ ⟨wPc_blind, va_recv X.2.1.1 hw.1 hc (wl_at hcn (went_obj hsh)), fun U hU hW => ⟨rfl, by rw [hU]; exact hw.1, X.2.1.moved hw.2 hU hW⟩⟩ rfl hlen hl rfl (lv_room hcat) hdg ⟨Nat.zero_le _, Nat.zero_le _⟩) hw.2 (fun _ _ h => h) (fun _ h => h) (fun r2 u t H1 locs1 ht hvm hw1 hB hz hk hS => by
    subst hw1
    exact kk H1 locs1 ⟨by rw [← ht]; exact hB, hS⟩)
theorem wr_cSl (X : wX p m c cc nL s args meth y0 own w ad D cy z) (hw : wH w ad D cy s σ H locs) (hl : ls.size = nL) {y : MethodName} {bytes : ByteArray} {maxL f n k index : Nat} {ret : Option FieldType} {av : List Value} {σ' : St} {r : Int64} {st : List Value} (hC : wC w ad D cy z l y (Cond.code y bytes maxL ret :: aw) f n av σ (wQl w ad D cy r σ')) (hlen : av.length = k) (hm1 : Cond.methodLink own index y ∈ aw) (hm2 : Cond.static y ∈ aw) (hm4 : Cond.initialized y.cls ∈ aw) (hm5 : Cond.code y bytes maxL ret ∈ aw)
    (hd : y.cls ≠ "java/lang/invoke/MethodHandle" ∧ y.cls ≠ "java/lang/invoke/VarHandle" ∧ (parseMethodDescriptor y.desc).map (fun d => d.parameters.length) = some k) (hR : f + 1 ≤ R.frames ∧ 8 + (maxL + 11) + n ≤ R.locals) (hcat : (rest.map fun v => v.category).sum ≤ 8) (hdg : decode cc pc = .ok (.invokestatic index, 3)) (hst : st = av.reverse ++ rest)
    (kk : ∀ (H1 : Heap) (locs1 : List Loc), wH w ad D cy s σ' H1 locs1 → W p l e R s m args below meth c H1 locs1 0 0 Q (F0 m (pc + 3) ls (.long r :: rest))) : W p l e R s m args below meth c H locs 0 0 Q (F0 m pc ls st) := by
  subst hst
  have hG : GoodIn (y0 :: aw) (va_wsS own index y (Cond.code y bytes maxL ret :: aw)) := by
    intro x hx
    have : x ∈ aw := by
      simp only [va_wsS, List.cons_append, List.nil_append, List.mem_cons] at hx
      rcases hx with rfl | rfl | rfl | rfl | hx
      · exact hm1
      · exact hm2
      · exact hm4
      · exact hm5
      · exact hx
    exact ⟨List.mem_cons_of_mem _ this, good_of_word (List.mem_filter.mp this).2⟩
  refine va_calll (va_runS (rest := rest) X.1 hC (va_cwS k X.ts hG rfl rfl rfl hd ⟨hR.1, hR.2⟩) ⟨wPc_blind, fun U hU hW => ⟨rfl, by rw [hU]; exact hw.1, X.2.1.moved hw.2 hU hW⟩⟩ rfl hlen hl rfl (lv_room hcat) hdg ⟨Nat.zero_le _, Nat.zero_le _⟩) hw.2 (fun _ _ h => h) (fun _ h => h) (fun r2 u t H1 locs1 ht hvm hw1 hB hz hk hS => by
    subst hw1
    exact kk H1 locs1 ⟨by rw [← ht]; exact hB, hS⟩)
theorem wr_cVv (X : wX p m c cc nL s args meth y0 own w ad D cy z) (hw : wH w ad D cy s σ H locs) (hl : ls.size = nL) {y : MethodName} {bytes : ByteArray} {maxL f n k index : Nat} {ret : Option FieldType} {av : List Value} {σ' : St} {st : List Value} {cid ci N : Nat} {C : String} {T : u_T} (hsh : w.1 cid = (0, ci, N)) (hcn : cid < w.2.2) (hc : vwCl[ci]? = some (C, T, N)) (hC : wC w ad D cy z l y (Cond.code y bytes maxL ret :: aw) f n (.ref (ad cid) :: av) σ (wQv w ad D cy σ')) (hlen : av.length = k) (hm1 : Cond.methodLink own index y ∈ aw) (hm2 : Cond.instanceMethod y ∈ aw) (hm3 : Cond.selects C y y ∈ aw) (hm4 : Cond.initialized C ∈ aw) (hm5 : Cond.code y bytes maxL ret ∈ aw)
    (hd : y.cls = C ∧ y.cls ≠ "java/lang/invoke/MethodHandle" ∧ y.cls ≠ "java/lang/invoke/VarHandle" ∧ (parseMethodDescriptor y.desc).map (fun d => d.parameters.length) = some k) (hR : f + 1 ≤ R.frames ∧ 8 + (maxL + 11) + n ≤ R.locals) (hcat : (rest.map fun v => v.category).sum ≤ 8) (hdg : decode cc pc = .ok (.invokevirtual index, 3)) (hst : st = av.reverse ++ .ref (ad cid) :: rest)
    (kk : ∀ (H1 : Heap) (locs1 : List Loc), wH w ad D cy s σ' H1 locs1 → W p l e R s m args below meth c H1 locs1 0 0 Q (F0 m (pc + 3) ls (rest))) : W p l e R s m args below meth c H locs 0 0 Q (F0 m pc ls st) := by
  subst hst
  have hG : GoodIn (y0 :: aw) (wsV own index C y (Cond.code y bytes maxL ret :: aw)) := by
    intro x hx
    have : x ∈ aw := by
      simp only [wsV, List.cons_append, List.nil_append, List.mem_cons] at hx
      rcases hx with rfl | rfl | rfl | rfl | rfl | hx
      · exact hm1
      · exact hm2
      · exact hm3
      · exact hm4
      · exact hm5
      · exact hx
    exact ⟨List.mem_cons_of_mem _ this, good_of_word (List.mem_filter.mp this).2⟩
  refine va_callv (va_runV (rest := rest) X.1 hC (cwV k X.ts hG rfl rfl rfl hd ⟨hR.1, hR.2⟩) ⟨wPc_blind, va_recv X.2.1.1 hw.1 hc (wl_at hcn (went_obj hsh)), fun U hU hW => ⟨rfl, by rw [hU]; exact hw.1, X.2.1.moved hw.2 hU hW⟩⟩ rfl hlen hl rfl (lv_room hcat) hdg ⟨Nat.zero_le _, Nat.zero_le _⟩) hw.2 (fun _ _ h => h) (fun _ h => h) (fun u t H1 locs1 ht hvm hw1 hB hz hk hS => kk H1 locs1 ⟨by rw [← ht]; exact hB, hS⟩)
theorem wr_cNv (X : wX p m c cc nL s args meth y0 own w ad D cy z) (hw : wH w ad D cy s σ H locs) (hl : ls.size = nL) {y : MethodName} {bytes : ByteArray} {maxL f n k index : Nat} {ret : Option FieldType} {av : List Value} {σ' : St} {st : List Value} {cid ci N : Nat} {C host : String} {T : u_T} (hsh : w.1 cid = (0, ci, N)) (hcn : cid < w.2.2) (hc : vwCl[ci]? = some (C, T, N)) (hC : wC w ad D cy z l y (Cond.code y bytes maxL ret :: aw) f n (.ref (ad cid) :: av) σ (wQv w ad D cy σ')) (hlen : av.length = k) (hm1 : Cond.methodLinkNest own index y host ∈ lw_tbl) (hm2 : Cond.instanceMethod y ∈ aw) (hm3 : Cond.selects C y y ∈ aw) (hm4 : Cond.initialized C ∈ aw) (hm5 : Cond.code y bytes maxL ret ∈ aw)
    (hd : y.cls = C ∧ y.cls ≠ "java/lang/invoke/MethodHandle" ∧ y.cls ≠ "java/lang/invoke/VarHandle" ∧ (parseMethodDescriptor y.desc).map (fun d => d.parameters.length) = some k) (hR : f + 1 ≤ R.frames ∧ 8 + (maxL + 11) + n ≤ R.locals) (hcat : (rest.map fun v => v.category).sum ≤ 8) (hdg : decode cc pc = .ok (.invokevirtual index, 3)) (hst : st = av.reverse ++ .ref (ad cid) :: rest)
    (kk : ∀ (H1 : Heap) (locs1 : List Loc), wH w ad D cy s σ' H1 locs1 → W p l e R s m args below meth c H1 locs1 0 0 Q (F0 m (pc + 3) ls (rest))) : W p l e R s m args below meth c H locs 0 0 Q (F0 m pc ls st) := by
  subst hst
  have hG : GoodIn (y0 :: aw) (Cond.code y bytes maxL ret :: aw) := by
    intro x hx
    have : x ∈ aw := by
      rcases List.mem_cons.mp hx with rfl | hx
      · exact hm5
      · exact hx
    exact ⟨List.mem_cons_of_mem _ this, good_of_word (List.mem_filter.mp this).2⟩
  refine va_callv (va_runVN (rest := rest) (C := C) X.1 hC ⟨va_cnB k X.ts hG rfl rfl rfl (X.nst hm1 rfl) (X.tw (by rw [hd.1]; exact hm4)) ⟨hd.2.1, hd.2.2.1, hd.2.2.2⟩ ⟨hR.1, hR.2⟩, X.tw hm2, X.tw hm3⟩ ⟨wPc_blind, va_recv X.2.1.1 hw.1 hc (wl_at hcn (went_obj hsh)), fun U hU hW => ⟨rfl, by rw [hU]; exact hw.1, X.2.1.moved hw.2 hU hW⟩⟩ rfl hlen hl rfl (lv_room hcat) hdg ⟨Nat.zero_le _, Nat.zero_le _⟩) hw.2 (fun _ _ h => h) (fun _ h => h) (fun u t H1 locs1 ht hvm hw1 hB hz hk hS => kk H1 locs1 ⟨by rw [← ht]; exact hB, hS⟩)
theorem wr_cVr (X : wX p m c cc nL s args meth y0 own w ad D cy z) (hw : wH w ad D cy s σ H locs) (hl : ls.size = nL) {y : MethodName} {bytes : ByteArray} {maxL f n k index : Nat} {ret : Option FieldType} {av : List Value} {σ' : St} {r : Nat} {st : List Value} {cid ci N : Nat} {C : String} {T : u_T} (hsh : w.1 cid = (0, ci, N)) (hcn : cid < w.2.2) (hc : vwCl[ci]? = some (C, T, N)) (hC : wC w ad D cy z l y (Cond.code y bytes maxL ret :: aw) f n (.ref (ad cid) :: av) σ (wQr w ad D cy r σ')) (hlen : av.length = k) (hm1 : Cond.methodLink own index y ∈ aw) (hm2 : Cond.instanceMethod y ∈ aw) (hm3 : Cond.selects C y y ∈ aw) (hm4 : Cond.initialized C ∈ aw) (hm5 : Cond.code y bytes maxL ret ∈ aw)
    (hd : y.cls = C ∧ y.cls ≠ "java/lang/invoke/MethodHandle" ∧ y.cls ≠ "java/lang/invoke/VarHandle" ∧ (parseMethodDescriptor y.desc).map (fun d => d.parameters.length) = some k) (hR : f + 1 ≤ R.frames ∧ 8 + (maxL + 11) + n ≤ R.locals) (hcat : (rest.map fun v => v.category).sum ≤ 8) (hdg : decode cc pc = .ok (.invokevirtual index, 3)) (hst : st = av.reverse ++ .ref (ad cid) :: rest)
    (kk : ∀ (H1 : Heap) (locs1 : List Loc), wH w ad D cy s σ' H1 locs1 → W p l e R s m args below meth c H1 locs1 0 0 Q (F0 m (pc + 3) ls (.ref (ad r) :: rest))) : W p l e R s m args below meth c H locs 0 0 Q (F0 m pc ls st) := by
  subst hst
  have hG : GoodIn (y0 :: aw) (wsV own index C y (Cond.code y bytes maxL ret :: aw)) := by
    intro x hx
    have : x ∈ aw := by
      simp only [wsV, List.cons_append, List.nil_append, List.mem_cons] at hx
      rcases hx with rfl | rfl | rfl | rfl | rfl | hx
      · exact hm1
      · exact hm2
      · exact hm3
      · exact hm4
      · exact hm5
      · exact hx
    exact ⟨List.mem_cons_of_mem _ this, good_of_word (List.mem_filter.mp this).2⟩
  refine va_callr (va_runV (rest := rest) X.1 hC (cwV k X.ts hG rfl rfl rfl hd ⟨hR.1, hR.2⟩) ⟨wPc_blind, va_recv X.2.1.1 hw.1 hc (wl_at hcn (went_obj hsh)), fun U hU hW => ⟨rfl, by rw [hU]; exact hw.1, X.2.1.moved hw.2 hU hW⟩⟩ rfl hlen hl rfl (lv_room hcat) hdg ⟨Nat.zero_le _, Nat.zero_le _⟩) hw.2 (fun _ _ h => h) (fun _ h => h) (fun u ra t H1 locs1 ht hvm hw1 hB hz hk hS => by
    obtain ⟨rfl, hB⟩ := hB
    exact kk H1 locs1 ⟨by rw [← ht]; exact hB, hS⟩)
theorem wr_cNr (X : wX p m c cc nL s args meth y0 own w ad D cy z) (hw : wH w ad D cy s σ H locs) (hl : ls.size = nL) {y : MethodName} {bytes : ByteArray} {maxL f n k index : Nat} {ret : Option FieldType} {av : List Value} {σ' : St} {r : Nat} {st : List Value} {cid ci N : Nat} {C host : String} {T : u_T} (hsh : w.1 cid = (0, ci, N)) (hcn : cid < w.2.2) (hc : vwCl[ci]? = some (C, T, N)) (hC : wC w ad D cy z l y (Cond.code y bytes maxL ret :: aw) f n (.ref (ad cid) :: av) σ (wQr w ad D cy r σ')) (hlen : av.length = k) (hm1 : Cond.methodLinkNest own index y host ∈ lw_tbl) (hm2 : Cond.instanceMethod y ∈ aw) (hm3 : Cond.selects C y y ∈ aw) (hm4 : Cond.initialized C ∈ aw) (hm5 : Cond.code y bytes maxL ret ∈ aw)
    (hd : y.cls = C ∧ y.cls ≠ "java/lang/invoke/MethodHandle" ∧ y.cls ≠ "java/lang/invoke/VarHandle" ∧ (parseMethodDescriptor y.desc).map (fun d => d.parameters.length) = some k) (hR : f + 1 ≤ R.frames ∧ 8 + (maxL + 11) + n ≤ R.locals) (hcat : (rest.map fun v => v.category).sum ≤ 8) (hdg : decode cc pc = .ok (.invokevirtual index, 3)) (hst : st = av.reverse ++ .ref (ad cid) :: rest)
    (kk : ∀ (H1 : Heap) (locs1 : List Loc), wH w ad D cy s σ' H1 locs1 → W p l e R s m args below meth c H1 locs1 0 0 Q (F0 m (pc + 3) ls (.ref (ad r) :: rest))) : W p l e R s m args below meth c H locs 0 0 Q (F0 m pc ls st) := by
  subst hst
  have hG : GoodIn (y0 :: aw) (Cond.code y bytes maxL ret :: aw) := by
    intro x hx
    have : x ∈ aw := by
      rcases List.mem_cons.mp hx with rfl | hx
      · exact hm5
      · exact hx
    exact ⟨List.mem_cons_of_mem _ this, good_of_word (List.mem_filter.mp this).2⟩
  refine va_callr (va_runVN (rest := rest) (C := C) X.1 hC ⟨va_cnB k X.ts hG rfl rfl rfl (X.nst hm1 rfl) (X.tw (by rw [hd.1]; exact hm4)) ⟨hd.2.1, hd.2.2.1, hd.2.2.2⟩ ⟨hR.1, hR.2⟩, X.tw hm2, X.tw hm3⟩ ⟨wPc_blind, va_recv X.2.1.1 hw.1 hc (wl_at hcn (went_obj hsh)), fun U hU hW => ⟨rfl, by rw [hU]; exact hw.1, X.2.1.moved hw.2 hU hW⟩⟩ rfl hlen hl rfl (lv_room hcat) hdg ⟨Nat.zero_le _, Nat.zero_le _⟩) hw.2 (fun _ _ h => h) (fun _ h => h) (fun u ra t H1 locs1 ht hvm hw1 hB hz hk hS => by
    obtain ⟨rfl, hB⟩ := hB
    exact kk H1 locs1 ⟨by rw [← ht]; exact hB, hS⟩)
theorem wr_iret (X : wX p m c cc nL s args meth y0 own w ad D cy z) (hw : wH w ad D cy s σ H locs) {v : Int32} {ls : Array Slot} {rt : FieldType} (hr : meth.sig.returnType = some rt) (hrt : rt = .int ∨ (rt = .boolean ∧ bz v = true)) (hdg : decode cc pc = .ok (.ireturn, 1)) : W p l e R s m args below meth c H locs 0 0 (MQ below (wQi w ad D cy v σ) args s 0 0 (wA w ad)) (F0 m pc ls [.int v]) := by
  rcases hrt with rfl | ⟨rfl, h01⟩
  · exact W.iret X.hx X.hb hr (fun t ht hW => ⟨⟨v, (), rfl, rfl, by show va_P _ _ _ t.heap; rw [ht]; exact hw.1⟩, hw.2.F ht⟩) hw.2.2.2 hdg X.2.2.2
  · exact W.zret X.hx X.hb hr (bz_nar h01) (fun t ht hW => ⟨⟨v, (), rfl, rfl, by show va_P _ _ _ t.heap; rw [ht]; exact hw.1⟩, hw.2.F ht⟩) hw.2.2.2 hdg X.2.2.2
theorem wr_lret (X : wX p m c cc nL s args meth y0 own w ad D cy z) (hw : wH w ad D cy s σ H locs) {v : Int64} {ls : Array Slot} (hr : meth.sig.returnType = some .long) (hdg : decode cc pc = .ok (.lreturn, 1)) : W p l e R s m args below meth c H locs 0 0 (MQ below (wQl w ad D cy v σ) args s 0 0 (wA w ad)) (F0 m pc ls [.long v]) :=
  W.lret X.hx X.hb hr (fun t ht hW => ⟨⟨v, (), rfl, rfl, by show va_P _ _ _ t.heap; rw [ht]; exact hw.1⟩, hw.2.F ht⟩) hw.2.2.2 hdg X.2.2.2
theorem wr_vret (X : wX p m c cc nL s args meth y0 own w ad D cy z) (hw : wH w ad D cy s σ H locs) {ls : Array Slot} (hr : meth.sig.returnType = none) (hdg : decode cc pc = .ok (.return_, 1)) : W p l e R s m args below meth c H locs 0 0 (MQ below (wQv w ad D cy σ) args s 0 0 (wA w ad)) (F0 m pc ls []) :=
  W.vret X.hx X.hb hr (fun t ht hW => ⟨⟨(), rfl, trivial, by show va_P _ _ _ t.heap; rw [ht]; exact hw.1⟩, hw.2.F ht⟩) hw.2.2.2 hdg X.2.2.2
theorem wr_aret (X : wX p m c cc nL s args meth y0 own w ad D cy z) (hw : wH w ad D cy s σ H locs) {b : Nat} {ls : Array Slot} {rt : FieldType} (hr : meth.sig.returnType = some rt) (hrt : (∃ n, rt = .object n) ∨ ∃ t, rt = .array t) (hdg : decode cc pc = .ok (.areturn, 1)) : W p l e R s m args below meth c H locs 0 0 (MQ below (wQr w ad D cy b σ) args s 0 0 (wA w ad)) (F0 m pc ls [.ref (ad b)]) :=
  W.aret X.hx X.hb hr hrt (Or.inr ⟨_, rfl⟩) (fun t ht hW => ⟨⟨(), ad b, rfl, trivial, rfl, by show va_P _ _ _ t.heap; rw [ht]; exact hw.1⟩, hw.2.F ht⟩) hw.2.2.2 hdg X.2.2.2
theorem wr_top {x y : Int32} (h : y = x) (k : W p l e R s m args below meth c H locs 0 0 Q (F0 m pc ls (.int y :: rest))) : W p l e R s m args below meth c H locs 0 0 Q (F0 m pc ls (.int x :: rest)) := by
  subst h; exact k
theorem wr_topl {x y : Int64} (h : y = x) (k : W p l e R s m args below meth c H locs 0 0 Q (F0 m pc ls (.long y :: rest))) : W p l e R s m args below meth c H locs 0 0 Q (F0 m pc ls (.long x :: rest)) := by
  subst h; exact k
theorem wH.to {σ' : St} (hw : wH w ad D cy s σ H locs) (h : σ' = σ) : wH w ad D cy s σ' H locs := by
  subst h; exact hw
end ROWS
-- the functions' own words
def wlet {α β : Type} (a : α) (f : α → β) : β := f a
theorem wlet_some {α β : Type} {a : α} {f : α → Option β} {r : β} (h : wlet a f = some r) : ∃ x, x = a ∧ f x = some r := ⟨a, rfl, h⟩
theorem bind_some {α β : Type} {a : Option α} {f : α → Option β} {r : β} (h : a.bind f = some r) : ∃ x, a = some x ∧ f x = some r := Option.bind_eq_some_iff.mp h
theorem if_some {α : Type} {b : Bool} {k : Option α} {r : α} (h : (if b = true then k else none) = some r) : b = true ∧ k = some r := by
  by_cases hb : b = true
  · rw [if_pos hb] at h; exact ⟨hb, h⟩
  · rw [if_neg hb] at h; cases h
/-- a loop: none without fuel -/
def lp {S R : Type} (step : S → Option (S ⊕ R)) : Nat → S → Option R
  | 0, _ => none
  | n + 1, s => (step s).bind fun q => match q with
    | .inl t => lp step n t
    | .inr r => some r
theorem lp_some {S R : Type} {step : S → Option (S ⊕ R)} {n : Nat} {s : S} {r : R} (h : lp step n s = some r) : ∃ m q, n = m + 1 ∧ step s = some q ∧ (match q with | .inl t => lp step m t = some r | .inr r' => r' = r) := by
  cases n with
  | zero => cases h
  | succ m =>
    obtain ⟨q, h1, h2⟩ := bind_some h
    refine ⟨m, q, rfl, h1, ?_⟩
    cases q with
    | inl t => exact h2
    | inr r' => exact Option.some.inj h2
