def usr (x y : Int32) : Int32 := (x.toUInt32 >>> (y.toUInt32 &&& Int32.toUInt32 31)).toInt32
def i2b (x : Int32) : Int32 := x.toInt8.toInt32
def i2c (x : Int32) : Int32 := (x.toUInt32 % 65536).toInt32
theorem lk_ne {x : Int32} {a : Int} (h : ¬ x = Int32.ofInt a) : ¬ a = x.toInt := fun e => h (by rw [e]; exact (Int32.ofInt_toInt x).symm)
/-- any row of seven ints -/
def isA7 (o : Nat) : Prop := WC.1 o = (1, 7, 0) ∧ o < WC.2.2
theorem isA7.s0 {o : Nat} (h : isA7 o) : WC.1 o = (1, 7, 0) := h.1
theorem isA7.n0 {o : Nat} (h : isA7 o) : o < WC.2.2 := h.2
/-- indexOf of a constant's text; its char at a place -/
def sixF (c : Int32) : List Int32 → Nat → Int32
  | [], _ => -1
  | b :: l, k => if b = c then nI k else sixF c l (k + 1)
def six (w : Nat) (c : Int32) : Option Int32 := some (sixF c (wbyt.getD w []) 0)
def sch (w : Nat) (i : Int32) : Option Int32 := if ib i (wlen.getD w 0) = true then some ((wbyt.getD w []).getD i.toNatClampNeg 0) else none
section ROWS3
variable {p : Program} {l : Launch} {e : Env} {R : Room} {s : State} {m : MethodId} {args : Array Value} {below : List Frame} {meth : Method} {c : Code} {H : Heap} {locs : List Loc} {Q : State → Prop} {cc : ByteArray} {pc nL : Nat} {ls : Array Slot} {rest : List Value} {own : String} {y0 : Cond} {w : Wd} {ad : Nat → Nat} {D : va_G} {cy : Nat → ClassId} {z : wStr} {σ : St}
theorem wr_topr {b b' : Nat} (h : b' = b) (k : W p l e R s m args below meth c H locs 0 0 Q (F0 m pc ls (.ref (ad b') :: rest))) : W p l e R s m args below meth c H locs 0 0 Q (F0 m pc ls (.ref (ad b) :: rest)) := by
  subst h; exact k
theorem wr_ldcS0 (X : wX p m c cc nL s args meth y0 "CaseBefore$Scanner" w ad D cy z) (hdg : decode cc pc = .ok (.ldc 66, 2)) (kk : W p l e R s m args below meth c H locs 0 0 Q (F0 m (pc + 2) ls (.ref (z.1 0) :: rest))) : W p l e R s m args below meth c H locs 0 0 Q (F0 m pc ls rest) :=
  va_ldcS X.hx X.hb X.ow X.2.1.2.2.2.1 hdg kk
theorem wr_ldcS1 (X : wX p m c cc nL s args meth y0 "CaseBefore$Scanner" w ad D cy z) (hdg : decode cc pc = .ok (.ldc 84, 2)) (kk : W p l e R s m args below meth c H locs 0 0 Q (F0 m (pc + 2) ls (.ref (z.1 1) :: rest))) : W p l e R s m args below meth c H locs 0 0 Q (F0 m pc ls rest) :=
  va_ldcS X.hx X.hb X.ow X.2.1.2.2.2.2.1 hdg kk
theorem bz_fits {v : Int32} (h : bz v = true) : fits .boolean (.int v) = true := by
  simp only [bz, Bool.or_eq_true, beq_iff_eq] at h
  rcases h with rfl | rfl <;> rfl
theorem wr_putZ (X : wX p m c cc nL s args meth y0 own w ad D cy z) (hw : wH w ad D cy s σ H locs) {cid ci N : Nat} {C : String} {T : u_T} (hsh : w.1 cid = (0, ci, N)) (hcn : cid < w.2.2) (hc : vwCl[ci]? = some (C, T, N)) (huw : ∀ x ∈ u_ws C T N, x ∈ aw) (ty0 : Nat → FieldType) (hty : ∀ k, k < N → parseFieldDescriptor (T k).2.2.1 = some (ty0 k)) (hnm : ∀ a, a < N → ∀ b, b < N → a ≠ b → (T a).2.1 ≠ (T b).2.1) (k : Nat) (hk : k < N) {nm ds : String} (hT : (T k).1 = C ∧ (T k).2.1 = nm ∧ (T k).2.2.1 = ds ∧ (T k).2.2.2 = false) (hd : parseFieldDescriptor ds = some .boolean) (hf : fk ci k = 0) {v : Int32} (hv : bz v = true) {index : Nat} (hlink : Cond.fieldLink own index C nm ds ∈ aw) (hdg : decode cc pc = .ok (.putfield index, 3))
    (kk : ∀ (H1 : Heap) (locs1 : List Loc), wH w ad D cy s (si σ cid k v) H1 locs1 → W p l e R s m args below meth c H1 locs1 0 0 Q (F0 m (pc + 3) ls rest)) : W p l e R s m args below meth c H locs 0 0 Q (F0 m pc ls (.int v :: .ref (ad cid) :: rest)) := by
  obtain ⟨h1, rfl, rfl, h4⟩ := hT
  refine va_put (ty := .boolean) (v := .int v) X.hx X.hb X.ts (fun x h => List.mem_cons_of_mem _ (huw x h)) ty0 hty hnm X.ow X.2.1.1 hw.1 (wD X.2.2.1 cy σ) hw.2 cid (wl_at hcn (went_obj hsh)) hc k hk (X.tw hlink) (by rw [h1]; exact fun _ h => h) h4 hd (bz_nar hv) (bz_fits hv) (by rw [wfld_len]; exact hk) hdg (fun H1 locs1 hP _ hS => kk H1 locs1 (hw.seti hP hS ?_ (fun d hd => went_same (si_ne hd) rfl)))
  rw [went_obj hsh, wfld_set hf]
theorem pX11_42 (X : wX p m c cc nL s args meth y0 own w ad D cy z) (hw : wH w ad D cy s σ H locs) {cid : Nat} (hsh : w.1 cid = (0, 11, 59)) (hcn : cid < w.2.2) {v : Int32} (hv : bz v = true) {index : Nat} (hlink : Cond.fieldLink own index RX11 "isBroken" "Z" ∈ aw) (hdg : decode cc pc = .ok (.putfield index, 3)) (kk : ∀ (H1 : Heap) (locs1 : List Loc), wH w ad D cy s (si σ cid 42 v) H1 locs1 → W p l e R s m args below meth c H1 locs1 0 0 Q (F0 m (pc + 3) ls rest)) : W p l e R s m args below meth c H locs 0 0 Q (F0 m pc ls (.int v :: .ref (ad cid) :: rest)) :=
  wr_putZ X hw hsh hcn rfl uw11 tyX11 tyX11_ok nmX11 42 (by decide) ⟨rfl, rfl, rfl, rfl⟩ rfl rfl hv hlink hdg kk
end ROWS3
