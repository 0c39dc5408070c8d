def usr (x y : Int32) : Int32 := (x.toUInt32 >>> (y.toUInt32 &&& Int32.toUInt32 31)).toInt32
def i2b (x : Int32) : Int32 := x.toInt8.toInt32
def i2c (x : Int32) : Int32 := (x.toUInt32 % 65536).toInt32
theorem lk_ne {x : Int32} {a : Int} (h : ¬ x = Int32.ofInt a) : ¬ a = x.toInt := fun e => h (by rw [e]; exact (Int32.ofInt_toInt x).symm)
/-- any row of seven ints -/
def isA7 (o : Nat) : Prop := WC.1 o = (1, 7, 0) ∧ o < WC.2.2
theorem isA7.s0 {o : Nat} (h : isA7 o) : WC.1 o = (1, 7, 0) := h.1
theorem isA7.n0 {o : Nat} (h : isA7 o) : o < WC.2.2 := h.2
/-- indexOf of a constant's text; its char at a place -/
def sixF (c : Int32) : List Int32 → Nat → Int32
  | [], _ => -1
  | b :: l, k => if b = c then nI k else sixF c l (k + 1)
def six (w : Nat) (c : Int32) : Option Int32 := some (sixF c (wbyt.getD w []) 0)
def sch (w : Nat) (i : Int32) : Option Int32 := if ib i (wlen.getD w 0) = true then some ((wbyt.getD w []).getD i.toNatClampNeg 0) else none
section ROWS3
variable {p : Program} {l : Launch} {e : Env} {R : Room} {s : State} {m : MethodId} {args : Array Value} {below : List Frame} {meth : Method} {c : Code} {H : Heap} {locs : List Loc} {Q : State → Prop} {cc : ByteArray} {pc nL : Nat} {ls : Array Slot} {rest : List Value} {own : String} {y0 : Cond} {w : Wd} {ad : Nat → Nat} {D : va_G} {cy : Nat → ClassId} {z : wStr} {σ : St}
theorem wr_topr {b b' : Nat} (h : b' = b) (k : W p l e R s m args below meth c H locs 0 0 Q (F0 m pc ls (.ref (ad b') :: rest))) : W p l e R s m args below meth c H locs 0 0 Q (F0 m pc ls (.ref (ad b) :: rest)) := by
  subst h; exact k
theorem wr_ldcS0 (X : wX p m c cc nL s args meth y0 "CaseBefore$Scanner" w ad D cy z) (hdg : decode cc pc = .ok (.ldc 66, 2)) (kk : W p l e R s m args below meth c H locs 0 0 Q (F0 m (pc + 2) ls (.ref (z.1 0) :: rest))) : W p l e R s m args below meth c H locs 0 0 Q (F0 m pc ls rest) :=
  va_ldcS X.hx X.hb X.ow X.2.1.2.2.2.1 hdg kk
theorem wr_ldcS1 (X : wX p m c cc nL s args meth y0 "CaseBefore$Scanner" w ad D cy z) (hdg : decode cc pc = .ok (.ldc 84, 2)) (kk : W p l e R s m args below meth c H locs 0 0 Q (F0 m (pc + 2) ls (.ref (z.1 1) :: rest))) : W p l e R s m args below meth c H locs 0 0 Q (F0 m pc ls rest) :=
  va_ldcS X.hx X.hb X.ow X.2.1.2.2.2.2 hdg kk
end ROWS3
