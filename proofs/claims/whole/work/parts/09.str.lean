section ROWS4
variable {p : Program} {l : Launch} {e : Env} {R : Room} {s : State} {m : MethodId} {args : Array Value} {below : List Frame} {meth : Method} {c : Code} {H : Heap} {locs : List Loc} {Q : State → Prop} {cc : ByteArray} {pc nL : Nat} {ls : Array Slot} {rest : List Value} {own : String} {y0 : Cond} {w : Wd} {ad : Nat → Nat} {D : va_G} {cy : Nat → ClassId} {z : wStr} {σ : St}
theorem wr_slen1 (X : wX p m c cc nL s args meth y0 "CaseBefore$Scanner" w ad D cy z) (hw : wH w ad D cy s σ H locs) (hl : ls.size = nL) (hf : 9 ≤ R.frames) (hn : 700 ≤ R.locals) {index : Nat} (hm : Cond.methodLink RX5 index yJ0_length_8abf5 ∈ aw) (hdg : decode cc pc = .ok (.invokevirtual index, 3))
    (kk : W p l e R s m args below meth c H locs 0 0 Q (F0 m (pc + 3) ls (.int 152 :: rest))) : W p l e R s m args below meth c H locs 0 0 Q (F0 m pc ls (.ref (z.1 1) :: rest)) := by
  sorry
theorem wr_six0 (X : wX p m c cc nL s args meth y0 "CaseBefore$Scanner" w ad D cy z) (hw : wH w ad D cy s σ H locs) (hl : ls.size = nL) (hf : 9 ≤ R.frames) (hn : 700 ≤ R.locals) {index : Nat} (hm : Cond.methodLink RX5 index yJ0_indexOf_0f7a4 ∈ aw) {x v : Int32} (hq : six 0 x = some v) (hdg : decode cc pc = .ok (.invokevirtual index, 3))
    (kk : W p l e R s m args below meth c H locs 0 0 Q (F0 m (pc + 3) ls (.int v :: rest))) : W p l e R s m args below meth c H locs 0 0 Q (F0 m pc ls (.int x :: .ref (z.1 0) :: rest)) := by
  sorry
theorem wr_sch1 (X : wX p m c cc nL s args meth y0 "CaseBefore$Scanner" w ad D cy z) (hw : wH w ad D cy s σ H locs) (hl : ls.size = nL) (hf : 9 ≤ R.frames) (hn : 700 ≤ R.locals) {index : Nat} (hm : Cond.methodLink RX5 index yJ0_charAt_5068e ∈ aw) {x v : Int32} (hq : sch 1 x = some v) (hdg : decode cc pc = .ok (.invokevirtual index, 3))
    (kk : W p l e R s m args below meth c H locs 0 0 Q (F0 m (pc + 3) ls (.int v :: rest))) : W p l e R s m args below meth c H locs 0 0 Q (F0 m pc ls (.int x :: .ref (z.1 1) :: rest)) := by
  sorry
end ROWS4
