section LROWS
variable {p : Program} {l : Launch} {e : Env} {R : Room} {s : State} {m : MethodId} {args : Array Value} {below : List Frame} {meth : Method} {c : Code} {H : Heap} {locs : List Loc} {cells slots : Nat} {Q : State → Prop} {cc : ByteArray} {pc nL : Nat} {ls : Array Slot} {rest : List Value} {own : String} {y0 : Cond} {D : va_G} {cy : Nat → ClassId} {z : wStr}
/-- a call on one of two worlds: the other stays -/
theorem lr_call (X : CallFix p m c cc nL s args (y0 :: aw) own) (K : cK D cy z s.heap.size s) {w1 w2 : Wd} {ad1 ad2 : Nat → Nat} {σ σ' τ : St} {r : Int32} (h1 : va_P D vwCl (wl w1 ad1 cy σ) H) (h2 : va_P D vwCl (wl w2 ad2 cy τ) H) (hS : va_S (fun q => s.heap.size ≤ q) s.heap H locs) (hI : wI w1 ad1) (hdis : ∀ i j, i < w1.2.2 → j < w2.2.2 → ad1 i ≠ ad2 j) (hge : ∀ i, i < w1.2.2 → s.heap.size ≤ ad1 i) (hl : ls.size = nL)
    {y : MethodName} {bytes : ByteArray} {maxL f n k index : Nat} {ret : Option FieldType} {av : List Value} {st : List Value} {ci N : Nat} {C : String} {T : u_T} (hsh : w1.1 0 = (0, ci, N)) (hcn : 0 < w1.2.2) (hc : vwCl[ci]? = some (C, T, N)) (hC : wC w1 ad1 D cy z l y (Cond.code y bytes maxL ret :: aw) f n (.ref (ad1 0) :: av) σ (wQi w1 ad1 D cy r σ')) (hlen : av.length = k) (hm1 : Cond.methodLink own index y ∈ aw) (hm2 : Cond.instanceMethod y ∈ aw) (hm3 : Cond.selects C y y ∈ aw) (hm4 : Cond.initialized C ∈ aw) (hm5 : Cond.code y bytes maxL ret ∈ aw)
    (hd : y.cls = C ∧ y.cls ≠ "java/lang/invoke/MethodHandle" ∧ y.cls ≠ "java/lang/invoke/VarHandle" ∧ (parseMethodDescriptor y.desc).map (fun d => d.parameters.length) = some k) (hR : f + 1 ≤ R.frames ∧ 8 + (maxL + 11) + n ≤ R.locals) (hcs : cells ≤ R.cells ∧ slots ≤ R.slots) (hcat : (rest.map fun v => v.category).sum ≤ 8) (hdg : decode cc pc = .ok (.invokevirtual index, 3)) (hst : st = av.reverse ++ .ref (ad1 0) :: rest)
    (kk : ∀ (H1 : Heap) (locs1 : List Loc), va_P D vwCl (wl w1 ad1 cy σ') H1 → va_P D vwCl (wl w2 ad2 cy τ) H1 → va_S (fun q => s.heap.size ≤ q) s.heap H1 locs1 → W p l e R s m args below meth c H1 locs1 cells slots Q (F0 m (pc + 3) ls (.int r :: rest))) : W p l e R s m args below meth c H locs cells slots Q (F0 m pc ls st) := by
  subst hst
  have hG : GoodIn (y0 :: aw) (wsV own index C y (Cond.code y bytes maxL ret :: aw)) := by
    intro x hx
    have : x ∈ aw := by
      simp only [wsV, List.cons_append, List.nil_append, List.mem_cons] at hx
      rcases hx with rfl | rfl | rfl | rfl | rfl | hx
      · exact hm1
      · exact hm2
      · exact hm3
      · exact hm4
      · exact hm5
      · exact hx
    exact ⟨List.mem_cons_of_mem _ this, good_of_word (List.mem_filter.mp this).2⟩
  have hAB : ∀ q, wA w1 ad1 q → s.heap.size ≤ q := by
    rintro q ⟨i, hi, rfl⟩
    exact hge i hi
  refine va_calli (va_runV (rest := rest) X hC (cwV k X.2.2.2.2 hG rfl rfl rfl hd ⟨hR.1, hR.2⟩) ⟨wPc_blind, va_recv K.1 h1 hc (wl_at hcn (went_obj hsh)), fun U hU hW => ⟨rfl, by rw [hU]; exact h1, ?_⟩⟩ rfl hlen hl rfl (lv_room hcat) hdg ⟨hcs.1, hcs.2⟩) hS (fun q _ h => hAB q h) (fun q h => hAB q h) (fun r2 u t H1 locs1 ht hvm hw1 hB hz hk hS1 => ?_)
  · obtain ⟨q1, q2, q3, q4⟩ := K.moved hS hU hW
    exact ⟨q1, q3, q4.narrow hAB⟩
  · subst hw1
    refine kk H1 locs1 (by rw [← ht]; exact hB) (h2.kept (fun i q hi => ?_)) hS1
    obtain ⟨hi2, rfl⟩ := wl_of hi
    refine hk _ (va_at.lt (h2 i _ hi)) ?_
    rintro ⟨j, hj, e⟩
    exact hdis j i hj hi2 e.symm
end LROWS
section LROWS2
variable {p : Program} {l : Launch} {e : Env} {R : Room} {s : State} {m : MethodId} {args : Array Value} {below : List Frame} {meth : Method} {c : Code} {H : Heap} {locs : List Loc} {cells slots : Nat} {Q : State → Prop} {cc : ByteArray} {pc nL : Nat} {ls : Array Slot} {rest : List Value} {own : String} {y0 : Cond} {ad : Nat → Nat} {D : va_G} {cy : Nat → ClassId} {z : wStr} {b0 h0 k : Nat} {F : Nat → va_E}
theorem cr_callI (X : cX p m c cc nL s args meth y0 own D cy z b0 h0) (hw : cH D s h0 ad F (k + 1) H locs) (hl : ls.size = nL) {y : MethodName} {bytes : ByteArray} {maxL f n mc ms nn index : Nat} {xs : List Value} {F' : (Nat → Nat) → Nat → va_E} {k' : Nat} (hk' : 0 < k') {a : Nat} (ha : a = ad k) {st : List Value} (hC : ∀ sz, cC D cy z l y (Cond.code y bytes maxL none :: aw) f n mc ms b0 a sz xs (F k) F' k') (hlen : xs.length = nn) (hm1 : Cond.methodLink own index y ∈ aw) (hm2 : Cond.instanceMethod y ∈ aw) (hm4 : Cond.initialized y.cls ∈ aw) (hm5 : Cond.code y bytes maxL none ∈ aw)
    (hd : y.name = "<init>" ∧ y.cls ≠ "java/lang/invoke/MethodHandle" ∧ y.cls ≠ "java/lang/invoke/VarHandle" ∧ (parseMethodDescriptor y.desc).map (fun d => d.parameters.length) = some nn) (hR : f + 1 ≤ R.frames ∧ 8 + (maxL + 11) + n ≤ R.locals) (hcs : cells + mc ≤ R.cells ∧ slots + ms ≤ R.slots) (hcat : (rest.map fun v => v.category).sum ≤ 8) (hdg : decode cc pc = .ok (.invokespecial index, 3)) (hst : st = xs.reverse ++ .ref a :: rest)
    (kk : ∀ (ad2 : Nat → Nat) (H1 : Heap) (locs1 : List Loc), ad2 0 = ad k → cH D s h0 (cj ad k ad2) (cj F k (F' ad2)) (k + k') H1 locs1 → W p l e R s m args below meth c H1 locs1 (cells + mc) (slots + ms) Q (F0 m (pc + 3) ls rest)) : W p l e R s m args below meth c H locs cells slots Q (F0 m pc ls st) := by
  subst hst
  subst ha
  have hG : GoodIn (y0 :: aw) (Cond.code y bytes maxL none :: aw) := by
    intro x hx
    have : x ∈ aw := by
      rcases List.mem_cons.mp hx with rfl | hx
      · exact hm5
      · exact hx
    exact ⟨List.mem_cons_of_mem _ this, good_of_word (List.mem_filter.mp this).2⟩
  have hbS : va_S (fun q => b0 ≤ q) s.heap H locs := hw.2.2.1.mono (fun q hq => by
    rcases hq with rfl | hq
    · exact X.2.2.2.1
    · exact Nat.le_trans X.2.2.2.2 hq)
  refine va_callv (va_runI (As := xs) (rest := rest) X.1 (hC H.size) (cwI nn X.ts hG rfl rfl rfl (X.tw hm4) (X.tw hm1) (X.tw hm2) hd.1 ⟨hd.2.1, hd.2.2.1, hd.2.2.2⟩ ⟨hR.1, hR.2⟩) ⟨cPc_blind, fun U hU hW => ⟨rfl, by rw [hU], ?_, X.2.1.moved hbS hU hW⟩⟩ rfl hlen hl rfl (lv_room hcat) hdg hcs) hw.2.2.1 (fun q hq h => ?_) (fun q h => ?_) (fun u t H1 locs1 ht hvm hw1 hB hz hk hS => ?_)
  · rw [hU]
    intro i q hi
    have h0 : i = 0 := by
      have := (List.getElem?_eq_some_iff.mp hi).1
      simp at this
      exact this
    subst h0
    cases hi
    exact hw.1 k _ (cL_at (Nat.lt_succ_self k))
  · rcases h with rfl | h
    · exact hw.2.1.2 k _ (cL_at (Nat.lt_succ_self k))
    · omega
  · rcases h with rfl | h
    · exact hw.2.1.2 k _ (cL_at (Nat.lt_succ_self k))
    · exact Or.inr (Nat.le_trans hw.2.2.1.1 h)
  · obtain ⟨ad2, e2, hP2, hD2⟩ := hB
    rw [ht] at hP2
    exact kk ad2 H1 locs1 e2 (hw.join e2 hk' hP2 hD2 hk hS)
end LROWS2
