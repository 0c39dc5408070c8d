theorem cH.b0 {p : Program} {s : State} {m : MethodId} {args : Array Value} {meth : Method} {c : Code} {H : Heap} {locs : List Loc} {cc : ByteArray} {nL : Nat} {own : String} {y0 : Cond} {ad : Nat → Nat} {D : va_G} {cy : Nat → ClassId} {z : wStr} {b0 h0 k n a : Nat} {F : Nat → va_E} (hw : cH D s h0 ad F n H locs) (hk : k < n) (ha : a = ad k) (X : cX p m c cc nL s args meth y0 own D cy z b0 h0) : b0 ≤ a := by
  subst ha
  rcases hw.2.1.2 k _ (cL_at hk) with h | h
  · have h : ad k = h0 := h
    rw [h]
    exact X.2.2.2.1
  · exact Nat.le_trans X.2.2.2.2 h
theorem cH.congr {D : va_G} {s : State} {h0 : Nat} {ad : Nat → Nat} {F F2 : Nat → va_E} {k : Nat} {H : Heap} {locs : List Loc} (hw : cH D s h0 ad F k H locs) (h : ∀ i, i < k → F i = F2 i) : cH D s h0 ad F2 k H locs := by
  unfold cH at hw ⊢
  rw [← cL_congr (ad := ad) (ad' := ad) (fun _ _ => rfl) h]
  exact hw
/-- nothing anywhere -/
def σz : St := (fun _ _ => 0, fun _ _ => 0)
theorem cH.cells {D : va_G} {s : State} {h0 : Nat} {ad : Nat → Nat} {F F2 : Nat → va_E} {k : Nat} {H H1 : Heap} {locs locs1 : List Loc} (hw : cH D s h0 ad F k H locs) (hP : va_P D vwCl (cL ad F2 k) H1) (hS : va_S (cA h0 s.heap.size) s.heap H1 locs1) : cH D s h0 ad F2 k H1 locs1 := by
  have hlt : ∀ {i : Nat} {q : Nat × va_E}, (cL ad F2 k)[i]? = some q → i < k ∧ q = (ad i, F2 i) := by
    intro i q hi
    have h := (List.getElem?_eq_some_iff.mp hi).1
    rw [cL_len] at h
    rw [cL_at h] at hi
    exact ⟨h, (Option.some.inj hi).symm⟩
  refine ⟨hP, ⟨fun i j p q hi hj e => ?_, fun i q hi => ?_⟩, hS, hw.2.2.2⟩
  · obtain ⟨h1, rfl⟩ := hlt hi
    obtain ⟨h2, rfl⟩ := hlt hj
    exact hw.2.1.1 i j _ _ (cL_at h1) (cL_at h2) e
  · obtain ⟨h1, rfl⟩ := hlt hi
    exact (show cA h0 s.heap.size (ad i) from hw.2.1.2 i (ad i, F i) (cL_at h1))
section CROWS2
variable {p : Program} {l : Launch} {e : Env} {R : Room} {s : State} {m : MethodId} {args : Array Value} {below : List Frame} {meth : Method} {c : Code} {H : Heap} {locs : List Loc} {cells slots : Nat} {Q : State → Prop} {cc : ByteArray} {pc nL : Nat} {ls : Array Slot} {rest : List Value} {own : String} {y0 : Cond} {ad : Nat → Nat} {D : va_G} {cy : Nat → ClassId} {z : wStr} {b0 h0 k : Nat} {F : Nat → va_E}
theorem wT.narrow {A B : Nat → Prop} {U : State} (h : wT A z U) (hAB : ∀ q, B q → A q) : wT B z U := ⟨h.1.narrow hAB, h.2.1, h.2.2.1, h.2.2.2.1.narrow hAB, h.2.2.2.2.narrow hAB⟩
theorem cH.wI {w : Wd} (hw : cH D s h0 ad F w.2.2 H locs) : wI w ad := fun i j hi hj e => hw.2.1.1 i j _ _ (cL_at hi) (cL_at hj) e
theorem cH.bS (X : cX p m c cc nL s args meth y0 own D cy z b0 h0) (hw : cH D s h0 ad F k H locs) : va_S (fun q => b0 ≤ q) s.heap H locs := hw.2.2.1.mono (fun q hq => by
  rcases hq with rfl | hq
  · exact X.2.2.2.1
  · exact Nat.le_trans X.2.2.2.2 hq)
theorem cH.wK {w : Wd} (X : cX p m c cc nL s args meth y0 own D cy z b0 h0) (hw : cH D s h0 ad F w.2.2 H locs) {U : State} (hU : U.heap = H) (hW : s.WarmedH U.vm) : wK D cy z (wA w ad) U := by
  obtain ⟨q1, q2, q3, q4⟩ := X.2.1.moved (hw.bS X) hU hW
  exact ⟨q1, q3, q4.narrow (fun q ⟨i, hi, e⟩ => hw.b0 hi e X)⟩
theorem cr_cV (X : cX p m c cc nL s args meth y0 own D cy z b0 h0) {w : Wd} {σ σ' : St} (hw : cH D s h0 ad (went w ad cy σ) w.2.2 H locs) (hl : ls.size = nL) {y : MethodName} {bytes : ByteArray} {maxL f n nn index : Nat} {av : List Value} {st : List Value} {cid ci N : Nat} {C : String} {T : u_T} (hsh : w.1 cid = (0, ci, N)) (hcn : cid < w.2.2) (hc : vwCl[ci]? = some (C, T, N)) {a : Nat} (ha : a = ad cid) (hC : wI w ad → wC w ad D cy z l y (Cond.code y bytes maxL none :: aw) f n (.ref (ad cid) :: av) σ (wQv w ad D cy σ')) (hlen : av.length = nn) (hm1 : Cond.methodLink own index y ∈ aw) (hm2 : Cond.instanceMethod y ∈ aw) (hm3 : Cond.selects C y y ∈ aw) (hm4 : Cond.initialized C ∈ aw) (hm5 : Cond.code y bytes maxL none ∈ aw)
    (hd : y.cls = C ∧ y.cls ≠ "java/lang/invoke/MethodHandle" ∧ y.cls ≠ "java/lang/invoke/VarHandle" ∧ (parseMethodDescriptor y.desc).map (fun d => d.parameters.length) = some nn) (hR : f + 1 ≤ R.frames ∧ 8 + (maxL + 11) + n ≤ R.locals) (hcs : cells ≤ R.cells ∧ slots ≤ R.slots) (hcat : (rest.map fun v => v.category).sum ≤ 8) (hdg : decode cc pc = .ok (.invokevirtual index, 3)) (hst : st = av.reverse ++ .ref a :: rest)
    (kk : ∀ (H1 : Heap) (locs1 : List Loc), cH D s h0 ad (went w ad cy σ') w.2.2 H1 locs1 → W p l e R s m args below meth c H1 locs1 cells slots Q (F0 m (pc + 3) ls rest)) : W p l e R s m args below meth c H locs cells slots Q (F0 m pc ls st) := by
  subst hst
  subst ha
  have hG : GoodIn (y0 :: aw) (wsV own index C y (Cond.code y bytes maxL none :: aw)) := by
    intro x hx
    have : x ∈ aw := by
      simp only [wsV, List.cons_append, List.nil_append, List.mem_cons] at hx
      rcases hx with rfl | rfl | rfl | rfl | rfl | hx
      · exact hm1
      · exact hm2
      · exact hm3
      · exact hm4
      · exact hm5
      · exact hx
    exact ⟨List.mem_cons_of_mem _ this, good_of_word (List.mem_filter.mp this).2⟩
  refine va_callv (va_runV (rest := rest) X.1 (hC hw.wI) (cwV nn X.ts hG rfl rfl rfl hd ⟨hR.1, hR.2⟩) ⟨wPc_blind, va_recv X.K hw.1 hc (by rw [cL_at hcn, went_obj hsh]), fun U hU hW => ⟨rfl, by rw [hU]; exact hw.1, hw.wK X hU hW⟩⟩ rfl hlen hl rfl (lv_room hcat) hdg ⟨hcs.1, hcs.2⟩) hw.2.2.1 (fun q _ h => hw.AB q h) (fun q h => hw.AB q h) (fun u t H1 locs1 ht hvm hw1 hB hz hk hS => kk H1 locs1 (hw.cells (by rw [← ht]; exact hB) hS))
theorem cr_cSl (X : cX p m c cc nL s args meth y0 own D cy z b0 h0) {w : Wd} {σ : St} {r : Int64} (hw : cH D s h0 ad (went w ad cy σ) w.2.2 H locs) (hl : ls.size = nL) {y : MethodName} {bytes : ByteArray} {maxL f n nn index : Nat} {ret : Option FieldType} {av : List Value} {st : List Value} (hC : wI w ad → wC w ad D cy z l y (Cond.code y bytes maxL ret :: aw) f n av σ (wQl w ad D cy r σ)) (hlen : av.length = nn) (hm1 : Cond.methodLink own index y ∈ aw) (hm2 : Cond.static y ∈ aw) (hm4 : Cond.initialized y.cls ∈ aw) (hm5 : Cond.code y bytes maxL ret ∈ aw)
    (hd : y.cls ≠ "java/lang/invoke/MethodHandle" ∧ y.cls ≠ "java/lang/invoke/VarHandle" ∧ (parseMethodDescriptor y.desc).map (fun d => d.parameters.length) = some nn) (hR : f + 1 ≤ R.frames ∧ 8 + (maxL + 11) + n ≤ R.locals) (hcs : cells ≤ R.cells ∧ slots ≤ R.slots) (hcat : (rest.map fun v => v.category).sum ≤ 8) (hdg : decode cc pc = .ok (.invokestatic index, 3)) (hst : st = av.reverse ++ rest)
    (kk : ∀ (H1 : Heap) (locs1 : List Loc), cH D s h0 ad (went w ad cy σ) w.2.2 H1 locs1 → W p l e R s m args below meth c H1 locs1 cells slots Q (F0 m (pc + 3) ls (.long r :: rest))) : W p l e R s m args below meth c H locs cells slots Q (F0 m pc ls st) := by
  subst hst
  have hG : GoodIn (y0 :: aw) (va_wsS own index y (Cond.code y bytes maxL ret :: aw)) := by
    intro x hx
    have : x ∈ aw := by
      simp only [va_wsS, List.cons_append, List.nil_append, List.mem_cons] at hx
      rcases hx with rfl | rfl | rfl | rfl | hx
      · exact hm1
      · exact hm2
      · exact hm4
      · exact hm5
      · exact hx
    exact ⟨List.mem_cons_of_mem _ this, good_of_word (List.mem_filter.mp this).2⟩
  refine va_calll (va_runS (rest := rest) X.1 (hC hw.wI) (va_cwS nn X.ts hG rfl rfl rfl hd ⟨hR.1, hR.2⟩) ⟨wPc_blind, fun U hU hW => ⟨rfl, by rw [hU]; exact hw.1, hw.wK X hU hW⟩⟩ rfl hlen hl rfl (lv_room hcat) hdg ⟨hcs.1, hcs.2⟩) hw.2.2.1 (fun q _ h => hw.AB q h) (fun q h => hw.AB q h) (fun r2 u t H1 locs1 ht hvm hw1 hB hz hk hS => by
    subst hw1
    exact kk H1 locs1 (hw.cells (by rw [← ht]; exact hB) hS))
theorem cr_last (X : cX p m c cc nL s args meth y0 own D cy z b0 h0) {w : Wd} {σ : St} (hw : cH D s h0 ad (went w ad cy σ) w.2.2 H locs) {b n q : Nat} (hsh : w.1 b = (2, n, q)) (hbn : b < w.2.2) {a : Nat} (ha : a = ad b) {i : Int32} {x : Int64} (hin : vp_in i n) (hdg : decode cc pc = .ok (.lastore, 1))
    (kk : ∀ (H1 : Heap) (locs1 : List Loc), cH D s h0 ad (went w ad cy (sj σ b i.toNatClampNeg x)) w.2.2 H1 locs1 → W p l e R s m args below meth c H1 locs1 cells slots Q (F0 m (pc + 1) ls rest)) : W p l e R s m args below meth c H locs cells slots Q (F0 m pc ls (.long x :: .int i :: .ref a :: rest)) := by
  subst ha
  refine va_last X.hx X.hb X.K hw.1 hw.DE hw.SE b 1 (by rw [cL_at hbn, went_j hsh]) rfl hin hdg (fun H1 locs1 hP hD hS => kk H1 locs1 (hw.cells ?_ (hS.mono hw.EA)))
  have e1 : (cL ad (went w ad cy σ) w.2.2).set b (ad b, .inl (cy 1, n, .inr (.inl (vp_updL (σ.2 b) i.toNatClampNeg x)))) = cL ad (went w ad cy (sj σ b i.toNatClampNeg x)) w.2.2 :=
    wl_set (σ := σ) (σ' := sj σ b i.toNatClampNeg x) (by rw [went_j hsh, sj_eq]) (fun d hd => went_same rfl (sj_ne hd))
  rw [← e1]
  exact hP
end CROWS2
theorem cH.names {D : va_G} {s : State} {h0 k : Nat} {ad : Nat → Nat} {F : Nat → va_E} {H : Heap} {locs : List Loc} (hw : cH D s h0 ad F k H locs) : ∃ ad0 G0, ad0 = ad ∧ G0 = F ∧ cH D s h0 ad0 G0 k H locs := ⟨ad, F, rfl, rfl, hw⟩
theorem cH.congr2 {D : va_G} {s : State} {h0 : Nat} {ad ad2 : Nat → Nat} {F F2 : Nat → va_E} {k : Nat} {H : Heap} {locs : List Loc} (hw : cH D s h0 ad F k H locs) (ha : ∀ i, i < k → ad i = ad2 i) (h : ∀ i, i < k → F i = F2 i) : cH D s h0 ad2 F2 k H locs := by
  obtain ⟨h1, h2, h3, h4⟩ := hw
  rw [cL_congr ha h] at h1 h2
  refine ⟨h1, h2, h3, fun q => ?_⟩
  obtain ⟨a, b⟩ := h4 q
  exact ⟨a, (ha 0 a).symm.trans b⟩
