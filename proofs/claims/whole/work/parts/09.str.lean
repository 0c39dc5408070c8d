theorem wX.str {p : Program} {m : MethodId} {c : Code} {cc : ByteArray} {nL : Nat} {s : State} {args : Array Value} {meth : Method} {y0 : Cond} {own : String} {w : Wd} {ad : Nat → Nat} {D : va_G} {cy : Nat → ClassId} {z : wStr} (X : wX p m c cc nL s args meth y0 own w ad D cy z) : wT (wA w ad) z s := X.2.1.2.2
theorem str_ish {i : Nat} (hi : i < 2) : (Int32.ofNat (wlen.getD i 0)) >>> ((0 : Int32) &&& 31) = Int32.ofNat (wlen.getD i 0) := by
  match i, hi with
  | 0, _ => decide
  | 1, _ => decide
def wQs (w : Wd) (ad : Nat → Nat) (D : va_G) (cy : Nat → ClassId) (r : Int32) (σ : St) : Array Value → State → Outcome → State → Prop := wQi w ad D cy r σ
theorem hds_isLatin1 : yJ0_isLatin1_aae02.cls = RJ0 ∧ yJ0_isLatin1_aae02.cls ≠ "java/lang/invoke/MethodHandle" ∧ yJ0_isLatin1_aae02.cls ≠ "java/lang/invoke/VarHandle" ∧ (parseMethodDescriptor yJ0_isLatin1_aae02.desc).map (fun d => d.parameters.length) = some 0 := by decide +kernel
theorem hds_coder : yJ0_coder_7d493.cls = RJ0 ∧ yJ0_coder_7d493.cls ≠ "java/lang/invoke/MethodHandle" ∧ yJ0_coder_7d493.cls ≠ "java/lang/invoke/VarHandle" ∧ (parseMethodDescriptor yJ0_coder_7d493.desc).map (fun d => d.parameters.length) = some 0 := by decide +kernel
theorem hds_length : yJ0_length_8abf5.cls = RJ0 ∧ yJ0_length_8abf5.cls ≠ "java/lang/invoke/MethodHandle" ∧ yJ0_length_8abf5.cls ≠ "java/lang/invoke/VarHandle" ∧ (parseMethodDescriptor yJ0_length_8abf5.desc).map (fun d => d.parameters.length) = some 0 := by decide +kernel
theorem hds_charAt : yJ0_charAt_5068e.cls = RJ0 ∧ yJ0_charAt_5068e.cls ≠ "java/lang/invoke/MethodHandle" ∧ yJ0_charAt_5068e.cls ≠ "java/lang/invoke/VarHandle" ∧ (parseMethodDescriptor yJ0_charAt_5068e.desc).map (fun d => d.parameters.length) = some 1 := by decide +kernel
theorem hds_indexOf1 : yJ0_indexOf_0f7a4.cls = RJ0 ∧ yJ0_indexOf_0f7a4.cls ≠ "java/lang/invoke/MethodHandle" ∧ yJ0_indexOf_0f7a4.cls ≠ "java/lang/invoke/VarHandle" ∧ (parseMethodDescriptor yJ0_indexOf_0f7a4.desc).map (fun d => d.parameters.length) = some 1 := by decide +kernel
theorem hds_indexOf2 : yJ0_indexOf_7cf53.cls = RJ0 ∧ yJ0_indexOf_7cf53.cls ≠ "java/lang/invoke/MethodHandle" ∧ yJ0_indexOf_7cf53.cls ≠ "java/lang/invoke/VarHandle" ∧ (parseMethodDescriptor yJ0_indexOf_7cf53.desc).map (fun d => d.parameters.length) = some 2 := by decide +kernel
theorem hds_checkIndex0 : yJ0_checkIndex_df160.cls ≠ "java/lang/invoke/MethodHandle" ∧ yJ0_checkIndex_df160.cls ≠ "java/lang/invoke/VarHandle" ∧ (parseMethodDescriptor yJ0_checkIndex_df160.desc).map (fun d => d.parameters.length) = some 2 := by decide +kernel
theorem hds_checkIndex3 : yJ3_checkIndex_8e157.cls ≠ "java/lang/invoke/MethodHandle" ∧ yJ3_checkIndex_8e157.cls ≠ "java/lang/invoke/VarHandle" ∧ (parseMethodDescriptor yJ3_checkIndex_8e157.desc).map (fun d => d.parameters.length) = some 3 := by decide +kernel
theorem hds_charAt1 : yJ1_charAt_3b067.cls ≠ "java/lang/invoke/MethodHandle" ∧ yJ1_charAt_3b067.cls ≠ "java/lang/invoke/VarHandle" ∧ (parseMethodDescriptor yJ1_charAt_3b067.desc).map (fun d => d.parameters.length) = some 2 := by decide +kernel
theorem hds_canEncode : yJ1_canEncode_9a6ad.cls ≠ "java/lang/invoke/MethodHandle" ∧ yJ1_canEncode_9a6ad.cls ≠ "java/lang/invoke/VarHandle" ∧ (parseMethodDescriptor yJ1_canEncode_9a6ad.desc).map (fun d => d.parameters.length) = some 1 := by decide +kernel
theorem hds_indexOf1L : yJ1_indexOf_4cfef.cls ≠ "java/lang/invoke/MethodHandle" ∧ yJ1_indexOf_4cfef.cls ≠ "java/lang/invoke/VarHandle" ∧ (parseMethodDescriptor yJ1_indexOf_4cfef.desc).map (fun d => d.parameters.length) = some 4 := by decide +kernel
theorem hds_indexOfChar : yJ1_indexOfChar_4cfef.cls ≠ "java/lang/invoke/MethodHandle" ∧ yJ1_indexOfChar_4cfef.cls ≠ "java/lang/invoke/VarHandle" ∧ (parseMethodDescriptor yJ1_indexOfChar_4cfef.desc).map (fun d => d.parameters.length) = some 4 := by decide +kernel
section ROWS5
variable {p : Program} {l : Launch} {e : Env} {R : Room} {s : State} {m : MethodId} {args : Array Value} {below : List Frame} {meth : Method} {c : Code} {H : Heap} {locs : List Loc} {Q : State → Prop} {cc : ByteArray} {pc nL : Nat} {ls : Array Slot} {rest : List Value} {own : String} {y0 : Cond} {w : Wd} {ad : Nat → Nat} {D : va_G} {cy : Nat → ClassId} {z : wStr} {σ : St}
theorem wr_cStr (X : wX p m c cc nL s args meth y0 own w ad D cy z) (hw : wH w ad D cy s σ H locs) (hl : ls.size = nL) {y : MethodName} {bytes : ByteArray} {maxL f n k index : Nat} {ret : Option FieldType} {av : List Value} {σ' : St} {r : Int32} {st : List Value} {i : Nat} (hi : i < 2) (hC : wC w ad D cy z l y (Cond.code y bytes maxL ret :: aw) f n (.ref (z.1 i) :: av) σ (wQi w ad D cy r σ')) (hlen : av.length = k) (hm1 : Cond.methodLink own index y ∈ aw) (hm2 : Cond.instanceMethod y ∈ aw) (hm3 : Cond.selects "java/lang/String" y y ∈ aw) (hm4 : Cond.initialized "java/lang/String" ∈ aw) (hm5 : Cond.code y bytes maxL ret ∈ aw)
    (hd : y.cls = "java/lang/String" ∧ y.cls ≠ "java/lang/invoke/MethodHandle" ∧ y.cls ≠ "java/lang/invoke/VarHandle" ∧ (parseMethodDescriptor y.desc).map (fun d => d.parameters.length) = some k) (hR : f + 1 ≤ R.frames ∧ 8 + (maxL + 11) + n ≤ R.locals) (hcat : (rest.map fun v => v.category).sum ≤ 8) (hdg : decode cc pc = .ok (.invokevirtual index, 3)) (hst : st = av.reverse ++ .ref (z.1 i) :: rest)
    (kk : ∀ (H1 : Heap) (locs1 : List Loc), wH w ad D cy s σ' H1 locs1 → W p l e R s m args below meth c H1 locs1 0 0 Q (F0 m (pc + 3) ls (.int r :: rest))) : W p l e R s m args below meth c H locs 0 0 Q (F0 m pc ls st) := by
  subst hst
  have hG : GoodIn (y0 :: aw) (wsV own index "java/lang/String" y (Cond.code y bytes maxL ret :: aw)) := by
    intro x hx
    have : x ∈ aw := by
      simp only [wsV, List.cons_append, List.nil_append, List.mem_cons] at hx
      rcases hx with rfl | rfl | rfl | rfl | rfl | hx
      · exact hm1
      · exact hm2
      · exact hm3
      · exact hm4
      · exact hm5
      · exact hx
    exact ⟨List.mem_cons_of_mem _ this, good_of_word (List.mem_filter.mp this).2⟩
  refine va_calli (va_runV (rest := rest) X.1 hC (cwV k X.ts hG rfl rfl rfl hd ⟨hR.1, hR.2⟩) ⟨wPc_blind, vk_recv X.str.1 hi hw.2, fun U hU hW => ⟨rfl, by rw [hU]; exact hw.1, X.2.1.moved hw.2 hU hW⟩⟩ rfl hlen hl rfl (lv_room hcat) hdg ⟨Nat.zero_le _, Nat.zero_le _⟩) hw.2 (fun _ _ h => h) (fun _ h => h) (fun r2 u t H1 locs1 ht hvm hw1 hB hz hk hS => by
    subst hw1
    exact kk H1 locs1 ⟨by rw [← ht]; exact hB, hS⟩)
theorem wr_cSv (X : wX p m c cc nL s args meth y0 own w ad D cy z) (hw : wH w ad D cy s σ H locs) (hl : ls.size = nL) {y : MethodName} {bytes : ByteArray} {maxL f n k index : Nat} {ret : Option FieldType} {av : List Value} {σ' : St} {st : List Value} (hC : wC w ad D cy z l y (Cond.code y bytes maxL ret :: aw) f n av σ (wQv w ad D cy σ')) (hlen : av.length = k) (hm1 : Cond.methodLink own index y ∈ aw) (hm2 : Cond.static y ∈ aw) (hm4 : Cond.initialized y.cls ∈ aw) (hm5 : Cond.code y bytes maxL ret ∈ aw)
    (hd : y.cls ≠ "java/lang/invoke/MethodHandle" ∧ y.cls ≠ "java/lang/invoke/VarHandle" ∧ (parseMethodDescriptor y.desc).map (fun d => d.parameters.length) = some k) (hR : f + 1 ≤ R.frames ∧ 8 + (maxL + 11) + n ≤ R.locals) (hcat : (rest.map fun v => v.category).sum ≤ 8) (hdg : decode cc pc = .ok (.invokestatic index, 3)) (hst : st = av.reverse ++ rest)
    (kk : ∀ (H1 : Heap) (locs1 : List Loc), wH w ad D cy s σ' H1 locs1 → W p l e R s m args below meth c H1 locs1 0 0 Q (F0 m (pc + 3) ls rest)) : W p l e R s m args below meth c H locs 0 0 Q (F0 m pc ls st) := by
  subst hst
  have hG : GoodIn (y0 :: aw) (va_wsS own index y (Cond.code y bytes maxL ret :: aw)) := by
    intro x hx
    have : x ∈ aw := by
      simp only [va_wsS, List.cons_append, List.nil_append, List.mem_cons] at hx
      rcases hx with rfl | rfl | rfl | rfl | hx
      · exact hm1
      · exact hm2
      · exact hm4
      · exact hm5
      · exact hx
    exact ⟨List.mem_cons_of_mem _ this, good_of_word (List.mem_filter.mp this).2⟩
  refine va_callv (va_runS (rest := rest) X.1 hC (va_cwS k X.ts hG rfl rfl rfl hd ⟨hR.1, hR.2⟩) ⟨wPc_blind, fun U hU hW => ⟨rfl, by rw [hU]; exact hw.1, X.2.1.moved hw.2 hU hW⟩⟩ rfl hlen hl rfl (lv_room hcat) hdg ⟨Nat.zero_le _, Nat.zero_le _⟩) hw.2 (fun _ _ h => h) (fun _ h => h) (fun u t H1 locs1 ht hvm hw1 hB hz hk hS => kk H1 locs1 ⟨by rw [← ht]; exact hB, hS⟩)
/-- a narrow int's end -/
theorem wr_nret (X : wX p m c cc nL s args meth y0 own w ad D cy z) (hw : wH w ad D cy s σ H locs) {v : Int32} {ls : Array Slot} {rt : FieldType} (hr : meth.sig.returnType = some rt) (hn : narrow rt (.int v) = .int v) (hdg : decode cc pc = .ok (.ireturn, 1)) : W p l e R s m args below meth c H locs 0 0 (MQ below (wQi w ad D cy v σ) args s 0 0 (wA w ad)) (F0 m pc ls [.int v]) :=
  W.zret X.hx X.hb hr hn (fun t ht hW => ⟨⟨v, (), rfl, rfl, by show va_P _ _ _ t.heap; rw [ht]; exact hw.1⟩, hw.2.F ht⟩) hw.2.2.2 hdg X.2.2.2
end ROWS5
set_option maxRecDepth 100000 in
set_option maxHeartbeats 4000000 in
theorem ks_isLatin1 {l : Launch} {ad : Nat → Nat} {D : va_G} {cy : Nat → ClassId} {z : wStr} {w : Wd} (hI : wI w ad) {σ : St} {i : Nat} (hi : i < 2) : wC w ad D cy z l yJ0_isLatin1_aae02 (Cond.code yJ0_isLatin1_aae02 cJ0_isLatin1_aae02 1 (some .boolean) :: aw) 1 100 [.ref (z.1 i)] σ (wQi w ad D cy 1 σ) := by
  refine wr_start (own := RJ0) hI (by decide +kernel) rfl (Nat.le_of_ble_eq_true rfl) rfl ?_
  intro p e s m below meth c ls X hw hr hl
  have hx := X.hx
  have hb := X.hb
  obtain ⟨H, eH⟩ : ∃ H : Heap, H = s.heap := ⟨_, rfl⟩
  obtain ⟨locs, el⟩ : ∃ locs : List Loc, locs = [] := ⟨_, rfl⟩
  rw [← eH, ← el] at hw ⊢
  clear eH el
  replace hl : lv_has ls 1 [(0, .ref (z.1 i))] := hl
  refine va_gets hx hb X.str.2.2.2.1 hw.2 X.ow (X.tw fl_J0_38) (fun _ h => h) dJ0_isLatin1_aae02_0 ?_
  refine lv_if_eq (tgt := 17) hx hb dJ0_isLatin1_aae02_3 (by decide) (fun c1 => absurd c1 (by decide)) (fun c1 => ?_)
  refine lv_aload_n hx hb dJ0_isLatin1_aae02_6 rfl (lv_at hl 0 rfl) ?_
  refine vk_getf hx hb (X.str.1.1 i hi).2.1 hw.2 X.ow (X.tw fl_J0_15) (fun _ h => h) dJ0_isLatin1_aae02_7 ?_
  refine lv_if_ne (tgt := 17) hx hb dJ0_isLatin1_aae02_10 (by decide) (fun c1 => absurd rfl c1) (fun c1 => ?_)
  refine lv_iconst (v := 1) hx hb dJ0_isLatin1_aae02_13 (by decide) ?_
  refine lv_goto (tgt := 18) hx hb dJ0_isLatin1_aae02_14 (by decide) ?_
  exact wr_nret X hw hr rfl dJ0_isLatin1_aae02_18
set_option maxRecDepth 100000 in
set_option maxHeartbeats 4000000 in
theorem ks_coder {l : Launch} {ad : Nat → Nat} {D : va_G} {cy : Nat → ClassId} {z : wStr} {w : Wd} (hI : wI w ad) {σ : St} {i : Nat} (hi : i < 2) : wC w ad D cy z l yJ0_coder_7d493 (Cond.code yJ0_coder_7d493 cJ0_coder_7d493 1 (some .byte) :: aw) 1 100 [.ref (z.1 i)] σ (wQi w ad D cy 0 σ) := by
  refine wr_start (own := RJ0) hI (by decide +kernel) rfl (Nat.le_of_ble_eq_true rfl) rfl ?_
  intro p e s m below meth c ls X hw hr hl
  have hx := X.hx
  have hb := X.hb
  obtain ⟨H, eH⟩ : ∃ H : Heap, H = s.heap := ⟨_, rfl⟩
  obtain ⟨locs, el⟩ : ∃ locs : List Loc, locs = [] := ⟨_, rfl⟩
  rw [← eH, ← el] at hw ⊢
  clear eH el
  replace hl : lv_has ls 1 [(0, .ref (z.1 i))] := hl
  refine va_gets hx hb X.str.2.2.2.1 hw.2 X.ow (X.tw fl_J0_38) (fun _ h => h) dJ0_coder_7d493_0 ?_
  refine lv_if_eq (tgt := 13) hx hb dJ0_coder_7d493_3 (by decide) (fun c1 => absurd c1 (by decide)) (fun c1 => ?_)
  refine lv_aload_n hx hb dJ0_coder_7d493_6 rfl (lv_at hl 0 rfl) ?_
  refine vk_getf hx hb (X.str.1.1 i hi).2.1 hw.2 X.ow (X.tw fl_J0_15) (fun _ h => h) dJ0_coder_7d493_7 ?_
  refine lv_goto (tgt := 14) hx hb dJ0_coder_7d493_10 (by decide) ?_
  exact wr_nret X hw hr rfl dJ0_coder_7d493_14
set_option maxRecDepth 100000 in
set_option maxHeartbeats 4000000 in
theorem ks_length {l : Launch} {ad : Nat → Nat} {D : va_G} {cy : Nat → ClassId} {z : wStr} {w : Wd} (hI : wI w ad) {σ : St} {i : Nat} (hi : i < 2) : wC w ad D cy z l yJ0_length_8abf5 (Cond.code yJ0_length_8abf5 cJ0_length_8abf5 1 (some .int) :: aw) 2 200 [.ref (z.1 i)] σ (wQi w ad D cy (Int32.ofNat (wlen.getD i 0)) σ) := by
  refine wr_start (own := RJ0) hI (by decide +kernel) rfl (Nat.le_of_ble_eq_true rfl) rfl ?_
  intro p e s m below meth c ls X hw hr hl
  have hx := X.hx
  have hb := X.hb
  obtain ⟨H, eH⟩ : ∃ H : Heap, H = s.heap := ⟨_, rfl⟩
  obtain ⟨locs, el⟩ : ∃ locs : List Loc, locs = [] := ⟨_, rfl⟩
  rw [← eH, ← el] at hw ⊢
  clear eH el
  replace hl : lv_has ls 1 [(0, .ref (z.1 i))] := hl
  refine lv_aload_n hx hb dJ0_length_8abf5_0 rfl (lv_at hl 0 rfl) ?_
  refine vk_getf hx hb (X.str.1.1 i hi).2.2.1 hw.2 X.ow (X.tw fl_J0_9) (fun _ h => h) dJ0_length_8abf5_1 ?_
  refine va_tlen hx hb (X.str.1.1 i hi).2.2.2 hw.2 rfl dJ0_length_8abf5_4 ?_
  refine lv_aload_n hx hb dJ0_length_8abf5_5 rfl (lv_at hl 0 rfl) ?_
  refine wr_cStr (r := 0) (σ' := σ) (av := []) (rest := [.int (Int32.ofNat (wlen.getD i 0))]) X hw hl.1 hi (ks_coder hI hi) rfl ml_J0_335 im_J0_coder_7d493 se_J0_coder_7d493 ini_J0 co_J0_coder_7d493 hds_coder ⟨(Nat.le_of_ble_eq_true rfl), (Nat.le_of_ble_eq_true rfl)⟩ (Nat.le_of_ble_eq_true rfl) dJ0_length_8abf5_6 rfl (fun H locs hw => ?_)
  refine lv_ishr hx hb dJ0_length_8abf5_9 ?_
  rw [str_ish hi]
  exact wr_nret X hw hr rfl dJ0_length_8abf5_10
set_option maxRecDepth 100000 in
set_option maxHeartbeats 4000000 in
theorem ks_checkIndex3 {l : Launch} {ad : Nat → Nat} {D : va_G} {cy : Nat → ClassId} {z : wStr} {w : Wd} (hI : wI w ad) {σ : St} {x n : Int32} {v : Nat} (h0 : ¬ x < 0) (h1 : x < n) : wC w ad D cy z l yJ3_checkIndex_8e157 (Cond.code yJ3_checkIndex_8e157 cJ3_checkIndex_8e157 3 (some .int) :: aw) 1 100 [.int x, .int n, .ref v] σ (wQi w ad D cy x σ) := by
  refine wr_start (own := RJ3) hI (by decide +kernel) rfl (Nat.le_of_ble_eq_true rfl) rfl ?_
  intro p e s m below meth c ls X hw hr hl
  have hx := X.hx
  have hb := X.hb
  obtain ⟨H, eH⟩ : ∃ H : Heap, H = s.heap := ⟨_, rfl⟩
  obtain ⟨locs, el⟩ : ∃ locs : List Loc, locs = [] := ⟨_, rfl⟩
  rw [← eH, ← el] at hw ⊢
  clear eH el
  replace hl : lv_has ls 3 [(0, .int x), (1, .int n), (2, .ref v)] := hl
  refine lv_iload_n hx hb dJ3_checkIndex_8e157_0 rfl (lv_at hl 0 rfl) ?_
  refine lv_if_lt (tgt := 9) hx hb dJ3_checkIndex_8e157_1 (by decide) (fun c1 => absurd c1 h0) (fun c1 => ?_)
  refine lv_iload_n hx hb dJ3_checkIndex_8e157_4 rfl (lv_at hl 0 rfl) ?_
  refine lv_iload_n hx hb dJ3_checkIndex_8e157_5 rfl (lv_at hl 1 rfl) ?_
  refine lv_icmp_lt (tgt := 16) hx hb dJ3_checkIndex_8e157_6 (by decide) (fun c1 => ?_) (fun c1 => absurd h1 c1)
  refine lv_iload_n hx hb dJ3_checkIndex_8e157_16 rfl (lv_at hl 0 rfl) ?_
  exact wr_nret X hw hr rfl dJ3_checkIndex_8e157_17
set_option maxRecDepth 100000 in
set_option maxHeartbeats 4000000 in
theorem ks_checkIndex3n {l : Launch} {ad : Nat → Nat} {D : va_G} {cy : Nat → ClassId} {z : wStr} {w : Wd} (hI : wI w ad) {σ : St} {x n : Int32} (h0 : ¬ x < 0) (h1 : x < n) : wC w ad D cy z l yJ3_checkIndex_8e157 (Cond.code yJ3_checkIndex_8e157 cJ3_checkIndex_8e157 3 (some .int) :: aw) 1 100 [.int x, .int n, .null] σ (wQi w ad D cy x σ) := by
  refine wr_start (own := RJ3) hI (by decide +kernel) rfl (Nat.le_of_ble_eq_true rfl) rfl ?_
  intro p e s m below meth c ls X hw hr hl
  have hx := X.hx
  have hb := X.hb
  obtain ⟨H, eH⟩ : ∃ H : Heap, H = s.heap := ⟨_, rfl⟩
  obtain ⟨locs, el⟩ : ∃ locs : List Loc, locs = [] := ⟨_, rfl⟩
  rw [← eH, ← el] at hw ⊢
  clear eH el
  replace hl : lv_has ls 3 [(0, .int x), (1, .int n), (2, .null)] := hl
  refine lv_iload_n hx hb dJ3_checkIndex_8e157_0 rfl (lv_at hl 0 rfl) ?_
  refine lv_if_lt (tgt := 9) hx hb dJ3_checkIndex_8e157_1 (by decide) (fun c1 => absurd c1 h0) (fun c1 => ?_)
  refine lv_iload_n hx hb dJ3_checkIndex_8e157_4 rfl (lv_at hl 0 rfl) ?_
  refine lv_iload_n hx hb dJ3_checkIndex_8e157_5 rfl (lv_at hl 1 rfl) ?_
  refine lv_icmp_lt (tgt := 16) hx hb dJ3_checkIndex_8e157_6 (by decide) (fun c1 => ?_) (fun c1 => absurd h1 c1)
  refine lv_iload_n hx hb dJ3_checkIndex_8e157_16 rfl (lv_at hl 0 rfl) ?_
  exact wr_nret X hw hr rfl dJ3_checkIndex_8e157_17
set_option maxRecDepth 100000 in
set_option maxHeartbeats 4000000 in
theorem ks_checkIndex0 {l : Launch} {ad : Nat → Nat} {D : va_G} {cy : Nat → ClassId} {z : wStr} {w : Wd} (hI : wI w ad) {σ : St} {x n : Int32} (h0 : ¬ x < 0) (h1 : x < n) : wC w ad D cy z l yJ0_checkIndex_df160 (Cond.code yJ0_checkIndex_df160 cJ0_checkIndex_df160 2 none :: aw) 2 200 [.int x, .int n] σ (wQv w ad D cy σ) := by
  refine wr_start (own := RJ0) hI (by decide +kernel) rfl (Nat.le_of_ble_eq_true rfl) rfl ?_
  intro p e s m below meth c ls X hw hr hl
  have hx := X.hx
  have hb := X.hb
  obtain ⟨H, eH⟩ : ∃ H : Heap, H = s.heap := ⟨_, rfl⟩
  obtain ⟨locs, el⟩ : ∃ locs : List Loc, locs = [] := ⟨_, rfl⟩
  rw [← eH, ← el] at hw ⊢
  clear eH el
  replace hl : lv_has ls 2 [(0, .int x), (1, .int n)] := hl
  refine lv_iload_n hx hb dJ0_checkIndex_df160_0 rfl (lv_at hl 0 rfl) ?_
  refine lv_iload_n hx hb dJ0_checkIndex_df160_1 rfl (lv_at hl 1 rfl) ?_
  rcases X.str.2.2.2.2 with hq | ⟨t, hq⟩
  · refine va_gets hx hb hq hw.2 X.ow (X.tw fl_J0_1053) (fun _ h => h) dJ0_checkIndex_df160_2 ?_
    refine wr_cSi (r := x) (σ' := σ) (av := [.int x, .int n, .null]) (rest := []) X hw hl.1 (ks_checkIndex3n hI h0 h1) rfl ml_J0_1059 st_J3_checkIndex_8e157 ini_J3 co_J3_checkIndex_8e157 hds_checkIndex3 ⟨(Nat.le_of_ble_eq_true rfl), (Nat.le_of_ble_eq_true rfl)⟩ (Nat.le_of_ble_eq_true rfl) dJ0_checkIndex_df160_5 rfl (fun H locs hw => ?_)
    refine lv_pop hx hb dJ0_checkIndex_df160_8 rfl ?_
    exact wr_vret X hw hr dJ0_checkIndex_df160_9
  · refine va_gets hx hb hq hw.2 X.ow (X.tw fl_J0_1053) (fun _ h => h) dJ0_checkIndex_df160_2 ?_
    refine wr_cSi (r := x) (σ' := σ) (av := [.int x, .int n, .ref t]) (rest := []) X hw hl.1 (ks_checkIndex3 hI h0 h1) rfl ml_J0_1059 st_J3_checkIndex_8e157 ini_J3 co_J3_checkIndex_8e157 hds_checkIndex3 ⟨(Nat.le_of_ble_eq_true rfl), (Nat.le_of_ble_eq_true rfl)⟩ (Nat.le_of_ble_eq_true rfl) dJ0_checkIndex_df160_5 rfl (fun H locs hw => ?_)
    refine lv_pop hx hb dJ0_checkIndex_df160_8 rfl ?_
    exact wr_vret X hw hr dJ0_checkIndex_df160_9
theorem str_ch {i k : Nat} (hi : i < 2) (hk : k < wlen.getD i 0) : i2c ((wbyt.getD i []).getD k 0 &&& 255) = (wbyt.getD i []).getD k 0 ∧ narrow .char (.int ((wbyt.getD i []).getD k 0)) = .int ((wbyt.getD i []).getD k 0) := by
  have h : ∀ i, i < 2 → ∀ k, k < wlen.getD i 0 → i2c ((wbyt.getD i []).getD k 0 &&& 255) = (wbyt.getD i []).getD k 0 ∧ narrow .char (.int ((wbyt.getD i []).getD k 0)) = .int ((wbyt.getD i []).getD k 0) := by decide +kernel
  exact h i hi k hk
theorem str_in {i : Nat} {x : Int32} (hi : i < 2) (h : ib x (wlen.getD i 0) = true) : ¬ x < 0 ∧ x < Int32.ofNat (wlen.getD i 0) := by
  have h1 := ib_in h
  simp only [vp_in, not_or, Nat.not_le] at h1
  refine ⟨h1.1, ?_⟩
  have hx0 : (0 : Int) ≤ x.toInt := by
    have := Int32.not_lt.mp h1.1
    simpa using Int32.le_iff_toInt_le.mp this
  have hx1 : x.toInt.toNat < wlen.getD i 0 := h1.2
  have hl : wlen.getD i 0 < 2 ^ 31 := by
    match i, hi with
    | 0, _ => decide
    | 1, _ => decide
  rw [Int32.lt_iff_toInt_lt, show (Int32.ofNat (wlen.getD i 0)).toInt = ((wlen.getD i 0 : Nat) : Int) from nI_toInt hl]
  omega
set_option maxRecDepth 100000 in
set_option maxHeartbeats 4000000 in
theorem ks_charAt1 {l : Launch} {ad : Nat → Nat} {D : va_G} {cy : Nat → ClassId} {z : wStr} {w : Wd} (hI : wI w ad) {σ : St} {i : Nat} (hi : i < 2) {x : Int32} (hb0 : ib x (wlen.getD i 0) = true) : wC w ad D cy z l yJ1_charAt_3b067 (Cond.code yJ1_charAt_3b067 cJ1_charAt_3b067 2 (some .char) :: aw) 3 300 [.ref (z.2 i), .int x] σ (wQi w ad D cy ((wbyt.getD i []).getD x.toNatClampNeg 0) σ) := by
  refine wr_start (own := RJ1) hI (by decide +kernel) rfl (Nat.le_of_ble_eq_true rfl) rfl ?_
  intro p e s m below meth c ls X hw hr hl
  have hx := X.hx
  have hb := X.hb
  obtain ⟨H, eH⟩ : ∃ H : Heap, H = s.heap := ⟨_, rfl⟩
  obtain ⟨locs, el⟩ : ∃ locs : List Loc, locs = [] := ⟨_, rfl⟩
  rw [← eH, ← el] at hw ⊢
  clear eH el
  replace hl : lv_has ls 2 [(0, .ref (z.2 i)), (1, .int x)] := hl
  refine lv_iload_n hx hb dJ1_charAt_3b067_0 rfl (lv_at hl 1 rfl) ?_
  refine lv_aload_n hx hb dJ1_charAt_3b067_1 rfl (lv_at hl 0 rfl) ?_
  refine va_tlen hx hb (X.str.1.1 i hi).2.2.2 hw.2 rfl dJ1_charAt_3b067_2 ?_
  refine wr_cSv (σ' := σ) (av := [.int x, .int (Int32.ofNat (wlen.getD i 0))]) (rest := []) X hw hl.1 (ks_checkIndex0 hI (str_in hi hb0).1 (str_in hi hb0).2) rfl ml_J1_9 st_J0_checkIndex_df160 ini_J0 co_J0_checkIndex_df160 hds_checkIndex0 ⟨(Nat.le_of_ble_eq_true rfl), (Nat.le_of_ble_eq_true rfl)⟩ (Nat.le_of_ble_eq_true rfl) dJ1_charAt_3b067_3 rfl (fun H locs hw => ?_)
  refine lv_aload_n hx hb dJ1_charAt_3b067_6 rfl (lv_at hl 0 rfl) ?_
  refine lv_iload_n hx hb dJ1_charAt_3b067_7 rfl (lv_at hl 1 rfl) ?_
  refine va_tb hx hb (X.str.1.1 i hi).2.2.2 hw.2 (ib_in hb0) rfl dJ1_charAt_3b067_8 ?_
  refine lv_sipush (v := 255) hx hb dJ1_charAt_3b067_9 (by decide) ?_
  refine lv_iand hx hb dJ1_charAt_3b067_12 ?_
  have h9 := str_ch hi (Nat.not_le.mp (not_or.mp (ib_in hb0)).2)
  refine lv_i2c (v := (wbyt.getD i []).getD x.toNatClampNeg 0) hx hb dJ1_charAt_3b067_13 h9.1 ?_
  exact wr_nret X hw hr h9.2 dJ1_charAt_3b067_14
set_option maxRecDepth 100000 in
set_option maxHeartbeats 4000000 in
theorem ks_charAt {l : Launch} {ad : Nat → Nat} {D : va_G} {cy : Nat → ClassId} {z : wStr} {w : Wd} (hI : wI w ad) {σ : St} {i : Nat} (hi : i < 2) {x : Int32} (hb0 : ib x (wlen.getD i 0) = true) : wC w ad D cy z l yJ0_charAt_5068e (Cond.code yJ0_charAt_5068e cJ0_charAt_5068e 2 (some .char) :: aw) 4 400 [.ref (z.1 i), .int x] σ (wQi w ad D cy ((wbyt.getD i []).getD x.toNatClampNeg 0) σ) := by
  refine wr_start (own := RJ0) hI (by decide +kernel) rfl (Nat.le_of_ble_eq_true rfl) rfl ?_
  intro p e s m below meth c ls X hw hr hl
  have hx := X.hx
  have hb := X.hb
  obtain ⟨H, eH⟩ : ∃ H : Heap, H = s.heap := ⟨_, rfl⟩
  obtain ⟨locs, el⟩ : ∃ locs : List Loc, locs = [] := ⟨_, rfl⟩
  rw [← eH, ← el] at hw ⊢
  clear eH el
  replace hl : lv_has ls 2 [(0, .ref (z.1 i)), (1, .int x)] := hl
  refine lv_aload_n hx hb dJ0_charAt_5068e_0 rfl (lv_at hl 0 rfl) ?_
  refine wr_cStr (r := 1) (σ' := σ) (av := []) (rest := []) X hw hl.1 hi (ks_isLatin1 hI hi) rfl ml_J0_492 im_J0_isLatin1_aae02 se_J0_isLatin1_aae02 ini_J0 co_J0_isLatin1_aae02 hds_isLatin1 ⟨(Nat.le_of_ble_eq_true rfl), (Nat.le_of_ble_eq_true rfl)⟩ (Nat.le_of_ble_eq_true rfl) dJ0_charAt_5068e_1 rfl (fun H locs hw => ?_)
  refine lv_if_eq (tgt := 16) hx hb dJ0_charAt_5068e_4 (by decide) (fun c1 => absurd c1 (by decide)) (fun c1 => ?_)
  refine lv_aload_n hx hb dJ0_charAt_5068e_7 rfl (lv_at hl 0 rfl) ?_
  refine vk_getf hx hb (X.str.1.1 i hi).2.2.1 hw.2 X.ow (X.tw fl_J0_9) (fun _ h => h) dJ0_charAt_5068e_8 ?_
  refine lv_iload_n hx hb dJ0_charAt_5068e_11 rfl (lv_at hl 1 rfl) ?_
  refine wr_cSi (r := (wbyt.getD i []).getD x.toNatClampNeg 0) (σ' := σ) (av := [.ref (z.2 i), .int x]) (rest := []) X hw hl.1 (ks_charAt1 hI hi hb0) rfl ml_J0_495 st_J1_charAt_3b067 ini_J1 co_J1_charAt_3b067 hds_charAt1 ⟨(Nat.le_of_ble_eq_true rfl), (Nat.le_of_ble_eq_true rfl)⟩ (Nat.le_of_ble_eq_true rfl) dJ0_charAt_5068e_12 rfl (fun H locs hw => ?_)
  have h9 := str_ch hi (Nat.not_le.mp (not_or.mp (ib_in hb0)).2)
  exact wr_nret X hw hr h9.2 dJ0_charAt_5068e_15
set_option maxRecDepth 100000 in
set_option maxHeartbeats 4000000 in
theorem ks_canEncode {l : Launch} {ad : Nat → Nat} {D : va_G} {cy : Nat → ClassId} {z : wStr} {w : Wd} (hI : wI w ad) {σ : St} {x : Int32} : wC w ad D cy z l yJ1_canEncode_9a6ad (Cond.code yJ1_canEncode_9a6ad cJ1_canEncode_9a6ad 1 (some .boolean) :: aw) 1 100 [.int x] σ (wQi w ad D cy (if x < 0 then 0 else if 255 < x then 0 else 1) σ) := by
  refine wr_start (own := RJ1) hI (by decide +kernel) rfl (Nat.le_of_ble_eq_true rfl) rfl ?_
  intro p e s m below meth c ls X hw hr hl
  have hx := X.hx
  have hb := X.hb
  obtain ⟨H, eH⟩ : ∃ H : Heap, H = s.heap := ⟨_, rfl⟩
  obtain ⟨locs, el⟩ : ∃ locs : List Loc, locs = [] := ⟨_, rfl⟩
  rw [← eH, ← el] at hw ⊢
  clear eH el
  replace hl : lv_has ls 1 [(0, .int x)] := hl
  refine lv_iload_n hx hb dJ1_canEncode_9a6ad_0 rfl (lv_at hl 0 rfl) ?_
  refine lv_if_lt (tgt := 15) hx hb dJ1_canEncode_9a6ad_1 (by decide) (fun c1 => ?_) (fun c1 => ?_)
  · rw [if_pos c1]
    refine lv_iconst (v := 0) hx hb dJ1_canEncode_9a6ad_15 (by decide) ?_
    exact wr_nret X hw hr rfl dJ1_canEncode_9a6ad_16
  · rw [if_neg c1]
    refine lv_iload_n hx hb dJ1_canEncode_9a6ad_4 rfl (lv_at hl 0 rfl) ?_
    refine lv_sipush (v := 255) hx hb dJ1_canEncode_9a6ad_5 (by decide) ?_
    refine lv_icmp_gt (tgt := 15) hx hb dJ1_canEncode_9a6ad_8 (by decide) (fun c2 => ?_) (fun c2 => ?_)
    · rw [if_pos c2]
      refine lv_iconst (v := 0) hx hb dJ1_canEncode_9a6ad_15 (by decide) ?_
      exact wr_nret X hw hr rfl dJ1_canEncode_9a6ad_16
    · rw [if_neg c2]
      refine lv_iconst (v := 1) hx hb dJ1_canEncode_9a6ad_11 (by decide) ?_
      refine lv_goto (tgt := 16) hx hb dJ1_canEncode_9a6ad_12 (by decide) ?_
      exact wr_nret X hw hr rfl dJ1_canEncode_9a6ad_16
theorem six_step {x : Int32} (h0 : ¬ x < 0) (h1 : ¬ 255 < x) (k : Nat) (hk : k < 9) : ((wbyt.getD 0 []).getD k 0 = i2b x ↔ (wbyt.getD 0 []).getD k 0 = x) := by
  have hx : ∃ n : Nat, n < 256 ∧ x = Int32.ofNat n := by
    refine ⟨x.toInt.toNat, ?_, ?_⟩
    · have a := Int32.le_iff_toInt_le.mp (Int32.not_lt.mp h0)
      have b := Int32.le_iff_toInt_le.mp (Int32.not_lt.mp h1)
      have c : (255 : Int32).toInt = 255 := by decide
      have d : (0 : Int32).toInt = 0 := by decide
      omega
    · have a := Int32.le_iff_toInt_le.mp (Int32.not_lt.mp h0)
      have d : (0 : Int32).toInt = 0 := by decide
      rw [← Int32.toInt_inj, show (Int32.ofNat x.toInt.toNat).toInt = ((x.toInt.toNat : Nat) : Int) from nI_toInt (by have := x.toInt_lt; omega)]
      omega
  obtain ⟨n, hn, rfl⟩ := hx
  have h : ∀ n, n < 256 → ∀ k, k < 9 → ((wbyt.getD 0 []).getD k 0 = i2b (Int32.ofNat n) ↔ (wbyt.getD 0 []).getD k 0 = Int32.ofNat n) := by decide +kernel
  exact h n hn k hk
theorem six_drop (x : Int32) (k : Nat) (hk : k < 9) : sixF x ((wbyt.getD 0 []).drop k) k = if (wbyt.getD 0 []).getD k 0 = x then nI k else sixF x ((wbyt.getD 0 []).drop (k + 1)) (k + 1) := by
  match k, hk with
  | 0, _ => rfl
  | 1, _ => rfl
  | 2, _ => rfl
  | 3, _ => rfl
  | 4, _ => rfl
  | 5, _ => rfl
  | 6, _ => rfl
  | 7, _ => rfl
  | 8, _ => rfl
set_option maxRecDepth 100000 in
set_option maxHeartbeats 4000000 in
theorem ks_indexOfChar {l : Launch} {ad : Nat → Nat} {D : va_G} {cy : Nat → ClassId} {z : wStr} {w : Wd} (hI : wI w ad) {σ : St} {x : Int32} (h0 : ¬ x < 0) (h1 : ¬ 255 < x) : wC w ad D cy z l yJ1_indexOfChar_4cfef (Cond.code yJ1_indexOfChar_4cfef cJ1_indexOfChar_4cfef 6 (some .int) :: aw) 1 100 [.ref (z.2 0), .int x, .int 0, .int 9] σ (wQi w ad D cy (sixF x (wbyt.getD 0 []) 0) σ) := by
  refine wr_start (own := RJ1) hI (by decide +kernel) rfl (Nat.le_of_ble_eq_true rfl) rfl ?_
  intro p e s m below meth c ls X hw hr hl
  have hx := X.hx
  have hb := X.hb
  obtain ⟨H, eH⟩ : ∃ H : Heap, H = s.heap := ⟨_, rfl⟩
  obtain ⟨locs, el⟩ : ∃ locs : List Loc, locs = [] := ⟨_, rfl⟩
  rw [← eH, ← el] at hw ⊢
  clear eH el
  replace hl : lv_has ls 6 [(0, .ref (z.2 0)), (1, .int x), (2, .int 0), (3, .int 9)] := hl
  refine lv_iload_n hx hb dJ1_indexOfChar_4cfef_0 rfl (lv_at hl 1 rfl) ?_
  refine lv_i2b (v := i2b x) hx hb dJ1_indexOfChar_4cfef_1 rfl ?_
  refine lv_istore (lv' := [(4, .int (i2b x)), (0, .ref (z.2 0)), (1, .int x), (2, .int 0), (3, .int 9)]) hx hb dJ1_indexOfChar_4cfef_2 hl (by decide) rfl (fun ls hl => ?_)
  refine lv_iload_n hx hb dJ1_indexOfChar_4cfef_4 rfl (lv_at hl 3 rfl) ?_
  refine lv_istore (lv' := [(5, .int 0), (4, .int (i2b x)), (0, .ref (z.2 0)), (1, .int x), (2, .int 0), (3, .int 9)]) hx hb dJ1_indexOfChar_4cfef_5 hl (by decide) rfl (fun ls hl => ?_)
  have lo : ∀ (j k : Nat), k + j = 9 → sixF x (wbyt.getD 0 []) 0 = sixF x ((wbyt.getD 0 []).drop k) k → ∀ (ls : Array Slot), lv_has ls 6 [(5, .int (nI k)), (4, .int (i2b x)), (0, .ref (z.2 0)), (3, .int 9)] → W p l e { frames := 1, cells := 0, slots := 0, locals := 100 } s m [.ref (z.2 0), .int x, .int 0, .int 9].toArray below meth c H locs 0 0 (MQ below (wQi w ad D cy (sixF x (wbyt.getD 0 []) 0) σ) [.ref (z.2 0), .int x, .int 0, .int 9].toArray s 0 0 (wA w ad)) (F0 m 7 ls []) := by
    intro j
    induction j with
    | zero =>
      intro k hk he ls hl
      have hk9 : k = 9 := by omega
      subst hk9
      rw [he]
      refine lv_iload hx hb dJ1_indexOfChar_4cfef_7 (lv_at hl 0 rfl) ?_
      refine lv_iload_n hx hb dJ1_indexOfChar_4cfef_9 rfl (lv_at hl 3 rfl) ?_
      refine lv_icmp_ge (tgt := 31) hx hb dJ1_indexOfChar_4cfef_10 (by decide) (fun c1 => ?_) (fun c1 => absurd (by decide) c1)
      refine lv_iconst (v := -1) hx hb dJ1_indexOfChar_4cfef_31 (by decide) ?_
      exact wr_nret X hw hr rfl dJ1_indexOfChar_4cfef_32
    | succ j ih =>
      intro k hk he ls hl
      refine lv_iload hx hb dJ1_indexOfChar_4cfef_7 (lv_at hl 0 rfl) ?_
      refine lv_iload_n hx hb dJ1_indexOfChar_4cfef_9 rfl (lv_at hl 3 rfl) ?_
      refine lv_icmp_ge (tgt := 31) hx hb dJ1_indexOfChar_4cfef_10 (by decide) (fun c1 => absurd c1 (nI_ge (a := k) (b := 9) (by omega) (by decide))) (fun c1 => ?_)
      refine lv_aload_n hx hb dJ1_indexOfChar_4cfef_13 rfl (lv_at hl 2 rfl) ?_
      refine lv_iload hx hb dJ1_indexOfChar_4cfef_14 (lv_at hl 0 rfl) ?_
      refine va_tb hx hb (X.str.1.1 0 (by decide)).2.2.2 hw.2 (show vp_in (nI k) 9 from vp_in_nI (by omega) (by decide)) (v := .int ((wbyt.getD 0 []).getD k 0)) (by rw [nI_clamp (by omega)]) dJ1_indexOfChar_4cfef_16 ?_
      refine lv_iload hx hb dJ1_indexOfChar_4cfef_17 (lv_at hl 1 rfl) ?_
      have hd := six_drop x k (by omega)
      refine lv_icmp_ne (tgt := 25) hx hb dJ1_indexOfChar_4cfef_19 (by decide) (fun c2 => ?_) (fun c2 => ?_)
      · refine lv_iinc (v := nI (k + 1)) (lv' := [(5, .int (nI (k + 1))), (4, .int (i2b x)), (0, .ref (z.2 0)), (3, .int 9)]) hx hb dJ1_indexOfChar_4cfef_25 hl (k := 0) rfl (by rw [nI_succ]; rfl) (by decide) rfl (fun ls hl => ?_)
        refine lv_goto (tgt := 7) hx hb dJ1_indexOfChar_4cfef_28 (by decide) ?_
        refine ih (k + 1) (by omega) ?_ ls hl
        rw [he, hd, if_neg (fun q => c2 ((six_step h0 h1 k (by omega)).mpr q))]
      · refine lv_iload hx hb dJ1_indexOfChar_4cfef_22 (lv_at hl 0 rfl) ?_
        rw [he, hd, if_pos ((six_step h0 h1 k (by omega)).mp c2)]
        exact wr_nret X hw hr rfl dJ1_indexOfChar_4cfef_24
  exact lo 9 0 rfl rfl ls (lv_sub hl [0, 1, 2, 5] rfl)
theorem six_out {x : Int32} (h : x < 0 ∨ 255 < x) : sixF x (wbyt.getD 0 []) 0 = -1 := by
  have h1 : ∀ k, k < 9 → ¬ (wbyt.getD 0 []).getD k 0 = x := by
    intro k hk e
    have h2 : ∀ k, k < 9 → ¬ (wbyt.getD 0 []).getD k 0 < 0 ∧ ¬ 255 < (wbyt.getD 0 []).getD k 0 := by decide +kernel
    rw [← e] at h
    rcases h with h | h
    · exact (h2 k hk).1 h
    · exact (h2 k hk).2 h
  have h3 : ∀ j k, k + j = 9 → sixF x ((wbyt.getD 0 []).drop k) k = -1 := by
    intro j
    induction j with
    | zero => intro k hk; have : k = 9 := by omega
              subst this; rfl
    | succ j ih => intro k hk; rw [six_drop x k (by omega), if_neg (h1 k (by omega))]; exact ih (k + 1) (by omega)
  exact h3 9 0 rfl
set_option maxRecDepth 100000 in
set_option maxHeartbeats 4000000 in
theorem ks_indexOf1L {l : Launch} {ad : Nat → Nat} {D : va_G} {cy : Nat → ClassId} {z : wStr} {w : Wd} (hI : wI w ad) {σ : St} {x : Int32} : wC w ad D cy z l yJ1_indexOf_4cfef (Cond.code yJ1_indexOf_4cfef cJ1_indexOf_4cfef 4 (some .int) :: aw) 2 200 [.ref (z.2 0), .int x, .int 0, .int 9] σ (wQi w ad D cy (sixF x (wbyt.getD 0 []) 0) σ) := by
  refine wr_start (own := RJ1) hI (by decide +kernel) rfl (Nat.le_of_ble_eq_true rfl) rfl ?_
  intro p e s m below meth c ls X hw hr hl
  have hx := X.hx
  have hb := X.hb
  obtain ⟨H, eH⟩ : ∃ H : Heap, H = s.heap := ⟨_, rfl⟩
  obtain ⟨locs, el⟩ : ∃ locs : List Loc, locs = [] := ⟨_, rfl⟩
  rw [← eH, ← el] at hw ⊢
  clear eH el
  replace hl : lv_has ls 4 [(0, .ref (z.2 0)), (1, .int x), (2, .int 0), (3, .int 9)] := hl
  refine lv_iload_n hx hb dJ1_indexOf_4cfef_0 rfl (lv_at hl 1 rfl) ?_
  refine wr_cSi (r := (if x < 0 then 0 else if 255 < x then 0 else 1)) (σ' := σ) (av := [.int x]) (rest := []) X hw hl.1 (ks_canEncode hI) rfl ml_J1_88 st_J1_canEncode_9a6ad ini_J1 co_J1_canEncode_9a6ad hds_canEncode ⟨(Nat.le_of_ble_eq_true rfl), (Nat.le_of_ble_eq_true rfl)⟩ (Nat.le_of_ble_eq_true rfl) dJ1_indexOf_4cfef_1 rfl (fun H locs hw => ?_)
  refine lv_if_ne (tgt := 9) hx hb dJ1_indexOf_4cfef_4 (by decide) (fun c1 => ?_) (fun c1 => ?_)
  · have h0 : ¬ x < 0 := fun q => c1 (by rw [if_pos q])
    have h1 : ¬ 255 < x := fun q => c1 (by rw [if_neg h0, if_pos q])
    refine lv_iload_n hx hb dJ1_indexOf_4cfef_9 rfl (lv_at hl 2 rfl) ?_
    refine lv_iconst (v := 0) hx hb dJ1_indexOf_4cfef_10 (by decide) ?_
    refine wr_max X hl.1 ml_J1_92 (Nat.le_of_ble_eq_true rfl) (Nat.le_of_ble_eq_true rfl) dJ1_indexOf_4cfef_11 ?_
    refine wr_top (y := 0) (by decide) ?_
    refine lv_istore_n (lv' := [(2, .int 0), (0, .ref (z.2 0)), (1, .int x), (3, .int 9)]) hx hb dJ1_indexOf_4cfef_14 rfl hl (by decide) rfl (fun ls hl => ?_)
    refine lv_iload_n hx hb dJ1_indexOf_4cfef_15 rfl (lv_at hl 3 rfl) ?_
    refine lv_aload_n hx hb dJ1_indexOf_4cfef_16 rfl (lv_at hl 1 rfl) ?_
    refine va_tlen hx hb (X.str.1.1 0 (by decide)).2.2.2 hw.2 (v := 9) rfl dJ1_indexOf_4cfef_17 ?_
    refine wr_min X hl.1 ml_J1_38 (Nat.le_of_ble_eq_true rfl) (Nat.le_of_ble_eq_true rfl) dJ1_indexOf_4cfef_18 ?_
    refine wr_top (y := 9) (by decide) ?_
    refine lv_istore_n (lv' := [(3, .int 9), (2, .int 0), (0, .ref (z.2 0)), (1, .int x)]) hx hb dJ1_indexOf_4cfef_21 rfl hl (by decide) rfl (fun ls hl => ?_)
    refine lv_iload_n hx hb dJ1_indexOf_4cfef_22 rfl (lv_at hl 1 rfl) ?_
    refine lv_iload_n hx hb dJ1_indexOf_4cfef_23 rfl (lv_at hl 0 rfl) ?_
    refine lv_icmp_lt (tgt := 29) hx hb dJ1_indexOf_4cfef_24 (by decide) (fun c2 => ?_) (fun c2 => absurd (by decide) c2)
    refine lv_aload_n hx hb dJ1_indexOf_4cfef_29 rfl (lv_at hl 2 rfl) ?_
    refine lv_iload_n hx hb dJ1_indexOf_4cfef_30 rfl (lv_at hl 3 rfl) ?_
    refine lv_iload_n hx hb dJ1_indexOf_4cfef_31 rfl (lv_at hl 1 rfl) ?_
    refine lv_iload_n hx hb dJ1_indexOf_4cfef_32 rfl (lv_at hl 0 rfl) ?_
    refine wr_cSi (r := sixF x (wbyt.getD 0 []) 0) (σ' := σ) (av := [.ref (z.2 0), .int x, .int 0, .int 9]) (rest := []) X hw hl.1 (ks_indexOfChar hI h0 h1) rfl ml_J1_95 st_J1_indexOfChar_4cfef ini_J1 co_J1_indexOfChar_4cfef hds_indexOfChar ⟨(Nat.le_of_ble_eq_true rfl), (Nat.le_of_ble_eq_true rfl)⟩ (Nat.le_of_ble_eq_true rfl) dJ1_indexOf_4cfef_33 rfl (fun H locs hw => ?_)
    exact wr_nret X hw hr rfl dJ1_indexOf_4cfef_36
  · have h2 : x < 0 ∨ 255 < x := by
      by_cases q : x < 0
      · exact Or.inl q
      · rw [if_neg q] at c1
        by_cases q2 : 255 < x
        · exact Or.inr q2
        · rw [if_neg q2] at c1; exact absurd c1 (by decide)
    rw [six_out h2]
    refine lv_iconst (v := -1) hx hb dJ1_indexOf_4cfef_7 (by decide) ?_
    exact wr_nret X hw hr rfl dJ1_indexOf_4cfef_8
set_option maxRecDepth 100000 in
set_option maxHeartbeats 4000000 in
theorem ks_indexOf2 {l : Launch} {ad : Nat → Nat} {D : va_G} {cy : Nat → ClassId} {z : wStr} {w : Wd} (hI : wI w ad) {σ : St} {x : Int32} : wC w ad D cy z l yJ0_indexOf_7cf53 (Cond.code yJ0_indexOf_7cf53 cJ0_indexOf_7cf53 3 (some .int) :: aw) 3 300 [.ref (z.1 0), .int x, .int 0] σ (wQi w ad D cy (sixF x (wbyt.getD 0 []) 0) σ) := by
  refine wr_start (own := RJ0) hI (by decide +kernel) rfl (Nat.le_of_ble_eq_true rfl) rfl ?_
  intro p e s m below meth c ls X hw hr hl
  have hx := X.hx
  have hb := X.hb
  obtain ⟨H, eH⟩ : ∃ H : Heap, H = s.heap := ⟨_, rfl⟩
  obtain ⟨locs, el⟩ : ∃ locs : List Loc, locs = [] := ⟨_, rfl⟩
  rw [← eH, ← el] at hw ⊢
  clear eH el
  replace hl : lv_has ls 3 [(0, .ref (z.1 0)), (1, .int x), (2, .int 0)] := hl
  refine lv_aload_n hx hb dJ0_indexOf_7cf53_0 rfl (lv_at hl 0 rfl) ?_
  refine wr_cStr (i := 0) (r := 1) (σ' := σ) (av := []) (rest := []) X hw hl.1 (by decide) (ks_isLatin1 hI (by decide)) rfl ml_J0_492 im_J0_isLatin1_aae02 se_J0_isLatin1_aae02 ini_J0 co_J0_isLatin1_aae02 hds_isLatin1 ⟨(Nat.le_of_ble_eq_true rfl), (Nat.le_of_ble_eq_true rfl)⟩ (Nat.le_of_ble_eq_true rfl) dJ0_indexOf_7cf53_1 rfl (fun H locs hw => ?_)
  refine lv_if_eq (tgt := 23) hx hb dJ0_indexOf_7cf53_4 (by decide) (fun c1 => absurd c1 (by decide)) (fun c1 => ?_)
  refine lv_aload_n hx hb dJ0_indexOf_7cf53_7 rfl (lv_at hl 0 rfl) ?_
  refine vk_getf hx hb (X.str.1.1 0 (by decide)).2.2.1 hw.2 X.ow (X.tw fl_J0_9) (fun _ h => h) dJ0_indexOf_7cf53_8 ?_
  refine lv_iload_n hx hb dJ0_indexOf_7cf53_11 rfl (lv_at hl 1 rfl) ?_
  refine lv_iload_n hx hb dJ0_indexOf_7cf53_12 rfl (lv_at hl 2 rfl) ?_
  refine lv_aload_n hx hb dJ0_indexOf_7cf53_13 rfl (lv_at hl 0 rfl) ?_
  refine wr_cStr (i := 0) (r := Int32.ofNat (wlen.getD 0 0)) (σ' := σ) (av := []) (rest := [.int 0, .int x, .ref (z.2 0)]) X hw hl.1 (by decide) (ks_length hI (by decide)) rfl ml_J0_505 im_J0_length_8abf5 se_J0_length_8abf5 ini_J0 co_J0_length_8abf5 hds_length ⟨(Nat.le_of_ble_eq_true rfl), (Nat.le_of_ble_eq_true rfl)⟩ (Nat.le_of_ble_eq_true rfl) dJ0_indexOf_7cf53_14 rfl (fun H locs hw => ?_)
  refine wr_top (y := 9) rfl ?_
  refine wr_cSi (r := sixF x (wbyt.getD 0 []) 0) (σ' := σ) (av := [.ref (z.2 0), .int x, .int 0, .int 9]) (rest := []) X hw hl.1 (ks_indexOf1L hI) rfl ml_J0_637 st_J1_indexOf_4cfef ini_J1 co_J1_indexOf_4cfef hds_indexOf1L ⟨(Nat.le_of_ble_eq_true rfl), (Nat.le_of_ble_eq_true rfl)⟩ (Nat.le_of_ble_eq_true rfl) dJ0_indexOf_7cf53_17 rfl (fun H locs hw => ?_)
  refine lv_goto (tgt := 36) hx hb dJ0_indexOf_7cf53_20 (by decide) ?_
  exact wr_nret X hw hr rfl dJ0_indexOf_7cf53_36
set_option maxRecDepth 100000 in
set_option maxHeartbeats 4000000 in
theorem ks_indexOf1 {l : Launch} {ad : Nat → Nat} {D : va_G} {cy : Nat → ClassId} {z : wStr} {w : Wd} (hI : wI w ad) {σ : St} {x : Int32} : wC w ad D cy z l yJ0_indexOf_0f7a4 (Cond.code yJ0_indexOf_0f7a4 cJ0_indexOf_0f7a4 2 (some .int) :: aw) 4 400 [.ref (z.1 0), .int x] σ (wQi w ad D cy (sixF x (wbyt.getD 0 []) 0) σ) := by
  refine wr_start (own := RJ0) hI (by decide +kernel) rfl (Nat.le_of_ble_eq_true rfl) rfl ?_
  intro p e s m below meth c ls X hw hr hl
  have hx := X.hx
  have hb := X.hb
  obtain ⟨H, eH⟩ : ∃ H : Heap, H = s.heap := ⟨_, rfl⟩
  obtain ⟨locs, el⟩ : ∃ locs : List Loc, locs = [] := ⟨_, rfl⟩
  rw [← eH, ← el] at hw ⊢
  clear eH el
  replace hl : lv_has ls 2 [(0, .ref (z.1 0)), (1, .int x)] := hl
  refine lv_aload_n hx hb dJ0_indexOf_0f7a4_0 rfl (lv_at hl 0 rfl) ?_
  refine lv_iload_n hx hb dJ0_indexOf_0f7a4_1 rfl (lv_at hl 1 rfl) ?_
  refine lv_iconst (v := 0) hx hb dJ0_indexOf_0f7a4_2 (by decide) ?_
  refine wr_cStr (i := 0) (r := sixF x (wbyt.getD 0 []) 0) (σ' := σ) (av := [.int x, .int 0]) (rest := []) X hw hl.1 (by decide) (ks_indexOf2 hI) rfl ml_J0_633 im_J0_indexOf_7cf53 se_J0_indexOf_7cf53 ini_J0 co_J0_indexOf_7cf53 hds_indexOf2 ⟨(Nat.le_of_ble_eq_true rfl), (Nat.le_of_ble_eq_true rfl)⟩ (Nat.le_of_ble_eq_true rfl) dJ0_indexOf_0f7a4_3 rfl (fun H locs hw => ?_)
  exact wr_nret X hw hr rfl dJ0_indexOf_0f7a4_6
section ROWS4
variable {p : Program} {l : Launch} {e : Env} {R : Room} {s : State} {m : MethodId} {args : Array Value} {below : List Frame} {meth : Method} {c : Code} {H : Heap} {locs : List Loc} {Q : State → Prop} {cc : ByteArray} {pc nL : Nat} {ls : Array Slot} {rest : List Value} {own : String} {y0 : Cond} {w : Wd} {ad : Nat → Nat} {D : va_G} {cy : Nat → ClassId} {z : wStr} {σ : St}
theorem wr_slen1 (X : wX p m c cc nL s args meth y0 "CaseBefore$Scanner" w ad D cy z) (hw : wH w ad D cy s σ H locs) (hl : ls.size = nL) (hcat : (rest.map fun v => v.category).sum ≤ 8) (hf : 9 ≤ R.frames) (hn : 700 ≤ R.locals) {index : Nat} (hm : Cond.methodLink RX5 index yJ0_length_8abf5 ∈ aw) (hdg : decode cc pc = .ok (.invokevirtual index, 3))
    (kk : ∀ (H1 : Heap) (locs1 : List Loc), wH w ad D cy s σ H1 locs1 → W p l e R s m args below meth c H1 locs1 0 0 Q (F0 m (pc + 3) ls (.int 152 :: rest))) : W p l e R s m args below meth c H locs 0 0 Q (F0 m pc ls (.ref (z.1 1) :: rest)) :=
  wr_cStr (i := 1) (r := Int32.ofNat (wlen.getD 1 0)) (σ' := σ) (av := []) (rest := rest) X hw hl (by decide) (ks_length X.2.2.1 (by decide)) rfl hm im_J0_length_8abf5 se_J0_length_8abf5 ini_J0 co_J0_length_8abf5 hds_length ⟨by omega, by omega⟩ hcat hdg rfl kk
theorem wr_six0 (X : wX p m c cc nL s args meth y0 "CaseBefore$Scanner" w ad D cy z) (hw : wH w ad D cy s σ H locs) (hl : ls.size = nL) (hcat : (rest.map fun v => v.category).sum ≤ 8) (hf : 9 ≤ R.frames) (hn : 700 ≤ R.locals) {index : Nat} (hm : Cond.methodLink RX5 index yJ0_indexOf_0f7a4 ∈ aw) {x v : Int32} (hq : six 0 x = some v) (hdg : decode cc pc = .ok (.invokevirtual index, 3))
    (kk : ∀ (H1 : Heap) (locs1 : List Loc), wH w ad D cy s σ H1 locs1 → W p l e R s m args below meth c H1 locs1 0 0 Q (F0 m (pc + 3) ls (.int v :: rest))) : W p l e R s m args below meth c H locs 0 0 Q (F0 m pc ls (.int x :: .ref (z.1 0) :: rest)) := by
  have e := Option.some.inj hq
  subst e
  exact wr_cStr (i := 0) (r := sixF x (wbyt.getD 0 []) 0) (σ' := σ) (av := [.int x]) (rest := rest) X hw hl (by decide) (ks_indexOf1 X.2.2.1) rfl hm im_J0_indexOf_0f7a4 se_J0_indexOf_0f7a4 ini_J0 co_J0_indexOf_0f7a4 hds_indexOf1 ⟨by omega, by omega⟩ hcat hdg rfl kk
theorem wr_sch1 (X : wX p m c cc nL s args meth y0 "CaseBefore$Scanner" w ad D cy z) (hw : wH w ad D cy s σ H locs) (hl : ls.size = nL) (hcat : (rest.map fun v => v.category).sum ≤ 8) (hf : 9 ≤ R.frames) (hn : 700 ≤ R.locals) {index : Nat} (hm : Cond.methodLink RX5 index yJ0_charAt_5068e ∈ aw) {x v : Int32} (hq : sch 1 x = some v) (hdg : decode cc pc = .ok (.invokevirtual index, 3))
    (kk : ∀ (H1 : Heap) (locs1 : List Loc), wH w ad D cy s σ H1 locs1 → W p l e R s m args below meth c H1 locs1 0 0 Q (F0 m (pc + 3) ls (.int v :: rest))) : W p l e R s m args below meth c H locs 0 0 Q (F0 m pc ls (.int x :: .ref (z.1 1) :: rest)) := by
  obtain ⟨hb0, hq⟩ := if_some hq
  have e := Option.some.inj hq
  subst e
  exact wr_cStr (i := 1) (r := (wbyt.getD 1 []).getD x.toNatClampNeg 0) (σ' := σ) (av := [.int x]) (rest := rest) X hw hl (by decide) (ks_charAt X.2.2.1 (by decide) hb0) rfl hm im_J0_charAt_5068e se_J0_charAt_5068e ini_J0 co_J0_charAt_5068e hds_charAt ⟨by omega, by omega⟩ hcat hdg rfl kk
end ROWS4
