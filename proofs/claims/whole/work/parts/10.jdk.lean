def f_J9_floorMod_7cf53 (x0 : Int32) (x1 : Int32) : Option (Int32) := if x1 = 0 then none else (wlet (x0 - x0 / x1 * x1) fun v2 => if 0 ≤ (x0 ^^^ x1) then (some v2) else (if v2 = 0 then (some v2) else (some (v2 + x1))))
theorem hd_J9_floorMod_7cf53 : yJ9_floorMod_7cf53.cls ≠ "java/lang/invoke/MethodHandle" ∧ yJ9_floorMod_7cf53.cls ≠ "java/lang/invoke/VarHandle" ∧ (parseMethodDescriptor yJ9_floorMod_7cf53.desc).map (fun d => d.parameters.length) = some 2 := by decide +kernel
set_option maxRecDepth 100000 in
set_option maxHeartbeats 4000000 in
theorem k_J9_floorMod_7cf53 {l : Launch} {ad : Nat → Nat} {D : va_G} {cy : Nat → ClassId} {z : wStr} (hI : wI WC ad) {σ : St} {x0 : Int32} {x1 : Int32}  {res : Int32} (hf : f_J9_floorMod_7cf53 x0 x1 = some res) : wC WC ad D cy z l yJ9_floorMod_7cf53 (Cond.code yJ9_floorMod_7cf53 cJ9_floorMod_7cf53 3 (Option.some Jvm.ClassFile.FieldType.int) :: aw) (1) (100) [.int x0, .int x1] σ (wQi WC ad D cy res σ) := by
  unfold f_J9_floorMod_7cf53 at hf
  refine wr_start (own := RJ9) hI (by decide +kernel) rfl (Nat.le_of_ble_eq_true rfl) rfl ?_
  intro p e s m below meth c ls X hw hr hl
  have hx := X.hx
  have hb := X.hb
  obtain ⟨H, eH⟩ : ∃ H : Heap, H = s.heap := ⟨_, rfl⟩
  obtain ⟨locs, el⟩ : ∃ locs : List Loc, locs = [] := ⟨_, rfl⟩
  rw [← eH, ← el] at hw ⊢
  clear eH el
  replace hl : lv_has ls 3 [(0, .int x0), (1, .int x1)] := hl
  refine lv_iload_n hx hb dJ9_floorMod_7cf53_0 rfl (lv_at hl 0 rfl) ?_
  refine lv_iload_n hx hb dJ9_floorMod_7cf53_1 rfl (lv_at hl 1 rfl) ?_
  obtain ⟨h1, hf⟩ := ifn_some hf
  refine lv_irem hx hb dJ9_floorMod_7cf53_2 h1 ?_
  obtain ⟨v2, ev2, hf⟩ := wlet_some hf
  refine wr_top ev2 ?_
  refine lv_istore_n (lv' := [(2, .int v2), (0, .int x0), (1, .int x1)]) hx hb dJ9_floorMod_7cf53_3 rfl hl (by decide) rfl (fun ls hl => ?_)
  refine lv_iload_n hx hb dJ9_floorMod_7cf53_4 rfl (lv_at hl 1 rfl) ?_
  refine lv_iload_n hx hb dJ9_floorMod_7cf53_5 rfl (lv_at hl 2 rfl) ?_
  refine lv_ixor hx hb dJ9_floorMod_7cf53_6 ?_
  refine lv_if_ge (tgt := 18) hx hb dJ9_floorMod_7cf53_7 (by decide) (fun c3 => ?_) (fun c3 => ?_)
  · have hf := (if_pos c3).symm.trans hf
    refine lv_iload_n hx hb dJ9_floorMod_7cf53_18 rfl (lv_at hl 0 rfl) ?_
    have er := Option.some.inj hf
    subst er
    exact wr_iret X hw hr (Or.inl rfl) dJ9_floorMod_7cf53_19
  · have hf := (if_neg c3).symm.trans hf
    refine lv_iload_n hx hb dJ9_floorMod_7cf53_10 rfl (lv_at hl 0 rfl) ?_
    refine lv_if_eq (tgt := 18) hx hb dJ9_floorMod_7cf53_11 (by decide) (fun c4 => ?_) (fun c4 => ?_)
    · have hf := (if_pos c4).symm.trans hf
      refine lv_iload_n hx hb dJ9_floorMod_7cf53_18 rfl (lv_at hl 0 rfl) ?_
      have er := Option.some.inj hf
      subst er
      exact wr_iret X hw hr (Or.inl rfl) dJ9_floorMod_7cf53_19
    · have hf := (if_neg c4).symm.trans hf
      refine lv_iload_n hx hb dJ9_floorMod_7cf53_14 rfl (lv_at hl 0 rfl) ?_
      refine lv_iload_n hx hb dJ9_floorMod_7cf53_15 rfl (lv_at hl 2 rfl) ?_
      refine lv_iadd hx hb dJ9_floorMod_7cf53_16 ?_
      have er := Option.some.inj hf
      subst er
      exact wr_iret X hw hr (Or.inl rfl) dJ9_floorMod_7cf53_17

def f_J6_bitCount_0f7a4 (x0 : Int32) : Option (Int32) := wlet (x0 - ((usr x0 (1 : Int32)) &&& (1431655765 : Int32))) fun v1 => wlet ((v1 &&& (858993459 : Int32)) + ((usr v1 (2 : Int32)) &&& (858993459 : Int32))) fun v2 => wlet ((v2 + (usr v2 (4 : Int32))) &&& (252645135 : Int32)) fun v3 => wlet (v3 + (usr v3 (8 : Int32))) fun v4 => wlet (v4 + (usr v4 (16 : Int32))) fun v5 => some (v5 &&& (63 : Int32))
theorem hd_J6_bitCount_0f7a4 : yJ6_bitCount_0f7a4.cls ≠ "java/lang/invoke/MethodHandle" ∧ yJ6_bitCount_0f7a4.cls ≠ "java/lang/invoke/VarHandle" ∧ (parseMethodDescriptor yJ6_bitCount_0f7a4.desc).map (fun d => d.parameters.length) = some 1 := by decide +kernel
set_option maxRecDepth 100000 in
set_option maxHeartbeats 4000000 in
theorem k_J6_bitCount_0f7a4 {l : Launch} {ad : Nat → Nat} {D : va_G} {cy : Nat → ClassId} {z : wStr} (hI : wI WC ad) {σ : St} {x0 : Int32}  {res : Int32} (hf : f_J6_bitCount_0f7a4 x0 = some res) : wC WC ad D cy z l yJ6_bitCount_0f7a4 (Cond.code yJ6_bitCount_0f7a4 cJ6_bitCount_0f7a4 1 (Option.some Jvm.ClassFile.FieldType.int) :: aw) (1) (100) [.int x0] σ (wQi WC ad D cy res σ) := by
  unfold f_J6_bitCount_0f7a4 at hf
  refine wr_start (own := RJ6) hI (by decide +kernel) rfl (Nat.le_of_ble_eq_true rfl) rfl ?_
  intro p e s m below meth c ls X hw hr hl
  have hx := X.hx
  have hb := X.hb
  obtain ⟨H, eH⟩ : ∃ H : Heap, H = s.heap := ⟨_, rfl⟩
  obtain ⟨locs, el⟩ : ∃ locs : List Loc, locs = [] := ⟨_, rfl⟩
  rw [← eH, ← el] at hw ⊢
  clear eH el
  replace hl : lv_has ls 1 [(0, .int x0)] := hl
  refine lv_iload_n hx hb dJ6_bitCount_0f7a4_0 rfl (lv_at hl 0 rfl) ?_
  refine lv_iload_n hx hb dJ6_bitCount_0f7a4_1 rfl (lv_at hl 0 rfl) ?_
  refine lv_iconst (v := 1) hx hb dJ6_bitCount_0f7a4_2 (by decide) ?_
  refine lv_iushr hx hb dJ6_bitCount_0f7a4_3 (v := usr x0 (1 : Int32)) rfl ?_
  refine lv_ldcw (v := 1431655765) hx hb X.ow (X.tw kc_J6_265) dJ6_bitCount_0f7a4_4 ?_
  refine lv_iand hx hb dJ6_bitCount_0f7a4_7 ?_
  refine lv_isub hx hb dJ6_bitCount_0f7a4_8 ?_
  obtain ⟨v1, ev1, hf⟩ := wlet_some hf
  refine wr_top ev1 ?_
  refine lv_istore_n (lv' := [(0, .int v1)]) hx hb dJ6_bitCount_0f7a4_9 rfl hl (by decide) rfl (fun ls hl => ?_)
  refine lv_iload_n hx hb dJ6_bitCount_0f7a4_10 rfl (lv_at hl 0 rfl) ?_
  refine lv_ldcw (v := 858993459) hx hb X.ow (X.tw kc_J6_266) dJ6_bitCount_0f7a4_11 ?_
  refine lv_iand hx hb dJ6_bitCount_0f7a4_14 ?_
  refine lv_iload_n hx hb dJ6_bitCount_0f7a4_15 rfl (lv_at hl 0 rfl) ?_
  refine lv_iconst (v := 2) hx hb dJ6_bitCount_0f7a4_16 (by decide) ?_
  refine lv_iushr hx hb dJ6_bitCount_0f7a4_17 (v := usr v1 (2 : Int32)) rfl ?_
  refine lv_ldcw (v := 858993459) hx hb X.ow (X.tw kc_J6_266) dJ6_bitCount_0f7a4_18 ?_
  refine lv_iand hx hb dJ6_bitCount_0f7a4_21 ?_
  refine lv_iadd hx hb dJ6_bitCount_0f7a4_22 ?_
  obtain ⟨v2, ev2, hf⟩ := wlet_some hf
  refine wr_top ev2 ?_
  refine lv_istore_n (lv' := [(0, .int v2)]) hx hb dJ6_bitCount_0f7a4_23 rfl hl (by decide) rfl (fun ls hl => ?_)
  refine lv_iload_n hx hb dJ6_bitCount_0f7a4_24 rfl (lv_at hl 0 rfl) ?_
  refine lv_iload_n hx hb dJ6_bitCount_0f7a4_25 rfl (lv_at hl 0 rfl) ?_
  refine lv_iconst (v := 4) hx hb dJ6_bitCount_0f7a4_26 (by decide) ?_
  refine lv_iushr hx hb dJ6_bitCount_0f7a4_27 (v := usr v2 (4 : Int32)) rfl ?_
  refine lv_iadd hx hb dJ6_bitCount_0f7a4_28 ?_
  refine lv_ldcw (v := 252645135) hx hb X.ow (X.tw kc_J6_267) dJ6_bitCount_0f7a4_29 ?_
  refine lv_iand hx hb dJ6_bitCount_0f7a4_32 ?_
  obtain ⟨v3, ev3, hf⟩ := wlet_some hf
  refine wr_top ev3 ?_
  refine lv_istore_n (lv' := [(0, .int v3)]) hx hb dJ6_bitCount_0f7a4_33 rfl hl (by decide) rfl (fun ls hl => ?_)
  refine lv_iload_n hx hb dJ6_bitCount_0f7a4_34 rfl (lv_at hl 0 rfl) ?_
  refine lv_iload_n hx hb dJ6_bitCount_0f7a4_35 rfl (lv_at hl 0 rfl) ?_
  refine lv_bipush (v := 8) hx hb dJ6_bitCount_0f7a4_36 (by decide) ?_
  refine lv_iushr hx hb dJ6_bitCount_0f7a4_38 (v := usr v3 (8 : Int32)) rfl ?_
  refine lv_iadd hx hb dJ6_bitCount_0f7a4_39 ?_
  obtain ⟨v4, ev4, hf⟩ := wlet_some hf
  refine wr_top ev4 ?_
  refine lv_istore_n (lv' := [(0, .int v4)]) hx hb dJ6_bitCount_0f7a4_40 rfl hl (by decide) rfl (fun ls hl => ?_)
  refine lv_iload_n hx hb dJ6_bitCount_0f7a4_41 rfl (lv_at hl 0 rfl) ?_
  refine lv_iload_n hx hb dJ6_bitCount_0f7a4_42 rfl (lv_at hl 0 rfl) ?_
  refine lv_bipush (v := 16) hx hb dJ6_bitCount_0f7a4_43 (by decide) ?_
  refine lv_iushr hx hb dJ6_bitCount_0f7a4_45 (v := usr v4 (16 : Int32)) rfl ?_
  refine lv_iadd hx hb dJ6_bitCount_0f7a4_46 ?_
  obtain ⟨v5, ev5, hf⟩ := wlet_some hf
  refine wr_top ev5 ?_
  refine lv_istore_n (lv' := [(0, .int v5)]) hx hb dJ6_bitCount_0f7a4_47 rfl hl (by decide) rfl (fun ls hl => ?_)
  refine lv_iload_n hx hb dJ6_bitCount_0f7a4_48 rfl (lv_at hl 0 rfl) ?_
  refine lv_bipush (v := 63) hx hb dJ6_bitCount_0f7a4_49 (by decide) ?_
  refine lv_iand hx hb dJ6_bitCount_0f7a4_51 ?_
  have er := Option.some.inj hf
  subst er
  exact wr_iret X hw hr (Or.inl rfl) dJ6_bitCount_0f7a4_52

def f_J6_numberOfTrailingZeros_0f7a4 (x0 : Int32) : Option (Int32) := wlet ((x0 ^^^ (-1 : Int32)) &&& (x0 - (1 : Int32))) fun v1 => if 0 < v1 then (wlet (fun (x0_34_3 : Int32) (x1_34_3 : Int32) => (wlet (fun (x0_49_4 : Int32) (x1_49_4 : Int32) => (wlet (fun (x0_62_5 : Int32) (x1_62_5 : Int32) => (if x0_62_5 ≤ (4 : Int32) then (some (x1_62_5 + (usr x0_62_5 (1 : Int32)))) else (wlet (x1_62_5 + (2 : Int32)) fun v7 => wlet (usr x0_62_5 (2 : Int32)) fun v8 => some (v7 + (usr v8 (1 : Int32)))) : Option (Int32))) fun k62_5 => if x0_49_4 ≤ (16 : Int32) then (k62_5 x0_49_4 x1_49_4) else (wlet (x1_49_4 + (4 : Int32)) fun v10 => wlet (usr x0_49_4 (4 : Int32)) fun v11 => k62_5 v11 v10) : Option (Int32))) fun k49_4 => if x0_34_3 ≤ (256 : Int32) then (k49_4 x0_34_3 x1_34_3) else (wlet (x1_34_3 + (8 : Int32)) fun v13 => wlet (usr x0_34_3 (8 : Int32)) fun v14 => k49_4 v14 v13) : Option (Int32))) fun k34_3 => if v1 ≤ (65536 : Int32) then (k34_3 v1 (1 : Int32)) else (wlet ((1 : Int32) + (16 : Int32)) fun v16 => wlet (usr v1 (16 : Int32)) fun v17 => k34_3 v17 v16)) else (some (v1 &&& (32 : Int32)))
theorem hd_J6_numberOfTrailingZeros_0f7a4 : yJ6_numberOfTrailingZeros_0f7a4.cls ≠ "java/lang/invoke/MethodHandle" ∧ yJ6_numberOfTrailingZeros_0f7a4.cls ≠ "java/lang/invoke/VarHandle" ∧ (parseMethodDescriptor yJ6_numberOfTrailingZeros_0f7a4.desc).map (fun d => d.parameters.length) = some 1 := by decide +kernel
set_option maxRecDepth 100000 in
set_option maxHeartbeats 4000000 in
theorem k_J6_numberOfTrailingZeros_0f7a4 {l : Launch} {ad : Nat → Nat} {D : va_G} {cy : Nat → ClassId} {z : wStr} (hI : wI WC ad) {σ : St} {x0 : Int32}  {res : Int32} (hf : f_J6_numberOfTrailingZeros_0f7a4 x0 = some res) : wC WC ad D cy z l yJ6_numberOfTrailingZeros_0f7a4 (Cond.code yJ6_numberOfTrailingZeros_0f7a4 cJ6_numberOfTrailingZeros_0f7a4 2 (Option.some Jvm.ClassFile.FieldType.int) :: aw) (1) (100) [.int x0] σ (wQi WC ad D cy res σ) := by
  unfold f_J6_numberOfTrailingZeros_0f7a4 at hf
  refine wr_start (own := RJ6) hI (by decide +kernel) rfl (Nat.le_of_ble_eq_true rfl) rfl ?_
  intro p e s m below meth c ls X hw hr hl
  have hx := X.hx
  have hb := X.hb
  obtain ⟨H, eH⟩ : ∃ H : Heap, H = s.heap := ⟨_, rfl⟩
  obtain ⟨locs, el⟩ : ∃ locs : List Loc, locs = [] := ⟨_, rfl⟩
  rw [← eH, ← el] at hw ⊢
  clear eH el
  replace hl : lv_has ls 2 [(0, .int x0)] := hl
  refine lv_iload_n hx hb dJ6_numberOfTrailingZeros_0f7a4_0 rfl (lv_at hl 0 rfl) ?_
  refine lv_iconst (v := -1) hx hb dJ6_numberOfTrailingZeros_0f7a4_1 (by decide) ?_
  refine lv_ixor hx hb dJ6_numberOfTrailingZeros_0f7a4_2 ?_
  refine lv_iload_n hx hb dJ6_numberOfTrailingZeros_0f7a4_3 rfl (lv_at hl 0 rfl) ?_
  refine lv_iconst (v := 1) hx hb dJ6_numberOfTrailingZeros_0f7a4_4 (by decide) ?_
  refine lv_isub hx hb dJ6_numberOfTrailingZeros_0f7a4_5 ?_
  refine lv_iand hx hb dJ6_numberOfTrailingZeros_0f7a4_6 ?_
  obtain ⟨v1, ev1, hf⟩ := wlet_some hf
  refine wr_top ev1 ?_
  refine lv_istore_n (lv' := [(0, .int v1)]) hx hb dJ6_numberOfTrailingZeros_0f7a4_7 rfl hl (by decide) rfl (fun ls hl => ?_)
  refine lv_iload_n hx hb dJ6_numberOfTrailingZeros_0f7a4_8 rfl (lv_at hl 0 rfl) ?_
  refine lv_if_gt (tgt := 17) hx hb dJ6_numberOfTrailingZeros_0f7a4_9 (by decide) (fun c2 => ?_) (fun c2 => ?_)
  · have hf := (if_pos c2).symm.trans hf
    refine lv_iconst (v := 1) hx hb dJ6_numberOfTrailingZeros_0f7a4_17 (by decide) ?_
    refine lv_istore_n (lv' := [(1, .int (1 : Int32)), (0, .int v1)]) hx hb dJ6_numberOfTrailingZeros_0f7a4_18 rfl hl (by decide) rfl (fun ls hl => ?_)
    refine lv_iload_n hx hb dJ6_numberOfTrailingZeros_0f7a4_19 rfl (lv_at hl 1 rfl) ?_
    refine lv_ldcw (v := 65536) hx hb X.ow (X.tw kc_J6_264) dJ6_numberOfTrailingZeros_0f7a4_20 ?_
    obtain ⟨k34_3, ek34_3, hf0⟩ := wlet_some hf
    have j34_3 : ∀ (x0_34_3 : Int32) (x1_34_3 : Int32) (_ : k34_3 x0_34_3 x1_34_3 = some res) (ls : Array Slot) (H : Heap) (locs : List Loc), lv_has ls 2 [(0, .int x0_34_3), (1, .int x1_34_3)] → wH WC ad D cy s σ H locs → W p l e { frames := 1, cells := 0, slots := 0, locals := 100 } s m [.int x0].toArray below meth c H locs 0 0 (MQ below (wQi WC ad D cy res σ) [.int x0].toArray s 0 0 (wA WC ad)) (F0 m 34 ls []) := by
      intro x0_34_3 x1_34_3 hf ls H locs hl hw
      rw [ek34_3] at hf
      refine lv_iload_n hx hb dJ6_numberOfTrailingZeros_0f7a4_34 rfl (lv_at hl 0 rfl) ?_
      refine lv_sipush (v := 256) hx hb dJ6_numberOfTrailingZeros_0f7a4_35 (by decide) ?_
      obtain ⟨k49_4, ek49_4, hf0⟩ := wlet_some hf
      have j49_4 : ∀ (x0_49_4 : Int32) (x1_49_4 : Int32) (_ : k49_4 x0_49_4 x1_49_4 = some res) (ls : Array Slot) (H : Heap) (locs : List Loc), lv_has ls 2 [(0, .int x0_49_4), (1, .int x1_49_4)] → wH WC ad D cy s σ H locs → W p l e { frames := 1, cells := 0, slots := 0, locals := 100 } s m [.int x0].toArray below meth c H locs 0 0 (MQ below (wQi WC ad D cy res σ) [.int x0].toArray s 0 0 (wA WC ad)) (F0 m 49 ls []) := by
        intro x0_49_4 x1_49_4 hf ls H locs hl hw
        rw [ek49_4] at hf
        refine lv_iload_n hx hb dJ6_numberOfTrailingZeros_0f7a4_49 rfl (lv_at hl 0 rfl) ?_
        refine lv_bipush (v := 16) hx hb dJ6_numberOfTrailingZeros_0f7a4_50 (by decide) ?_
        obtain ⟨k62_5, ek62_5, hf0⟩ := wlet_some hf
        have j62_5 : ∀ (x0_62_5 : Int32) (x1_62_5 : Int32) (_ : k62_5 x0_62_5 x1_62_5 = some res) (ls : Array Slot) (H : Heap) (locs : List Loc), lv_has ls 2 [(0, .int x0_62_5), (1, .int x1_62_5)] → wH WC ad D cy s σ H locs → W p l e { frames := 1, cells := 0, slots := 0, locals := 100 } s m [.int x0].toArray below meth c H locs 0 0 (MQ below (wQi WC ad D cy res σ) [.int x0].toArray s 0 0 (wA WC ad)) (F0 m 62 ls []) := by
          intro x0_62_5 x1_62_5 hf ls H locs hl hw
          rw [ek62_5] at hf
          refine lv_iload_n hx hb dJ6_numberOfTrailingZeros_0f7a4_62 rfl (lv_at hl 0 rfl) ?_
          refine lv_iconst (v := 4) hx hb dJ6_numberOfTrailingZeros_0f7a4_63 (by decide) ?_
          refine lv_icmp_le (tgt := 74) hx hb dJ6_numberOfTrailingZeros_0f7a4_64 (by decide) (fun c6 => ?_) (fun c6 => ?_)
          · have hf := (if_pos c6).symm.trans hf
            refine lv_iload_n hx hb dJ6_numberOfTrailingZeros_0f7a4_74 rfl (lv_at hl 1 rfl) ?_
            refine lv_iload_n hx hb dJ6_numberOfTrailingZeros_0f7a4_75 rfl (lv_at hl 0 rfl) ?_
            refine lv_iconst (v := 1) hx hb dJ6_numberOfTrailingZeros_0f7a4_76 (by decide) ?_
            refine lv_iushr hx hb dJ6_numberOfTrailingZeros_0f7a4_77 (v := usr x0_62_5 (1 : Int32)) rfl ?_
            refine lv_iadd hx hb dJ6_numberOfTrailingZeros_0f7a4_78 ?_
            have er := Option.some.inj hf
            subst er
            exact wr_iret X hw hr (Or.inl rfl) dJ6_numberOfTrailingZeros_0f7a4_79
          · have hf := (if_neg c6).symm.trans hf
            obtain ⟨v7, ev7, hf⟩ := wlet_some hf
            refine lv_iinc (v := v7) (lv' := [(1, .int v7), (0, .int x0_62_5)]) hx hb dJ6_numberOfTrailingZeros_0f7a4_67 hl (k := 1) rfl (by rw [ev7]; rfl) (by decide) rfl (fun ls hl => ?_)
            refine lv_iload_n hx hb dJ6_numberOfTrailingZeros_0f7a4_70 rfl (lv_at hl 1 rfl) ?_
            refine lv_iconst (v := 2) hx hb dJ6_numberOfTrailingZeros_0f7a4_71 (by decide) ?_
            refine lv_iushr hx hb dJ6_numberOfTrailingZeros_0f7a4_72 (v := usr x0_62_5 (2 : Int32)) rfl ?_
            obtain ⟨v8, ev8, hf⟩ := wlet_some hf
            refine wr_top ev8 ?_
            refine lv_istore_n (lv' := [(0, .int v8), (1, .int v7)]) hx hb dJ6_numberOfTrailingZeros_0f7a4_73 rfl hl (by decide) rfl (fun ls hl => ?_)
            refine lv_iload_n hx hb dJ6_numberOfTrailingZeros_0f7a4_74 rfl (lv_at hl 1 rfl) ?_
            refine lv_iload_n hx hb dJ6_numberOfTrailingZeros_0f7a4_75 rfl (lv_at hl 0 rfl) ?_
            refine lv_iconst (v := 1) hx hb dJ6_numberOfTrailingZeros_0f7a4_76 (by decide) ?_
            refine lv_iushr hx hb dJ6_numberOfTrailingZeros_0f7a4_77 (v := usr v8 (1 : Int32)) rfl ?_
            refine lv_iadd hx hb dJ6_numberOfTrailingZeros_0f7a4_78 ?_
            have er := Option.some.inj hf
            subst er
            exact wr_iret X hw hr (Or.inl rfl) dJ6_numberOfTrailingZeros_0f7a4_79
        replace hf := hf0
        refine lv_icmp_le (tgt := 62) hx hb dJ6_numberOfTrailingZeros_0f7a4_52 (by decide) (fun c9 => ?_) (fun c9 => ?_)
        · have hf := (if_pos c9).symm.trans hf
          exact j62_5 x0_49_4 x1_49_4 hf ls H locs (lv_sub hl [0, 1] rfl) hw
        · have hf := (if_neg c9).symm.trans hf
          obtain ⟨v10, ev10, hf⟩ := wlet_some hf
          refine lv_iinc (v := v10) (lv' := [(1, .int v10), (0, .int x0_49_4)]) hx hb dJ6_numberOfTrailingZeros_0f7a4_55 hl (k := 1) rfl (by rw [ev10]; rfl) (by decide) rfl (fun ls hl => ?_)
          refine lv_iload_n hx hb dJ6_numberOfTrailingZeros_0f7a4_58 rfl (lv_at hl 1 rfl) ?_
          refine lv_iconst (v := 4) hx hb dJ6_numberOfTrailingZeros_0f7a4_59 (by decide) ?_
          refine lv_iushr hx hb dJ6_numberOfTrailingZeros_0f7a4_60 (v := usr x0_49_4 (4 : Int32)) rfl ?_
          obtain ⟨v11, ev11, hf⟩ := wlet_some hf
          refine wr_top ev11 ?_
          refine lv_istore_n (lv' := [(0, .int v11), (1, .int v10)]) hx hb dJ6_numberOfTrailingZeros_0f7a4_61 rfl hl (by decide) rfl (fun ls hl => ?_)
          exact j62_5 v11 v10 hf ls H locs (lv_sub hl [0, 1] rfl) hw
      replace hf := hf0
      refine lv_icmp_le (tgt := 49) hx hb dJ6_numberOfTrailingZeros_0f7a4_38 (by decide) (fun c12 => ?_) (fun c12 => ?_)
      · have hf := (if_pos c12).symm.trans hf
        exact j49_4 x0_34_3 x1_34_3 hf ls H locs (lv_sub hl [0, 1] rfl) hw
      · have hf := (if_neg c12).symm.trans hf
        obtain ⟨v13, ev13, hf⟩ := wlet_some hf
        refine lv_iinc (v := v13) (lv' := [(1, .int v13), (0, .int x0_34_3)]) hx hb dJ6_numberOfTrailingZeros_0f7a4_41 hl (k := 1) rfl (by rw [ev13]; rfl) (by decide) rfl (fun ls hl => ?_)
        refine lv_iload_n hx hb dJ6_numberOfTrailingZeros_0f7a4_44 rfl (lv_at hl 1 rfl) ?_
        refine lv_bipush (v := 8) hx hb dJ6_numberOfTrailingZeros_0f7a4_45 (by decide) ?_
        refine lv_iushr hx hb dJ6_numberOfTrailingZeros_0f7a4_47 (v := usr x0_34_3 (8 : Int32)) rfl ?_
        obtain ⟨v14, ev14, hf⟩ := wlet_some hf
        refine wr_top ev14 ?_
        refine lv_istore_n (lv' := [(0, .int v14), (1, .int v13)]) hx hb dJ6_numberOfTrailingZeros_0f7a4_48 rfl hl (by decide) rfl (fun ls hl => ?_)
        exact j49_4 v14 v13 hf ls H locs (lv_sub hl [0, 1] rfl) hw
    replace hf := hf0
    refine lv_icmp_le (tgt := 34) hx hb dJ6_numberOfTrailingZeros_0f7a4_23 (by decide) (fun c15 => ?_) (fun c15 => ?_)
    · have hf := (if_pos c15).symm.trans hf
      exact j34_3 v1 (1 : Int32) hf ls H locs (lv_sub hl [1, 0] rfl) hw
    · have hf := (if_neg c15).symm.trans hf
      obtain ⟨v16, ev16, hf⟩ := wlet_some hf
      refine lv_iinc (v := v16) (lv' := [(1, .int v16), (0, .int v1)]) hx hb dJ6_numberOfTrailingZeros_0f7a4_26 hl (k := 0) rfl (by rw [ev16]; rfl) (by decide) rfl (fun ls hl => ?_)
      refine lv_iload_n hx hb dJ6_numberOfTrailingZeros_0f7a4_29 rfl (lv_at hl 1 rfl) ?_
      refine lv_bipush (v := 16) hx hb dJ6_numberOfTrailingZeros_0f7a4_30 (by decide) ?_
      refine lv_iushr hx hb dJ6_numberOfTrailingZeros_0f7a4_32 (v := usr v1 (16 : Int32)) rfl ?_
      obtain ⟨v17, ev17, hf⟩ := wlet_some hf
      refine wr_top ev17 ?_
      refine lv_istore_n (lv' := [(0, .int v17), (1, .int v16)]) hx hb dJ6_numberOfTrailingZeros_0f7a4_33 rfl hl (by decide) rfl (fun ls hl => ?_)
      exact j34_3 v17 v16 hf ls H locs (lv_sub hl [0, 1] rfl) hw
  · have hf := (if_neg c2).symm.trans hf
    refine lv_iload_n hx hb dJ6_numberOfTrailingZeros_0f7a4_12 rfl (lv_at hl 0 rfl) ?_
    refine lv_bipush (v := 32) hx hb dJ6_numberOfTrailingZeros_0f7a4_13 (by decide) ?_
    refine lv_iand hx hb dJ6_numberOfTrailingZeros_0f7a4_15 ?_
    have er := Option.some.inj hf
    subst er
    exact wr_iret X hw hr (Or.inl rfl) dJ6_numberOfTrailingZeros_0f7a4_16
