def f_X8_addStep (σ : St) (o0 : Nat) (x1 : Int32) (x2 : Int32) : Option (Int32 × St) := wlet (σ.1 o0 5) fun v1 => if v1 < 0 then (some (v1, σ)) else (if (420 : Int32) ≤ v1 then (some (v1, σ)) else (if ib v1 420 = true then wlet (si σ (o0 + 1) (Int32.toNatClampNeg v1) (((8 : Int32) * x2) + x1)) fun σ5 => wlet (si σ5 o0 5 ((σ5.1 o0 5) + (1 : Int32))) fun σ6 => some (v1, σ6) else none))
theorem hd_X8_addStep : yX8_addStep.cls = RX8 ∧ yX8_addStep.cls ≠ "java/lang/invoke/MethodHandle" ∧ yX8_addStep.cls ≠ "java/lang/invoke/VarHandle" ∧ (parseMethodDescriptor yX8_addStep.desc).map (fun d => d.parameters.length) = some 2 := by decide +kernel
set_option maxRecDepth 100000 in
set_option maxHeartbeats 4000000 in
theorem k_X8_addStep {w : Wd} {l : Launch} {ad : Nat → Nat} {D : va_G} {cy : Nat → ClassId} {z : wStr} (hI : wI w ad) {σ : St} {o0 : Nat} {x1 : Int32} {x2 : Int32} (ho0 : isTx w o0) {res : Int32 × St} (hf : f_X8_addStep σ o0 x1 x2 = some res) : wC w ad D cy z l yX8_addStep (Cond.code yX8_addStep cX8_addStep 4 (Option.some Jvm.ClassFile.FieldType.int) :: aw) (1) (100) [.ref (ad o0), .int x1, .int x2] σ (wQi w ad D cy res.1 res.2) := by
  unfold f_X8_addStep at hf
  refine wr_start (own := RX8) hI (by decide +kernel) rfl (Nat.le_of_ble_eq_true rfl) rfl ?_
  intro p e s m below meth c ls X hw hr hl
  have hx := X.hx
  have hb := X.hb
  obtain ⟨H, eH⟩ : ∃ H : Heap, H = s.heap := ⟨_, rfl⟩
  obtain ⟨locs, el⟩ : ∃ locs : List Loc, locs = [] := ⟨_, rfl⟩
  rw [← eH, ← el] at hw ⊢
  clear eH el
  replace hl : lv_has ls 4 [(0, .ref (ad o0)), (1, .int x1), (2, .int x2)] := hl
  refine lv_aload_n hx hb dX8_addStep_0 rfl (lv_at hl 0 rfl) ?_
  refine gX8_5 X hw (isTx.s0 ho0) (isTx.n0 ho0) fl_X8_31 dX8_addStep_1 ?_
  obtain ⟨v1, ev1, hf⟩ := wlet_some hf
  refine wr_top ev1 ?_
  refine lv_istore_n (lv' := [(3, .int v1), (0, .ref (ad o0)), (1, .int x1), (2, .int x2)]) hx hb dX8_addStep_4 rfl hl (by decide) rfl (fun ls hl => ?_)
  refine lv_iload_n hx hb dX8_addStep_5 rfl (lv_at hl 0 rfl) ?_
  refine lv_if_lt (tgt := 40) hx hb dX8_addStep_6 (by decide) (fun c2 => ?_) (fun c2 => ?_)
  · have hf := (if_pos c2).symm.trans hf
    refine lv_iload_n hx hb dX8_addStep_40 rfl (lv_at hl 0 rfl) ?_
    have er := Option.some.inj hf
    subst er
    exact wr_iret X hw hr (Or.inl rfl) dX8_addStep_41
  · have hf := (if_neg c2).symm.trans hf
    refine lv_iload_n hx hb dX8_addStep_9 rfl (lv_at hl 0 rfl) ?_
    refine lv_aload_n hx hb dX8_addStep_10 rfl (lv_at hl 1 rfl) ?_
    refine gX8_0 (b := (o0 + 1)) X hw (isTx.s0 ho0) (isTx.n0 ho0) (isTx.r0 ho0) fl_X8_9 dX8_addStep_11 ?_
    refine wr_alen X hw (t := 0) (isTx.s1 ho0) (isTx.n1 ho0) (by decide) (v := 420) (by decide) dX8_addStep_14 ?_
    refine lv_icmp_ge (tgt := 40) hx hb dX8_addStep_15 (by decide) (fun c3 => ?_) (fun c3 => ?_)
    · have hf := (if_pos c3).symm.trans hf
      refine lv_iload_n hx hb dX8_addStep_40 rfl (lv_at hl 0 rfl) ?_
      have er := Option.some.inj hf
      subst er
      exact wr_iret X hw hr (Or.inl rfl) dX8_addStep_41
    · have hf := (if_neg c3).symm.trans hf
      refine lv_aload_n hx hb dX8_addStep_18 rfl (lv_at hl 1 rfl) ?_
      refine gX8_0 (b := (o0 + 1)) X hw (isTx.s0 ho0) (isTx.n0 ho0) (isTx.r0 ho0) fl_X8_9 dX8_addStep_19 ?_
      refine lv_iload_n hx hb dX8_addStep_22 rfl (lv_at hl 0 rfl) ?_
      refine lv_bipush (v := 8) hx hb dX8_addStep_23 (by decide) ?_
      refine lv_iload_n hx hb dX8_addStep_25 rfl (lv_at hl 3 rfl) ?_
      refine lv_imul hx hb dX8_addStep_26 ?_
      refine lv_iload_n hx hb dX8_addStep_27 rfl (lv_at hl 2 rfl) ?_
      refine lv_iadd hx hb dX8_addStep_28 ?_
      obtain ⟨h4, hf⟩ := if_some hf
      obtain ⟨σ5, eσ5, hf⟩ := wlet_some hf
      refine wr_iast X hw (isTx.s1 ho0) (isTx.n1 ho0) h4 dX8_addStep_29 (fun H locs hw => ?_)
      replace hw := hw.to eσ5
      refine lv_aload_n hx hb dX8_addStep_30 rfl (lv_at hl 1 rfl) ?_
      refine lv_dup hx hb dX8_addStep_31 rfl ?_
      refine gX8_5 X hw (isTx.s0 ho0) (isTx.n0 ho0) fl_X8_31 dX8_addStep_32 ?_
      refine lv_iconst (v := 1) hx hb dX8_addStep_35 (by decide) ?_
      refine lv_iadd hx hb dX8_addStep_36 ?_
      obtain ⟨σ6, eσ6, hf⟩ := wlet_some hf
      refine pX8_5 X hw (isTx.s0 ho0) (isTx.n0 ho0) fl_X8_31 dX8_addStep_37 (fun H locs hw => ?_)
      replace hw := hw.to eσ6
      refine lv_iload_n hx hb dX8_addStep_40 rfl (lv_at hl 0 rfl) ?_
      have er := Option.some.inj hf
      subst er
      exact wr_iret X hw hr (Or.inl rfl) dX8_addStep_41

def f_X8_addShareOfDeed (σ : St) (o0 : Nat) (x1 : Int32) : Option (St) := bnd2 (f_X8_addStep σ o0 (1 : Int32) (0 : Int32)) fun v2 σ3 => bnd2 (f_X8_addStep σ3 o0 (0 : Int32) x1) fun v5 σ6 => bnd2 (f_X8_addStep σ6 o0 (5 : Int32) (0 : Int32)) fun v8 σ9 => bnd2 (f_X8_addStep σ9 o0 (7 : Int32) (0 : Int32)) fun v11 σ12 => some σ12
theorem hd_X8_addShareOfDeed : yX8_addShareOfDeed.cls = RX8 ∧ yX8_addShareOfDeed.cls ≠ "java/lang/invoke/MethodHandle" ∧ yX8_addShareOfDeed.cls ≠ "java/lang/invoke/VarHandle" ∧ (parseMethodDescriptor yX8_addShareOfDeed.desc).map (fun d => d.parameters.length) = some 1 := by decide +kernel
set_option maxRecDepth 100000 in
set_option maxHeartbeats 4000000 in
theorem k_X8_addShareOfDeed {w : Wd} {l : Launch} {ad : Nat → Nat} {D : va_G} {cy : Nat → ClassId} {z : wStr} (hI : wI w ad) {σ : St} {o0 : Nat} {x1 : Int32} (ho0 : isTx w o0) {res : St} (hf : f_X8_addShareOfDeed σ o0 x1 = some res) : wC w ad D cy z l yX8_addShareOfDeed (Cond.code yX8_addShareOfDeed cX8_addShareOfDeed 2 (none) :: aw) (2) (123) [.ref (ad o0), .int x1] σ (wQv w ad D cy res) := by
  unfold f_X8_addShareOfDeed at hf
  refine wr_start (own := RX8) hI (by decide +kernel) rfl (Nat.le_of_ble_eq_true rfl) rfl ?_
  intro p e s m below meth c ls X hw hr hl
  have hx := X.hx
  have hb := X.hb
  obtain ⟨H, eH⟩ : ∃ H : Heap, H = s.heap := ⟨_, rfl⟩
  obtain ⟨locs, el⟩ : ∃ locs : List Loc, locs = [] := ⟨_, rfl⟩
  rw [← eH, ← el] at hw ⊢
  clear eH el
  replace hl : lv_has ls 2 [(0, .ref (ad o0)), (1, .int x1)] := hl
  refine lv_aload_n hx hb dX8_addShareOfDeed_0 rfl (lv_at hl 0 rfl) ?_
  refine lv_iconst (v := 1) hx hb dX8_addShareOfDeed_1 (by decide) ?_
  refine lv_iconst (v := 0) hx hb dX8_addShareOfDeed_2 (by decide) ?_
  obtain ⟨v2, σ3, hq1, hf⟩ := bnd2_some hf
  refine wr_cVi (r := v2) (σ' := σ3) (av := [.int (1 : Int32), .int (0 : Int32)]) (rest := []) X hw hl.1 (isTx.s0 ho0) (isTx.n0 ho0) rfl (k_X8_addStep hI ho0 hq1) rfl ml_X8_48 im_X8_addStep se_X8_addStep ini_X8 co_X8_addStep hd_X8_addStep ⟨Nat.le_of_ble_eq_true rfl, Nat.le_of_ble_eq_true rfl⟩ (Nat.le_of_ble_eq_true rfl) dX8_addShareOfDeed_3 rfl (fun H locs hw => ?_)
  refine lv_pop hx hb dX8_addShareOfDeed_6 rfl ?_
  refine lv_aload_n hx hb dX8_addShareOfDeed_7 rfl (lv_at hl 0 rfl) ?_
  refine lv_iconst (v := 0) hx hb dX8_addShareOfDeed_8 (by decide) ?_
  refine lv_iload_n hx hb dX8_addShareOfDeed_9 rfl (lv_at hl 1 rfl) ?_
  obtain ⟨v5, σ6, hq4, hf⟩ := bnd2_some hf
  refine wr_cVi (r := v5) (σ' := σ6) (av := [.int (0 : Int32), .int x1]) (rest := []) X hw hl.1 (isTx.s0 ho0) (isTx.n0 ho0) rfl (k_X8_addStep hI ho0 hq4) rfl ml_X8_48 im_X8_addStep se_X8_addStep ini_X8 co_X8_addStep hd_X8_addStep ⟨Nat.le_of_ble_eq_true rfl, Nat.le_of_ble_eq_true rfl⟩ (Nat.le_of_ble_eq_true rfl) dX8_addShareOfDeed_10 rfl (fun H locs hw => ?_)
  refine lv_pop hx hb dX8_addShareOfDeed_13 rfl ?_
  refine lv_aload_n hx hb dX8_addShareOfDeed_14 rfl (lv_at hl 0 rfl) ?_
  refine lv_iconst (v := 5) hx hb dX8_addShareOfDeed_15 (by decide) ?_
  refine lv_iconst (v := 0) hx hb dX8_addShareOfDeed_16 (by decide) ?_
  obtain ⟨v8, σ9, hq7, hf⟩ := bnd2_some hf
  refine wr_cVi (r := v8) (σ' := σ9) (av := [.int (5 : Int32), .int (0 : Int32)]) (rest := []) X hw hl.1 (isTx.s0 ho0) (isTx.n0 ho0) rfl (k_X8_addStep hI ho0 hq7) rfl ml_X8_48 im_X8_addStep se_X8_addStep ini_X8 co_X8_addStep hd_X8_addStep ⟨Nat.le_of_ble_eq_true rfl, Nat.le_of_ble_eq_true rfl⟩ (Nat.le_of_ble_eq_true rfl) dX8_addShareOfDeed_17 rfl (fun H locs hw => ?_)
  refine lv_pop hx hb dX8_addShareOfDeed_20 rfl ?_
  refine lv_aload_n hx hb dX8_addShareOfDeed_21 rfl (lv_at hl 0 rfl) ?_
  refine lv_bipush (v := 7) hx hb dX8_addShareOfDeed_22 (by decide) ?_
  refine lv_iconst (v := 0) hx hb dX8_addShareOfDeed_24 (by decide) ?_
  obtain ⟨v11, σ12, hq10, hf⟩ := bnd2_some hf
  refine wr_cVi (r := v11) (σ' := σ12) (av := [.int (7 : Int32), .int (0 : Int32)]) (rest := []) X hw hl.1 (isTx.s0 ho0) (isTx.n0 ho0) rfl (k_X8_addStep hI ho0 hq10) rfl ml_X8_48 im_X8_addStep se_X8_addStep ini_X8 co_X8_addStep hd_X8_addStep ⟨Nat.le_of_ble_eq_true rfl, Nat.le_of_ble_eq_true rfl⟩ (Nat.le_of_ble_eq_true rfl) dX8_addShareOfDeed_25 rfl (fun H locs hw => ?_)
  refine lv_pop hx hb dX8_addShareOfDeed_28 rfl ?_
  have er := Option.some.inj hf
  subst er
  exact wr_vret X hw hr dX8_addShareOfDeed_29

def f_X8_beginLaw (σ : St) (o0 : Nat) (x1 : Int32) : Option (St) := if x1 < 0 then (some σ) else (if (4 : Int32) ≤ x1 then (some σ) else (if ib x1 4 = true then wlet (si σ (o0 + 2) (Int32.toNatClampNeg x1) (σ.1 o0 5)) fun σ4 => some σ4 else none))
theorem hd_X8_beginLaw : yX8_beginLaw.cls = RX8 ∧ yX8_beginLaw.cls ≠ "java/lang/invoke/MethodHandle" ∧ yX8_beginLaw.cls ≠ "java/lang/invoke/VarHandle" ∧ (parseMethodDescriptor yX8_beginLaw.desc).map (fun d => d.parameters.length) = some 1 := by decide +kernel
set_option maxRecDepth 100000 in
set_option maxHeartbeats 4000000 in
theorem k_X8_beginLaw {w : Wd} {l : Launch} {ad : Nat → Nat} {D : va_G} {cy : Nat → ClassId} {z : wStr} (hI : wI w ad) {σ : St} {o0 : Nat} {x1 : Int32} (ho0 : isTx w o0) {res : St} (hf : f_X8_beginLaw σ o0 x1 = some res) : wC w ad D cy z l yX8_beginLaw (Cond.code yX8_beginLaw cX8_beginLaw 2 (none) :: aw) (1) (100) [.ref (ad o0), .int x1] σ (wQv w ad D cy res) := by
  unfold f_X8_beginLaw at hf
  refine wr_start (own := RX8) hI (by decide +kernel) rfl (Nat.le_of_ble_eq_true rfl) rfl ?_
  intro p e s m below meth c ls X hw hr hl
  have hx := X.hx
  have hb := X.hb
  obtain ⟨H, eH⟩ : ∃ H : Heap, H = s.heap := ⟨_, rfl⟩
  obtain ⟨locs, el⟩ : ∃ locs : List Loc, locs = [] := ⟨_, rfl⟩
  rw [← eH, ← el] at hw ⊢
  clear eH el
  replace hl : lv_has ls 2 [(0, .ref (ad o0)), (1, .int x1)] := hl
  refine lv_iload_n hx hb dX8_beginLaw_0 rfl (lv_at hl 1 rfl) ?_
  refine lv_if_lt (tgt := 19) hx hb dX8_beginLaw_1 (by decide) (fun c1 => ?_) (fun c1 => ?_)
  · have hf := (if_pos c1).symm.trans hf
    have er := Option.some.inj hf
    subst er
    exact wr_vret X hw hr dX8_beginLaw_19
  · have hf := (if_neg c1).symm.trans hf
    refine lv_iload_n hx hb dX8_beginLaw_4 rfl (lv_at hl 1 rfl) ?_
    refine lv_iconst (v := 4) hx hb dX8_beginLaw_5 (by decide) ?_
    refine lv_icmp_ge (tgt := 19) hx hb dX8_beginLaw_6 (by decide) (fun c2 => ?_) (fun c2 => ?_)
    · have hf := (if_pos c2).symm.trans hf
      have er := Option.some.inj hf
      subst er
      exact wr_vret X hw hr dX8_beginLaw_19
    · have hf := (if_neg c2).symm.trans hf
      refine lv_aload_n hx hb dX8_beginLaw_9 rfl (lv_at hl 0 rfl) ?_
      refine gX8_1 (b := (o0 + 2)) X hw (isTx.s0 ho0) (isTx.n0 ho0) (isTx.r1 ho0) fl_X8_15 dX8_beginLaw_10 ?_
      refine lv_iload_n hx hb dX8_beginLaw_13 rfl (lv_at hl 1 rfl) ?_
      refine lv_aload_n hx hb dX8_beginLaw_14 rfl (lv_at hl 0 rfl) ?_
      refine gX8_5 X hw (isTx.s0 ho0) (isTx.n0 ho0) fl_X8_31 dX8_beginLaw_15 ?_
      obtain ⟨h3, hf⟩ := if_some hf
      obtain ⟨σ4, eσ4, hf⟩ := wlet_some hf
      refine wr_iast X hw (isTx.s2 ho0) (isTx.n2 ho0) h3 dX8_beginLaw_18 (fun H locs hw => ?_)
      replace hw := hw.to eσ4
      have er := Option.some.inj hf
      subst er
      exact wr_vret X hw hr dX8_beginLaw_19

def f_X8_clear (σ : St) (o0 : Nat) : Option (St) := wlet (si σ o0 5 (0 : Int32)) fun σ1 => wlet (si σ1 o0 6 (0 : Int32)) fun σ2 => wlet (si σ2 o0 7 (0 : Int32)) fun σ3 => wlet (si σ3 o0 8 (0 : Int32)) fun σ4 => Option.bind (f_X8_beginLaw σ4 o0 (0 : Int32)) fun σ6 => bnd2 (f_X8_addStep σ6 o0 (1 : Int32) (0 : Int32)) fun v8 σ9 => bnd2 (f_X8_addStep σ9 o0 (7 : Int32) (0 : Int32)) fun v11 σ12 => Option.bind (f_X8_beginLaw σ12 o0 (1 : Int32)) fun σ14 => Option.bind (f_X8_addShareOfDeed σ14 o0 (2 : Int32)) fun σ16 => Option.bind (f_X8_beginLaw σ16 o0 (2 : Int32)) fun σ18 => Option.bind (f_X8_addShareOfDeed σ18 o0 (4 : Int32)) fun σ20 => Option.bind (f_X8_beginLaw σ20 o0 (3 : Int32)) fun σ22 => bnd2 (f_X8_addStep σ22 o0 (0 : Int32) (0 : Int32)) fun v24 σ25 => bnd2 (f_X8_addStep σ25 o0 (7 : Int32) (0 : Int32)) fun v27 σ28 => some σ28
theorem hd_X8_clear : yX8_clear.cls = RX8 ∧ yX8_clear.cls ≠ "java/lang/invoke/MethodHandle" ∧ yX8_clear.cls ≠ "java/lang/invoke/VarHandle" ∧ (parseMethodDescriptor yX8_clear.desc).map (fun d => d.parameters.length) = some 0 := by decide +kernel
set_option maxRecDepth 100000 in
set_option maxHeartbeats 4000000 in
theorem k_X8_clear {w : Wd} {l : Launch} {ad : Nat → Nat} {D : va_G} {cy : Nat → ClassId} {z : wStr} (hI : wI w ad) {σ : St} {o0 : Nat} (ho0 : isTx w o0) {res : St} (hf : f_X8_clear σ o0 = some res) : wC w ad D cy z l yX8_clear (Cond.code yX8_clear cX8_clear 1 (none) :: aw) (3) (144) [.ref (ad o0)] σ (wQv w ad D cy res) := by
  unfold f_X8_clear at hf
  refine wr_start (own := RX8) hI (by decide +kernel) rfl (Nat.le_of_ble_eq_true rfl) rfl ?_
  intro p e s m below meth c ls X hw hr hl
  have hx := X.hx
  have hb := X.hb
  obtain ⟨H, eH⟩ : ∃ H : Heap, H = s.heap := ⟨_, rfl⟩
  obtain ⟨locs, el⟩ : ∃ locs : List Loc, locs = [] := ⟨_, rfl⟩
  rw [← eH, ← el] at hw ⊢
  clear eH el
  replace hl : lv_has ls 1 [(0, .ref (ad o0))] := hl
  refine lv_aload_n hx hb dX8_clear_0 rfl (lv_at hl 0 rfl) ?_
  refine lv_iconst (v := 0) hx hb dX8_clear_1 (by decide) ?_
  obtain ⟨σ1, eσ1, hf⟩ := wlet_some hf
  refine pX8_5 X hw (isTx.s0 ho0) (isTx.n0 ho0) fl_X8_31 dX8_clear_2 (fun H locs hw => ?_)
  replace hw := hw.to eσ1
  refine lv_aload_n hx hb dX8_clear_5 rfl (lv_at hl 0 rfl) ?_
  refine lv_iconst (v := 0) hx hb dX8_clear_6 (by decide) ?_
  obtain ⟨σ2, eσ2, hf⟩ := wlet_some hf
  refine pX8_6 X hw (isTx.s0 ho0) (isTx.n0 ho0) fl_X8_35 dX8_clear_7 (fun H locs hw => ?_)
  replace hw := hw.to eσ2
  refine lv_aload_n hx hb dX8_clear_10 rfl (lv_at hl 0 rfl) ?_
  refine lv_iconst (v := 0) hx hb dX8_clear_11 (by decide) ?_
  obtain ⟨σ3, eσ3, hf⟩ := wlet_some hf
  refine pX8_7 X hw (isTx.s0 ho0) (isTx.n0 ho0) fl_X8_38 dX8_clear_12 (fun H locs hw => ?_)
  replace hw := hw.to eσ3
  refine lv_aload_n hx hb dX8_clear_15 rfl (lv_at hl 0 rfl) ?_
  refine lv_iconst (v := 0) hx hb dX8_clear_16 (by decide) ?_
  obtain ⟨σ4, eσ4, hf⟩ := wlet_some hf
  refine pX8_8 X hw (isTx.s0 ho0) (isTx.n0 ho0) fl_X8_41 dX8_clear_17 (fun H locs hw => ?_)
  replace hw := hw.to eσ4
  refine lv_aload_n hx hb dX8_clear_20 rfl (lv_at hl 0 rfl) ?_
  refine lv_iconst (v := 0) hx hb dX8_clear_21 (by decide) ?_
  obtain ⟨σ6, hq5, hf⟩ := bind_some hf
  refine wr_cVv (σ' := σ6) (av := [.int (0 : Int32)]) (rest := []) X hw hl.1 (isTx.s0 ho0) (isTx.n0 ho0) rfl (k_X8_beginLaw hI ho0 hq5) rfl ml_X8_44 im_X8_beginLaw se_X8_beginLaw ini_X8 co_X8_beginLaw hd_X8_beginLaw ⟨Nat.le_of_ble_eq_true rfl, Nat.le_of_ble_eq_true rfl⟩ (Nat.le_of_ble_eq_true rfl) dX8_clear_22 rfl (fun H locs hw => ?_)
  refine lv_aload_n hx hb dX8_clear_25 rfl (lv_at hl 0 rfl) ?_
  refine lv_iconst (v := 1) hx hb dX8_clear_26 (by decide) ?_
  refine lv_iconst (v := 0) hx hb dX8_clear_27 (by decide) ?_
  obtain ⟨v8, σ9, hq7, hf⟩ := bnd2_some hf
  refine wr_cVi (r := v8) (σ' := σ9) (av := [.int (1 : Int32), .int (0 : Int32)]) (rest := []) X hw hl.1 (isTx.s0 ho0) (isTx.n0 ho0) rfl (k_X8_addStep hI ho0 hq7) rfl ml_X8_48 im_X8_addStep se_X8_addStep ini_X8 co_X8_addStep hd_X8_addStep ⟨Nat.le_of_ble_eq_true rfl, Nat.le_of_ble_eq_true rfl⟩ (Nat.le_of_ble_eq_true rfl) dX8_clear_28 rfl (fun H locs hw => ?_)
  refine lv_pop hx hb dX8_clear_31 rfl ?_
  refine lv_aload_n hx hb dX8_clear_32 rfl (lv_at hl 0 rfl) ?_
  refine lv_bipush (v := 7) hx hb dX8_clear_33 (by decide) ?_
  refine lv_iconst (v := 0) hx hb dX8_clear_35 (by decide) ?_
  obtain ⟨v11, σ12, hq10, hf⟩ := bnd2_some hf
  refine wr_cVi (r := v11) (σ' := σ12) (av := [.int (7 : Int32), .int (0 : Int32)]) (rest := []) X hw hl.1 (isTx.s0 ho0) (isTx.n0 ho0) rfl (k_X8_addStep hI ho0 hq10) rfl ml_X8_48 im_X8_addStep se_X8_addStep ini_X8 co_X8_addStep hd_X8_addStep ⟨Nat.le_of_ble_eq_true rfl, Nat.le_of_ble_eq_true rfl⟩ (Nat.le_of_ble_eq_true rfl) dX8_clear_36 rfl (fun H locs hw => ?_)
  refine lv_pop hx hb dX8_clear_39 rfl ?_
  refine lv_aload_n hx hb dX8_clear_40 rfl (lv_at hl 0 rfl) ?_
  refine lv_iconst (v := 1) hx hb dX8_clear_41 (by decide) ?_
  obtain ⟨σ14, hq13, hf⟩ := bind_some hf
  refine wr_cVv (σ' := σ14) (av := [.int (1 : Int32)]) (rest := []) X hw hl.1 (isTx.s0 ho0) (isTx.n0 ho0) rfl (k_X8_beginLaw hI ho0 hq13) rfl ml_X8_44 im_X8_beginLaw se_X8_beginLaw ini_X8 co_X8_beginLaw hd_X8_beginLaw ⟨Nat.le_of_ble_eq_true rfl, Nat.le_of_ble_eq_true rfl⟩ (Nat.le_of_ble_eq_true rfl) dX8_clear_42 rfl (fun H locs hw => ?_)
  refine lv_aload_n hx hb dX8_clear_45 rfl (lv_at hl 0 rfl) ?_
  refine lv_iconst (v := 2) hx hb dX8_clear_46 (by decide) ?_
  obtain ⟨σ16, hq15, hf⟩ := bind_some hf
  refine wr_cVv (σ' := σ16) (av := [.int (2 : Int32)]) (rest := []) X hw hl.1 (isTx.s0 ho0) (isTx.n0 ho0) rfl (k_X8_addShareOfDeed hI ho0 hq15) rfl ml_X8_52 im_X8_addShareOfDeed se_X8_addShareOfDeed ini_X8 co_X8_addShareOfDeed hd_X8_addShareOfDeed ⟨Nat.le_of_ble_eq_true rfl, Nat.le_of_ble_eq_true rfl⟩ (Nat.le_of_ble_eq_true rfl) dX8_clear_47 rfl (fun H locs hw => ?_)
  refine lv_aload_n hx hb dX8_clear_50 rfl (lv_at hl 0 rfl) ?_
  refine lv_iconst (v := 2) hx hb dX8_clear_51 (by decide) ?_
  obtain ⟨σ18, hq17, hf⟩ := bind_some hf
  refine wr_cVv (σ' := σ18) (av := [.int (2 : Int32)]) (rest := []) X hw hl.1 (isTx.s0 ho0) (isTx.n0 ho0) rfl (k_X8_beginLaw hI ho0 hq17) rfl ml_X8_44 im_X8_beginLaw se_X8_beginLaw ini_X8 co_X8_beginLaw hd_X8_beginLaw ⟨Nat.le_of_ble_eq_true rfl, Nat.le_of_ble_eq_true rfl⟩ (Nat.le_of_ble_eq_true rfl) dX8_clear_52 rfl (fun H locs hw => ?_)
  refine lv_aload_n hx hb dX8_clear_55 rfl (lv_at hl 0 rfl) ?_
  refine lv_iconst (v := 4) hx hb dX8_clear_56 (by decide) ?_
  obtain ⟨σ20, hq19, hf⟩ := bind_some hf
  refine wr_cVv (σ' := σ20) (av := [.int (4 : Int32)]) (rest := []) X hw hl.1 (isTx.s0 ho0) (isTx.n0 ho0) rfl (k_X8_addShareOfDeed hI ho0 hq19) rfl ml_X8_52 im_X8_addShareOfDeed se_X8_addShareOfDeed ini_X8 co_X8_addShareOfDeed hd_X8_addShareOfDeed ⟨Nat.le_of_ble_eq_true rfl, Nat.le_of_ble_eq_true rfl⟩ (Nat.le_of_ble_eq_true rfl) dX8_clear_57 rfl (fun H locs hw => ?_)
  refine lv_aload_n hx hb dX8_clear_60 rfl (lv_at hl 0 rfl) ?_
  refine lv_iconst (v := 3) hx hb dX8_clear_61 (by decide) ?_
  obtain ⟨σ22, hq21, hf⟩ := bind_some hf
  refine wr_cVv (σ' := σ22) (av := [.int (3 : Int32)]) (rest := []) X hw hl.1 (isTx.s0 ho0) (isTx.n0 ho0) rfl (k_X8_beginLaw hI ho0 hq21) rfl ml_X8_44 im_X8_beginLaw se_X8_beginLaw ini_X8 co_X8_beginLaw hd_X8_beginLaw ⟨Nat.le_of_ble_eq_true rfl, Nat.le_of_ble_eq_true rfl⟩ (Nat.le_of_ble_eq_true rfl) dX8_clear_62 rfl (fun H locs hw => ?_)
  refine lv_aload_n hx hb dX8_clear_65 rfl (lv_at hl 0 rfl) ?_
  refine lv_iconst (v := 0) hx hb dX8_clear_66 (by decide) ?_
  refine lv_iconst (v := 0) hx hb dX8_clear_67 (by decide) ?_
  obtain ⟨v24, σ25, hq23, hf⟩ := bnd2_some hf
  refine wr_cVi (r := v24) (σ' := σ25) (av := [.int (0 : Int32), .int (0 : Int32)]) (rest := []) X hw hl.1 (isTx.s0 ho0) (isTx.n0 ho0) rfl (k_X8_addStep hI ho0 hq23) rfl ml_X8_48 im_X8_addStep se_X8_addStep ini_X8 co_X8_addStep hd_X8_addStep ⟨Nat.le_of_ble_eq_true rfl, Nat.le_of_ble_eq_true rfl⟩ (Nat.le_of_ble_eq_true rfl) dX8_clear_68 rfl (fun H locs hw => ?_)
  refine lv_pop hx hb dX8_clear_71 rfl ?_
  refine lv_aload_n hx hb dX8_clear_72 rfl (lv_at hl 0 rfl) ?_
  refine lv_bipush (v := 7) hx hb dX8_clear_73 (by decide) ?_
  refine lv_iconst (v := 0) hx hb dX8_clear_75 (by decide) ?_
  obtain ⟨v27, σ28, hq26, hf⟩ := bnd2_some hf
  refine wr_cVi (r := v27) (σ' := σ28) (av := [.int (7 : Int32), .int (0 : Int32)]) (rest := []) X hw hl.1 (isTx.s0 ho0) (isTx.n0 ho0) rfl (k_X8_addStep hI ho0 hq26) rfl ml_X8_48 im_X8_addStep se_X8_addStep ini_X8 co_X8_addStep hd_X8_addStep ⟨Nat.le_of_ble_eq_true rfl, Nat.le_of_ble_eq_true rfl⟩ (Nat.le_of_ble_eq_true rfl) dX8_clear_76 rfl (fun H locs hw => ?_)
  refine lv_pop hx hb dX8_clear_79 rfl ?_
  have er := Option.some.inj hf
  subst er
  exact wr_vret X hw hr dX8_clear_80

def f_X8_deedOf (σ : St) (o0 : Nat) (x1 : Int32) : Option (Int32) := if x1 < 0 then (some (0 : Int32)) else (if (σ.1 o0 6) ≤ x1 then (some (0 : Int32)) else (if (7 : Int32) ≤ x1 then (some (0 : Int32)) else (if ib x1 7 = true then some (σ.1 (o0 + 3) (Int32.toNatClampNeg x1)) else none)))
theorem hd_X8_deedOf : yX8_deedOf.cls = RX8 ∧ yX8_deedOf.cls ≠ "java/lang/invoke/MethodHandle" ∧ yX8_deedOf.cls ≠ "java/lang/invoke/VarHandle" ∧ (parseMethodDescriptor yX8_deedOf.desc).map (fun d => d.parameters.length) = some 1 := by decide +kernel
set_option maxRecDepth 100000 in
set_option maxHeartbeats 4000000 in
theorem k_X8_deedOf {w : Wd} {l : Launch} {ad : Nat → Nat} {D : va_G} {cy : Nat → ClassId} {z : wStr} (hI : wI w ad) {σ : St} {o0 : Nat} {x1 : Int32} (ho0 : isTx w o0) {res : Int32} (hf : f_X8_deedOf σ o0 x1 = some res) : wC w ad D cy z l yX8_deedOf (Cond.code yX8_deedOf cX8_deedOf 2 (Option.some Jvm.ClassFile.FieldType.int) :: aw) (1) (100) [.ref (ad o0), .int x1] σ (wQi w ad D cy res σ) := by
  unfold f_X8_deedOf at hf
  refine wr_start (own := RX8) hI (by decide +kernel) rfl (Nat.le_of_ble_eq_true rfl) rfl ?_
  intro p e s m below meth c ls X hw hr hl
  have hx := X.hx
  have hb := X.hb
  obtain ⟨H, eH⟩ : ∃ H : Heap, H = s.heap := ⟨_, rfl⟩
  obtain ⟨locs, el⟩ : ∃ locs : List Loc, locs = [] := ⟨_, rfl⟩
  rw [← eH, ← el] at hw ⊢
  clear eH el
  replace hl : lv_has ls 2 [(0, .ref (ad o0)), (1, .int x1)] := hl
  refine lv_iload_n hx hb dX8_deedOf_0 rfl (lv_at hl 1 rfl) ?_
  refine lv_if_lt (tgt := 27) hx hb dX8_deedOf_1 (by decide) (fun c1 => ?_) (fun c1 => ?_)
  · have hf := (if_pos c1).symm.trans hf
    refine lv_iconst (v := 0) hx hb dX8_deedOf_27 (by decide) ?_
    have er := Option.some.inj hf
    subst er
    exact wr_iret X hw hr (Or.inl rfl) dX8_deedOf_28
  · have hf := (if_neg c1).symm.trans hf
    refine lv_iload_n hx hb dX8_deedOf_4 rfl (lv_at hl 1 rfl) ?_
    refine lv_aload_n hx hb dX8_deedOf_5 rfl (lv_at hl 0 rfl) ?_
    refine gX8_6 X hw (isTx.s0 ho0) (isTx.n0 ho0) fl_X8_35 dX8_deedOf_6 ?_
    refine lv_icmp_ge (tgt := 27) hx hb dX8_deedOf_9 (by decide) (fun c2 => ?_) (fun c2 => ?_)
    · have hf := (if_pos c2).symm.trans hf
      refine lv_iconst (v := 0) hx hb dX8_deedOf_27 (by decide) ?_
      have er := Option.some.inj hf
      subst er
      exact wr_iret X hw hr (Or.inl rfl) dX8_deedOf_28
    · have hf := (if_neg c2).symm.trans hf
      refine lv_iload_n hx hb dX8_deedOf_12 rfl (lv_at hl 1 rfl) ?_
      refine lv_bipush (v := 7) hx hb dX8_deedOf_13 (by decide) ?_
      refine lv_icmp_ge (tgt := 27) hx hb dX8_deedOf_15 (by decide) (fun c3 => ?_) (fun c3 => ?_)
      · have hf := (if_pos c3).symm.trans hf
        refine lv_iconst (v := 0) hx hb dX8_deedOf_27 (by decide) ?_
        have er := Option.some.inj hf
        subst er
        exact wr_iret X hw hr (Or.inl rfl) dX8_deedOf_28
      · have hf := (if_neg c3).symm.trans hf
        refine lv_aload_n hx hb dX8_deedOf_18 rfl (lv_at hl 0 rfl) ?_
        refine gX8_2 (b := (o0 + 3)) X hw (isTx.s0 ho0) (isTx.n0 ho0) (isTx.r2 ho0) fl_X8_18 dX8_deedOf_19 ?_
        refine lv_iload_n hx hb dX8_deedOf_22 rfl (lv_at hl 1 rfl) ?_
        obtain ⟨h4, hf⟩ := if_some hf
        refine wr_iald X hw (isTx.s3 ho0) (isTx.n3 ho0) h4 dX8_deedOf_23 ?_
        refine lv_goto (tgt := 28) hx hb dX8_deedOf_24 (by decide) ?_
        have er := Option.some.inj hf
        subst er
        exact wr_iret X hw hr (Or.inl rfl) dX8_deedOf_28

def f_X8_has (σ : St) (o0 : Nat) (x1 : Int32) : Option (Int32) := if x1 < 0 then (some (0 : Int32)) else (if (σ.1 o0 6) ≤ x1 then (some (0 : Int32)) else (if (7 : Int32) ≤ x1 then (some (0 : Int32)) else (some (1 : Int32))))
theorem hd_X8_has : yX8_has.cls = RX8 ∧ yX8_has.cls ≠ "java/lang/invoke/MethodHandle" ∧ yX8_has.cls ≠ "java/lang/invoke/VarHandle" ∧ (parseMethodDescriptor yX8_has.desc).map (fun d => d.parameters.length) = some 1 := by decide +kernel
set_option maxRecDepth 100000 in
set_option maxHeartbeats 4000000 in
theorem k_X8_has {w : Wd} {l : Launch} {ad : Nat → Nat} {D : va_G} {cy : Nat → ClassId} {z : wStr} (hI : wI w ad) {σ : St} {o0 : Nat} {x1 : Int32} (ho0 : isTx w o0) {res : Int32} (hf : f_X8_has σ o0 x1 = some res) : wC w ad D cy z l yX8_has (Cond.code yX8_has cX8_has 2 (Option.some Jvm.ClassFile.FieldType.boolean) :: aw) (1) (100) [.ref (ad o0), .int x1] σ (wQi w ad D cy res σ) := by
  unfold f_X8_has at hf
  refine wr_start (own := RX8) hI (by decide +kernel) rfl (Nat.le_of_ble_eq_true rfl) rfl ?_
  intro p e s m below meth c ls X hw hr hl
  have hx := X.hx
  have hb := X.hb
  obtain ⟨H, eH⟩ : ∃ H : Heap, H = s.heap := ⟨_, rfl⟩
  obtain ⟨locs, el⟩ : ∃ locs : List Loc, locs = [] := ⟨_, rfl⟩
  rw [← eH, ← el] at hw ⊢
  clear eH el
  replace hl : lv_has ls 2 [(0, .ref (ad o0)), (1, .int x1)] := hl
  refine lv_iload_n hx hb dX8_has_0 rfl (lv_at hl 1 rfl) ?_
  refine lv_if_lt (tgt := 22) hx hb dX8_has_1 (by decide) (fun c1 => ?_) (fun c1 => ?_)
  · have hf := (if_pos c1).symm.trans hf
    refine lv_iconst (v := 0) hx hb dX8_has_22 (by decide) ?_
    have er := Option.some.inj hf
    subst er
    exact wr_iret X hw hr (Or.inr ⟨rfl, (show bz (0 : Int32) = true from rfl)⟩) dX8_has_23
  · have hf := (if_neg c1).symm.trans hf
    refine lv_iload_n hx hb dX8_has_4 rfl (lv_at hl 1 rfl) ?_
    refine lv_aload_n hx hb dX8_has_5 rfl (lv_at hl 0 rfl) ?_
    refine gX8_6 X hw (isTx.s0 ho0) (isTx.n0 ho0) fl_X8_35 dX8_has_6 ?_
    refine lv_icmp_ge (tgt := 22) hx hb dX8_has_9 (by decide) (fun c2 => ?_) (fun c2 => ?_)
    · have hf := (if_pos c2).symm.trans hf
      refine lv_iconst (v := 0) hx hb dX8_has_22 (by decide) ?_
      have er := Option.some.inj hf
      subst er
      exact wr_iret X hw hr (Or.inr ⟨rfl, (show bz (0 : Int32) = true from rfl)⟩) dX8_has_23
    · have hf := (if_neg c2).symm.trans hf
      refine lv_iload_n hx hb dX8_has_12 rfl (lv_at hl 1 rfl) ?_
      refine lv_bipush (v := 7) hx hb dX8_has_13 (by decide) ?_
      refine lv_icmp_ge (tgt := 22) hx hb dX8_has_15 (by decide) (fun c3 => ?_) (fun c3 => ?_)
      · have hf := (if_pos c3).symm.trans hf
        refine lv_iconst (v := 0) hx hb dX8_has_22 (by decide) ?_
        have er := Option.some.inj hf
        subst er
        exact wr_iret X hw hr (Or.inr ⟨rfl, (show bz (0 : Int32) = true from rfl)⟩) dX8_has_23
      · have hf := (if_neg c3).symm.trans hf
        refine lv_iconst (v := 1) hx hb dX8_has_18 (by decide) ?_
        refine lv_goto (tgt := 23) hx hb dX8_has_19 (by decide) ?_
        have er := Option.some.inj hf
        subst er
        exact wr_iret X hw hr (Or.inr ⟨rfl, (show bz (1 : Int32) = true from rfl)⟩) dX8_has_23

def f_X8_addCase (σ : St) (o0 : Nat) (x1 : Int64) (x3 : Int32) (x4 : Int32) : Option (St) := if (σ.1 o0 6) < 0 then (some σ) else (if (7 : Int32) ≤ (σ.1 o0 6) then (some σ) else (if ib (σ.1 o0 6) 7 = true then wlet (sj σ (o0 + 5) (Int32.toNatClampNeg (σ.1 o0 6)) x1) fun σ4 => if ib (σ4.1 o0 6) 7 = true then wlet (si σ4 (o0 + 3) (Int32.toNatClampNeg (σ4.1 o0 6)) x3) fun σ6 => if ib (σ6.1 o0 6) 7 = true then wlet (si σ6 (o0 + 4) (Int32.toNatClampNeg (σ6.1 o0 6)) x4) fun σ8 => wlet (si σ8 o0 6 ((σ8.1 o0 6) + (1 : Int32))) fun σ9 => some σ9 else none else none else none))
theorem hd_X8_addCase : yX8_addCase.cls = RX8 ∧ yX8_addCase.cls ≠ "java/lang/invoke/MethodHandle" ∧ yX8_addCase.cls ≠ "java/lang/invoke/VarHandle" ∧ (parseMethodDescriptor yX8_addCase.desc).map (fun d => d.parameters.length) = some 3 := by decide +kernel
set_option maxRecDepth 100000 in
set_option maxHeartbeats 4000000 in
theorem k_X8_addCase {w : Wd} {l : Launch} {ad : Nat → Nat} {D : va_G} {cy : Nat → ClassId} {z : wStr} (hI : wI w ad) {σ : St} {o0 : Nat} {x1 : Int64} {x3 : Int32} {x4 : Int32} (ho0 : isTx w o0) {res : St} (hf : f_X8_addCase σ o0 x1 x3 x4 = some res) : wC w ad D cy z l yX8_addCase (Cond.code yX8_addCase cX8_addCase 5 (none) :: aw) (1) (100) [.ref (ad o0), .long x1, .int x3, .int x4] σ (wQv w ad D cy res) := by
  unfold f_X8_addCase at hf
  refine wr_start (own := RX8) hI (by decide +kernel) rfl (Nat.le_of_ble_eq_true rfl) rfl ?_
  intro p e s m below meth c ls X hw hr hl
  have hx := X.hx
  have hb := X.hb
  obtain ⟨H, eH⟩ : ∃ H : Heap, H = s.heap := ⟨_, rfl⟩
  obtain ⟨locs, el⟩ : ∃ locs : List Loc, locs = [] := ⟨_, rfl⟩
  rw [← eH, ← el] at hw ⊢
  clear eH el
  replace hl : lv_has ls 5 [(0, .ref (ad o0)), (1, .long x1), (3, .int x3), (4, .int x4)] := hl
  refine lv_aload_n hx hb dX8_addCase_0 rfl (lv_at hl 0 rfl) ?_
  refine gX8_6 X hw (isTx.s0 ho0) (isTx.n0 ho0) fl_X8_35 dX8_addCase_1 ?_
  refine lv_if_lt (tgt := 57) hx hb dX8_addCase_4 (by decide) (fun c1 => ?_) (fun c1 => ?_)
  · have hf := (if_pos c1).symm.trans hf
    have er := Option.some.inj hf
    subst er
    exact wr_vret X hw hr dX8_addCase_57
  · have hf := (if_neg c1).symm.trans hf
    refine lv_aload_n hx hb dX8_addCase_7 rfl (lv_at hl 0 rfl) ?_
    refine gX8_6 X hw (isTx.s0 ho0) (isTx.n0 ho0) fl_X8_35 dX8_addCase_8 ?_
    refine lv_bipush (v := 7) hx hb dX8_addCase_11 (by decide) ?_
    refine lv_icmp_ge (tgt := 57) hx hb dX8_addCase_13 (by decide) (fun c2 => ?_) (fun c2 => ?_)
    · have hf := (if_pos c2).symm.trans hf
      have er := Option.some.inj hf
      subst er
      exact wr_vret X hw hr dX8_addCase_57
    · have hf := (if_neg c2).symm.trans hf
      refine lv_aload_n hx hb dX8_addCase_16 rfl (lv_at hl 0 rfl) ?_
      refine gX8_4 (b := (o0 + 5)) X hw (isTx.s0 ho0) (isTx.n0 ho0) (isTx.r4 ho0) fl_X8_24 dX8_addCase_17 ?_
      refine lv_aload_n hx hb dX8_addCase_20 rfl (lv_at hl 0 rfl) ?_
      refine gX8_6 X hw (isTx.s0 ho0) (isTx.n0 ho0) fl_X8_35 dX8_addCase_21 ?_
      refine lv_lload_n hx hb dX8_addCase_24 rfl (lv_at hl 1 rfl) ?_
      obtain ⟨h3, hf⟩ := if_some hf
      obtain ⟨σ4, eσ4, hf⟩ := wlet_some hf
      refine wr_last X hw (isTx.s5 ho0) (isTx.n5 ho0) h3 dX8_addCase_25 (fun H locs hw => ?_)
      replace hw := hw.to eσ4
      refine lv_aload_n hx hb dX8_addCase_26 rfl (lv_at hl 0 rfl) ?_
      refine gX8_2 (b := (o0 + 3)) X hw (isTx.s0 ho0) (isTx.n0 ho0) (isTx.r2 ho0) fl_X8_18 dX8_addCase_27 ?_
      refine lv_aload_n hx hb dX8_addCase_30 rfl (lv_at hl 0 rfl) ?_
      refine gX8_6 X hw (isTx.s0 ho0) (isTx.n0 ho0) fl_X8_35 dX8_addCase_31 ?_
      refine lv_iload_n hx hb dX8_addCase_34 rfl (lv_at hl 2 rfl) ?_
      obtain ⟨h5, hf⟩ := if_some hf
      obtain ⟨σ6, eσ6, hf⟩ := wlet_some hf
      refine wr_iast X hw (isTx.s3 ho0) (isTx.n3 ho0) h5 dX8_addCase_35 (fun H locs hw => ?_)
      replace hw := hw.to eσ6
      refine lv_aload_n hx hb dX8_addCase_36 rfl (lv_at hl 0 rfl) ?_
      refine gX8_3 (b := (o0 + 4)) X hw (isTx.s0 ho0) (isTx.n0 ho0) (isTx.r3 ho0) fl_X8_21 dX8_addCase_37 ?_
      refine lv_aload_n hx hb dX8_addCase_40 rfl (lv_at hl 0 rfl) ?_
      refine gX8_6 X hw (isTx.s0 ho0) (isTx.n0 ho0) fl_X8_35 dX8_addCase_41 ?_
      refine lv_iload hx hb dX8_addCase_44 (lv_at hl 3 rfl) ?_
      obtain ⟨h7, hf⟩ := if_some hf
      obtain ⟨σ8, eσ8, hf⟩ := wlet_some hf
      refine wr_iast X hw (isTx.s4 ho0) (isTx.n4 ho0) h7 dX8_addCase_46 (fun H locs hw => ?_)
      replace hw := hw.to eσ8
      refine lv_aload_n hx hb dX8_addCase_47 rfl (lv_at hl 0 rfl) ?_
      refine lv_dup hx hb dX8_addCase_48 rfl ?_
      refine gX8_6 X hw (isTx.s0 ho0) (isTx.n0 ho0) fl_X8_35 dX8_addCase_49 ?_
      refine lv_iconst (v := 1) hx hb dX8_addCase_52 (by decide) ?_
      refine lv_iadd hx hb dX8_addCase_53 ?_
      obtain ⟨σ9, eσ9, hf⟩ := wlet_some hf
      refine pX8_6 X hw (isTx.s0 ho0) (isTx.n0 ho0) fl_X8_35 dX8_addCase_54 (fun H locs hw => ?_)
      replace hw := hw.to eσ9
      have er := Option.some.inj hf
      subst er
      exact wr_vret X hw hr dX8_addCase_57

def f_X8_isNamed (σ : St) (o0 : Nat) (x1 : Int64) : Option (Int32) := wlet (fun (x3_2_1 : Int32) => if (σ.1 o0 6) ≤ x3_2_1 then (some (.inr (.inl ()))) else (if (7 : Int32) ≤ x3_2_1 then (some (.inr (.inl ()))) else (if ib x3_2_1 7 = true then if (lg_cmp (σ.2 (o0 + 5) (Int32.toNatClampNeg x3_2_1)) x1) = 0 then (some (.inr (.inr (1 : Int32)))) else (wlet (x3_2_1 + (1 : Int32)) fun v6 => some (.inl v6)) else none)) : Int32 → Option ((Int32) ⊕ ((Unit) ⊕ (Int32)))) fun st2_1 => Option.bind (lp st2_1 fuel (0 : Int32)) (sumk (fun (_ : Unit) => some (0 : Int32)) (fun m => some m))
theorem hd_X8_isNamed : yX8_isNamed.cls = RX8 ∧ yX8_isNamed.cls ≠ "java/lang/invoke/MethodHandle" ∧ yX8_isNamed.cls ≠ "java/lang/invoke/VarHandle" ∧ (parseMethodDescriptor yX8_isNamed.desc).map (fun d => d.parameters.length) = some 1 := by decide +kernel
set_option maxRecDepth 100000 in
set_option maxHeartbeats 4000000 in
theorem k_X8_isNamed {w : Wd} {l : Launch} {ad : Nat → Nat} {D : va_G} {cy : Nat → ClassId} {z : wStr} (hI : wI w ad) {σ : St} {o0 : Nat} {x1 : Int64} (ho0 : isTx w o0) {res : Int32} (hf : f_X8_isNamed σ o0 x1 = some res) : wC w ad D cy z l yX8_isNamed (Cond.code yX8_isNamed cX8_isNamed 4 (Option.some Jvm.ClassFile.FieldType.boolean) :: aw) (1) (100) [.ref (ad o0), .long x1] σ (wQi w ad D cy res σ) := by
  unfold f_X8_isNamed at hf
  refine wr_start (own := RX8) hI (by decide +kernel) rfl (Nat.le_of_ble_eq_true rfl) rfl ?_
  intro p e s m below meth c ls X hw hr hl
  have hx := X.hx
  have hb := X.hb
  obtain ⟨H, eH⟩ : ∃ H : Heap, H = s.heap := ⟨_, rfl⟩
  obtain ⟨locs, el⟩ : ∃ locs : List Loc, locs = [] := ⟨_, rfl⟩
  rw [← eH, ← el] at hw ⊢
  clear eH el
  replace hl : lv_has ls 4 [(0, .ref (ad o0)), (1, .long x1)] := hl
  refine lv_iconst (v := 0) hx hb dX8_isNamed_0 (by decide) ?_
  refine lv_istore_n (lv' := [(3, .int (0 : Int32)), (0, .ref (ad o0)), (1, .long x1)]) hx hb dX8_isNamed_1 rfl hl (by decide) rfl (fun ls hl => ?_)
  obtain ⟨st2_1, est2_1, hf⟩ := wlet_some hf
  obtain ⟨E2_1, hq2_1, hE2_1⟩ := bind_some hf
  have hx2_1 : ∀ (_ : Sum.inl () = E2_1) (ls : Array Slot) (H : Heap) (locs : List Loc), lv_has ls 4 [] → wH w ad D cy s σ H locs → W p l e { frames := 1, cells := 0, slots := 0, locals := 100 } s m [.ref (ad o0), .long x1].toArray below meth c H locs 0 0 (MQ below (wQi w ad D cy res σ) [.ref (ad o0), .long x1].toArray s 0 0 (wA w ad)) (F0 m 35 ls []) := by
    intro  e0 ls H locs hl hw
    have hf := sumk_l hE2_1 e0
    refine lv_iconst (v := 0) hx hb dX8_isNamed_35 (by decide) ?_
    have er := Option.some.inj hf
    subst er
    exact wr_iret X hw hr (Or.inr ⟨rfl, (show bz (0 : Int32) = true from rfl)⟩) dX8_isNamed_36
  have lo2_1 : ∀ (n : Nat) (x3_2_1 : Int32) (_ : lp st2_1 n x3_2_1 = some E2_1) (ls : Array Slot) (H : Heap) (locs : List Loc), lv_has ls 4 [(0, .ref (ad o0)), (1, .long x1), (3, .int x3_2_1)] → wH w ad D cy s σ H locs → W p l e { frames := 1, cells := 0, slots := 0, locals := 100 } s m [.ref (ad o0), .long x1].toArray below meth c H locs 0 0 (MQ below (wQi w ad D cy res σ) [.ref (ad o0), .long x1].toArray s 0 0 (wA w ad)) (F0 m 2 ls []) := by
    intro n
    induction n with
    | zero =>
      intro x3_2_1 hf ls H locs hl hw
      exact (lp_zero hf).elim
    | succ n ih2_1 =>
      intro x3_2_1 hf ls H locs hl hw
      obtain ⟨q2_1, hf, hz2_1⟩ := lp_succ hf
      rw [est2_1] at hf
      refine lv_iload_n hx hb dX8_isNamed_2 rfl (lv_at hl 2 rfl) ?_
      refine lv_aload_n hx hb dX8_isNamed_3 rfl (lv_at hl 0 rfl) ?_
      refine gX8_6 X hw (isTx.s0 ho0) (isTx.n0 ho0) fl_X8_35 dX8_isNamed_4 ?_
      refine lv_icmp_ge (tgt := 35) hx hb dX8_isNamed_7 (by decide) (fun c2 => ?_) (fun c2 => ?_)
      · have hf := (if_pos c2).symm.trans hf
        exact hx2_1  (lpK_inr (lp_leaf hf hz2_1)) ls H locs (lv_sub hl [] rfl) hw
      · have hf := (if_neg c2).symm.trans hf
        refine lv_iload_n hx hb dX8_isNamed_10 rfl (lv_at hl 2 rfl) ?_
        refine lv_bipush (v := 7) hx hb dX8_isNamed_11 (by decide) ?_
        refine lv_icmp_ge (tgt := 35) hx hb dX8_isNamed_13 (by decide) (fun c3 => ?_) (fun c3 => ?_)
        · have hf := (if_pos c3).symm.trans hf
          exact hx2_1  (lpK_inr (lp_leaf hf hz2_1)) ls H locs (lv_sub hl [] rfl) hw
        · have hf := (if_neg c3).symm.trans hf
          refine lv_aload_n hx hb dX8_isNamed_16 rfl (lv_at hl 0 rfl) ?_
          refine gX8_4 (b := (o0 + 5)) X hw (isTx.s0 ho0) (isTx.n0 ho0) (isTx.r4 ho0) fl_X8_24 dX8_isNamed_17 ?_
          refine lv_iload_n hx hb dX8_isNamed_20 rfl (lv_at hl 2 rfl) ?_
          obtain ⟨h4, hf⟩ := if_some hf
          refine wr_lald X hw (isTx.s5 ho0) (isTx.n5 ho0) h4 dX8_isNamed_21 ?_
          refine lv_lload_n hx hb dX8_isNamed_22 rfl (lv_at hl 1 rfl) ?_
          refine W.lcmp hx hb dX8_isNamed_23 ?_
          refine lv_if_ne (tgt := 29) hx hb dX8_isNamed_24 (by decide) (fun c5 => ?_) (fun c5 => ?_)
          · have hf := (if_neg c5).symm.trans hf
            obtain ⟨v6, ev6, hf⟩ := wlet_some hf
            refine lv_iinc (v := v6) (lv' := [(3, .int v6), (0, .ref (ad o0)), (1, .long x1)]) hx hb dX8_isNamed_29 hl (k := 2) rfl (by rw [ev6]; rfl) (by decide) rfl (fun ls hl => ?_)
            refine lv_goto (tgt := 2) hx hb dX8_isNamed_32 (by decide) ?_
            exact ih2_1 v6 (lp_leaf hf hz2_1) ls H locs (lv_sub hl [1, 2, 0] rfl) hw
          · have hf := (if_pos c5).symm.trans hf
            refine lv_iconst (v := 1) hx hb dX8_isNamed_27 (by decide) ?_
            have e2_1 := lpK_inr (lp_leaf hf hz2_1)
            have hf := sumk_r hE2_1 e2_1
            have er := Option.some.inj hf
            subst er
            exact wr_iret X hw hr (Or.inr ⟨rfl, (show bz (1 : Int32) = true from rfl)⟩) dX8_isNamed_28
  exact lo2_1 fuel (0 : Int32) hq2_1 ls H locs (lv_sub hl [1, 2, 0] rfl) hw

def f_X8_leadHere (σ : St) (o0 : Nat) (x1 : Int32) : Option (St) := if x1 < 0 then (some σ) else (if (σ.1 o0 5) ≤ x1 then (some σ) else (if (420 : Int32) ≤ x1 then (some σ) else (if ib x1 420 = true then wlet (si σ (o0 + 1) (Int32.toNatClampNeg x1) (((8 : Int32) * (σ.1 o0 5)) + (6 : Int32))) fun σ5 => some σ5 else none)))
theorem hd_X8_leadHere : yX8_leadHere.cls = RX8 ∧ yX8_leadHere.cls ≠ "java/lang/invoke/MethodHandle" ∧ yX8_leadHere.cls ≠ "java/lang/invoke/VarHandle" ∧ (parseMethodDescriptor yX8_leadHere.desc).map (fun d => d.parameters.length) = some 1 := by decide +kernel
set_option maxRecDepth 100000 in
set_option maxHeartbeats 4000000 in
theorem k_X8_leadHere {w : Wd} {l : Launch} {ad : Nat → Nat} {D : va_G} {cy : Nat → ClassId} {z : wStr} (hI : wI w ad) {σ : St} {o0 : Nat} {x1 : Int32} (ho0 : isTx w o0) {res : St} (hf : f_X8_leadHere σ o0 x1 = some res) : wC w ad D cy z l yX8_leadHere (Cond.code yX8_leadHere cX8_leadHere 2 (none) :: aw) (1) (100) [.ref (ad o0), .int x1] σ (wQv w ad D cy res) := by
  unfold f_X8_leadHere at hf
  refine wr_start (own := RX8) hI (by decide +kernel) rfl (Nat.le_of_ble_eq_true rfl) rfl ?_
  intro p e s m below meth c ls X hw hr hl
  have hx := X.hx
  have hb := X.hb
  obtain ⟨H, eH⟩ : ∃ H : Heap, H = s.heap := ⟨_, rfl⟩
  obtain ⟨locs, el⟩ : ∃ locs : List Loc, locs = [] := ⟨_, rfl⟩
  rw [← eH, ← el] at hw ⊢
  clear eH el
  replace hl : lv_has ls 2 [(0, .ref (ad o0)), (1, .int x1)] := hl
  refine lv_iload_n hx hb dX8_leadHere_0 rfl (lv_at hl 1 rfl) ?_
  refine lv_if_lt (tgt := 37) hx hb dX8_leadHere_1 (by decide) (fun c1 => ?_) (fun c1 => ?_)
  · have hf := (if_pos c1).symm.trans hf
    have er := Option.some.inj hf
    subst er
    exact wr_vret X hw hr dX8_leadHere_37
  · have hf := (if_neg c1).symm.trans hf
    refine lv_iload_n hx hb dX8_leadHere_4 rfl (lv_at hl 1 rfl) ?_
    refine lv_aload_n hx hb dX8_leadHere_5 rfl (lv_at hl 0 rfl) ?_
    refine gX8_5 X hw (isTx.s0 ho0) (isTx.n0 ho0) fl_X8_31 dX8_leadHere_6 ?_
    refine lv_icmp_ge (tgt := 37) hx hb dX8_leadHere_9 (by decide) (fun c2 => ?_) (fun c2 => ?_)
    · have hf := (if_pos c2).symm.trans hf
      have er := Option.some.inj hf
      subst er
      exact wr_vret X hw hr dX8_leadHere_37
    · have hf := (if_neg c2).symm.trans hf
      refine lv_iload_n hx hb dX8_leadHere_12 rfl (lv_at hl 1 rfl) ?_
      refine lv_aload_n hx hb dX8_leadHere_13 rfl (lv_at hl 0 rfl) ?_
      refine gX8_0 (b := (o0 + 1)) X hw (isTx.s0 ho0) (isTx.n0 ho0) (isTx.r0 ho0) fl_X8_9 dX8_leadHere_14 ?_
      refine wr_alen X hw (t := 0) (isTx.s1 ho0) (isTx.n1 ho0) (by decide) (v := 420) (by decide) dX8_leadHere_17 ?_
      refine lv_icmp_ge (tgt := 37) hx hb dX8_leadHere_18 (by decide) (fun c3 => ?_) (fun c3 => ?_)
      · have hf := (if_pos c3).symm.trans hf
        have er := Option.some.inj hf
        subst er
        exact wr_vret X hw hr dX8_leadHere_37
      · have hf := (if_neg c3).symm.trans hf
        refine lv_aload_n hx hb dX8_leadHere_21 rfl (lv_at hl 0 rfl) ?_
        refine gX8_0 (b := (o0 + 1)) X hw (isTx.s0 ho0) (isTx.n0 ho0) (isTx.r0 ho0) fl_X8_9 dX8_leadHere_22 ?_
        refine lv_iload_n hx hb dX8_leadHere_25 rfl (lv_at hl 1 rfl) ?_
        refine lv_bipush (v := 8) hx hb dX8_leadHere_26 (by decide) ?_
        refine lv_aload_n hx hb dX8_leadHere_28 rfl (lv_at hl 0 rfl) ?_
        refine gX8_5 X hw (isTx.s0 ho0) (isTx.n0 ho0) fl_X8_31 dX8_leadHere_29 ?_
        refine lv_imul hx hb dX8_leadHere_32 ?_
        refine lv_bipush (v := 6) hx hb dX8_leadHere_33 (by decide) ?_
        refine lv_iadd hx hb dX8_leadHere_35 ?_
        obtain ⟨h4, hf⟩ := if_some hf
        obtain ⟨σ5, eσ5, hf⟩ := wlet_some hf
        refine wr_iast X hw (isTx.s1 ho0) (isTx.n1 ho0) h4 dX8_leadHere_36 (fun H locs hw => ?_)
        replace hw := hw.to eσ5
        have er := Option.some.inj hf
        subst er
        exact wr_vret X hw hr dX8_leadHere_37

def f_X8_copyFrom (σ : St) (o0 : Nat) (o1 : Nat) : Option (St) := wlet (sci σ (o1 + 1) (o0 + 1) (Int32.toNatClampNeg (0 : Int32)) (Int32.toNatClampNeg (0 : Int32)) (Int32.toNatClampNeg (420 : Int32))) fun σ1 => wlet (sci σ1 (o1 + 2) (o0 + 2) (Int32.toNatClampNeg (0 : Int32)) (Int32.toNatClampNeg (0 : Int32)) (Int32.toNatClampNeg (4 : Int32))) fun σ2 => wlet (sci σ2 (o1 + 3) (o0 + 3) (Int32.toNatClampNeg (0 : Int32)) (Int32.toNatClampNeg (0 : Int32)) (Int32.toNatClampNeg (7 : Int32))) fun σ3 => wlet (sci σ3 (o1 + 4) (o0 + 4) (Int32.toNatClampNeg (0 : Int32)) (Int32.toNatClampNeg (0 : Int32)) (Int32.toNatClampNeg (7 : Int32))) fun σ4 => wlet (scj σ4 (o1 + 5) (o0 + 5) (Int32.toNatClampNeg (0 : Int32)) (Int32.toNatClampNeg (0 : Int32)) (Int32.toNatClampNeg (7 : Int32))) fun σ5 => wlet (si σ5 o0 5 (σ5.1 o1 5)) fun σ6 => wlet (si σ6 o0 6 (σ6.1 o1 6)) fun σ7 => wlet (si σ7 o0 7 (σ7.1 o1 7)) fun σ8 => wlet (si σ8 o0 8 (σ8.1 o1 8)) fun σ9 => some σ9
theorem hd_X8_copyFrom : yX8_copyFrom.cls = RX8 ∧ yX8_copyFrom.cls ≠ "java/lang/invoke/MethodHandle" ∧ yX8_copyFrom.cls ≠ "java/lang/invoke/VarHandle" ∧ (parseMethodDescriptor yX8_copyFrom.desc).map (fun d => d.parameters.length) = some 1 := by decide +kernel
set_option maxRecDepth 100000 in
set_option maxHeartbeats 4000000 in
theorem k_X8_copyFrom {w : Wd} {l : Launch} {ad : Nat → Nat} {D : va_G} {cy : Nat → ClassId} {z : wStr} (hI : wI w ad) {σ : St} {o0 : Nat} {o1 : Nat} (ho0 : isTx w o0) (ho1 : isTx w o1) {res : St} (hf : f_X8_copyFrom σ o0 o1 = some res) : wC w ad D cy z l yX8_copyFrom (Cond.code yX8_copyFrom cX8_copyFrom 2 (none) :: aw) (1) (100) [.ref (ad o0), .ref (ad o1)] σ (wQv w ad D cy res) := by
  unfold f_X8_copyFrom at hf
  refine wr_start (own := RX8) hI (by decide +kernel) rfl (Nat.le_of_ble_eq_true rfl) rfl ?_
  intro p e s m below meth c ls X hw hr hl
  have hx := X.hx
  have hb := X.hb
  obtain ⟨H, eH⟩ : ∃ H : Heap, H = s.heap := ⟨_, rfl⟩
  obtain ⟨locs, el⟩ : ∃ locs : List Loc, locs = [] := ⟨_, rfl⟩
  rw [← eH, ← el] at hw ⊢
  clear eH el
  replace hl : lv_has ls 2 [(0, .ref (ad o0)), (1, .ref (ad o1))] := hl
  refine lv_aload_n hx hb dX8_copyFrom_0 rfl (lv_at hl 1 rfl) ?_
  refine gX8_0 (b := (o1 + 1)) X hw (isTx.s0 ho1) (isTx.n0 ho1) (isTx.r0 ho1) fl_X8_9 dX8_copyFrom_1 ?_
  refine lv_iconst (v := 0) hx hb dX8_copyFrom_4 (by decide) ?_
  refine lv_aload_n hx hb dX8_copyFrom_5 rfl (lv_at hl 0 rfl) ?_
  refine gX8_0 (b := (o0 + 1)) X hw (isTx.s0 ho0) (isTx.n0 ho0) (isTx.r0 ho0) fl_X8_9 dX8_copyFrom_6 ?_
  refine lv_iconst (v := 0) hx hb dX8_copyFrom_9 (by decide) ?_
  refine lv_aload_n hx hb dX8_copyFrom_10 rfl (lv_at hl 0 rfl) ?_
  refine gX8_0 (b := (o0 + 1)) X hw (isTx.s0 ho0) (isTx.n0 ho0) (isTx.r0 ho0) fl_X8_9 dX8_copyFrom_11 ?_
  refine wr_alen X hw (t := 0) (isTx.s1 ho0) (isTx.n1 ho0) (by decide) (v := 420) (by decide) dX8_copyFrom_14 ?_
  obtain ⟨σ1, eσ1, hf⟩ := wlet_some hf
  refine wr_copyi X hw hl.1 (isTx.s1 ho1) (isTx.s1 ho0) (isTx.n1 ho1) (isTx.n1 ho0) ml_X8_55 (by decide) (by decide) (by decide) (by decide) (by decide) (Nat.le_of_ble_eq_true rfl) (Nat.le_of_ble_eq_true rfl) dX8_copyFrom_15 (fun H locs hw => ?_)
  replace hw := hw.to eσ1
  refine lv_aload_n hx hb dX8_copyFrom_18 rfl (lv_at hl 1 rfl) ?_
  refine gX8_1 (b := (o1 + 2)) X hw (isTx.s0 ho1) (isTx.n0 ho1) (isTx.r1 ho1) fl_X8_15 dX8_copyFrom_19 ?_
  refine lv_iconst (v := 0) hx hb dX8_copyFrom_22 (by decide) ?_
  refine lv_aload_n hx hb dX8_copyFrom_23 rfl (lv_at hl 0 rfl) ?_
  refine gX8_1 (b := (o0 + 2)) X hw (isTx.s0 ho0) (isTx.n0 ho0) (isTx.r1 ho0) fl_X8_15 dX8_copyFrom_24 ?_
  refine lv_iconst (v := 0) hx hb dX8_copyFrom_27 (by decide) ?_
  refine lv_iconst (v := 4) hx hb dX8_copyFrom_28 (by decide) ?_
  obtain ⟨σ2, eσ2, hf⟩ := wlet_some hf
  refine wr_copyi X hw hl.1 (isTx.s2 ho1) (isTx.s2 ho0) (isTx.n2 ho1) (isTx.n2 ho0) ml_X8_55 (by decide) (by decide) (by decide) (by decide) (by decide) (Nat.le_of_ble_eq_true rfl) (Nat.le_of_ble_eq_true rfl) dX8_copyFrom_29 (fun H locs hw => ?_)
  replace hw := hw.to eσ2
  refine lv_aload_n hx hb dX8_copyFrom_32 rfl (lv_at hl 1 rfl) ?_
  refine gX8_2 (b := (o1 + 3)) X hw (isTx.s0 ho1) (isTx.n0 ho1) (isTx.r2 ho1) fl_X8_18 dX8_copyFrom_33 ?_
  refine lv_iconst (v := 0) hx hb dX8_copyFrom_36 (by decide) ?_
  refine lv_aload_n hx hb dX8_copyFrom_37 rfl (lv_at hl 0 rfl) ?_
  refine gX8_2 (b := (o0 + 3)) X hw (isTx.s0 ho0) (isTx.n0 ho0) (isTx.r2 ho0) fl_X8_18 dX8_copyFrom_38 ?_
  refine lv_iconst (v := 0) hx hb dX8_copyFrom_41 (by decide) ?_
  refine lv_bipush (v := 7) hx hb dX8_copyFrom_42 (by decide) ?_
  obtain ⟨σ3, eσ3, hf⟩ := wlet_some hf
  refine wr_copyi X hw hl.1 (isTx.s3 ho1) (isTx.s3 ho0) (isTx.n3 ho1) (isTx.n3 ho0) ml_X8_55 (by decide) (by decide) (by decide) (by decide) (by decide) (Nat.le_of_ble_eq_true rfl) (Nat.le_of_ble_eq_true rfl) dX8_copyFrom_44 (fun H locs hw => ?_)
  replace hw := hw.to eσ3
  refine lv_aload_n hx hb dX8_copyFrom_47 rfl (lv_at hl 1 rfl) ?_
  refine gX8_3 (b := (o1 + 4)) X hw (isTx.s0 ho1) (isTx.n0 ho1) (isTx.r3 ho1) fl_X8_21 dX8_copyFrom_48 ?_
  refine lv_iconst (v := 0) hx hb dX8_copyFrom_51 (by decide) ?_
  refine lv_aload_n hx hb dX8_copyFrom_52 rfl (lv_at hl 0 rfl) ?_
  refine gX8_3 (b := (o0 + 4)) X hw (isTx.s0 ho0) (isTx.n0 ho0) (isTx.r3 ho0) fl_X8_21 dX8_copyFrom_53 ?_
  refine lv_iconst (v := 0) hx hb dX8_copyFrom_56 (by decide) ?_
  refine lv_bipush (v := 7) hx hb dX8_copyFrom_57 (by decide) ?_
  obtain ⟨σ4, eσ4, hf⟩ := wlet_some hf
  refine wr_copyi X hw hl.1 (isTx.s4 ho1) (isTx.s4 ho0) (isTx.n4 ho1) (isTx.n4 ho0) ml_X8_55 (by decide) (by decide) (by decide) (by decide) (by decide) (Nat.le_of_ble_eq_true rfl) (Nat.le_of_ble_eq_true rfl) dX8_copyFrom_59 (fun H locs hw => ?_)
  replace hw := hw.to eσ4
  refine lv_aload_n hx hb dX8_copyFrom_62 rfl (lv_at hl 1 rfl) ?_
  refine gX8_4 (b := (o1 + 5)) X hw (isTx.s0 ho1) (isTx.n0 ho1) (isTx.r4 ho1) fl_X8_24 dX8_copyFrom_63 ?_
  refine lv_iconst (v := 0) hx hb dX8_copyFrom_66 (by decide) ?_
  refine lv_aload_n hx hb dX8_copyFrom_67 rfl (lv_at hl 0 rfl) ?_
  refine gX8_4 (b := (o0 + 5)) X hw (isTx.s0 ho0) (isTx.n0 ho0) (isTx.r4 ho0) fl_X8_24 dX8_copyFrom_68 ?_
  refine lv_iconst (v := 0) hx hb dX8_copyFrom_71 (by decide) ?_
  refine lv_bipush (v := 7) hx hb dX8_copyFrom_72 (by decide) ?_
  obtain ⟨σ5, eσ5, hf⟩ := wlet_some hf
  refine wr_copyl X hw hl.1 (isTx.s5 ho1) (isTx.s5 ho0) (isTx.n5 ho1) (isTx.n5 ho0) ml_X8_55 (by decide) (by decide) (by decide) (by decide) (by decide) (Nat.le_of_ble_eq_true rfl) (Nat.le_of_ble_eq_true rfl) dX8_copyFrom_74 (fun H locs hw => ?_)
  replace hw := hw.to eσ5
  refine lv_aload_n hx hb dX8_copyFrom_77 rfl (lv_at hl 0 rfl) ?_
  refine lv_aload_n hx hb dX8_copyFrom_78 rfl (lv_at hl 1 rfl) ?_
  refine gX8_5 X hw (isTx.s0 ho1) (isTx.n0 ho1) fl_X8_31 dX8_copyFrom_79 ?_
  obtain ⟨σ6, eσ6, hf⟩ := wlet_some hf
  refine pX8_5 X hw (isTx.s0 ho0) (isTx.n0 ho0) fl_X8_31 dX8_copyFrom_82 (fun H locs hw => ?_)
  replace hw := hw.to eσ6
  refine lv_aload_n hx hb dX8_copyFrom_85 rfl (lv_at hl 0 rfl) ?_
  refine lv_aload_n hx hb dX8_copyFrom_86 rfl (lv_at hl 1 rfl) ?_
  refine gX8_6 X hw (isTx.s0 ho1) (isTx.n0 ho1) fl_X8_35 dX8_copyFrom_87 ?_
  obtain ⟨σ7, eσ7, hf⟩ := wlet_some hf
  refine pX8_6 X hw (isTx.s0 ho0) (isTx.n0 ho0) fl_X8_35 dX8_copyFrom_90 (fun H locs hw => ?_)
  replace hw := hw.to eσ7
  refine lv_aload_n hx hb dX8_copyFrom_93 rfl (lv_at hl 0 rfl) ?_
  refine lv_aload_n hx hb dX8_copyFrom_94 rfl (lv_at hl 1 rfl) ?_
  refine gX8_7 X hw (isTx.s0 ho1) (isTx.n0 ho1) fl_X8_38 dX8_copyFrom_95 ?_
  obtain ⟨σ8, eσ8, hf⟩ := wlet_some hf
  refine pX8_7 X hw (isTx.s0 ho0) (isTx.n0 ho0) fl_X8_38 dX8_copyFrom_98 (fun H locs hw => ?_)
  replace hw := hw.to eσ8
  refine lv_aload_n hx hb dX8_copyFrom_101 rfl (lv_at hl 0 rfl) ?_
  refine lv_aload_n hx hb dX8_copyFrom_102 rfl (lv_at hl 1 rfl) ?_
  refine gX8_8 X hw (isTx.s0 ho1) (isTx.n0 ho1) fl_X8_41 dX8_copyFrom_103 ?_
  obtain ⟨σ9, eσ9, hf⟩ := wlet_some hf
  refine pX8_8 X hw (isTx.s0 ho0) (isTx.n0 ho0) fl_X8_41 dX8_copyFrom_106 (fun H locs hw => ?_)
  replace hw := hw.to eσ9
  have er := Option.some.inj hf
  subst er
  exact wr_vret X hw hr dX8_copyFrom_109
