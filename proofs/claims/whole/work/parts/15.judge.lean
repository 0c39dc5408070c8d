def f_X1_seat (σ : St) (o1 : Nat) (x2 : Int32) (x3 : Int32) (x4 : Int32) : Option (St) := Option.bind (f_X8_deedOf σ 4 x2) fun v2 => if ib (1 : Int32) 9 = true then wlet (si σ 22 (Int32.toNatClampNeg (1 : Int32)) v2) fun σ4 => wlet (fun (s1_39_5 : Int32) (s2_39_5 : Int32) => (if ib s1_39_5 9 = true then wlet (si σ4 22 (Int32.toNatClampNeg s1_39_5) s2_39_5) fun σ7 => if ib (3 : Int32) 9 = true then wlet (si σ7 22 (Int32.toNatClampNeg (3 : Int32)) x3) fun σ9 => if ib (4 : Int32) 9 = true then wlet (si σ9 22 (Int32.toNatClampNeg (4 : Int32)) (σ9.1 o1 6)) fun σ11 => if ib (5 : Int32) 9 = true then wlet (si σ11 22 (Int32.toNatClampNeg (5 : Int32)) x2) fun σ13 => if ib (6 : Int32) 9 = true then wlet (si σ13 22 (Int32.toNatClampNeg (6 : Int32)) (σ13.1 o1 3)) fun σ15 => Option.bind (f_X6_isPleading σ15 o1 x4) fun v17 => wlet (fun (s1_95_18 : Int32) (s2_95_18 : Int32) => (if ib s1_95_18 9 = true then wlet (si σ15 22 (Int32.toNatClampNeg s1_95_18) s2_95_18) fun σ20 => if ib (8 : Int32) 9 = true then wlet (si σ20 22 (Int32.toNatClampNeg (8 : Int32)) (σ20.1 o1 7)) fun σ22 => some σ22 else none else none : Option (St))) fun k95_18 => if v17 = 0 then (k95_18 (7 : Int32) (0 : Int32)) else (k95_18 (7 : Int32) (1 : Int32)) else none else none else none else none else none : Option (St))) fun k39_5 => wlet (fun (s1_38_24 : Int32) => (k39_5 s1_38_24 (0 : Int32) : Option (St))) fun k38_24 => if x2 < 0 then (k38_24 (2 : Int32)) else (if (7 : Int32) ≤ x2 then (k38_24 (2 : Int32)) else (if ib x2 7 = true then k39_5 (2 : Int32) (σ4.1 (o1 + 2) (Int32.toNatClampNeg x2)) else none)) else none
theorem hd_X1_seat : yX1_seat.cls = RX1 ∧ yX1_seat.cls ≠ "java/lang/invoke/MethodHandle" ∧ yX1_seat.cls ≠ "java/lang/invoke/VarHandle" ∧ (parseMethodDescriptor yX1_seat.desc).map (fun d => d.parameters.length) = some 4 := by decide +kernel
set_option maxRecDepth 100000 in
set_option maxHeartbeats 4000000 in
theorem k_X1_seat {l : Launch} {ad : Nat → Nat} {D : va_G} {cy : Nat → ClassId} {z : wStr} (hI : wI WC ad) {σ : St} {o1 : Nat} {x2 : Int32} {x3 : Int32} {x4 : Int32} (ho1 : isSt o1) {res : St} (hf : f_X1_seat σ o1 x2 x3 x4 = some res) : wC WC ad D cy z l yX1_seat (Cond.code yX1_seat cX1_seat 5 (none) :: aw) (2) (121) [.ref (ad 21), .ref (ad o1), .int x2, .int x3, .int x4] σ (wQv WC ad D cy res) := by
  unfold f_X1_seat at hf
  refine wr_start (own := RX1) hI (by decide +kernel) rfl (Nat.le_of_ble_eq_true rfl) rfl ?_
  intro p e s m below meth c ls X hw hr hl
  have hx := X.hx
  have hb := X.hb
  obtain ⟨H, eH⟩ : ∃ H : Heap, H = s.heap := ⟨_, rfl⟩
  obtain ⟨locs, el⟩ : ∃ locs : List Loc, locs = [] := ⟨_, rfl⟩
  rw [← eH, ← el] at hw ⊢
  clear eH el
  replace hl : lv_has ls 5 [(0, .ref (ad 21)), (1, .ref (ad o1)), (2, .int x2), (3, .int x3), (4, .int x4)] := hl
  refine lv_aload_n hx hb dX1_seat_0 rfl (lv_at hl 0 rfl) ?_
  refine gX1_1 (b := 22) X hw sC21 nC21 rfl fl_X1_9 dX1_seat_1 ?_
  refine lv_iconst (v := 1) hx hb dX1_seat_4 (by decide) ?_
  refine lv_aload_n hx hb dX1_seat_5 rfl (lv_at hl 0 rfl) ?_
  refine gX1_0 (b := 4) X hw sC21 nC21 rfl fl_X1_21 dX1_seat_6 ?_
  refine lv_iload_n hx hb dX1_seat_9 rfl (lv_at hl 2 rfl) ?_
  obtain ⟨v2, hq1, hf⟩ := bind_some hf
  refine wr_cNi (r := v2) (σ' := σ) (av := [.int x2]) (rest := [.int (1 : Int32), .ref (ad 22)]) X hw hl.1 sC4 nC4 rfl (k_X8_deedOf hI tx_1 hq1) rfl mn_X1_25 im_X8_deedOf se_X8_deedOf ini_X8 co_X8_deedOf hd_X8_deedOf ⟨Nat.le_of_ble_eq_true rfl, Nat.le_of_ble_eq_true rfl⟩ (Nat.le_of_ble_eq_true rfl) dX1_seat_10 rfl (fun H locs hw => ?_)
  obtain ⟨h3, hf⟩ := if_some hf
  obtain ⟨σ4, eσ4, hf⟩ := wlet_some hf
  refine wr_iast X hw sC22 nC22 h3 dX1_seat_13 (fun H locs hw => ?_)
  replace hw := hw.to eσ4
  refine lv_aload_n hx hb dX1_seat_14 rfl (lv_at hl 0 rfl) ?_
  refine gX1_1 (b := 22) X hw sC21 nC21 rfl fl_X1_9 dX1_seat_15 ?_
  refine lv_iconst (v := 2) hx hb dX1_seat_18 (by decide) ?_
  refine lv_iload_n hx hb dX1_seat_19 rfl (lv_at hl 2 rfl) ?_
  obtain ⟨k39_5, ek39_5, hf0⟩ := wlet_some hf
  have j39_5 : ∀ (s1_39_5 : Int32) (s2_39_5 : Int32) (_ : k39_5 s1_39_5 s2_39_5 = some res) (ls : Array Slot) (H : Heap) (locs : List Loc), lv_has ls 5 [(0, .ref (ad 21)), (1, .ref (ad o1)), (2, .int x2), (3, .int x3), (4, .int x4)] → wH WC ad D cy s σ4 H locs → W p l e { frames := 2, cells := 0, slots := 0, locals := 121 } s m [.ref (ad 21), .ref (ad o1), .int x2, .int x3, .int x4].toArray below meth c H locs 0 0 (MQ below (wQv WC ad D cy res) [.ref (ad 21), .ref (ad o1), .int x2, .int x3, .int x4].toArray s 0 0 (wA WC ad)) (F0 m 39 ls [.int s2_39_5, .int s1_39_5, .ref (ad 22)]) := by
    intro s1_39_5 s2_39_5 hf ls H locs hl hw
    rw [ek39_5] at hf
    obtain ⟨h6, hf⟩ := if_some hf
    obtain ⟨σ7, eσ7, hf⟩ := wlet_some hf
    refine wr_iast X hw sC22 nC22 h6 dX1_seat_39 (fun H locs hw => ?_)
    replace hw := hw.to eσ7
    refine lv_aload_n hx hb dX1_seat_40 rfl (lv_at hl 0 rfl) ?_
    refine gX1_1 (b := 22) X hw sC21 nC21 rfl fl_X1_9 dX1_seat_41 ?_
    refine lv_iconst (v := 3) hx hb dX1_seat_44 (by decide) ?_
    refine lv_iload_n hx hb dX1_seat_45 rfl (lv_at hl 3 rfl) ?_
    obtain ⟨h8, hf⟩ := if_some hf
    obtain ⟨σ9, eσ9, hf⟩ := wlet_some hf
    refine wr_iast X hw sC22 nC22 h8 dX1_seat_46 (fun H locs hw => ?_)
    replace hw := hw.to eσ9
    refine lv_aload_n hx hb dX1_seat_47 rfl (lv_at hl 0 rfl) ?_
    refine gX1_1 (b := 22) X hw sC21 nC21 rfl fl_X1_9 dX1_seat_48 ?_
    refine lv_iconst (v := 4) hx hb dX1_seat_51 (by decide) ?_
    refine lv_aload_n hx hb dX1_seat_52 rfl (lv_at hl 1 rfl) ?_
    refine gnX6_6 X hw (isSt.s0 ho1) (isSt.n0 ho1) fn_X1_36 dX1_seat_53 ?_
    obtain ⟨h10, hf⟩ := if_some hf
    obtain ⟨σ11, eσ11, hf⟩ := wlet_some hf
    refine wr_iast X hw sC22 nC22 h10 dX1_seat_56 (fun H locs hw => ?_)
    replace hw := hw.to eσ11
    refine lv_aload_n hx hb dX1_seat_57 rfl (lv_at hl 0 rfl) ?_
    refine gX1_1 (b := 22) X hw sC21 nC21 rfl fl_X1_9 dX1_seat_58 ?_
    refine lv_iconst (v := 5) hx hb dX1_seat_61 (by decide) ?_
    refine lv_iload_n hx hb dX1_seat_62 rfl (lv_at hl 2 rfl) ?_
    obtain ⟨h12, hf⟩ := if_some hf
    obtain ⟨σ13, eσ13, hf⟩ := wlet_some hf
    refine wr_iast X hw sC22 nC22 h12 dX1_seat_63 (fun H locs hw => ?_)
    replace hw := hw.to eσ13
    refine lv_aload_n hx hb dX1_seat_64 rfl (lv_at hl 0 rfl) ?_
    refine gX1_1 (b := 22) X hw sC21 nC21 rfl fl_X1_9 dX1_seat_65 ?_
    refine lv_bipush (v := 6) hx hb dX1_seat_68 (by decide) ?_
    refine lv_aload_n hx hb dX1_seat_70 rfl (lv_at hl 1 rfl) ?_
    refine gnX6_3 X hw (isSt.s0 ho1) (isSt.n0 ho1) fn_X1_40 dX1_seat_71 ?_
    obtain ⟨h14, hf⟩ := if_some hf
    obtain ⟨σ15, eσ15, hf⟩ := wlet_some hf
    refine wr_iast X hw sC22 nC22 h14 dX1_seat_74 (fun H locs hw => ?_)
    replace hw := hw.to eσ15
    refine lv_aload_n hx hb dX1_seat_75 rfl (lv_at hl 0 rfl) ?_
    refine gX1_1 (b := 22) X hw sC21 nC21 rfl fl_X1_9 dX1_seat_76 ?_
    refine lv_bipush (v := 7) hx hb dX1_seat_79 (by decide) ?_
    refine lv_aload_n hx hb dX1_seat_81 rfl (lv_at hl 1 rfl) ?_
    refine lv_iload hx hb dX1_seat_82 (lv_at hl 4 rfl) ?_
    obtain ⟨v17, hq16, hf⟩ := bind_some hf
    refine wr_cNi (r := v17) (σ' := σ15) (av := [.int x4]) (rest := [.int (7 : Int32), .ref (ad 22)]) X hw hl.1 (isSt.s0 ho1) (isSt.n0 ho1) rfl (k_X6_isPleading hI ho1 hq16) rfl mn_X1_43 im_X6_isPleading se_X6_isPleading ini_X6 co_X6_isPleading hd_X6_isPleading ⟨Nat.le_of_ble_eq_true rfl, Nat.le_of_ble_eq_true rfl⟩ (Nat.le_of_ble_eq_true rfl) dX1_seat_84 rfl (fun H locs hw => ?_)
    obtain ⟨k95_18, ek95_18, hf0⟩ := wlet_some hf
    have j95_18 : ∀ (s1_95_18 : Int32) (s2_95_18 : Int32) (_ : k95_18 s1_95_18 s2_95_18 = some res) (ls : Array Slot) (H : Heap) (locs : List Loc), lv_has ls 5 [(0, .ref (ad 21)), (1, .ref (ad o1))] → wH WC ad D cy s σ15 H locs → W p l e { frames := 2, cells := 0, slots := 0, locals := 121 } s m [.ref (ad 21), .ref (ad o1), .int x2, .int x3, .int x4].toArray below meth c H locs 0 0 (MQ below (wQv WC ad D cy res) [.ref (ad 21), .ref (ad o1), .int x2, .int x3, .int x4].toArray s 0 0 (wA WC ad)) (F0 m 95 ls [.int s2_95_18, .int s1_95_18, .ref (ad 22)]) := by
      intro s1_95_18 s2_95_18 hf ls H locs hl hw
      rw [ek95_18] at hf
      obtain ⟨h19, hf⟩ := if_some hf
      obtain ⟨σ20, eσ20, hf⟩ := wlet_some hf
      refine wr_iast X hw sC22 nC22 h19 dX1_seat_95 (fun H locs hw => ?_)
      replace hw := hw.to eσ20
      refine lv_aload_n hx hb dX1_seat_96 rfl (lv_at hl 0 rfl) ?_
      refine gX1_1 (b := 22) X hw sC21 nC21 rfl fl_X1_9 dX1_seat_97 ?_
      refine lv_bipush (v := 8) hx hb dX1_seat_100 (by decide) ?_
      refine lv_aload_n hx hb dX1_seat_102 rfl (lv_at hl 1 rfl) ?_
      refine gnX6_7 X hw (isSt.s0 ho1) (isSt.n0 ho1) fn_X1_47 dX1_seat_103 ?_
      obtain ⟨h21, hf⟩ := if_some hf
      obtain ⟨σ22, eσ22, hf⟩ := wlet_some hf
      refine wr_iast X hw sC22 nC22 h21 dX1_seat_106 (fun H locs hw => ?_)
      replace hw := hw.to eσ22
      have er := Option.some.inj hf
      subst er
      exact wr_vret X hw hr dX1_seat_107
    replace hf := hf0
    refine lv_if_eq (tgt := 94) hx hb dX1_seat_87 (by decide) (fun c23 => ?_) (fun c23 => ?_)
    · have hf := (if_pos c23).symm.trans hf
      refine lv_iconst (v := 0) hx hb dX1_seat_94 (by decide) ?_
      exact j95_18 (7 : Int32) (0 : Int32) hf ls H locs (lv_sub hl [0, 1] rfl) hw
    · have hf := (if_neg c23).symm.trans hf
      refine lv_iconst (v := 1) hx hb dX1_seat_90 (by decide) ?_
      refine lv_goto (tgt := 95) hx hb dX1_seat_91 (by decide) ?_
      exact j95_18 (7 : Int32) (1 : Int32) hf ls H locs (lv_sub hl [0, 1] rfl) hw
  replace hf := hf0
  obtain ⟨k38_24, ek38_24, hf0⟩ := wlet_some hf
  have j38_24 : ∀ (s1_38_24 : Int32) (_ : k38_24 s1_38_24 = some res) (ls : Array Slot) (H : Heap) (locs : List Loc), lv_has ls 5 [(0, .ref (ad 21)), (1, .ref (ad o1)), (2, .int x2), (3, .int x3), (4, .int x4)] → wH WC ad D cy s σ4 H locs → W p l e { frames := 2, cells := 0, slots := 0, locals := 121 } s m [.ref (ad 21), .ref (ad o1), .int x2, .int x3, .int x4].toArray below meth c H locs 0 0 (MQ below (wQv WC ad D cy res) [.ref (ad 21), .ref (ad o1), .int x2, .int x3, .int x4].toArray s 0 0 (wA WC ad)) (F0 m 38 ls [.int s1_38_24, .ref (ad 22)]) := by
    intro s1_38_24 hf ls H locs hl hw
    rw [ek38_24] at hf
    refine lv_iconst (v := 0) hx hb dX1_seat_38 (by decide) ?_
    exact j39_5 s1_38_24 (0 : Int32) hf ls H locs (lv_sub hl [0, 1, 2, 3, 4] rfl) hw
  replace hf := hf0
  refine lv_if_lt (tgt := 38) hx hb dX1_seat_20 (by decide) (fun c25 => ?_) (fun c25 => ?_)
  · have hf := (if_pos c25).symm.trans hf
    exact j38_24 (2 : Int32) hf ls H locs (lv_sub hl [0, 1, 2, 3, 4] rfl) hw
  · have hf := (if_neg c25).symm.trans hf
    refine lv_iload_n hx hb dX1_seat_23 rfl (lv_at hl 2 rfl) ?_
    refine lv_bipush (v := 7) hx hb dX1_seat_24 (by decide) ?_
    refine lv_icmp_ge (tgt := 38) hx hb dX1_seat_26 (by decide) (fun c26 => ?_) (fun c26 => ?_)
    · have hf := (if_pos c26).symm.trans hf
      exact j38_24 (2 : Int32) hf ls H locs (lv_sub hl [0, 1, 2, 3, 4] rfl) hw
    · have hf := (if_neg c26).symm.trans hf
      refine lv_aload_n hx hb dX1_seat_29 rfl (lv_at hl 1 rfl) ?_
      refine gnX6_1 (b := (o1 + 2)) X hw (isSt.s0 ho1) (isSt.n0 ho1) (isSt.r1 ho1) fn_X1_31 dX1_seat_30 ?_
      refine lv_iload_n hx hb dX1_seat_33 rfl (lv_at hl 2 rfl) ?_
      obtain ⟨h27, hf⟩ := if_some hf
      refine wr_iald X hw (isSt.s2 ho1) (isSt.n2 ho1) h27 dX1_seat_34 ?_
      refine lv_goto (tgt := 39) hx hb dX1_seat_35 (by decide) ?_
      exact j39_5 (2 : Int32) (σ4.1 (o1 + 2) (Int32.toNatClampNeg x2)) hf ls H locs (lv_sub hl [0, 1, 2, 3, 4] rfl) hw

def f_X1_reckon (x0 : Int32) (x1 : Int32) (x2 : Int32) : Option (Int32) := if x0 = (2 : Int32) then (some (x1 + x2)) else if x0 = (3 : Int32) then (some (x1 - x2)) else if x0 = (4 : Int32) then (some (x1 * x2)) else (if x2 = 0 then (some (0 : Int32)) else (if x2 = 0 then none else (some (x1 / x2))))
theorem hd_X1_reckon : yX1_reckon.cls ≠ "java/lang/invoke/MethodHandle" ∧ yX1_reckon.cls ≠ "java/lang/invoke/VarHandle" ∧ (parseMethodDescriptor yX1_reckon.desc).map (fun d => d.parameters.length) = some 3 := by decide +kernel
set_option maxRecDepth 100000 in
set_option maxHeartbeats 4000000 in
theorem k_X1_reckon {l : Launch} {ad : Nat → Nat} {D : va_G} {cy : Nat → ClassId} {z : wStr} (hI : wI WC ad) {σ : St} {x0 : Int32} {x1 : Int32} {x2 : Int32}  {res : Int32} (hf : f_X1_reckon x0 x1 x2 = some res) : wC WC ad D cy z l yX1_reckon (Cond.code yX1_reckon cX1_reckon 3 (Option.some Jvm.ClassFile.FieldType.int) :: aw) (1) (100) [.int x0, .int x1, .int x2] σ (wQi WC ad D cy res σ) := by
  unfold f_X1_reckon at hf
  refine wr_start (own := RX1) hI (by decide +kernel) rfl (Nat.le_of_ble_eq_true rfl) rfl ?_
  intro p e s m below meth c ls X hw hr hl
  have hx := X.hx
  have hb := X.hb
  obtain ⟨H, eH⟩ : ∃ H : Heap, H = s.heap := ⟨_, rfl⟩
  obtain ⟨locs, el⟩ : ∃ locs : List Loc, locs = [] := ⟨_, rfl⟩
  rw [← eH, ← el] at hw ⊢
  clear eH el
  replace hl : lv_has ls 3 [(0, .int x0), (1, .int x1), (2, .int x2)] := hl
  refine lv_iload_n hx hb dX1_reckon_0 rfl (lv_at hl 0 rfl) ?_
  by_cases c1 : x0 = (2 : Int32)
  · have hf := (if_pos c1).symm.trans hf
    refine lv_tableIn (tgt := 28) (off := 27) hx hb dX1_reckon_1 (by rw [c1]; decide) (by rw [c1]; decide) (by rw [c1]; rfl) (by decide) ?_
    refine lv_iload_n hx hb dX1_reckon_28 rfl (lv_at hl 1 rfl) ?_
    refine lv_iload_n hx hb dX1_reckon_29 rfl (lv_at hl 2 rfl) ?_
    refine lv_iadd hx hb dX1_reckon_30 ?_
    have er := Option.some.inj hf
    subst er
    exact wr_iret X hw hr (Or.inl rfl) dX1_reckon_31
  have hf := (if_neg c1).symm.trans hf
  by_cases c2 : x0 = (3 : Int32)
  · have hf := (if_pos c2).symm.trans hf
    refine lv_tableIn (tgt := 32) (off := 31) hx hb dX1_reckon_1 (by rw [c2]; decide) (by rw [c2]; decide) (by rw [c2]; rfl) (by decide) ?_
    refine lv_iload_n hx hb dX1_reckon_32 rfl (lv_at hl 1 rfl) ?_
    refine lv_iload_n hx hb dX1_reckon_33 rfl (lv_at hl 2 rfl) ?_
    refine lv_isub hx hb dX1_reckon_34 ?_
    have er := Option.some.inj hf
    subst er
    exact wr_iret X hw hr (Or.inl rfl) dX1_reckon_35
  have hf := (if_neg c2).symm.trans hf
  by_cases c3 : x0 = (4 : Int32)
  · have hf := (if_pos c3).symm.trans hf
    refine lv_tableIn (tgt := 36) (off := 35) hx hb dX1_reckon_1 (by rw [c3]; decide) (by rw [c3]; decide) (by rw [c3]; rfl) (by decide) ?_
    refine lv_iload_n hx hb dX1_reckon_36 rfl (lv_at hl 1 rfl) ?_
    refine lv_iload_n hx hb dX1_reckon_37 rfl (lv_at hl 2 rfl) ?_
    refine lv_imul hx hb dX1_reckon_38 ?_
    have er := Option.some.inj hf
    subst er
    exact wr_iret X hw hr (Or.inl rfl) dX1_reckon_39
  have hf := (if_neg c3).symm.trans hf
  refine lv_tableOut (tgt := 40) hx hb dX1_reckon_1 (sw_out (by decide) (by decide) (fun k h1 h2 => ?_)) (by decide) ?_
  · have h3 : k = 2 ∨ k = 3 ∨ k = 4 := by omega
    rcases h3 with rfl | rfl | rfl
    · exact c1
    · exact c2
    · exact c3
  refine lv_iload_n hx hb dX1_reckon_40 rfl (lv_at hl 2 rfl) ?_
  refine lv_if_ne (tgt := 48) hx hb dX1_reckon_41 (by decide) (fun c4 => ?_) (fun c4 => ?_)
  · have hf := (if_neg c4).symm.trans hf
    refine lv_iload_n hx hb dX1_reckon_48 rfl (lv_at hl 1 rfl) ?_
    refine lv_iload_n hx hb dX1_reckon_49 rfl (lv_at hl 2 rfl) ?_
    obtain ⟨h5, hf⟩ := ifn_some hf
    refine lv_idiv hx hb dX1_reckon_50 h5 ?_
    have er := Option.some.inj hf
    subst er
    exact wr_iret X hw hr (Or.inl rfl) dX1_reckon_51
  · have hf := (if_pos c4).symm.trans hf
    refine lv_iconst (v := 0) hx hb dX1_reckon_44 (by decide) ?_
    refine lv_goto (tgt := 51) hx hb dX1_reckon_45 (by decide) ?_
    have er := Option.some.inj hf
    subst er
    exact wr_iret X hw hr (Or.inl rfl) dX1_reckon_51

def f_X1_lawFor (σ : St) (x1 : Int32) (x2 : Int32) : Option (Int32 × St) := if ib (0 : Int32) 9 = true then wlet (si σ 22 (Int32.toNatClampNeg (0 : Int32)) x2) fun σ2 => wlet (fun (s0_31_3 : Int32) => (wlet (mx (0 : Int32) s0_31_3) fun v4 => wlet (un3 (fun (σ41_5 : St) (x3_41_5 : Int32) (x5_41_5 : Int32) => if (σ41_5.1 4 5) ≤ x5_41_5 then (some (.inr (.inl σ41_5))) else (if (420 : Int32) ≤ x5_41_5 then (some (.inr (.inl σ41_5))) else (if ib x5_41_5 420 = true then wlet ((σ41_5.1 5 (Int32.toNatClampNeg x5_41_5)) &&& (7 : Int32)) fun v9 => if ib x5_41_5 420 = true then wlet ((σ41_5.1 5 (Int32.toNatClampNeg x5_41_5)) >>> ((3 : Int32) &&& 31)) fun v11 => if v9 = (7 : Int32) then (if x3_41_5 ≤ 0 then (some (.inr (.inr ((0 : Int32), σ41_5)))) else (if ib (x3_41_5 - (1 : Int32)) 40 = true then some (.inr (.inr ((σ41_5.1 23 (Int32.toNatClampNeg (x3_41_5 - (1 : Int32)))), σ41_5))) else none)) else (wlet (fun (_ : Unit) => (if (40 : Int32) ≤ x3_41_5 then (some (.inr (.inr ((0 : Int32), σ41_5)))) else (if v11 < 0 then (some (.inr (.inr ((0 : Int32), σ41_5)))) else (wlet (fun (_ : Unit) => (if v9 = 0 then (if ib x3_41_5 40 = true then wlet (si σ41_5 23 (Int32.toNatClampNeg x3_41_5) v11) fun σ24 => wlet (x3_41_5 + (1 : Int32)) fun v25 => wlet (x5_41_5 + (1 : Int32)) fun v26 => some (.inl (σ24, v25, v26)) else none) else (if ib v11 9 = true then if ib x3_41_5 40 = true then wlet (si σ41_5 23 (Int32.toNatClampNeg x3_41_5) (σ41_5.1 22 (Int32.toNatClampNeg v11))) fun σ20 => wlet (x3_41_5 + (1 : Int32)) fun v21 => wlet (x5_41_5 + (1 : Int32)) fun v22 => some (.inl (σ20, v21, v22)) else none else none) : Option ((St × Int32 × Int32) ⊕ ((St) ⊕ (Int32 × St))))) fun k159_16 => if v9 = (1 : Int32) then (if v11 < (9 : Int32) then (k159_16 ()) else (some (.inr (.inr ((0 : Int32), σ41_5))))) else (k159_16 ()))) : Option ((St × Int32 × Int32) ⊕ ((St) ⊕ (Int32 × St))))) fun k130_13 => if v9 = 0 then (k130_13 ()) else (if v9 = (1 : Int32) then (k130_13 ()) else (if (2 : Int32) ≤ x3_41_5 then (wlet (x3_41_5 + (-2 : Int32)) fun v32 => if ib v32 40 = true then wlet (σ41_5.1 23 (Int32.toNatClampNeg v32)) fun v34 => if ib (v32 + (1 : Int32)) 40 = true then wlet (σ41_5.1 23 (Int32.toNatClampNeg (v32 + (1 : Int32)))) fun v36 => if v9 = (6 : Int32) then (if v36 ≤ v34 then (wlet (mx x5_41_5 (v11 - (1 : Int32))) fun v48 => wlet (v48 + (1 : Int32)) fun v49 => some (.inl (σ41_5, v32, v49))) else (wlet (x5_41_5 + (1 : Int32)) fun v50 => some (.inl (σ41_5, v32, v50)))) else (wlet (fun (_ : Unit) => (Option.bind (f_X1_reckon v9 v34 v36) fun v40 => if ib v32 40 = true then wlet (si σ41_5 23 (Int32.toNatClampNeg v32) v40) fun σ42 => wlet (v32 + (1 : Int32)) fun v43 => wlet (x5_41_5 + (1 : Int32)) fun v44 => some (.inl (σ42, v43, v44)) else none : Option ((St × Int32 × Int32) ⊕ ((St) ⊕ (Int32 × St))))) fun k262_38 => if v9 = (5 : Int32) then (if v36 = 0 then (some (.inr (.inr ((0 : Int32), σ41_5)))) else (k262_38 ())) else (k262_38 ())) else none else none) else (some (.inr (.inr ((0 : Int32), σ41_5))))))) else none else none))) : St × Int32 × Int32 → Option ((St × Int32 × Int32) ⊕ ((St) ⊕ (Int32 × St)))) fun st41_5 => Option.bind (lp st41_5 fuel (σ2, (0 : Int32), v4)) (sumk (fun (σe41_5 : St) => some ((0 : Int32), σe41_5)) (fun m => some m)) : Option (Int32 × St))) fun k31_3 => wlet (fun (_ : Unit) => (k31_3 (0 : Int32) : Option (Int32 × St))) fun k30_53 => if x1 < 0 then (k30_53 ()) else (if (4 : Int32) ≤ x1 then (k30_53 ()) else (if ib x1 4 = true then k31_3 (σ2.1 6 (Int32.toNatClampNeg x1)) else none)) else none
theorem hd_X1_lawFor : yX1_lawFor.cls = RX1 ∧ yX1_lawFor.cls ≠ "java/lang/invoke/MethodHandle" ∧ yX1_lawFor.cls ≠ "java/lang/invoke/VarHandle" ∧ (parseMethodDescriptor yX1_lawFor.desc).map (fun d => d.parameters.length) = some 2 := by decide +kernel
set_option maxRecDepth 100000 in
set_option maxHeartbeats 4000000 in
theorem k_X1_lawFor {l : Launch} {ad : Nat → Nat} {D : va_G} {cy : Nat → ClassId} {z : wStr} (hI : wI WC ad) {σ : St} {x1 : Int32} {x2 : Int32}  {res : Int32 × St} (hf : f_X1_lawFor σ x1 x2 = some res) : wC WC ad D cy z l yX1_lawFor (Cond.code yX1_lawFor cX1_lawFor 10 (Option.some Jvm.ClassFile.FieldType.int) :: aw) (2) (122) [.ref (ad 21), .int x1, .int x2] σ (wQi WC ad D cy res.1 res.2) := by
  unfold f_X1_lawFor at hf
  refine wr_start (own := RX1) hI (by decide +kernel) rfl (Nat.le_of_ble_eq_true rfl) rfl ?_
  intro p e s m below meth c ls X hw hr hl
  have hx := X.hx
  have hb := X.hb
  obtain ⟨H, eH⟩ : ∃ H : Heap, H = s.heap := ⟨_, rfl⟩
  obtain ⟨locs, el⟩ : ∃ locs : List Loc, locs = [] := ⟨_, rfl⟩
  rw [← eH, ← el] at hw ⊢
  clear eH el
  replace hl : lv_has ls 10 [(0, .ref (ad 21)), (1, .int x1), (2, .int x2)] := hl
  refine lv_aload_n hx hb dX1_lawFor_0 rfl (lv_at hl 0 rfl) ?_
  refine gX1_1 (b := 22) X hw sC21 nC21 rfl fl_X1_9 dX1_lawFor_1 ?_
  refine lv_iconst (v := 0) hx hb dX1_lawFor_4 (by decide) ?_
  refine lv_iload_n hx hb dX1_lawFor_5 rfl (lv_at hl 2 rfl) ?_
  obtain ⟨h1, hf⟩ := if_some hf
  obtain ⟨σ2, eσ2, hf⟩ := wlet_some hf
  refine wr_iast X hw sC22 nC22 h1 dX1_lawFor_6 (fun H locs hw => ?_)
  replace hw := hw.to eσ2
  refine lv_iconst (v := 0) hx hb dX1_lawFor_7 (by decide) ?_
  refine lv_istore_n (lv' := [(3, .int (0 : Int32)), (0, .ref (ad 21)), (1, .int x1), (2, .int x2)]) hx hb dX1_lawFor_8 rfl hl (by decide) rfl (fun ls hl => ?_)
  refine lv_iload_n hx hb dX1_lawFor_9 rfl (lv_at hl 2 rfl) ?_
  obtain ⟨k31_3, ek31_3, hf0⟩ := wlet_some hf
  have j31_3 : ∀ (s0_31_3 : Int32) (_ : k31_3 s0_31_3 = some res) (ls : Array Slot) (H : Heap) (locs : List Loc), lv_has ls 10 [(0, .ref (ad 21)), (3, .int (0 : Int32))] → wH WC ad D cy s σ2 H locs → W p l e { frames := 2, cells := 0, slots := 0, locals := 122 } s m [.ref (ad 21), .int x1, .int x2].toArray below meth c H locs 0 0 (MQ below (wQi WC ad D cy res.1 res.2) [.ref (ad 21), .int x1, .int x2].toArray s 0 0 (wA WC ad)) (F0 m 31 ls [.int s0_31_3]) := by
    intro s0_31_3 hf ls H locs hl hw
    rw [ek31_3] at hf
    refine lv_istore (lv' := [(4, .int s0_31_3), (0, .ref (ad 21)), (3, .int (0 : Int32))]) hx hb dX1_lawFor_31 hl (by decide) rfl (fun ls hl => ?_)
    refine lv_iconst (v := 0) hx hb dX1_lawFor_33 (by decide) ?_
    refine lv_iload hx hb dX1_lawFor_34 (lv_at hl 0 rfl) ?_
    refine wr_max X hl.1 ml_X1_69 (Nat.le_of_ble_eq_true rfl) (Nat.le_of_ble_eq_true rfl) dX1_lawFor_36 ?_
    obtain ⟨v4, ev4, hf⟩ := wlet_some hf
    refine wr_top ev4 ?_
    refine lv_istore (lv' := [(5, .int v4), (4, .int s0_31_3), (0, .ref (ad 21)), (3, .int (0 : Int32))]) hx hb dX1_lawFor_39 hl (by decide) rfl (fun ls hl => ?_)
    obtain ⟨st41_5, est41_5, hf⟩ := wlet_some hf
    obtain ⟨E41_5, hq41_5, hE41_5⟩ := bind_some hf
    have hx41_5 : ∀ (σe41_5 : St) (_ : Sum.inl σe41_5 = E41_5) (ls : Array Slot) (H : Heap) (locs : List Loc), lv_has ls 10 [] → wH WC ad D cy s σe41_5 H locs → W p l e { frames := 2, cells := 0, slots := 0, locals := 122 } s m [.ref (ad 21), .int x1, .int x2].toArray below meth c H locs 0 0 (MQ below (wQi WC ad D cy res.1 res.2) [.ref (ad 21), .int x1, .int x2].toArray s 0 0 (wA WC ad)) (F0 m 286 ls []) := by
      intro σe41_5 e0 ls H locs hl hw
      have hf := sumk_l hE41_5 e0
      refine lv_iconst (v := 0) hx hb dX1_lawFor_286 (by decide) ?_
      have er := Option.some.inj hf
      subst er
      exact wr_iret X hw hr (Or.inl rfl) dX1_lawFor_287
    have lo41_5 : ∀ (n : Nat) (σ41_5 : St) (x3_41_5 : Int32) (x5_41_5 : Int32) (_ : lp st41_5 n (σ41_5, x3_41_5, x5_41_5) = some E41_5) (ls : Array Slot) (H : Heap) (locs : List Loc), lv_has ls 10 [(0, .ref (ad 21)), (3, .int x3_41_5), (5, .int x5_41_5)] → wH WC ad D cy s σ41_5 H locs → W p l e { frames := 2, cells := 0, slots := 0, locals := 122 } s m [.ref (ad 21), .int x1, .int x2].toArray below meth c H locs 0 0 (MQ below (wQi WC ad D cy res.1 res.2) [.ref (ad 21), .int x1, .int x2].toArray s 0 0 (wA WC ad)) (F0 m 41 ls []) := by
      intro n
      induction n with
      | zero =>
        intro σ41_5 x3_41_5 x5_41_5 hf ls H locs hl hw
        exact (lp_zero hf).elim
      | succ n ih41_5 =>
        intro σ41_5 x3_41_5 x5_41_5 hf ls H locs hl hw
        obtain ⟨q41_5, hf, hz41_5⟩ := lp_succ hf
        rw [est41_5] at hf
        replace hf := un3_some hf
        refine lv_iload hx hb dX1_lawFor_41 (lv_at hl 2 rfl) ?_
        refine lv_aload_n hx hb dX1_lawFor_43 rfl (lv_at hl 0 rfl) ?_
        refine gX1_0 (b := 4) X hw sC21 nC21 rfl fl_X1_21 dX1_lawFor_44 ?_
        refine gnX8_5 X hw sC4 nC4 fn_X1_79 dX1_lawFor_47 ?_
        refine lv_icmp_ge (tgt := 286) hx hb dX1_lawFor_50 (by decide) (fun c6 => ?_) (fun c6 => ?_)
        · have hf := (if_pos c6).symm.trans hf
          exact hx41_5 σ41_5 (lpK_inr (lp_leaf hf hz41_5)) ls H locs (lv_sub hl [] rfl) hw
        · have hf := (if_neg c6).symm.trans hf
          refine lv_iload hx hb dX1_lawFor_53 (lv_at hl 2 rfl) ?_
          refine lv_aload_n hx hb dX1_lawFor_55 rfl (lv_at hl 0 rfl) ?_
          refine gX1_0 (b := 4) X hw sC21 nC21 rfl fl_X1_21 dX1_lawFor_56 ?_
          refine gnX8_0 (b := 5) X hw sC4 nC4 rfl fn_X1_82 dX1_lawFor_59 ?_
          refine wr_alen X hw (t := 0) sC5 nC5 (by decide) (v := 420) (by decide) dX1_lawFor_62 ?_
          refine lv_icmp_ge (tgt := 286) hx hb dX1_lawFor_63 (by decide) (fun c7 => ?_) (fun c7 => ?_)
          · have hf := (if_pos c7).symm.trans hf
            exact hx41_5 σ41_5 (lpK_inr (lp_leaf hf hz41_5)) ls H locs (lv_sub hl [] rfl) hw
          · have hf := (if_neg c7).symm.trans hf
            refine lv_aload_n hx hb dX1_lawFor_66 rfl (lv_at hl 0 rfl) ?_
            refine gX1_0 (b := 4) X hw sC21 nC21 rfl fl_X1_21 dX1_lawFor_67 ?_
            refine gnX8_0 (b := 5) X hw sC4 nC4 rfl fn_X1_82 dX1_lawFor_70 ?_
            refine lv_iload hx hb dX1_lawFor_73 (lv_at hl 2 rfl) ?_
            obtain ⟨h8, hf⟩ := if_some hf
            refine wr_iald X hw sC5 nC5 h8 dX1_lawFor_75 ?_
            refine lv_bipush (v := 7) hx hb dX1_lawFor_76 (by decide) ?_
            refine lv_iand hx hb dX1_lawFor_78 ?_
            obtain ⟨v9, ev9, hf⟩ := wlet_some hf
            refine wr_top ev9 ?_
            refine lv_istore (lv' := [(6, .int v9), (0, .ref (ad 21)), (3, .int x3_41_5), (5, .int x5_41_5)]) hx hb dX1_lawFor_79 hl (by decide) rfl (fun ls hl => ?_)
            refine lv_aload_n hx hb dX1_lawFor_81 rfl (lv_at hl 1 rfl) ?_
            refine gX1_0 (b := 4) X hw sC21 nC21 rfl fl_X1_21 dX1_lawFor_82 ?_
            refine gnX8_0 (b := 5) X hw sC4 nC4 rfl fn_X1_82 dX1_lawFor_85 ?_
            refine lv_iload hx hb dX1_lawFor_88 (lv_at hl 3 rfl) ?_
            obtain ⟨h10, hf⟩ := if_some hf
            refine wr_iald X hw sC5 nC5 h10 dX1_lawFor_90 ?_
            refine lv_iconst (v := 3) hx hb dX1_lawFor_91 (by decide) ?_
            refine lv_ishr hx hb dX1_lawFor_92 ?_
            obtain ⟨v11, ev11, hf⟩ := wlet_some hf
            refine wr_top ev11 ?_
            refine lv_istore (lv' := [(7, .int v11), (6, .int v9), (0, .ref (ad 21)), (3, .int x3_41_5), (5, .int x5_41_5)]) hx hb dX1_lawFor_93 hl (by decide) rfl (fun ls hl => ?_)
            refine lv_iload hx hb dX1_lawFor_95 (lv_at hl 1 rfl) ?_
            refine lv_bipush (v := 7) hx hb dX1_lawFor_97 (by decide) ?_
            refine lv_icmp_ne (tgt := 119) hx hb dX1_lawFor_99 (by decide) (fun c12 => ?_) (fun c12 => ?_)
            · have hf := (if_neg c12).symm.trans hf
              refine lv_iload hx hb dX1_lawFor_119 (lv_at hl 1 rfl) ?_
              obtain ⟨k130_13, ek130_13, hf0⟩ := wlet_some hf
              have j130_13 : ∀ (_ : k130_13 () = some q41_5) (ls : Array Slot) (H : Heap) (locs : List Loc), lv_has ls 10 [(0, .ref (ad 21)), (3, .int x3_41_5), (5, .int x5_41_5), (6, .int v9), (7, .int v11)] → wH WC ad D cy s σ41_5 H locs → W p l e { frames := 2, cells := 0, slots := 0, locals := 122 } s m [.ref (ad 21), .int x1, .int x2].toArray below meth c H locs 0 0 (MQ below (wQi WC ad D cy res.1 res.2) [.ref (ad 21), .int x1, .int x2].toArray s 0 0 (wA WC ad)) (F0 m 130 ls []) := by
                intro  hf ls H locs hl hw
                rw [ek130_13] at hf
                refine lv_iload_n hx hb dX1_lawFor_130 rfl (lv_at hl 1 rfl) ?_
                refine lv_aload_n hx hb dX1_lawFor_131 rfl (lv_at hl 0 rfl) ?_
                refine gX1_2 (b := 23) X hw sC21 nC21 rfl fl_X1_15 dX1_lawFor_132 ?_
                refine wr_alen X hw (t := 0) sC23 nC23 (by decide) (v := 40) (by decide) dX1_lawFor_135 ?_
                refine lv_icmp_ge (tgt := 157) hx hb dX1_lawFor_136 (by decide) (fun c14 => ?_) (fun c14 => ?_)
                · have hf := (if_pos c14).symm.trans hf
                  refine lv_iconst (v := 0) hx hb dX1_lawFor_157 (by decide) ?_
                  have e41_5 := lpK_inr (lp_leaf hf hz41_5)
                  have hf := sumk_r hE41_5 e41_5
                  have er := Option.some.inj hf
                  subst er
                  exact wr_iret X hw hr (Or.inl rfl) dX1_lawFor_158
                · have hf := (if_neg c14).symm.trans hf
                  refine lv_iload hx hb dX1_lawFor_139 (lv_at hl 4 rfl) ?_
                  refine lv_if_lt (tgt := 157) hx hb dX1_lawFor_141 (by decide) (fun c15 => ?_) (fun c15 => ?_)
                  · have hf := (if_pos c15).symm.trans hf
                    refine lv_iconst (v := 0) hx hb dX1_lawFor_157 (by decide) ?_
                    have e41_5 := lpK_inr (lp_leaf hf hz41_5)
                    have hf := sumk_r hE41_5 e41_5
                    have er := Option.some.inj hf
                    subst er
                    exact wr_iret X hw hr (Or.inl rfl) dX1_lawFor_158
                  · have hf := (if_neg c15).symm.trans hf
                    refine lv_iload hx hb dX1_lawFor_144 (lv_at hl 3 rfl) ?_
                    refine lv_iconst (v := 1) hx hb dX1_lawFor_146 (by decide) ?_
                    obtain ⟨k159_16, ek159_16, hf0⟩ := wlet_some hf
                    have j159_16 : ∀ (_ : k159_16 () = some q41_5) (ls : Array Slot) (H : Heap) (locs : List Loc), lv_has ls 10 [(0, .ref (ad 21)), (3, .int x3_41_5), (5, .int x5_41_5), (6, .int v9), (7, .int v11)] → wH WC ad D cy s σ41_5 H locs → W p l e { frames := 2, cells := 0, slots := 0, locals := 122 } s m [.ref (ad 21), .int x1, .int x2].toArray below meth c H locs 0 0 (MQ below (wQi WC ad D cy res.1 res.2) [.ref (ad 21), .int x1, .int x2].toArray s 0 0 (wA WC ad)) (F0 m 159 ls []) := by
                      intro  hf ls H locs hl hw
                      rw [ek159_16] at hf
                      refine lv_aload_n hx hb dX1_lawFor_159 rfl (lv_at hl 0 rfl) ?_
                      refine gX1_2 (b := 23) X hw sC21 nC21 rfl fl_X1_15 dX1_lawFor_160 ?_
                      refine lv_iload_n hx hb dX1_lawFor_163 rfl (lv_at hl 1 rfl) ?_
                      refine lv_iload hx hb dX1_lawFor_164 (lv_at hl 3 rfl) ?_
                      refine lv_if_ne (tgt := 174) hx hb dX1_lawFor_166 (by decide) (fun c17 => ?_) (fun c17 => ?_)
                      · have hf := (if_neg c17).symm.trans hf
                        refine lv_aload_n hx hb dX1_lawFor_174 rfl (lv_at hl 0 rfl) ?_
                        refine gX1_1 (b := 22) X hw sC21 nC21 rfl fl_X1_9 dX1_lawFor_175 ?_
                        refine lv_iload hx hb dX1_lawFor_178 (lv_at hl 4 rfl) ?_
                        obtain ⟨h18, hf⟩ := if_some hf
                        refine wr_iald X hw sC22 nC22 h18 dX1_lawFor_180 ?_
                        obtain ⟨h19, hf⟩ := if_some hf
                        obtain ⟨σ20, eσ20, hf⟩ := wlet_some hf
                        refine wr_iast X hw sC23 nC23 h19 dX1_lawFor_181 (fun H locs hw => ?_)
                        replace hw := hw.to eσ20
                        obtain ⟨v21, ev21, hf⟩ := wlet_some hf
                        refine lv_iinc (v := v21) (lv' := [(3, .int v21), (0, .ref (ad 21)), (5, .int x5_41_5), (6, .int v9), (7, .int v11)]) hx hb dX1_lawFor_182 hl (k := 1) rfl (by rw [ev21]; rfl) (by decide) rfl (fun ls hl => ?_)
                        refine lv_goto (tgt := 280) hx hb dX1_lawFor_185 (by decide) ?_
                        obtain ⟨v22, ev22, hf⟩ := wlet_some hf
                        refine lv_iinc (v := v22) (lv' := [(5, .int v22), (3, .int v21), (0, .ref (ad 21)), (6, .int v9), (7, .int v11)]) hx hb dX1_lawFor_280 hl (k := 2) rfl (by rw [ev22]; rfl) (by decide) rfl (fun ls hl => ?_)
                        refine lv_goto (tgt := 41) hx hb dX1_lawFor_283 (by decide) ?_
                        exact ih41_5 σ20 v21 v22 (lp_leaf hf hz41_5) ls H locs (lv_sub hl [2, 1, 0] rfl) hw
                      · have hf := (if_pos c17).symm.trans hf
                        refine lv_iload hx hb dX1_lawFor_169 (lv_at hl 4 rfl) ?_
                        refine lv_goto (tgt := 181) hx hb dX1_lawFor_171 (by decide) ?_
                        obtain ⟨h23, hf⟩ := if_some hf
                        obtain ⟨σ24, eσ24, hf⟩ := wlet_some hf
                        refine wr_iast X hw sC23 nC23 h23 dX1_lawFor_181 (fun H locs hw => ?_)
                        replace hw := hw.to eσ24
                        obtain ⟨v25, ev25, hf⟩ := wlet_some hf
                        refine lv_iinc (v := v25) (lv' := [(3, .int v25), (0, .ref (ad 21)), (5, .int x5_41_5), (6, .int v9), (7, .int v11)]) hx hb dX1_lawFor_182 hl (k := 1) rfl (by rw [ev25]; rfl) (by decide) rfl (fun ls hl => ?_)
                        refine lv_goto (tgt := 280) hx hb dX1_lawFor_185 (by decide) ?_
                        obtain ⟨v26, ev26, hf⟩ := wlet_some hf
                        refine lv_iinc (v := v26) (lv' := [(5, .int v26), (3, .int v25), (0, .ref (ad 21)), (6, .int v9), (7, .int v11)]) hx hb dX1_lawFor_280 hl (k := 2) rfl (by rw [ev26]; rfl) (by decide) rfl (fun ls hl => ?_)
                        refine lv_goto (tgt := 41) hx hb dX1_lawFor_283 (by decide) ?_
                        exact ih41_5 σ24 v25 v26 (lp_leaf hf hz41_5) ls H locs (lv_sub hl [2, 1, 0] rfl) hw
                    replace hf := hf0
                    refine lv_icmp_ne (tgt := 159) hx hb dX1_lawFor_147 (by decide) (fun c27 => ?_) (fun c27 => ?_)
                    · have hf := (if_neg c27).symm.trans hf
                      exact j159_16 hf ls H locs (lv_sub hl [0, 1, 2, 3, 4] rfl) hw
                    · have hf := (if_pos c27).symm.trans hf
                      refine lv_iload hx hb dX1_lawFor_150 (lv_at hl 4 rfl) ?_
                      refine lv_bipush (v := 9) hx hb dX1_lawFor_152 (by decide) ?_
                      refine lv_icmp_lt (tgt := 159) hx hb dX1_lawFor_154 (by decide) (fun c28 => ?_) (fun c28 => ?_)
                      · have hf := (if_pos c28).symm.trans hf
                        exact j159_16 hf ls H locs (lv_sub hl [0, 1, 2, 3, 4] rfl) hw
                      · have hf := (if_neg c28).symm.trans hf
                        refine lv_iconst (v := 0) hx hb dX1_lawFor_157 (by decide) ?_
                        have e41_5 := lpK_inr (lp_leaf hf hz41_5)
                        have hf := sumk_r hE41_5 e41_5
                        have er := Option.some.inj hf
                        subst er
                        exact wr_iret X hw hr (Or.inl rfl) dX1_lawFor_158
              replace hf := hf0
              refine lv_if_eq (tgt := 130) hx hb dX1_lawFor_121 (by decide) (fun c29 => ?_) (fun c29 => ?_)
              · have hf := (if_pos c29).symm.trans hf
                exact j130_13 hf ls H locs (lv_sub hl [2, 3, 4, 1, 0] rfl) hw
              · have hf := (if_neg c29).symm.trans hf
                refine lv_iload hx hb dX1_lawFor_124 (lv_at hl 1 rfl) ?_
                refine lv_iconst (v := 1) hx hb dX1_lawFor_126 (by decide) ?_
                refine lv_icmp_ne (tgt := 188) hx hb dX1_lawFor_127 (by decide) (fun c30 => ?_) (fun c30 => ?_)
                · have hf := (if_neg c30).symm.trans hf
                  refine lv_iload_n hx hb dX1_lawFor_188 rfl (lv_at hl 3 rfl) ?_
                  refine lv_iconst (v := 2) hx hb dX1_lawFor_189 (by decide) ?_
                  refine lv_icmp_ge (tgt := 195) hx hb dX1_lawFor_190 (by decide) (fun c31 => ?_) (fun c31 => ?_)
                  · have hf := (if_pos c31).symm.trans hf
                    obtain ⟨v32, ev32, hf⟩ := wlet_some hf
                    refine lv_iinc (v := v32) (lv' := [(3, .int v32), (7, .int v11), (6, .int v9), (0, .ref (ad 21)), (5, .int x5_41_5)]) hx hb dX1_lawFor_195 hl (k := 3) rfl (by rw [ev32]; rfl) (by decide) rfl (fun ls hl => ?_)
                    refine lv_aload_n hx hb dX1_lawFor_198 rfl (lv_at hl 3 rfl) ?_
                    refine gX1_2 (b := 23) X hw sC21 nC21 rfl fl_X1_15 dX1_lawFor_199 ?_
                    refine lv_iload_n hx hb dX1_lawFor_202 rfl (lv_at hl 0 rfl) ?_
                    obtain ⟨h33, hf⟩ := if_some hf
                    refine wr_iald X hw sC23 nC23 h33 dX1_lawFor_203 ?_
                    obtain ⟨v34, ev34, hf⟩ := wlet_some hf
                    refine wr_top ev34 ?_
                    refine lv_istore (lv' := [(8, .int v34), (3, .int v32), (7, .int v11), (6, .int v9), (0, .ref (ad 21)), (5, .int x5_41_5)]) hx hb dX1_lawFor_204 hl (by decide) rfl (fun ls hl => ?_)
                    refine lv_aload_n hx hb dX1_lawFor_206 rfl (lv_at hl 4 rfl) ?_
                    refine gX1_2 (b := 23) X hw sC21 nC21 rfl fl_X1_15 dX1_lawFor_207 ?_
                    refine lv_iload_n hx hb dX1_lawFor_210 rfl (lv_at hl 1 rfl) ?_
                    refine lv_iconst (v := 1) hx hb dX1_lawFor_211 (by decide) ?_
                    refine lv_iadd hx hb dX1_lawFor_212 ?_
                    obtain ⟨h35, hf⟩ := if_some hf
                    refine wr_iald X hw sC23 nC23 h35 dX1_lawFor_213 ?_
                    obtain ⟨v36, ev36, hf⟩ := wlet_some hf
                    refine wr_top ev36 ?_
                    refine lv_istore (lv' := [(9, .int v36), (8, .int v34), (3, .int v32), (7, .int v11), (6, .int v9), (0, .ref (ad 21)), (5, .int x5_41_5)]) hx hb dX1_lawFor_214 hl (by decide) rfl (fun ls hl => ?_)
                    refine lv_iload hx hb dX1_lawFor_216 (lv_at hl 4 rfl) ?_
                    refine lv_bipush (v := 6) hx hb dX1_lawFor_218 (by decide) ?_
                    refine lv_icmp_ne (tgt := 249) hx hb dX1_lawFor_220 (by decide) (fun c37 => ?_) (fun c37 => ?_)
                    · have hf := (if_neg c37).symm.trans hf
                      refine lv_iload hx hb dX1_lawFor_249 (lv_at hl 4 rfl) ?_
                      refine lv_iconst (v := 5) hx hb dX1_lawFor_251 (by decide) ?_
                      obtain ⟨k262_38, ek262_38, hf0⟩ := wlet_some hf
                      have j262_38 : ∀ (_ : k262_38 () = some q41_5) (ls : Array Slot) (H : Heap) (locs : List Loc), lv_has ls 10 [(0, .ref (ad 21)), (3, .int v32), (5, .int x5_41_5), (6, .int v9), (8, .int v34), (9, .int v36)] → wH WC ad D cy s σ41_5 H locs → W p l e { frames := 2, cells := 0, slots := 0, locals := 122 } s m [.ref (ad 21), .int x1, .int x2].toArray below meth c H locs 0 0 (MQ below (wQi WC ad D cy res.1 res.2) [.ref (ad 21), .int x1, .int x2].toArray s 0 0 (wA WC ad)) (F0 m 262 ls []) := by
                        intro  hf ls H locs hl hw
                        rw [ek262_38] at hf
                        refine lv_aload_n hx hb dX1_lawFor_262 rfl (lv_at hl 0 rfl) ?_
                        refine gX1_2 (b := 23) X hw sC21 nC21 rfl fl_X1_15 dX1_lawFor_263 ?_
                        refine lv_iload_n hx hb dX1_lawFor_266 rfl (lv_at hl 1 rfl) ?_
                        refine lv_iload hx hb dX1_lawFor_267 (lv_at hl 3 rfl) ?_
                        refine lv_iload hx hb dX1_lawFor_269 (lv_at hl 4 rfl) ?_
                        refine lv_iload hx hb dX1_lawFor_271 (lv_at hl 5 rfl) ?_
                        obtain ⟨v40, hq39, hf⟩ := bind_some hf
                        refine wr_cSi (r := v40) (σ' := σ41_5) (av := [.int v9, .int v34, .int v36]) (rest := [.int v32, .ref (ad 23)]) X hw hl.1 (k_X1_reckon hI hq39) rfl ml_X1_85 st_X1_reckon ini_X1 co_X1_reckon hd_X1_reckon ⟨Nat.le_of_ble_eq_true rfl, Nat.le_of_ble_eq_true rfl⟩ (Nat.le_of_ble_eq_true rfl) dX1_lawFor_273 rfl (fun H locs hw => ?_)
                        obtain ⟨h41, hf⟩ := if_some hf
                        obtain ⟨σ42, eσ42, hf⟩ := wlet_some hf
                        refine wr_iast X hw sC23 nC23 h41 dX1_lawFor_276 (fun H locs hw => ?_)
                        replace hw := hw.to eσ42
                        obtain ⟨v43, ev43, hf⟩ := wlet_some hf
                        refine lv_iinc (v := v43) (lv' := [(3, .int v43), (0, .ref (ad 21)), (5, .int x5_41_5), (6, .int v9), (8, .int v34), (9, .int v36)]) hx hb dX1_lawFor_277 hl (k := 1) rfl (by rw [ev43]; rfl) (by decide) rfl (fun ls hl => ?_)
                        obtain ⟨v44, ev44, hf⟩ := wlet_some hf
                        refine lv_iinc (v := v44) (lv' := [(5, .int v44), (3, .int v43), (0, .ref (ad 21)), (6, .int v9), (8, .int v34), (9, .int v36)]) hx hb dX1_lawFor_280 hl (k := 2) rfl (by rw [ev44]; rfl) (by decide) rfl (fun ls hl => ?_)
                        refine lv_goto (tgt := 41) hx hb dX1_lawFor_283 (by decide) ?_
                        exact ih41_5 σ42 v43 v44 (lp_leaf hf hz41_5) ls H locs (lv_sub hl [2, 1, 0] rfl) hw
                      replace hf := hf0
                      refine lv_icmp_ne (tgt := 262) hx hb dX1_lawFor_252 (by decide) (fun c45 => ?_) (fun c45 => ?_)
                      · have hf := (if_neg c45).symm.trans hf
                        exact j262_38 hf ls H locs (lv_sub hl [5, 2, 6, 4, 1, 0] rfl) hw
                      · have hf := (if_pos c45).symm.trans hf
                        refine lv_iload hx hb dX1_lawFor_255 (lv_at hl 0 rfl) ?_
                        refine lv_if_ne (tgt := 262) hx hb dX1_lawFor_257 (by decide) (fun c46 => ?_) (fun c46 => ?_)
                        · have hf := (if_neg c46).symm.trans hf
                          exact j262_38 hf ls H locs (lv_sub hl [5, 2, 6, 4, 1, 0] rfl) hw
                        · have hf := (if_pos c46).symm.trans hf
                          refine lv_iconst (v := 0) hx hb dX1_lawFor_260 (by decide) ?_
                          have e41_5 := lpK_inr (lp_leaf hf hz41_5)
                          have hf := sumk_r hE41_5 e41_5
                          have er := Option.some.inj hf
                          subst er
                          exact wr_iret X hw hr (Or.inl rfl) dX1_lawFor_261
                    · have hf := (if_pos c37).symm.trans hf
                      refine lv_iload hx hb dX1_lawFor_223 (lv_at hl 1 rfl) ?_
                      refine lv_iload hx hb dX1_lawFor_225 (lv_at hl 0 rfl) ?_
                      refine lv_icmp_ge (tgt := 235) hx hb dX1_lawFor_227 (by decide) (fun c47 => ?_) (fun c47 => ?_)
                      · have hf := (if_pos c47).symm.trans hf
                        refine lv_iload hx hb dX1_lawFor_235 (lv_at hl 6 rfl) ?_
                        refine lv_iload hx hb dX1_lawFor_237 (lv_at hl 3 rfl) ?_
                        refine lv_iconst (v := 1) hx hb dX1_lawFor_239 (by decide) ?_
                        refine lv_isub hx hb dX1_lawFor_240 ?_
                        refine wr_max X hl.1 ml_X1_69 (Nat.le_of_ble_eq_true rfl) (Nat.le_of_ble_eq_true rfl) dX1_lawFor_241 ?_
                        obtain ⟨v48, ev48, hf⟩ := wlet_some hf
                        refine wr_top ev48 ?_
                        refine lv_istore (lv' := [(5, .int v48), (9, .int v36), (8, .int v34), (3, .int v32), (7, .int v11), (6, .int v9), (0, .ref (ad 21))]) hx hb dX1_lawFor_244 hl (by decide) rfl (fun ls hl => ?_)
                        refine lv_goto (tgt := 280) hx hb dX1_lawFor_246 (by decide) ?_
                        obtain ⟨v49, ev49, hf⟩ := wlet_some hf
                        refine lv_iinc (v := v49) (lv' := [(5, .int v49), (9, .int v36), (8, .int v34), (3, .int v32), (7, .int v11), (6, .int v9), (0, .ref (ad 21))]) hx hb dX1_lawFor_280 hl (k := 0) rfl (by rw [ev49]; rfl) (by decide) rfl (fun ls hl => ?_)
                        refine lv_goto (tgt := 41) hx hb dX1_lawFor_283 (by decide) ?_
                        exact ih41_5 σ41_5 v32 v49 (lp_leaf hf hz41_5) ls H locs (lv_sub hl [6, 3, 0] rfl) hw
                      · have hf := (if_neg c47).symm.trans hf
                        refine lv_iload hx hb dX1_lawFor_230 (lv_at hl 6 rfl) ?_
                        refine lv_goto (tgt := 244) hx hb dX1_lawFor_232 (by decide) ?_
                        refine lv_istore (lv' := [(5, .int x5_41_5), (9, .int v36), (8, .int v34), (3, .int v32), (7, .int v11), (6, .int v9), (0, .ref (ad 21))]) hx hb dX1_lawFor_244 hl (by decide) rfl (fun ls hl => ?_)
                        refine lv_goto (tgt := 280) hx hb dX1_lawFor_246 (by decide) ?_
                        obtain ⟨v50, ev50, hf⟩ := wlet_some hf
                        refine lv_iinc (v := v50) (lv' := [(5, .int v50), (9, .int v36), (8, .int v34), (3, .int v32), (7, .int v11), (6, .int v9), (0, .ref (ad 21))]) hx hb dX1_lawFor_280 hl (k := 0) rfl (by rw [ev50]; rfl) (by decide) rfl (fun ls hl => ?_)
                        refine lv_goto (tgt := 41) hx hb dX1_lawFor_283 (by decide) ?_
                        exact ih41_5 σ41_5 v32 v50 (lp_leaf hf hz41_5) ls H locs (lv_sub hl [6, 3, 0] rfl) hw
                  · have hf := (if_neg c31).symm.trans hf
                    refine lv_iconst (v := 0) hx hb dX1_lawFor_193 (by decide) ?_
                    have e41_5 := lpK_inr (lp_leaf hf hz41_5)
                    have hf := sumk_r hE41_5 e41_5
                    have er := Option.some.inj hf
                    subst er
                    exact wr_iret X hw hr (Or.inl rfl) dX1_lawFor_194
                · have hf := (if_pos c30).symm.trans hf
                  exact j130_13 hf ls H locs (lv_sub hl [2, 3, 4, 1, 0] rfl) hw
            · have hf := (if_pos c12).symm.trans hf
              refine lv_iload_n hx hb dX1_lawFor_102 rfl (lv_at hl 3 rfl) ?_
              refine lv_if_le (tgt := 117) hx hb dX1_lawFor_103 (by decide) (fun c51 => ?_) (fun c51 => ?_)
              · have hf := (if_pos c51).symm.trans hf
                refine lv_iconst (v := 0) hx hb dX1_lawFor_117 (by decide) ?_
                have e41_5 := lpK_inr (lp_leaf hf hz41_5)
                have hf := sumk_r hE41_5 e41_5
                have er := Option.some.inj hf
                subst er
                exact wr_iret X hw hr (Or.inl rfl) dX1_lawFor_118
              · have hf := (if_neg c51).symm.trans hf
                refine lv_aload_n hx hb dX1_lawFor_106 rfl (lv_at hl 2 rfl) ?_
                refine gX1_2 (b := 23) X hw sC21 nC21 rfl fl_X1_15 dX1_lawFor_107 ?_
                refine lv_iload_n hx hb dX1_lawFor_110 rfl (lv_at hl 3 rfl) ?_
                refine lv_iconst (v := 1) hx hb dX1_lawFor_111 (by decide) ?_
                refine lv_isub hx hb dX1_lawFor_112 ?_
                obtain ⟨h52, hf⟩ := if_some hf
                refine wr_iald X hw sC23 nC23 h52 dX1_lawFor_113 ?_
                refine lv_goto (tgt := 118) hx hb dX1_lawFor_114 (by decide) ?_
                have e41_5 := lpK_inr (lp_leaf hf hz41_5)
                have hf := sumk_r hE41_5 e41_5
                have er := Option.some.inj hf
                subst er
                exact wr_iret X hw hr (Or.inl rfl) dX1_lawFor_118
    exact lo41_5 fuel σ2 (0 : Int32) v4 hq41_5 ls H locs (lv_sub hl [2, 3, 0] rfl) hw
  replace hf := hf0
  obtain ⟨k30_53, ek30_53, hf0⟩ := wlet_some hf
  have j30_53 : ∀ (_ : k30_53 () = some res) (ls : Array Slot) (H : Heap) (locs : List Loc), lv_has ls 10 [(0, .ref (ad 21)), (3, .int (0 : Int32))] → wH WC ad D cy s σ2 H locs → W p l e { frames := 2, cells := 0, slots := 0, locals := 122 } s m [.ref (ad 21), .int x1, .int x2].toArray below meth c H locs 0 0 (MQ below (wQi WC ad D cy res.1 res.2) [.ref (ad 21), .int x1, .int x2].toArray s 0 0 (wA WC ad)) (F0 m 30 ls []) := by
    intro  hf ls H locs hl hw
    rw [ek30_53] at hf
    refine lv_iconst (v := 0) hx hb dX1_lawFor_30 (by decide) ?_
    exact j31_3 (0 : Int32) hf ls H locs (lv_sub hl [0, 1] rfl) hw
  replace hf := hf0
  refine lv_if_lt (tgt := 30) hx hb dX1_lawFor_10 (by decide) (fun c54 => ?_) (fun c54 => ?_)
  · have hf := (if_pos c54).symm.trans hf
    exact j30_53 hf ls H locs (lv_sub hl [1, 0] rfl) hw
  · have hf := (if_neg c54).symm.trans hf
    refine lv_iload_n hx hb dX1_lawFor_13 rfl (lv_at hl 2 rfl) ?_
    refine lv_iconst (v := 4) hx hb dX1_lawFor_14 (by decide) ?_
    refine lv_icmp_ge (tgt := 30) hx hb dX1_lawFor_15 (by decide) (fun c55 => ?_) (fun c55 => ?_)
    · have hf := (if_pos c55).symm.trans hf
      exact j30_53 hf ls H locs (lv_sub hl [1, 0] rfl) hw
    · have hf := (if_neg c55).symm.trans hf
      refine lv_aload_n hx hb dX1_lawFor_18 rfl (lv_at hl 1 rfl) ?_
      refine gX1_0 (b := 4) X hw sC21 nC21 rfl fl_X1_21 dX1_lawFor_19 ?_
      refine gnX8_1 (b := 6) X hw sC4 nC4 rfl fn_X1_76 dX1_lawFor_22 ?_
      refine lv_iload_n hx hb dX1_lawFor_25 rfl (lv_at hl 2 rfl) ?_
      obtain ⟨h56, hf⟩ := if_some hf
      refine wr_iald X hw sC6 nC6 h56 dX1_lawFor_26 ?_
      refine lv_goto (tgt := 31) hx hb dX1_lawFor_27 (by decide) ?_
      exact j31_3 (σ2.1 6 (Int32.toNatClampNeg x1)) hf ls H locs (lv_sub hl [1, 0] rfl) hw

def f_X1_sentence (σ : St) (x1 : Int32) (x2 : Int32) : Option (Int32 × St) := bnd2 (f_X1_lawFor σ x1 x2) fun v2 σ3 => some ((mx (0 : Int32) (mn (99 : Int32) v2)), σ3)
theorem hd_X1_sentence : yX1_sentence.cls = RX1 ∧ yX1_sentence.cls ≠ "java/lang/invoke/MethodHandle" ∧ yX1_sentence.cls ≠ "java/lang/invoke/VarHandle" ∧ (parseMethodDescriptor yX1_sentence.desc).map (fun d => d.parameters.length) = some 2 := by decide +kernel
set_option maxRecDepth 100000 in
set_option maxHeartbeats 4000000 in
theorem k_X1_sentence {l : Launch} {ad : Nat → Nat} {D : va_G} {cy : Nat → ClassId} {z : wStr} (hI : wI WC ad) {σ : St} {x1 : Int32} {x2 : Int32}  {res : Int32 × St} (hf : f_X1_sentence σ x1 x2 = some res) : wC WC ad D cy z l yX1_sentence (Cond.code yX1_sentence cX1_sentence 3 (Option.some Jvm.ClassFile.FieldType.int) :: aw) (3) (151) [.ref (ad 21), .int x1, .int x2] σ (wQi WC ad D cy res.1 res.2) := by
  unfold f_X1_sentence at hf
  refine wr_start (own := RX1) hI (by decide +kernel) rfl (Nat.le_of_ble_eq_true rfl) rfl ?_
  intro p e s m below meth c ls X hw hr hl
  have hx := X.hx
  have hb := X.hb
  obtain ⟨H, eH⟩ : ∃ H : Heap, H = s.heap := ⟨_, rfl⟩
  obtain ⟨locs, el⟩ : ∃ locs : List Loc, locs = [] := ⟨_, rfl⟩
  rw [← eH, ← el] at hw ⊢
  clear eH el
  replace hl : lv_has ls 3 [(0, .ref (ad 21)), (1, .int x1), (2, .int x2)] := hl
  refine lv_iconst (v := 0) hx hb dX1_sentence_0 (by decide) ?_
  refine lv_bipush (v := 99) hx hb dX1_sentence_1 (by decide) ?_
  refine lv_aload_n hx hb dX1_sentence_3 rfl (lv_at hl 0 rfl) ?_
  refine lv_iload_n hx hb dX1_sentence_4 rfl (lv_at hl 1 rfl) ?_
  refine lv_iload_n hx hb dX1_sentence_5 rfl (lv_at hl 2 rfl) ?_
  obtain ⟨v2, σ3, hq1, hf⟩ := bnd2_some hf
  refine wr_cVi (r := v2) (σ' := σ3) (av := [.int x1, .int x2]) (rest := [.int (99 : Int32), .int (0 : Int32)]) X hw hl.1 sC21 nC21 rfl (k_X1_lawFor hI hq1) rfl ml_X1_60 im_X1_lawFor se_X1_lawFor ini_X1 co_X1_lawFor hd_X1_lawFor ⟨Nat.le_of_ble_eq_true rfl, Nat.le_of_ble_eq_true rfl⟩ (Nat.le_of_ble_eq_true rfl) dX1_sentence_6 rfl (fun H locs hw => ?_)
  refine wr_min X hl.1 ml_X1_64 (Nat.le_of_ble_eq_true rfl) (Nat.le_of_ble_eq_true rfl) dX1_sentence_9 ?_
  refine wr_max X hl.1 ml_X1_69 (Nat.le_of_ble_eq_true rfl) (Nat.le_of_ble_eq_true rfl) dX1_sentence_12 ?_
  have er := Option.some.inj hf
  subst er
  exact wr_iret X hw hr (Or.inl rfl) dX1_sentence_15

def f_X1_due (σ : St) (o1 : Nat) (x2 : Int32) (x3 : Int32) (x4 : Int32) : Option (Int32 × St) := Option.bind (f_X1_seat σ o1 x2 x3 x4) fun σ2 => Option.bind (f_X8_deedOf σ2 4 x2) fun v4 => bnd2 (f_X1_sentence σ2 (0 : Int32) v4) fun v6 σ7 => some (v6, σ7)
theorem hd_X1_due : yX1_due.cls = RX1 ∧ yX1_due.cls ≠ "java/lang/invoke/MethodHandle" ∧ yX1_due.cls ≠ "java/lang/invoke/VarHandle" ∧ (parseMethodDescriptor yX1_due.desc).map (fun d => d.parameters.length) = some 4 := by decide +kernel
set_option maxRecDepth 100000 in
set_option maxHeartbeats 4000000 in
theorem k_X1_due {l : Launch} {ad : Nat → Nat} {D : va_G} {cy : Nat → ClassId} {z : wStr} (hI : wI WC ad) {σ : St} {o1 : Nat} {x2 : Int32} {x3 : Int32} {x4 : Int32} (ho1 : isSt o1) {res : Int32 × St} (hf : f_X1_due σ o1 x2 x3 x4 = some res) : wC WC ad D cy z l yX1_due (Cond.code yX1_due cX1_due 5 (Option.some Jvm.ClassFile.FieldType.int) :: aw) (4) (173) [.ref (ad 21), .ref (ad o1), .int x2, .int x3, .int x4] σ (wQi WC ad D cy res.1 res.2) := by
  unfold f_X1_due at hf
  refine wr_start (own := RX1) hI (by decide +kernel) rfl (Nat.le_of_ble_eq_true rfl) rfl ?_
  intro p e s m below meth c ls X hw hr hl
  have hx := X.hx
  have hb := X.hb
  obtain ⟨H, eH⟩ : ∃ H : Heap, H = s.heap := ⟨_, rfl⟩
  obtain ⟨locs, el⟩ : ∃ locs : List Loc, locs = [] := ⟨_, rfl⟩
  rw [← eH, ← el] at hw ⊢
  clear eH el
  replace hl : lv_has ls 5 [(0, .ref (ad 21)), (1, .ref (ad o1)), (2, .int x2), (3, .int x3), (4, .int x4)] := hl
  refine lv_aload_n hx hb dX1_due_0 rfl (lv_at hl 0 rfl) ?_
  refine lv_aload_n hx hb dX1_due_1 rfl (lv_at hl 1 rfl) ?_
  refine lv_iload_n hx hb dX1_due_2 rfl (lv_at hl 2 rfl) ?_
  refine lv_iload_n hx hb dX1_due_3 rfl (lv_at hl 3 rfl) ?_
  refine lv_iload hx hb dX1_due_4 (lv_at hl 4 rfl) ?_
  obtain ⟨σ2, hq1, hf⟩ := bind_some hf
  refine wr_cVv (σ' := σ2) (av := [.ref (ad o1), .int x2, .int x3, .int x4]) (rest := []) X hw hl.1 sC21 nC21 rfl (k_X1_seat hI ho1 hq1) rfl ml_X1_53 im_X1_seat se_X1_seat ini_X1 co_X1_seat hd_X1_seat ⟨Nat.le_of_ble_eq_true rfl, Nat.le_of_ble_eq_true rfl⟩ (Nat.le_of_ble_eq_true rfl) dX1_due_6 rfl (fun H locs hw => ?_)
  refine lv_aload_n hx hb dX1_due_9 rfl (lv_at hl 0 rfl) ?_
  refine lv_iconst (v := 0) hx hb dX1_due_10 (by decide) ?_
  refine lv_aload_n hx hb dX1_due_11 rfl (lv_at hl 0 rfl) ?_
  refine gX1_0 (b := 4) X hw sC21 nC21 rfl fl_X1_21 dX1_due_12 ?_
  refine lv_iload_n hx hb dX1_due_15 rfl (lv_at hl 2 rfl) ?_
  obtain ⟨v4, hq3, hf⟩ := bind_some hf
  refine wr_cNi (r := v4) (σ' := σ2) (av := [.int x2]) (rest := [.int (0 : Int32), .ref (ad 21)]) X hw hl.1 sC4 nC4 rfl (k_X8_deedOf hI tx_1 hq3) rfl mn_X1_25 im_X8_deedOf se_X8_deedOf ini_X8 co_X8_deedOf hd_X8_deedOf ⟨Nat.le_of_ble_eq_true rfl, Nat.le_of_ble_eq_true rfl⟩ (Nat.le_of_ble_eq_true rfl) dX1_due_16 rfl (fun H locs hw => ?_)
  obtain ⟨v6, σ7, hq5, hf⟩ := bnd2_some hf
  refine wr_cVi (r := v6) (σ' := σ7) (av := [.int (0 : Int32), .int v4]) (rest := []) X hw hl.1 sC21 nC21 rfl (k_X1_sentence hI hq5) rfl ml_X1_96 im_X1_sentence se_X1_sentence ini_X1 co_X1_sentence hd_X1_sentence ⟨Nat.le_of_ble_eq_true rfl, Nat.le_of_ble_eq_true rfl⟩ (Nat.le_of_ble_eq_true rfl) dX1_due_19 rfl (fun H locs hw => ?_)
  have er := Option.some.inj hf
  subst er
  exact wr_iret X hw hr (Or.inl rfl) dX1_due_22

def f_X1_kindOf (σ : St) (o1 : Nat) (x2 : Int32) (x3 : Int32) (x4 : Int32) : Option (Int32) := if x3 = 0 then (some (0 : Int32)) else (Option.bind (f_X8_deedOf σ 4 x4) fun v3 => if v3 = 0 then (some (1 : Int32)) else (Option.bind (f_X8_deedOf σ 4 x2) fun v6 => if v6 ≤ v3 then (if x3 = ((σ.1 o1 3) - (1 : Int32)) then (some (3 : Int32)) else (some (4 : Int32))) else (some (2 : Int32))))
theorem hd_X1_kindOf : yX1_kindOf.cls = RX1 ∧ yX1_kindOf.cls ≠ "java/lang/invoke/MethodHandle" ∧ yX1_kindOf.cls ≠ "java/lang/invoke/VarHandle" ∧ (parseMethodDescriptor yX1_kindOf.desc).map (fun d => d.parameters.length) = some 4 := by decide +kernel
set_option maxRecDepth 100000 in
set_option maxHeartbeats 4000000 in
theorem k_X1_kindOf {l : Launch} {ad : Nat → Nat} {D : va_G} {cy : Nat → ClassId} {z : wStr} (hI : wI WC ad) {σ : St} {o1 : Nat} {x2 : Int32} {x3 : Int32} {x4 : Int32} (ho1 : isSt o1) {res : Int32} (hf : f_X1_kindOf σ o1 x2 x3 x4 = some res) : wC WC ad D cy z l yX1_kindOf (Cond.code yX1_kindOf cX1_kindOf 6 (Option.some Jvm.ClassFile.FieldType.int) :: aw) (2) (121) [.ref (ad 21), .ref (ad o1), .int x2, .int x3, .int x4] σ (wQi WC ad D cy res σ) := by
  unfold f_X1_kindOf at hf
  refine wr_start (own := RX1) hI (by decide +kernel) rfl (Nat.le_of_ble_eq_true rfl) rfl ?_
  intro p e s m below meth c ls X hw hr hl
  have hx := X.hx
  have hb := X.hb
  obtain ⟨H, eH⟩ : ∃ H : Heap, H = s.heap := ⟨_, rfl⟩
  obtain ⟨locs, el⟩ : ∃ locs : List Loc, locs = [] := ⟨_, rfl⟩
  rw [← eH, ← el] at hw ⊢
  clear eH el
  replace hl : lv_has ls 6 [(0, .ref (ad 21)), (1, .ref (ad o1)), (2, .int x2), (3, .int x3), (4, .int x4)] := hl
  refine lv_iload_n hx hb dX1_kindOf_0 rfl (lv_at hl 3 rfl) ?_
  refine lv_if_ne (tgt := 6) hx hb dX1_kindOf_1 (by decide) (fun c1 => ?_) (fun c1 => ?_)
  · have hf := (if_neg c1).symm.trans hf
    refine lv_aload_n hx hb dX1_kindOf_6 rfl (lv_at hl 0 rfl) ?_
    refine gX1_0 (b := 4) X hw sC21 nC21 rfl fl_X1_21 dX1_kindOf_7 ?_
    refine lv_iload hx hb dX1_kindOf_10 (lv_at hl 4 rfl) ?_
    obtain ⟨v3, hq2, hf⟩ := bind_some hf
    refine wr_cNi (r := v3) (σ' := σ) (av := [.int x4]) (rest := []) X hw hl.1 sC4 nC4 rfl (k_X8_deedOf hI tx_1 hq2) rfl mn_X1_25 im_X8_deedOf se_X8_deedOf ini_X8 co_X8_deedOf hd_X8_deedOf ⟨Nat.le_of_ble_eq_true rfl, Nat.le_of_ble_eq_true rfl⟩ (Nat.le_of_ble_eq_true rfl) dX1_kindOf_12 rfl (fun H locs hw => ?_)
    refine lv_istore (lv' := [(5, .int v3), (0, .ref (ad 21)), (1, .ref (ad o1)), (2, .int x2), (3, .int x3), (4, .int x4)]) hx hb dX1_kindOf_15 hl (by decide) rfl (fun ls hl => ?_)
    refine lv_iload hx hb dX1_kindOf_17 (lv_at hl 0 rfl) ?_
    refine lv_if_ne (tgt := 24) hx hb dX1_kindOf_19 (by decide) (fun c4 => ?_) (fun c4 => ?_)
    · have hf := (if_neg c4).symm.trans hf
      refine lv_iload hx hb dX1_kindOf_24 (lv_at hl 0 rfl) ?_
      refine lv_aload_n hx hb dX1_kindOf_26 rfl (lv_at hl 1 rfl) ?_
      refine gX1_0 (b := 4) X hw sC21 nC21 rfl fl_X1_21 dX1_kindOf_27 ?_
      refine lv_iload_n hx hb dX1_kindOf_30 rfl (lv_at hl 3 rfl) ?_
      obtain ⟨v6, hq5, hf⟩ := bind_some hf
      refine wr_cNi (r := v6) (σ' := σ) (av := [.int x2]) (rest := [.int v3]) X hw hl.1 sC4 nC4 rfl (k_X8_deedOf hI tx_1 hq5) rfl mn_X1_25 im_X8_deedOf se_X8_deedOf ini_X8 co_X8_deedOf hd_X8_deedOf ⟨Nat.le_of_ble_eq_true rfl, Nat.le_of_ble_eq_true rfl⟩ (Nat.le_of_ble_eq_true rfl) dX1_kindOf_31 rfl (fun H locs hw => ?_)
      refine lv_icmp_ge (tgt := 39) hx hb dX1_kindOf_34 (by decide) (fun c7 => ?_) (fun c7 => ?_)
      · have hf := (if_pos c7).symm.trans hf
        refine lv_iload_n hx hb dX1_kindOf_39 rfl (lv_at hl 4 rfl) ?_
        refine lv_aload_n hx hb dX1_kindOf_40 rfl (lv_at hl 2 rfl) ?_
        refine gnX6_3 X hw (isSt.s0 ho1) (isSt.n0 ho1) fn_X1_40 dX1_kindOf_41 ?_
        refine lv_iconst (v := 1) hx hb dX1_kindOf_44 (by decide) ?_
        refine lv_isub hx hb dX1_kindOf_45 ?_
        refine lv_icmp_ne (tgt := 53) hx hb dX1_kindOf_46 (by decide) (fun c8 => ?_) (fun c8 => ?_)
        · have hf := (if_neg c8).symm.trans hf
          refine lv_iconst (v := 4) hx hb dX1_kindOf_53 (by decide) ?_
          have er := Option.some.inj hf
          subst er
          exact wr_iret X hw hr (Or.inl rfl) dX1_kindOf_54
        · have hf := (if_pos c8).symm.trans hf
          refine lv_iconst (v := 3) hx hb dX1_kindOf_49 (by decide) ?_
          refine lv_goto (tgt := 54) hx hb dX1_kindOf_50 (by decide) ?_
          have er := Option.some.inj hf
          subst er
          exact wr_iret X hw hr (Or.inl rfl) dX1_kindOf_54
      · have hf := (if_neg c7).symm.trans hf
        refine lv_iconst (v := 2) hx hb dX1_kindOf_37 (by decide) ?_
        have er := Option.some.inj hf
        subst er
        exact wr_iret X hw hr (Or.inl rfl) dX1_kindOf_38
    · have hf := (if_pos c4).symm.trans hf
      refine lv_iconst (v := 1) hx hb dX1_kindOf_22 (by decide) ?_
      have er := Option.some.inj hf
      subst er
      exact wr_iret X hw hr (Or.inl rfl) dX1_kindOf_23
  · have hf := (if_pos c1).symm.trans hf
    refine lv_iconst (v := 0) hx hb dX1_kindOf_4 (by decide) ?_
    have er := Option.some.inj hf
    subst er
    exact wr_iret X hw hr (Or.inl rfl) dX1_kindOf_5

def f_X1_suffering (σ : St) (o1 : Nat) (x2 : Int32) (x3 : Int32) (x4 : Int32) : Option (Int32 × St) := Option.bind (f_X1_kindOf σ o1 x2 x3 x4) fun v2 => if v2 = (1 : Int32) then (some ((0 : Int32), σ)) else (Option.bind (f_X1_seat σ o1 x2 x3 x4) fun σ5 => if v2 = 0 then (bnd2 (f_X1_sentence σ5 (0 : Int32) (σ5.1 o1 5)) fun v27 σ28 => some (v27, σ28)) else (Option.bind (f_X8_deedOf σ5 4 x4) fun v8 => bnd2 (f_X1_sentence σ5 (0 : Int32) v8) fun v10 σ11 => Option.bind (f_X6_isPleading σ11 o1 x4) fun v13 => wlet (fun (σ_91_14 : St) (x6_91_14 : Int32) => (if v2 = (2 : Int32) then (some ((x6_91_14 / (2 : Int32)), σ_91_14)) else (if v2 = (3 : Int32) then (Option.bind (f_X8_deedOf σ_91_14 4 x2) fun v18 => some ((x6_91_14 + (v18 / (4 : Int32))), σ_91_14)) else (some (x6_91_14, σ_91_14))) : Option (Int32 × St))) fun k91_14 => if v13 = 0 then (k91_14 σ11 v10) else (Option.bind (f_X8_deedOf σ11 4 x4) fun v21 => bnd2 (f_X1_sentence σ11 (1 : Int32) v21) fun v23 σ24 => wlet (mx (0 : Int32) (v10 - v23)) fun v25 => k91_14 σ24 v25)))
theorem hd_X1_suffering : yX1_suffering.cls = RX1 ∧ yX1_suffering.cls ≠ "java/lang/invoke/MethodHandle" ∧ yX1_suffering.cls ≠ "java/lang/invoke/VarHandle" ∧ (parseMethodDescriptor yX1_suffering.desc).map (fun d => d.parameters.length) = some 4 := by decide +kernel
set_option maxRecDepth 100000 in
set_option maxHeartbeats 4000000 in
theorem k_X1_suffering {l : Launch} {ad : Nat → Nat} {D : va_G} {cy : Nat → ClassId} {z : wStr} (hI : wI WC ad) {σ : St} {o1 : Nat} {x2 : Int32} {x3 : Int32} {x4 : Int32} (ho1 : isSt o1) {res : Int32 × St} (hf : f_X1_suffering σ o1 x2 x3 x4 = some res) : wC WC ad D cy z l yX1_suffering (Cond.code yX1_suffering cX1_suffering 7 (Option.some Jvm.ClassFile.FieldType.int) :: aw) (4) (173) [.ref (ad 21), .ref (ad o1), .int x2, .int x3, .int x4] σ (wQi WC ad D cy res.1 res.2) := by
  unfold f_X1_suffering at hf
  refine wr_start (own := RX1) hI (by decide +kernel) rfl (Nat.le_of_ble_eq_true rfl) rfl ?_
  intro p e s m below meth c ls X hw hr hl
  have hx := X.hx
  have hb := X.hb
  obtain ⟨H, eH⟩ : ∃ H : Heap, H = s.heap := ⟨_, rfl⟩
  obtain ⟨locs, el⟩ : ∃ locs : List Loc, locs = [] := ⟨_, rfl⟩
  rw [← eH, ← el] at hw ⊢
  clear eH el
  replace hl : lv_has ls 7 [(0, .ref (ad 21)), (1, .ref (ad o1)), (2, .int x2), (3, .int x3), (4, .int x4)] := hl
  refine lv_aload_n hx hb dX1_suffering_0 rfl (lv_at hl 0 rfl) ?_
  refine lv_aload_n hx hb dX1_suffering_1 rfl (lv_at hl 1 rfl) ?_
  refine lv_iload_n hx hb dX1_suffering_2 rfl (lv_at hl 2 rfl) ?_
  refine lv_iload_n hx hb dX1_suffering_3 rfl (lv_at hl 3 rfl) ?_
  refine lv_iload hx hb dX1_suffering_4 (lv_at hl 4 rfl) ?_
  obtain ⟨v2, hq1, hf⟩ := bind_some hf
  refine wr_cVi (r := v2) (σ' := σ) (av := [.ref (ad o1), .int x2, .int x3, .int x4]) (rest := []) X hw hl.1 sC21 nC21 rfl (k_X1_kindOf hI ho1 hq1) rfl ml_X1_89 im_X1_kindOf se_X1_kindOf ini_X1 co_X1_kindOf hd_X1_kindOf ⟨Nat.le_of_ble_eq_true rfl, Nat.le_of_ble_eq_true rfl⟩ (Nat.le_of_ble_eq_true rfl) dX1_suffering_6 rfl (fun H locs hw => ?_)
  refine lv_istore (lv' := [(5, .int v2), (0, .ref (ad 21)), (1, .ref (ad o1)), (2, .int x2), (3, .int x3), (4, .int x4)]) hx hb dX1_suffering_9 hl (by decide) rfl (fun ls hl => ?_)
  refine lv_iload hx hb dX1_suffering_11 (lv_at hl 0 rfl) ?_
  refine lv_iconst (v := 1) hx hb dX1_suffering_13 (by decide) ?_
  refine lv_icmp_ne (tgt := 19) hx hb dX1_suffering_14 (by decide) (fun c3 => ?_) (fun c3 => ?_)
  · have hf := (if_neg c3).symm.trans hf
    refine lv_aload_n hx hb dX1_suffering_19 rfl (lv_at hl 1 rfl) ?_
    refine lv_aload_n hx hb dX1_suffering_20 rfl (lv_at hl 2 rfl) ?_
    refine lv_iload_n hx hb dX1_suffering_21 rfl (lv_at hl 3 rfl) ?_
    refine lv_iload_n hx hb dX1_suffering_22 rfl (lv_at hl 4 rfl) ?_
    refine lv_iload hx hb dX1_suffering_23 (lv_at hl 5 rfl) ?_
    obtain ⟨σ5, hq4, hf⟩ := bind_some hf
    refine wr_cVv (σ' := σ5) (av := [.ref (ad o1), .int x2, .int x3, .int x4]) (rest := []) X hw hl.1 sC21 nC21 rfl (k_X1_seat hI ho1 hq4) rfl ml_X1_53 im_X1_seat se_X1_seat ini_X1 co_X1_seat hd_X1_seat ⟨Nat.le_of_ble_eq_true rfl, Nat.le_of_ble_eq_true rfl⟩ (Nat.le_of_ble_eq_true rfl) dX1_suffering_25 rfl (fun H locs hw => ?_)
    refine lv_iload hx hb dX1_suffering_28 (lv_at hl 0 rfl) ?_
    refine lv_if_ne (tgt := 43) hx hb dX1_suffering_30 (by decide) (fun c6 => ?_) (fun c6 => ?_)
    · have hf := (if_neg c6).symm.trans hf
      refine lv_aload_n hx hb dX1_suffering_43 rfl (lv_at hl 1 rfl) ?_
      refine lv_iconst (v := 0) hx hb dX1_suffering_44 (by decide) ?_
      refine lv_aload_n hx hb dX1_suffering_45 rfl (lv_at hl 1 rfl) ?_
      refine gX1_0 (b := 4) X hw sC21 nC21 rfl fl_X1_21 dX1_suffering_46 ?_
      refine lv_iload hx hb dX1_suffering_49 (lv_at hl 5 rfl) ?_
      obtain ⟨v8, hq7, hf⟩ := bind_some hf
      refine wr_cNi (r := v8) (σ' := σ5) (av := [.int x4]) (rest := [.int (0 : Int32), .ref (ad 21)]) X hw hl.1 sC4 nC4 rfl (k_X8_deedOf hI tx_1 hq7) rfl mn_X1_25 im_X8_deedOf se_X8_deedOf ini_X8 co_X8_deedOf hd_X8_deedOf ⟨Nat.le_of_ble_eq_true rfl, Nat.le_of_ble_eq_true rfl⟩ (Nat.le_of_ble_eq_true rfl) dX1_suffering_51 rfl (fun H locs hw => ?_)
      obtain ⟨v10, σ11, hq9, hf⟩ := bnd2_some hf
      refine wr_cVi (r := v10) (σ' := σ11) (av := [.int (0 : Int32), .int v8]) (rest := []) X hw hl.1 sC21 nC21 rfl (k_X1_sentence hI hq9) rfl ml_X1_96 im_X1_sentence se_X1_sentence ini_X1 co_X1_sentence hd_X1_sentence ⟨Nat.le_of_ble_eq_true rfl, Nat.le_of_ble_eq_true rfl⟩ (Nat.le_of_ble_eq_true rfl) dX1_suffering_54 rfl (fun H locs hw => ?_)
      refine lv_istore (lv' := [(6, .int v10), (5, .int v2), (0, .ref (ad 21)), (1, .ref (ad o1)), (2, .int x2), (3, .int x3), (4, .int x4)]) hx hb dX1_suffering_57 hl (by decide) rfl (fun ls hl => ?_)
      refine lv_aload_n hx hb dX1_suffering_59 rfl (lv_at hl 3 rfl) ?_
      refine lv_iload hx hb dX1_suffering_60 (lv_at hl 6 rfl) ?_
      obtain ⟨v13, hq12, hf⟩ := bind_some hf
      refine wr_cNi (r := v13) (σ' := σ11) (av := [.int x4]) (rest := []) X hw hl.1 (isSt.s0 ho1) (isSt.n0 ho1) rfl (k_X6_isPleading hI ho1 hq12) rfl mn_X1_43 im_X6_isPleading se_X6_isPleading ini_X6 co_X6_isPleading hd_X6_isPleading ⟨Nat.le_of_ble_eq_true rfl, Nat.le_of_ble_eq_true rfl⟩ (Nat.le_of_ble_eq_true rfl) dX1_suffering_62 rfl (fun H locs hw => ?_)
      obtain ⟨k91_14, ek91_14, hf0⟩ := wlet_some hf
      have j91_14 : ∀ (σ_91_14 : St) (x6_91_14 : Int32) (_ : k91_14 σ_91_14 x6_91_14 = some res) (ls : Array Slot) (H : Heap) (locs : List Loc), lv_has ls 7 [(0, .ref (ad 21)), (2, .int x2), (5, .int v2), (6, .int x6_91_14)] → wH WC ad D cy s σ_91_14 H locs → W p l e { frames := 4, cells := 0, slots := 0, locals := 173 } s m [.ref (ad 21), .ref (ad o1), .int x2, .int x3, .int x4].toArray below meth c H locs 0 0 (MQ below (wQi WC ad D cy res.1 res.2) [.ref (ad 21), .ref (ad o1), .int x2, .int x3, .int x4].toArray s 0 0 (wA WC ad)) (F0 m 91 ls []) := by
        intro σ_91_14 x6_91_14 hf ls H locs hl hw
        rw [ek91_14] at hf
        refine lv_iload hx hb dX1_suffering_91 (lv_at hl 2 rfl) ?_
        refine lv_iconst (v := 2) hx hb dX1_suffering_93 (by decide) ?_
        refine lv_icmp_ne (tgt := 102) hx hb dX1_suffering_94 (by decide) (fun c15 => ?_) (fun c15 => ?_)
        · have hf := (if_neg c15).symm.trans hf
          refine lv_iload hx hb dX1_suffering_102 (lv_at hl 2 rfl) ?_
          refine lv_iconst (v := 3) hx hb dX1_suffering_104 (by decide) ?_
          refine lv_icmp_ne (tgt := 124) hx hb dX1_suffering_105 (by decide) (fun c16 => ?_) (fun c16 => ?_)
          · have hf := (if_neg c16).symm.trans hf
            refine lv_iload hx hb dX1_suffering_124 (lv_at hl 3 rfl) ?_
            have er := Option.some.inj hf
            subst er
            exact wr_iret X hw hr (Or.inl rfl) dX1_suffering_126
          · have hf := (if_pos c16).symm.trans hf
            refine lv_iload hx hb dX1_suffering_108 (lv_at hl 3 rfl) ?_
            refine lv_aload_n hx hb dX1_suffering_110 rfl (lv_at hl 0 rfl) ?_
            refine gX1_0 (b := 4) X hw sC21 nC21 rfl fl_X1_21 dX1_suffering_111 ?_
            refine lv_iload_n hx hb dX1_suffering_114 rfl (lv_at hl 1 rfl) ?_
            obtain ⟨v18, hq17, hf⟩ := bind_some hf
            refine wr_cNi (r := v18) (σ' := σ_91_14) (av := [.int x2]) (rest := [.int x6_91_14]) X hw hl.1 sC4 nC4 rfl (k_X8_deedOf hI tx_1 hq17) rfl mn_X1_25 im_X8_deedOf se_X8_deedOf ini_X8 co_X8_deedOf hd_X8_deedOf ⟨Nat.le_of_ble_eq_true rfl, Nat.le_of_ble_eq_true rfl⟩ (Nat.le_of_ble_eq_true rfl) dX1_suffering_115 rfl (fun H locs hw => ?_)
            refine lv_iconst (v := 4) hx hb dX1_suffering_118 (by decide) ?_
            refine lv_idiv hx hb dX1_suffering_119 (by decide) ?_
            refine lv_iadd hx hb dX1_suffering_120 ?_
            refine lv_goto (tgt := 126) hx hb dX1_suffering_121 (by decide) ?_
            have er := Option.some.inj hf
            subst er
            exact wr_iret X hw hr (Or.inl rfl) dX1_suffering_126
        · have hf := (if_pos c15).symm.trans hf
          refine lv_iload hx hb dX1_suffering_97 (lv_at hl 3 rfl) ?_
          refine lv_iconst (v := 2) hx hb dX1_suffering_99 (by decide) ?_
          refine lv_idiv hx hb dX1_suffering_100 (by decide) ?_
          have er := Option.some.inj hf
          subst er
          exact wr_iret X hw hr (Or.inl rfl) dX1_suffering_101
      replace hf := hf0
      refine lv_if_eq (tgt := 91) hx hb dX1_suffering_65 (by decide) (fun c19 => ?_) (fun c19 => ?_)
      · have hf := (if_pos c19).symm.trans hf
        exact j91_14 σ11 v10 hf ls H locs (lv_sub hl [2, 4, 1, 0] rfl) hw
      · have hf := (if_neg c19).symm.trans hf
        refine lv_iconst (v := 0) hx hb dX1_suffering_68 (by decide) ?_
        refine lv_iload hx hb dX1_suffering_69 (lv_at hl 0 rfl) ?_
        refine lv_aload_n hx hb dX1_suffering_71 rfl (lv_at hl 2 rfl) ?_
        refine lv_iconst (v := 1) hx hb dX1_suffering_72 (by decide) ?_
        refine lv_aload_n hx hb dX1_suffering_73 rfl (lv_at hl 2 rfl) ?_
        refine gX1_0 (b := 4) X hw sC21 nC21 rfl fl_X1_21 dX1_suffering_74 ?_
        refine lv_iload hx hb dX1_suffering_77 (lv_at hl 6 rfl) ?_
        obtain ⟨v21, hq20, hf⟩ := bind_some hf
        refine wr_cNi (r := v21) (σ' := σ11) (av := [.int x4]) (rest := [.int (1 : Int32), .ref (ad 21), .int v10, .int (0 : Int32)]) X hw hl.1 sC4 nC4 rfl (k_X8_deedOf hI tx_1 hq20) rfl mn_X1_25 im_X8_deedOf se_X8_deedOf ini_X8 co_X8_deedOf hd_X8_deedOf ⟨Nat.le_of_ble_eq_true rfl, Nat.le_of_ble_eq_true rfl⟩ (Nat.le_of_ble_eq_true rfl) dX1_suffering_79 rfl (fun H locs hw => ?_)
        obtain ⟨v23, σ24, hq22, hf⟩ := bnd2_some hf
        refine wr_cVi (r := v23) (σ' := σ24) (av := [.int (1 : Int32), .int v21]) (rest := [.int v10, .int (0 : Int32)]) X hw hl.1 sC21 nC21 rfl (k_X1_sentence hI hq22) rfl ml_X1_96 im_X1_sentence se_X1_sentence ini_X1 co_X1_sentence hd_X1_sentence ⟨Nat.le_of_ble_eq_true rfl, Nat.le_of_ble_eq_true rfl⟩ (Nat.le_of_ble_eq_true rfl) dX1_suffering_82 rfl (fun H locs hw => ?_)
        refine lv_isub hx hb dX1_suffering_85 ?_
        refine wr_max X hl.1 ml_X1_69 (Nat.le_of_ble_eq_true rfl) (Nat.le_of_ble_eq_true rfl) dX1_suffering_86 ?_
        obtain ⟨v25, ev25, hf⟩ := wlet_some hf
        refine wr_top ev25 ?_
        refine lv_istore (lv' := [(6, .int v25), (5, .int v2), (0, .ref (ad 21)), (1, .ref (ad o1)), (2, .int x2), (3, .int x3), (4, .int x4)]) hx hb dX1_suffering_89 hl (by decide) rfl (fun ls hl => ?_)
        exact j91_14 σ24 v25 hf ls H locs (lv_sub hl [2, 4, 1, 0] rfl) hw
    · have hf := (if_pos c6).symm.trans hf
      refine lv_aload_n hx hb dX1_suffering_33 rfl (lv_at hl 1 rfl) ?_
      refine lv_iconst (v := 0) hx hb dX1_suffering_34 (by decide) ?_
      refine lv_aload_n hx hb dX1_suffering_35 rfl (lv_at hl 2 rfl) ?_
      refine gnX6_5 X hw (isSt.s0 ho1) (isSt.n0 ho1) fn_X1_93 dX1_suffering_36 ?_
      obtain ⟨v27, σ28, hq26, hf⟩ := bnd2_some hf
      refine wr_cVi (r := v27) (σ' := σ28) (av := [.int (0 : Int32), .int (σ5.1 o1 5)]) (rest := []) X hw hl.1 sC21 nC21 rfl (k_X1_sentence hI hq26) rfl ml_X1_96 im_X1_sentence se_X1_sentence ini_X1 co_X1_sentence hd_X1_sentence ⟨Nat.le_of_ble_eq_true rfl, Nat.le_of_ble_eq_true rfl⟩ (Nat.le_of_ble_eq_true rfl) dX1_suffering_39 rfl (fun H locs hw => ?_)
      have er := Option.some.inj hf
      subst er
      exact wr_iret X hw hr (Or.inl rfl) dX1_suffering_42
  · have hf := (if_pos c3).symm.trans hf
    refine lv_iconst (v := 0) hx hb dX1_suffering_17 (by decide) ?_
    have er := Option.some.inj hf
    subst er
    exact wr_iret X hw hr (Or.inl rfl) dX1_suffering_18

def f_X1_sufferingAt (σ : St) (o1 : Nat) (x2 : Int32) : Option (Int32 × St) := Option.bind (f_X6_docketAt σ o1 x2) fun v2 => Option.bind (f_X6_aheadOf σ o1 x2) fun v4 => bnd2 (f_X1_suffering σ o1 v2 x2 v4) fun v6 σ7 => some (v6, σ7)
theorem hd_X1_sufferingAt : yX1_sufferingAt.cls = RX1 ∧ yX1_sufferingAt.cls ≠ "java/lang/invoke/MethodHandle" ∧ yX1_sufferingAt.cls ≠ "java/lang/invoke/VarHandle" ∧ (parseMethodDescriptor yX1_sufferingAt.desc).map (fun d => d.parameters.length) = some 2 := by decide +kernel
set_option maxRecDepth 100000 in
set_option maxHeartbeats 4000000 in
theorem k_X1_sufferingAt {l : Launch} {ad : Nat → Nat} {D : va_G} {cy : Nat → ClassId} {z : wStr} (hI : wI WC ad) {σ : St} {o1 : Nat} {x2 : Int32} (ho1 : isSt o1) {res : Int32 × St} (hf : f_X1_sufferingAt σ o1 x2 = some res) : wC WC ad D cy z l yX1_sufferingAt (Cond.code yX1_sufferingAt cX1_sufferingAt 3 (Option.some Jvm.ClassFile.FieldType.int) :: aw) (5) (199) [.ref (ad 21), .ref (ad o1), .int x2] σ (wQi WC ad D cy res.1 res.2) := by
  unfold f_X1_sufferingAt at hf
  refine wr_start (own := RX1) hI (by decide +kernel) rfl (Nat.le_of_ble_eq_true rfl) rfl ?_
  intro p e s m below meth c ls X hw hr hl
  have hx := X.hx
  have hb := X.hb
  obtain ⟨H, eH⟩ : ∃ H : Heap, H = s.heap := ⟨_, rfl⟩
  obtain ⟨locs, el⟩ : ∃ locs : List Loc, locs = [] := ⟨_, rfl⟩
  rw [← eH, ← el] at hw ⊢
  clear eH el
  replace hl : lv_has ls 3 [(0, .ref (ad 21)), (1, .ref (ad o1)), (2, .int x2)] := hl
  refine lv_aload_n hx hb dX1_sufferingAt_0 rfl (lv_at hl 0 rfl) ?_
  refine lv_aload_n hx hb dX1_sufferingAt_1 rfl (lv_at hl 1 rfl) ?_
  refine lv_aload_n hx hb dX1_sufferingAt_2 rfl (lv_at hl 1 rfl) ?_
  refine lv_iload_n hx hb dX1_sufferingAt_3 rfl (lv_at hl 2 rfl) ?_
  obtain ⟨v2, hq1, hf⟩ := bind_some hf
  refine wr_cNi (r := v2) (σ' := σ) (av := [.int x2]) (rest := [.ref (ad o1), .ref (ad 21)]) X hw hl.1 (isSt.s0 ho1) (isSt.n0 ho1) rfl (k_X6_docketAt hI ho1 hq1) rfl mn_X1_99 im_X6_docketAt se_X6_docketAt ini_X6 co_X6_docketAt hd_X6_docketAt ⟨Nat.le_of_ble_eq_true rfl, Nat.le_of_ble_eq_true rfl⟩ (Nat.le_of_ble_eq_true rfl) dX1_sufferingAt_4 rfl (fun H locs hw => ?_)
  refine lv_iload_n hx hb dX1_sufferingAt_7 rfl (lv_at hl 2 rfl) ?_
  refine lv_aload_n hx hb dX1_sufferingAt_8 rfl (lv_at hl 1 rfl) ?_
  refine lv_iload_n hx hb dX1_sufferingAt_9 rfl (lv_at hl 2 rfl) ?_
  obtain ⟨v4, hq3, hf⟩ := bind_some hf
  refine wr_cNi (r := v4) (σ' := σ) (av := [.int x2]) (rest := [.int x2, .int v2, .ref (ad o1), .ref (ad 21)]) X hw hl.1 (isSt.s0 ho1) (isSt.n0 ho1) rfl (k_X6_aheadOf hI ho1 hq3) rfl mn_X1_57 im_X6_aheadOf se_X6_aheadOf ini_X6 co_X6_aheadOf hd_X6_aheadOf ⟨Nat.le_of_ble_eq_true rfl, Nat.le_of_ble_eq_true rfl⟩ (Nat.le_of_ble_eq_true rfl) dX1_sufferingAt_10 rfl (fun H locs hw => ?_)
  obtain ⟨v6, σ7, hq5, hf⟩ := bnd2_some hf
  refine wr_cVi (r := v6) (σ' := σ7) (av := [.ref (ad o1), .int v2, .int x2, .int v4]) (rest := []) X hw hl.1 sC21 nC21 rfl (k_X1_suffering hI ho1 hq5) rfl ml_X1_102 im_X1_suffering se_X1_suffering ini_X1 co_X1_suffering hd_X1_suffering ⟨Nat.le_of_ble_eq_true rfl, Nat.le_of_ble_eq_true rfl⟩ (Nat.le_of_ble_eq_true rfl) dX1_sufferingAt_13 rfl (fun H locs hw => ?_)
  have er := Option.some.inj hf
  subst er
  exact wr_iret X hw hr (Or.inl rfl) dX1_sufferingAt_16

def f_X1_allSuffering (σ : St) (o1 : Nat) : Option (Int32 × St) := wlet (un3 (fun (σ4_1 : St) (x2_4_1 : Int32) (x3_4_1 : Int32) => if (σ4_1.1 o1 3) ≤ x3_4_1 then (some (.inr (σ4_1, x2_4_1))) else (bnd2 (f_X1_sufferingAt σ4_1 o1 x3_4_1) fun v4 σ5 => wlet (x2_4_1 + v4) fun v6 => wlet (x3_4_1 + (1 : Int32)) fun v7 => some (.inl (σ5, v6, v7)))) : St × Int32 × Int32 → Option ((St × Int32 × Int32) ⊕ (St × Int32))) fun st4_1 => Option.bind (lp st4_1 fuel (σ, (0 : Int32), (0 : Int32))) ((un2 (fun (σe4_1 : St) (x2_e4_1 : Int32) => some (x2_e4_1, σe4_1))))
theorem hd_X1_allSuffering : yX1_allSuffering.cls = RX1 ∧ yX1_allSuffering.cls ≠ "java/lang/invoke/MethodHandle" ∧ yX1_allSuffering.cls ≠ "java/lang/invoke/VarHandle" ∧ (parseMethodDescriptor yX1_allSuffering.desc).map (fun d => d.parameters.length) = some 1 := by decide +kernel
set_option maxRecDepth 100000 in
set_option maxHeartbeats 4000000 in
theorem k_X1_allSuffering {l : Launch} {ad : Nat → Nat} {D : va_G} {cy : Nat → ClassId} {z : wStr} (hI : wI WC ad) {σ : St} {o1 : Nat} (ho1 : isSt o1) {res : Int32 × St} (hf : f_X1_allSuffering σ o1 = some res) : wC WC ad D cy z l yX1_allSuffering (Cond.code yX1_allSuffering cX1_allSuffering 4 (Option.some Jvm.ClassFile.FieldType.int) :: aw) (6) (221) [.ref (ad 21), .ref (ad o1)] σ (wQi WC ad D cy res.1 res.2) := by
  unfold f_X1_allSuffering at hf
  refine wr_start (own := RX1) hI (by decide +kernel) rfl (Nat.le_of_ble_eq_true rfl) rfl ?_
  intro p e s m below meth c ls X hw hr hl
  have hx := X.hx
  have hb := X.hb
  obtain ⟨H, eH⟩ : ∃ H : Heap, H = s.heap := ⟨_, rfl⟩
  obtain ⟨locs, el⟩ : ∃ locs : List Loc, locs = [] := ⟨_, rfl⟩
  rw [← eH, ← el] at hw ⊢
  clear eH el
  replace hl : lv_has ls 4 [(0, .ref (ad 21)), (1, .ref (ad o1))] := hl
  refine lv_iconst (v := 0) hx hb dX1_allSuffering_0 (by decide) ?_
  refine lv_istore_n (lv' := [(2, .int (0 : Int32)), (0, .ref (ad 21)), (1, .ref (ad o1))]) hx hb dX1_allSuffering_1 rfl hl (by decide) rfl (fun ls hl => ?_)
  refine lv_iconst (v := 0) hx hb dX1_allSuffering_2 (by decide) ?_
  refine lv_istore_n (lv' := [(3, .int (0 : Int32)), (2, .int (0 : Int32)), (0, .ref (ad 21)), (1, .ref (ad o1))]) hx hb dX1_allSuffering_3 rfl hl (by decide) rfl (fun ls hl => ?_)
  obtain ⟨st4_1, est4_1, hf⟩ := wlet_some hf
  obtain ⟨E4_1, hq4_1, hE4_1⟩ := bind_some hf
  have hx4_1 : ∀ (σe4_1 : St) (x2_e4_1 : Int32) (_ : (σe4_1, x2_e4_1) = E4_1) (ls : Array Slot) (H : Heap) (locs : List Loc), lv_has ls 4 [(2, .int x2_e4_1)] → wH WC ad D cy s σe4_1 H locs → W p l e { frames := 6, cells := 0, slots := 0, locals := 221 } s m [.ref (ad 21), .ref (ad o1)].toArray below meth c H locs 0 0 (MQ below (wQi WC ad D cy res.1 res.2) [.ref (ad 21), .ref (ad o1)].toArray s 0 0 (wA WC ad)) (F0 m 27 ls []) := by
    intro σe4_1 x2_e4_1 e0 ls H locs hl hw
    subst e0
    have hf := hE4_1
    replace hf := un2_some hf
    refine lv_iload_n hx hb dX1_allSuffering_27 rfl (lv_at hl 0 rfl) ?_
    have er := Option.some.inj hf
    subst er
    exact wr_iret X hw hr (Or.inl rfl) dX1_allSuffering_28
  have lo4_1 : ∀ (n : Nat) (σ4_1 : St) (x2_4_1 : Int32) (x3_4_1 : Int32) (_ : lp st4_1 n (σ4_1, x2_4_1, x3_4_1) = some E4_1) (ls : Array Slot) (H : Heap) (locs : List Loc), lv_has ls 4 [(0, .ref (ad 21)), (1, .ref (ad o1)), (2, .int x2_4_1), (3, .int x3_4_1)] → wH WC ad D cy s σ4_1 H locs → W p l e { frames := 6, cells := 0, slots := 0, locals := 221 } s m [.ref (ad 21), .ref (ad o1)].toArray below meth c H locs 0 0 (MQ below (wQi WC ad D cy res.1 res.2) [.ref (ad 21), .ref (ad o1)].toArray s 0 0 (wA WC ad)) (F0 m 4 ls []) := by
    intro n
    induction n with
    | zero =>
      intro σ4_1 x2_4_1 x3_4_1 hf ls H locs hl hw
      exact (lp_zero hf).elim
    | succ n ih4_1 =>
      intro σ4_1 x2_4_1 x3_4_1 hf ls H locs hl hw
      obtain ⟨q4_1, hf, hz4_1⟩ := lp_succ hf
      rw [est4_1] at hf
      replace hf := un3_some hf
      refine lv_iload_n hx hb dX1_allSuffering_4 rfl (lv_at hl 3 rfl) ?_
      refine lv_aload_n hx hb dX1_allSuffering_5 rfl (lv_at hl 1 rfl) ?_
      refine gnX6_3 X hw (isSt.s0 ho1) (isSt.n0 ho1) fn_X1_40 dX1_allSuffering_6 ?_
      refine lv_icmp_ge (tgt := 27) hx hb dX1_allSuffering_9 (by decide) (fun c2 => ?_) (fun c2 => ?_)
      · have hf := (if_pos c2).symm.trans hf
        exact hx4_1 σ4_1 x2_4_1 (lpK_inr (lp_leaf hf hz4_1)) ls H locs (lv_sub hl [2] rfl) hw
      · have hf := (if_neg c2).symm.trans hf
        refine lv_iload_n hx hb dX1_allSuffering_12 rfl (lv_at hl 2 rfl) ?_
        refine lv_aload_n hx hb dX1_allSuffering_13 rfl (lv_at hl 0 rfl) ?_
        refine lv_aload_n hx hb dX1_allSuffering_14 rfl (lv_at hl 1 rfl) ?_
        refine lv_iload_n hx hb dX1_allSuffering_15 rfl (lv_at hl 3 rfl) ?_
        obtain ⟨v4, σ5, hq3, hf⟩ := bnd2_some hf
        refine wr_cVi (r := v4) (σ' := σ5) (av := [.ref (ad o1), .int x3_4_1]) (rest := [.int x2_4_1]) X hw hl.1 sC21 nC21 rfl (k_X1_sufferingAt hI ho1 hq3) rfl ml_X1_105 im_X1_sufferingAt se_X1_sufferingAt ini_X1 co_X1_sufferingAt hd_X1_sufferingAt ⟨Nat.le_of_ble_eq_true rfl, Nat.le_of_ble_eq_true rfl⟩ (Nat.le_of_ble_eq_true rfl) dX1_allSuffering_16 rfl (fun H locs hw => ?_)
        refine lv_iadd hx hb dX1_allSuffering_19 ?_
        obtain ⟨v6, ev6, hf⟩ := wlet_some hf
        refine wr_top ev6 ?_
        refine lv_istore_n (lv' := [(2, .int v6), (0, .ref (ad 21)), (1, .ref (ad o1)), (3, .int x3_4_1)]) hx hb dX1_allSuffering_20 rfl hl (by decide) rfl (fun ls hl => ?_)
        obtain ⟨v7, ev7, hf⟩ := wlet_some hf
        refine lv_iinc (v := v7) (lv' := [(3, .int v7), (2, .int v6), (0, .ref (ad 21)), (1, .ref (ad o1))]) hx hb dX1_allSuffering_21 hl (k := 3) rfl (by rw [ev7]; rfl) (by decide) rfl (fun ls hl => ?_)
        refine lv_goto (tgt := 4) hx hb dX1_allSuffering_24 (by decide) ?_
        exact ih4_1 σ5 v6 v7 (lp_leaf hf hz4_1) ls H locs (lv_sub hl [2, 3, 1, 0] rfl) hw
  exact lo4_1 fuel σ (0 : Int32) (0 : Int32) hq4_1 ls H locs (lv_sub hl [2, 3, 1, 0] rfl) hw

def f_X1_seatAsListed (σ : St) (o1 : Nat) (x2 : Int32) : Option (St) := Option.bind (f_X6_placeOf σ o1 x2) fun v2 => if v2 = (-1 : Int32) then (Option.bind (f_X1_seat σ o1 x2 (σ.1 o1 3) (-1 : Int32)) fun σ9 => some σ9) else (Option.bind (f_X6_aheadOf σ o1 v2) fun v5 => Option.bind (f_X1_seat σ o1 x2 v2 v5) fun σ7 => some σ7)
theorem hd_X1_seatAsListed : yX1_seatAsListed.cls = RX1 ∧ yX1_seatAsListed.cls ≠ "java/lang/invoke/MethodHandle" ∧ yX1_seatAsListed.cls ≠ "java/lang/invoke/VarHandle" ∧ (parseMethodDescriptor yX1_seatAsListed.desc).map (fun d => d.parameters.length) = some 2 := by decide +kernel
set_option maxRecDepth 100000 in
set_option maxHeartbeats 4000000 in
theorem k_X1_seatAsListed {l : Launch} {ad : Nat → Nat} {D : va_G} {cy : Nat → ClassId} {z : wStr} (hI : wI WC ad) {σ : St} {o1 : Nat} {x2 : Int32} (ho1 : isSt o1) {res : St} (hf : f_X1_seatAsListed σ o1 x2 = some res) : wC WC ad D cy z l yX1_seatAsListed (Cond.code yX1_seatAsListed cX1_seatAsListed 4 (none) :: aw) (3) (145) [.ref (ad 21), .ref (ad o1), .int x2] σ (wQv WC ad D cy res) := by
  unfold f_X1_seatAsListed at hf
  refine wr_start (own := RX1) hI (by decide +kernel) rfl (Nat.le_of_ble_eq_true rfl) rfl ?_
  intro p e s m below meth c ls X hw hr hl
  have hx := X.hx
  have hb := X.hb
  obtain ⟨H, eH⟩ : ∃ H : Heap, H = s.heap := ⟨_, rfl⟩
  obtain ⟨locs, el⟩ : ∃ locs : List Loc, locs = [] := ⟨_, rfl⟩
  rw [← eH, ← el] at hw ⊢
  clear eH el
  replace hl : lv_has ls 4 [(0, .ref (ad 21)), (1, .ref (ad o1)), (2, .int x2)] := hl
  refine lv_aload_n hx hb dX1_seatAsListed_0 rfl (lv_at hl 1 rfl) ?_
  refine lv_iload_n hx hb dX1_seatAsListed_1 rfl (lv_at hl 2 rfl) ?_
  obtain ⟨v2, hq1, hf⟩ := bind_some hf
  refine wr_cNi (r := v2) (σ' := σ) (av := [.int x2]) (rest := []) X hw hl.1 (isSt.s0 ho1) (isSt.n0 ho1) rfl (k_X6_placeOf hI ho1 hq1) rfl mn_X1_50 im_X6_placeOf se_X6_placeOf ini_X6 co_X6_placeOf hd_X6_placeOf ⟨Nat.le_of_ble_eq_true rfl, Nat.le_of_ble_eq_true rfl⟩ (Nat.le_of_ble_eq_true rfl) dX1_seatAsListed_2 rfl (fun H locs hw => ?_)
  refine lv_istore_n (lv' := [(3, .int v2), (0, .ref (ad 21)), (1, .ref (ad o1)), (2, .int x2)]) hx hb dX1_seatAsListed_5 rfl hl (by decide) rfl (fun ls hl => ?_)
  refine lv_iload_n hx hb dX1_seatAsListed_6 rfl (lv_at hl 0 rfl) ?_
  refine lv_iconst (v := -1) hx hb dX1_seatAsListed_7 (by decide) ?_
  refine lv_icmp_ne (tgt := 25) hx hb dX1_seatAsListed_8 (by decide) (fun c3 => ?_) (fun c3 => ?_)
  · have hf := (if_neg c3).symm.trans hf
    refine lv_aload_n hx hb dX1_seatAsListed_25 rfl (lv_at hl 1 rfl) ?_
    refine lv_aload_n hx hb dX1_seatAsListed_26 rfl (lv_at hl 2 rfl) ?_
    refine lv_iload_n hx hb dX1_seatAsListed_27 rfl (lv_at hl 3 rfl) ?_
    refine lv_iload_n hx hb dX1_seatAsListed_28 rfl (lv_at hl 0 rfl) ?_
    refine lv_aload_n hx hb dX1_seatAsListed_29 rfl (lv_at hl 2 rfl) ?_
    refine lv_iload_n hx hb dX1_seatAsListed_30 rfl (lv_at hl 0 rfl) ?_
    obtain ⟨v5, hq4, hf⟩ := bind_some hf
    refine wr_cNi (r := v5) (σ' := σ) (av := [.int v2]) (rest := [.int v2, .int x2, .ref (ad o1), .ref (ad 21)]) X hw hl.1 (isSt.s0 ho1) (isSt.n0 ho1) rfl (k_X6_aheadOf hI ho1 hq4) rfl mn_X1_57 im_X6_aheadOf se_X6_aheadOf ini_X6 co_X6_aheadOf hd_X6_aheadOf ⟨Nat.le_of_ble_eq_true rfl, Nat.le_of_ble_eq_true rfl⟩ (Nat.le_of_ble_eq_true rfl) dX1_seatAsListed_31 rfl (fun H locs hw => ?_)
    obtain ⟨σ7, hq6, hf⟩ := bind_some hf
    refine wr_cVv (σ' := σ7) (av := [.ref (ad o1), .int x2, .int v2, .int v5]) (rest := []) X hw hl.1 sC21 nC21 rfl (k_X1_seat hI ho1 hq6) rfl ml_X1_53 im_X1_seat se_X1_seat ini_X1 co_X1_seat hd_X1_seat ⟨Nat.le_of_ble_eq_true rfl, Nat.le_of_ble_eq_true rfl⟩ (Nat.le_of_ble_eq_true rfl) dX1_seatAsListed_34 rfl (fun H locs hw => ?_)
    have er := Option.some.inj hf
    subst er
    exact wr_vret X hw hr dX1_seatAsListed_37
  · have hf := (if_pos c3).symm.trans hf
    refine lv_aload_n hx hb dX1_seatAsListed_11 rfl (lv_at hl 1 rfl) ?_
    refine lv_aload_n hx hb dX1_seatAsListed_12 rfl (lv_at hl 2 rfl) ?_
    refine lv_iload_n hx hb dX1_seatAsListed_13 rfl (lv_at hl 3 rfl) ?_
    refine lv_aload_n hx hb dX1_seatAsListed_14 rfl (lv_at hl 2 rfl) ?_
    refine gnX6_3 X hw (isSt.s0 ho1) (isSt.n0 ho1) fn_X1_40 dX1_seatAsListed_15 ?_
    refine lv_iconst (v := -1) hx hb dX1_seatAsListed_18 (by decide) ?_
    obtain ⟨σ9, hq8, hf⟩ := bind_some hf
    refine wr_cVv (σ' := σ9) (av := [.ref (ad o1), .int x2, .int (σ.1 o1 3), .int (-1 : Int32)]) (rest := []) X hw hl.1 sC21 nC21 rfl (k_X1_seat hI ho1 hq8) rfl ml_X1_53 im_X1_seat se_X1_seat ini_X1 co_X1_seat hd_X1_seat ⟨Nat.le_of_ble_eq_true rfl, Nat.le_of_ble_eq_true rfl⟩ (Nat.le_of_ble_eq_true rfl) dX1_seatAsListed_19 rfl (fun H locs hw => ?_)
    refine lv_goto (tgt := 37) hx hb dX1_seatAsListed_22 (by decide) ?_
    have er := Option.some.inj hf
    subst er
    exact wr_vret X hw hr dX1_seatAsListed_37

def f_X1_dueAsListed (σ : St) (o1 : Nat) (x2 : Int32) : Option (Int32 × St) := Option.bind (f_X1_seatAsListed σ o1 x2) fun σ2 => Option.bind (f_X8_deedOf σ2 4 x2) fun v4 => bnd2 (f_X1_sentence σ2 (0 : Int32) v4) fun v6 σ7 => some (v6, σ7)
theorem hd_X1_dueAsListed : yX1_dueAsListed.cls = RX1 ∧ yX1_dueAsListed.cls ≠ "java/lang/invoke/MethodHandle" ∧ yX1_dueAsListed.cls ≠ "java/lang/invoke/VarHandle" ∧ (parseMethodDescriptor yX1_dueAsListed.desc).map (fun d => d.parameters.length) = some 2 := by decide +kernel
set_option maxRecDepth 100000 in
set_option maxHeartbeats 4000000 in
theorem k_X1_dueAsListed {l : Launch} {ad : Nat → Nat} {D : va_G} {cy : Nat → ClassId} {z : wStr} (hI : wI WC ad) {σ : St} {o1 : Nat} {x2 : Int32} (ho1 : isSt o1) {res : Int32 × St} (hf : f_X1_dueAsListed σ o1 x2 = some res) : wC WC ad D cy z l yX1_dueAsListed (Cond.code yX1_dueAsListed cX1_dueAsListed 3 (Option.some Jvm.ClassFile.FieldType.int) :: aw) (4) (173) [.ref (ad 21), .ref (ad o1), .int x2] σ (wQi WC ad D cy res.1 res.2) := by
  unfold f_X1_dueAsListed at hf
  refine wr_start (own := RX1) hI (by decide +kernel) rfl (Nat.le_of_ble_eq_true rfl) rfl ?_
  intro p e s m below meth c ls X hw hr hl
  have hx := X.hx
  have hb := X.hb
  obtain ⟨H, eH⟩ : ∃ H : Heap, H = s.heap := ⟨_, rfl⟩
  obtain ⟨locs, el⟩ : ∃ locs : List Loc, locs = [] := ⟨_, rfl⟩
  rw [← eH, ← el] at hw ⊢
  clear eH el
  replace hl : lv_has ls 3 [(0, .ref (ad 21)), (1, .ref (ad o1)), (2, .int x2)] := hl
  refine lv_aload_n hx hb dX1_dueAsListed_0 rfl (lv_at hl 0 rfl) ?_
  refine lv_aload_n hx hb dX1_dueAsListed_1 rfl (lv_at hl 1 rfl) ?_
  refine lv_iload_n hx hb dX1_dueAsListed_2 rfl (lv_at hl 2 rfl) ?_
  obtain ⟨σ2, hq1, hf⟩ := bind_some hf
  refine wr_cVv (σ' := σ2) (av := [.ref (ad o1), .int x2]) (rest := []) X hw hl.1 sC21 nC21 rfl (k_X1_seatAsListed hI ho1 hq1) rfl ml_X1_72 im_X1_seatAsListed se_X1_seatAsListed ini_X1 co_X1_seatAsListed hd_X1_seatAsListed ⟨Nat.le_of_ble_eq_true rfl, Nat.le_of_ble_eq_true rfl⟩ (Nat.le_of_ble_eq_true rfl) dX1_dueAsListed_3 rfl (fun H locs hw => ?_)
  refine lv_aload_n hx hb dX1_dueAsListed_6 rfl (lv_at hl 0 rfl) ?_
  refine lv_iconst (v := 0) hx hb dX1_dueAsListed_7 (by decide) ?_
  refine lv_aload_n hx hb dX1_dueAsListed_8 rfl (lv_at hl 0 rfl) ?_
  refine gX1_0 (b := 4) X hw sC21 nC21 rfl fl_X1_21 dX1_dueAsListed_9 ?_
  refine lv_iload_n hx hb dX1_dueAsListed_12 rfl (lv_at hl 2 rfl) ?_
  obtain ⟨v4, hq3, hf⟩ := bind_some hf
  refine wr_cNi (r := v4) (σ' := σ2) (av := [.int x2]) (rest := [.int (0 : Int32), .ref (ad 21)]) X hw hl.1 sC4 nC4 rfl (k_X8_deedOf hI tx_1 hq3) rfl mn_X1_25 im_X8_deedOf se_X8_deedOf ini_X8 co_X8_deedOf hd_X8_deedOf ⟨Nat.le_of_ble_eq_true rfl, Nat.le_of_ble_eq_true rfl⟩ (Nat.le_of_ble_eq_true rfl) dX1_dueAsListed_13 rfl (fun H locs hw => ?_)
  obtain ⟨v6, σ7, hq5, hf⟩ := bnd2_some hf
  refine wr_cVi (r := v6) (σ' := σ7) (av := [.int (0 : Int32), .int v4]) (rest := []) X hw hl.1 sC21 nC21 rfl (k_X1_sentence hI hq5) rfl ml_X1_96 im_X1_sentence se_X1_sentence ini_X1 co_X1_sentence hd_X1_sentence ⟨Nat.le_of_ble_eq_true rfl, Nat.le_of_ble_eq_true rfl⟩ (Nat.le_of_ble_eq_true rfl) dX1_dueAsListed_16 rfl (fun H locs hw => ?_)
  have er := Option.some.inj hf
  subst er
  exact wr_iret X hw hr (Or.inl rfl) dX1_dueAsListed_19

def f_X1_allDue (σ : St) (o1 : Nat) : Option (Int32 × St) := wlet (un3 (fun (σ4_1 : St) (x2_4_1 : Int32) (x3_4_1 : Int32) => if (σ4_1.1 o1 3) ≤ x3_4_1 then (some (.inr (σ4_1, x2_4_1))) else (Option.bind (f_X6_docketAt σ4_1 o1 x3_4_1) fun v4 => bnd2 (f_X1_dueAsListed σ4_1 o1 v4) fun v6 σ7 => wlet (x2_4_1 + v6) fun v8 => wlet (x3_4_1 + (1 : Int32)) fun v9 => some (.inl (σ7, v8, v9)))) : St × Int32 × Int32 → Option ((St × Int32 × Int32) ⊕ (St × Int32))) fun st4_1 => Option.bind (lp st4_1 fuel (σ, (0 : Int32), (0 : Int32))) ((un2 (fun (σe4_1 : St) (x2_e4_1 : Int32) => some (x2_e4_1, σe4_1))))
theorem hd_X1_allDue : yX1_allDue.cls = RX1 ∧ yX1_allDue.cls ≠ "java/lang/invoke/MethodHandle" ∧ yX1_allDue.cls ≠ "java/lang/invoke/VarHandle" ∧ (parseMethodDescriptor yX1_allDue.desc).map (fun d => d.parameters.length) = some 1 := by decide +kernel
set_option maxRecDepth 100000 in
set_option maxHeartbeats 4000000 in
theorem k_X1_allDue {l : Launch} {ad : Nat → Nat} {D : va_G} {cy : Nat → ClassId} {z : wStr} (hI : wI WC ad) {σ : St} {o1 : Nat} (ho1 : isSt o1) {res : Int32 × St} (hf : f_X1_allDue σ o1 = some res) : wC WC ad D cy z l yX1_allDue (Cond.code yX1_allDue cX1_allDue 4 (Option.some Jvm.ClassFile.FieldType.int) :: aw) (5) (195) [.ref (ad 21), .ref (ad o1)] σ (wQi WC ad D cy res.1 res.2) := by
  unfold f_X1_allDue at hf
  refine wr_start (own := RX1) hI (by decide +kernel) rfl (Nat.le_of_ble_eq_true rfl) rfl ?_
  intro p e s m below meth c ls X hw hr hl
  have hx := X.hx
  have hb := X.hb
  obtain ⟨H, eH⟩ : ∃ H : Heap, H = s.heap := ⟨_, rfl⟩
  obtain ⟨locs, el⟩ : ∃ locs : List Loc, locs = [] := ⟨_, rfl⟩
  rw [← eH, ← el] at hw ⊢
  clear eH el
  replace hl : lv_has ls 4 [(0, .ref (ad 21)), (1, .ref (ad o1))] := hl
  refine lv_iconst (v := 0) hx hb dX1_allDue_0 (by decide) ?_
  refine lv_istore_n (lv' := [(2, .int (0 : Int32)), (0, .ref (ad 21)), (1, .ref (ad o1))]) hx hb dX1_allDue_1 rfl hl (by decide) rfl (fun ls hl => ?_)
  refine lv_iconst (v := 0) hx hb dX1_allDue_2 (by decide) ?_
  refine lv_istore_n (lv' := [(3, .int (0 : Int32)), (2, .int (0 : Int32)), (0, .ref (ad 21)), (1, .ref (ad o1))]) hx hb dX1_allDue_3 rfl hl (by decide) rfl (fun ls hl => ?_)
  obtain ⟨st4_1, est4_1, hf⟩ := wlet_some hf
  obtain ⟨E4_1, hq4_1, hE4_1⟩ := bind_some hf
  have hx4_1 : ∀ (σe4_1 : St) (x2_e4_1 : Int32) (_ : (σe4_1, x2_e4_1) = E4_1) (ls : Array Slot) (H : Heap) (locs : List Loc), lv_has ls 4 [(2, .int x2_e4_1)] → wH WC ad D cy s σe4_1 H locs → W p l e { frames := 5, cells := 0, slots := 0, locals := 195 } s m [.ref (ad 21), .ref (ad o1)].toArray below meth c H locs 0 0 (MQ below (wQi WC ad D cy res.1 res.2) [.ref (ad 21), .ref (ad o1)].toArray s 0 0 (wA WC ad)) (F0 m 31 ls []) := by
    intro σe4_1 x2_e4_1 e0 ls H locs hl hw
    subst e0
    have hf := hE4_1
    replace hf := un2_some hf
    refine lv_iload_n hx hb dX1_allDue_31 rfl (lv_at hl 0 rfl) ?_
    have er := Option.some.inj hf
    subst er
    exact wr_iret X hw hr (Or.inl rfl) dX1_allDue_32
  have lo4_1 : ∀ (n : Nat) (σ4_1 : St) (x2_4_1 : Int32) (x3_4_1 : Int32) (_ : lp st4_1 n (σ4_1, x2_4_1, x3_4_1) = some E4_1) (ls : Array Slot) (H : Heap) (locs : List Loc), lv_has ls 4 [(0, .ref (ad 21)), (1, .ref (ad o1)), (2, .int x2_4_1), (3, .int x3_4_1)] → wH WC ad D cy s σ4_1 H locs → W p l e { frames := 5, cells := 0, slots := 0, locals := 195 } s m [.ref (ad 21), .ref (ad o1)].toArray below meth c H locs 0 0 (MQ below (wQi WC ad D cy res.1 res.2) [.ref (ad 21), .ref (ad o1)].toArray s 0 0 (wA WC ad)) (F0 m 4 ls []) := by
    intro n
    induction n with
    | zero =>
      intro σ4_1 x2_4_1 x3_4_1 hf ls H locs hl hw
      exact (lp_zero hf).elim
    | succ n ih4_1 =>
      intro σ4_1 x2_4_1 x3_4_1 hf ls H locs hl hw
      obtain ⟨q4_1, hf, hz4_1⟩ := lp_succ hf
      rw [est4_1] at hf
      replace hf := un3_some hf
      refine lv_iload_n hx hb dX1_allDue_4 rfl (lv_at hl 3 rfl) ?_
      refine lv_aload_n hx hb dX1_allDue_5 rfl (lv_at hl 1 rfl) ?_
      refine gnX6_3 X hw (isSt.s0 ho1) (isSt.n0 ho1) fn_X1_40 dX1_allDue_6 ?_
      refine lv_icmp_ge (tgt := 31) hx hb dX1_allDue_9 (by decide) (fun c2 => ?_) (fun c2 => ?_)
      · have hf := (if_pos c2).symm.trans hf
        exact hx4_1 σ4_1 x2_4_1 (lpK_inr (lp_leaf hf hz4_1)) ls H locs (lv_sub hl [2] rfl) hw
      · have hf := (if_neg c2).symm.trans hf
        refine lv_iload_n hx hb dX1_allDue_12 rfl (lv_at hl 2 rfl) ?_
        refine lv_aload_n hx hb dX1_allDue_13 rfl (lv_at hl 0 rfl) ?_
        refine lv_aload_n hx hb dX1_allDue_14 rfl (lv_at hl 1 rfl) ?_
        refine lv_aload_n hx hb dX1_allDue_15 rfl (lv_at hl 1 rfl) ?_
        refine lv_iload_n hx hb dX1_allDue_16 rfl (lv_at hl 3 rfl) ?_
        obtain ⟨v4, hq3, hf⟩ := bind_some hf
        refine wr_cNi (r := v4) (σ' := σ4_1) (av := [.int x3_4_1]) (rest := [.ref (ad o1), .ref (ad 21), .int x2_4_1]) X hw hl.1 (isSt.s0 ho1) (isSt.n0 ho1) rfl (k_X6_docketAt hI ho1 hq3) rfl mn_X1_99 im_X6_docketAt se_X6_docketAt ini_X6 co_X6_docketAt hd_X6_docketAt ⟨Nat.le_of_ble_eq_true rfl, Nat.le_of_ble_eq_true rfl⟩ (Nat.le_of_ble_eq_true rfl) dX1_allDue_17 rfl (fun H locs hw => ?_)
        obtain ⟨v6, σ7, hq5, hf⟩ := bnd2_some hf
        refine wr_cVi (r := v6) (σ' := σ7) (av := [.ref (ad o1), .int v4]) (rest := [.int x2_4_1]) X hw hl.1 sC21 nC21 rfl (k_X1_dueAsListed hI ho1 hq5) rfl ml_X1_109 im_X1_dueAsListed se_X1_dueAsListed ini_X1 co_X1_dueAsListed hd_X1_dueAsListed ⟨Nat.le_of_ble_eq_true rfl, Nat.le_of_ble_eq_true rfl⟩ (Nat.le_of_ble_eq_true rfl) dX1_allDue_20 rfl (fun H locs hw => ?_)
        refine lv_iadd hx hb dX1_allDue_23 ?_
        obtain ⟨v8, ev8, hf⟩ := wlet_some hf
        refine wr_top ev8 ?_
        refine lv_istore_n (lv' := [(2, .int v8), (0, .ref (ad 21)), (1, .ref (ad o1)), (3, .int x3_4_1)]) hx hb dX1_allDue_24 rfl hl (by decide) rfl (fun ls hl => ?_)
        obtain ⟨v9, ev9, hf⟩ := wlet_some hf
        refine lv_iinc (v := v9) (lv' := [(3, .int v9), (2, .int v8), (0, .ref (ad 21)), (1, .ref (ad o1))]) hx hb dX1_allDue_25 hl (k := 3) rfl (by rw [ev9]; rfl) (by decide) rfl (fun ls hl => ?_)
        refine lv_goto (tgt := 4) hx hb dX1_allDue_28 (by decide) ?_
        exact ih4_1 σ7 v8 v9 (lp_leaf hf hz4_1) ls H locs (lv_sub hl [2, 3, 1, 0] rfl) hw
  exact lo4_1 fuel σ (0 : Int32) (0 : Int32) hq4_1 ls H locs (lv_sub hl [2, 3, 1, 0] rfl) hw

def f_X1_worstSuffering (σ : St) (o1 : Nat) : Option (Int32 × St) := wlet (un3 (fun (σ4_1 : St) (x2_4_1 : Int32) (x3_4_1 : Int32) => if (σ4_1.1 o1 3) ≤ x3_4_1 then (some (.inr (σ4_1, x2_4_1))) else (bnd2 (f_X1_sufferingAt σ4_1 o1 x3_4_1) fun v4 σ5 => wlet (mx x2_4_1 v4) fun v6 => wlet (x3_4_1 + (1 : Int32)) fun v7 => some (.inl (σ5, v6, v7)))) : St × Int32 × Int32 → Option ((St × Int32 × Int32) ⊕ (St × Int32))) fun st4_1 => Option.bind (lp st4_1 fuel (σ, (0 : Int32), (0 : Int32))) ((un2 (fun (σe4_1 : St) (x2_e4_1 : Int32) => some (x2_e4_1, σe4_1))))
theorem hd_X1_worstSuffering : yX1_worstSuffering.cls = RX1 ∧ yX1_worstSuffering.cls ≠ "java/lang/invoke/MethodHandle" ∧ yX1_worstSuffering.cls ≠ "java/lang/invoke/VarHandle" ∧ (parseMethodDescriptor yX1_worstSuffering.desc).map (fun d => d.parameters.length) = some 1 := by decide +kernel
set_option maxRecDepth 100000 in
set_option maxHeartbeats 4000000 in
theorem k_X1_worstSuffering {l : Launch} {ad : Nat → Nat} {D : va_G} {cy : Nat → ClassId} {z : wStr} (hI : wI WC ad) {σ : St} {o1 : Nat} (ho1 : isSt o1) {res : Int32 × St} (hf : f_X1_worstSuffering σ o1 = some res) : wC WC ad D cy z l yX1_worstSuffering (Cond.code yX1_worstSuffering cX1_worstSuffering 4 (Option.some Jvm.ClassFile.FieldType.int) :: aw) (6) (221) [.ref (ad 21), .ref (ad o1)] σ (wQi WC ad D cy res.1 res.2) := by
  unfold f_X1_worstSuffering at hf
  refine wr_start (own := RX1) hI (by decide +kernel) rfl (Nat.le_of_ble_eq_true rfl) rfl ?_
  intro p e s m below meth c ls X hw hr hl
  have hx := X.hx
  have hb := X.hb
  obtain ⟨H, eH⟩ : ∃ H : Heap, H = s.heap := ⟨_, rfl⟩
  obtain ⟨locs, el⟩ : ∃ locs : List Loc, locs = [] := ⟨_, rfl⟩
  rw [← eH, ← el] at hw ⊢
  clear eH el
  replace hl : lv_has ls 4 [(0, .ref (ad 21)), (1, .ref (ad o1))] := hl
  refine lv_iconst (v := 0) hx hb dX1_worstSuffering_0 (by decide) ?_
  refine lv_istore_n (lv' := [(2, .int (0 : Int32)), (0, .ref (ad 21)), (1, .ref (ad o1))]) hx hb dX1_worstSuffering_1 rfl hl (by decide) rfl (fun ls hl => ?_)
  refine lv_iconst (v := 0) hx hb dX1_worstSuffering_2 (by decide) ?_
  refine lv_istore_n (lv' := [(3, .int (0 : Int32)), (2, .int (0 : Int32)), (0, .ref (ad 21)), (1, .ref (ad o1))]) hx hb dX1_worstSuffering_3 rfl hl (by decide) rfl (fun ls hl => ?_)
  obtain ⟨st4_1, est4_1, hf⟩ := wlet_some hf
  obtain ⟨E4_1, hq4_1, hE4_1⟩ := bind_some hf
  have hx4_1 : ∀ (σe4_1 : St) (x2_e4_1 : Int32) (_ : (σe4_1, x2_e4_1) = E4_1) (ls : Array Slot) (H : Heap) (locs : List Loc), lv_has ls 4 [(2, .int x2_e4_1)] → wH WC ad D cy s σe4_1 H locs → W p l e { frames := 6, cells := 0, slots := 0, locals := 221 } s m [.ref (ad 21), .ref (ad o1)].toArray below meth c H locs 0 0 (MQ below (wQi WC ad D cy res.1 res.2) [.ref (ad 21), .ref (ad o1)].toArray s 0 0 (wA WC ad)) (F0 m 29 ls []) := by
    intro σe4_1 x2_e4_1 e0 ls H locs hl hw
    subst e0
    have hf := hE4_1
    replace hf := un2_some hf
    refine lv_iload_n hx hb dX1_worstSuffering_29 rfl (lv_at hl 0 rfl) ?_
    have er := Option.some.inj hf
    subst er
    exact wr_iret X hw hr (Or.inl rfl) dX1_worstSuffering_30
  have lo4_1 : ∀ (n : Nat) (σ4_1 : St) (x2_4_1 : Int32) (x3_4_1 : Int32) (_ : lp st4_1 n (σ4_1, x2_4_1, x3_4_1) = some E4_1) (ls : Array Slot) (H : Heap) (locs : List Loc), lv_has ls 4 [(0, .ref (ad 21)), (1, .ref (ad o1)), (2, .int x2_4_1), (3, .int x3_4_1)] → wH WC ad D cy s σ4_1 H locs → W p l e { frames := 6, cells := 0, slots := 0, locals := 221 } s m [.ref (ad 21), .ref (ad o1)].toArray below meth c H locs 0 0 (MQ below (wQi WC ad D cy res.1 res.2) [.ref (ad 21), .ref (ad o1)].toArray s 0 0 (wA WC ad)) (F0 m 4 ls []) := by
    intro n
    induction n with
    | zero =>
      intro σ4_1 x2_4_1 x3_4_1 hf ls H locs hl hw
      exact (lp_zero hf).elim
    | succ n ih4_1 =>
      intro σ4_1 x2_4_1 x3_4_1 hf ls H locs hl hw
      obtain ⟨q4_1, hf, hz4_1⟩ := lp_succ hf
      rw [est4_1] at hf
      replace hf := un3_some hf
      refine lv_iload_n hx hb dX1_worstSuffering_4 rfl (lv_at hl 3 rfl) ?_
      refine lv_aload_n hx hb dX1_worstSuffering_5 rfl (lv_at hl 1 rfl) ?_
      refine gnX6_3 X hw (isSt.s0 ho1) (isSt.n0 ho1) fn_X1_40 dX1_worstSuffering_6 ?_
      refine lv_icmp_ge (tgt := 29) hx hb dX1_worstSuffering_9 (by decide) (fun c2 => ?_) (fun c2 => ?_)
      · have hf := (if_pos c2).symm.trans hf
        exact hx4_1 σ4_1 x2_4_1 (lpK_inr (lp_leaf hf hz4_1)) ls H locs (lv_sub hl [2] rfl) hw
      · have hf := (if_neg c2).symm.trans hf
        refine lv_iload_n hx hb dX1_worstSuffering_12 rfl (lv_at hl 2 rfl) ?_
        refine lv_aload_n hx hb dX1_worstSuffering_13 rfl (lv_at hl 0 rfl) ?_
        refine lv_aload_n hx hb dX1_worstSuffering_14 rfl (lv_at hl 1 rfl) ?_
        refine lv_iload_n hx hb dX1_worstSuffering_15 rfl (lv_at hl 3 rfl) ?_
        obtain ⟨v4, σ5, hq3, hf⟩ := bnd2_some hf
        refine wr_cVi (r := v4) (σ' := σ5) (av := [.ref (ad o1), .int x3_4_1]) (rest := [.int x2_4_1]) X hw hl.1 sC21 nC21 rfl (k_X1_sufferingAt hI ho1 hq3) rfl ml_X1_105 im_X1_sufferingAt se_X1_sufferingAt ini_X1 co_X1_sufferingAt hd_X1_sufferingAt ⟨Nat.le_of_ble_eq_true rfl, Nat.le_of_ble_eq_true rfl⟩ (Nat.le_of_ble_eq_true rfl) dX1_worstSuffering_16 rfl (fun H locs hw => ?_)
        refine wr_max X hl.1 ml_X1_69 (Nat.le_of_ble_eq_true rfl) (Nat.le_of_ble_eq_true rfl) dX1_worstSuffering_19 ?_
        obtain ⟨v6, ev6, hf⟩ := wlet_some hf
        refine wr_top ev6 ?_
        refine lv_istore_n (lv' := [(2, .int v6), (0, .ref (ad 21)), (1, .ref (ad o1)), (3, .int x3_4_1)]) hx hb dX1_worstSuffering_22 rfl hl (by decide) rfl (fun ls hl => ?_)
        obtain ⟨v7, ev7, hf⟩ := wlet_some hf
        refine lv_iinc (v := v7) (lv' := [(3, .int v7), (2, .int v6), (0, .ref (ad 21)), (1, .ref (ad o1))]) hx hb dX1_worstSuffering_23 hl (k := 3) rfl (by rw [ev7]; rfl) (by decide) rfl (fun ls hl => ?_)
        refine lv_goto (tgt := 4) hx hb dX1_worstSuffering_26 (by decide) ?_
        exact ih4_1 σ5 v6 v7 (lp_leaf hf hz4_1) ls H locs (lv_sub hl [2, 3, 1, 0] rfl) hw
  exact lo4_1 fuel σ (0 : Int32) (0 : Int32) hq4_1 ls H locs (lv_sub hl [2, 3, 1, 0] rfl) hw

def f_X1_chanceOfAdjourning (σ : St) (o1 : Nat) (x2 : Int32) : Option (Int32 × St) := Option.bind (f_X1_seatAsListed σ o1 x2) fun σ2 => Option.bind (f_X8_deedOf σ2 4 x2) fun v4 => bnd2 (f_X1_lawFor σ2 (3 : Int32) v4) fun v6 σ7 => some ((mx (0 : Int32) (mn (100 : Int32) v6)), σ7)
theorem hd_X1_chanceOfAdjourning : yX1_chanceOfAdjourning.cls = RX1 ∧ yX1_chanceOfAdjourning.cls ≠ "java/lang/invoke/MethodHandle" ∧ yX1_chanceOfAdjourning.cls ≠ "java/lang/invoke/VarHandle" ∧ (parseMethodDescriptor yX1_chanceOfAdjourning.desc).map (fun d => d.parameters.length) = some 2 := by decide +kernel
set_option maxRecDepth 100000 in
set_option maxHeartbeats 4000000 in
theorem k_X1_chanceOfAdjourning {l : Launch} {ad : Nat → Nat} {D : va_G} {cy : Nat → ClassId} {z : wStr} (hI : wI WC ad) {σ : St} {o1 : Nat} {x2 : Int32} (ho1 : isSt o1) {res : Int32 × St} (hf : f_X1_chanceOfAdjourning σ o1 x2 = some res) : wC WC ad D cy z l yX1_chanceOfAdjourning (Cond.code yX1_chanceOfAdjourning cX1_chanceOfAdjourning 3 (Option.some Jvm.ClassFile.FieldType.int) :: aw) (4) (168) [.ref (ad 21), .ref (ad o1), .int x2] σ (wQi WC ad D cy res.1 res.2) := by
  unfold f_X1_chanceOfAdjourning at hf
  refine wr_start (own := RX1) hI (by decide +kernel) rfl (Nat.le_of_ble_eq_true rfl) rfl ?_
  intro p e s m below meth c ls X hw hr hl
  have hx := X.hx
  have hb := X.hb
  obtain ⟨H, eH⟩ : ∃ H : Heap, H = s.heap := ⟨_, rfl⟩
  obtain ⟨locs, el⟩ : ∃ locs : List Loc, locs = [] := ⟨_, rfl⟩
  rw [← eH, ← el] at hw ⊢
  clear eH el
  replace hl : lv_has ls 3 [(0, .ref (ad 21)), (1, .ref (ad o1)), (2, .int x2)] := hl
  refine lv_aload_n hx hb dX1_chanceOfAdjourning_0 rfl (lv_at hl 0 rfl) ?_
  refine lv_aload_n hx hb dX1_chanceOfAdjourning_1 rfl (lv_at hl 1 rfl) ?_
  refine lv_iload_n hx hb dX1_chanceOfAdjourning_2 rfl (lv_at hl 2 rfl) ?_
  obtain ⟨σ2, hq1, hf⟩ := bind_some hf
  refine wr_cVv (σ' := σ2) (av := [.ref (ad o1), .int x2]) (rest := []) X hw hl.1 sC21 nC21 rfl (k_X1_seatAsListed hI ho1 hq1) rfl ml_X1_72 im_X1_seatAsListed se_X1_seatAsListed ini_X1 co_X1_seatAsListed hd_X1_seatAsListed ⟨Nat.le_of_ble_eq_true rfl, Nat.le_of_ble_eq_true rfl⟩ (Nat.le_of_ble_eq_true rfl) dX1_chanceOfAdjourning_3 rfl (fun H locs hw => ?_)
  refine lv_iconst (v := 0) hx hb dX1_chanceOfAdjourning_6 (by decide) ?_
  refine lv_bipush (v := 100) hx hb dX1_chanceOfAdjourning_7 (by decide) ?_
  refine lv_aload_n hx hb dX1_chanceOfAdjourning_9 rfl (lv_at hl 0 rfl) ?_
  refine lv_iconst (v := 3) hx hb dX1_chanceOfAdjourning_10 (by decide) ?_
  refine lv_aload_n hx hb dX1_chanceOfAdjourning_11 rfl (lv_at hl 0 rfl) ?_
  refine gX1_0 (b := 4) X hw sC21 nC21 rfl fl_X1_21 dX1_chanceOfAdjourning_12 ?_
  refine lv_iload_n hx hb dX1_chanceOfAdjourning_15 rfl (lv_at hl 2 rfl) ?_
  obtain ⟨v4, hq3, hf⟩ := bind_some hf
  refine wr_cNi (r := v4) (σ' := σ2) (av := [.int x2]) (rest := [.int (3 : Int32), .ref (ad 21), .int (100 : Int32), .int (0 : Int32)]) X hw hl.1 sC4 nC4 rfl (k_X8_deedOf hI tx_1 hq3) rfl mn_X1_25 im_X8_deedOf se_X8_deedOf ini_X8 co_X8_deedOf hd_X8_deedOf ⟨Nat.le_of_ble_eq_true rfl, Nat.le_of_ble_eq_true rfl⟩ (Nat.le_of_ble_eq_true rfl) dX1_chanceOfAdjourning_16 rfl (fun H locs hw => ?_)
  obtain ⟨v6, σ7, hq5, hf⟩ := bnd2_some hf
  refine wr_cVi (r := v6) (σ' := σ7) (av := [.int (3 : Int32), .int v4]) (rest := [.int (100 : Int32), .int (0 : Int32)]) X hw hl.1 sC21 nC21 rfl (k_X1_lawFor hI hq5) rfl ml_X1_60 im_X1_lawFor se_X1_lawFor ini_X1 co_X1_lawFor hd_X1_lawFor ⟨Nat.le_of_ble_eq_true rfl, Nat.le_of_ble_eq_true rfl⟩ (Nat.le_of_ble_eq_true rfl) dX1_chanceOfAdjourning_19 rfl (fun H locs hw => ?_)
  refine wr_min X hl.1 ml_X1_64 (Nat.le_of_ble_eq_true rfl) (Nat.le_of_ble_eq_true rfl) dX1_chanceOfAdjourning_22 ?_
  refine wr_max X hl.1 ml_X1_69 (Nat.le_of_ble_eq_true rfl) (Nat.le_of_ble_eq_true rfl) dX1_chanceOfAdjourning_25 ?_
  have er := Option.some.inj hf
  subst er
  exact wr_iret X hw hr (Or.inl rfl) dX1_chanceOfAdjourning_28

def f_X1_mix (x0 : Int32) (x1 : Int32) : Option (Int32) := wlet (((x0 ^^^ x1) * (1103515245 : Int32)) + (12345 : Int32)) fun v1 => some (v1 ^^^ (usr v1 (15 : Int32)))
theorem hd_X1_mix : yX1_mix.cls ≠ "java/lang/invoke/MethodHandle" ∧ yX1_mix.cls ≠ "java/lang/invoke/VarHandle" ∧ (parseMethodDescriptor yX1_mix.desc).map (fun d => d.parameters.length) = some 2 := by decide +kernel
set_option maxRecDepth 100000 in
set_option maxHeartbeats 4000000 in
theorem k_X1_mix {l : Launch} {ad : Nat → Nat} {D : va_G} {cy : Nat → ClassId} {z : wStr} (hI : wI WC ad) {σ : St} {x0 : Int32} {x1 : Int32}  {res : Int32} (hf : f_X1_mix x0 x1 = some res) : wC WC ad D cy z l yX1_mix (Cond.code yX1_mix cX1_mix 3 (Option.some Jvm.ClassFile.FieldType.int) :: aw) (1) (100) [.int x0, .int x1] σ (wQi WC ad D cy res σ) := by
  unfold f_X1_mix at hf
  refine wr_start (own := RX1) hI (by decide +kernel) rfl (Nat.le_of_ble_eq_true rfl) rfl ?_
  intro p e s m below meth c ls X hw hr hl
  have hx := X.hx
  have hb := X.hb
  obtain ⟨H, eH⟩ : ∃ H : Heap, H = s.heap := ⟨_, rfl⟩
  obtain ⟨locs, el⟩ : ∃ locs : List Loc, locs = [] := ⟨_, rfl⟩
  rw [← eH, ← el] at hw ⊢
  clear eH el
  replace hl : lv_has ls 3 [(0, .int x0), (1, .int x1)] := hl
  refine lv_iload_n hx hb dX1_mix_0 rfl (lv_at hl 0 rfl) ?_
  refine lv_iload_n hx hb dX1_mix_1 rfl (lv_at hl 1 rfl) ?_
  refine lv_ixor hx hb dX1_mix_2 ?_
  refine lv_ldc (v := 1103515245) hx hb X.ow (X.tw kc_X1_143) dX1_mix_3 ?_
  refine lv_imul hx hb dX1_mix_5 ?_
  refine lv_sipush (v := 12345) hx hb dX1_mix_6 (by decide) ?_
  refine lv_iadd hx hb dX1_mix_9 ?_
  obtain ⟨v1, ev1, hf⟩ := wlet_some hf
  refine wr_top ev1 ?_
  refine lv_istore_n (lv' := [(2, .int v1), (0, .int x0), (1, .int x1)]) hx hb dX1_mix_10 rfl hl (by decide) rfl (fun ls hl => ?_)
  refine lv_iload_n hx hb dX1_mix_11 rfl (lv_at hl 0 rfl) ?_
  refine lv_iload_n hx hb dX1_mix_12 rfl (lv_at hl 0 rfl) ?_
  refine lv_bipush (v := 15) hx hb dX1_mix_13 (by decide) ?_
  refine lv_iushr hx hb dX1_mix_15 (v := usr v1 (15 : Int32)) rfl ?_
  refine lv_ixor hx hb dX1_mix_16 ?_
  have er := Option.some.inj hf
  subst er
  exact wr_iret X hw hr (Or.inl rfl) dX1_mix_17

def f_X1_lot (x0 : Int32) (x1 : Int32) : Option (Int32) := Option.bind (f_X1_mix x0 (221 : Int32)) fun v2 => Option.bind (f_X1_mix v2 x1) fun v4 => some ((usr v4 (1 : Int32)) - (usr v4 (1 : Int32)) / (100 : Int32) * (100 : Int32))
theorem hd_X1_lot : yX1_lot.cls ≠ "java/lang/invoke/MethodHandle" ∧ yX1_lot.cls ≠ "java/lang/invoke/VarHandle" ∧ (parseMethodDescriptor yX1_lot.desc).map (fun d => d.parameters.length) = some 2 := by decide +kernel
set_option maxRecDepth 100000 in
set_option maxHeartbeats 4000000 in
theorem k_X1_lot {l : Launch} {ad : Nat → Nat} {D : va_G} {cy : Nat → ClassId} {z : wStr} (hI : wI WC ad) {σ : St} {x0 : Int32} {x1 : Int32}  {res : Int32} (hf : f_X1_lot x0 x1 = some res) : wC WC ad D cy z l yX1_lot (Cond.code yX1_lot cX1_lot 3 (Option.some Jvm.ClassFile.FieldType.int) :: aw) (2) (122) [.int x0, .int x1] σ (wQi WC ad D cy res σ) := by
  unfold f_X1_lot at hf
  refine wr_start (own := RX1) hI (by decide +kernel) rfl (Nat.le_of_ble_eq_true rfl) rfl ?_
  intro p e s m below meth c ls X hw hr hl
  have hx := X.hx
  have hb := X.hb
  obtain ⟨H, eH⟩ : ∃ H : Heap, H = s.heap := ⟨_, rfl⟩
  obtain ⟨locs, el⟩ : ∃ locs : List Loc, locs = [] := ⟨_, rfl⟩
  rw [← eH, ← el] at hw ⊢
  clear eH el
  replace hl : lv_has ls 3 [(0, .int x0), (1, .int x1)] := hl
  refine lv_iload_n hx hb dX1_lot_0 rfl (lv_at hl 0 rfl) ?_
  refine lv_sipush (v := 221) hx hb dX1_lot_1 (by decide) ?_
  obtain ⟨v2, hq1, hf⟩ := bind_some hf
  refine wr_cSi (r := v2) (σ' := σ) (av := [.int x0, .int (221 : Int32)]) (rest := []) X hw hl.1 (k_X1_mix hI hq1) rfl ml_X1_140 st_X1_mix ini_X1 co_X1_mix hd_X1_mix ⟨Nat.le_of_ble_eq_true rfl, Nat.le_of_ble_eq_true rfl⟩ (Nat.le_of_ble_eq_true rfl) dX1_lot_4 rfl (fun H locs hw => ?_)
  refine lv_iload_n hx hb dX1_lot_7 rfl (lv_at hl 1 rfl) ?_
  obtain ⟨v4, hq3, hf⟩ := bind_some hf
  refine wr_cSi (r := v4) (σ' := σ) (av := [.int v2, .int x1]) (rest := []) X hw hl.1 (k_X1_mix hI hq3) rfl ml_X1_140 st_X1_mix ini_X1 co_X1_mix hd_X1_mix ⟨Nat.le_of_ble_eq_true rfl, Nat.le_of_ble_eq_true rfl⟩ (Nat.le_of_ble_eq_true rfl) dX1_lot_8 rfl (fun H locs hw => ?_)
  refine lv_istore_n (lv' := [(2, .int v4), (0, .int x0), (1, .int x1)]) hx hb dX1_lot_11 rfl hl (by decide) rfl (fun ls hl => ?_)
  refine lv_iload_n hx hb dX1_lot_12 rfl (lv_at hl 0 rfl) ?_
  refine lv_iconst (v := 1) hx hb dX1_lot_13 (by decide) ?_
  refine lv_iushr hx hb dX1_lot_14 (v := usr v4 (1 : Int32)) rfl ?_
  refine lv_bipush (v := 100) hx hb dX1_lot_15 (by decide) ?_
  refine lv_irem hx hb dX1_lot_17 (by decide) ?_
  have er := Option.some.inj hf
  subst er
  exact wr_iret X hw hr (Or.inl rfl) dX1_lot_18

def f_X1_sitOnce (σ : St) (o1 : Nat) (x2 : Int32) : Option (St) := wlet (un3 (fun (σ5_1 : St) (x3_5_1 : Int32) (x4_5_1 : Int32) => if (σ5_1.1 o1 3) ≤ x4_5_1 then (some (.inr (σ5_1, x3_5_1))) else (if (7 : Int32) ≤ x4_5_1 then (some (.inr (σ5_1, x3_5_1))) else (Option.bind (f_X6_docketAt σ5_1 o1 x4_5_1) fun v30 => Option.bind (f_X6_aheadOf σ5_1 o1 x4_5_1) fun v32 => bnd2 (f_X1_suffering σ5_1 o1 v30 x4_5_1 v32) fun v34 σ35 => if ib x4_5_1 7 = true then wlet (si σ35 24 (Int32.toNatClampNeg x4_5_1) v34) fun σ37 => Option.bind (f_X1_lot x2 (((8 : Int32) * (σ37.1 o1 6)) + v30)) fun v39 => bnd2 (f_X1_chanceOfAdjourning σ37 o1 v30) fun v41 σ42 => if v41 ≤ v39 then (wlet (x4_5_1 + (1 : Int32)) fun v44 => some (.inl (σ42, x3_5_1, v44))) else (wlet (x3_5_1 ||| ((1 : Int32) <<< (x4_5_1 &&& 31))) fun v45 => wlet (x4_5_1 + (1 : Int32)) fun v46 => some (.inl (σ42, v45, v46))) else none))) : St × Int32 × Int32 → Option ((St × Int32 × Int32) ⊕ (St × Int32))) fun st5_1 => Option.bind (lp st5_1 fuel (σ, (0 : Int32), (0 : Int32))) ((un2 (fun (σe5_1 : St) (x3_e5_1 : Int32) => wlet (σe5_1.1 o1 3) fun v2 => wlet (si σe5_1 o1 3 (0 : Int32)) fun σ3 => wlet (un2 (fun (σ102_4 : St) (x5_102_4 : Int32) => if v2 ≤ x5_102_4 then (some (.inr σ102_4)) else (if (7 : Int32) ≤ x5_102_4 then (some (.inr σ102_4)) else (if ib x5_102_4 7 = true then wlet (σ102_4.1 (o1 + 1) (Int32.toNatClampNeg x5_102_4)) fun v10 => if ((x3_e5_1 >>> (x5_102_4 &&& 31)) &&& (1 : Int32)) = (1 : Int32) then (Option.bind (f_X6_append σ102_4 o1 v10) fun σ25 => wlet (x5_102_4 + (1 : Int32)) fun v26 => some (.inl (σ25, v26))) else (Option.bind (f_X8_has σ102_4 4 v10) fun v13 => if v13 = 0 then (wlet (x5_102_4 + (1 : Int32)) fun v15 => some (.inl (σ102_4, v15))) else (if ib v10 7 = true then if ib x5_102_4 7 = true then if ib v10 7 = true then wlet (si σ102_4 (o1 + 3) (Int32.toNatClampNeg v10) ((σ102_4.1 (o1 + 3) (Int32.toNatClampNeg v10)) + (σ102_4.1 24 (Int32.toNatClampNeg x5_102_4)))) fun σ19 => if ib v10 7 = true then wlet (si σ19 o1 5 (σ19.1 7 (Int32.toNatClampNeg v10))) fun σ21 => wlet (si σ21 o1 7 ((σ21.1 o1 7) + (1 : Int32))) fun σ22 => wlet (x5_102_4 + (1 : Int32)) fun v23 => some (.inl (σ22, v23)) else none else none else none else none)) else none))) : St × Int32 → Option ((St × Int32) ⊕ (St))) fun st102_4 => Option.bind (lp st102_4 fuel (σ3, (0 : Int32))) ((fun (σe102_4 : St) => wlet (si σe102_4 o1 4 (0 : Int32)) fun σ5 => wlet (si σ5 o1 6 ((σ5.1 o1 6) + (1 : Int32))) fun σ6 => some σ6)))))
theorem hd_X1_sitOnce : yX1_sitOnce.cls = RX1 ∧ yX1_sitOnce.cls ≠ "java/lang/invoke/MethodHandle" ∧ yX1_sitOnce.cls ≠ "java/lang/invoke/VarHandle" ∧ (parseMethodDescriptor yX1_sitOnce.desc).map (fun d => d.parameters.length) = some 2 := by decide +kernel
set_option maxRecDepth 100000 in
set_option maxHeartbeats 4000000 in
theorem k_X1_sitOnce {l : Launch} {ad : Nat → Nat} {D : va_G} {cy : Nat → ClassId} {z : wStr} (hI : wI WC ad) {σ : St} {o1 : Nat} {x2 : Int32} (ho1 : isSt o1) {res : St} (hf : f_X1_sitOnce σ o1 x2 = some res) : wC WC ad D cy z l yX1_sitOnce (Cond.code yX1_sitOnce cX1_sitOnce 7 (none) :: aw) (5) (199) [.ref (ad 21), .ref (ad o1), .int x2] σ (wQv WC ad D cy res) := by
  unfold f_X1_sitOnce at hf
  refine wr_start (own := RX1) hI (by decide +kernel) rfl (Nat.le_of_ble_eq_true rfl) rfl ?_
  intro p e s m below meth c ls X hw hr hl
  have hx := X.hx
  have hb := X.hb
  obtain ⟨H, eH⟩ : ∃ H : Heap, H = s.heap := ⟨_, rfl⟩
  obtain ⟨locs, el⟩ : ∃ locs : List Loc, locs = [] := ⟨_, rfl⟩
  rw [← eH, ← el] at hw ⊢
  clear eH el
  replace hl : lv_has ls 7 [(0, .ref (ad 21)), (1, .ref (ad o1)), (2, .int x2)] := hl
  refine lv_iconst (v := 0) hx hb dX1_sitOnce_0 (by decide) ?_
  refine lv_istore_n (lv' := [(3, .int (0 : Int32)), (0, .ref (ad 21)), (1, .ref (ad o1)), (2, .int x2)]) hx hb dX1_sitOnce_1 rfl hl (by decide) rfl (fun ls hl => ?_)
  refine lv_iconst (v := 0) hx hb dX1_sitOnce_2 (by decide) ?_
  refine lv_istore (lv' := [(4, .int (0 : Int32)), (3, .int (0 : Int32)), (0, .ref (ad 21)), (1, .ref (ad o1)), (2, .int x2)]) hx hb dX1_sitOnce_3 hl (by decide) rfl (fun ls hl => ?_)
  obtain ⟨st5_1, est5_1, hf⟩ := wlet_some hf
  obtain ⟨E5_1, hq5_1, hE5_1⟩ := bind_some hf
  have hx5_1 : ∀ (σe5_1 : St) (x3_e5_1 : Int32) (_ : (σe5_1, x3_e5_1) = E5_1) (ls : Array Slot) (H : Heap) (locs : List Loc), lv_has ls 7 [(0, .ref (ad 21)), (1, .ref (ad o1)), (3, .int x3_e5_1)] → wH WC ad D cy s σe5_1 H locs → W p l e { frames := 5, cells := 0, slots := 0, locals := 199 } s m [.ref (ad 21), .ref (ad o1), .int x2].toArray below meth c H locs 0 0 (MQ below (wQv WC ad D cy res) [.ref (ad 21), .ref (ad o1), .int x2].toArray s 0 0 (wA WC ad)) (F0 m 88 ls []) := by
    intro σe5_1 x3_e5_1 e0 ls H locs hl hw
    subst e0
    have hf := hE5_1
    replace hf := un2_some hf
    refine lv_aload_n hx hb dX1_sitOnce_88 rfl (lv_at hl 1 rfl) ?_
    refine gnX6_3 X hw (isSt.s0 ho1) (isSt.n0 ho1) fn_X1_40 dX1_sitOnce_89 ?_
    obtain ⟨v2, ev2, hf⟩ := wlet_some hf
    refine wr_top ev2 ?_
    refine lv_istore (lv' := [(4, .int v2), (0, .ref (ad 21)), (1, .ref (ad o1)), (3, .int x3_e5_1)]) hx hb dX1_sitOnce_92 hl (by decide) rfl (fun ls hl => ?_)
    refine lv_aload_n hx hb dX1_sitOnce_94 rfl (lv_at hl 2 rfl) ?_
    refine lv_iconst (v := 0) hx hb dX1_sitOnce_95 (by decide) ?_
    obtain ⟨σ3, eσ3, hf⟩ := wlet_some hf
    refine pnX6_3 X hw (isSt.s0 ho1) (isSt.n0 ho1) fn_X1_40 dX1_sitOnce_96 (fun H locs hw => ?_)
    replace hw := hw.to eσ3
    refine lv_iconst (v := 0) hx hb dX1_sitOnce_99 (by decide) ?_
    refine lv_istore (lv' := [(5, .int (0 : Int32)), (4, .int v2), (0, .ref (ad 21)), (1, .ref (ad o1)), (3, .int x3_e5_1)]) hx hb dX1_sitOnce_100 hl (by decide) rfl (fun ls hl => ?_)
    obtain ⟨st102_4, est102_4, hf⟩ := wlet_some hf
    obtain ⟨E102_4, hq102_4, hE102_4⟩ := bind_some hf
    have hx102_4 : ∀ (σe102_4 : St) (_ : σe102_4 = E102_4) (ls : Array Slot) (H : Heap) (locs : List Loc), lv_has ls 7 [(1, .ref (ad o1))] → wH WC ad D cy s σe102_4 H locs → W p l e { frames := 5, cells := 0, slots := 0, locals := 199 } s m [.ref (ad 21), .ref (ad o1), .int x2].toArray below meth c H locs 0 0 (MQ below (wQv WC ad D cy res) [.ref (ad 21), .ref (ad o1), .int x2].toArray s 0 0 (wA WC ad)) (F0 m 203 ls []) := by
      intro σe102_4 e0 ls H locs hl hw
      subst e0
      have hf := hE102_4
      refine lv_aload_n hx hb dX1_sitOnce_203 rfl (lv_at hl 0 rfl) ?_
      refine lv_iconst (v := 0) hx hb dX1_sitOnce_204 (by decide) ?_
      obtain ⟨σ5, eσ5, hf⟩ := wlet_some hf
      refine pnX6_4 X hw (isSt.s0 ho1) (isSt.n0 ho1) fn_X1_137 dX1_sitOnce_205 (fun H locs hw => ?_)
      replace hw := hw.to eσ5
      refine lv_aload_n hx hb dX1_sitOnce_208 rfl (lv_at hl 0 rfl) ?_
      refine lv_dup hx hb dX1_sitOnce_209 rfl ?_
      refine gnX6_6 X hw (isSt.s0 ho1) (isSt.n0 ho1) fn_X1_36 dX1_sitOnce_210 ?_
      refine lv_iconst (v := 1) hx hb dX1_sitOnce_213 (by decide) ?_
      refine lv_iadd hx hb dX1_sitOnce_214 ?_
      obtain ⟨σ6, eσ6, hf⟩ := wlet_some hf
      refine pnX6_6 X hw (isSt.s0 ho1) (isSt.n0 ho1) fn_X1_36 dX1_sitOnce_215 (fun H locs hw => ?_)
      replace hw := hw.to eσ6
      have er := Option.some.inj hf
      subst er
      exact wr_vret X hw hr dX1_sitOnce_218
    have lo102_4 : ∀ (n : Nat) (σ102_4 : St) (x5_102_4 : Int32) (_ : lp st102_4 n (σ102_4, x5_102_4) = some E102_4) (ls : Array Slot) (H : Heap) (locs : List Loc), lv_has ls 7 [(0, .ref (ad 21)), (1, .ref (ad o1)), (3, .int x3_e5_1), (4, .int v2), (5, .int x5_102_4)] → wH WC ad D cy s σ102_4 H locs → W p l e { frames := 5, cells := 0, slots := 0, locals := 199 } s m [.ref (ad 21), .ref (ad o1), .int x2].toArray below meth c H locs 0 0 (MQ below (wQv WC ad D cy res) [.ref (ad 21), .ref (ad o1), .int x2].toArray s 0 0 (wA WC ad)) (F0 m 102 ls []) := by
      intro n
      induction n with
      | zero =>
        intro σ102_4 x5_102_4 hf ls H locs hl hw
        exact (lp_zero hf).elim
      | succ n ih102_4 =>
        intro σ102_4 x5_102_4 hf ls H locs hl hw
        obtain ⟨q102_4, hf, hz102_4⟩ := lp_succ hf
        rw [est102_4] at hf
        replace hf := un2_some hf
        refine lv_iload hx hb dX1_sitOnce_102 (lv_at hl 4 rfl) ?_
        refine lv_iload hx hb dX1_sitOnce_104 (lv_at hl 3 rfl) ?_
        refine lv_icmp_ge (tgt := 203) hx hb dX1_sitOnce_106 (by decide) (fun c7 => ?_) (fun c7 => ?_)
        · have hf := (if_pos c7).symm.trans hf
          exact hx102_4 σ102_4 (lpK_inr (lp_leaf hf hz102_4)) ls H locs (lv_sub hl [1] rfl) hw
        · have hf := (if_neg c7).symm.trans hf
          refine lv_iload hx hb dX1_sitOnce_109 (lv_at hl 4 rfl) ?_
          refine lv_bipush (v := 7) hx hb dX1_sitOnce_111 (by decide) ?_
          refine lv_icmp_ge (tgt := 203) hx hb dX1_sitOnce_113 (by decide) (fun c8 => ?_) (fun c8 => ?_)
          · have hf := (if_pos c8).symm.trans hf
            exact hx102_4 σ102_4 (lpK_inr (lp_leaf hf hz102_4)) ls H locs (lv_sub hl [1] rfl) hw
          · have hf := (if_neg c8).symm.trans hf
            refine lv_aload_n hx hb dX1_sitOnce_116 rfl (lv_at hl 1 rfl) ?_
            refine gnX6_0 (b := (o1 + 1)) X hw (isSt.s0 ho1) (isSt.n0 ho1) (isSt.r0 ho1) fn_X1_121 dX1_sitOnce_117 ?_
            refine lv_iload hx hb dX1_sitOnce_120 (lv_at hl 4 rfl) ?_
            obtain ⟨h9, hf⟩ := if_some hf
            refine wr_iald X hw (isSt.s1 ho1) (isSt.n1 ho1) h9 dX1_sitOnce_122 ?_
            obtain ⟨v10, ev10, hf⟩ := wlet_some hf
            refine wr_top ev10 ?_
            refine lv_istore (lv' := [(6, .int v10), (0, .ref (ad 21)), (1, .ref (ad o1)), (3, .int x3_e5_1), (4, .int v2), (5, .int x5_102_4)]) hx hb dX1_sitOnce_123 hl (by decide) rfl (fun ls hl => ?_)
            refine lv_iload_n hx hb dX1_sitOnce_125 rfl (lv_at hl 3 rfl) ?_
            refine lv_iload hx hb dX1_sitOnce_126 (lv_at hl 5 rfl) ?_
            refine lv_ishr hx hb dX1_sitOnce_128 ?_
            refine lv_iconst (v := 1) hx hb dX1_sitOnce_129 (by decide) ?_
            refine lv_iand hx hb dX1_sitOnce_130 ?_
            refine lv_iconst (v := 1) hx hb dX1_sitOnce_131 (by decide) ?_
            refine lv_icmp_ne (tgt := 144) hx hb dX1_sitOnce_132 (by decide) (fun c11 => ?_) (fun c11 => ?_)
            · have hf := (if_neg c11).symm.trans hf
              refine lv_aload_n hx hb dX1_sitOnce_144 rfl (lv_at hl 1 rfl) ?_
              refine gX1_0 (b := 4) X hw sC21 nC21 rfl fl_X1_21 dX1_sitOnce_145 ?_
              refine lv_iload hx hb dX1_sitOnce_148 (lv_at hl 0 rfl) ?_
              obtain ⟨v13, hq12, hf⟩ := bind_some hf
              refine wr_cNi (r := v13) (σ' := σ102_4) (av := [.int v10]) (rest := []) X hw hl.1 sC4 nC4 rfl (k_X8_has hI tx_1 hq12) rfl mn_X1_128 im_X8_has se_X8_has ini_X8 co_X8_has hd_X8_has ⟨Nat.le_of_ble_eq_true rfl, Nat.le_of_ble_eq_true rfl⟩ (Nat.le_of_ble_eq_true rfl) dX1_sitOnce_150 rfl (fun H locs hw => ?_)
              refine lv_if_eq (tgt := 197) hx hb dX1_sitOnce_153 (by decide) (fun c14 => ?_) (fun c14 => ?_)
              · have hf := (if_pos c14).symm.trans hf
                obtain ⟨v15, ev15, hf⟩ := wlet_some hf
                refine lv_iinc (v := v15) (lv' := [(5, .int v15), (6, .int v10), (0, .ref (ad 21)), (1, .ref (ad o1)), (3, .int x3_e5_1), (4, .int v2)]) hx hb dX1_sitOnce_197 hl (k := 5) rfl (by rw [ev15]; rfl) (by decide) rfl (fun ls hl => ?_)
                refine lv_goto (tgt := 102) hx hb dX1_sitOnce_200 (by decide) ?_
                exact ih102_4 σ102_4 v15 (lp_leaf hf hz102_4) ls H locs (lv_sub hl [2, 3, 4, 5, 0] rfl) hw
              · have hf := (if_neg c14).symm.trans hf
                refine lv_aload_n hx hb dX1_sitOnce_156 rfl (lv_at hl 2 rfl) ?_
                refine gnX6_2 (b := (o1 + 3)) X hw (isSt.s0 ho1) (isSt.n0 ho1) (isSt.r2 ho1) fn_X1_131 dX1_sitOnce_157 ?_
                refine lv_iload hx hb dX1_sitOnce_160 (lv_at hl 0 rfl) ?_
                refine lv_dup2_11 hx hb dX1_sitOnce_162 rfl rfl ?_
                obtain ⟨h16, hf⟩ := if_some hf
                refine wr_iald X hw (isSt.s3 ho1) (isSt.n3 ho1) h16 dX1_sitOnce_163 ?_
                refine lv_aload_n hx hb dX1_sitOnce_164 rfl (lv_at hl 1 rfl) ?_
                refine gX1_3 (b := 24) X hw sC21 nC21 rfl fl_X1_18 dX1_sitOnce_165 ?_
                refine lv_iload hx hb dX1_sitOnce_168 (lv_at hl 5 rfl) ?_
                obtain ⟨h17, hf⟩ := if_some hf
                refine wr_iald X hw sC24 nC24 h17 dX1_sitOnce_170 ?_
                refine lv_iadd hx hb dX1_sitOnce_171 ?_
                obtain ⟨h18, hf⟩ := if_some hf
                obtain ⟨σ19, eσ19, hf⟩ := wlet_some hf
                refine wr_iast X hw (isSt.s3 ho1) (isSt.n3 ho1) h18 dX1_sitOnce_172 (fun H locs hw => ?_)
                replace hw := hw.to eσ19
                refine lv_aload_n hx hb dX1_sitOnce_173 rfl (lv_at hl 2 rfl) ?_
                refine lv_aload_n hx hb dX1_sitOnce_174 rfl (lv_at hl 1 rfl) ?_
                refine gX1_0 (b := 4) X hw sC21 nC21 rfl fl_X1_21 dX1_sitOnce_175 ?_
                refine gnX8_2 (b := 7) X hw sC4 nC4 rfl fn_X1_134 dX1_sitOnce_178 ?_
                refine lv_iload hx hb dX1_sitOnce_181 (lv_at hl 0 rfl) ?_
                obtain ⟨h20, hf⟩ := if_some hf
                refine wr_iald X hw sC7 nC7 h20 dX1_sitOnce_183 ?_
                obtain ⟨σ21, eσ21, hf⟩ := wlet_some hf
                refine pnX6_5 X hw (isSt.s0 ho1) (isSt.n0 ho1) fn_X1_93 dX1_sitOnce_184 (fun H locs hw => ?_)
                replace hw := hw.to eσ21
                refine lv_aload_n hx hb dX1_sitOnce_187 rfl (lv_at hl 2 rfl) ?_
                refine lv_dup hx hb dX1_sitOnce_188 rfl ?_
                refine gnX6_7 X hw (isSt.s0 ho1) (isSt.n0 ho1) fn_X1_47 dX1_sitOnce_189 ?_
                refine lv_iconst (v := 1) hx hb dX1_sitOnce_192 (by decide) ?_
                refine lv_iadd hx hb dX1_sitOnce_193 ?_
                obtain ⟨σ22, eσ22, hf⟩ := wlet_some hf
                refine pnX6_7 X hw (isSt.s0 ho1) (isSt.n0 ho1) fn_X1_47 dX1_sitOnce_194 (fun H locs hw => ?_)
                replace hw := hw.to eσ22
                obtain ⟨v23, ev23, hf⟩ := wlet_some hf
                refine lv_iinc (v := v23) (lv' := [(5, .int v23), (6, .int v10), (0, .ref (ad 21)), (1, .ref (ad o1)), (3, .int x3_e5_1), (4, .int v2)]) hx hb dX1_sitOnce_197 hl (k := 5) rfl (by rw [ev23]; rfl) (by decide) rfl (fun ls hl => ?_)
                refine lv_goto (tgt := 102) hx hb dX1_sitOnce_200 (by decide) ?_
                exact ih102_4 σ22 v23 (lp_leaf hf hz102_4) ls H locs (lv_sub hl [2, 3, 4, 5, 0] rfl) hw
            · have hf := (if_pos c11).symm.trans hf
              refine lv_aload_n hx hb dX1_sitOnce_135 rfl (lv_at hl 2 rfl) ?_
              refine lv_iload hx hb dX1_sitOnce_136 (lv_at hl 0 rfl) ?_
              obtain ⟨σ25, hq24, hf⟩ := bind_some hf
              refine wr_cNv (σ' := σ25) (av := [.int v10]) (rest := []) X hw hl.1 (isSt.s0 ho1) (isSt.n0 ho1) rfl (k_X6_append hI ho1 hq24) rfl mn_X1_124 im_X6_append se_X6_append ini_X6 co_X6_append hd_X6_append ⟨Nat.le_of_ble_eq_true rfl, Nat.le_of_ble_eq_true rfl⟩ (Nat.le_of_ble_eq_true rfl) dX1_sitOnce_138 rfl (fun H locs hw => ?_)
              refine lv_goto (tgt := 197) hx hb dX1_sitOnce_141 (by decide) ?_
              obtain ⟨v26, ev26, hf⟩ := wlet_some hf
              refine lv_iinc (v := v26) (lv' := [(5, .int v26), (6, .int v10), (0, .ref (ad 21)), (1, .ref (ad o1)), (3, .int x3_e5_1), (4, .int v2)]) hx hb dX1_sitOnce_197 hl (k := 5) rfl (by rw [ev26]; rfl) (by decide) rfl (fun ls hl => ?_)
              refine lv_goto (tgt := 102) hx hb dX1_sitOnce_200 (by decide) ?_
              exact ih102_4 σ25 v26 (lp_leaf hf hz102_4) ls H locs (lv_sub hl [2, 3, 4, 5, 0] rfl) hw
    exact lo102_4 fuel σ3 (0 : Int32) hq102_4 ls H locs (lv_sub hl [2, 3, 4, 1, 0] rfl) hw
  have lo5_1 : ∀ (n : Nat) (σ5_1 : St) (x3_5_1 : Int32) (x4_5_1 : Int32) (_ : lp st5_1 n (σ5_1, x3_5_1, x4_5_1) = some E5_1) (ls : Array Slot) (H : Heap) (locs : List Loc), lv_has ls 7 [(0, .ref (ad 21)), (1, .ref (ad o1)), (2, .int x2), (3, .int x3_5_1), (4, .int x4_5_1)] → wH WC ad D cy s σ5_1 H locs → W p l e { frames := 5, cells := 0, slots := 0, locals := 199 } s m [.ref (ad 21), .ref (ad o1), .int x2].toArray below meth c H locs 0 0 (MQ below (wQv WC ad D cy res) [.ref (ad 21), .ref (ad o1), .int x2].toArray s 0 0 (wA WC ad)) (F0 m 5 ls []) := by
    intro n
    induction n with
    | zero =>
      intro σ5_1 x3_5_1 x4_5_1 hf ls H locs hl hw
      exact (lp_zero hf).elim
    | succ n ih5_1 =>
      intro σ5_1 x3_5_1 x4_5_1 hf ls H locs hl hw
      obtain ⟨q5_1, hf, hz5_1⟩ := lp_succ hf
      rw [est5_1] at hf
      replace hf := un3_some hf
      refine lv_iload hx hb dX1_sitOnce_5 (lv_at hl 4 rfl) ?_
      refine lv_aload_n hx hb dX1_sitOnce_7 rfl (lv_at hl 1 rfl) ?_
      refine gnX6_3 X hw (isSt.s0 ho1) (isSt.n0 ho1) fn_X1_40 dX1_sitOnce_8 ?_
      refine lv_icmp_ge (tgt := 88) hx hb dX1_sitOnce_11 (by decide) (fun c27 => ?_) (fun c27 => ?_)
      · have hf := (if_pos c27).symm.trans hf
        exact hx5_1 σ5_1 x3_5_1 (lpK_inr (lp_leaf hf hz5_1)) ls H locs (lv_sub hl [0, 1, 3] rfl) hw
      · have hf := (if_neg c27).symm.trans hf
        refine lv_iload hx hb dX1_sitOnce_14 (lv_at hl 4 rfl) ?_
        refine lv_bipush (v := 7) hx hb dX1_sitOnce_16 (by decide) ?_
        refine lv_icmp_ge (tgt := 88) hx hb dX1_sitOnce_18 (by decide) (fun c28 => ?_) (fun c28 => ?_)
        · have hf := (if_pos c28).symm.trans hf
          exact hx5_1 σ5_1 x3_5_1 (lpK_inr (lp_leaf hf hz5_1)) ls H locs (lv_sub hl [0, 1, 3] rfl) hw
        · have hf := (if_neg c28).symm.trans hf
          refine lv_aload_n hx hb dX1_sitOnce_21 rfl (lv_at hl 1 rfl) ?_
          refine lv_iload hx hb dX1_sitOnce_22 (lv_at hl 4 rfl) ?_
          obtain ⟨v30, hq29, hf⟩ := bind_some hf
          refine wr_cNi (r := v30) (σ' := σ5_1) (av := [.int x4_5_1]) (rest := []) X hw hl.1 (isSt.s0 ho1) (isSt.n0 ho1) rfl (k_X6_docketAt hI ho1 hq29) rfl mn_X1_99 im_X6_docketAt se_X6_docketAt ini_X6 co_X6_docketAt hd_X6_docketAt ⟨Nat.le_of_ble_eq_true rfl, Nat.le_of_ble_eq_true rfl⟩ (Nat.le_of_ble_eq_true rfl) dX1_sitOnce_24 rfl (fun H locs hw => ?_)
          refine lv_istore (lv' := [(5, .int v30), (0, .ref (ad 21)), (1, .ref (ad o1)), (2, .int x2), (3, .int x3_5_1), (4, .int x4_5_1)]) hx hb dX1_sitOnce_27 hl (by decide) rfl (fun ls hl => ?_)
          refine lv_aload_n hx hb dX1_sitOnce_29 rfl (lv_at hl 1 rfl) ?_
          refine gX1_3 (b := 24) X hw sC21 nC21 rfl fl_X1_18 dX1_sitOnce_30 ?_
          refine lv_iload hx hb dX1_sitOnce_33 (lv_at hl 5 rfl) ?_
          refine lv_aload_n hx hb dX1_sitOnce_35 rfl (lv_at hl 1 rfl) ?_
          refine lv_aload_n hx hb dX1_sitOnce_36 rfl (lv_at hl 2 rfl) ?_
          refine lv_iload hx hb dX1_sitOnce_37 (lv_at hl 0 rfl) ?_
          refine lv_iload hx hb dX1_sitOnce_39 (lv_at hl 5 rfl) ?_
          refine lv_aload_n hx hb dX1_sitOnce_41 rfl (lv_at hl 2 rfl) ?_
          refine lv_iload hx hb dX1_sitOnce_42 (lv_at hl 5 rfl) ?_
          obtain ⟨v32, hq31, hf⟩ := bind_some hf
          refine wr_cNi (r := v32) (σ' := σ5_1) (av := [.int x4_5_1]) (rest := [.int x4_5_1, .int v30, .ref (ad o1), .ref (ad 21), .int x4_5_1, .ref (ad 24)]) X hw hl.1 (isSt.s0 ho1) (isSt.n0 ho1) rfl (k_X6_aheadOf hI ho1 hq31) rfl mn_X1_57 im_X6_aheadOf se_X6_aheadOf ini_X6 co_X6_aheadOf hd_X6_aheadOf ⟨Nat.le_of_ble_eq_true rfl, Nat.le_of_ble_eq_true rfl⟩ (Nat.le_of_ble_eq_true rfl) dX1_sitOnce_44 rfl (fun H locs hw => ?_)
          obtain ⟨v34, σ35, hq33, hf⟩ := bnd2_some hf
          refine wr_cVi (r := v34) (σ' := σ35) (av := [.ref (ad o1), .int v30, .int x4_5_1, .int v32]) (rest := [.int x4_5_1, .ref (ad 24)]) X hw hl.1 sC21 nC21 rfl (k_X1_suffering hI ho1 hq33) rfl ml_X1_102 im_X1_suffering se_X1_suffering ini_X1 co_X1_suffering hd_X1_suffering ⟨Nat.le_of_ble_eq_true rfl, Nat.le_of_ble_eq_true rfl⟩ (Nat.le_of_ble_eq_true rfl) dX1_sitOnce_47 rfl (fun H locs hw => ?_)
          obtain ⟨h36, hf⟩ := if_some hf
          obtain ⟨σ37, eσ37, hf⟩ := wlet_some hf
          refine wr_iast X hw sC24 nC24 h36 dX1_sitOnce_50 (fun H locs hw => ?_)
          replace hw := hw.to eσ37
          refine lv_iload_n hx hb dX1_sitOnce_51 rfl (lv_at hl 3 rfl) ?_
          refine lv_bipush (v := 8) hx hb dX1_sitOnce_52 (by decide) ?_
          refine lv_aload_n hx hb dX1_sitOnce_54 rfl (lv_at hl 2 rfl) ?_
          refine gnX6_6 X hw (isSt.s0 ho1) (isSt.n0 ho1) fn_X1_36 dX1_sitOnce_55 ?_
          refine lv_imul hx hb dX1_sitOnce_58 ?_
          refine lv_iload hx hb dX1_sitOnce_59 (lv_at hl 0 rfl) ?_
          refine lv_iadd hx hb dX1_sitOnce_61 ?_
          obtain ⟨v39, hq38, hf⟩ := bind_some hf
          refine wr_cSi (r := v39) (σ' := σ37) (av := [.int x2, .int (((8 : Int32) * (σ37.1 o1 6)) + v30)]) (rest := []) X hw hl.1 (k_X1_lot hI hq38) rfl ml_X1_115 st_X1_lot ini_X1 co_X1_lot hd_X1_lot ⟨Nat.le_of_ble_eq_true rfl, Nat.le_of_ble_eq_true rfl⟩ (Nat.le_of_ble_eq_true rfl) dX1_sitOnce_62 rfl (fun H locs hw => ?_)
          refine lv_aload_n hx hb dX1_sitOnce_65 rfl (lv_at hl 1 rfl) ?_
          refine lv_aload_n hx hb dX1_sitOnce_66 rfl (lv_at hl 2 rfl) ?_
          refine lv_iload hx hb dX1_sitOnce_67 (lv_at hl 0 rfl) ?_
          obtain ⟨v41, σ42, hq40, hf⟩ := bnd2_some hf
          refine wr_cVi (r := v41) (σ' := σ42) (av := [.ref (ad o1), .int v30]) (rest := [.int v39]) X hw hl.1 sC21 nC21 rfl (k_X1_chanceOfAdjourning hI ho1 hq40) rfl ml_X1_118 im_X1_chanceOfAdjourning se_X1_chanceOfAdjourning ini_X1 co_X1_chanceOfAdjourning hd_X1_chanceOfAdjourning ⟨Nat.le_of_ble_eq_true rfl, Nat.le_of_ble_eq_true rfl⟩ (Nat.le_of_ble_eq_true rfl) dX1_sitOnce_69 rfl (fun H locs hw => ?_)
          refine lv_icmp_ge (tgt := 82) hx hb dX1_sitOnce_72 (by decide) (fun c43 => ?_) (fun c43 => ?_)
          · have hf := (if_pos c43).symm.trans hf
            obtain ⟨v44, ev44, hf⟩ := wlet_some hf
            refine lv_iinc (v := v44) (lv' := [(4, .int v44), (5, .int v30), (0, .ref (ad 21)), (1, .ref (ad o1)), (2, .int x2), (3, .int x3_5_1)]) hx hb dX1_sitOnce_82 hl (k := 5) rfl (by rw [ev44]; rfl) (by decide) rfl (fun ls hl => ?_)
            refine lv_goto (tgt := 5) hx hb dX1_sitOnce_85 (by decide) ?_
            exact ih5_1 σ42 x3_5_1 v44 (lp_leaf hf hz5_1) ls H locs (lv_sub hl [2, 3, 4, 5, 0] rfl) hw
          · have hf := (if_neg c43).symm.trans hf
            refine lv_iload_n hx hb dX1_sitOnce_75 rfl (lv_at hl 4 rfl) ?_
            refine lv_iconst (v := 1) hx hb dX1_sitOnce_76 (by decide) ?_
            refine lv_iload hx hb dX1_sitOnce_77 (lv_at hl 5 rfl) ?_
            refine lv_ishl hx hb dX1_sitOnce_79 ?_
            refine lv_ior hx hb dX1_sitOnce_80 ?_
            obtain ⟨v45, ev45, hf⟩ := wlet_some hf
            refine wr_top ev45 ?_
            refine lv_istore_n (lv' := [(3, .int v45), (5, .int v30), (0, .ref (ad 21)), (1, .ref (ad o1)), (2, .int x2), (4, .int x4_5_1)]) hx hb dX1_sitOnce_81 rfl hl (by decide) rfl (fun ls hl => ?_)
            obtain ⟨v46, ev46, hf⟩ := wlet_some hf
            refine lv_iinc (v := v46) (lv' := [(4, .int v46), (3, .int v45), (5, .int v30), (0, .ref (ad 21)), (1, .ref (ad o1)), (2, .int x2)]) hx hb dX1_sitOnce_82 hl (k := 5) rfl (by rw [ev46]; rfl) (by decide) rfl (fun ls hl => ?_)
            refine lv_goto (tgt := 5) hx hb dX1_sitOnce_85 (by decide) ?_
            exact ih5_1 σ42 v45 v46 (lp_leaf hf hz5_1) ls H locs (lv_sub hl [3, 4, 5, 1, 0] rfl) hw
  exact lo5_1 fuel σ (0 : Int32) (0 : Int32) hq5_1 ls H locs (lv_sub hl [2, 3, 4, 1, 0] rfl) hw

def f_X1_goThrough (σ : St) (o1 : Nat) (x2 : Int32) (x3 : Int32) : Option (St) := wlet (un2 (fun (σ3_1 : St) (x4_3_1 : Int32) => if x2 ≤ x4_3_1 then (some (.inr σ3_1)) else (Option.bind (f_X1_sitOnce σ3_1 o1 x3) fun σ4 => wlet (x4_3_1 + (1 : Int32)) fun v5 => some (.inl (σ4, v5)))) : St × Int32 → Option ((St × Int32) ⊕ (St))) fun st3_1 => Option.bind (lp st3_1 fuel (σ, (0 : Int32))) ((fun (σe3_1 : St) => some σe3_1))
theorem hd_X1_goThrough : yX1_goThrough.cls = RX1 ∧ yX1_goThrough.cls ≠ "java/lang/invoke/MethodHandle" ∧ yX1_goThrough.cls ≠ "java/lang/invoke/VarHandle" ∧ (parseMethodDescriptor yX1_goThrough.desc).map (fun d => d.parameters.length) = some 3 := by decide +kernel
set_option maxRecDepth 100000 in
set_option maxHeartbeats 4000000 in
theorem k_X1_goThrough {l : Launch} {ad : Nat → Nat} {D : va_G} {cy : Nat → ClassId} {z : wStr} (hI : wI WC ad) {σ : St} {o1 : Nat} {x2 : Int32} {x3 : Int32} (ho1 : isSt o1) {res : St} (hf : f_X1_goThrough σ o1 x2 x3 = some res) : wC WC ad D cy z l yX1_goThrough (Cond.code yX1_goThrough cX1_goThrough 5 (none) :: aw) (6) (225) [.ref (ad 21), .ref (ad o1), .int x2, .int x3] σ (wQv WC ad D cy res) := by
  unfold f_X1_goThrough at hf
  refine wr_start (own := RX1) hI (by decide +kernel) rfl (Nat.le_of_ble_eq_true rfl) rfl ?_
  intro p e s m below meth c ls X hw hr hl
  have hx := X.hx
  have hb := X.hb
  obtain ⟨H, eH⟩ : ∃ H : Heap, H = s.heap := ⟨_, rfl⟩
  obtain ⟨locs, el⟩ : ∃ locs : List Loc, locs = [] := ⟨_, rfl⟩
  rw [← eH, ← el] at hw ⊢
  clear eH el
  replace hl : lv_has ls 5 [(0, .ref (ad 21)), (1, .ref (ad o1)), (2, .int x2), (3, .int x3)] := hl
  refine lv_iconst (v := 0) hx hb dX1_goThrough_0 (by decide) ?_
  refine lv_istore (lv' := [(4, .int (0 : Int32)), (0, .ref (ad 21)), (1, .ref (ad o1)), (2, .int x2), (3, .int x3)]) hx hb dX1_goThrough_1 hl (by decide) rfl (fun ls hl => ?_)
  obtain ⟨st3_1, est3_1, hf⟩ := wlet_some hf
  obtain ⟨E3_1, hq3_1, hE3_1⟩ := bind_some hf
  have hx3_1 : ∀ (σe3_1 : St) (_ : σe3_1 = E3_1) (ls : Array Slot) (H : Heap) (locs : List Loc), lv_has ls 5 [] → wH WC ad D cy s σe3_1 H locs → W p l e { frames := 6, cells := 0, slots := 0, locals := 225 } s m [.ref (ad 21), .ref (ad o1), .int x2, .int x3].toArray below meth c H locs 0 0 (MQ below (wQv WC ad D cy res) [.ref (ad 21), .ref (ad o1), .int x2, .int x3].toArray s 0 0 (wA WC ad)) (F0 m 21 ls []) := by
    intro σe3_1 e0 ls H locs hl hw
    subst e0
    have hf := hE3_1
    have er := Option.some.inj hf
    subst er
    exact wr_vret X hw hr dX1_goThrough_21
  have lo3_1 : ∀ (n : Nat) (σ3_1 : St) (x4_3_1 : Int32) (_ : lp st3_1 n (σ3_1, x4_3_1) = some E3_1) (ls : Array Slot) (H : Heap) (locs : List Loc), lv_has ls 5 [(0, .ref (ad 21)), (1, .ref (ad o1)), (2, .int x2), (3, .int x3), (4, .int x4_3_1)] → wH WC ad D cy s σ3_1 H locs → W p l e { frames := 6, cells := 0, slots := 0, locals := 225 } s m [.ref (ad 21), .ref (ad o1), .int x2, .int x3].toArray below meth c H locs 0 0 (MQ below (wQv WC ad D cy res) [.ref (ad 21), .ref (ad o1), .int x2, .int x3].toArray s 0 0 (wA WC ad)) (F0 m 3 ls []) := by
    intro n
    induction n with
    | zero =>
      intro σ3_1 x4_3_1 hf ls H locs hl hw
      exact (lp_zero hf).elim
    | succ n ih3_1 =>
      intro σ3_1 x4_3_1 hf ls H locs hl hw
      obtain ⟨q3_1, hf, hz3_1⟩ := lp_succ hf
      rw [est3_1] at hf
      replace hf := un2_some hf
      refine lv_iload hx hb dX1_goThrough_3 (lv_at hl 4 rfl) ?_
      refine lv_iload_n hx hb dX1_goThrough_5 rfl (lv_at hl 2 rfl) ?_
      refine lv_icmp_ge (tgt := 21) hx hb dX1_goThrough_6 (by decide) (fun c2 => ?_) (fun c2 => ?_)
      · have hf := (if_pos c2).symm.trans hf
        exact hx3_1 σ3_1 (lpK_inr (lp_leaf hf hz3_1)) ls H locs (lv_sub hl [] rfl) hw
      · have hf := (if_neg c2).symm.trans hf
        refine lv_aload_n hx hb dX1_goThrough_9 rfl (lv_at hl 0 rfl) ?_
        refine lv_aload_n hx hb dX1_goThrough_10 rfl (lv_at hl 1 rfl) ?_
        refine lv_iload_n hx hb dX1_goThrough_11 rfl (lv_at hl 3 rfl) ?_
        obtain ⟨σ4, hq3, hf⟩ := bind_some hf
        refine wr_cVv (σ' := σ4) (av := [.ref (ad o1), .int x3]) (rest := []) X hw hl.1 sC21 nC21 rfl (k_X1_sitOnce hI ho1 hq3) rfl ml_X1_112 im_X1_sitOnce se_X1_sitOnce ini_X1 co_X1_sitOnce hd_X1_sitOnce ⟨Nat.le_of_ble_eq_true rfl, Nat.le_of_ble_eq_true rfl⟩ (Nat.le_of_ble_eq_true rfl) dX1_goThrough_12 rfl (fun H locs hw => ?_)
        obtain ⟨v5, ev5, hf⟩ := wlet_some hf
        refine lv_iinc (v := v5) (lv' := [(4, .int v5), (0, .ref (ad 21)), (1, .ref (ad o1)), (2, .int x2), (3, .int x3)]) hx hb dX1_goThrough_15 hl (k := 4) rfl (by rw [ev5]; rfl) (by decide) rfl (fun ls hl => ?_)
        refine lv_goto (tgt := 3) hx hb dX1_goThrough_18 (by decide) ?_
        exact ih3_1 σ4 v5 (lp_leaf hf hz3_1) ls H locs (lv_sub hl [1, 2, 3, 4, 0] rfl) hw
  exact lo3_1 fuel σ (0 : Int32) hq3_1 ls H locs (lv_sub hl [1, 2, 3, 4, 0] rfl) hw
