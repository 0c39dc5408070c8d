def f_X4_begin (σ : St)  : Option (St) := Option.bind (f_X8_clear σ 15) fun σ2 => wlet (si σ2 10 2 (0 : Int32)) fun σ3 => wlet (si σ3 10 3 (0 : Int32)) fun σ4 => wlet (si σ4 10 5 (0 : Int32)) fun σ5 => some σ5
theorem hd_X4_begin : yX4_begin.cls = RX4 ∧ yX4_begin.cls ≠ "java/lang/invoke/MethodHandle" ∧ yX4_begin.cls ≠ "java/lang/invoke/VarHandle" ∧ (parseMethodDescriptor yX4_begin.desc).map (fun d => d.parameters.length) = some 0 := by decide +kernel
set_option maxRecDepth 100000 in
set_option maxHeartbeats 4000000 in
theorem k_X4_begin {l : Launch} {ad : Nat → Nat} {D : va_G} {cy : Nat → ClassId} {z : wStr} (hI : wI WC ad) {σ : St}   {res : St} (hf : f_X4_begin σ  = some res) : wC WC ad D cy z l yX4_begin (Cond.code yX4_begin cX4_begin 1 (none) :: aw) (4) (164) [.ref (ad 10)] σ (wQv WC ad D cy res) := by
  unfold f_X4_begin at hf
  refine wr_start (own := RX4) hI (by decide +kernel) rfl (Nat.le_of_ble_eq_true rfl) rfl ?_
  intro p e s m below meth c ls X hw hr hl
  have hx := X.hx
  have hb := X.hb
  obtain ⟨H, eH⟩ : ∃ H : Heap, H = s.heap := ⟨_, rfl⟩
  obtain ⟨locs, el⟩ : ∃ locs : List Loc, locs = [] := ⟨_, rfl⟩
  rw [← eH, ← el] at hw ⊢
  clear eH el
  replace hl : lv_has ls 1 [(0, .ref (ad 10))] := hl
  refine lv_aload_n hx hb dX4_begin_0 rfl (lv_at hl 0 rfl) ?_
  refine gX4_1 (b := 15) X hw sC10 nC10 rfl fl_X4_12 dX4_begin_1 ?_
  obtain ⟨σ2, hq1, hf⟩ := bind_some hf
  refine wr_cNv (σ' := σ2) (av := []) (rest := []) X hw hl.1 sC15 nC15 rfl (k_X8_clear hI tx_2 hq1) rfl mn_X4_74 im_X8_clear se_X8_clear ini_X8 co_X8_clear hd_X8_clear ⟨Nat.le_of_ble_eq_true rfl, Nat.le_of_ble_eq_true rfl⟩ (Nat.le_of_ble_eq_true rfl) dX4_begin_4 rfl (fun H locs hw => ?_)
  refine lv_aload_n hx hb dX4_begin_7 rfl (lv_at hl 0 rfl) ?_
  refine lv_iconst (v := 0) hx hb dX4_begin_8 (by decide) ?_
  obtain ⟨σ3, eσ3, hf⟩ := wlet_some hf
  refine pX4_2 X hw sC10 nC10 fl_X4_77 dX4_begin_9 (fun H locs hw => ?_)
  replace hw := hw.to eσ3
  refine lv_aload_n hx hb dX4_begin_12 rfl (lv_at hl 0 rfl) ?_
  refine lv_iconst (v := 0) hx hb dX4_begin_13 (by decide) ?_
  obtain ⟨σ4, eσ4, hf⟩ := wlet_some hf
  refine pX4_3 X hw sC10 nC10 fl_X4_33 dX4_begin_14 (fun H locs hw => ?_)
  replace hw := hw.to eσ4
  refine lv_aload_n hx hb dX4_begin_17 rfl (lv_at hl 0 rfl) ?_
  refine lv_iconst (v := 0) hx hb dX4_begin_18 (by decide) ?_
  obtain ⟨σ5, eσ5, hf⟩ := wlet_some hf
  refine pX4_5 X hw sC10 nC10 fl_X4_80 dX4_begin_19 (fun H locs hw => ?_)
  replace hw := hw.to eσ5
  have er := Option.some.inj hf
  subst er
  exact wr_vret X hw hr dX4_begin_22

def f_X4_fail (σ : St) (x1 : Int32) : Option (St) := if (σ.1 10 3) = 0 then (if (σ.1 10 2) < 0 then (some σ) else (if (402 : Int32) ≤ (σ.1 10 2) then (some σ) else (wlet (si σ 10 3 x1) fun σ4 => if ib (σ4.1 10 2) 402 = true then wlet (si σ4 10 4 (σ4.1 13 (Int32.toNatClampNeg (σ4.1 10 2)))) fun σ6 => some σ6 else none))) else (some σ)
theorem hd_X4_fail : yX4_fail.cls = RX4 ∧ yX4_fail.cls ≠ "java/lang/invoke/MethodHandle" ∧ yX4_fail.cls ≠ "java/lang/invoke/VarHandle" ∧ (parseMethodDescriptor yX4_fail.desc).map (fun d => d.parameters.length) = some 1 := by decide +kernel
set_option maxRecDepth 100000 in
set_option maxHeartbeats 4000000 in
theorem k_X4_fail {l : Launch} {ad : Nat → Nat} {D : va_G} {cy : Nat → ClassId} {z : wStr} (hI : wI WC ad) {σ : St} {x1 : Int32}  {res : St} (hf : f_X4_fail σ x1 = some res) : wC WC ad D cy z l yX4_fail (Cond.code yX4_fail cX4_fail 2 (none) :: aw) (1) (100) [.ref (ad 10), .int x1] σ (wQv WC ad D cy res) := by
  unfold f_X4_fail at hf
  refine wr_start (own := RX4) hI (by decide +kernel) rfl (Nat.le_of_ble_eq_true rfl) rfl ?_
  intro p e s m below meth c ls X hw hr hl
  have hx := X.hx
  have hb := X.hb
  obtain ⟨H, eH⟩ : ∃ H : Heap, H = s.heap := ⟨_, rfl⟩
  obtain ⟨locs, el⟩ : ∃ locs : List Loc, locs = [] := ⟨_, rfl⟩
  rw [← eH, ← el] at hw ⊢
  clear eH el
  replace hl : lv_has ls 2 [(0, .ref (ad 10)), (1, .int x1)] := hl
  refine lv_aload_n hx hb dX4_fail_0 rfl (lv_at hl 0 rfl) ?_
  refine gX4_3 X hw sC10 nC10 fl_X4_33 dX4_fail_1 ?_
  refine lv_if_ne (tgt := 50) hx hb dX4_fail_4 (by decide) (fun c1 => ?_) (fun c1 => ?_)
  · have hf := (if_neg c1).symm.trans hf
    have er := Option.some.inj hf
    subst er
    exact wr_vret X hw hr dX4_fail_50
  · have hf := (if_pos c1).symm.trans hf
    refine lv_aload_n hx hb dX4_fail_7 rfl (lv_at hl 0 rfl) ?_
    refine gX4_2 X hw sC10 nC10 fl_X4_77 dX4_fail_8 ?_
    refine lv_if_lt (tgt := 50) hx hb dX4_fail_11 (by decide) (fun c2 => ?_) (fun c2 => ?_)
    · have hf := (if_pos c2).symm.trans hf
      have er := Option.some.inj hf
      subst er
      exact wr_vret X hw hr dX4_fail_50
    · have hf := (if_neg c2).symm.trans hf
      refine lv_aload_n hx hb dX4_fail_14 rfl (lv_at hl 0 rfl) ?_
      refine gX4_2 X hw sC10 nC10 fl_X4_77 dX4_fail_15 ?_
      refine lv_aload_n hx hb dX4_fail_18 rfl (lv_at hl 0 rfl) ?_
      refine gX4_0 (b := 11) X hw sC10 nC10 rfl fl_X4_23 dX4_fail_19 ?_
      refine gnX5_2 (b := 13) X hw sC11 nC11 rfl fn_X4_83 dX4_fail_22 ?_
      refine wr_alen X hw (t := 0) sC13 nC13 (by decide) (v := 402) (by decide) dX4_fail_25 ?_
      refine lv_icmp_ge (tgt := 50) hx hb dX4_fail_26 (by decide) (fun c3 => ?_) (fun c3 => ?_)
      · have hf := (if_pos c3).symm.trans hf
        have er := Option.some.inj hf
        subst er
        exact wr_vret X hw hr dX4_fail_50
      · have hf := (if_neg c3).symm.trans hf
        refine lv_aload_n hx hb dX4_fail_29 rfl (lv_at hl 0 rfl) ?_
        refine lv_iload_n hx hb dX4_fail_30 rfl (lv_at hl 1 rfl) ?_
        obtain ⟨σ4, eσ4, hf⟩ := wlet_some hf
        refine pX4_3 X hw sC10 nC10 fl_X4_33 dX4_fail_31 (fun H locs hw => ?_)
        replace hw := hw.to eσ4
        refine lv_aload_n hx hb dX4_fail_34 rfl (lv_at hl 0 rfl) ?_
        refine lv_aload_n hx hb dX4_fail_35 rfl (lv_at hl 0 rfl) ?_
        refine gX4_0 (b := 11) X hw sC10 nC10 rfl fl_X4_23 dX4_fail_36 ?_
        refine gnX5_2 (b := 13) X hw sC11 nC11 rfl fn_X4_83 dX4_fail_39 ?_
        refine lv_aload_n hx hb dX4_fail_42 rfl (lv_at hl 0 rfl) ?_
        refine gX4_2 X hw sC10 nC10 fl_X4_77 dX4_fail_43 ?_
        obtain ⟨h5, hf⟩ := if_some hf
        refine wr_iald X hw sC13 nC13 h5 dX4_fail_46 ?_
        obtain ⟨σ6, eσ6, hf⟩ := wlet_some hf
        refine pX4_4 X hw sC10 nC10 fl_X4_87 dX4_fail_47 (fun H locs hw => ?_)
        replace hw := hw.to eσ6
        have er := Option.some.inj hf
        subst er
        exact wr_vret X hw hr dX4_fail_50

def f_X4_isNext (σ : St) (x1 : Int32) : Option (Int32) := if (σ.1 10 3) = 0 then (if (σ.1 10 2) < 0 then (some (0 : Int32)) else (if (402 : Int32) ≤ (σ.1 10 2) then (some (0 : Int32)) else (if ib (σ.1 10 2) 402 = true then if (σ.1 12 (Int32.toNatClampNeg (σ.1 10 2))) = x1 then (some (1 : Int32)) else (some (0 : Int32)) else none))) else (some (0 : Int32))
theorem hd_X4_isNext : yX4_isNext.cls = RX4 ∧ yX4_isNext.cls ≠ "java/lang/invoke/MethodHandle" ∧ yX4_isNext.cls ≠ "java/lang/invoke/VarHandle" ∧ (parseMethodDescriptor yX4_isNext.desc).map (fun d => d.parameters.length) = some 1 := by decide +kernel
set_option maxRecDepth 100000 in
set_option maxHeartbeats 4000000 in
theorem k_X4_isNext {l : Launch} {ad : Nat → Nat} {D : va_G} {cy : Nat → ClassId} {z : wStr} (hI : wI WC ad) {σ : St} {x1 : Int32}  {res : Int32} (hf : f_X4_isNext σ x1 = some res) : wC WC ad D cy z l yX4_isNext (Cond.code yX4_isNext cX4_isNext 2 (Option.some Jvm.ClassFile.FieldType.boolean) :: aw) (1) (100) [.ref (ad 10), .int x1] σ (wQi WC ad D cy res σ) := by
  unfold f_X4_isNext at hf
  refine wr_start (own := RX4) hI (by decide +kernel) rfl (Nat.le_of_ble_eq_true rfl) rfl ?_
  intro p e s m below meth c ls X hw hr hl
  have hx := X.hx
  have hb := X.hb
  obtain ⟨H, eH⟩ : ∃ H : Heap, H = s.heap := ⟨_, rfl⟩
  obtain ⟨locs, el⟩ : ∃ locs : List Loc, locs = [] := ⟨_, rfl⟩
  rw [← eH, ← el] at hw ⊢
  clear eH el
  replace hl : lv_has ls 2 [(0, .ref (ad 10)), (1, .int x1)] := hl
  refine lv_aload_n hx hb dX4_isNext_0 rfl (lv_at hl 0 rfl) ?_
  refine gX4_3 X hw sC10 nC10 fl_X4_33 dX4_isNext_1 ?_
  refine lv_if_ne (tgt := 49) hx hb dX4_isNext_4 (by decide) (fun c1 => ?_) (fun c1 => ?_)
  · have hf := (if_neg c1).symm.trans hf
    refine lv_iconst (v := 0) hx hb dX4_isNext_49 (by decide) ?_
    have er := Option.some.inj hf
    subst er
    exact wr_iret X hw hr (Or.inr ⟨rfl, (show bz (0 : Int32) = true from rfl)⟩) dX4_isNext_50
  · have hf := (if_pos c1).symm.trans hf
    refine lv_aload_n hx hb dX4_isNext_7 rfl (lv_at hl 0 rfl) ?_
    refine gX4_2 X hw sC10 nC10 fl_X4_77 dX4_isNext_8 ?_
    refine lv_if_lt (tgt := 49) hx hb dX4_isNext_11 (by decide) (fun c2 => ?_) (fun c2 => ?_)
    · have hf := (if_pos c2).symm.trans hf
      refine lv_iconst (v := 0) hx hb dX4_isNext_49 (by decide) ?_
      have er := Option.some.inj hf
      subst er
      exact wr_iret X hw hr (Or.inr ⟨rfl, (show bz (0 : Int32) = true from rfl)⟩) dX4_isNext_50
    · have hf := (if_neg c2).symm.trans hf
      refine lv_aload_n hx hb dX4_isNext_14 rfl (lv_at hl 0 rfl) ?_
      refine gX4_2 X hw sC10 nC10 fl_X4_77 dX4_isNext_15 ?_
      refine lv_aload_n hx hb dX4_isNext_18 rfl (lv_at hl 0 rfl) ?_
      refine gX4_0 (b := 11) X hw sC10 nC10 rfl fl_X4_23 dX4_isNext_19 ?_
      refine gnX5_1 (b := 12) X hw sC11 nC11 rfl fn_X4_93 dX4_isNext_22 ?_
      refine wr_alen X hw (t := 0) sC12 nC12 (by decide) (v := 402) (by decide) dX4_isNext_25 ?_
      refine lv_icmp_ge (tgt := 49) hx hb dX4_isNext_26 (by decide) (fun c3 => ?_) (fun c3 => ?_)
      · have hf := (if_pos c3).symm.trans hf
        refine lv_iconst (v := 0) hx hb dX4_isNext_49 (by decide) ?_
        have er := Option.some.inj hf
        subst er
        exact wr_iret X hw hr (Or.inr ⟨rfl, (show bz (0 : Int32) = true from rfl)⟩) dX4_isNext_50
      · have hf := (if_neg c3).symm.trans hf
        refine lv_aload_n hx hb dX4_isNext_29 rfl (lv_at hl 0 rfl) ?_
        refine gX4_0 (b := 11) X hw sC10 nC10 rfl fl_X4_23 dX4_isNext_30 ?_
        refine gnX5_1 (b := 12) X hw sC11 nC11 rfl fn_X4_93 dX4_isNext_33 ?_
        refine lv_aload_n hx hb dX4_isNext_36 rfl (lv_at hl 0 rfl) ?_
        refine gX4_2 X hw sC10 nC10 fl_X4_77 dX4_isNext_37 ?_
        obtain ⟨h4, hf⟩ := if_some hf
        refine wr_iald X hw sC12 nC12 h4 dX4_isNext_40 ?_
        refine lv_iload_n hx hb dX4_isNext_41 rfl (lv_at hl 1 rfl) ?_
        refine lv_icmp_ne (tgt := 49) hx hb dX4_isNext_42 (by decide) (fun c5 => ?_) (fun c5 => ?_)
        · have hf := (if_neg c5).symm.trans hf
          refine lv_iconst (v := 0) hx hb dX4_isNext_49 (by decide) ?_
          have er := Option.some.inj hf
          subst er
          exact wr_iret X hw hr (Or.inr ⟨rfl, (show bz (0 : Int32) = true from rfl)⟩) dX4_isNext_50
        · have hf := (if_pos c5).symm.trans hf
          refine lv_iconst (v := 1) hx hb dX4_isNext_45 (by decide) ?_
          refine lv_goto (tgt := 50) hx hb dX4_isNext_46 (by decide) ?_
          have er := Option.some.inj hf
          subst er
          exact wr_iret X hw hr (Or.inr ⟨rfl, (show bz (1 : Int32) = true from rfl)⟩) dX4_isNext_50

def f_X4_take (σ : St)  : Option (St) := if (σ.1 10 3) = 0 then (if (400 : Int32) < (σ.1 10 2) then (some σ) else (wlet (si σ 10 2 ((σ.1 10 2) + (1 : Int32))) fun σ3 => some σ3)) else (some σ)
theorem hd_X4_take : yX4_take.cls = RX4 ∧ yX4_take.cls ≠ "java/lang/invoke/MethodHandle" ∧ yX4_take.cls ≠ "java/lang/invoke/VarHandle" ∧ (parseMethodDescriptor yX4_take.desc).map (fun d => d.parameters.length) = some 0 := by decide +kernel
set_option maxRecDepth 100000 in
set_option maxHeartbeats 4000000 in
theorem k_X4_take {l : Launch} {ad : Nat → Nat} {D : va_G} {cy : Nat → ClassId} {z : wStr} (hI : wI WC ad) {σ : St}   {res : St} (hf : f_X4_take σ  = some res) : wC WC ad D cy z l yX4_take (Cond.code yX4_take cX4_take 1 (none) :: aw) (1) (100) [.ref (ad 10)] σ (wQv WC ad D cy res) := by
  unfold f_X4_take at hf
  refine wr_start (own := RX4) hI (by decide +kernel) rfl (Nat.le_of_ble_eq_true rfl) rfl ?_
  intro p e s m below meth c ls X hw hr hl
  have hx := X.hx
  have hb := X.hb
  obtain ⟨H, eH⟩ : ∃ H : Heap, H = s.heap := ⟨_, rfl⟩
  obtain ⟨locs, el⟩ : ∃ locs : List Loc, locs = [] := ⟨_, rfl⟩
  rw [← eH, ← el] at hw ⊢
  clear eH el
  replace hl : lv_has ls 1 [(0, .ref (ad 10))] := hl
  refine lv_aload_n hx hb dX4_take_0 rfl (lv_at hl 0 rfl) ?_
  refine gX4_3 X hw sC10 nC10 fl_X4_33 dX4_take_1 ?_
  refine lv_if_ne (tgt := 27) hx hb dX4_take_4 (by decide) (fun c1 => ?_) (fun c1 => ?_)
  · have hf := (if_neg c1).symm.trans hf
    have er := Option.some.inj hf
    subst er
    exact wr_vret X hw hr dX4_take_27
  · have hf := (if_pos c1).symm.trans hf
    refine lv_aload_n hx hb dX4_take_7 rfl (lv_at hl 0 rfl) ?_
    refine gX4_2 X hw sC10 nC10 fl_X4_77 dX4_take_8 ?_
    refine lv_sipush (v := 400) hx hb dX4_take_11 (by decide) ?_
    refine lv_icmp_gt (tgt := 27) hx hb dX4_take_14 (by decide) (fun c2 => ?_) (fun c2 => ?_)
    · have hf := (if_pos c2).symm.trans hf
      have er := Option.some.inj hf
      subst er
      exact wr_vret X hw hr dX4_take_27
    · have hf := (if_neg c2).symm.trans hf
      refine lv_aload_n hx hb dX4_take_17 rfl (lv_at hl 0 rfl) ?_
      refine lv_dup hx hb dX4_take_18 rfl ?_
      refine gX4_2 X hw sC10 nC10 fl_X4_77 dX4_take_19 ?_
      refine lv_iconst (v := 1) hx hb dX4_take_22 (by decide) ?_
      refine lv_iadd hx hb dX4_take_23 ?_
      obtain ⟨σ3, eσ3, hf⟩ := wlet_some hf
      refine pX4_2 X hw sC10 nC10 fl_X4_77 dX4_take_24 (fun H locs hw => ?_)
      replace hw := hw.to eσ3
      have er := Option.some.inj hf
      subst er
      exact wr_vret X hw hr dX4_take_27

def f_X4_expect (σ : St) (x1 : Int32) : Option (St) := Option.bind (f_X4_isNext σ x1) fun v2 => if v2 = 0 then (Option.bind (f_X4_fail σ (1 : Int32)) fun σ5 => some σ5) else (Option.bind (f_X4_take σ) fun σ7 => some σ7)
theorem hd_X4_expect : yX4_expect.cls = RX4 ∧ yX4_expect.cls ≠ "java/lang/invoke/MethodHandle" ∧ yX4_expect.cls ≠ "java/lang/invoke/VarHandle" ∧ (parseMethodDescriptor yX4_expect.desc).map (fun d => d.parameters.length) = some 1 := by decide +kernel
set_option maxRecDepth 100000 in
set_option maxHeartbeats 4000000 in
theorem k_X4_expect {l : Launch} {ad : Nat → Nat} {D : va_G} {cy : Nat → ClassId} {z : wStr} (hI : wI WC ad) {σ : St} {x1 : Int32}  {res : St} (hf : f_X4_expect σ x1 = some res) : wC WC ad D cy z l yX4_expect (Cond.code yX4_expect cX4_expect 2 (none) :: aw) (2) (121) [.ref (ad 10), .int x1] σ (wQv WC ad D cy res) := by
  unfold f_X4_expect at hf
  refine wr_start (own := RX4) hI (by decide +kernel) rfl (Nat.le_of_ble_eq_true rfl) rfl ?_
  intro p e s m below meth c ls X hw hr hl
  have hx := X.hx
  have hb := X.hb
  obtain ⟨H, eH⟩ : ∃ H : Heap, H = s.heap := ⟨_, rfl⟩
  obtain ⟨locs, el⟩ : ∃ locs : List Loc, locs = [] := ⟨_, rfl⟩
  rw [← eH, ← el] at hw ⊢
  clear eH el
  replace hl : lv_has ls 2 [(0, .ref (ad 10)), (1, .int x1)] := hl
  refine lv_aload_n hx hb dX4_expect_0 rfl (lv_at hl 0 rfl) ?_
  refine lv_iload_n hx hb dX4_expect_1 rfl (lv_at hl 1 rfl) ?_
  obtain ⟨v2, hq1, hf⟩ := bind_some hf
  refine wr_cVi (r := v2) (σ' := σ) (av := [.int x1]) (rest := []) X hw hl.1 sC10 nC10 rfl (k_X4_isNext hI hq1) rfl ml_X4_37 im_X4_isNext se_X4_isNext ini_X4 co_X4_isNext hd_X4_isNext ⟨Nat.le_of_ble_eq_true rfl, Nat.le_of_ble_eq_true rfl⟩ (Nat.le_of_ble_eq_true rfl) dX4_expect_2 rfl (fun H locs hw => ?_)
  refine lv_if_eq (tgt := 15) hx hb dX4_expect_5 (by decide) (fun c3 => ?_) (fun c3 => ?_)
  · have hf := (if_pos c3).symm.trans hf
    refine lv_aload_n hx hb dX4_expect_15 rfl (lv_at hl 0 rfl) ?_
    refine lv_iconst (v := 1) hx hb dX4_expect_16 (by decide) ?_
    obtain ⟨σ5, hq4, hf⟩ := bind_some hf
    refine wr_cVv (σ' := σ5) (av := [.int (1 : Int32)]) (rest := []) X hw hl.1 sC10 nC10 rfl (k_X4_fail hI hq4) rfl ml_X4_65 im_X4_fail se_X4_fail ini_X4 co_X4_fail hd_X4_fail ⟨Nat.le_of_ble_eq_true rfl, Nat.le_of_ble_eq_true rfl⟩ (Nat.le_of_ble_eq_true rfl) dX4_expect_17 rfl (fun H locs hw => ?_)
    have er := Option.some.inj hf
    subst er
    exact wr_vret X hw hr dX4_expect_20
  · have hf := (if_neg c3).symm.trans hf
    refine lv_aload_n hx hb dX4_expect_8 rfl (lv_at hl 0 rfl) ?_
    obtain ⟨σ7, hq6, hf⟩ := bind_some hf
    refine wr_cVv (σ' := σ7) (av := []) (rest := []) X hw hl.1 sC10 nC10 rfl (k_X4_take hI hq6) rfl ml_X4_48 im_X4_take se_X4_take ini_X4 co_X4_take hd_X4_take ⟨Nat.le_of_ble_eq_true rfl, Nat.le_of_ble_eq_true rfl⟩ (Nat.le_of_ble_eq_true rfl) dX4_expect_9 rfl (fun H locs hw => ?_)
    refine lv_goto (tgt := 20) hx hb dX4_expect_12 (by decide) ?_
    have er := Option.some.inj hf
    subst er
    exact wr_vret X hw hr dX4_expect_20

def f_X4_findFirstFault (σ : St)  : Option (St) := if (σ.1 10 2) ≤ (400 : Int32) then (if (σ.1 10 3) = 0 then (wlet (si σ 10 3 (σ.1 10 5)) fun σ3 => wlet (si σ3 10 4 (σ3.1 10 6)) fun σ4 => some σ4) else (some σ)) else (wlet (si σ 10 3 (2 : Int32)) fun σ5 => if ib (400 : Int32) 402 = true then wlet (si σ5 10 4 (σ5.1 13 (Int32.toNatClampNeg (400 : Int32)))) fun σ7 => some σ7 else none)
theorem hd_X4_findFirstFault : yX4_findFirstFault.cls = RX4 ∧ yX4_findFirstFault.cls ≠ "java/lang/invoke/MethodHandle" ∧ yX4_findFirstFault.cls ≠ "java/lang/invoke/VarHandle" ∧ (parseMethodDescriptor yX4_findFirstFault.desc).map (fun d => d.parameters.length) = some 0 := by decide +kernel
set_option maxRecDepth 100000 in
set_option maxHeartbeats 4000000 in
theorem k_X4_findFirstFault {l : Launch} {ad : Nat → Nat} {D : va_G} {cy : Nat → ClassId} {z : wStr} (hI : wI WC ad) {σ : St}   {res : St} (hf : f_X4_findFirstFault σ  = some res) : wC WC ad D cy z l yX4_findFirstFault (Cond.code yX4_findFirstFault cX4_findFirstFault 1 (none) :: aw) (1) (100) [.ref (ad 10)] σ (wQv WC ad D cy res) := by
  unfold f_X4_findFirstFault at hf
  refine wr_start (own := RX4) hI (by decide +kernel) rfl (Nat.le_of_ble_eq_true rfl) rfl ?_
  intro p e s m below meth c ls X hw hr hl
  have hx := X.hx
  have hb := X.hb
  obtain ⟨H, eH⟩ : ∃ H : Heap, H = s.heap := ⟨_, rfl⟩
  obtain ⟨locs, el⟩ : ∃ locs : List Loc, locs = [] := ⟨_, rfl⟩
  rw [← eH, ← el] at hw ⊢
  clear eH el
  replace hl : lv_has ls 1 [(0, .ref (ad 10))] := hl
  refine lv_aload_n hx hb dX4_findFirstFault_0 rfl (lv_at hl 0 rfl) ?_
  refine gX4_2 X hw sC10 nC10 fl_X4_77 dX4_findFirstFault_1 ?_
  refine lv_sipush (v := 400) hx hb dX4_findFirstFault_4 (by decide) ?_
  refine lv_icmp_le (tgt := 33) hx hb dX4_findFirstFault_7 (by decide) (fun c1 => ?_) (fun c1 => ?_)
  · have hf := (if_pos c1).symm.trans hf
    refine lv_aload_n hx hb dX4_findFirstFault_33 rfl (lv_at hl 0 rfl) ?_
    refine gX4_3 X hw sC10 nC10 fl_X4_33 dX4_findFirstFault_34 ?_
    refine lv_if_ne (tgt := 56) hx hb dX4_findFirstFault_37 (by decide) (fun c2 => ?_) (fun c2 => ?_)
    · have hf := (if_neg c2).symm.trans hf
      have er := Option.some.inj hf
      subst er
      exact wr_vret X hw hr dX4_findFirstFault_56
    · have hf := (if_pos c2).symm.trans hf
      refine lv_aload_n hx hb dX4_findFirstFault_40 rfl (lv_at hl 0 rfl) ?_
      refine lv_aload_n hx hb dX4_findFirstFault_41 rfl (lv_at hl 0 rfl) ?_
      refine gX4_5 X hw sC10 nC10 fl_X4_80 dX4_findFirstFault_42 ?_
      obtain ⟨σ3, eσ3, hf⟩ := wlet_some hf
      refine pX4_3 X hw sC10 nC10 fl_X4_33 dX4_findFirstFault_45 (fun H locs hw => ?_)
      replace hw := hw.to eσ3
      refine lv_aload_n hx hb dX4_findFirstFault_48 rfl (lv_at hl 0 rfl) ?_
      refine lv_aload_n hx hb dX4_findFirstFault_49 rfl (lv_at hl 0 rfl) ?_
      refine gX4_6 X hw sC10 nC10 fl_X4_90 dX4_findFirstFault_50 ?_
      obtain ⟨σ4, eσ4, hf⟩ := wlet_some hf
      refine pX4_4 X hw sC10 nC10 fl_X4_87 dX4_findFirstFault_53 (fun H locs hw => ?_)
      replace hw := hw.to eσ4
      have er := Option.some.inj hf
      subst er
      exact wr_vret X hw hr dX4_findFirstFault_56
  · have hf := (if_neg c1).symm.trans hf
    refine lv_aload_n hx hb dX4_findFirstFault_10 rfl (lv_at hl 0 rfl) ?_
    refine lv_iconst (v := 2) hx hb dX4_findFirstFault_11 (by decide) ?_
    obtain ⟨σ5, eσ5, hf⟩ := wlet_some hf
    refine pX4_3 X hw sC10 nC10 fl_X4_33 dX4_findFirstFault_12 (fun H locs hw => ?_)
    replace hw := hw.to eσ5
    refine lv_aload_n hx hb dX4_findFirstFault_15 rfl (lv_at hl 0 rfl) ?_
    refine lv_aload_n hx hb dX4_findFirstFault_16 rfl (lv_at hl 0 rfl) ?_
    refine gX4_0 (b := 11) X hw sC10 nC10 rfl fl_X4_23 dX4_findFirstFault_17 ?_
    refine gnX5_2 (b := 13) X hw sC11 nC11 rfl fn_X4_83 dX4_findFirstFault_20 ?_
    refine lv_sipush (v := 400) hx hb dX4_findFirstFault_23 (by decide) ?_
    obtain ⟨h6, hf⟩ := if_some hf
    refine wr_iald X hw sC13 nC13 h6 dX4_findFirstFault_26 ?_
    obtain ⟨σ7, eσ7, hf⟩ := wlet_some hf
    refine pX4_4 X hw sC10 nC10 fl_X4_87 dX4_findFirstFault_27 (fun H locs hw => ?_)
    replace hw := hw.to eσ7
    refine lv_goto (tgt := 56) hx hb dX4_findFirstFault_30 (by decide) ?_
    have er := Option.some.inj hf
    subst er
    exact wr_vret X hw hr dX4_findFirstFault_56

def f_X4_kind (σ : St)  : Option (Int32) := if (σ.1 10 2) < 0 then (some (0 : Int32)) else (if (402 : Int32) ≤ (σ.1 10 2) then (some (0 : Int32)) else (if ib (σ.1 10 2) 402 = true then some (σ.1 12 (Int32.toNatClampNeg (σ.1 10 2))) else none))
theorem hd_X4_kind : yX4_kind.cls = RX4 ∧ yX4_kind.cls ≠ "java/lang/invoke/MethodHandle" ∧ yX4_kind.cls ≠ "java/lang/invoke/VarHandle" ∧ (parseMethodDescriptor yX4_kind.desc).map (fun d => d.parameters.length) = some 0 := by decide +kernel
set_option maxRecDepth 100000 in
set_option maxHeartbeats 4000000 in
theorem k_X4_kind {l : Launch} {ad : Nat → Nat} {D : va_G} {cy : Nat → ClassId} {z : wStr} (hI : wI WC ad) {σ : St}   {res : Int32} (hf : f_X4_kind σ  = some res) : wC WC ad D cy z l yX4_kind (Cond.code yX4_kind cX4_kind 1 (Option.some Jvm.ClassFile.FieldType.int) :: aw) (1) (100) [.ref (ad 10)] σ (wQi WC ad D cy res σ) := by
  unfold f_X4_kind at hf
  refine wr_start (own := RX4) hI (by decide +kernel) rfl (Nat.le_of_ble_eq_true rfl) rfl ?_
  intro p e s m below meth c ls X hw hr hl
  have hx := X.hx
  have hb := X.hb
  obtain ⟨H, eH⟩ : ∃ H : Heap, H = s.heap := ⟨_, rfl⟩
  obtain ⟨locs, el⟩ : ∃ locs : List Loc, locs = [] := ⟨_, rfl⟩
  rw [← eH, ← el] at hw ⊢
  clear eH el
  replace hl : lv_has ls 1 [(0, .ref (ad 10))] := hl
  refine lv_aload_n hx hb dX4_kind_0 rfl (lv_at hl 0 rfl) ?_
  refine gX4_2 X hw sC10 nC10 fl_X4_77 dX4_kind_1 ?_
  refine lv_if_lt (tgt := 37) hx hb dX4_kind_4 (by decide) (fun c1 => ?_) (fun c1 => ?_)
  · have hf := (if_pos c1).symm.trans hf
    refine lv_iconst (v := 0) hx hb dX4_kind_37 (by decide) ?_
    have er := Option.some.inj hf
    subst er
    exact wr_iret X hw hr (Or.inl rfl) dX4_kind_38
  · have hf := (if_neg c1).symm.trans hf
    refine lv_aload_n hx hb dX4_kind_7 rfl (lv_at hl 0 rfl) ?_
    refine gX4_2 X hw sC10 nC10 fl_X4_77 dX4_kind_8 ?_
    refine lv_aload_n hx hb dX4_kind_11 rfl (lv_at hl 0 rfl) ?_
    refine gX4_0 (b := 11) X hw sC10 nC10 rfl fl_X4_23 dX4_kind_12 ?_
    refine gnX5_1 (b := 12) X hw sC11 nC11 rfl fn_X4_93 dX4_kind_15 ?_
    refine wr_alen X hw (t := 0) sC12 nC12 (by decide) (v := 402) (by decide) dX4_kind_18 ?_
    refine lv_icmp_ge (tgt := 37) hx hb dX4_kind_19 (by decide) (fun c2 => ?_) (fun c2 => ?_)
    · have hf := (if_pos c2).symm.trans hf
      refine lv_iconst (v := 0) hx hb dX4_kind_37 (by decide) ?_
      have er := Option.some.inj hf
      subst er
      exact wr_iret X hw hr (Or.inl rfl) dX4_kind_38
    · have hf := (if_neg c2).symm.trans hf
      refine lv_aload_n hx hb dX4_kind_22 rfl (lv_at hl 0 rfl) ?_
      refine gX4_0 (b := 11) X hw sC10 nC10 rfl fl_X4_23 dX4_kind_23 ?_
      refine gnX5_1 (b := 12) X hw sC11 nC11 rfl fn_X4_93 dX4_kind_26 ?_
      refine lv_aload_n hx hb dX4_kind_29 rfl (lv_at hl 0 rfl) ?_
      refine gX4_2 X hw sC10 nC10 fl_X4_77 dX4_kind_30 ?_
      obtain ⟨h3, hf⟩ := if_some hf
      refine wr_iald X hw sC12 nC12 h3 dX4_kind_33 ?_
      refine lv_goto (tgt := 38) hx hb dX4_kind_34 (by decide) ?_
      have er := Option.some.inj hf
      subst er
      exact wr_iret X hw hr (Or.inl rfl) dX4_kind_38

def f_X4_failLate (σ : St) (x1 : Int32) : Option (St) := if (σ.1 10 5) = 0 then (if (σ.1 10 2) < 0 then (some σ) else (if (402 : Int32) ≤ (σ.1 10 2) then (some σ) else (wlet (si σ 10 5 x1) fun σ4 => if ib (σ4.1 10 2) 402 = true then wlet (si σ4 10 6 (σ4.1 13 (Int32.toNatClampNeg (σ4.1 10 2)))) fun σ6 => some σ6 else none))) else (some σ)
theorem hd_X4_failLate : yX4_failLate.cls = RX4 ∧ yX4_failLate.cls ≠ "java/lang/invoke/MethodHandle" ∧ yX4_failLate.cls ≠ "java/lang/invoke/VarHandle" ∧ (parseMethodDescriptor yX4_failLate.desc).map (fun d => d.parameters.length) = some 1 := by decide +kernel
set_option maxRecDepth 100000 in
set_option maxHeartbeats 4000000 in
theorem k_X4_failLate {l : Launch} {ad : Nat → Nat} {D : va_G} {cy : Nat → ClassId} {z : wStr} (hI : wI WC ad) {σ : St} {x1 : Int32}  {res : St} (hf : f_X4_failLate σ x1 = some res) : wC WC ad D cy z l yX4_failLate (Cond.code yX4_failLate cX4_failLate 2 (none) :: aw) (1) (100) [.ref (ad 10), .int x1] σ (wQv WC ad D cy res) := by
  unfold f_X4_failLate at hf
  refine wr_start (own := RX4) hI (by decide +kernel) rfl (Nat.le_of_ble_eq_true rfl) rfl ?_
  intro p e s m below meth c ls X hw hr hl
  have hx := X.hx
  have hb := X.hb
  obtain ⟨H, eH⟩ : ∃ H : Heap, H = s.heap := ⟨_, rfl⟩
  obtain ⟨locs, el⟩ : ∃ locs : List Loc, locs = [] := ⟨_, rfl⟩
  rw [← eH, ← el] at hw ⊢
  clear eH el
  replace hl : lv_has ls 2 [(0, .ref (ad 10)), (1, .int x1)] := hl
  refine lv_aload_n hx hb dX4_failLate_0 rfl (lv_at hl 0 rfl) ?_
  refine gX4_5 X hw sC10 nC10 fl_X4_80 dX4_failLate_1 ?_
  refine lv_if_ne (tgt := 50) hx hb dX4_failLate_4 (by decide) (fun c1 => ?_) (fun c1 => ?_)
  · have hf := (if_neg c1).symm.trans hf
    have er := Option.some.inj hf
    subst er
    exact wr_vret X hw hr dX4_failLate_50
  · have hf := (if_pos c1).symm.trans hf
    refine lv_aload_n hx hb dX4_failLate_7 rfl (lv_at hl 0 rfl) ?_
    refine gX4_2 X hw sC10 nC10 fl_X4_77 dX4_failLate_8 ?_
    refine lv_if_lt (tgt := 50) hx hb dX4_failLate_11 (by decide) (fun c2 => ?_) (fun c2 => ?_)
    · have hf := (if_pos c2).symm.trans hf
      have er := Option.some.inj hf
      subst er
      exact wr_vret X hw hr dX4_failLate_50
    · have hf := (if_neg c2).symm.trans hf
      refine lv_aload_n hx hb dX4_failLate_14 rfl (lv_at hl 0 rfl) ?_
      refine gX4_2 X hw sC10 nC10 fl_X4_77 dX4_failLate_15 ?_
      refine lv_aload_n hx hb dX4_failLate_18 rfl (lv_at hl 0 rfl) ?_
      refine gX4_0 (b := 11) X hw sC10 nC10 rfl fl_X4_23 dX4_failLate_19 ?_
      refine gnX5_2 (b := 13) X hw sC11 nC11 rfl fn_X4_83 dX4_failLate_22 ?_
      refine wr_alen X hw (t := 0) sC13 nC13 (by decide) (v := 402) (by decide) dX4_failLate_25 ?_
      refine lv_icmp_ge (tgt := 50) hx hb dX4_failLate_26 (by decide) (fun c3 => ?_) (fun c3 => ?_)
      · have hf := (if_pos c3).symm.trans hf
        have er := Option.some.inj hf
        subst er
        exact wr_vret X hw hr dX4_failLate_50
      · have hf := (if_neg c3).symm.trans hf
        refine lv_aload_n hx hb dX4_failLate_29 rfl (lv_at hl 0 rfl) ?_
        refine lv_iload_n hx hb dX4_failLate_30 rfl (lv_at hl 1 rfl) ?_
        obtain ⟨σ4, eσ4, hf⟩ := wlet_some hf
        refine pX4_5 X hw sC10 nC10 fl_X4_80 dX4_failLate_31 (fun H locs hw => ?_)
        replace hw := hw.to eσ4
        refine lv_aload_n hx hb dX4_failLate_34 rfl (lv_at hl 0 rfl) ?_
        refine lv_aload_n hx hb dX4_failLate_35 rfl (lv_at hl 0 rfl) ?_
        refine gX4_0 (b := 11) X hw sC10 nC10 rfl fl_X4_23 dX4_failLate_36 ?_
        refine gnX5_2 (b := 13) X hw sC11 nC11 rfl fn_X4_83 dX4_failLate_39 ?_
        refine lv_aload_n hx hb dX4_failLate_42 rfl (lv_at hl 0 rfl) ?_
        refine gX4_2 X hw sC10 nC10 fl_X4_77 dX4_failLate_43 ?_
        obtain ⟨h5, hf⟩ := if_some hf
        refine wr_iald X hw sC13 nC13 h5 dX4_failLate_46 ?_
        obtain ⟨σ6, eσ6, hf⟩ := wlet_some hf
        refine pX4_6 X hw sC10 nC10 fl_X4_90 dX4_failLate_47 (fun H locs hw => ?_)
        replace hw := hw.to eσ6
        have er := Option.some.inj hf
        subst er
        exact wr_vret X hw hr dX4_failLate_50

def f_X4_value (σ : St)  : Option (Int64) := if (σ.1 10 2) < 0 then (some (0 : Int64)) else (if (402 : Int32) ≤ (σ.1 10 2) then (some (0 : Int64)) else (if ib (σ.1 10 2) 402 = true then some (σ.2 14 (Int32.toNatClampNeg (σ.1 10 2))) else none))
theorem hd_X4_value : yX4_value.cls = RX4 ∧ yX4_value.cls ≠ "java/lang/invoke/MethodHandle" ∧ yX4_value.cls ≠ "java/lang/invoke/VarHandle" ∧ (parseMethodDescriptor yX4_value.desc).map (fun d => d.parameters.length) = some 0 := by decide +kernel
set_option maxRecDepth 100000 in
set_option maxHeartbeats 4000000 in
theorem k_X4_value {l : Launch} {ad : Nat → Nat} {D : va_G} {cy : Nat → ClassId} {z : wStr} (hI : wI WC ad) {σ : St}   {res : Int64} (hf : f_X4_value σ  = some res) : wC WC ad D cy z l yX4_value (Cond.code yX4_value cX4_value 1 (Option.some Jvm.ClassFile.FieldType.long) :: aw) (1) (100) [.ref (ad 10)] σ (wQl WC ad D cy res σ) := by
  unfold f_X4_value at hf
  refine wr_start (own := RX4) hI (by decide +kernel) rfl (Nat.le_of_ble_eq_true rfl) rfl ?_
  intro p e s m below meth c ls X hw hr hl
  have hx := X.hx
  have hb := X.hb
  obtain ⟨H, eH⟩ : ∃ H : Heap, H = s.heap := ⟨_, rfl⟩
  obtain ⟨locs, el⟩ : ∃ locs : List Loc, locs = [] := ⟨_, rfl⟩
  rw [← eH, ← el] at hw ⊢
  clear eH el
  replace hl : lv_has ls 1 [(0, .ref (ad 10))] := hl
  refine lv_aload_n hx hb dX4_value_0 rfl (lv_at hl 0 rfl) ?_
  refine gX4_2 X hw sC10 nC10 fl_X4_77 dX4_value_1 ?_
  refine lv_if_lt (tgt := 37) hx hb dX4_value_4 (by decide) (fun c1 => ?_) (fun c1 => ?_)
  · have hf := (if_pos c1).symm.trans hf
    refine lv_lconst (v := 0) hx hb dX4_value_37 (by decide) ?_
    have er := Option.some.inj hf
    subst er
    exact wr_lret X hw hr dX4_value_38
  · have hf := (if_neg c1).symm.trans hf
    refine lv_aload_n hx hb dX4_value_7 rfl (lv_at hl 0 rfl) ?_
    refine gX4_2 X hw sC10 nC10 fl_X4_77 dX4_value_8 ?_
    refine lv_aload_n hx hb dX4_value_11 rfl (lv_at hl 0 rfl) ?_
    refine gX4_0 (b := 11) X hw sC10 nC10 rfl fl_X4_23 dX4_value_12 ?_
    refine gnX5_3 (b := 14) X hw sC11 nC11 rfl fn_X4_96 dX4_value_15 ?_
    refine wr_alen X hw (t := 1) sC14 nC14 (by decide) (v := 402) (by decide) dX4_value_18 ?_
    refine lv_icmp_ge (tgt := 37) hx hb dX4_value_19 (by decide) (fun c2 => ?_) (fun c2 => ?_)
    · have hf := (if_pos c2).symm.trans hf
      refine lv_lconst (v := 0) hx hb dX4_value_37 (by decide) ?_
      have er := Option.some.inj hf
      subst er
      exact wr_lret X hw hr dX4_value_38
    · have hf := (if_neg c2).symm.trans hf
      refine lv_aload_n hx hb dX4_value_22 rfl (lv_at hl 0 rfl) ?_
      refine gX4_0 (b := 11) X hw sC10 nC10 rfl fl_X4_23 dX4_value_23 ?_
      refine gnX5_3 (b := 14) X hw sC11 nC11 rfl fn_X4_96 dX4_value_26 ?_
      refine lv_aload_n hx hb dX4_value_29 rfl (lv_at hl 0 rfl) ?_
      refine gX4_2 X hw sC10 nC10 fl_X4_77 dX4_value_30 ?_
      obtain ⟨h3, hf⟩ := if_some hf
      refine wr_lald X hw sC14 nC14 h3 dX4_value_33 ?_
      refine lv_goto (tgt := 38) hx hb dX4_value_34 (by decide) ?_
      have er := Option.some.inj hf
      subst er
      exact wr_lret X hw hr dX4_value_38

def f_X4_readNumber (σ : St) (x1 : Int32) : Option (Int32 × St) := Option.bind (f_X4_value σ) fun v2 => Option.bind (f_X4_isNext σ (3 : Int32)) fun v4 => wlet (fun (σ_25_5 : St) => (Option.bind (f_X4_expect σ_25_5 (3 : Int32)) fun σ7 => some ((Int64.toInt32 v2), σ7) : Option (Int32 × St))) fun k25_5 => if v4 = 0 then (k25_5 σ) else (if (lg_cmp v2 (Int32.toInt64 x1)) ≤ 0 then (k25_5 σ) else (Option.bind (f_X4_failLate σ (5 : Int32)) fun σ11 => k25_5 σ11))
theorem hd_X4_readNumber : yX4_readNumber.cls = RX4 ∧ yX4_readNumber.cls ≠ "java/lang/invoke/MethodHandle" ∧ yX4_readNumber.cls ≠ "java/lang/invoke/VarHandle" ∧ (parseMethodDescriptor yX4_readNumber.desc).map (fun d => d.parameters.length) = some 1 := by decide +kernel
set_option maxRecDepth 100000 in
set_option maxHeartbeats 4000000 in
theorem k_X4_readNumber {l : Launch} {ad : Nat → Nat} {D : va_G} {cy : Nat → ClassId} {z : wStr} (hI : wI WC ad) {σ : St} {x1 : Int32}  {res : Int32 × St} (hf : f_X4_readNumber σ x1 = some res) : wC WC ad D cy z l yX4_readNumber (Cond.code yX4_readNumber cX4_readNumber 4 (Option.some Jvm.ClassFile.FieldType.int) :: aw) (3) (142) [.ref (ad 10), .int x1] σ (wQi WC ad D cy res.1 res.2) := by
  unfold f_X4_readNumber at hf
  refine wr_start (own := RX4) hI (by decide +kernel) rfl (Nat.le_of_ble_eq_true rfl) rfl ?_
  intro p e s m below meth c ls X hw hr hl
  have hx := X.hx
  have hb := X.hb
  obtain ⟨H, eH⟩ : ∃ H : Heap, H = s.heap := ⟨_, rfl⟩
  obtain ⟨locs, el⟩ : ∃ locs : List Loc, locs = [] := ⟨_, rfl⟩
  rw [← eH, ← el] at hw ⊢
  clear eH el
  replace hl : lv_has ls 4 [(0, .ref (ad 10)), (1, .int x1)] := hl
  refine lv_aload_n hx hb dX4_readNumber_0 rfl (lv_at hl 0 rfl) ?_
  obtain ⟨v2, hq1, hf⟩ := bind_some hf
  refine wr_cVl (r := v2) (σ' := σ) (av := []) (rest := []) X hw hl.1 sC10 nC10 rfl (k_X4_value hI hq1) rfl ml_X4_103 im_X4_value se_X4_value ini_X4 co_X4_value hd_X4_value ⟨Nat.le_of_ble_eq_true rfl, Nat.le_of_ble_eq_true rfl⟩ (Nat.le_of_ble_eq_true rfl) dX4_readNumber_1 rfl (fun H locs hw => ?_)
  refine lv_lstore_n (lv' := [(2, .long v2), (0, .ref (ad 10)), (1, .int x1)]) hx hb dX4_readNumber_4 rfl hl (by decide) rfl (fun ls hl => ?_)
  refine lv_aload_n hx hb dX4_readNumber_5 rfl (lv_at hl 1 rfl) ?_
  refine lv_iconst (v := 3) hx hb dX4_readNumber_6 (by decide) ?_
  obtain ⟨v4, hq3, hf⟩ := bind_some hf
  refine wr_cVi (r := v4) (σ' := σ) (av := [.int (3 : Int32)]) (rest := []) X hw hl.1 sC10 nC10 rfl (k_X4_isNext hI hq3) rfl ml_X4_37 im_X4_isNext se_X4_isNext ini_X4 co_X4_isNext hd_X4_isNext ⟨Nat.le_of_ble_eq_true rfl, Nat.le_of_ble_eq_true rfl⟩ (Nat.le_of_ble_eq_true rfl) dX4_readNumber_7 rfl (fun H locs hw => ?_)
  obtain ⟨k25_5, ek25_5, hf0⟩ := wlet_some hf
  have j25_5 : ∀ (σ_25_5 : St) (_ : k25_5 σ_25_5 = some res) (ls : Array Slot) (H : Heap) (locs : List Loc), lv_has ls 4 [(0, .ref (ad 10)), (2, .long v2)] → wH WC ad D cy s σ_25_5 H locs → W p l e { frames := 3, cells := 0, slots := 0, locals := 142 } s m [.ref (ad 10), .int x1].toArray below meth c H locs 0 0 (MQ below (wQi WC ad D cy res.1 res.2) [.ref (ad 10), .int x1].toArray s 0 0 (wA WC ad)) (F0 m 25 ls []) := by
    intro σ_25_5 hf ls H locs hl hw
    rw [ek25_5] at hf
    refine lv_aload_n hx hb dX4_readNumber_25 rfl (lv_at hl 0 rfl) ?_
    refine lv_iconst (v := 3) hx hb dX4_readNumber_26 (by decide) ?_
    obtain ⟨σ7, hq6, hf⟩ := bind_some hf
    refine wr_cVv (σ' := σ7) (av := [.int (3 : Int32)]) (rest := []) X hw hl.1 sC10 nC10 rfl (k_X4_expect hI hq6) rfl ml_X4_68 im_X4_expect se_X4_expect ini_X4 co_X4_expect hd_X4_expect ⟨Nat.le_of_ble_eq_true rfl, Nat.le_of_ble_eq_true rfl⟩ (Nat.le_of_ble_eq_true rfl) dX4_readNumber_27 rfl (fun H locs hw => ?_)
    refine lv_lload_n hx hb dX4_readNumber_30 rfl (lv_at hl 1 rfl) ?_
    refine lv_l2i hx hb dX4_readNumber_31 rfl ?_
    have er := Option.some.inj hf
    subst er
    exact wr_iret X hw hr (Or.inl rfl) dX4_readNumber_32
  replace hf := hf0
  refine lv_if_eq (tgt := 25) hx hb dX4_readNumber_10 (by decide) (fun c8 => ?_) (fun c8 => ?_)
  · have hf := (if_pos c8).symm.trans hf
    exact j25_5 σ hf ls H locs (lv_sub hl [1, 0] rfl) hw
  · have hf := (if_neg c8).symm.trans hf
    refine lv_lload_n hx hb dX4_readNumber_13 rfl (lv_at hl 0 rfl) ?_
    refine lv_iload_n hx hb dX4_readNumber_14 rfl (lv_at hl 2 rfl) ?_
    refine lv_i2l hx hb dX4_readNumber_15 rfl ?_
    refine W.lcmp hx hb dX4_readNumber_16 ?_
    refine lv_if_le (tgt := 25) hx hb dX4_readNumber_17 (by decide) (fun c9 => ?_) (fun c9 => ?_)
    · have hf := (if_pos c9).symm.trans hf
      exact j25_5 σ hf ls H locs (lv_sub hl [1, 0] rfl) hw
    · have hf := (if_neg c9).symm.trans hf
      refine lv_aload_n hx hb dX4_readNumber_20 rfl (lv_at hl 1 rfl) ?_
      refine lv_iconst (v := 5) hx hb dX4_readNumber_21 (by decide) ?_
      obtain ⟨σ11, hq10, hf⟩ := bind_some hf
      refine wr_cVv (σ' := σ11) (av := [.int (5 : Int32)]) (rest := []) X hw hl.1 sC10 nC10 rfl (k_X4_failLate hI hq10) rfl ml_X4_111 im_X4_failLate se_X4_failLate ini_X4 co_X4_failLate hd_X4_failLate ⟨Nat.le_of_ble_eq_true rfl, Nat.le_of_ble_eq_true rfl⟩ (Nat.le_of_ble_eq_true rfl) dX4_readNumber_22 rfl (fun H locs hw => ?_)
      exact j25_5 σ11 hf ls H locs (lv_sub hl [1, 0] rfl) hw

def f_X4_readCase (σ : St)  : Option (St) := if (σ.1 15 6) < (7 : Int32) then (Option.bind (f_X4_take σ) fun σ3 => Option.bind (f_X4_value σ3) fun v5 => Option.bind (f_X4_isNext σ3 (2 : Int32)) fun v7 => wlet (fun (σ_51_8 : St) => (Option.bind (f_X4_expect σ_51_8 (2 : Int32)) fun σ10 => bnd2 (f_X4_readNumber σ10 (99 : Int32)) fun v12 σ13 => bnd2 (f_X4_readNumber σ13 (99 : Int32)) fun v15 σ16 => Option.bind (f_X8_addCase σ16 15 v5 v12 v15) fun σ18 => some σ18 : Option (St))) fun k51_8 => if v7 = 0 then (k51_8 σ3) else (Option.bind (f_X8_isNamed σ3 15 v5) fun v21 => if v21 = 0 then (k51_8 σ3) else (Option.bind (f_X4_failLate σ3 (3 : Int32)) fun σ24 => k51_8 σ24))) else (Option.bind (f_X4_fail σ (2 : Int32)) fun σ26 => some σ26)
theorem hd_X4_readCase : yX4_readCase.cls = RX4 ∧ yX4_readCase.cls ≠ "java/lang/invoke/MethodHandle" ∧ yX4_readCase.cls ≠ "java/lang/invoke/VarHandle" ∧ (parseMethodDescriptor yX4_readCase.desc).map (fun d => d.parameters.length) = some 0 := by decide +kernel
set_option maxRecDepth 100000 in
set_option maxHeartbeats 4000000 in
theorem k_X4_readCase {l : Launch} {ad : Nat → Nat} {D : va_G} {cy : Nat → ClassId} {z : wStr} (hI : wI WC ad) {σ : St}   {res : St} (hf : f_X4_readCase σ  = some res) : wC WC ad D cy z l yX4_readCase (Cond.code yX4_readCase cX4_readCase 5 (none) :: aw) (4) (165) [.ref (ad 10)] σ (wQv WC ad D cy res) := by
  unfold f_X4_readCase at hf
  refine wr_start (own := RX4) hI (by decide +kernel) rfl (Nat.le_of_ble_eq_true rfl) rfl ?_
  intro p e s m below meth c ls X hw hr hl
  have hx := X.hx
  have hb := X.hb
  obtain ⟨H, eH⟩ : ∃ H : Heap, H = s.heap := ⟨_, rfl⟩
  obtain ⟨locs, el⟩ : ∃ locs : List Loc, locs = [] := ⟨_, rfl⟩
  rw [← eH, ← el] at hw ⊢
  clear eH el
  replace hl : lv_has ls 5 [(0, .ref (ad 10))] := hl
  refine lv_aload_n hx hb dX4_readCase_0 rfl (lv_at hl 0 rfl) ?_
  refine gX4_1 (b := 15) X hw sC10 nC10 rfl fl_X4_12 dX4_readCase_1 ?_
  refine gnX8_6 X hw sC15 nC15 fn_X4_100 dX4_readCase_4 ?_
  refine lv_bipush (v := 7) hx hb dX4_readCase_7 (by decide) ?_
  refine lv_icmp_lt (tgt := 18) hx hb dX4_readCase_9 (by decide) (fun c1 => ?_) (fun c1 => ?_)
  · have hf := (if_pos c1).symm.trans hf
    refine lv_aload_n hx hb dX4_readCase_18 rfl (lv_at hl 0 rfl) ?_
    obtain ⟨σ3, hq2, hf⟩ := bind_some hf
    refine wr_cVv (σ' := σ3) (av := []) (rest := []) X hw hl.1 sC10 nC10 rfl (k_X4_take hI hq2) rfl ml_X4_48 im_X4_take se_X4_take ini_X4 co_X4_take hd_X4_take ⟨Nat.le_of_ble_eq_true rfl, Nat.le_of_ble_eq_true rfl⟩ (Nat.le_of_ble_eq_true rfl) dX4_readCase_19 rfl (fun H locs hw => ?_)
    refine lv_aload_n hx hb dX4_readCase_22 rfl (lv_at hl 0 rfl) ?_
    obtain ⟨v5, hq4, hf⟩ := bind_some hf
    refine wr_cVl (r := v5) (σ' := σ3) (av := []) (rest := []) X hw hl.1 sC10 nC10 rfl (k_X4_value hI hq4) rfl ml_X4_103 im_X4_value se_X4_value ini_X4 co_X4_value hd_X4_value ⟨Nat.le_of_ble_eq_true rfl, Nat.le_of_ble_eq_true rfl⟩ (Nat.le_of_ble_eq_true rfl) dX4_readCase_23 rfl (fun H locs hw => ?_)
    refine lv_lstore_n (lv' := [(1, .long v5), (0, .ref (ad 10))]) hx hb dX4_readCase_26 rfl hl (by decide) rfl (fun ls hl => ?_)
    refine lv_aload_n hx hb dX4_readCase_27 rfl (lv_at hl 1 rfl) ?_
    refine lv_iconst (v := 2) hx hb dX4_readCase_28 (by decide) ?_
    obtain ⟨v7, hq6, hf⟩ := bind_some hf
    refine wr_cVi (r := v7) (σ' := σ3) (av := [.int (2 : Int32)]) (rest := []) X hw hl.1 sC10 nC10 rfl (k_X4_isNext hI hq6) rfl ml_X4_37 im_X4_isNext se_X4_isNext ini_X4 co_X4_isNext hd_X4_isNext ⟨Nat.le_of_ble_eq_true rfl, Nat.le_of_ble_eq_true rfl⟩ (Nat.le_of_ble_eq_true rfl) dX4_readCase_29 rfl (fun H locs hw => ?_)
    obtain ⟨k51_8, ek51_8, hf0⟩ := wlet_some hf
    have j51_8 : ∀ (σ_51_8 : St) (_ : k51_8 σ_51_8 = some res) (ls : Array Slot) (H : Heap) (locs : List Loc), lv_has ls 5 [(0, .ref (ad 10)), (1, .long v5)] → wH WC ad D cy s σ_51_8 H locs → W p l e { frames := 4, cells := 0, slots := 0, locals := 165 } s m [.ref (ad 10)].toArray below meth c H locs 0 0 (MQ below (wQv WC ad D cy res) [.ref (ad 10)].toArray s 0 0 (wA WC ad)) (F0 m 51 ls []) := by
      intro σ_51_8 hf ls H locs hl hw
      rw [ek51_8] at hf
      refine lv_aload_n hx hb dX4_readCase_51 rfl (lv_at hl 0 rfl) ?_
      refine lv_iconst (v := 2) hx hb dX4_readCase_52 (by decide) ?_
      obtain ⟨σ10, hq9, hf⟩ := bind_some hf
      refine wr_cVv (σ' := σ10) (av := [.int (2 : Int32)]) (rest := []) X hw hl.1 sC10 nC10 rfl (k_X4_expect hI hq9) rfl ml_X4_68 im_X4_expect se_X4_expect ini_X4 co_X4_expect hd_X4_expect ⟨Nat.le_of_ble_eq_true rfl, Nat.le_of_ble_eq_true rfl⟩ (Nat.le_of_ble_eq_true rfl) dX4_readCase_53 rfl (fun H locs hw => ?_)
      refine lv_aload_n hx hb dX4_readCase_56 rfl (lv_at hl 0 rfl) ?_
      refine lv_bipush (v := 99) hx hb dX4_readCase_57 (by decide) ?_
      obtain ⟨v12, σ13, hq11, hf⟩ := bnd2_some hf
      refine wr_cVi (r := v12) (σ' := σ13) (av := [.int (99 : Int32)]) (rest := []) X hw hl.1 sC10 nC10 rfl (k_X4_readNumber hI hq11) rfl ml_X4_51 im_X4_readNumber se_X4_readNumber ini_X4 co_X4_readNumber hd_X4_readNumber ⟨Nat.le_of_ble_eq_true rfl, Nat.le_of_ble_eq_true rfl⟩ (Nat.le_of_ble_eq_true rfl) dX4_readCase_59 rfl (fun H locs hw => ?_)
      refine lv_istore_n (lv' := [(3, .int v12), (0, .ref (ad 10)), (1, .long v5)]) hx hb dX4_readCase_62 rfl hl (by decide) rfl (fun ls hl => ?_)
      refine lv_aload_n hx hb dX4_readCase_63 rfl (lv_at hl 1 rfl) ?_
      refine lv_bipush (v := 99) hx hb dX4_readCase_64 (by decide) ?_
      obtain ⟨v15, σ16, hq14, hf⟩ := bnd2_some hf
      refine wr_cVi (r := v15) (σ' := σ16) (av := [.int (99 : Int32)]) (rest := []) X hw hl.1 sC10 nC10 rfl (k_X4_readNumber hI hq14) rfl ml_X4_51 im_X4_readNumber se_X4_readNumber ini_X4 co_X4_readNumber hd_X4_readNumber ⟨Nat.le_of_ble_eq_true rfl, Nat.le_of_ble_eq_true rfl⟩ (Nat.le_of_ble_eq_true rfl) dX4_readCase_66 rfl (fun H locs hw => ?_)
      refine lv_istore (lv' := [(4, .int v15), (3, .int v12), (0, .ref (ad 10)), (1, .long v5)]) hx hb dX4_readCase_69 hl (by decide) rfl (fun ls hl => ?_)
      refine lv_aload_n hx hb dX4_readCase_71 rfl (lv_at hl 2 rfl) ?_
      refine gX4_1 (b := 15) X hw sC10 nC10 rfl fl_X4_12 dX4_readCase_72 ?_
      refine lv_lload_n hx hb dX4_readCase_75 rfl (lv_at hl 3 rfl) ?_
      refine lv_iload_n hx hb dX4_readCase_76 rfl (lv_at hl 1 rfl) ?_
      refine lv_iload hx hb dX4_readCase_77 (lv_at hl 0 rfl) ?_
      obtain ⟨σ18, hq17, hf⟩ := bind_some hf
      refine wr_cNv (σ' := σ18) (av := [.long v5, .int v12, .int v15]) (rest := []) X hw hl.1 sC15 nC15 rfl (k_X8_addCase hI tx_2 hq17) rfl mn_X4_114 im_X8_addCase se_X8_addCase ini_X8 co_X8_addCase hd_X8_addCase ⟨Nat.le_of_ble_eq_true rfl, Nat.le_of_ble_eq_true rfl⟩ (Nat.le_of_ble_eq_true rfl) dX4_readCase_79 rfl (fun H locs hw => ?_)
      have er := Option.some.inj hf
      subst er
      exact wr_vret X hw hr dX4_readCase_82
    replace hf := hf0
    refine lv_if_eq (tgt := 51) hx hb dX4_readCase_32 (by decide) (fun c19 => ?_) (fun c19 => ?_)
    · have hf := (if_pos c19).symm.trans hf
      exact j51_8 σ3 hf ls H locs (lv_sub hl [1, 0] rfl) hw
    · have hf := (if_neg c19).symm.trans hf
      refine lv_aload_n hx hb dX4_readCase_35 rfl (lv_at hl 1 rfl) ?_
      refine gX4_1 (b := 15) X hw sC10 nC10 rfl fl_X4_12 dX4_readCase_36 ?_
      refine lv_lload_n hx hb dX4_readCase_39 rfl (lv_at hl 0 rfl) ?_
      obtain ⟨v21, hq20, hf⟩ := bind_some hf
      refine wr_cNi (r := v21) (σ' := σ3) (av := [.long v5]) (rest := []) X hw hl.1 sC15 nC15 rfl (k_X8_isNamed hI tx_2 hq20) rfl mn_X4_107 im_X8_isNamed se_X8_isNamed ini_X8 co_X8_isNamed hd_X8_isNamed ⟨Nat.le_of_ble_eq_true rfl, Nat.le_of_ble_eq_true rfl⟩ (Nat.le_of_ble_eq_true rfl) dX4_readCase_40 rfl (fun H locs hw => ?_)
      refine lv_if_eq (tgt := 51) hx hb dX4_readCase_43 (by decide) (fun c22 => ?_) (fun c22 => ?_)
      · have hf := (if_pos c22).symm.trans hf
        exact j51_8 σ3 hf ls H locs (lv_sub hl [1, 0] rfl) hw
      · have hf := (if_neg c22).symm.trans hf
        refine lv_aload_n hx hb dX4_readCase_46 rfl (lv_at hl 1 rfl) ?_
        refine lv_iconst (v := 3) hx hb dX4_readCase_47 (by decide) ?_
        obtain ⟨σ24, hq23, hf⟩ := bind_some hf
        refine wr_cVv (σ' := σ24) (av := [.int (3 : Int32)]) (rest := []) X hw hl.1 sC10 nC10 rfl (k_X4_failLate hI hq23) rfl ml_X4_111 im_X4_failLate se_X4_failLate ini_X4 co_X4_failLate hd_X4_failLate ⟨Nat.le_of_ble_eq_true rfl, Nat.le_of_ble_eq_true rfl⟩ (Nat.le_of_ble_eq_true rfl) dX4_readCase_48 rfl (fun H locs hw => ?_)
        exact j51_8 σ24 hf ls H locs (lv_sub hl [1, 0] rfl) hw
  · have hf := (if_neg c1).symm.trans hf
    refine lv_aload_n hx hb dX4_readCase_12 rfl (lv_at hl 0 rfl) ?_
    refine lv_iconst (v := 2) hx hb dX4_readCase_13 (by decide) ?_
    obtain ⟨σ26, hq25, hf⟩ := bind_some hf
    refine wr_cVv (σ' := σ26) (av := [.int (2 : Int32)]) (rest := []) X hw hl.1 sC10 nC10 rfl (k_X4_fail hI hq25) rfl ml_X4_65 im_X4_fail se_X4_fail ini_X4 co_X4_fail hd_X4_fail ⟨Nat.le_of_ble_eq_true rfl, Nat.le_of_ble_eq_true rfl⟩ (Nat.le_of_ble_eq_true rfl) dX4_readCase_14 rfl (fun H locs hw => ?_)
    have er := Option.some.inj hf
    subst er
    exact wr_vret X hw hr dX4_readCase_17

theorem hd_X4_readSum : yX4_readSum.cls = RX4 ∧ yX4_readSum.cls ≠ "java/lang/invoke/MethodHandle" ∧ yX4_readSum.cls ≠ "java/lang/invoke/VarHandle" ∧ (parseMethodDescriptor yX4_readSum.desc).map (fun d => d.parameters.length) = some 1 := by decide +kernel
def f_X4_readUnit (rs : St → Int32 → Option St) (σ : St) (x1 : Int32) : Option (St) := Option.bind (f_X4_kind σ) fun v2 => wlet (v2 - (23 : Int32)) fun v3 => Option.bind (f_X4_isNext σ (3 : Int32)) fun v5 => if v5 = 0 then (wlet (fun (_ : Unit) => (Option.bind (f_X4_isNext σ (11 : Int32)) fun v9 => if v9 = 0 then (Option.bind (f_X4_fail σ (1 : Int32)) fun σ21 => some σ21) else (if x1 < (6 : Int32) then (Option.bind (f_X4_take σ) fun σ13 => Option.bind (rs σ13 (x1 + (1 : Int32))) fun σ15 => Option.bind (f_X4_expect σ15 (12 : Int32)) fun σ17 => some σ17) else (Option.bind (f_X4_fail σ (2 : Int32)) fun σ19 => some σ19)) : Option (St))) fun k64_7 => if v3 < 0 then (k64_7 ()) else (if (9 : Int32) ≤ v3 then (k64_7 ()) else (bnd2 (f_X8_addStep σ 15 (1 : Int32) v3) fun v25 σ26 => Option.bind (f_X4_take σ26) fun σ28 => some σ28))) else (Option.bind (f_X4_value σ) fun v30 => bnd2 (f_X8_addStep σ 15 (0 : Int32) (Int64.toInt32 v30)) fun v32 σ33 => Option.bind (f_X4_take σ33) fun σ35 => some σ35)
theorem hd_X4_readUnit : yX4_readUnit.cls = RX4 ∧ yX4_readUnit.cls ≠ "java/lang/invoke/MethodHandle" ∧ yX4_readUnit.cls ≠ "java/lang/invoke/VarHandle" ∧ (parseMethodDescriptor yX4_readUnit.desc).map (fun d => d.parameters.length) = some 1 := by decide +kernel
set_option maxRecDepth 100000 in
set_option maxHeartbeats 4000000 in
theorem k_X4_readUnit {l : Launch} {ad : Nat → Nat} {D : va_G} {cy : Nat → ClassId} {z : wStr} (hI : wI WC ad) {rs : St → Int32 → Option St} {f0 n0 : Nat} (hrs : ∀ {σ : St} {x1 : Int32} {res : St}, rs σ x1 = some res → wC WC ad D cy z l yX4_readSum (Cond.code yX4_readSum cX4_readSum 4 none :: aw) f0 n0 [.ref (ad 10), .int x1] σ (wQv WC ad D cy res)) {σ : St} {x1 : Int32}  {res : St} (hf : f_X4_readUnit rs σ x1 = some res) : wC WC ad D cy z l yX4_readUnit (Cond.code yX4_readUnit cX4_readUnit 3 (none) :: aw) (f0 + 5) (n0 + 560) [.ref (ad 10), .int x1] σ (wQv WC ad D cy res) := by
  unfold f_X4_readUnit at hf
  refine wr_start (own := RX4) hI (by decide +kernel) rfl (Nat.le_of_ble_eq_true rfl) rfl ?_
  intro p e s m below meth c ls X hw hr hl
  have hx := X.hx
  have hb := X.hb
  obtain ⟨H, eH⟩ : ∃ H : Heap, H = s.heap := ⟨_, rfl⟩
  obtain ⟨locs, el⟩ : ∃ locs : List Loc, locs = [] := ⟨_, rfl⟩
  rw [← eH, ← el] at hw ⊢
  clear eH el
  replace hl : lv_has ls 3 [(0, .ref (ad 10)), (1, .int x1)] := hl
  refine lv_aload_n hx hb dX4_readUnit_0 rfl (lv_at hl 0 rfl) ?_
  obtain ⟨v2, hq1, hf⟩ := bind_some hf
  refine wr_cVi (r := v2) (σ' := σ) (av := []) (rest := []) X hw hl.1 sC10 nC10 rfl (k_X4_kind hI hq1) rfl ml_X4_41 im_X4_kind se_X4_kind ini_X4 co_X4_kind hd_X4_kind ⟨by dsimp only; omega, by dsimp only; omega⟩ (Nat.le_of_ble_eq_true rfl) dX4_readUnit_1 rfl (fun H locs hw => ?_)
  refine lv_bipush (v := 23) hx hb dX4_readUnit_4 (by decide) ?_
  refine lv_isub hx hb dX4_readUnit_6 ?_
  obtain ⟨v3, ev3, hf⟩ := wlet_some hf
  refine wr_top ev3 ?_
  refine lv_istore_n (lv' := [(2, .int v3), (0, .ref (ad 10)), (1, .int x1)]) hx hb dX4_readUnit_7 rfl hl (by decide) rfl (fun ls hl => ?_)
  refine lv_aload_n hx hb dX4_readUnit_8 rfl (lv_at hl 1 rfl) ?_
  refine lv_iconst (v := 3) hx hb dX4_readUnit_9 (by decide) ?_
  obtain ⟨v5, hq4, hf⟩ := bind_some hf
  refine wr_cVi (r := v5) (σ' := σ) (av := [.int (3 : Int32)]) (rest := []) X hw hl.1 sC10 nC10 rfl (k_X4_isNext hI hq4) rfl ml_X4_37 im_X4_isNext se_X4_isNext ini_X4 co_X4_isNext hd_X4_isNext ⟨by dsimp only; omega, by dsimp only; omega⟩ (Nat.le_of_ble_eq_true rfl) dX4_readUnit_10 rfl (fun H locs hw => ?_)
  refine lv_if_eq (tgt := 37) hx hb dX4_readUnit_13 (by decide) (fun c6 => ?_) (fun c6 => ?_)
  · have hf := (if_pos c6).symm.trans hf
    refine lv_iload_n hx hb dX4_readUnit_37 rfl (lv_at hl 0 rfl) ?_
    obtain ⟨k64_7, ek64_7, hf0⟩ := wlet_some hf
    have j64_7 : ∀ (_ : k64_7 () = some res) (ls : Array Slot) (H : Heap) (locs : List Loc), lv_has ls 3 [(0, .ref (ad 10)), (1, .int x1)] → wH WC ad D cy s σ H locs → W p l e { frames := f0 + 5, cells := 0, slots := 0, locals := n0 + 560 } s m [.ref (ad 10), .int x1].toArray below meth c H locs 0 0 (MQ below (wQv WC ad D cy res) [.ref (ad 10), .int x1].toArray s 0 0 (wA WC ad)) (F0 m 64 ls []) := by
      intro  hf ls H locs hl hw
      rw [ek64_7] at hf
      refine lv_aload_n hx hb dX4_readUnit_64 rfl (lv_at hl 0 rfl) ?_
      refine lv_bipush (v := 11) hx hb dX4_readUnit_65 (by decide) ?_
      obtain ⟨v9, hq8, hf⟩ := bind_some hf
      refine wr_cVi (r := v9) (σ' := σ) (av := [.int (11 : Int32)]) (rest := []) X hw hl.1 sC10 nC10 rfl (k_X4_isNext hI hq8) rfl ml_X4_37 im_X4_isNext se_X4_isNext ini_X4 co_X4_isNext hd_X4_isNext ⟨by dsimp only; omega, by dsimp only; omega⟩ (Nat.le_of_ble_eq_true rfl) dX4_readUnit_67 rfl (fun H locs hw => ?_)
      refine lv_if_ne (tgt := 81) hx hb dX4_readUnit_70 (by decide) (fun c10 => ?_) (fun c10 => ?_)
      · have hf := (if_neg c10).symm.trans hf
        refine lv_iload_n hx hb dX4_readUnit_81 rfl (lv_at hl 1 rfl) ?_
        refine lv_bipush (v := 6) hx hb dX4_readUnit_82 (by decide) ?_
        refine lv_icmp_lt (tgt := 95) hx hb dX4_readUnit_84 (by decide) (fun c11 => ?_) (fun c11 => ?_)
        · have hf := (if_pos c11).symm.trans hf
          refine lv_aload_n hx hb dX4_readUnit_95 rfl (lv_at hl 0 rfl) ?_
          obtain ⟨σ13, hq12, hf⟩ := bind_some hf
          refine wr_cVv (σ' := σ13) (av := []) (rest := []) X hw hl.1 sC10 nC10 rfl (k_X4_take hI hq12) rfl ml_X4_48 im_X4_take se_X4_take ini_X4 co_X4_take hd_X4_take ⟨by dsimp only; omega, by dsimp only; omega⟩ (Nat.le_of_ble_eq_true rfl) dX4_readUnit_96 rfl (fun H locs hw => ?_)
          refine lv_aload_n hx hb dX4_readUnit_99 rfl (lv_at hl 0 rfl) ?_
          refine lv_iload_n hx hb dX4_readUnit_100 rfl (lv_at hl 1 rfl) ?_
          refine lv_iconst (v := 1) hx hb dX4_readUnit_101 (by decide) ?_
          refine lv_iadd hx hb dX4_readUnit_102 ?_
          obtain ⟨σ15, hq14, hf⟩ := bind_some hf
          refine wr_cVv (σ' := σ15) (av := [.int (x1 + (1 : Int32))]) (rest := []) X hw hl.1 sC10 nC10 rfl (hrs  hq14) rfl ml_X4_121 im_X4_readSum se_X4_readSum ini_X4 co_X4_readSum hd_X4_readSum ⟨by dsimp only; omega, by dsimp only; omega⟩ (Nat.le_of_ble_eq_true rfl) dX4_readUnit_103 rfl (fun H locs hw => ?_)
          refine lv_aload_n hx hb dX4_readUnit_106 rfl (lv_at hl 0 rfl) ?_
          refine lv_bipush (v := 12) hx hb dX4_readUnit_107 (by decide) ?_
          obtain ⟨σ17, hq16, hf⟩ := bind_some hf
          refine wr_cVv (σ' := σ17) (av := [.int (12 : Int32)]) (rest := []) X hw hl.1 sC10 nC10 rfl (k_X4_expect hI hq16) rfl ml_X4_68 im_X4_expect se_X4_expect ini_X4 co_X4_expect hd_X4_expect ⟨by dsimp only; omega, by dsimp only; omega⟩ (Nat.le_of_ble_eq_true rfl) dX4_readUnit_109 rfl (fun H locs hw => ?_)
          have er := Option.some.inj hf
          subst er
          exact wr_vret X hw hr dX4_readUnit_112
        · have hf := (if_neg c11).symm.trans hf
          refine lv_aload_n hx hb dX4_readUnit_87 rfl (lv_at hl 0 rfl) ?_
          refine lv_iconst (v := 2) hx hb dX4_readUnit_88 (by decide) ?_
          obtain ⟨σ19, hq18, hf⟩ := bind_some hf
          refine wr_cVv (σ' := σ19) (av := [.int (2 : Int32)]) (rest := []) X hw hl.1 sC10 nC10 rfl (k_X4_fail hI hq18) rfl ml_X4_65 im_X4_fail se_X4_fail ini_X4 co_X4_fail hd_X4_fail ⟨by dsimp only; omega, by dsimp only; omega⟩ (Nat.le_of_ble_eq_true rfl) dX4_readUnit_89 rfl (fun H locs hw => ?_)
          refine lv_goto (tgt := 112) hx hb dX4_readUnit_92 (by decide) ?_
          have er := Option.some.inj hf
          subst er
          exact wr_vret X hw hr dX4_readUnit_112
      · have hf := (if_pos c10).symm.trans hf
        refine lv_aload_n hx hb dX4_readUnit_73 rfl (lv_at hl 0 rfl) ?_
        refine lv_iconst (v := 1) hx hb dX4_readUnit_74 (by decide) ?_
        obtain ⟨σ21, hq20, hf⟩ := bind_some hf
        refine wr_cVv (σ' := σ21) (av := [.int (1 : Int32)]) (rest := []) X hw hl.1 sC10 nC10 rfl (k_X4_fail hI hq20) rfl ml_X4_65 im_X4_fail se_X4_fail ini_X4 co_X4_fail hd_X4_fail ⟨by dsimp only; omega, by dsimp only; omega⟩ (Nat.le_of_ble_eq_true rfl) dX4_readUnit_75 rfl (fun H locs hw => ?_)
        refine lv_goto (tgt := 112) hx hb dX4_readUnit_78 (by decide) ?_
        have er := Option.some.inj hf
        subst er
        exact wr_vret X hw hr dX4_readUnit_112
    replace hf := hf0
    refine lv_if_lt (tgt := 64) hx hb dX4_readUnit_38 (by decide) (fun c22 => ?_) (fun c22 => ?_)
    · have hf := (if_pos c22).symm.trans hf
      exact j64_7 hf ls H locs (lv_sub hl [1, 2] rfl) hw
    · have hf := (if_neg c22).symm.trans hf
      refine lv_iload_n hx hb dX4_readUnit_41 rfl (lv_at hl 0 rfl) ?_
      refine lv_bipush (v := 9) hx hb dX4_readUnit_42 (by decide) ?_
      refine lv_icmp_ge (tgt := 64) hx hb dX4_readUnit_44 (by decide) (fun c23 => ?_) (fun c23 => ?_)
      · have hf := (if_pos c23).symm.trans hf
        exact j64_7 hf ls H locs (lv_sub hl [1, 2] rfl) hw
      · have hf := (if_neg c23).symm.trans hf
        refine lv_aload_n hx hb dX4_readUnit_47 rfl (lv_at hl 1 rfl) ?_
        refine gX4_1 (b := 15) X hw sC10 nC10 rfl fl_X4_12 dX4_readUnit_48 ?_
        refine lv_iconst (v := 1) hx hb dX4_readUnit_51 (by decide) ?_
        refine lv_iload_n hx hb dX4_readUnit_52 rfl (lv_at hl 0 rfl) ?_
        obtain ⟨v25, σ26, hq24, hf⟩ := bnd2_some hf
        refine wr_cNi (r := v25) (σ' := σ26) (av := [.int (1 : Int32), .int v3]) (rest := []) X hw hl.1 sC15 nC15 rfl (k_X8_addStep hI tx_2 hq24) rfl mn_X4_124 im_X8_addStep se_X8_addStep ini_X8 co_X8_addStep hd_X8_addStep ⟨by dsimp only; omega, by dsimp only; omega⟩ (Nat.le_of_ble_eq_true rfl) dX4_readUnit_53 rfl (fun H locs hw => ?_)
        refine lv_pop hx hb dX4_readUnit_56 rfl ?_
        refine lv_aload_n hx hb dX4_readUnit_57 rfl (lv_at hl 1 rfl) ?_
        obtain ⟨σ28, hq27, hf⟩ := bind_some hf
        refine wr_cVv (σ' := σ28) (av := []) (rest := []) X hw hl.1 sC10 nC10 rfl (k_X4_take hI hq27) rfl ml_X4_48 im_X4_take se_X4_take ini_X4 co_X4_take hd_X4_take ⟨by dsimp only; omega, by dsimp only; omega⟩ (Nat.le_of_ble_eq_true rfl) dX4_readUnit_58 rfl (fun H locs hw => ?_)
        refine lv_goto (tgt := 112) hx hb dX4_readUnit_61 (by decide) ?_
        have er := Option.some.inj hf
        subst er
        exact wr_vret X hw hr dX4_readUnit_112
  · have hf := (if_neg c6).symm.trans hf
    refine lv_aload_n hx hb dX4_readUnit_16 rfl (lv_at hl 1 rfl) ?_
    refine gX4_1 (b := 15) X hw sC10 nC10 rfl fl_X4_12 dX4_readUnit_17 ?_
    refine lv_iconst (v := 0) hx hb dX4_readUnit_20 (by decide) ?_
    refine lv_aload_n hx hb dX4_readUnit_21 rfl (lv_at hl 1 rfl) ?_
    obtain ⟨v30, hq29, hf⟩ := bind_some hf
    refine wr_cVl (r := v30) (σ' := σ) (av := []) (rest := [.int (0 : Int32), .ref (ad 15)]) X hw hl.1 sC10 nC10 rfl (k_X4_value hI hq29) rfl ml_X4_103 im_X4_value se_X4_value ini_X4 co_X4_value hd_X4_value ⟨by dsimp only; omega, by dsimp only; omega⟩ (Nat.le_of_ble_eq_true rfl) dX4_readUnit_22 rfl (fun H locs hw => ?_)
    refine lv_l2i hx hb dX4_readUnit_25 rfl ?_
    obtain ⟨v32, σ33, hq31, hf⟩ := bnd2_some hf
    refine wr_cNi (r := v32) (σ' := σ33) (av := [.int (0 : Int32), .int (Int64.toInt32 v30)]) (rest := []) X hw hl.1 sC15 nC15 rfl (k_X8_addStep hI tx_2 hq31) rfl mn_X4_124 im_X8_addStep se_X8_addStep ini_X8 co_X8_addStep hd_X8_addStep ⟨by dsimp only; omega, by dsimp only; omega⟩ (Nat.le_of_ble_eq_true rfl) dX4_readUnit_26 rfl (fun H locs hw => ?_)
    refine lv_pop hx hb dX4_readUnit_29 rfl ?_
    refine lv_aload_n hx hb dX4_readUnit_30 rfl (lv_at hl 1 rfl) ?_
    obtain ⟨σ35, hq34, hf⟩ := bind_some hf
    refine wr_cVv (σ' := σ35) (av := []) (rest := []) X hw hl.1 sC10 nC10 rfl (k_X4_take hI hq34) rfl ml_X4_48 im_X4_take se_X4_take ini_X4 co_X4_take hd_X4_take ⟨by dsimp only; omega, by dsimp only; omega⟩ (Nat.le_of_ble_eq_true rfl) dX4_readUnit_31 rfl (fun H locs hw => ?_)
    refine lv_goto (tgt := 112) hx hb dX4_readUnit_34 (by decide) ?_
    have er := Option.some.inj hf
    subst er
    exact wr_vret X hw hr dX4_readUnit_112

def f_X4_readProduct (rs : St → Int32 → Option St) (σ : St) (x1 : Int32) : Option (St) := Option.bind (f_X4_readUnit rs σ x1) fun σ2 => wlet (un2 (fun (σ7_3 : St) (x2_7_3 : Int32) => if (400 : Int32) ≤ x2_7_3 then (some (.inr σ7_3)) else (Option.bind (f_X4_isNext σ7_3 (8 : Int32)) fun v6 => wlet (fun (_ : Unit) => (Option.bind (f_X4_isNext σ7_3 (8 : Int32)) fun v9 => wlet (fun (s0_46_10 : Int32) => (Option.bind (f_X4_take σ7_3) fun σ12 => Option.bind (f_X4_readUnit rs σ12 x1) fun σ14 => bnd2 (f_X8_addStep σ14 15 s0_46_10 (0 : Int32)) fun v16 σ17 => wlet (x2_7_3 + (1 : Int32)) fun v18 => some (.inl (σ17, v18)) : Option ((St × Int32) ⊕ (St)))) fun k46_10 => if v9 = 0 then (k46_10 (5 : Int32)) else (k46_10 (4 : Int32)) : Option ((St × Int32) ⊕ (St)))) fun k32_7 => if v6 = 0 then (Option.bind (f_X4_isNext σ7_3 (9 : Int32)) fun v22 => if v22 = 0 then (some (.inr σ7_3)) else (k32_7 ())) else (k32_7 ()))) : St × Int32 → Option ((St × Int32) ⊕ (St))) fun st7_3 => Option.bind (lp st7_3 fuel (σ2, (0 : Int32))) ((fun (σe7_3 : St) => some σe7_3))
theorem hd_X4_readProduct : yX4_readProduct.cls = RX4 ∧ yX4_readProduct.cls ≠ "java/lang/invoke/MethodHandle" ∧ yX4_readProduct.cls ≠ "java/lang/invoke/VarHandle" ∧ (parseMethodDescriptor yX4_readProduct.desc).map (fun d => d.parameters.length) = some 1 := by decide +kernel
set_option maxRecDepth 100000 in
set_option maxHeartbeats 4000000 in
theorem k_X4_readProduct {l : Launch} {ad : Nat → Nat} {D : va_G} {cy : Nat → ClassId} {z : wStr} (hI : wI WC ad) {rs : St → Int32 → Option St} {f0 n0 : Nat} (hrs : ∀ {σ : St} {x1 : Int32} {res : St}, rs σ x1 = some res → wC WC ad D cy z l yX4_readSum (Cond.code yX4_readSum cX4_readSum 4 none :: aw) f0 n0 [.ref (ad 10), .int x1] σ (wQv WC ad D cy res)) {σ : St} {x1 : Int32}  {res : St} (hf : f_X4_readProduct rs σ x1 = some res) : wC WC ad D cy z l yX4_readProduct (Cond.code yX4_readProduct cX4_readProduct 4 (none) :: aw) (f0 + 6) (n0 + 620) [.ref (ad 10), .int x1] σ (wQv WC ad D cy res) := by
  unfold f_X4_readProduct at hf
  refine wr_start (own := RX4) hI (by decide +kernel) rfl (Nat.le_of_ble_eq_true rfl) rfl ?_
  intro p e s m below meth c ls X hw hr hl
  have hx := X.hx
  have hb := X.hb
  obtain ⟨H, eH⟩ : ∃ H : Heap, H = s.heap := ⟨_, rfl⟩
  obtain ⟨locs, el⟩ : ∃ locs : List Loc, locs = [] := ⟨_, rfl⟩
  rw [← eH, ← el] at hw ⊢
  clear eH el
  replace hl : lv_has ls 4 [(0, .ref (ad 10)), (1, .int x1)] := hl
  refine lv_aload_n hx hb dX4_readProduct_0 rfl (lv_at hl 0 rfl) ?_
  refine lv_iload_n hx hb dX4_readProduct_1 rfl (lv_at hl 1 rfl) ?_
  obtain ⟨σ2, hq1, hf⟩ := bind_some hf
  refine wr_cVv (σ' := σ2) (av := [.int x1]) (rest := []) X hw hl.1 sC10 nC10 rfl (k_X4_readUnit hI hrs hq1) rfl ml_X4_134 im_X4_readUnit se_X4_readUnit ini_X4 co_X4_readUnit hd_X4_readUnit ⟨by dsimp only; omega, by dsimp only; omega⟩ (Nat.le_of_ble_eq_true rfl) dX4_readProduct_2 rfl (fun H locs hw => ?_)
  refine lv_iconst (v := 0) hx hb dX4_readProduct_5 (by decide) ?_
  refine lv_istore_n (lv' := [(2, .int (0 : Int32)), (0, .ref (ad 10)), (1, .int x1)]) hx hb dX4_readProduct_6 rfl hl (by decide) rfl (fun ls hl => ?_)
  obtain ⟨st7_3, est7_3, hf⟩ := wlet_some hf
  obtain ⟨E7_3, hq7_3, hE7_3⟩ := bind_some hf
  have hx7_3 : ∀ (σe7_3 : St) (_ : σe7_3 = E7_3) (ls : Array Slot) (H : Heap) (locs : List Loc), lv_has ls 4 [] → wH WC ad D cy s σe7_3 H locs → W p l e { frames := f0 + 6, cells := 0, slots := 0, locals := n0 + 620 } s m [.ref (ad 10), .int x1].toArray below meth c H locs 0 0 (MQ below (wQv WC ad D cy res) [.ref (ad 10), .int x1].toArray s 0 0 (wA WC ad)) (F0 m 72 ls []) := by
    intro σe7_3 e0 ls H locs hl hw
    subst e0
    have hf := hE7_3
    have er := Option.some.inj hf
    subst er
    exact wr_vret X hw hr dX4_readProduct_72
  have lo7_3 : ∀ (n : Nat) (σ7_3 : St) (x2_7_3 : Int32) (_ : lp st7_3 n (σ7_3, x2_7_3) = some E7_3) (ls : Array Slot) (H : Heap) (locs : List Loc), lv_has ls 4 [(0, .ref (ad 10)), (1, .int x1), (2, .int x2_7_3)] → wH WC ad D cy s σ7_3 H locs → W p l e { frames := f0 + 6, cells := 0, slots := 0, locals := n0 + 620 } s m [.ref (ad 10), .int x1].toArray below meth c H locs 0 0 (MQ below (wQv WC ad D cy res) [.ref (ad 10), .int x1].toArray s 0 0 (wA WC ad)) (F0 m 7 ls []) := by
    intro n
    induction n with
    | zero =>
      intro σ7_3 x2_7_3 hf ls H locs hl hw
      exact (lp_zero hf).elim
    | succ n ih7_3 =>
      intro σ7_3 x2_7_3 hf ls H locs hl hw
      obtain ⟨q7_3, hf, hz7_3⟩ := lp_succ hf
      rw [est7_3] at hf
      replace hf := un2_some hf
      refine lv_iload_n hx hb dX4_readProduct_7 rfl (lv_at hl 2 rfl) ?_
      refine lv_sipush (v := 400) hx hb dX4_readProduct_8 (by decide) ?_
      refine lv_icmp_ge (tgt := 72) hx hb dX4_readProduct_11 (by decide) (fun c4 => ?_) (fun c4 => ?_)
      · have hf := (if_pos c4).symm.trans hf
        exact hx7_3 σ7_3 (lpK_inr (lp_leaf hf hz7_3)) ls H locs (lv_sub hl [] rfl) hw
      · have hf := (if_neg c4).symm.trans hf
        refine lv_aload_n hx hb dX4_readProduct_14 rfl (lv_at hl 0 rfl) ?_
        refine lv_bipush (v := 8) hx hb dX4_readProduct_15 (by decide) ?_
        obtain ⟨v6, hq5, hf⟩ := bind_some hf
        refine wr_cVi (r := v6) (σ' := σ7_3) (av := [.int (8 : Int32)]) (rest := []) X hw hl.1 sC10 nC10 rfl (k_X4_isNext hI hq5) rfl ml_X4_37 im_X4_isNext se_X4_isNext ini_X4 co_X4_isNext hd_X4_isNext ⟨by dsimp only; omega, by dsimp only; omega⟩ (Nat.le_of_ble_eq_true rfl) dX4_readProduct_17 rfl (fun H locs hw => ?_)
        obtain ⟨k32_7, ek32_7, hf0⟩ := wlet_some hf
        have j32_7 : ∀ (_ : k32_7 () = some q7_3) (ls : Array Slot) (H : Heap) (locs : List Loc), lv_has ls 4 [(0, .ref (ad 10)), (1, .int x1), (2, .int x2_7_3)] → wH WC ad D cy s σ7_3 H locs → W p l e { frames := f0 + 6, cells := 0, slots := 0, locals := n0 + 620 } s m [.ref (ad 10), .int x1].toArray below meth c H locs 0 0 (MQ below (wQv WC ad D cy res) [.ref (ad 10), .int x1].toArray s 0 0 (wA WC ad)) (F0 m 32 ls []) := by
          intro  hf ls H locs hl hw
          rw [ek32_7] at hf
          refine lv_aload_n hx hb dX4_readProduct_32 rfl (lv_at hl 0 rfl) ?_
          refine lv_bipush (v := 8) hx hb dX4_readProduct_33 (by decide) ?_
          obtain ⟨v9, hq8, hf⟩ := bind_some hf
          refine wr_cVi (r := v9) (σ' := σ7_3) (av := [.int (8 : Int32)]) (rest := []) X hw hl.1 sC10 nC10 rfl (k_X4_isNext hI hq8) rfl ml_X4_37 im_X4_isNext se_X4_isNext ini_X4 co_X4_isNext hd_X4_isNext ⟨by dsimp only; omega, by dsimp only; omega⟩ (Nat.le_of_ble_eq_true rfl) dX4_readProduct_35 rfl (fun H locs hw => ?_)
          obtain ⟨k46_10, ek46_10, hf0⟩ := wlet_some hf
          have j46_10 : ∀ (s0_46_10 : Int32) (_ : k46_10 s0_46_10 = some q7_3) (ls : Array Slot) (H : Heap) (locs : List Loc), lv_has ls 4 [(0, .ref (ad 10)), (1, .int x1), (2, .int x2_7_3)] → wH WC ad D cy s σ7_3 H locs → W p l e { frames := f0 + 6, cells := 0, slots := 0, locals := n0 + 620 } s m [.ref (ad 10), .int x1].toArray below meth c H locs 0 0 (MQ below (wQv WC ad D cy res) [.ref (ad 10), .int x1].toArray s 0 0 (wA WC ad)) (F0 m 46 ls [.int s0_46_10]) := by
            intro s0_46_10 hf ls H locs hl hw
            rw [ek46_10] at hf
            refine lv_istore_n (lv' := [(3, .int s0_46_10), (0, .ref (ad 10)), (1, .int x1), (2, .int x2_7_3)]) hx hb dX4_readProduct_46 rfl hl (by decide) rfl (fun ls hl => ?_)
            refine lv_aload_n hx hb dX4_readProduct_47 rfl (lv_at hl 1 rfl) ?_
            obtain ⟨σ12, hq11, hf⟩ := bind_some hf
            refine wr_cVv (σ' := σ12) (av := []) (rest := []) X hw hl.1 sC10 nC10 rfl (k_X4_take hI hq11) rfl ml_X4_48 im_X4_take se_X4_take ini_X4 co_X4_take hd_X4_take ⟨by dsimp only; omega, by dsimp only; omega⟩ (Nat.le_of_ble_eq_true rfl) dX4_readProduct_48 rfl (fun H locs hw => ?_)
            refine lv_aload_n hx hb dX4_readProduct_51 rfl (lv_at hl 1 rfl) ?_
            refine lv_iload_n hx hb dX4_readProduct_52 rfl (lv_at hl 2 rfl) ?_
            obtain ⟨σ14, hq13, hf⟩ := bind_some hf
            refine wr_cVv (σ' := σ14) (av := [.int x1]) (rest := []) X hw hl.1 sC10 nC10 rfl (k_X4_readUnit hI hrs hq13) rfl ml_X4_134 im_X4_readUnit se_X4_readUnit ini_X4 co_X4_readUnit hd_X4_readUnit ⟨by dsimp only; omega, by dsimp only; omega⟩ (Nat.le_of_ble_eq_true rfl) dX4_readProduct_53 rfl (fun H locs hw => ?_)
            refine lv_aload_n hx hb dX4_readProduct_56 rfl (lv_at hl 1 rfl) ?_
            refine gX4_1 (b := 15) X hw sC10 nC10 rfl fl_X4_12 dX4_readProduct_57 ?_
            refine lv_iload_n hx hb dX4_readProduct_60 rfl (lv_at hl 0 rfl) ?_
            refine lv_iconst (v := 0) hx hb dX4_readProduct_61 (by decide) ?_
            obtain ⟨v16, σ17, hq15, hf⟩ := bnd2_some hf
            refine wr_cNi (r := v16) (σ' := σ17) (av := [.int s0_46_10, .int (0 : Int32)]) (rest := []) X hw hl.1 sC15 nC15 rfl (k_X8_addStep hI tx_2 hq15) rfl mn_X4_124 im_X8_addStep se_X8_addStep ini_X8 co_X8_addStep hd_X8_addStep ⟨by dsimp only; omega, by dsimp only; omega⟩ (Nat.le_of_ble_eq_true rfl) dX4_readProduct_62 rfl (fun H locs hw => ?_)
            refine lv_pop hx hb dX4_readProduct_65 rfl ?_
            obtain ⟨v18, ev18, hf⟩ := wlet_some hf
            refine lv_iinc (v := v18) (lv' := [(2, .int v18), (3, .int s0_46_10), (0, .ref (ad 10)), (1, .int x1)]) hx hb dX4_readProduct_66 hl (k := 3) rfl (by rw [ev18]; rfl) (by decide) rfl (fun ls hl => ?_)
            refine lv_goto (tgt := 7) hx hb dX4_readProduct_69 (by decide) ?_
            exact ih7_3 σ17 v18 (lp_leaf hf hz7_3) ls H locs (lv_sub hl [2, 3, 0] rfl) hw
          replace hf := hf0
          refine lv_if_eq (tgt := 45) hx hb dX4_readProduct_38 (by decide) (fun c19 => ?_) (fun c19 => ?_)
          · have hf := (if_pos c19).symm.trans hf
            refine lv_iconst (v := 5) hx hb dX4_readProduct_45 (by decide) ?_
            exact j46_10 (5 : Int32) hf ls H locs (lv_sub hl [0, 1, 2] rfl) hw
          · have hf := (if_neg c19).symm.trans hf
            refine lv_iconst (v := 4) hx hb dX4_readProduct_41 (by decide) ?_
            refine lv_goto (tgt := 46) hx hb dX4_readProduct_42 (by decide) ?_
            exact j46_10 (4 : Int32) hf ls H locs (lv_sub hl [0, 1, 2] rfl) hw
        replace hf := hf0
        refine lv_if_ne (tgt := 32) hx hb dX4_readProduct_20 (by decide) (fun c20 => ?_) (fun c20 => ?_)
        · have hf := (if_neg c20).symm.trans hf
          exact j32_7 hf ls H locs (lv_sub hl [0, 1, 2] rfl) hw
        · have hf := (if_pos c20).symm.trans hf
          refine lv_aload_n hx hb dX4_readProduct_23 rfl (lv_at hl 0 rfl) ?_
          refine lv_bipush (v := 9) hx hb dX4_readProduct_24 (by decide) ?_
          obtain ⟨v22, hq21, hf⟩ := bind_some hf
          refine wr_cVi (r := v22) (σ' := σ7_3) (av := [.int (9 : Int32)]) (rest := []) X hw hl.1 sC10 nC10 rfl (k_X4_isNext hI hq21) rfl ml_X4_37 im_X4_isNext se_X4_isNext ini_X4 co_X4_isNext hd_X4_isNext ⟨by dsimp only; omega, by dsimp only; omega⟩ (Nat.le_of_ble_eq_true rfl) dX4_readProduct_26 rfl (fun H locs hw => ?_)
          refine lv_if_eq (tgt := 72) hx hb dX4_readProduct_29 (by decide) (fun c23 => ?_) (fun c23 => ?_)
          · have hf := (if_pos c23).symm.trans hf
            exact hx7_3 σ7_3 (lpK_inr (lp_leaf hf hz7_3)) ls H locs (lv_sub hl [] rfl) hw
          · have hf := (if_neg c23).symm.trans hf
            exact j32_7 hf ls H locs (lv_sub hl [0, 1, 2] rfl) hw
  exact lo7_3 fuel σ2 (0 : Int32) hq7_3 ls H locs (lv_sub hl [1, 2, 0] rfl) hw

def f_X4_readSum (rs : St → Int32 → Option St) (σ : St) (x1 : Int32) : Option (St) := Option.bind (f_X4_readProduct rs σ x1) fun σ2 => wlet (un2 (fun (σ7_3 : St) (x2_7_3 : Int32) => if (400 : Int32) ≤ x2_7_3 then (some (.inr σ7_3)) else (Option.bind (f_X4_isNext σ7_3 (6 : Int32)) fun v6 => wlet (fun (_ : Unit) => (Option.bind (f_X4_isNext σ7_3 (6 : Int32)) fun v9 => wlet (fun (s0_46_10 : Int32) => (Option.bind (f_X4_take σ7_3) fun σ12 => Option.bind (f_X4_readProduct rs σ12 x1) fun σ14 => bnd2 (f_X8_addStep σ14 15 s0_46_10 (0 : Int32)) fun v16 σ17 => wlet (x2_7_3 + (1 : Int32)) fun v18 => some (.inl (σ17, v18)) : Option ((St × Int32) ⊕ (St)))) fun k46_10 => if v9 = 0 then (k46_10 (3 : Int32)) else (k46_10 (2 : Int32)) : Option ((St × Int32) ⊕ (St)))) fun k32_7 => if v6 = 0 then (Option.bind (f_X4_isNext σ7_3 (7 : Int32)) fun v22 => if v22 = 0 then (some (.inr σ7_3)) else (k32_7 ())) else (k32_7 ()))) : St × Int32 → Option ((St × Int32) ⊕ (St))) fun st7_3 => Option.bind (lp st7_3 fuel (σ2, (0 : Int32))) ((fun (σe7_3 : St) => some σe7_3))
set_option maxRecDepth 100000 in
set_option maxHeartbeats 4000000 in
theorem k_X4_readSum {l : Launch} {ad : Nat → Nat} {D : va_G} {cy : Nat → ClassId} {z : wStr} (hI : wI WC ad) {rs : St → Int32 → Option St} {f0 n0 : Nat} (hrs : ∀ {σ : St} {x1 : Int32} {res : St}, rs σ x1 = some res → wC WC ad D cy z l yX4_readSum (Cond.code yX4_readSum cX4_readSum 4 none :: aw) f0 n0 [.ref (ad 10), .int x1] σ (wQv WC ad D cy res)) {σ : St} {x1 : Int32}  {res : St} (hf : f_X4_readSum rs σ x1 = some res) : wC WC ad D cy z l yX4_readSum (Cond.code yX4_readSum cX4_readSum 4 (none) :: aw) (f0 + 7) (n0 + 680) [.ref (ad 10), .int x1] σ (wQv WC ad D cy res) := by
  unfold f_X4_readSum at hf
  refine wr_start (own := RX4) hI (by decide +kernel) rfl (Nat.le_of_ble_eq_true rfl) rfl ?_
  intro p e s m below meth c ls X hw hr hl
  have hx := X.hx
  have hb := X.hb
  obtain ⟨H, eH⟩ : ∃ H : Heap, H = s.heap := ⟨_, rfl⟩
  obtain ⟨locs, el⟩ : ∃ locs : List Loc, locs = [] := ⟨_, rfl⟩
  rw [← eH, ← el] at hw ⊢
  clear eH el
  replace hl : lv_has ls 4 [(0, .ref (ad 10)), (1, .int x1)] := hl
  refine lv_aload_n hx hb dX4_readSum_0 rfl (lv_at hl 0 rfl) ?_
  refine lv_iload_n hx hb dX4_readSum_1 rfl (lv_at hl 1 rfl) ?_
  obtain ⟨σ2, hq1, hf⟩ := bind_some hf
  refine wr_cVv (σ' := σ2) (av := [.int x1]) (rest := []) X hw hl.1 sC10 nC10 rfl (k_X4_readProduct hI hrs hq1) rfl ml_X4_131 im_X4_readProduct se_X4_readProduct ini_X4 co_X4_readProduct hd_X4_readProduct ⟨by dsimp only; omega, by dsimp only; omega⟩ (Nat.le_of_ble_eq_true rfl) dX4_readSum_2 rfl (fun H locs hw => ?_)
  refine lv_iconst (v := 0) hx hb dX4_readSum_5 (by decide) ?_
  refine lv_istore_n (lv' := [(2, .int (0 : Int32)), (0, .ref (ad 10)), (1, .int x1)]) hx hb dX4_readSum_6 rfl hl (by decide) rfl (fun ls hl => ?_)
  obtain ⟨st7_3, est7_3, hf⟩ := wlet_some hf
  obtain ⟨E7_3, hq7_3, hE7_3⟩ := bind_some hf
  have hx7_3 : ∀ (σe7_3 : St) (_ : σe7_3 = E7_3) (ls : Array Slot) (H : Heap) (locs : List Loc), lv_has ls 4 [] → wH WC ad D cy s σe7_3 H locs → W p l e { frames := f0 + 7, cells := 0, slots := 0, locals := n0 + 680 } s m [.ref (ad 10), .int x1].toArray below meth c H locs 0 0 (MQ below (wQv WC ad D cy res) [.ref (ad 10), .int x1].toArray s 0 0 (wA WC ad)) (F0 m 72 ls []) := by
    intro σe7_3 e0 ls H locs hl hw
    subst e0
    have hf := hE7_3
    have er := Option.some.inj hf
    subst er
    exact wr_vret X hw hr dX4_readSum_72
  have lo7_3 : ∀ (n : Nat) (σ7_3 : St) (x2_7_3 : Int32) (_ : lp st7_3 n (σ7_3, x2_7_3) = some E7_3) (ls : Array Slot) (H : Heap) (locs : List Loc), lv_has ls 4 [(0, .ref (ad 10)), (1, .int x1), (2, .int x2_7_3)] → wH WC ad D cy s σ7_3 H locs → W p l e { frames := f0 + 7, cells := 0, slots := 0, locals := n0 + 680 } s m [.ref (ad 10), .int x1].toArray below meth c H locs 0 0 (MQ below (wQv WC ad D cy res) [.ref (ad 10), .int x1].toArray s 0 0 (wA WC ad)) (F0 m 7 ls []) := by
    intro n
    induction n with
    | zero =>
      intro σ7_3 x2_7_3 hf ls H locs hl hw
      exact (lp_zero hf).elim
    | succ n ih7_3 =>
      intro σ7_3 x2_7_3 hf ls H locs hl hw
      obtain ⟨q7_3, hf, hz7_3⟩ := lp_succ hf
      rw [est7_3] at hf
      replace hf := un2_some hf
      refine lv_iload_n hx hb dX4_readSum_7 rfl (lv_at hl 2 rfl) ?_
      refine lv_sipush (v := 400) hx hb dX4_readSum_8 (by decide) ?_
      refine lv_icmp_ge (tgt := 72) hx hb dX4_readSum_11 (by decide) (fun c4 => ?_) (fun c4 => ?_)
      · have hf := (if_pos c4).symm.trans hf
        exact hx7_3 σ7_3 (lpK_inr (lp_leaf hf hz7_3)) ls H locs (lv_sub hl [] rfl) hw
      · have hf := (if_neg c4).symm.trans hf
        refine lv_aload_n hx hb dX4_readSum_14 rfl (lv_at hl 0 rfl) ?_
        refine lv_bipush (v := 6) hx hb dX4_readSum_15 (by decide) ?_
        obtain ⟨v6, hq5, hf⟩ := bind_some hf
        refine wr_cVi (r := v6) (σ' := σ7_3) (av := [.int (6 : Int32)]) (rest := []) X hw hl.1 sC10 nC10 rfl (k_X4_isNext hI hq5) rfl ml_X4_37 im_X4_isNext se_X4_isNext ini_X4 co_X4_isNext hd_X4_isNext ⟨by dsimp only; omega, by dsimp only; omega⟩ (Nat.le_of_ble_eq_true rfl) dX4_readSum_17 rfl (fun H locs hw => ?_)
        obtain ⟨k32_7, ek32_7, hf0⟩ := wlet_some hf
        have j32_7 : ∀ (_ : k32_7 () = some q7_3) (ls : Array Slot) (H : Heap) (locs : List Loc), lv_has ls 4 [(0, .ref (ad 10)), (1, .int x1), (2, .int x2_7_3)] → wH WC ad D cy s σ7_3 H locs → W p l e { frames := f0 + 7, cells := 0, slots := 0, locals := n0 + 680 } s m [.ref (ad 10), .int x1].toArray below meth c H locs 0 0 (MQ below (wQv WC ad D cy res) [.ref (ad 10), .int x1].toArray s 0 0 (wA WC ad)) (F0 m 32 ls []) := by
          intro  hf ls H locs hl hw
          rw [ek32_7] at hf
          refine lv_aload_n hx hb dX4_readSum_32 rfl (lv_at hl 0 rfl) ?_
          refine lv_bipush (v := 6) hx hb dX4_readSum_33 (by decide) ?_
          obtain ⟨v9, hq8, hf⟩ := bind_some hf
          refine wr_cVi (r := v9) (σ' := σ7_3) (av := [.int (6 : Int32)]) (rest := []) X hw hl.1 sC10 nC10 rfl (k_X4_isNext hI hq8) rfl ml_X4_37 im_X4_isNext se_X4_isNext ini_X4 co_X4_isNext hd_X4_isNext ⟨by dsimp only; omega, by dsimp only; omega⟩ (Nat.le_of_ble_eq_true rfl) dX4_readSum_35 rfl (fun H locs hw => ?_)
          obtain ⟨k46_10, ek46_10, hf0⟩ := wlet_some hf
          have j46_10 : ∀ (s0_46_10 : Int32) (_ : k46_10 s0_46_10 = some q7_3) (ls : Array Slot) (H : Heap) (locs : List Loc), lv_has ls 4 [(0, .ref (ad 10)), (1, .int x1), (2, .int x2_7_3)] → wH WC ad D cy s σ7_3 H locs → W p l e { frames := f0 + 7, cells := 0, slots := 0, locals := n0 + 680 } s m [.ref (ad 10), .int x1].toArray below meth c H locs 0 0 (MQ below (wQv WC ad D cy res) [.ref (ad 10), .int x1].toArray s 0 0 (wA WC ad)) (F0 m 46 ls [.int s0_46_10]) := by
            intro s0_46_10 hf ls H locs hl hw
            rw [ek46_10] at hf
            refine lv_istore_n (lv' := [(3, .int s0_46_10), (0, .ref (ad 10)), (1, .int x1), (2, .int x2_7_3)]) hx hb dX4_readSum_46 rfl hl (by decide) rfl (fun ls hl => ?_)
            refine lv_aload_n hx hb dX4_readSum_47 rfl (lv_at hl 1 rfl) ?_
            obtain ⟨σ12, hq11, hf⟩ := bind_some hf
            refine wr_cVv (σ' := σ12) (av := []) (rest := []) X hw hl.1 sC10 nC10 rfl (k_X4_take hI hq11) rfl ml_X4_48 im_X4_take se_X4_take ini_X4 co_X4_take hd_X4_take ⟨by dsimp only; omega, by dsimp only; omega⟩ (Nat.le_of_ble_eq_true rfl) dX4_readSum_48 rfl (fun H locs hw => ?_)
            refine lv_aload_n hx hb dX4_readSum_51 rfl (lv_at hl 1 rfl) ?_
            refine lv_iload_n hx hb dX4_readSum_52 rfl (lv_at hl 2 rfl) ?_
            obtain ⟨σ14, hq13, hf⟩ := bind_some hf
            refine wr_cVv (σ' := σ14) (av := [.int x1]) (rest := []) X hw hl.1 sC10 nC10 rfl (k_X4_readProduct hI hrs hq13) rfl ml_X4_131 im_X4_readProduct se_X4_readProduct ini_X4 co_X4_readProduct hd_X4_readProduct ⟨by dsimp only; omega, by dsimp only; omega⟩ (Nat.le_of_ble_eq_true rfl) dX4_readSum_53 rfl (fun H locs hw => ?_)
            refine lv_aload_n hx hb dX4_readSum_56 rfl (lv_at hl 1 rfl) ?_
            refine gX4_1 (b := 15) X hw sC10 nC10 rfl fl_X4_12 dX4_readSum_57 ?_
            refine lv_iload_n hx hb dX4_readSum_60 rfl (lv_at hl 0 rfl) ?_
            refine lv_iconst (v := 0) hx hb dX4_readSum_61 (by decide) ?_
            obtain ⟨v16, σ17, hq15, hf⟩ := bnd2_some hf
            refine wr_cNi (r := v16) (σ' := σ17) (av := [.int s0_46_10, .int (0 : Int32)]) (rest := []) X hw hl.1 sC15 nC15 rfl (k_X8_addStep hI tx_2 hq15) rfl mn_X4_124 im_X8_addStep se_X8_addStep ini_X8 co_X8_addStep hd_X8_addStep ⟨by dsimp only; omega, by dsimp only; omega⟩ (Nat.le_of_ble_eq_true rfl) dX4_readSum_62 rfl (fun H locs hw => ?_)
            refine lv_pop hx hb dX4_readSum_65 rfl ?_
            obtain ⟨v18, ev18, hf⟩ := wlet_some hf
            refine lv_iinc (v := v18) (lv' := [(2, .int v18), (3, .int s0_46_10), (0, .ref (ad 10)), (1, .int x1)]) hx hb dX4_readSum_66 hl (k := 3) rfl (by rw [ev18]; rfl) (by decide) rfl (fun ls hl => ?_)
            refine lv_goto (tgt := 7) hx hb dX4_readSum_69 (by decide) ?_
            exact ih7_3 σ17 v18 (lp_leaf hf hz7_3) ls H locs (lv_sub hl [2, 3, 0] rfl) hw
          replace hf := hf0
          refine lv_if_eq (tgt := 45) hx hb dX4_readSum_38 (by decide) (fun c19 => ?_) (fun c19 => ?_)
          · have hf := (if_pos c19).symm.trans hf
            refine lv_iconst (v := 3) hx hb dX4_readSum_45 (by decide) ?_
            exact j46_10 (3 : Int32) hf ls H locs (lv_sub hl [0, 1, 2] rfl) hw
          · have hf := (if_neg c19).symm.trans hf
            refine lv_iconst (v := 2) hx hb dX4_readSum_41 (by decide) ?_
            refine lv_goto (tgt := 46) hx hb dX4_readSum_42 (by decide) ?_
            exact j46_10 (2 : Int32) hf ls H locs (lv_sub hl [0, 1, 2] rfl) hw
        replace hf := hf0
        refine lv_if_ne (tgt := 32) hx hb dX4_readSum_20 (by decide) (fun c20 => ?_) (fun c20 => ?_)
        · have hf := (if_neg c20).symm.trans hf
          exact j32_7 hf ls H locs (lv_sub hl [0, 1, 2] rfl) hw
        · have hf := (if_pos c20).symm.trans hf
          refine lv_aload_n hx hb dX4_readSum_23 rfl (lv_at hl 0 rfl) ?_
          refine lv_bipush (v := 7) hx hb dX4_readSum_24 (by decide) ?_
          obtain ⟨v22, hq21, hf⟩ := bind_some hf
          refine wr_cVi (r := v22) (σ' := σ7_3) (av := [.int (7 : Int32)]) (rest := []) X hw hl.1 sC10 nC10 rfl (k_X4_isNext hI hq21) rfl ml_X4_37 im_X4_isNext se_X4_isNext ini_X4 co_X4_isNext hd_X4_isNext ⟨by dsimp only; omega, by dsimp only; omega⟩ (Nat.le_of_ble_eq_true rfl) dX4_readSum_26 rfl (fun H locs hw => ?_)
          refine lv_if_eq (tgt := 72) hx hb dX4_readSum_29 (by decide) (fun c23 => ?_) (fun c23 => ?_)
          · have hf := (if_pos c23).symm.trans hf
            exact hx7_3 σ7_3 (lpK_inr (lp_leaf hf hz7_3)) ls H locs (lv_sub hl [] rfl) hw
          · have hf := (if_neg c23).symm.trans hf
            exact j32_7 hf ls H locs (lv_sub hl [0, 1, 2] rfl) hw
  exact lo7_3 fuel σ2 (0 : Int32) hq7_3 ls H locs (lv_sub hl [1, 2, 0] rfl) hw
/-- by the depth of the brackets -/
def fR_readSum : Nat → St → Int32 → Option St
  | 0 => fun _ _ => none
  | d + 1 => f_X4_readSum (fR_readSum d)
theorem kR_readSum {l : Launch} {ad : Nat → Nat} {D : va_G} {cy : Nat → ClassId} {z : wStr} (hI : wI WC ad) (d : Nat) : ∀ {σ : St} {x1 : Int32} {res : St}, fR_readSum d σ x1 = some res → wC WC ad D cy z l yX4_readSum (Cond.code yX4_readSum cX4_readSum 4 none :: aw) (7 * d) (680 * d) [.ref (ad 10), .int x1] σ (wQv WC ad D cy res) := by
  induction d with
  | zero => intro σ x1 res hf; cases hf
  | succ d ih => intro σ x1 res hf; exact k_X4_readSum hI ih hf

def f_X4_readLaw (σ : St) (x1 : Int32) : Option (St) := Option.bind (f_X4_expect σ (5 : Int32)) fun σ2 => Option.bind (f_X8_beginLaw σ2 15 x1) fun σ4 => wlet (un2 (fun (σ15_5 : St) (x2_15_5 : Int32) => if (4 : Int32) ≤ x2_15_5 then (some (.inr σ15_5)) else (Option.bind (f_X4_isNext σ15_5 (20 : Int32)) fun v19 => if v19 = 0 then (some (.inr σ15_5)) else (Option.bind (f_X4_take σ15_5) fun σ22 => Option.bind (fR_readSum 8 σ22 (0 : Int32)) fun σ24 => Option.bind (f_X4_expect σ24 (10 : Int32)) fun σ26 => Option.bind (fR_readSum 8 σ26 (0 : Int32)) fun σ28 => Option.bind (f_X4_expect σ28 (21 : Int32)) fun σ30 => bnd2 (f_X8_addStep σ30 15 (6 : Int32) (0 : Int32)) fun v32 σ33 => Option.bind (fR_readSum 8 σ33 (0 : Int32)) fun σ35 => Option.bind (f_X4_expect σ35 (22 : Int32)) fun σ37 => bnd2 (f_X8_addStep σ37 15 (7 : Int32) (0 : Int32)) fun v39 σ40 => Option.bind (f_X8_leadHere σ40 15 v32) fun σ42 => wlet (x2_15_5 + (1 : Int32)) fun v43 => some (.inl (σ42, v43))))) : St × Int32 → Option ((St × Int32) ⊕ (St))) fun st15_5 => Option.bind (lp st15_5 fuel (σ4, (0 : Int32))) ((fun (σe15_5 : St) => Option.bind (f_X4_isNext σe15_5 (20 : Int32)) fun v7 => wlet (fun (σ_116_8 : St) => (Option.bind (fR_readSum 8 σ_116_8 (0 : Int32)) fun σ10 => bnd2 (f_X8_addStep σ10 15 (7 : Int32) (0 : Int32)) fun v12 σ13 => some σ13 : Option (St))) fun k116_8 => if v7 = 0 then (k116_8 σe15_5) else (Option.bind (f_X4_fail σe15_5 (2 : Int32)) fun σ16 => k116_8 σ16)))
theorem hd_X4_readLaw : yX4_readLaw.cls = RX4 ∧ yX4_readLaw.cls ≠ "java/lang/invoke/MethodHandle" ∧ yX4_readLaw.cls ≠ "java/lang/invoke/VarHandle" ∧ (parseMethodDescriptor yX4_readLaw.desc).map (fun d => d.parameters.length) = some 1 := by decide +kernel
set_option maxRecDepth 100000 in
set_option maxHeartbeats 4000000 in
theorem k_X4_readLaw {l : Launch} {ad : Nat → Nat} {D : va_G} {cy : Nat → ClassId} {z : wStr} (hI : wI WC ad) {σ : St} {x1 : Int32}  {res : St} (hf : f_X4_readLaw σ x1 = some res) : wC WC ad D cy z l yX4_readLaw (Cond.code yX4_readLaw cX4_readLaw 4 (none) :: aw) (57) (5463) [.ref (ad 10), .int x1] σ (wQv WC ad D cy res) := by
  unfold f_X4_readLaw at hf
  refine wr_start (own := RX4) hI (by decide +kernel) rfl (Nat.le_of_ble_eq_true rfl) rfl ?_
  intro p e s m below meth c ls X hw hr hl
  have hx := X.hx
  have hb := X.hb
  obtain ⟨H, eH⟩ : ∃ H : Heap, H = s.heap := ⟨_, rfl⟩
  obtain ⟨locs, el⟩ : ∃ locs : List Loc, locs = [] := ⟨_, rfl⟩
  rw [← eH, ← el] at hw ⊢
  clear eH el
  replace hl : lv_has ls 4 [(0, .ref (ad 10)), (1, .int x1)] := hl
  refine lv_aload_n hx hb dX4_readLaw_0 rfl (lv_at hl 0 rfl) ?_
  refine lv_iconst (v := 5) hx hb dX4_readLaw_1 (by decide) ?_
  obtain ⟨σ2, hq1, hf⟩ := bind_some hf
  refine wr_cVv (σ' := σ2) (av := [.int (5 : Int32)]) (rest := []) X hw hl.1 sC10 nC10 rfl (k_X4_expect hI hq1) rfl ml_X4_68 im_X4_expect se_X4_expect ini_X4 co_X4_expect hd_X4_expect ⟨Nat.le_of_ble_eq_true rfl, Nat.le_of_ble_eq_true rfl⟩ (Nat.le_of_ble_eq_true rfl) dX4_readLaw_2 rfl (fun H locs hw => ?_)
  refine lv_aload_n hx hb dX4_readLaw_5 rfl (lv_at hl 0 rfl) ?_
  refine gX4_1 (b := 15) X hw sC10 nC10 rfl fl_X4_12 dX4_readLaw_6 ?_
  refine lv_iload_n hx hb dX4_readLaw_9 rfl (lv_at hl 1 rfl) ?_
  obtain ⟨σ4, hq3, hf⟩ := bind_some hf
  refine wr_cNv (σ' := σ4) (av := [.int x1]) (rest := []) X hw hl.1 sC15 nC15 rfl (k_X8_beginLaw hI tx_2 hq3) rfl mn_X4_118 im_X8_beginLaw se_X8_beginLaw ini_X8 co_X8_beginLaw hd_X8_beginLaw ⟨Nat.le_of_ble_eq_true rfl, Nat.le_of_ble_eq_true rfl⟩ (Nat.le_of_ble_eq_true rfl) dX4_readLaw_10 rfl (fun H locs hw => ?_)
  refine lv_iconst (v := 0) hx hb dX4_readLaw_13 (by decide) ?_
  refine lv_istore_n (lv' := [(2, .int (0 : Int32)), (0, .ref (ad 10)), (1, .int x1)]) hx hb dX4_readLaw_14 rfl hl (by decide) rfl (fun ls hl => ?_)
  obtain ⟨st15_5, est15_5, hf⟩ := wlet_some hf
  obtain ⟨E15_5, hq15_5, hE15_5⟩ := bind_some hf
  have hx15_5 : ∀ (σe15_5 : St) (_ : σe15_5 = E15_5) (ls : Array Slot) (H : Heap) (locs : List Loc), lv_has ls 4 [(0, .ref (ad 10))] → wH WC ad D cy s σe15_5 H locs → W p l e { frames := 57, cells := 0, slots := 0, locals := 5463 } s m [.ref (ad 10), .int x1].toArray below meth c H locs 0 0 (MQ below (wQv WC ad D cy res) [.ref (ad 10), .int x1].toArray s 0 0 (wA WC ad)) (F0 m 102 ls []) := by
    intro σe15_5 e0 ls H locs hl hw
    subst e0
    have hf := hE15_5
    refine lv_aload_n hx hb dX4_readLaw_102 rfl (lv_at hl 0 rfl) ?_
    refine lv_bipush (v := 20) hx hb dX4_readLaw_103 (by decide) ?_
    obtain ⟨v7, hq6, hf⟩ := bind_some hf
    refine wr_cVi (r := v7) (σ' := σe15_5) (av := [.int (20 : Int32)]) (rest := []) X hw hl.1 sC10 nC10 rfl (k_X4_isNext hI hq6) rfl ml_X4_37 im_X4_isNext se_X4_isNext ini_X4 co_X4_isNext hd_X4_isNext ⟨Nat.le_of_ble_eq_true rfl, Nat.le_of_ble_eq_true rfl⟩ (Nat.le_of_ble_eq_true rfl) dX4_readLaw_105 rfl (fun H locs hw => ?_)
    obtain ⟨k116_8, ek116_8, hf0⟩ := wlet_some hf
    have j116_8 : ∀ (σ_116_8 : St) (_ : k116_8 σ_116_8 = some res) (ls : Array Slot) (H : Heap) (locs : List Loc), lv_has ls 4 [(0, .ref (ad 10))] → wH WC ad D cy s σ_116_8 H locs → W p l e { frames := 57, cells := 0, slots := 0, locals := 5463 } s m [.ref (ad 10), .int x1].toArray below meth c H locs 0 0 (MQ below (wQv WC ad D cy res) [.ref (ad 10), .int x1].toArray s 0 0 (wA WC ad)) (F0 m 116 ls []) := by
      intro σ_116_8 hf ls H locs hl hw
      rw [ek116_8] at hf
      refine lv_aload_n hx hb dX4_readLaw_116 rfl (lv_at hl 0 rfl) ?_
      refine lv_iconst (v := 0) hx hb dX4_readLaw_117 (by decide) ?_
      obtain ⟨σ10, hq9, hf⟩ := bind_some hf
      refine wr_cVv (σ' := σ10) (av := [.int (0 : Int32)]) (rest := []) X hw hl.1 sC10 nC10 rfl (kR_readSum hI 8 hq9) rfl ml_X4_121 im_X4_readSum se_X4_readSum ini_X4 co_X4_readSum hd_X4_readSum ⟨Nat.le_of_ble_eq_true rfl, Nat.le_of_ble_eq_true rfl⟩ (Nat.le_of_ble_eq_true rfl) dX4_readLaw_118 rfl (fun H locs hw => ?_)
      refine lv_aload_n hx hb dX4_readLaw_121 rfl (lv_at hl 0 rfl) ?_
      refine gX4_1 (b := 15) X hw sC10 nC10 rfl fl_X4_12 dX4_readLaw_122 ?_
      refine lv_bipush (v := 7) hx hb dX4_readLaw_125 (by decide) ?_
      refine lv_iconst (v := 0) hx hb dX4_readLaw_127 (by decide) ?_
      obtain ⟨v12, σ13, hq11, hf⟩ := bnd2_some hf
      refine wr_cNi (r := v12) (σ' := σ13) (av := [.int (7 : Int32), .int (0 : Int32)]) (rest := []) X hw hl.1 sC15 nC15 rfl (k_X8_addStep hI tx_2 hq11) rfl mn_X4_124 im_X8_addStep se_X8_addStep ini_X8 co_X8_addStep hd_X8_addStep ⟨Nat.le_of_ble_eq_true rfl, Nat.le_of_ble_eq_true rfl⟩ (Nat.le_of_ble_eq_true rfl) dX4_readLaw_128 rfl (fun H locs hw => ?_)
      refine lv_pop hx hb dX4_readLaw_131 rfl ?_
      have er := Option.some.inj hf
      subst er
      exact wr_vret X hw hr dX4_readLaw_132
    replace hf := hf0
    refine lv_if_eq (tgt := 116) hx hb dX4_readLaw_108 (by decide) (fun c14 => ?_) (fun c14 => ?_)
    · have hf := (if_pos c14).symm.trans hf
      exact j116_8 σe15_5 hf ls H locs (lv_sub hl [0] rfl) hw
    · have hf := (if_neg c14).symm.trans hf
      refine lv_aload_n hx hb dX4_readLaw_111 rfl (lv_at hl 0 rfl) ?_
      refine lv_iconst (v := 2) hx hb dX4_readLaw_112 (by decide) ?_
      obtain ⟨σ16, hq15, hf⟩ := bind_some hf
      refine wr_cVv (σ' := σ16) (av := [.int (2 : Int32)]) (rest := []) X hw hl.1 sC10 nC10 rfl (k_X4_fail hI hq15) rfl ml_X4_65 im_X4_fail se_X4_fail ini_X4 co_X4_fail hd_X4_fail ⟨Nat.le_of_ble_eq_true rfl, Nat.le_of_ble_eq_true rfl⟩ (Nat.le_of_ble_eq_true rfl) dX4_readLaw_113 rfl (fun H locs hw => ?_)
      exact j116_8 σ16 hf ls H locs (lv_sub hl [0] rfl) hw
  have lo15_5 : ∀ (n : Nat) (σ15_5 : St) (x2_15_5 : Int32) (_ : lp st15_5 n (σ15_5, x2_15_5) = some E15_5) (ls : Array Slot) (H : Heap) (locs : List Loc), lv_has ls 4 [(0, .ref (ad 10)), (2, .int x2_15_5)] → wH WC ad D cy s σ15_5 H locs → W p l e { frames := 57, cells := 0, slots := 0, locals := 5463 } s m [.ref (ad 10), .int x1].toArray below meth c H locs 0 0 (MQ below (wQv WC ad D cy res) [.ref (ad 10), .int x1].toArray s 0 0 (wA WC ad)) (F0 m 15 ls []) := by
    intro n
    induction n with
    | zero =>
      intro σ15_5 x2_15_5 hf ls H locs hl hw
      exact (lp_zero hf).elim
    | succ n ih15_5 =>
      intro σ15_5 x2_15_5 hf ls H locs hl hw
      obtain ⟨q15_5, hf, hz15_5⟩ := lp_succ hf
      rw [est15_5] at hf
      replace hf := un2_some hf
      refine lv_iload_n hx hb dX4_readLaw_15 rfl (lv_at hl 1 rfl) ?_
      refine lv_iconst (v := 4) hx hb dX4_readLaw_16 (by decide) ?_
      refine lv_icmp_ge (tgt := 102) hx hb dX4_readLaw_17 (by decide) (fun c17 => ?_) (fun c17 => ?_)
      · have hf := (if_pos c17).symm.trans hf
        exact hx15_5 σ15_5 (lpK_inr (lp_leaf hf hz15_5)) ls H locs (lv_sub hl [0] rfl) hw
      · have hf := (if_neg c17).symm.trans hf
        refine lv_aload_n hx hb dX4_readLaw_20 rfl (lv_at hl 0 rfl) ?_
        refine lv_bipush (v := 20) hx hb dX4_readLaw_21 (by decide) ?_
        obtain ⟨v19, hq18, hf⟩ := bind_some hf
        refine wr_cVi (r := v19) (σ' := σ15_5) (av := [.int (20 : Int32)]) (rest := []) X hw hl.1 sC10 nC10 rfl (k_X4_isNext hI hq18) rfl ml_X4_37 im_X4_isNext se_X4_isNext ini_X4 co_X4_isNext hd_X4_isNext ⟨Nat.le_of_ble_eq_true rfl, Nat.le_of_ble_eq_true rfl⟩ (Nat.le_of_ble_eq_true rfl) dX4_readLaw_23 rfl (fun H locs hw => ?_)
        refine lv_if_eq (tgt := 102) hx hb dX4_readLaw_26 (by decide) (fun c20 => ?_) (fun c20 => ?_)
        · have hf := (if_pos c20).symm.trans hf
          exact hx15_5 σ15_5 (lpK_inr (lp_leaf hf hz15_5)) ls H locs (lv_sub hl [0] rfl) hw
        · have hf := (if_neg c20).symm.trans hf
          refine lv_aload_n hx hb dX4_readLaw_29 rfl (lv_at hl 0 rfl) ?_
          obtain ⟨σ22, hq21, hf⟩ := bind_some hf
          refine wr_cVv (σ' := σ22) (av := []) (rest := []) X hw hl.1 sC10 nC10 rfl (k_X4_take hI hq21) rfl ml_X4_48 im_X4_take se_X4_take ini_X4 co_X4_take hd_X4_take ⟨Nat.le_of_ble_eq_true rfl, Nat.le_of_ble_eq_true rfl⟩ (Nat.le_of_ble_eq_true rfl) dX4_readLaw_30 rfl (fun H locs hw => ?_)
          refine lv_aload_n hx hb dX4_readLaw_33 rfl (lv_at hl 0 rfl) ?_
          refine lv_iconst (v := 0) hx hb dX4_readLaw_34 (by decide) ?_
          obtain ⟨σ24, hq23, hf⟩ := bind_some hf
          refine wr_cVv (σ' := σ24) (av := [.int (0 : Int32)]) (rest := []) X hw hl.1 sC10 nC10 rfl (kR_readSum hI 8 hq23) rfl ml_X4_121 im_X4_readSum se_X4_readSum ini_X4 co_X4_readSum hd_X4_readSum ⟨Nat.le_of_ble_eq_true rfl, Nat.le_of_ble_eq_true rfl⟩ (Nat.le_of_ble_eq_true rfl) dX4_readLaw_35 rfl (fun H locs hw => ?_)
          refine lv_aload_n hx hb dX4_readLaw_38 rfl (lv_at hl 0 rfl) ?_
          refine lv_bipush (v := 10) hx hb dX4_readLaw_39 (by decide) ?_
          obtain ⟨σ26, hq25, hf⟩ := bind_some hf
          refine wr_cVv (σ' := σ26) (av := [.int (10 : Int32)]) (rest := []) X hw hl.1 sC10 nC10 rfl (k_X4_expect hI hq25) rfl ml_X4_68 im_X4_expect se_X4_expect ini_X4 co_X4_expect hd_X4_expect ⟨Nat.le_of_ble_eq_true rfl, Nat.le_of_ble_eq_true rfl⟩ (Nat.le_of_ble_eq_true rfl) dX4_readLaw_41 rfl (fun H locs hw => ?_)
          refine lv_aload_n hx hb dX4_readLaw_44 rfl (lv_at hl 0 rfl) ?_
          refine lv_iconst (v := 0) hx hb dX4_readLaw_45 (by decide) ?_
          obtain ⟨σ28, hq27, hf⟩ := bind_some hf
          refine wr_cVv (σ' := σ28) (av := [.int (0 : Int32)]) (rest := []) X hw hl.1 sC10 nC10 rfl (kR_readSum hI 8 hq27) rfl ml_X4_121 im_X4_readSum se_X4_readSum ini_X4 co_X4_readSum hd_X4_readSum ⟨Nat.le_of_ble_eq_true rfl, Nat.le_of_ble_eq_true rfl⟩ (Nat.le_of_ble_eq_true rfl) dX4_readLaw_46 rfl (fun H locs hw => ?_)
          refine lv_aload_n hx hb dX4_readLaw_49 rfl (lv_at hl 0 rfl) ?_
          refine lv_bipush (v := 21) hx hb dX4_readLaw_50 (by decide) ?_
          obtain ⟨σ30, hq29, hf⟩ := bind_some hf
          refine wr_cVv (σ' := σ30) (av := [.int (21 : Int32)]) (rest := []) X hw hl.1 sC10 nC10 rfl (k_X4_expect hI hq29) rfl ml_X4_68 im_X4_expect se_X4_expect ini_X4 co_X4_expect hd_X4_expect ⟨Nat.le_of_ble_eq_true rfl, Nat.le_of_ble_eq_true rfl⟩ (Nat.le_of_ble_eq_true rfl) dX4_readLaw_52 rfl (fun H locs hw => ?_)
          refine lv_aload_n hx hb dX4_readLaw_55 rfl (lv_at hl 0 rfl) ?_
          refine gX4_1 (b := 15) X hw sC10 nC10 rfl fl_X4_12 dX4_readLaw_56 ?_
          refine lv_bipush (v := 6) hx hb dX4_readLaw_59 (by decide) ?_
          refine lv_iconst (v := 0) hx hb dX4_readLaw_61 (by decide) ?_
          obtain ⟨v32, σ33, hq31, hf⟩ := bnd2_some hf
          refine wr_cNi (r := v32) (σ' := σ33) (av := [.int (6 : Int32), .int (0 : Int32)]) (rest := []) X hw hl.1 sC15 nC15 rfl (k_X8_addStep hI tx_2 hq31) rfl mn_X4_124 im_X8_addStep se_X8_addStep ini_X8 co_X8_addStep hd_X8_addStep ⟨Nat.le_of_ble_eq_true rfl, Nat.le_of_ble_eq_true rfl⟩ (Nat.le_of_ble_eq_true rfl) dX4_readLaw_62 rfl (fun H locs hw => ?_)
          refine lv_istore_n (lv' := [(3, .int v32), (0, .ref (ad 10)), (2, .int x2_15_5)]) hx hb dX4_readLaw_65 rfl hl (by decide) rfl (fun ls hl => ?_)
          refine lv_aload_n hx hb dX4_readLaw_66 rfl (lv_at hl 1 rfl) ?_
          refine lv_iconst (v := 0) hx hb dX4_readLaw_67 (by decide) ?_
          obtain ⟨σ35, hq34, hf⟩ := bind_some hf
          refine wr_cVv (σ' := σ35) (av := [.int (0 : Int32)]) (rest := []) X hw hl.1 sC10 nC10 rfl (kR_readSum hI 8 hq34) rfl ml_X4_121 im_X4_readSum se_X4_readSum ini_X4 co_X4_readSum hd_X4_readSum ⟨Nat.le_of_ble_eq_true rfl, Nat.le_of_ble_eq_true rfl⟩ (Nat.le_of_ble_eq_true rfl) dX4_readLaw_68 rfl (fun H locs hw => ?_)
          refine lv_aload_n hx hb dX4_readLaw_71 rfl (lv_at hl 1 rfl) ?_
          refine lv_bipush (v := 22) hx hb dX4_readLaw_72 (by decide) ?_
          obtain ⟨σ37, hq36, hf⟩ := bind_some hf
          refine wr_cVv (σ' := σ37) (av := [.int (22 : Int32)]) (rest := []) X hw hl.1 sC10 nC10 rfl (k_X4_expect hI hq36) rfl ml_X4_68 im_X4_expect se_X4_expect ini_X4 co_X4_expect hd_X4_expect ⟨Nat.le_of_ble_eq_true rfl, Nat.le_of_ble_eq_true rfl⟩ (Nat.le_of_ble_eq_true rfl) dX4_readLaw_74 rfl (fun H locs hw => ?_)
          refine lv_aload_n hx hb dX4_readLaw_77 rfl (lv_at hl 1 rfl) ?_
          refine gX4_1 (b := 15) X hw sC10 nC10 rfl fl_X4_12 dX4_readLaw_78 ?_
          refine lv_bipush (v := 7) hx hb dX4_readLaw_81 (by decide) ?_
          refine lv_iconst (v := 0) hx hb dX4_readLaw_83 (by decide) ?_
          obtain ⟨v39, σ40, hq38, hf⟩ := bnd2_some hf
          refine wr_cNi (r := v39) (σ' := σ40) (av := [.int (7 : Int32), .int (0 : Int32)]) (rest := []) X hw hl.1 sC15 nC15 rfl (k_X8_addStep hI tx_2 hq38) rfl mn_X4_124 im_X8_addStep se_X8_addStep ini_X8 co_X8_addStep hd_X8_addStep ⟨Nat.le_of_ble_eq_true rfl, Nat.le_of_ble_eq_true rfl⟩ (Nat.le_of_ble_eq_true rfl) dX4_readLaw_84 rfl (fun H locs hw => ?_)
          refine lv_pop hx hb dX4_readLaw_87 rfl ?_
          refine lv_aload_n hx hb dX4_readLaw_88 rfl (lv_at hl 1 rfl) ?_
          refine gX4_1 (b := 15) X hw sC10 nC10 rfl fl_X4_12 dX4_readLaw_89 ?_
          refine lv_iload_n hx hb dX4_readLaw_92 rfl (lv_at hl 0 rfl) ?_
          obtain ⟨σ42, hq41, hf⟩ := bind_some hf
          refine wr_cNv (σ' := σ42) (av := [.int v32]) (rest := []) X hw hl.1 sC15 nC15 rfl (k_X8_leadHere hI tx_2 hq41) rfl mn_X4_128 im_X8_leadHere se_X8_leadHere ini_X8 co_X8_leadHere hd_X8_leadHere ⟨Nat.le_of_ble_eq_true rfl, Nat.le_of_ble_eq_true rfl⟩ (Nat.le_of_ble_eq_true rfl) dX4_readLaw_93 rfl (fun H locs hw => ?_)
          obtain ⟨v43, ev43, hf⟩ := wlet_some hf
          refine lv_iinc (v := v43) (lv' := [(2, .int v43), (3, .int v32), (0, .ref (ad 10))]) hx hb dX4_readLaw_96 hl (k := 2) rfl (by rw [ev43]; rfl) (by decide) rfl (fun ls hl => ?_)
          refine lv_goto (tgt := 15) hx hb dX4_readLaw_99 (by decide) ?_
          exact ih15_5 σ42 v43 (lp_leaf hf hz15_5) ls H locs (lv_sub hl [2, 0] rfl) hw
  exact lo15_5 fuel σ4 (0 : Int32) hq15_5 ls H locs (lv_sub hl [1, 0] rfl) hw

def f_X4_readTape (σ : St)  : Option (Int32 × St) := Option.bind (f_X5_scanTape σ) fun σ2 => Option.bind (f_X4_begin σ2) fun σ4 => wlet (un2 (fun (σ13_5 : St) (x1_13_5 : Int32) => if (400 : Int32) < x1_13_5 then (some (.inr σ13_5)) else (if (σ13_5.1 10 3) = 0 then (Option.bind (f_X4_isNext σ13_5 (0 : Int32)) fun v11 => if v11 = 0 then (Option.bind (f_X4_kind σ13_5) fun v14 => wlet (v14 - (15 : Int32)) fun v15 => Option.bind (f_X4_isNext σ13_5 (13 : Int32)) fun v17 => wlet (fun (σ_144_18 : St) => (Option.bind (f_X4_expect σ_144_18 (4 : Int32)) fun σ20 => wlet (x1_13_5 + (1 : Int32)) fun v21 => some (.inl (σ20, v21)) : Option ((St × Int32) ⊕ (St)))) fun k144_18 => if v17 = 0 then (Option.bind (f_X4_isNext σ13_5 (14 : Int32)) fun v24 => if v24 = 0 then (Option.bind (f_X4_isNext σ13_5 (19 : Int32)) fun v27 => if v27 = 0 then (wlet (fun (_ : Unit) => (Option.bind (f_X4_fail σ13_5 (1 : Int32)) fun σ31 => k144_18 σ31 : Option ((St × Int32) ⊕ (St)))) fun k139_29 => if v15 < 0 then (k139_29 ()) else (if (3 : Int32) < v15 then (k139_29 ()) else (Option.bind (f_X4_take σ13_5) fun σ35 => Option.bind (f_X4_readLaw σ35 v15) fun σ37 => k144_18 σ37))) else (Option.bind (f_X4_take σ13_5) fun σ39 => bnd2 (f_X4_readNumber σ39 (9999 : Int32)) fun v41 σ42 => wlet (si σ42 15 8 v41) fun σ43 => k144_18 σ43)) else (Option.bind (f_X4_take σ13_5) fun σ45 => bnd2 (f_X4_readNumber σ45 (99 : Int32)) fun v47 σ48 => wlet (si σ48 15 7 v47) fun σ49 => k144_18 σ49)) else (Option.bind (f_X4_readCase σ13_5) fun σ51 => k144_18 σ51)) else (some (.inr σ13_5))) else (some (.inr σ13_5)))) : St × Int32 → Option ((St × Int32) ⊕ (St))) fun st13_5 => Option.bind (lp st13_5 fuel (σ4, (0 : Int32))) ((fun (σe13_5 : St) => Option.bind (f_X4_findFirstFault σe13_5) fun σ7 => some ((σ7.1 10 3), σ7)))
theorem hd_X4_readTape : yX4_readTape.cls = RX4 ∧ yX4_readTape.cls ≠ "java/lang/invoke/MethodHandle" ∧ yX4_readTape.cls ≠ "java/lang/invoke/VarHandle" ∧ (parseMethodDescriptor yX4_readTape.desc).map (fun d => d.parameters.length) = some 0 := by decide +kernel
set_option maxRecDepth 100000 in
set_option maxHeartbeats 4000000 in
theorem k_X4_readTape {l : Launch} {ad : Nat → Nat} {D : va_G} {cy : Nat → ClassId} {z : wStr} (hI : wI WC ad) {σ : St}   {res : Int32 × St} (hf : f_X4_readTape σ  = some res) : wC WC ad D cy z l yX4_readTape (Cond.code yX4_readTape cX4_readTape 3 (Option.some Jvm.ClassFile.FieldType.int) :: aw) (58) (5486) [.ref (ad 10)] σ (wQi WC ad D cy res.1 res.2) := by
  unfold f_X4_readTape at hf
  refine wr_start (own := RX4) hI (by decide +kernel) rfl (Nat.le_of_ble_eq_true rfl) rfl ?_
  intro p e s m below meth c ls X hw hr hl
  have hx := X.hx
  have hb := X.hb
  obtain ⟨H, eH⟩ : ∃ H : Heap, H = s.heap := ⟨_, rfl⟩
  obtain ⟨locs, el⟩ : ∃ locs : List Loc, locs = [] := ⟨_, rfl⟩
  rw [← eH, ← el] at hw ⊢
  clear eH el
  replace hl : lv_has ls 3 [(0, .ref (ad 10))] := hl
  refine lv_aload_n hx hb dX4_readTape_0 rfl (lv_at hl 0 rfl) ?_
  refine gX4_0 (b := 11) X hw sC10 nC10 rfl fl_X4_23 dX4_readTape_1 ?_
  obtain ⟨σ2, hq1, hf⟩ := bind_some hf
  refine wr_cNv (σ' := σ2) (av := []) (rest := []) X hw hl.1 sC11 nC11 rfl (k_X5_scanTape hI hq1) rfl mn_X4_27 im_X5_scanTape se_X5_scanTape ini_X5 co_X5_scanTape hd_X5_scanTape ⟨Nat.le_of_ble_eq_true rfl, Nat.le_of_ble_eq_true rfl⟩ (Nat.le_of_ble_eq_true rfl) dX4_readTape_4 rfl (fun H locs hw => ?_)
  refine lv_aload_n hx hb dX4_readTape_7 rfl (lv_at hl 0 rfl) ?_
  obtain ⟨σ4, hq3, hf⟩ := bind_some hf
  refine wr_cVv (σ' := σ4) (av := []) (rest := []) X hw hl.1 sC10 nC10 rfl (k_X4_begin hI hq3) rfl ml_X4_30 im_X4_begin se_X4_begin ini_X4 co_X4_begin hd_X4_begin ⟨Nat.le_of_ble_eq_true rfl, Nat.le_of_ble_eq_true rfl⟩ (Nat.le_of_ble_eq_true rfl) dX4_readTape_8 rfl (fun H locs hw => ?_)
  refine lv_iconst (v := 0) hx hb dX4_readTape_11 (by decide) ?_
  refine lv_istore_n (lv' := [(1, .int (0 : Int32)), (0, .ref (ad 10))]) hx hb dX4_readTape_12 rfl hl (by decide) rfl (fun ls hl => ?_)
  obtain ⟨st13_5, est13_5, hf⟩ := wlet_some hf
  obtain ⟨E13_5, hq13_5, hE13_5⟩ := bind_some hf
  have hx13_5 : ∀ (σe13_5 : St) (_ : σe13_5 = E13_5) (ls : Array Slot) (H : Heap) (locs : List Loc), lv_has ls 3 [(0, .ref (ad 10))] → wH WC ad D cy s σe13_5 H locs → W p l e { frames := 58, cells := 0, slots := 0, locals := 5486 } s m [.ref (ad 10)].toArray below meth c H locs 0 0 (MQ below (wQi WC ad D cy res.1 res.2) [.ref (ad 10)].toArray s 0 0 (wA WC ad)) (F0 m 155 ls []) := by
    intro σe13_5 e0 ls H locs hl hw
    subst e0
    have hf := hE13_5
    refine lv_aload_n hx hb dX4_readTape_155 rfl (lv_at hl 0 rfl) ?_
    obtain ⟨σ7, hq6, hf⟩ := bind_some hf
    refine wr_cVv (σ' := σ7) (av := []) (rest := []) X hw hl.1 sC10 nC10 rfl (k_X4_findFirstFault hI hq6) rfl ml_X4_71 im_X4_findFirstFault se_X4_findFirstFault ini_X4 co_X4_findFirstFault hd_X4_findFirstFault ⟨Nat.le_of_ble_eq_true rfl, Nat.le_of_ble_eq_true rfl⟩ (Nat.le_of_ble_eq_true rfl) dX4_readTape_156 rfl (fun H locs hw => ?_)
    refine lv_aload_n hx hb dX4_readTape_159 rfl (lv_at hl 0 rfl) ?_
    refine gX4_3 X hw sC10 nC10 fl_X4_33 dX4_readTape_160 ?_
    have er := Option.some.inj hf
    subst er
    exact wr_iret X hw hr (Or.inl rfl) dX4_readTape_163
  have lo13_5 : ∀ (n : Nat) (σ13_5 : St) (x1_13_5 : Int32) (_ : lp st13_5 n (σ13_5, x1_13_5) = some E13_5) (ls : Array Slot) (H : Heap) (locs : List Loc), lv_has ls 3 [(0, .ref (ad 10)), (1, .int x1_13_5)] → wH WC ad D cy s σ13_5 H locs → W p l e { frames := 58, cells := 0, slots := 0, locals := 5486 } s m [.ref (ad 10)].toArray below meth c H locs 0 0 (MQ below (wQi WC ad D cy res.1 res.2) [.ref (ad 10)].toArray s 0 0 (wA WC ad)) (F0 m 13 ls []) := by
    intro n
    induction n with
    | zero =>
      intro σ13_5 x1_13_5 hf ls H locs hl hw
      exact (lp_zero hf).elim
    | succ n ih13_5 =>
      intro σ13_5 x1_13_5 hf ls H locs hl hw
      obtain ⟨q13_5, hf, hz13_5⟩ := lp_succ hf
      rw [est13_5] at hf
      replace hf := un2_some hf
      refine lv_iload_n hx hb dX4_readTape_13 rfl (lv_at hl 1 rfl) ?_
      refine lv_sipush (v := 400) hx hb dX4_readTape_14 (by decide) ?_
      refine lv_icmp_gt (tgt := 155) hx hb dX4_readTape_17 (by decide) (fun c8 => ?_) (fun c8 => ?_)
      · have hf := (if_pos c8).symm.trans hf
        exact hx13_5 σ13_5 (lpK_inr (lp_leaf hf hz13_5)) ls H locs (lv_sub hl [0] rfl) hw
      · have hf := (if_neg c8).symm.trans hf
        refine lv_aload_n hx hb dX4_readTape_20 rfl (lv_at hl 0 rfl) ?_
        refine gX4_3 X hw sC10 nC10 fl_X4_33 dX4_readTape_21 ?_
        refine lv_if_ne (tgt := 155) hx hb dX4_readTape_24 (by decide) (fun c9 => ?_) (fun c9 => ?_)
        · have hf := (if_neg c9).symm.trans hf
          exact hx13_5 σ13_5 (lpK_inr (lp_leaf hf hz13_5)) ls H locs (lv_sub hl [0] rfl) hw
        · have hf := (if_pos c9).symm.trans hf
          refine lv_aload_n hx hb dX4_readTape_27 rfl (lv_at hl 0 rfl) ?_
          refine lv_iconst (v := 0) hx hb dX4_readTape_28 (by decide) ?_
          obtain ⟨v11, hq10, hf⟩ := bind_some hf
          refine wr_cVi (r := v11) (σ' := σ13_5) (av := [.int (0 : Int32)]) (rest := []) X hw hl.1 sC10 nC10 rfl (k_X4_isNext hI hq10) rfl ml_X4_37 im_X4_isNext se_X4_isNext ini_X4 co_X4_isNext hd_X4_isNext ⟨Nat.le_of_ble_eq_true rfl, Nat.le_of_ble_eq_true rfl⟩ (Nat.le_of_ble_eq_true rfl) dX4_readTape_29 rfl (fun H locs hw => ?_)
          refine lv_if_ne (tgt := 155) hx hb dX4_readTape_32 (by decide) (fun c12 => ?_) (fun c12 => ?_)
          · have hf := (if_neg c12).symm.trans hf
            exact hx13_5 σ13_5 (lpK_inr (lp_leaf hf hz13_5)) ls H locs (lv_sub hl [0] rfl) hw
          · have hf := (if_pos c12).symm.trans hf
            refine lv_aload_n hx hb dX4_readTape_35 rfl (lv_at hl 0 rfl) ?_
            obtain ⟨v14, hq13, hf⟩ := bind_some hf
            refine wr_cVi (r := v14) (σ' := σ13_5) (av := []) (rest := []) X hw hl.1 sC10 nC10 rfl (k_X4_kind hI hq13) rfl ml_X4_41 im_X4_kind se_X4_kind ini_X4 co_X4_kind hd_X4_kind ⟨Nat.le_of_ble_eq_true rfl, Nat.le_of_ble_eq_true rfl⟩ (Nat.le_of_ble_eq_true rfl) dX4_readTape_36 rfl (fun H locs hw => ?_)
            refine lv_bipush (v := 15) hx hb dX4_readTape_39 (by decide) ?_
            refine lv_isub hx hb dX4_readTape_41 ?_
            obtain ⟨v15, ev15, hf⟩ := wlet_some hf
            refine wr_top ev15 ?_
            refine lv_istore_n (lv' := [(2, .int v15), (0, .ref (ad 10)), (1, .int x1_13_5)]) hx hb dX4_readTape_42 rfl hl (by decide) rfl (fun ls hl => ?_)
            refine lv_aload_n hx hb dX4_readTape_43 rfl (lv_at hl 1 rfl) ?_
            refine lv_bipush (v := 13) hx hb dX4_readTape_44 (by decide) ?_
            obtain ⟨v17, hq16, hf⟩ := bind_some hf
            refine wr_cVi (r := v17) (σ' := σ13_5) (av := [.int (13 : Int32)]) (rest := []) X hw hl.1 sC10 nC10 rfl (k_X4_isNext hI hq16) rfl ml_X4_37 im_X4_isNext se_X4_isNext ini_X4 co_X4_isNext hd_X4_isNext ⟨Nat.le_of_ble_eq_true rfl, Nat.le_of_ble_eq_true rfl⟩ (Nat.le_of_ble_eq_true rfl) dX4_readTape_46 rfl (fun H locs hw => ?_)
            obtain ⟨k144_18, ek144_18, hf0⟩ := wlet_some hf
            have j144_18 : ∀ (σ_144_18 : St) (_ : k144_18 σ_144_18 = some q13_5) (ls : Array Slot) (H : Heap) (locs : List Loc), lv_has ls 3 [(0, .ref (ad 10)), (1, .int x1_13_5)] → wH WC ad D cy s σ_144_18 H locs → W p l e { frames := 58, cells := 0, slots := 0, locals := 5486 } s m [.ref (ad 10)].toArray below meth c H locs 0 0 (MQ below (wQi WC ad D cy res.1 res.2) [.ref (ad 10)].toArray s 0 0 (wA WC ad)) (F0 m 144 ls []) := by
              intro σ_144_18 hf ls H locs hl hw
              rw [ek144_18] at hf
              refine lv_aload_n hx hb dX4_readTape_144 rfl (lv_at hl 0 rfl) ?_
              refine lv_iconst (v := 4) hx hb dX4_readTape_145 (by decide) ?_
              obtain ⟨σ20, hq19, hf⟩ := bind_some hf
              refine wr_cVv (σ' := σ20) (av := [.int (4 : Int32)]) (rest := []) X hw hl.1 sC10 nC10 rfl (k_X4_expect hI hq19) rfl ml_X4_68 im_X4_expect se_X4_expect ini_X4 co_X4_expect hd_X4_expect ⟨Nat.le_of_ble_eq_true rfl, Nat.le_of_ble_eq_true rfl⟩ (Nat.le_of_ble_eq_true rfl) dX4_readTape_146 rfl (fun H locs hw => ?_)
              obtain ⟨v21, ev21, hf⟩ := wlet_some hf
              refine lv_iinc (v := v21) (lv' := [(1, .int v21), (0, .ref (ad 10))]) hx hb dX4_readTape_149 hl (k := 1) rfl (by rw [ev21]; rfl) (by decide) rfl (fun ls hl => ?_)
              refine lv_goto (tgt := 13) hx hb dX4_readTape_152 (by decide) ?_
              exact ih13_5 σ20 v21 (lp_leaf hf hz13_5) ls H locs (lv_sub hl [1, 0] rfl) hw
            replace hf := hf0
            refine lv_if_eq (tgt := 59) hx hb dX4_readTape_49 (by decide) (fun c22 => ?_) (fun c22 => ?_)
            · have hf := (if_pos c22).symm.trans hf
              refine lv_aload_n hx hb dX4_readTape_59 rfl (lv_at hl 1 rfl) ?_
              refine lv_bipush (v := 14) hx hb dX4_readTape_60 (by decide) ?_
              obtain ⟨v24, hq23, hf⟩ := bind_some hf
              refine wr_cVi (r := v24) (σ' := σ13_5) (av := [.int (14 : Int32)]) (rest := []) X hw hl.1 sC10 nC10 rfl (k_X4_isNext hI hq23) rfl ml_X4_37 im_X4_isNext se_X4_isNext ini_X4 co_X4_isNext hd_X4_isNext ⟨Nat.le_of_ble_eq_true rfl, Nat.le_of_ble_eq_true rfl⟩ (Nat.le_of_ble_eq_true rfl) dX4_readTape_62 rfl (fun H locs hw => ?_)
              refine lv_if_eq (tgt := 88) hx hb dX4_readTape_65 (by decide) (fun c25 => ?_) (fun c25 => ?_)
              · have hf := (if_pos c25).symm.trans hf
                refine lv_aload_n hx hb dX4_readTape_88 rfl (lv_at hl 1 rfl) ?_
                refine lv_bipush (v := 19) hx hb dX4_readTape_89 (by decide) ?_
                obtain ⟨v27, hq26, hf⟩ := bind_some hf
                refine wr_cVi (r := v27) (σ' := σ13_5) (av := [.int (19 : Int32)]) (rest := []) X hw hl.1 sC10 nC10 rfl (k_X4_isNext hI hq26) rfl ml_X4_37 im_X4_isNext se_X4_isNext ini_X4 co_X4_isNext hd_X4_isNext ⟨Nat.le_of_ble_eq_true rfl, Nat.le_of_ble_eq_true rfl⟩ (Nat.le_of_ble_eq_true rfl) dX4_readTape_91 rfl (fun H locs hw => ?_)
                refine lv_if_eq (tgt := 118) hx hb dX4_readTape_94 (by decide) (fun c28 => ?_) (fun c28 => ?_)
                · have hf := (if_pos c28).symm.trans hf
                  refine lv_iload_n hx hb dX4_readTape_118 rfl (lv_at hl 0 rfl) ?_
                  obtain ⟨k139_29, ek139_29, hf0⟩ := wlet_some hf
                  have j139_29 : ∀ (_ : k139_29 () = some q13_5) (ls : Array Slot) (H : Heap) (locs : List Loc), lv_has ls 3 [(0, .ref (ad 10)), (1, .int x1_13_5)] → wH WC ad D cy s σ13_5 H locs → W p l e { frames := 58, cells := 0, slots := 0, locals := 5486 } s m [.ref (ad 10)].toArray below meth c H locs 0 0 (MQ below (wQi WC ad D cy res.1 res.2) [.ref (ad 10)].toArray s 0 0 (wA WC ad)) (F0 m 139 ls []) := by
                    intro  hf ls H locs hl hw
                    rw [ek139_29] at hf
                    refine lv_aload_n hx hb dX4_readTape_139 rfl (lv_at hl 0 rfl) ?_
                    refine lv_iconst (v := 1) hx hb dX4_readTape_140 (by decide) ?_
                    obtain ⟨σ31, hq30, hf⟩ := bind_some hf
                    refine wr_cVv (σ' := σ31) (av := [.int (1 : Int32)]) (rest := []) X hw hl.1 sC10 nC10 rfl (k_X4_fail hI hq30) rfl ml_X4_65 im_X4_fail se_X4_fail ini_X4 co_X4_fail hd_X4_fail ⟨Nat.le_of_ble_eq_true rfl, Nat.le_of_ble_eq_true rfl⟩ (Nat.le_of_ble_eq_true rfl) dX4_readTape_141 rfl (fun H locs hw => ?_)
                    exact j144_18 σ31 hf ls H locs (lv_sub hl [0, 1] rfl) hw
                  replace hf := hf0
                  refine lv_if_lt (tgt := 139) hx hb dX4_readTape_119 (by decide) (fun c32 => ?_) (fun c32 => ?_)
                  · have hf := (if_pos c32).symm.trans hf
                    exact j139_29 hf ls H locs (lv_sub hl [1, 2] rfl) hw
                  · have hf := (if_neg c32).symm.trans hf
                    refine lv_iload_n hx hb dX4_readTape_122 rfl (lv_at hl 0 rfl) ?_
                    refine lv_iconst (v := 3) hx hb dX4_readTape_123 (by decide) ?_
                    refine lv_icmp_gt (tgt := 139) hx hb dX4_readTape_124 (by decide) (fun c33 => ?_) (fun c33 => ?_)
                    · have hf := (if_pos c33).symm.trans hf
                      exact j139_29 hf ls H locs (lv_sub hl [1, 2] rfl) hw
                    · have hf := (if_neg c33).symm.trans hf
                      refine lv_aload_n hx hb dX4_readTape_127 rfl (lv_at hl 1 rfl) ?_
                      obtain ⟨σ35, hq34, hf⟩ := bind_some hf
                      refine wr_cVv (σ' := σ35) (av := []) (rest := []) X hw hl.1 sC10 nC10 rfl (k_X4_take hI hq34) rfl ml_X4_48 im_X4_take se_X4_take ini_X4 co_X4_take hd_X4_take ⟨Nat.le_of_ble_eq_true rfl, Nat.le_of_ble_eq_true rfl⟩ (Nat.le_of_ble_eq_true rfl) dX4_readTape_128 rfl (fun H locs hw => ?_)
                      refine lv_aload_n hx hb dX4_readTape_131 rfl (lv_at hl 1 rfl) ?_
                      refine lv_iload_n hx hb dX4_readTape_132 rfl (lv_at hl 0 rfl) ?_
                      obtain ⟨σ37, hq36, hf⟩ := bind_some hf
                      refine wr_cVv (σ' := σ37) (av := [.int v15]) (rest := []) X hw hl.1 sC10 nC10 rfl (k_X4_readLaw hI hq36) rfl ml_X4_61 im_X4_readLaw se_X4_readLaw ini_X4 co_X4_readLaw hd_X4_readLaw ⟨Nat.le_of_ble_eq_true rfl, Nat.le_of_ble_eq_true rfl⟩ (Nat.le_of_ble_eq_true rfl) dX4_readTape_133 rfl (fun H locs hw => ?_)
                      refine lv_goto (tgt := 144) hx hb dX4_readTape_136 (by decide) ?_
                      exact j144_18 σ37 hf ls H locs (lv_sub hl [1, 2] rfl) hw
                · have hf := (if_neg c28).symm.trans hf
                  refine lv_aload_n hx hb dX4_readTape_97 rfl (lv_at hl 1 rfl) ?_
                  obtain ⟨σ39, hq38, hf⟩ := bind_some hf
                  refine wr_cVv (σ' := σ39) (av := []) (rest := []) X hw hl.1 sC10 nC10 rfl (k_X4_take hI hq38) rfl ml_X4_48 im_X4_take se_X4_take ini_X4 co_X4_take hd_X4_take ⟨Nat.le_of_ble_eq_true rfl, Nat.le_of_ble_eq_true rfl⟩ (Nat.le_of_ble_eq_true rfl) dX4_readTape_98 rfl (fun H locs hw => ?_)
                  refine lv_aload_n hx hb dX4_readTape_101 rfl (lv_at hl 1 rfl) ?_
                  refine gX4_1 (b := 15) X hw sC10 nC10 rfl fl_X4_12 dX4_readTape_102 ?_
                  refine lv_aload_n hx hb dX4_readTape_105 rfl (lv_at hl 1 rfl) ?_
                  refine lv_sipush (v := 9999) hx hb dX4_readTape_106 (by decide) ?_
                  obtain ⟨v41, σ42, hq40, hf⟩ := bnd2_some hf
                  refine wr_cVi (r := v41) (σ' := σ42) (av := [.int (9999 : Int32)]) (rest := [.ref (ad 15)]) X hw hl.1 sC10 nC10 rfl (k_X4_readNumber hI hq40) rfl ml_X4_51 im_X4_readNumber se_X4_readNumber ini_X4 co_X4_readNumber hd_X4_readNumber ⟨Nat.le_of_ble_eq_true rfl, Nat.le_of_ble_eq_true rfl⟩ (Nat.le_of_ble_eq_true rfl) dX4_readTape_109 rfl (fun H locs hw => ?_)
                  obtain ⟨σ43, eσ43, hf⟩ := wlet_some hf
                  refine pnX8_8 X hw sC15 nC15 fn_X4_58 dX4_readTape_112 (fun H locs hw => ?_)
                  replace hw := hw.to eσ43
                  refine lv_goto (tgt := 144) hx hb dX4_readTape_115 (by decide) ?_
                  exact j144_18 σ43 hf ls H locs (lv_sub hl [1, 2] rfl) hw
              · have hf := (if_neg c25).symm.trans hf
                refine lv_aload_n hx hb dX4_readTape_68 rfl (lv_at hl 1 rfl) ?_
                obtain ⟨σ45, hq44, hf⟩ := bind_some hf
                refine wr_cVv (σ' := σ45) (av := []) (rest := []) X hw hl.1 sC10 nC10 rfl (k_X4_take hI hq44) rfl ml_X4_48 im_X4_take se_X4_take ini_X4 co_X4_take hd_X4_take ⟨Nat.le_of_ble_eq_true rfl, Nat.le_of_ble_eq_true rfl⟩ (Nat.le_of_ble_eq_true rfl) dX4_readTape_69 rfl (fun H locs hw => ?_)
                refine lv_aload_n hx hb dX4_readTape_72 rfl (lv_at hl 1 rfl) ?_
                refine gX4_1 (b := 15) X hw sC10 nC10 rfl fl_X4_12 dX4_readTape_73 ?_
                refine lv_aload_n hx hb dX4_readTape_76 rfl (lv_at hl 1 rfl) ?_
                refine lv_bipush (v := 99) hx hb dX4_readTape_77 (by decide) ?_
                obtain ⟨v47, σ48, hq46, hf⟩ := bnd2_some hf
                refine wr_cVi (r := v47) (σ' := σ48) (av := [.int (99 : Int32)]) (rest := [.ref (ad 15)]) X hw hl.1 sC10 nC10 rfl (k_X4_readNumber hI hq46) rfl ml_X4_51 im_X4_readNumber se_X4_readNumber ini_X4 co_X4_readNumber hd_X4_readNumber ⟨Nat.le_of_ble_eq_true rfl, Nat.le_of_ble_eq_true rfl⟩ (Nat.le_of_ble_eq_true rfl) dX4_readTape_79 rfl (fun H locs hw => ?_)
                obtain ⟨σ49, eσ49, hf⟩ := wlet_some hf
                refine pnX8_7 X hw sC15 nC15 fn_X4_55 dX4_readTape_82 (fun H locs hw => ?_)
                replace hw := hw.to eσ49
                refine lv_goto (tgt := 144) hx hb dX4_readTape_85 (by decide) ?_
                exact j144_18 σ49 hf ls H locs (lv_sub hl [1, 2] rfl) hw
            · have hf := (if_neg c22).symm.trans hf
              refine lv_aload_n hx hb dX4_readTape_52 rfl (lv_at hl 1 rfl) ?_
              obtain ⟨σ51, hq50, hf⟩ := bind_some hf
              refine wr_cVv (σ' := σ51) (av := []) (rest := []) X hw hl.1 sC10 nC10 rfl (k_X4_readCase hI hq50) rfl ml_X4_45 im_X4_readCase se_X4_readCase ini_X4 co_X4_readCase hd_X4_readCase ⟨Nat.le_of_ble_eq_true rfl, Nat.le_of_ble_eq_true rfl⟩ (Nat.le_of_ble_eq_true rfl) dX4_readTape_53 rfl (fun H locs hw => ?_)
              refine lv_goto (tgt := 144) hx hb dX4_readTape_56 (by decide) ?_
              exact j144_18 σ51 hf ls H locs (lv_sub hl [1, 2] rfl) hw
  exact lo13_5 fuel σ4 (0 : Int32) hq13_5 ls H locs (lv_sub hl [1, 0] rfl) hw
