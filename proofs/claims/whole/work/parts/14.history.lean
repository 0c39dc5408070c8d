def f_X0_remember (σ : St) (o1 : Nat) : Option (St) := Option.bind (f_J9_floorMod_7cf53 (σ.1 36 2) (40 : Int32)) fun v2 => if ib v2 40 = true then wlet (46 + 4 * (Int32.toNatClampNeg v2)) fun (oh4 : Nat) => Option.bind (f_X6_copyFrom σ oh4 o1) fun σ6 => Option.bind (f_J9_floorMod_7cf53 ((σ6.1 36 2) + (1 : Int32)) (40 : Int32)) fun v8 => wlet (si σ6 36 2 v8) fun σ9 => wlet (si σ9 36 1 (mn ((σ9.1 36 1) + (1 : Int32)) (40 : Int32))) fun σ10 => some σ10 else none
theorem hd_X0_remember : yX0_remember.cls = RX0 ∧ yX0_remember.cls ≠ "java/lang/invoke/MethodHandle" ∧ yX0_remember.cls ≠ "java/lang/invoke/VarHandle" ∧ (parseMethodDescriptor yX0_remember.desc).map (fun d => d.parameters.length) = some 1 := by decide +kernel
set_option maxRecDepth 100000 in
set_option maxHeartbeats 4000000 in
theorem k_X0_remember {l : Launch} {ad : Nat → Nat} {D : va_G} {cy : Nat → ClassId} {z : wStr} (hI : wI WC ad) {σ : St} {o1 : Nat} (ho1 : isSt o1) {res : St} (hf : f_X0_remember σ o1 = some res) : wC WC ad D cy z l yX0_remember (Cond.code yX0_remember cX0_remember 2 (none) :: aw) (2) (122) [.ref (ad 36), .ref (ad o1)] σ (wQv WC ad D cy res) := by
  unfold f_X0_remember at hf
  refine wr_start (own := RX0) hI (by decide +kernel) rfl (Nat.le_of_ble_eq_true rfl) rfl ?_
  intro p e s m below meth c ls X hw hr hl
  have hx := X.hx
  have hb := X.hb
  obtain ⟨H, eH⟩ : ∃ H : Heap, H = s.heap := ⟨_, rfl⟩
  obtain ⟨locs, el⟩ : ∃ locs : List Loc, locs = [] := ⟨_, rfl⟩
  rw [← eH, ← el] at hw ⊢
  clear eH el
  replace hl : lv_has ls 2 [(0, .ref (ad 36)), (1, .ref (ad o1))] := hl
  refine lv_aload_n hx hb dX0_remember_0 rfl (lv_at hl 0 rfl) ?_
  refine gX0_0 (b := 37) X hw sC36 nC36 rfl fl_X0_11 dX0_remember_1 ?_
  refine lv_aload_n hx hb dX0_remember_4 rfl (lv_at hl 0 rfl) ?_
  refine gX0_2 X hw sC36 nC36 fl_X0_18 dX0_remember_5 ?_
  refine lv_bipush (v := 40) hx hb dX0_remember_8 (by decide) ?_
  obtain ⟨v2, hq1, hf⟩ := bind_some hf
  refine wr_cSi (r := v2) (σ' := σ) (av := [.int (σ.1 36 2), .int (40 : Int32)]) (rest := [.ref (ad 37)]) X hw hl.1 (k_J9_floorMod_7cf53 hI hq1) rfl ml_X0_22 st_J9_floorMod_7cf53 ini_J9 co_J9_floorMod_7cf53 hd_J9_floorMod_7cf53 ⟨Nat.le_of_ble_eq_true rfl, Nat.le_of_ble_eq_true rfl⟩ (Nat.le_of_ble_eq_true rfl) dX0_remember_10 rfl (fun H locs hw => ?_)
  obtain ⟨h3, hf⟩ := if_some hf
  refine wr_aald X hw sC37 nC37 h3 dX0_remember_13 ?_
  obtain ⟨oh4, eoh4, hf⟩ := wlet_some hf
  have hoh4 : isSt oh4 := eoh4 ▸ st_hist h3
  refine wr_topr (b' := oh4) eoh4 ?_
  refine lv_aload_n hx hb dX0_remember_14 rfl (lv_at hl 1 rfl) ?_
  obtain ⟨σ6, hq5, hf⟩ := bind_some hf
  refine wr_cNv (σ' := σ6) (av := [.ref (ad o1)]) (rest := []) X hw hl.1 (isSt.s0 hoh4) (isSt.n0 hoh4) rfl (k_X6_copyFrom hI hoh4 ho1 hq5) rfl mn_X0_28 im_X6_copyFrom se_X6_copyFrom ini_X6 co_X6_copyFrom hd_X6_copyFrom ⟨Nat.le_of_ble_eq_true rfl, Nat.le_of_ble_eq_true rfl⟩ (Nat.le_of_ble_eq_true rfl) dX0_remember_15 rfl (fun H locs hw => ?_)
  refine lv_aload_n hx hb dX0_remember_18 rfl (lv_at hl 0 rfl) ?_
  refine lv_aload_n hx hb dX0_remember_19 rfl (lv_at hl 0 rfl) ?_
  refine gX0_2 X hw sC36 nC36 fl_X0_18 dX0_remember_20 ?_
  refine lv_iconst (v := 1) hx hb dX0_remember_23 (by decide) ?_
  refine lv_iadd hx hb dX0_remember_24 ?_
  refine lv_bipush (v := 40) hx hb dX0_remember_25 (by decide) ?_
  obtain ⟨v8, hq7, hf⟩ := bind_some hf
  refine wr_cSi (r := v8) (σ' := σ6) (av := [.int ((σ6.1 36 2) + (1 : Int32)), .int (40 : Int32)]) (rest := [.ref (ad 36)]) X hw hl.1 (k_J9_floorMod_7cf53 hI hq7) rfl ml_X0_22 st_J9_floorMod_7cf53 ini_J9 co_J9_floorMod_7cf53 hd_J9_floorMod_7cf53 ⟨Nat.le_of_ble_eq_true rfl, Nat.le_of_ble_eq_true rfl⟩ (Nat.le_of_ble_eq_true rfl) dX0_remember_27 rfl (fun H locs hw => ?_)
  obtain ⟨σ9, eσ9, hf⟩ := wlet_some hf
  refine pX0_2 X hw sC36 nC36 fl_X0_18 dX0_remember_30 (fun H locs hw => ?_)
  replace hw := hw.to eσ9
  refine lv_aload_n hx hb dX0_remember_33 rfl (lv_at hl 0 rfl) ?_
  refine lv_aload_n hx hb dX0_remember_34 rfl (lv_at hl 0 rfl) ?_
  refine gX0_1 X hw sC36 nC36 fl_X0_32 dX0_remember_35 ?_
  refine lv_iconst (v := 1) hx hb dX0_remember_38 (by decide) ?_
  refine lv_iadd hx hb dX0_remember_39 ?_
  refine lv_bipush (v := 40) hx hb dX0_remember_40 (by decide) ?_
  refine wr_min X hl.1 ml_X0_35 (Nat.le_of_ble_eq_true rfl) (Nat.le_of_ble_eq_true rfl) dX0_remember_42 ?_
  obtain ⟨σ10, eσ10, hf⟩ := wlet_some hf
  refine pX0_1 X hw sC36 nC36 fl_X0_32 dX0_remember_45 (fun H locs hw => ?_)
  replace hw := hw.to eσ10
  have er := Option.some.inj hf
  subst er
  exact wr_vret X hw hr dX0_remember_48

def f_X0_takeBack (σ : St) (o1 : Nat) : Option (Int32 × St) := if 0 < (σ.1 36 1) then (Option.bind (f_J9_floorMod_7cf53 ((σ.1 36 2) - (1 : Int32)) (40 : Int32)) fun v3 => wlet (si σ 36 2 v3) fun σ4 => if ib (σ4.1 36 2) 40 = true then wlet (46 + 4 * (Int32.toNatClampNeg (σ4.1 36 2))) fun (oh6 : Nat) => Option.bind (f_X6_copyFrom σ4 o1 oh6) fun σ8 => wlet (si σ8 36 1 ((σ8.1 36 1) - (1 : Int32))) fun σ9 => some ((1 : Int32), σ9) else none) else (some ((0 : Int32), σ))
theorem hd_X0_takeBack : yX0_takeBack.cls = RX0 ∧ yX0_takeBack.cls ≠ "java/lang/invoke/MethodHandle" ∧ yX0_takeBack.cls ≠ "java/lang/invoke/VarHandle" ∧ (parseMethodDescriptor yX0_takeBack.desc).map (fun d => d.parameters.length) = some 1 := by decide +kernel
set_option maxRecDepth 100000 in
set_option maxHeartbeats 4000000 in
theorem k_X0_takeBack {l : Launch} {ad : Nat → Nat} {D : va_G} {cy : Nat → ClassId} {z : wStr} (hI : wI WC ad) {σ : St} {o1 : Nat} (ho1 : isSt o1) {res : Int32 × St} (hf : f_X0_takeBack σ o1 = some res) : wC WC ad D cy z l yX0_takeBack (Cond.code yX0_takeBack cX0_takeBack 2 (Option.some Jvm.ClassFile.FieldType.boolean) :: aw) (2) (122) [.ref (ad 36), .ref (ad o1)] σ (wQi WC ad D cy res.1 res.2) := by
  unfold f_X0_takeBack at hf
  refine wr_start (own := RX0) hI (by decide +kernel) rfl (Nat.le_of_ble_eq_true rfl) rfl ?_
  intro p e s m below meth c ls X hw hr hl
  have hx := X.hx
  have hb := X.hb
  obtain ⟨H, eH⟩ : ∃ H : Heap, H = s.heap := ⟨_, rfl⟩
  obtain ⟨locs, el⟩ : ∃ locs : List Loc, locs = [] := ⟨_, rfl⟩
  rw [← eH, ← el] at hw ⊢
  clear eH el
  replace hl : lv_has ls 2 [(0, .ref (ad 36)), (1, .ref (ad o1))] := hl
  refine lv_aload_n hx hb dX0_takeBack_0 rfl (lv_at hl 0 rfl) ?_
  refine gX0_1 X hw sC36 nC36 fl_X0_32 dX0_takeBack_1 ?_
  refine lv_if_gt (tgt := 9) hx hb dX0_takeBack_4 (by decide) (fun c1 => ?_) (fun c1 => ?_)
  · have hf := (if_pos c1).symm.trans hf
    refine lv_aload_n hx hb dX0_takeBack_9 rfl (lv_at hl 0 rfl) ?_
    refine lv_aload_n hx hb dX0_takeBack_10 rfl (lv_at hl 0 rfl) ?_
    refine gX0_2 X hw sC36 nC36 fl_X0_18 dX0_takeBack_11 ?_
    refine lv_iconst (v := 1) hx hb dX0_takeBack_14 (by decide) ?_
    refine lv_isub hx hb dX0_takeBack_15 ?_
    refine lv_bipush (v := 40) hx hb dX0_takeBack_16 (by decide) ?_
    obtain ⟨v3, hq2, hf⟩ := bind_some hf
    refine wr_cSi (r := v3) (σ' := σ) (av := [.int ((σ.1 36 2) - (1 : Int32)), .int (40 : Int32)]) (rest := [.ref (ad 36)]) X hw hl.1 (k_J9_floorMod_7cf53 hI hq2) rfl ml_X0_22 st_J9_floorMod_7cf53 ini_J9 co_J9_floorMod_7cf53 hd_J9_floorMod_7cf53 ⟨Nat.le_of_ble_eq_true rfl, Nat.le_of_ble_eq_true rfl⟩ (Nat.le_of_ble_eq_true rfl) dX0_takeBack_18 rfl (fun H locs hw => ?_)
    obtain ⟨σ4, eσ4, hf⟩ := wlet_some hf
    refine pX0_2 X hw sC36 nC36 fl_X0_18 dX0_takeBack_21 (fun H locs hw => ?_)
    replace hw := hw.to eσ4
    refine lv_aload_n hx hb dX0_takeBack_24 rfl (lv_at hl 1 rfl) ?_
    refine lv_aload_n hx hb dX0_takeBack_25 rfl (lv_at hl 0 rfl) ?_
    refine gX0_0 (b := 37) X hw sC36 nC36 rfl fl_X0_11 dX0_takeBack_26 ?_
    refine lv_aload_n hx hb dX0_takeBack_29 rfl (lv_at hl 0 rfl) ?_
    refine gX0_2 X hw sC36 nC36 fl_X0_18 dX0_takeBack_30 ?_
    obtain ⟨h5, hf⟩ := if_some hf
    refine wr_aald X hw sC37 nC37 h5 dX0_takeBack_33 ?_
    obtain ⟨oh6, eoh6, hf⟩ := wlet_some hf
    have hoh6 : isSt oh6 := eoh6 ▸ st_hist h5
    refine wr_topr (b' := oh6) eoh6 ?_
    obtain ⟨σ8, hq7, hf⟩ := bind_some hf
    refine wr_cNv (σ' := σ8) (av := [.ref (ad oh6)]) (rest := []) X hw hl.1 (isSt.s0 ho1) (isSt.n0 ho1) rfl (k_X6_copyFrom hI ho1 hoh6 hq7) rfl mn_X0_28 im_X6_copyFrom se_X6_copyFrom ini_X6 co_X6_copyFrom hd_X6_copyFrom ⟨Nat.le_of_ble_eq_true rfl, Nat.le_of_ble_eq_true rfl⟩ (Nat.le_of_ble_eq_true rfl) dX0_takeBack_34 rfl (fun H locs hw => ?_)
    refine lv_aload_n hx hb dX0_takeBack_37 rfl (lv_at hl 0 rfl) ?_
    refine lv_dup hx hb dX0_takeBack_38 rfl ?_
    refine gX0_1 X hw sC36 nC36 fl_X0_32 dX0_takeBack_39 ?_
    refine lv_iconst (v := 1) hx hb dX0_takeBack_42 (by decide) ?_
    refine lv_isub hx hb dX0_takeBack_43 ?_
    obtain ⟨σ9, eσ9, hf⟩ := wlet_some hf
    refine pX0_1 X hw sC36 nC36 fl_X0_32 dX0_takeBack_44 (fun H locs hw => ?_)
    replace hw := hw.to eσ9
    refine lv_iconst (v := 1) hx hb dX0_takeBack_47 (by decide) ?_
    have er := Option.some.inj hf
    subst er
    exact wr_iret X hw hr (Or.inr ⟨rfl, (show bz (1 : Int32) = true from rfl)⟩) dX0_takeBack_48
  · have hf := (if_neg c1).symm.trans hf
    refine lv_iconst (v := 0) hx hb dX0_takeBack_7 (by decide) ?_
    have er := Option.some.inj hf
    subst er
    exact wr_iret X hw hr (Or.inr ⟨rfl, (show bz (0 : Int32) = true from rfl)⟩) dX0_takeBack_8
