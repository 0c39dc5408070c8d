def f_X11_listIn (σ : St) (x1 : Int32) (x2 : Int32) : Option (Int32 × St) := Option.bind (f_X11_isLong x1) fun v2 => if v2 = 0 then (some ((-1 : Int32), σ)) else (Option.bind (f_X11_in x2 (0 : Int32) (1 : Int32)) fun v5 => if v5 = 0 then (some ((-1 : Int32), σ)) else (Option.bind (f_X11_copies σ) fun σ8 => Option.bind (f_X11_goes σ8 x1) fun σ10 => if x2 = 0 then (if ib (7 : Int32) 26 = true then some ((σ10.1 27 (Int32.toNatClampNeg (7 : Int32))), σ10) else none) else (if ib (9 : Int32) 26 = true then some ((σ10.1 27 (Int32.toNatClampNeg (9 : Int32))), σ10) else none)))
theorem hd_X11_listIn : yX11_listIn.cls = RX11 ∧ yX11_listIn.cls ≠ "java/lang/invoke/MethodHandle" ∧ yX11_listIn.cls ≠ "java/lang/invoke/VarHandle" ∧ (parseMethodDescriptor yX11_listIn.desc).map (fun d => d.parameters.length) = some 2 := by decide +kernel
set_option maxRecDepth 100000 in
set_option maxHeartbeats 4000000 in
theorem k_X11_listIn {l : Launch} {ad : Nat → Nat} {D : va_G} {cy : Nat → ClassId} {z : wStr} (hI : wI WM ad) {σ : St} {x1 : Int32} {x2 : Int32}  {res : Int32 × St} (hf : f_X11_listIn σ x1 x2 = some res) : wC WM ad D cy z l yX11_listIn (Cond.code yX11_listIn cX11_listIn 3 (Option.some Jvm.ClassFile.FieldType.int) :: aw) (7) (249) [.ref (ad 0), .int x1, .int x2] σ (wQi WM ad D cy res.1 res.2) := by
  unfold f_X11_listIn at hf
  refine wr_start (own := RX11) hI (by decide +kernel) rfl (Nat.le_of_ble_eq_true rfl) rfl ?_
  intro p e s m below meth c ls X hw hr hl
  have hx := X.hx
  have hb := X.hb
  obtain ⟨H, eH⟩ : ∃ H : Heap, H = s.heap := ⟨_, rfl⟩
  obtain ⟨locs, el⟩ : ∃ locs : List Loc, locs = [] := ⟨_, rfl⟩
  rw [← eH, ← el] at hw ⊢
  clear eH el
  replace hl : lv_has ls 3 [(0, .ref (ad 0)), (1, .int x1), (2, .int x2)] := hl
  refine lv_iload_n hx hb dX11_listIn_0 rfl (lv_at hl 1 rfl) ?_
  obtain ⟨v2, hq1, hf⟩ := bind_some hf
  refine wr_cSi (r := v2) (σ' := σ) (av := [.int x1]) (rest := []) X hw hl.1 (k_X11_isLong hI hq1) rfl ml_X11_368 st_X11_isLong ini_X11 co_X11_isLong hd_X11_isLong ⟨Nat.le_of_ble_eq_true rfl, Nat.le_of_ble_eq_true rfl⟩ (Nat.le_of_ble_eq_true rfl) dX11_listIn_1 rfl (fun H locs hw => ?_)
  refine lv_if_eq (tgt := 16) hx hb dX11_listIn_4 (by decide) (fun c3 => ?_) (fun c3 => ?_)
  · have hf := (if_pos c3).symm.trans hf
    refine lv_iconst (v := -1) hx hb dX11_listIn_16 (by decide) ?_
    have er := Option.some.inj hf
    subst er
    exact wr_iret X hw hr (Or.inl rfl) dX11_listIn_17
  · have hf := (if_neg c3).symm.trans hf
    refine lv_iload_n hx hb dX11_listIn_7 rfl (lv_at hl 2 rfl) ?_
    refine lv_iconst (v := 0) hx hb dX11_listIn_8 (by decide) ?_
    refine lv_iconst (v := 1) hx hb dX11_listIn_9 (by decide) ?_
    obtain ⟨v5, hq4, hf⟩ := bind_some hf
    refine wr_cSi (r := v5) (σ' := σ) (av := [.int x2, .int (0 : Int32), .int (1 : Int32)]) (rest := []) X hw hl.1 (k_X11_in hI hq4) rfl ml_X11_282 st_X11_in ini_X11 co_X11_in hd_X11_in ⟨Nat.le_of_ble_eq_true rfl, Nat.le_of_ble_eq_true rfl⟩ (Nat.le_of_ble_eq_true rfl) dX11_listIn_10 rfl (fun H locs hw => ?_)
    refine lv_if_ne (tgt := 18) hx hb dX11_listIn_13 (by decide) (fun c6 => ?_) (fun c6 => ?_)
    · have hf := (if_neg c6).symm.trans hf
      refine lv_aload_n hx hb dX11_listIn_18 rfl (lv_at hl 0 rfl) ?_
      obtain ⟨σ8, hq7, hf⟩ := bind_some hf
      refine wr_cVv (σ' := σ8) (av := []) (rest := []) X hw hl.1 sM0 nM0 rfl (k_X11_copies hI hq7) rfl ml_X11_345 im_X11_copies se_X11_copies ini_X11 co_X11_copies hd_X11_copies ⟨Nat.le_of_ble_eq_true rfl, Nat.le_of_ble_eq_true rfl⟩ (Nat.le_of_ble_eq_true rfl) dX11_listIn_19 rfl (fun H locs hw => ?_)
      refine lv_aload_n hx hb dX11_listIn_22 rfl (lv_at hl 0 rfl) ?_
      refine lv_iload_n hx hb dX11_listIn_23 rfl (lv_at hl 1 rfl) ?_
      obtain ⟨σ10, hq9, hf⟩ := bind_some hf
      refine wr_cVv (σ' := σ10) (av := [.int x1]) (rest := []) X hw hl.1 sM0 nM0 rfl (k_X11_goes hI hq9) rfl ml_X11_371 im_X11_goes se_X11_goes ini_X11 co_X11_goes hd_X11_goes ⟨Nat.le_of_ble_eq_true rfl, Nat.le_of_ble_eq_true rfl⟩ (Nat.le_of_ble_eq_true rfl) dX11_listIn_24 rfl (fun H locs hw => ?_)
      refine lv_iload_n hx hb dX11_listIn_27 rfl (lv_at hl 2 rfl) ?_
      refine lv_if_ne (tgt := 41) hx hb dX11_listIn_28 (by decide) (fun c11 => ?_) (fun c11 => ?_)
      · have hf := (if_neg c11).symm.trans hf
        refine lv_aload_n hx hb dX11_listIn_41 rfl (lv_at hl 0 rfl) ?_
        refine gX11_44 (b := 27) X hw sM0 nM0 rfl fl_X11_98 dX11_listIn_42 ?_
        refine lv_bipush (v := 9) hx hb dX11_listIn_45 (by decide) ?_
        obtain ⟨h12, hf⟩ := if_some hf
        refine wr_iald X hw sM27 nM27 h12 dX11_listIn_47 ?_
        have er := Option.some.inj hf
        subst er
        exact wr_iret X hw hr (Or.inl rfl) dX11_listIn_48
      · have hf := (if_pos c11).symm.trans hf
        refine lv_aload_n hx hb dX11_listIn_31 rfl (lv_at hl 0 rfl) ?_
        refine gX11_44 (b := 27) X hw sM0 nM0 rfl fl_X11_98 dX11_listIn_32 ?_
        refine lv_bipush (v := 7) hx hb dX11_listIn_35 (by decide) ?_
        obtain ⟨h13, hf⟩ := if_some hf
        refine wr_iald X hw sM27 nM27 h13 dX11_listIn_37 ?_
        refine lv_goto (tgt := 48) hx hb dX11_listIn_38 (by decide) ?_
        have er := Option.some.inj hf
        subst er
        exact wr_iret X hw hr (Or.inl rfl) dX11_listIn_48
    · have hf := (if_pos c6).symm.trans hf
      refine lv_iconst (v := -1) hx hb dX11_listIn_16 (by decide) ?_
      have er := Option.some.inj hf
      subst er
      exact wr_iret X hw hr (Or.inl rfl) dX11_listIn_17

def f_X11_lowestOf (x0 : Int32) : Option (Int32) := wlet (fun (x1_2_1 : Int32) => if ((x0 >>> (x1_2_1 &&& 31)) &&& (1 : Int32)) = 0 then (wlet (x1_2_1 + (1 : Int32)) fun v3 => some (.inl v3)) else (some (.inr x1_2_1)) : Int32 → Option ((Int32) ⊕ (Int32))) fun st2_1 => Option.bind (lp st2_1 fuel (0 : Int32)) ((fun (x1_e2_1 : Int32) => some x1_e2_1))
theorem hd_X11_lowestOf : yX11_lowestOf.cls ≠ "java/lang/invoke/MethodHandle" ∧ yX11_lowestOf.cls ≠ "java/lang/invoke/VarHandle" ∧ (parseMethodDescriptor yX11_lowestOf.desc).map (fun d => d.parameters.length) = some 1 := by decide +kernel
set_option maxRecDepth 100000 in
set_option maxHeartbeats 4000000 in
theorem k_X11_lowestOf {l : Launch} {ad : Nat → Nat} {D : va_G} {cy : Nat → ClassId} {z : wStr} (hI : wI WM ad) {σ : St} {x0 : Int32}  {res : Int32} (hf : f_X11_lowestOf x0 = some res) : wC WM ad D cy z l yX11_lowestOf (Cond.code yX11_lowestOf cX11_lowestOf 2 (Option.some Jvm.ClassFile.FieldType.int) :: aw) (1) (100) [.int x0] σ (wQi WM ad D cy res σ) := by
  unfold f_X11_lowestOf at hf
  refine wr_start (own := RX11) hI (by decide +kernel) rfl (Nat.le_of_ble_eq_true rfl) rfl ?_
  intro p e s m below meth c ls X hw hr hl
  have hx := X.hx
  have hb := X.hb
  obtain ⟨H, eH⟩ : ∃ H : Heap, H = s.heap := ⟨_, rfl⟩
  obtain ⟨locs, el⟩ : ∃ locs : List Loc, locs = [] := ⟨_, rfl⟩
  rw [← eH, ← el] at hw ⊢
  clear eH el
  replace hl : lv_has ls 2 [(0, .int x0)] := hl
  refine lv_iconst (v := 0) hx hb dX11_lowestOf_0 (by decide) ?_
  refine lv_istore_n (lv' := [(1, .int (0 : Int32)), (0, .int x0)]) hx hb dX11_lowestOf_1 rfl hl (by decide) rfl (fun ls hl => ?_)
  obtain ⟨st2_1, est2_1, hf⟩ := wlet_some hf
  obtain ⟨E2_1, hq2_1, hE2_1⟩ := bind_some hf
  have hx2_1 : ∀ (x1_e2_1 : Int32) (_ : x1_e2_1 = E2_1) (ls : Array Slot) (H : Heap) (locs : List Loc), lv_has ls 2 [(1, .int x1_e2_1)] → wH WM ad D cy s σ H locs → W p l e { frames := 1, cells := 0, slots := 0, locals := 100 } s m [.int x0].toArray below meth c H locs 0 0 (MQ below (wQi WM ad D cy res σ) [.int x0].toArray s 0 0 (wA WM ad)) (F0 m 16 ls []) := by
    intro x1_e2_1 e0 ls H locs hl hw
    subst e0
    have hf := hE2_1
    refine lv_iload_n hx hb dX11_lowestOf_16 rfl (lv_at hl 0 rfl) ?_
    have er := Option.some.inj hf
    subst er
    exact wr_iret X hw hr (Or.inl rfl) dX11_lowestOf_17
  have lo2_1 : ∀ (n : Nat) (x1_2_1 : Int32) (_ : lp st2_1 n x1_2_1 = some E2_1) (ls : Array Slot) (H : Heap) (locs : List Loc), lv_has ls 2 [(0, .int x0), (1, .int x1_2_1)] → wH WM ad D cy s σ H locs → W p l e { frames := 1, cells := 0, slots := 0, locals := 100 } s m [.int x0].toArray below meth c H locs 0 0 (MQ below (wQi WM ad D cy res σ) [.int x0].toArray s 0 0 (wA WM ad)) (F0 m 2 ls []) := by
    intro n
    induction n with
    | zero =>
      intro x1_2_1 hf ls H locs hl hw
      exact (lp_zero hf).elim
    | succ n ih2_1 =>
      intro x1_2_1 hf ls H locs hl hw
      obtain ⟨q2_1, hf, hz2_1⟩ := lp_succ hf
      rw [est2_1] at hf
      refine lv_iload_n hx hb dX11_lowestOf_2 rfl (lv_at hl 0 rfl) ?_
      refine lv_iload_n hx hb dX11_lowestOf_3 rfl (lv_at hl 1 rfl) ?_
      refine lv_ishr hx hb dX11_lowestOf_4 ?_
      refine lv_iconst (v := 1) hx hb dX11_lowestOf_5 (by decide) ?_
      refine lv_iand hx hb dX11_lowestOf_6 ?_
      refine lv_if_ne (tgt := 16) hx hb dX11_lowestOf_7 (by decide) (fun c2 => ?_) (fun c2 => ?_)
      · have hf := (if_neg c2).symm.trans hf
        exact hx2_1 x1_2_1 (lpK_inr (lp_leaf hf hz2_1)) ls H locs (lv_sub hl [1] rfl) hw
      · have hf := (if_pos c2).symm.trans hf
        obtain ⟨v3, ev3, hf⟩ := wlet_some hf
        refine lv_iinc (v := v3) (lv' := [(1, .int v3), (0, .int x0)]) hx hb dX11_lowestOf_10 hl (k := 1) rfl (by rw [ev3]; rfl) (by decide) rfl (fun ls hl => ?_)
        refine lv_goto (tgt := 2) hx hb dX11_lowestOf_13 (by decide) ?_
        exact ih2_1 v3 (lp_leaf hf hz2_1) ls H locs (lv_sub hl [1, 0] rfl) hw
  exact lo2_1 fuel (0 : Int32) hq2_1 ls H locs (lv_sub hl [1, 0] rfl) hw

def f_X11_must (σ : St) (x1 : Int32) : Option (St) := Option.bind (f_X11_is σ x1) fun v2 => if v2 = 0 then (Option.bind (f_X11_fail σ (1 : Int32)) fun σ5 => some σ5) else (Option.bind (f_X11_goesOn σ) fun σ7 => some σ7)
theorem hd_X11_must : yX11_must.cls = RX11 ∧ yX11_must.cls ≠ "java/lang/invoke/MethodHandle" ∧ yX11_must.cls ≠ "java/lang/invoke/VarHandle" ∧ (parseMethodDescriptor yX11_must.desc).map (fun d => d.parameters.length) = some 1 := by decide +kernel
set_option maxRecDepth 100000 in
set_option maxHeartbeats 4000000 in
theorem k_X11_must {l : Launch} {ad : Nat → Nat} {D : va_G} {cy : Nat → ClassId} {z : wStr} (hI : wI WM ad) {σ : St} {x1 : Int32}  {res : St} (hf : f_X11_must σ x1 = some res) : wC WM ad D cy z l yX11_must (Cond.code yX11_must cX11_must 2 (none) :: aw) (3) (141) [.ref (ad 0), .int x1] σ (wQv WM ad D cy res) := by
  unfold f_X11_must at hf
  refine wr_start (own := RX11) hI (by decide +kernel) rfl (Nat.le_of_ble_eq_true rfl) rfl ?_
  intro p e s m below meth c ls X hw hr hl
  have hx := X.hx
  have hb := X.hb
  obtain ⟨H, eH⟩ : ∃ H : Heap, H = s.heap := ⟨_, rfl⟩
  obtain ⟨locs, el⟩ : ∃ locs : List Loc, locs = [] := ⟨_, rfl⟩
  rw [← eH, ← el] at hw ⊢
  clear eH el
  replace hl : lv_has ls 2 [(0, .ref (ad 0)), (1, .int x1)] := hl
  refine lv_aload_n hx hb dX11_must_0 rfl (lv_at hl 0 rfl) ?_
  refine lv_iload_n hx hb dX11_must_1 rfl (lv_at hl 1 rfl) ?_
  obtain ⟨v2, hq1, hf⟩ := bind_some hf
  refine wr_cVi (r := v2) (σ' := σ) (av := [.int x1]) (rest := []) X hw hl.1 sM0 nM0 rfl (k_X11_is hI hq1) rfl ml_X11_200 im_X11_is se_X11_is ini_X11 co_X11_is hd_X11_is ⟨Nat.le_of_ble_eq_true rfl, Nat.le_of_ble_eq_true rfl⟩ (Nat.le_of_ble_eq_true rfl) dX11_must_2 rfl (fun H locs hw => ?_)
  refine lv_if_eq (tgt := 15) hx hb dX11_must_5 (by decide) (fun c3 => ?_) (fun c3 => ?_)
  · have hf := (if_pos c3).symm.trans hf
    refine lv_aload_n hx hb dX11_must_15 rfl (lv_at hl 0 rfl) ?_
    refine lv_iconst (v := 1) hx hb dX11_must_16 (by decide) ?_
    obtain ⟨σ5, hq4, hf⟩ := bind_some hf
    refine wr_cVv (σ' := σ5) (av := [.int (1 : Int32)]) (rest := []) X hw hl.1 sM0 nM0 rfl (k_X11_fail hI hq4) rfl ml_X11_197 im_X11_fail se_X11_fail ini_X11 co_X11_fail hd_X11_fail ⟨Nat.le_of_ble_eq_true rfl, Nat.le_of_ble_eq_true rfl⟩ (Nat.le_of_ble_eq_true rfl) dX11_must_17 rfl (fun H locs hw => ?_)
    have er := Option.some.inj hf
    subst er
    exact wr_vret X hw hr dX11_must_20
  · have hf := (if_neg c3).symm.trans hf
    refine lv_aload_n hx hb dX11_must_8 rfl (lv_at hl 0 rfl) ?_
    obtain ⟨σ7, hq6, hf⟩ := bind_some hf
    refine wr_cVv (σ' := σ7) (av := []) (rest := []) X hw hl.1 sM0 nM0 rfl (k_X11_goesOn hI hq6) rfl ml_X11_203 im_X11_goesOn se_X11_goesOn ini_X11 co_X11_goesOn hd_X11_goesOn ⟨Nat.le_of_ble_eq_true rfl, Nat.le_of_ble_eq_true rfl⟩ (Nat.le_of_ble_eq_true rfl) dX11_must_9 rfl (fun H locs hw => ?_)
    refine lv_goto (tgt := 20) hx hb dX11_must_12 (by decide) ?_
    have er := Option.some.inj hf
    subst er
    exact wr_vret X hw hr dX11_must_20

def f_X11_off (σ : St) (x1 : Int32) : Option (Int32 × St) := Option.bind (f_X11_copies σ) fun σ2 => Option.bind (f_X11_isCase σ2 x1) fun v4 => if v4 = 0 then (some ((0 : Int32), σ2)) else (Option.bind (f_X11_isOn σ2 x1) fun v7 => if v7 = 0 then (some ((0 : Int32), σ2)) else (Option.bind (f_X11_placeOf σ2 x1) fun v10 => Option.bind (f_X11_putsOff σ2 v10) fun σ12 => bnd2 (f_X11_records σ12) fun v14 σ15 => if bz v14 = true then some (v14, σ15) else none))
theorem hd_X11_off : yX11_off.cls = RX11 ∧ yX11_off.cls ≠ "java/lang/invoke/MethodHandle" ∧ yX11_off.cls ≠ "java/lang/invoke/VarHandle" ∧ (parseMethodDescriptor yX11_off.desc).map (fun d => d.parameters.length) = some 1 := by decide +kernel
set_option maxRecDepth 100000 in
set_option maxHeartbeats 4000000 in
theorem k_X11_off {l : Launch} {ad : Nat → Nat} {D : va_G} {cy : Nat → ClassId} {z : wStr} (hI : wI WM ad) {σ : St} {x1 : Int32}  {res : Int32 × St} (hf : f_X11_off σ x1 = some res) : wC WM ad D cy z l yX11_off (Cond.code yX11_off cX11_off 2 (Option.some Jvm.ClassFile.FieldType.boolean) :: aw) (3) (145) [.ref (ad 0), .int x1] σ (wQi WM ad D cy res.1 res.2) := by
  unfold f_X11_off at hf
  refine wr_start (own := RX11) hI (by decide +kernel) rfl (Nat.le_of_ble_eq_true rfl) rfl ?_
  intro p e s m below meth c ls X hw hr hl
  have hx := X.hx
  have hb := X.hb
  obtain ⟨H, eH⟩ : ∃ H : Heap, H = s.heap := ⟨_, rfl⟩
  obtain ⟨locs, el⟩ : ∃ locs : List Loc, locs = [] := ⟨_, rfl⟩
  rw [← eH, ← el] at hw ⊢
  clear eH el
  replace hl : lv_has ls 2 [(0, .ref (ad 0)), (1, .int x1)] := hl
  refine lv_aload_n hx hb dX11_off_0 rfl (lv_at hl 0 rfl) ?_
  obtain ⟨σ2, hq1, hf⟩ := bind_some hf
  refine wr_cVv (σ' := σ2) (av := []) (rest := []) X hw hl.1 sM0 nM0 rfl (k_X11_copies hI hq1) rfl ml_X11_345 im_X11_copies se_X11_copies ini_X11 co_X11_copies hd_X11_copies ⟨Nat.le_of_ble_eq_true rfl, Nat.le_of_ble_eq_true rfl⟩ (Nat.le_of_ble_eq_true rfl) dX11_off_1 rfl (fun H locs hw => ?_)
  refine lv_aload_n hx hb dX11_off_4 rfl (lv_at hl 0 rfl) ?_
  refine lv_iload_n hx hb dX11_off_5 rfl (lv_at hl 1 rfl) ?_
  obtain ⟨v4, hq3, hf⟩ := bind_some hf
  refine wr_cVi (r := v4) (σ' := σ2) (av := [.int x1]) (rest := []) X hw hl.1 sM0 nM0 rfl (k_X11_isCase hI hq3) rfl ml_X11_342 im_X11_isCase se_X11_isCase ini_X11 co_X11_isCase hd_X11_isCase ⟨Nat.le_of_ble_eq_true rfl, Nat.le_of_ble_eq_true rfl⟩ (Nat.le_of_ble_eq_true rfl) dX11_off_6 rfl (fun H locs hw => ?_)
  refine lv_if_eq (tgt := 20) hx hb dX11_off_9 (by decide) (fun c5 => ?_) (fun c5 => ?_)
  · have hf := (if_pos c5).symm.trans hf
    refine lv_iconst (v := 0) hx hb dX11_off_20 (by decide) ?_
    have er := Option.some.inj hf
    subst er
    exact wr_iret X hw hr (Or.inr ⟨rfl, (show bz (0 : Int32) = true from rfl)⟩) dX11_off_21
  · have hf := (if_neg c5).symm.trans hf
    refine lv_aload_n hx hb dX11_off_12 rfl (lv_at hl 0 rfl) ?_
    refine lv_iload_n hx hb dX11_off_13 rfl (lv_at hl 1 rfl) ?_
    obtain ⟨v7, hq6, hf⟩ := bind_some hf
    refine wr_cVi (r := v7) (σ' := σ2) (av := [.int x1]) (rest := []) X hw hl.1 sM0 nM0 rfl (k_X11_isOn hI hq6) rfl ml_X11_348 im_X11_isOn se_X11_isOn ini_X11 co_X11_isOn hd_X11_isOn ⟨Nat.le_of_ble_eq_true rfl, Nat.le_of_ble_eq_true rfl⟩ (Nat.le_of_ble_eq_true rfl) dX11_off_14 rfl (fun H locs hw => ?_)
    refine lv_if_ne (tgt := 22) hx hb dX11_off_17 (by decide) (fun c8 => ?_) (fun c8 => ?_)
    · have hf := (if_neg c8).symm.trans hf
      refine lv_aload_n hx hb dX11_off_22 rfl (lv_at hl 0 rfl) ?_
      refine lv_aload_n hx hb dX11_off_23 rfl (lv_at hl 0 rfl) ?_
      refine lv_iload_n hx hb dX11_off_24 rfl (lv_at hl 1 rfl) ?_
      obtain ⟨v10, hq9, hf⟩ := bind_some hf
      refine wr_cVi (r := v10) (σ' := σ2) (av := [.int x1]) (rest := [.ref (ad 0)]) X hw hl.1 sM0 nM0 rfl (k_X11_placeOf hI hq9) rfl ml_X11_293 im_X11_placeOf se_X11_placeOf ini_X11 co_X11_placeOf hd_X11_placeOf ⟨Nat.le_of_ble_eq_true rfl, Nat.le_of_ble_eq_true rfl⟩ (Nat.le_of_ble_eq_true rfl) dX11_off_25 rfl (fun H locs hw => ?_)
      obtain ⟨σ12, hq11, hf⟩ := bind_some hf
      refine wr_cVv (σ' := σ12) (av := [.int v10]) (rest := []) X hw hl.1 sM0 nM0 rfl (k_X11_putsOff hI hq11) rfl ml_X11_365 im_X11_putsOff se_X11_putsOff ini_X11 co_X11_putsOff hd_X11_putsOff ⟨Nat.le_of_ble_eq_true rfl, Nat.le_of_ble_eq_true rfl⟩ (Nat.le_of_ble_eq_true rfl) dX11_off_28 rfl (fun H locs hw => ?_)
      refine lv_aload_n hx hb dX11_off_31 rfl (lv_at hl 0 rfl) ?_
      obtain ⟨v14, σ15, hq13, hf⟩ := bnd2_some hf
      refine wr_cVi (r := v14) (σ' := σ15) (av := []) (rest := []) X hw hl.1 sM0 nM0 rfl (k_X11_records hI hq13) rfl ml_X11_361 im_X11_records se_X11_records ini_X11 co_X11_records hd_X11_records ⟨Nat.le_of_ble_eq_true rfl, Nat.le_of_ble_eq_true rfl⟩ (Nat.le_of_ble_eq_true rfl) dX11_off_32 rfl (fun H locs hw => ?_)
      obtain ⟨hz, hf⟩ := if_some hf
      have er := Option.some.inj hf
      subst er
      exact wr_iret X hw hr (Or.inr ⟨rfl, hz⟩) dX11_off_35
    · have hf := (if_pos c8).symm.trans hf
      refine lv_iconst (v := 0) hx hb dX11_off_20 (by decide) ?_
      have er := Option.some.inj hf
      subst er
      exact wr_iret X hw hr (Or.inr ⟨rfl, (show bz (0 : Int32) = true from rfl)⟩) dX11_off_21

def f_X11_on (σ : St) (x1 : Int32) : Option (Int32 × St) := Option.bind (f_X11_copies σ) fun σ2 => Option.bind (f_X11_isCase σ2 x1) fun v4 => if v4 = 0 then (some ((0 : Int32), σ2)) else (Option.bind (f_X11_isOn σ2 x1) fun v7 => if v7 = 0 then (if ib (7 : Int32) 26 = true then if ib (σ2.1 27 (Int32.toNatClampNeg (7 : Int32))) 26 = true then wlet (si σ2 27 (Int32.toNatClampNeg (σ2.1 27 (Int32.toNatClampNeg (7 : Int32)))) x1) fun σ11 => if ib (7 : Int32) 26 = true then if ib (7 : Int32) 26 = true then wlet (si σ11 27 (Int32.toNatClampNeg (7 : Int32)) ((σ11.1 27 (Int32.toNatClampNeg (7 : Int32))) + (1 : Int32))) fun σ14 => bnd2 (f_X11_records σ14) fun v16 σ17 => if bz v16 = true then some (v16, σ17) else none else none else none else none else none) else (some ((0 : Int32), σ2)))
theorem hd_X11_on : yX11_on.cls = RX11 ∧ yX11_on.cls ≠ "java/lang/invoke/MethodHandle" ∧ yX11_on.cls ≠ "java/lang/invoke/VarHandle" ∧ (parseMethodDescriptor yX11_on.desc).map (fun d => d.parameters.length) = some 1 := by decide +kernel
set_option maxRecDepth 100000 in
set_option maxHeartbeats 4000000 in
theorem k_X11_on {l : Launch} {ad : Nat → Nat} {D : va_G} {cy : Nat → ClassId} {z : wStr} (hI : wI WM ad) {σ : St} {x1 : Int32}  {res : Int32 × St} (hf : f_X11_on σ x1 = some res) : wC WM ad D cy z l yX11_on (Cond.code yX11_on cX11_on 2 (Option.some Jvm.ClassFile.FieldType.boolean) :: aw) (3) (143) [.ref (ad 0), .int x1] σ (wQi WM ad D cy res.1 res.2) := by
  unfold f_X11_on at hf
  refine wr_start (own := RX11) hI (by decide +kernel) rfl (Nat.le_of_ble_eq_true rfl) rfl ?_
  intro p e s m below meth c ls X hw hr hl
  have hx := X.hx
  have hb := X.hb
  obtain ⟨H, eH⟩ : ∃ H : Heap, H = s.heap := ⟨_, rfl⟩
  obtain ⟨locs, el⟩ : ∃ locs : List Loc, locs = [] := ⟨_, rfl⟩
  rw [← eH, ← el] at hw ⊢
  clear eH el
  replace hl : lv_has ls 2 [(0, .ref (ad 0)), (1, .int x1)] := hl
  refine lv_aload_n hx hb dX11_on_0 rfl (lv_at hl 0 rfl) ?_
  obtain ⟨σ2, hq1, hf⟩ := bind_some hf
  refine wr_cVv (σ' := σ2) (av := []) (rest := []) X hw hl.1 sM0 nM0 rfl (k_X11_copies hI hq1) rfl ml_X11_345 im_X11_copies se_X11_copies ini_X11 co_X11_copies hd_X11_copies ⟨Nat.le_of_ble_eq_true rfl, Nat.le_of_ble_eq_true rfl⟩ (Nat.le_of_ble_eq_true rfl) dX11_on_1 rfl (fun H locs hw => ?_)
  refine lv_aload_n hx hb dX11_on_4 rfl (lv_at hl 0 rfl) ?_
  refine lv_iload_n hx hb dX11_on_5 rfl (lv_at hl 1 rfl) ?_
  obtain ⟨v4, hq3, hf⟩ := bind_some hf
  refine wr_cVi (r := v4) (σ' := σ2) (av := [.int x1]) (rest := []) X hw hl.1 sM0 nM0 rfl (k_X11_isCase hI hq3) rfl ml_X11_342 im_X11_isCase se_X11_isCase ini_X11 co_X11_isCase hd_X11_isCase ⟨Nat.le_of_ble_eq_true rfl, Nat.le_of_ble_eq_true rfl⟩ (Nat.le_of_ble_eq_true rfl) dX11_on_6 rfl (fun H locs hw => ?_)
  refine lv_if_eq (tgt := 20) hx hb dX11_on_9 (by decide) (fun c5 => ?_) (fun c5 => ?_)
  · have hf := (if_pos c5).symm.trans hf
    refine lv_iconst (v := 0) hx hb dX11_on_20 (by decide) ?_
    have er := Option.some.inj hf
    subst er
    exact wr_iret X hw hr (Or.inr ⟨rfl, (show bz (0 : Int32) = true from rfl)⟩) dX11_on_21
  · have hf := (if_neg c5).symm.trans hf
    refine lv_aload_n hx hb dX11_on_12 rfl (lv_at hl 0 rfl) ?_
    refine lv_iload_n hx hb dX11_on_13 rfl (lv_at hl 1 rfl) ?_
    obtain ⟨v7, hq6, hf⟩ := bind_some hf
    refine wr_cVi (r := v7) (σ' := σ2) (av := [.int x1]) (rest := []) X hw hl.1 sM0 nM0 rfl (k_X11_isOn hI hq6) rfl ml_X11_348 im_X11_isOn se_X11_isOn ini_X11 co_X11_isOn hd_X11_isOn ⟨Nat.le_of_ble_eq_true rfl, Nat.le_of_ble_eq_true rfl⟩ (Nat.le_of_ble_eq_true rfl) dX11_on_14 rfl (fun H locs hw => ?_)
    refine lv_if_eq (tgt := 22) hx hb dX11_on_17 (by decide) (fun c8 => ?_) (fun c8 => ?_)
    · have hf := (if_pos c8).symm.trans hf
      refine lv_aload_n hx hb dX11_on_22 rfl (lv_at hl 0 rfl) ?_
      refine gX11_44 (b := 27) X hw sM0 nM0 rfl fl_X11_98 dX11_on_23 ?_
      refine lv_aload_n hx hb dX11_on_26 rfl (lv_at hl 0 rfl) ?_
      refine gX11_44 (b := 27) X hw sM0 nM0 rfl fl_X11_98 dX11_on_27 ?_
      refine lv_bipush (v := 7) hx hb dX11_on_30 (by decide) ?_
      obtain ⟨h9, hf⟩ := if_some hf
      refine wr_iald X hw sM27 nM27 h9 dX11_on_32 ?_
      refine lv_iload_n hx hb dX11_on_33 rfl (lv_at hl 1 rfl) ?_
      obtain ⟨h10, hf⟩ := if_some hf
      obtain ⟨σ11, eσ11, hf⟩ := wlet_some hf
      refine wr_iast X hw sM27 nM27 h10 dX11_on_34 (fun H locs hw => ?_)
      replace hw := hw.to eσ11
      refine lv_aload_n hx hb dX11_on_35 rfl (lv_at hl 0 rfl) ?_
      refine gX11_44 (b := 27) X hw sM0 nM0 rfl fl_X11_98 dX11_on_36 ?_
      refine lv_bipush (v := 7) hx hb dX11_on_39 (by decide) ?_
      refine lv_dup2_11 hx hb dX11_on_41 rfl rfl ?_
      obtain ⟨h12, hf⟩ := if_some hf
      refine wr_iald X hw sM27 nM27 h12 dX11_on_42 ?_
      refine lv_iconst (v := 1) hx hb dX11_on_43 (by decide) ?_
      refine lv_iadd hx hb dX11_on_44 ?_
      obtain ⟨h13, hf⟩ := if_some hf
      obtain ⟨σ14, eσ14, hf⟩ := wlet_some hf
      refine wr_iast X hw sM27 nM27 h13 dX11_on_45 (fun H locs hw => ?_)
      replace hw := hw.to eσ14
      refine lv_aload_n hx hb dX11_on_46 rfl (lv_at hl 0 rfl) ?_
      obtain ⟨v16, σ17, hq15, hf⟩ := bnd2_some hf
      refine wr_cVi (r := v16) (σ' := σ17) (av := []) (rest := []) X hw hl.1 sM0 nM0 rfl (k_X11_records hI hq15) rfl ml_X11_361 im_X11_records se_X11_records ini_X11 co_X11_records hd_X11_records ⟨Nat.le_of_ble_eq_true rfl, Nat.le_of_ble_eq_true rfl⟩ (Nat.le_of_ble_eq_true rfl) dX11_on_47 rfl (fun H locs hw => ?_)
      obtain ⟨hz, hf⟩ := if_some hf
      have er := Option.some.inj hf
      subst er
      exact wr_iret X hw hr (Or.inr ⟨rfl, hz⟩) dX11_on_50
    · have hf := (if_neg c8).symm.trans hf
      refine lv_iconst (v := 0) hx hb dX11_on_20 (by decide) ?_
      have er := Option.some.inj hf
      subst er
      exact wr_iret X hw hr (Or.inr ⟨rfl, (show bz (0 : Int32) = true from rfl)⟩) dX11_on_21

def f_X11_place (σ : St)  : Option (Int32) := some (σ.1 0 17)
theorem hd_X11_place : yX11_place.cls = RX11 ∧ yX11_place.cls ≠ "java/lang/invoke/MethodHandle" ∧ yX11_place.cls ≠ "java/lang/invoke/VarHandle" ∧ (parseMethodDescriptor yX11_place.desc).map (fun d => d.parameters.length) = some 0 := by decide +kernel
set_option maxRecDepth 100000 in
set_option maxHeartbeats 4000000 in
theorem k_X11_place {l : Launch} {ad : Nat → Nat} {D : va_G} {cy : Nat → ClassId} {z : wStr} (hI : wI WM ad) {σ : St}   {res : Int32} (hf : f_X11_place σ  = some res) : wC WM ad D cy z l yX11_place (Cond.code yX11_place cX11_place 1 (Option.some Jvm.ClassFile.FieldType.int) :: aw) (1) (100) [.ref (ad 0)] σ (wQi WM ad D cy res σ) := by
  unfold f_X11_place at hf
  refine wr_start (own := RX11) hI (by decide +kernel) rfl (Nat.le_of_ble_eq_true rfl) rfl ?_
  intro p e s m below meth c ls X hw hr hl
  have hx := X.hx
  have hb := X.hb
  obtain ⟨H, eH⟩ : ∃ H : Heap, H = s.heap := ⟨_, rfl⟩
  obtain ⟨locs, el⟩ : ∃ locs : List Loc, locs = [] := ⟨_, rfl⟩
  rw [← eH, ← el] at hw ⊢
  clear eH el
  replace hl : lv_has ls 1 [(0, .ref (ad 0))] := hl
  refine lv_aload_n hx hb dX11_place_0 rfl (lv_at hl 0 rfl) ?_
  refine gX11_17 X hw sM0 nM0 fl_X11_37 dX11_place_1 ?_
  have er := Option.some.inj hf
  subst er
  exact wr_iret X hw hr (Or.inl rfl) dX11_place_4

def f_X11_plead (σ : St) (x1 : Int32) : Option (Int32 × St) := Option.bind (f_X11_copies σ) fun σ2 => Option.bind (f_X11_isCase σ2 x1) fun v4 => if v4 = 0 then (some ((-1 : Int32), σ2)) else (Option.bind (f_X11_isOn σ2 x1) fun v7 => if v7 = 0 then (some ((-1 : Int32), σ2)) else (Option.bind (f_X11_doesPlead σ2 x1) fun v10 => if v10 = 0 then (Option.bind (f_X11_placeOf σ2 x1) fun v13 => if ib (7 : Int32) 26 = true then if v13 = ((σ2.1 27 (Int32.toNatClampNeg (7 : Int32))) - (1 : Int32)) then (some ((-1 : Int32), σ2)) else (Option.bind (f_X11_placeOf σ2 x1) fun v17 => wlet (v17 + (1 : Int32)) fun v18 => if ib v18 26 = true then Option.bind (f_X11_deedAt σ2 x1) fun v21 => bnd2 (f_X11_feeOf σ2 (σ2.1 27 (Int32.toNatClampNeg v18)) v18 v21) fun v23 σ24 => if ib v18 26 = true then if ib ((10 : Int32) + (σ24.1 27 (Int32.toNatClampNeg v18))) 26 = true then if v23 ≤ (σ24.1 27 (Int32.toNatClampNeg ((10 : Int32) + (σ24.1 27 (Int32.toNatClampNeg v18))))) then (if ib v18 26 = true then if ib ((10 : Int32) + (σ24.1 27 (Int32.toNatClampNeg v18))) 26 = true then if ib ((10 : Int32) + (σ24.1 27 (Int32.toNatClampNeg v18))) 26 = true then wlet (si σ24 27 (Int32.toNatClampNeg ((10 : Int32) + (σ24.1 27 (Int32.toNatClampNeg v18)))) ((σ24.1 27 (Int32.toNatClampNeg ((10 : Int32) + (σ24.1 27 (Int32.toNatClampNeg v18))))) - v23)) fun σ31 => if ib (24 : Int32) 26 = true then if ib (24 : Int32) 26 = true then wlet (si σ31 27 (Int32.toNatClampNeg (24 : Int32)) ((σ31.1 27 (Int32.toNatClampNeg (24 : Int32))) ||| ((1 : Int32) <<< (x1 &&& 31)))) fun σ34 => bnd2 (f_X11_records σ34) fun v36 σ37 => some (v23, σ37) else none else none else none else none else none) else (some ((-1 : Int32), σ24)) else none else none else none) else none) else (some ((-1 : Int32), σ2))))
theorem hd_X11_plead : yX11_plead.cls = RX11 ∧ yX11_plead.cls ≠ "java/lang/invoke/MethodHandle" ∧ yX11_plead.cls ≠ "java/lang/invoke/VarHandle" ∧ (parseMethodDescriptor yX11_plead.desc).map (fun d => d.parameters.length) = some 1 := by decide +kernel
set_option maxRecDepth 100000 in
set_option maxHeartbeats 4000000 in
theorem k_X11_plead {l : Launch} {ad : Nat → Nat} {D : va_G} {cy : Nat → ClassId} {z : wStr} (hI : wI WM ad) {σ : St} {x1 : Int32}  {res : Int32 × St} (hf : f_X11_plead σ x1 = some res) : wC WM ad D cy z l yX11_plead (Cond.code yX11_plead cX11_plead 4 (Option.some Jvm.ClassFile.FieldType.int) :: aw) (4) (176) [.ref (ad 0), .int x1] σ (wQi WM ad D cy res.1 res.2) := by
  unfold f_X11_plead at hf
  refine wr_start (own := RX11) hI (by decide +kernel) rfl (Nat.le_of_ble_eq_true rfl) rfl ?_
  intro p e s m below meth c ls X hw hr hl
  have hx := X.hx
  have hb := X.hb
  obtain ⟨H, eH⟩ : ∃ H : Heap, H = s.heap := ⟨_, rfl⟩
  obtain ⟨locs, el⟩ : ∃ locs : List Loc, locs = [] := ⟨_, rfl⟩
  rw [← eH, ← el] at hw ⊢
  clear eH el
  replace hl : lv_has ls 4 [(0, .ref (ad 0)), (1, .int x1)] := hl
  refine lv_aload_n hx hb dX11_plead_0 rfl (lv_at hl 0 rfl) ?_
  obtain ⟨σ2, hq1, hf⟩ := bind_some hf
  refine wr_cVv (σ' := σ2) (av := []) (rest := []) X hw hl.1 sM0 nM0 rfl (k_X11_copies hI hq1) rfl ml_X11_345 im_X11_copies se_X11_copies ini_X11 co_X11_copies hd_X11_copies ⟨Nat.le_of_ble_eq_true rfl, Nat.le_of_ble_eq_true rfl⟩ (Nat.le_of_ble_eq_true rfl) dX11_plead_1 rfl (fun H locs hw => ?_)
  refine lv_aload_n hx hb dX11_plead_4 rfl (lv_at hl 0 rfl) ?_
  refine lv_iload_n hx hb dX11_plead_5 rfl (lv_at hl 1 rfl) ?_
  obtain ⟨v4, hq3, hf⟩ := bind_some hf
  refine wr_cVi (r := v4) (σ' := σ2) (av := [.int x1]) (rest := []) X hw hl.1 sM0 nM0 rfl (k_X11_isCase hI hq3) rfl ml_X11_342 im_X11_isCase se_X11_isCase ini_X11 co_X11_isCase hd_X11_isCase ⟨Nat.le_of_ble_eq_true rfl, Nat.le_of_ble_eq_true rfl⟩ (Nat.le_of_ble_eq_true rfl) dX11_plead_6 rfl (fun H locs hw => ?_)
  refine lv_if_eq (tgt := 45) hx hb dX11_plead_9 (by decide) (fun c5 => ?_) (fun c5 => ?_)
  · have hf := (if_pos c5).symm.trans hf
    refine lv_iconst (v := -1) hx hb dX11_plead_45 (by decide) ?_
    have er := Option.some.inj hf
    subst er
    exact wr_iret X hw hr (Or.inl rfl) dX11_plead_46
  · have hf := (if_neg c5).symm.trans hf
    refine lv_aload_n hx hb dX11_plead_12 rfl (lv_at hl 0 rfl) ?_
    refine lv_iload_n hx hb dX11_plead_13 rfl (lv_at hl 1 rfl) ?_
    obtain ⟨v7, hq6, hf⟩ := bind_some hf
    refine wr_cVi (r := v7) (σ' := σ2) (av := [.int x1]) (rest := []) X hw hl.1 sM0 nM0 rfl (k_X11_isOn hI hq6) rfl ml_X11_348 im_X11_isOn se_X11_isOn ini_X11 co_X11_isOn hd_X11_isOn ⟨Nat.le_of_ble_eq_true rfl, Nat.le_of_ble_eq_true rfl⟩ (Nat.le_of_ble_eq_true rfl) dX11_plead_14 rfl (fun H locs hw => ?_)
    refine lv_if_eq (tgt := 45) hx hb dX11_plead_17 (by decide) (fun c8 => ?_) (fun c8 => ?_)
    · have hf := (if_pos c8).symm.trans hf
      refine lv_iconst (v := -1) hx hb dX11_plead_45 (by decide) ?_
      have er := Option.some.inj hf
      subst er
      exact wr_iret X hw hr (Or.inl rfl) dX11_plead_46
    · have hf := (if_neg c8).symm.trans hf
      refine lv_aload_n hx hb dX11_plead_20 rfl (lv_at hl 0 rfl) ?_
      refine lv_iload_n hx hb dX11_plead_21 rfl (lv_at hl 1 rfl) ?_
      obtain ⟨v10, hq9, hf⟩ := bind_some hf
      refine wr_cVi (r := v10) (σ' := σ2) (av := [.int x1]) (rest := []) X hw hl.1 sM0 nM0 rfl (k_X11_doesPlead hI hq9) rfl ml_X11_302 im_X11_doesPlead se_X11_doesPlead ini_X11 co_X11_doesPlead hd_X11_doesPlead ⟨Nat.le_of_ble_eq_true rfl, Nat.le_of_ble_eq_true rfl⟩ (Nat.le_of_ble_eq_true rfl) dX11_plead_22 rfl (fun H locs hw => ?_)
      refine lv_if_ne (tgt := 45) hx hb dX11_plead_25 (by decide) (fun c11 => ?_) (fun c11 => ?_)
      · have hf := (if_neg c11).symm.trans hf
        refine lv_iconst (v := -1) hx hb dX11_plead_45 (by decide) ?_
        have er := Option.some.inj hf
        subst er
        exact wr_iret X hw hr (Or.inl rfl) dX11_plead_46
      · have hf := (if_pos c11).symm.trans hf
        refine lv_aload_n hx hb dX11_plead_28 rfl (lv_at hl 0 rfl) ?_
        refine lv_iload_n hx hb dX11_plead_29 rfl (lv_at hl 1 rfl) ?_
        obtain ⟨v13, hq12, hf⟩ := bind_some hf
        refine wr_cVi (r := v13) (σ' := σ2) (av := [.int x1]) (rest := []) X hw hl.1 sM0 nM0 rfl (k_X11_placeOf hI hq12) rfl ml_X11_293 im_X11_placeOf se_X11_placeOf ini_X11 co_X11_placeOf hd_X11_placeOf ⟨Nat.le_of_ble_eq_true rfl, Nat.le_of_ble_eq_true rfl⟩ (Nat.le_of_ble_eq_true rfl) dX11_plead_30 rfl (fun H locs hw => ?_)
        refine lv_aload_n hx hb dX11_plead_33 rfl (lv_at hl 0 rfl) ?_
        refine gX11_44 (b := 27) X hw sM0 nM0 rfl fl_X11_98 dX11_plead_34 ?_
        refine lv_bipush (v := 7) hx hb dX11_plead_37 (by decide) ?_
        obtain ⟨h14, hf⟩ := if_some hf
        refine wr_iald X hw sM27 nM27 h14 dX11_plead_39 ?_
        refine lv_iconst (v := 1) hx hb dX11_plead_40 (by decide) ?_
        refine lv_isub hx hb dX11_plead_41 ?_
        refine lv_icmp_ne (tgt := 47) hx hb dX11_plead_42 (by decide) (fun c15 => ?_) (fun c15 => ?_)
        · have hf := (if_neg c15).symm.trans hf
          refine lv_aload_n hx hb dX11_plead_47 rfl (lv_at hl 0 rfl) ?_
          refine lv_iload_n hx hb dX11_plead_48 rfl (lv_at hl 1 rfl) ?_
          obtain ⟨v17, hq16, hf⟩ := bind_some hf
          refine wr_cVi (r := v17) (σ' := σ2) (av := [.int x1]) (rest := []) X hw hl.1 sM0 nM0 rfl (k_X11_placeOf hI hq16) rfl ml_X11_293 im_X11_placeOf se_X11_placeOf ini_X11 co_X11_placeOf hd_X11_placeOf ⟨Nat.le_of_ble_eq_true rfl, Nat.le_of_ble_eq_true rfl⟩ (Nat.le_of_ble_eq_true rfl) dX11_plead_49 rfl (fun H locs hw => ?_)
          refine lv_iconst (v := 1) hx hb dX11_plead_52 (by decide) ?_
          refine lv_iadd hx hb dX11_plead_53 ?_
          obtain ⟨v18, ev18, hf⟩ := wlet_some hf
          refine wr_top ev18 ?_
          refine lv_istore_n (lv' := [(2, .int v18), (0, .ref (ad 0)), (1, .int x1)]) hx hb dX11_plead_54 rfl hl (by decide) rfl (fun ls hl => ?_)
          refine lv_aload_n hx hb dX11_plead_55 rfl (lv_at hl 1 rfl) ?_
          refine lv_aload_n hx hb dX11_plead_56 rfl (lv_at hl 1 rfl) ?_
          refine gX11_44 (b := 27) X hw sM0 nM0 rfl fl_X11_98 dX11_plead_57 ?_
          refine lv_iload_n hx hb dX11_plead_60 rfl (lv_at hl 0 rfl) ?_
          obtain ⟨h19, hf⟩ := if_some hf
          refine wr_iald X hw sM27 nM27 h19 dX11_plead_61 ?_
          refine lv_iload_n hx hb dX11_plead_62 rfl (lv_at hl 0 rfl) ?_
          refine lv_aload_n hx hb dX11_plead_63 rfl (lv_at hl 1 rfl) ?_
          refine lv_iload_n hx hb dX11_plead_64 rfl (lv_at hl 2 rfl) ?_
          obtain ⟨v21, hq20, hf⟩ := bind_some hf
          refine wr_cVi (r := v21) (σ' := σ2) (av := [.int x1]) (rest := [.int v18, .int (σ2.1 27 (Int32.toNatClampNeg v18)), .ref (ad 0)]) X hw hl.1 sM0 nM0 rfl (k_X11_deedAt hI hq20) rfl ml_X11_299 im_X11_deedAt se_X11_deedAt ini_X11 co_X11_deedAt hd_X11_deedAt ⟨Nat.le_of_ble_eq_true rfl, Nat.le_of_ble_eq_true rfl⟩ (Nat.le_of_ble_eq_true rfl) dX11_plead_65 rfl (fun H locs hw => ?_)
          obtain ⟨v23, σ24, hq22, hf⟩ := bnd2_some hf
          refine wr_cVi (r := v23) (σ' := σ24) (av := [.int (σ2.1 27 (Int32.toNatClampNeg v18)), .int v18, .int v21]) (rest := []) X hw hl.1 sM0 nM0 rfl (k_X11_feeOf hI hq22) rfl ml_X11_351 im_X11_feeOf se_X11_feeOf ini_X11 co_X11_feeOf hd_X11_feeOf ⟨Nat.le_of_ble_eq_true rfl, Nat.le_of_ble_eq_true rfl⟩ (Nat.le_of_ble_eq_true rfl) dX11_plead_68 rfl (fun H locs hw => ?_)
          refine lv_istore_n (lv' := [(3, .int v23), (2, .int v18), (0, .ref (ad 0)), (1, .int x1)]) hx hb dX11_plead_71 rfl hl (by decide) rfl (fun ls hl => ?_)
          refine lv_iload_n hx hb dX11_plead_72 rfl (lv_at hl 0 rfl) ?_
          refine lv_aload_n hx hb dX11_plead_73 rfl (lv_at hl 2 rfl) ?_
          refine gX11_44 (b := 27) X hw sM0 nM0 rfl fl_X11_98 dX11_plead_74 ?_
          refine lv_bipush (v := 10) hx hb dX11_plead_77 (by decide) ?_
          refine lv_aload_n hx hb dX11_plead_79 rfl (lv_at hl 2 rfl) ?_
          refine gX11_44 (b := 27) X hw sM0 nM0 rfl fl_X11_98 dX11_plead_80 ?_
          refine lv_iload_n hx hb dX11_plead_83 rfl (lv_at hl 1 rfl) ?_
          obtain ⟨h25, hf⟩ := if_some hf
          refine wr_iald X hw sM27 nM27 h25 dX11_plead_84 ?_
          refine lv_iadd hx hb dX11_plead_85 ?_
          obtain ⟨h26, hf⟩ := if_some hf
          refine wr_iald X hw sM27 nM27 h26 dX11_plead_86 ?_
          refine lv_icmp_le (tgt := 92) hx hb dX11_plead_87 (by decide) (fun c27 => ?_) (fun c27 => ?_)
          · have hf := (if_pos c27).symm.trans hf
            refine lv_aload_n hx hb dX11_plead_92 rfl (lv_at hl 2 rfl) ?_
            refine gX11_44 (b := 27) X hw sM0 nM0 rfl fl_X11_98 dX11_plead_93 ?_
            refine lv_bipush (v := 10) hx hb dX11_plead_96 (by decide) ?_
            refine lv_aload_n hx hb dX11_plead_98 rfl (lv_at hl 2 rfl) ?_
            refine gX11_44 (b := 27) X hw sM0 nM0 rfl fl_X11_98 dX11_plead_99 ?_
            refine lv_iload_n hx hb dX11_plead_102 rfl (lv_at hl 1 rfl) ?_
            obtain ⟨h28, hf⟩ := if_some hf
            refine wr_iald X hw sM27 nM27 h28 dX11_plead_103 ?_
            refine lv_iadd hx hb dX11_plead_104 ?_
            refine lv_dup2_11 hx hb dX11_plead_105 rfl rfl ?_
            obtain ⟨h29, hf⟩ := if_some hf
            refine wr_iald X hw sM27 nM27 h29 dX11_plead_106 ?_
            refine lv_iload_n hx hb dX11_plead_107 rfl (lv_at hl 0 rfl) ?_
            refine lv_isub hx hb dX11_plead_108 ?_
            obtain ⟨h30, hf⟩ := if_some hf
            obtain ⟨σ31, eσ31, hf⟩ := wlet_some hf
            refine wr_iast X hw sM27 nM27 h30 dX11_plead_109 (fun H locs hw => ?_)
            replace hw := hw.to eσ31
            refine lv_aload_n hx hb dX11_plead_110 rfl (lv_at hl 2 rfl) ?_
            refine gX11_44 (b := 27) X hw sM0 nM0 rfl fl_X11_98 dX11_plead_111 ?_
            refine lv_bipush (v := 24) hx hb dX11_plead_114 (by decide) ?_
            refine lv_dup2_11 hx hb dX11_plead_116 rfl rfl ?_
            obtain ⟨h32, hf⟩ := if_some hf
            refine wr_iald X hw sM27 nM27 h32 dX11_plead_117 ?_
            refine lv_iconst (v := 1) hx hb dX11_plead_118 (by decide) ?_
            refine lv_iload_n hx hb dX11_plead_119 rfl (lv_at hl 3 rfl) ?_
            refine lv_ishl hx hb dX11_plead_120 ?_
            refine lv_ior hx hb dX11_plead_121 ?_
            obtain ⟨h33, hf⟩ := if_some hf
            obtain ⟨σ34, eσ34, hf⟩ := wlet_some hf
            refine wr_iast X hw sM27 nM27 h33 dX11_plead_122 (fun H locs hw => ?_)
            replace hw := hw.to eσ34
            refine lv_aload_n hx hb dX11_plead_123 rfl (lv_at hl 2 rfl) ?_
            obtain ⟨v36, σ37, hq35, hf⟩ := bnd2_some hf
            refine wr_cVi (r := v36) (σ' := σ37) (av := []) (rest := []) X hw hl.1 sM0 nM0 rfl (k_X11_records hI hq35) rfl ml_X11_361 im_X11_records se_X11_records ini_X11 co_X11_records hd_X11_records ⟨Nat.le_of_ble_eq_true rfl, Nat.le_of_ble_eq_true rfl⟩ (Nat.le_of_ble_eq_true rfl) dX11_plead_124 rfl (fun H locs hw => ?_)
            refine lv_pop hx hb dX11_plead_127 rfl ?_
            refine lv_iload_n hx hb dX11_plead_128 rfl (lv_at hl 0 rfl) ?_
            have er := Option.some.inj hf
            subst er
            exact wr_iret X hw hr (Or.inl rfl) dX11_plead_129
          · have hf := (if_neg c27).symm.trans hf
            refine lv_iconst (v := -1) hx hb dX11_plead_90 (by decide) ?_
            have er := Option.some.inj hf
            subst er
            exact wr_iret X hw hr (Or.inl rfl) dX11_plead_91
        · have hf := (if_pos c15).symm.trans hf
          refine lv_iconst (v := -1) hx hb dX11_plead_45 (by decide) ?_
          have er := Option.some.inj hf
          subst er
          exact wr_iret X hw hr (Or.inl rfl) dX11_plead_46

def f_X11_roomFor (σ : St) (x1 : Int32) (x2 : Int32) : Option (St) := wlet (fun (σ_10_1 : St) => (if (σ_10_1.1 0 13) = 0 then (Option.bind (f_X11_goesOn σ_10_1) fun σ4 => some σ4) else (some σ_10_1) : Option (St))) fun k10_1 => if x1 = x2 then (Option.bind (f_X11_fail σ (2 : Int32)) fun σ7 => k10_1 σ7) else (k10_1 σ)
theorem hd_X11_roomFor : yX11_roomFor.cls = RX11 ∧ yX11_roomFor.cls ≠ "java/lang/invoke/MethodHandle" ∧ yX11_roomFor.cls ≠ "java/lang/invoke/VarHandle" ∧ (parseMethodDescriptor yX11_roomFor.desc).map (fun d => d.parameters.length) = some 2 := by decide +kernel
set_option maxRecDepth 100000 in
set_option maxHeartbeats 4000000 in
theorem k_X11_roomFor {l : Launch} {ad : Nat → Nat} {D : va_G} {cy : Nat → ClassId} {z : wStr} (hI : wI WM ad) {σ : St} {x1 : Int32} {x2 : Int32}  {res : St} (hf : f_X11_roomFor σ x1 x2 = some res) : wC WM ad D cy z l yX11_roomFor (Cond.code yX11_roomFor cX11_roomFor 3 (none) :: aw) (3) (141) [.ref (ad 0), .int x1, .int x2] σ (wQv WM ad D cy res) := by
  unfold f_X11_roomFor at hf
  refine wr_start (own := RX11) hI (by decide +kernel) rfl (Nat.le_of_ble_eq_true rfl) rfl ?_
  intro p e s m below meth c ls X hw hr hl
  have hx := X.hx
  have hb := X.hb
  obtain ⟨H, eH⟩ : ∃ H : Heap, H = s.heap := ⟨_, rfl⟩
  obtain ⟨locs, el⟩ : ∃ locs : List Loc, locs = [] := ⟨_, rfl⟩
  rw [← eH, ← el] at hw ⊢
  clear eH el
  replace hl : lv_has ls 3 [(0, .ref (ad 0)), (1, .int x1), (2, .int x2)] := hl
  refine lv_iload_n hx hb dX11_roomFor_0 rfl (lv_at hl 1 rfl) ?_
  refine lv_iload_n hx hb dX11_roomFor_1 rfl (lv_at hl 2 rfl) ?_
  obtain ⟨k10_1, ek10_1, hf0⟩ := wlet_some hf
  have j10_1 : ∀ (σ_10_1 : St) (_ : k10_1 σ_10_1 = some res) (ls : Array Slot) (H : Heap) (locs : List Loc), lv_has ls 3 [(0, .ref (ad 0))] → wH WM ad D cy s σ_10_1 H locs → W p l e { frames := 3, cells := 0, slots := 0, locals := 141 } s m [.ref (ad 0), .int x1, .int x2].toArray below meth c H locs 0 0 (MQ below (wQv WM ad D cy res) [.ref (ad 0), .int x1, .int x2].toArray s 0 0 (wA WM ad)) (F0 m 10 ls []) := by
    intro σ_10_1 hf ls H locs hl hw
    rw [ek10_1] at hf
    refine lv_aload_n hx hb dX11_roomFor_10 rfl (lv_at hl 0 rfl) ?_
    refine gX11_13 X hw sM0 nM0 fl_X11_182 dX11_roomFor_11 ?_
    refine lv_if_ne (tgt := 21) hx hb dX11_roomFor_14 (by decide) (fun c2 => ?_) (fun c2 => ?_)
    · have hf := (if_neg c2).symm.trans hf
      have er := Option.some.inj hf
      subst er
      exact wr_vret X hw hr dX11_roomFor_21
    · have hf := (if_pos c2).symm.trans hf
      refine lv_aload_n hx hb dX11_roomFor_17 rfl (lv_at hl 0 rfl) ?_
      obtain ⟨σ4, hq3, hf⟩ := bind_some hf
      refine wr_cVv (σ' := σ4) (av := []) (rest := []) X hw hl.1 sM0 nM0 rfl (k_X11_goesOn hI hq3) rfl ml_X11_203 im_X11_goesOn se_X11_goesOn ini_X11 co_X11_goesOn hd_X11_goesOn ⟨Nat.le_of_ble_eq_true rfl, Nat.le_of_ble_eq_true rfl⟩ (Nat.le_of_ble_eq_true rfl) dX11_roomFor_18 rfl (fun H locs hw => ?_)
      have er := Option.some.inj hf
      subst er
      exact wr_vret X hw hr dX11_roomFor_21
  replace hf := hf0
  refine lv_icmp_ne (tgt := 10) hx hb dX11_roomFor_2 (by decide) (fun c5 => ?_) (fun c5 => ?_)
  · have hf := (if_neg c5).symm.trans hf
    exact j10_1 σ hf ls H locs (lv_sub hl [0] rfl) hw
  · have hf := (if_pos c5).symm.trans hf
    refine lv_aload_n hx hb dX11_roomFor_5 rfl (lv_at hl 0 rfl) ?_
    refine lv_iconst (v := 2) hx hb dX11_roomFor_6 (by decide) ?_
    obtain ⟨σ7, hq6, hf⟩ := bind_some hf
    refine wr_cVv (σ' := σ7) (av := [.int (2 : Int32)]) (rest := []) X hw hl.1 sM0 nM0 rfl (k_X11_fail hI hq6) rfl ml_X11_197 im_X11_fail se_X11_fail ini_X11 co_X11_fail hd_X11_fail ⟨Nat.le_of_ble_eq_true rfl, Nat.le_of_ble_eq_true rfl⟩ (Nat.le_of_ble_eq_true rfl) dX11_roomFor_7 rfl (fun H locs hw => ?_)
    exact j10_1 σ7 hf ls H locs (lv_sub hl [0] rfl) hw

def f_X11_tellCase (σ : St)  : Option (St) := if ib (σ.1 0 19) 2 = true then wlet (((7 : Int32) * (σ.1 0 19)) + (σ.1 9 (Int32.toNatClampNeg (σ.1 0 19)))) fun v2 => wlet (σ.1 0 11) fun v3 => Option.bind (f_X11_must σ (1 : Int32)) fun σ5 => wlet (un2 (fun (σ30_6 : St) (x3_30_6 : Int32) => if (σ30_6.1 0 20) ≤ x3_30_6 then (some (.inr σ30_6)) else (if (σ30_6.1 0 13) = 0 then (if ib x3_30_6 7 = true then if ib v3 403 = true then if (lg_cmp (σ30_6.2 8 (Int32.toNatClampNeg x3_30_6)) (σ30_6.2 6 (Int32.toNatClampNeg v3))) = 0 then (Option.bind (f_X11_wrong σ30_6 (3 : Int32) v3) fun σ34 => wlet (x3_30_6 + (1 : Int32)) fun v35 => some (.inl (σ34, v35))) else (wlet (x3_30_6 + (1 : Int32)) fun v32 => some (.inl (σ30_6, v32))) else none else none) else (some (.inr σ30_6)))) : St × Int32 → Option ((St × Int32) ⊕ (St))) fun st30_6 => Option.bind (lp st30_6 fuel (σ5, (0 : Int32))) ((fun (σe30_6 : St) => bnd2 (f_X11_bounded σe30_6 (0 : Int32) (99 : Int32)) fun v8 σ9 => if ib v2 14 = true then wlet (si σ9 10 (Int32.toNatClampNeg v2) v8) fun σ11 => bnd2 (f_X11_bounded σ11 (0 : Int32) (99 : Int32)) fun v13 σ14 => if ib v2 14 = true then wlet (si σ14 11 (Int32.toNatClampNeg v2) v13) fun σ16 => Option.bind (f_X11_must σ16 (4 : Int32)) fun σ18 => if (σ18.1 0 13) ≤ 0 then (if ib v3 403 = true then if ib (σ18.1 0 20) 7 = true then wlet (sj σ18 8 (Int32.toNatClampNeg (σ18.1 0 20)) (σ18.2 6 (Int32.toNatClampNeg v3))) fun σ22 => wlet (si σ22 0 20 ((σ22.1 0 20) + (1 : Int32))) fun σ23 => if ib (σ23.1 0 19) 2 = true then if ib (σ23.1 0 19) 2 = true then wlet (si σ23 9 (Int32.toNatClampNeg (σ23.1 0 19)) ((σ23.1 9 (Int32.toNatClampNeg (σ23.1 0 19))) + (1 : Int32))) fun σ26 => some σ26 else none else none else none else none) else (some σ18) else none else none)) else none
theorem hd_X11_tellCase : yX11_tellCase.cls = RX11 ∧ yX11_tellCase.cls ≠ "java/lang/invoke/MethodHandle" ∧ yX11_tellCase.cls ≠ "java/lang/invoke/VarHandle" ∧ (parseMethodDescriptor yX11_tellCase.desc).map (fun d => d.parameters.length) = some 0 := by decide +kernel
set_option maxRecDepth 100000 in
set_option maxHeartbeats 4000000 in
theorem k_X11_tellCase {l : Launch} {ad : Nat → Nat} {D : va_G} {cy : Nat → ClassId} {z : wStr} (hI : wI WM ad) {σ : St}   {res : St} (hf : f_X11_tellCase σ  = some res) : wC WM ad D cy z l yX11_tellCase (Cond.code yX11_tellCase cX11_tellCase 4 (none) :: aw) (4) (164) [.ref (ad 0)] σ (wQv WM ad D cy res) := by
  unfold f_X11_tellCase at hf
  refine wr_start (own := RX11) hI (by decide +kernel) rfl (Nat.le_of_ble_eq_true rfl) rfl ?_
  intro p e s m below meth c ls X hw hr hl
  have hx := X.hx
  have hb := X.hb
  obtain ⟨H, eH⟩ : ∃ H : Heap, H = s.heap := ⟨_, rfl⟩
  obtain ⟨locs, el⟩ : ∃ locs : List Loc, locs = [] := ⟨_, rfl⟩
  rw [← eH, ← el] at hw ⊢
  clear eH el
  replace hl : lv_has ls 4 [(0, .ref (ad 0))] := hl
  refine lv_bipush (v := 7) hx hb dX11_tellCase_0 (by decide) ?_
  refine lv_aload_n hx hb dX11_tellCase_2 rfl (lv_at hl 0 rfl) ?_
  refine gX11_19 X hw sM0 nM0 fl_X11_215 dX11_tellCase_3 ?_
  refine lv_imul hx hb dX11_tellCase_6 ?_
  refine lv_aload_n hx hb dX11_tellCase_7 rfl (lv_at hl 0 rfl) ?_
  refine gX11_22 (b := 9) X hw sM0 nM0 rfl fl_X11_43 dX11_tellCase_8 ?_
  refine lv_aload_n hx hb dX11_tellCase_11 rfl (lv_at hl 0 rfl) ?_
  refine gX11_19 X hw sM0 nM0 fl_X11_215 dX11_tellCase_12 ?_
  obtain ⟨h1, hf⟩ := if_some hf
  refine wr_iald X hw sM9 nM9 h1 dX11_tellCase_15 ?_
  refine lv_iadd hx hb dX11_tellCase_16 ?_
  obtain ⟨v2, ev2, hf⟩ := wlet_some hf
  refine wr_top ev2 ?_
  refine lv_istore_n (lv' := [(1, .int v2), (0, .ref (ad 0))]) hx hb dX11_tellCase_17 rfl hl (by decide) rfl (fun ls hl => ?_)
  refine lv_aload_n hx hb dX11_tellCase_18 rfl (lv_at hl 1 rfl) ?_
  refine gX11_11 X hw sM0 nM0 fl_X11_185 dX11_tellCase_19 ?_
  obtain ⟨v3, ev3, hf⟩ := wlet_some hf
  refine wr_top ev3 ?_
  refine lv_istore_n (lv' := [(2, .int v3), (1, .int v2), (0, .ref (ad 0))]) hx hb dX11_tellCase_22 rfl hl (by decide) rfl (fun ls hl => ?_)
  refine lv_aload_n hx hb dX11_tellCase_23 rfl (lv_at hl 2 rfl) ?_
  refine lv_iconst (v := 1) hx hb dX11_tellCase_24 (by decide) ?_
  obtain ⟨σ5, hq4, hf⟩ := bind_some hf
  refine wr_cVv (σ' := σ5) (av := [.int (1 : Int32)]) (rest := []) X hw hl.1 sM0 nM0 rfl (k_X11_must hI hq4) rfl ml_X11_240 im_X11_must se_X11_must ini_X11 co_X11_must hd_X11_must ⟨Nat.le_of_ble_eq_true rfl, Nat.le_of_ble_eq_true rfl⟩ (Nat.le_of_ble_eq_true rfl) dX11_tellCase_25 rfl (fun H locs hw => ?_)
  refine lv_iconst (v := 0) hx hb dX11_tellCase_28 (by decide) ?_
  refine lv_istore_n (lv' := [(3, .int (0 : Int32)), (2, .int v3), (1, .int v2), (0, .ref (ad 0))]) hx hb dX11_tellCase_29 rfl hl (by decide) rfl (fun ls hl => ?_)
  obtain ⟨st30_6, est30_6, hf⟩ := wlet_some hf
  obtain ⟨E30_6, hq30_6, hE30_6⟩ := bind_some hf
  have hx30_6 : ∀ (σe30_6 : St) (_ : σe30_6 = E30_6) (ls : Array Slot) (H : Heap) (locs : List Loc), lv_has ls 4 [(0, .ref (ad 0)), (1, .int v2), (2, .int v3)] → wH WM ad D cy s σe30_6 H locs → W p l e { frames := 4, cells := 0, slots := 0, locals := 164 } s m [.ref (ad 0)].toArray below meth c H locs 0 0 (MQ below (wQv WM ad D cy res) [.ref (ad 0)].toArray s 0 0 (wA WM ad)) (F0 m 73 ls []) := by
    intro σe30_6 e0 ls H locs hl hw
    subst e0
    have hf := hE30_6
    refine lv_aload_n hx hb dX11_tellCase_73 rfl (lv_at hl 0 rfl) ?_
    refine gX11_23 (b := 10) X hw sM0 nM0 rfl fl_X11_46 dX11_tellCase_74 ?_
    refine lv_iload_n hx hb dX11_tellCase_77 rfl (lv_at hl 1 rfl) ?_
    refine lv_aload_n hx hb dX11_tellCase_78 rfl (lv_at hl 0 rfl) ?_
    refine lv_iconst (v := 0) hx hb dX11_tellCase_79 (by decide) ?_
    refine lv_bipush (v := 99) hx hb dX11_tellCase_80 (by decide) ?_
    obtain ⟨v8, σ9, hq7, hf⟩ := bnd2_some hf
    refine wr_cVi (r := v8) (σ' := σ9) (av := [.int (0 : Int32), .int (99 : Int32)]) (rest := [.int v2, .ref (ad 10)]) X hw hl.1 sM0 nM0 rfl (k_X11_bounded hI hq7) rfl ml_X11_236 im_X11_bounded se_X11_bounded ini_X11 co_X11_bounded hd_X11_bounded ⟨Nat.le_of_ble_eq_true rfl, Nat.le_of_ble_eq_true rfl⟩ (Nat.le_of_ble_eq_true rfl) dX11_tellCase_82 rfl (fun H locs hw => ?_)
    obtain ⟨h10, hf⟩ := if_some hf
    obtain ⟨σ11, eσ11, hf⟩ := wlet_some hf
    refine wr_iast X hw sM10 nM10 h10 dX11_tellCase_85 (fun H locs hw => ?_)
    replace hw := hw.to eσ11
    refine lv_aload_n hx hb dX11_tellCase_86 rfl (lv_at hl 0 rfl) ?_
    refine gX11_24 (b := 11) X hw sM0 nM0 rfl fl_X11_49 dX11_tellCase_87 ?_
    refine lv_iload_n hx hb dX11_tellCase_90 rfl (lv_at hl 1 rfl) ?_
    refine lv_aload_n hx hb dX11_tellCase_91 rfl (lv_at hl 0 rfl) ?_
    refine lv_iconst (v := 0) hx hb dX11_tellCase_92 (by decide) ?_
    refine lv_bipush (v := 99) hx hb dX11_tellCase_93 (by decide) ?_
    obtain ⟨v13, σ14, hq12, hf⟩ := bnd2_some hf
    refine wr_cVi (r := v13) (σ' := σ14) (av := [.int (0 : Int32), .int (99 : Int32)]) (rest := [.int v2, .ref (ad 11)]) X hw hl.1 sM0 nM0 rfl (k_X11_bounded hI hq12) rfl ml_X11_236 im_X11_bounded se_X11_bounded ini_X11 co_X11_bounded hd_X11_bounded ⟨Nat.le_of_ble_eq_true rfl, Nat.le_of_ble_eq_true rfl⟩ (Nat.le_of_ble_eq_true rfl) dX11_tellCase_95 rfl (fun H locs hw => ?_)
    obtain ⟨h15, hf⟩ := if_some hf
    obtain ⟨σ16, eσ16, hf⟩ := wlet_some hf
    refine wr_iast X hw sM11 nM11 h15 dX11_tellCase_98 (fun H locs hw => ?_)
    replace hw := hw.to eσ16
    refine lv_aload_n hx hb dX11_tellCase_99 rfl (lv_at hl 0 rfl) ?_
    refine lv_iconst (v := 4) hx hb dX11_tellCase_100 (by decide) ?_
    obtain ⟨σ18, hq17, hf⟩ := bind_some hf
    refine wr_cVv (σ' := σ18) (av := [.int (4 : Int32)]) (rest := []) X hw hl.1 sM0 nM0 rfl (k_X11_must hI hq17) rfl ml_X11_240 im_X11_must se_X11_must ini_X11 co_X11_must hd_X11_must ⟨Nat.le_of_ble_eq_true rfl, Nat.le_of_ble_eq_true rfl⟩ (Nat.le_of_ble_eq_true rfl) dX11_tellCase_101 rfl (fun H locs hw => ?_)
    refine lv_aload_n hx hb dX11_tellCase_104 rfl (lv_at hl 0 rfl) ?_
    refine gX11_13 X hw sM0 nM0 fl_X11_182 dX11_tellCase_105 ?_
    refine lv_if_le (tgt := 112) hx hb dX11_tellCase_108 (by decide) (fun c19 => ?_) (fun c19 => ?_)
    · have hf := (if_pos c19).symm.trans hf
      refine lv_aload_n hx hb dX11_tellCase_112 rfl (lv_at hl 0 rfl) ?_
      refine gX11_21 (b := 8) X hw sM0 nM0 rfl fl_X11_40 dX11_tellCase_113 ?_
      refine lv_aload_n hx hb dX11_tellCase_116 rfl (lv_at hl 0 rfl) ?_
      refine gX11_20 X hw sM0 nM0 fl_X11_218 dX11_tellCase_117 ?_
      refine lv_aload_n hx hb dX11_tellCase_120 rfl (lv_at hl 0 rfl) ?_
      refine gX11_8 (b := 6) X hw sM0 nM0 rfl fl_X11_30 dX11_tellCase_121 ?_
      refine lv_iload_n hx hb dX11_tellCase_124 rfl (lv_at hl 2 rfl) ?_
      obtain ⟨h20, hf⟩ := if_some hf
      refine wr_lald X hw sM6 nM6 h20 dX11_tellCase_125 ?_
      obtain ⟨h21, hf⟩ := if_some hf
      obtain ⟨σ22, eσ22, hf⟩ := wlet_some hf
      refine wr_last X hw sM8 nM8 h21 dX11_tellCase_126 (fun H locs hw => ?_)
      replace hw := hw.to eσ22
      refine lv_aload_n hx hb dX11_tellCase_127 rfl (lv_at hl 0 rfl) ?_
      refine lv_dup hx hb dX11_tellCase_128 rfl ?_
      refine gX11_20 X hw sM0 nM0 fl_X11_218 dX11_tellCase_129 ?_
      refine lv_iconst (v := 1) hx hb dX11_tellCase_132 (by decide) ?_
      refine lv_iadd hx hb dX11_tellCase_133 ?_
      obtain ⟨σ23, eσ23, hf⟩ := wlet_some hf
      refine pX11_20 X hw sM0 nM0 fl_X11_218 dX11_tellCase_134 (fun H locs hw => ?_)
      replace hw := hw.to eσ23
      refine lv_aload_n hx hb dX11_tellCase_137 rfl (lv_at hl 0 rfl) ?_
      refine gX11_22 (b := 9) X hw sM0 nM0 rfl fl_X11_43 dX11_tellCase_138 ?_
      refine lv_aload_n hx hb dX11_tellCase_141 rfl (lv_at hl 0 rfl) ?_
      refine gX11_19 X hw sM0 nM0 fl_X11_215 dX11_tellCase_142 ?_
      refine lv_dup2_11 hx hb dX11_tellCase_145 rfl rfl ?_
      obtain ⟨h24, hf⟩ := if_some hf
      refine wr_iald X hw sM9 nM9 h24 dX11_tellCase_146 ?_
      refine lv_iconst (v := 1) hx hb dX11_tellCase_147 (by decide) ?_
      refine lv_iadd hx hb dX11_tellCase_148 ?_
      obtain ⟨h25, hf⟩ := if_some hf
      obtain ⟨σ26, eσ26, hf⟩ := wlet_some hf
      refine wr_iast X hw sM9 nM9 h25 dX11_tellCase_149 (fun H locs hw => ?_)
      replace hw := hw.to eσ26
      have er := Option.some.inj hf
      subst er
      exact wr_vret X hw hr dX11_tellCase_150
    · have hf := (if_neg c19).symm.trans hf
      have er := Option.some.inj hf
      subst er
      exact wr_vret X hw hr dX11_tellCase_111
  have lo30_6 : ∀ (n : Nat) (σ30_6 : St) (x3_30_6 : Int32) (_ : lp st30_6 n (σ30_6, x3_30_6) = some E30_6) (ls : Array Slot) (H : Heap) (locs : List Loc), lv_has ls 4 [(0, .ref (ad 0)), (1, .int v2), (2, .int v3), (3, .int x3_30_6)] → wH WM ad D cy s σ30_6 H locs → W p l e { frames := 4, cells := 0, slots := 0, locals := 164 } s m [.ref (ad 0)].toArray below meth c H locs 0 0 (MQ below (wQv WM ad D cy res) [.ref (ad 0)].toArray s 0 0 (wA WM ad)) (F0 m 30 ls []) := by
    intro n
    induction n with
    | zero =>
      intro σ30_6 x3_30_6 hf ls H locs hl hw
      exact (lp_zero hf).elim
    | succ n ih30_6 =>
      intro σ30_6 x3_30_6 hf ls H locs hl hw
      obtain ⟨q30_6, hf, hz30_6⟩ := lp_succ hf
      rw [est30_6] at hf
      replace hf := un2_some hf
      refine lv_iload_n hx hb dX11_tellCase_30 rfl (lv_at hl 3 rfl) ?_
      refine lv_aload_n hx hb dX11_tellCase_31 rfl (lv_at hl 0 rfl) ?_
      refine gX11_20 X hw sM0 nM0 fl_X11_218 dX11_tellCase_32 ?_
      refine lv_icmp_ge (tgt := 73) hx hb dX11_tellCase_35 (by decide) (fun c27 => ?_) (fun c27 => ?_)
      · have hf := (if_pos c27).symm.trans hf
        exact hx30_6 σ30_6 (lpK_inr (lp_leaf hf hz30_6)) ls H locs (lv_sub hl [0, 1, 2] rfl) hw
      · have hf := (if_neg c27).symm.trans hf
        refine lv_aload_n hx hb dX11_tellCase_38 rfl (lv_at hl 0 rfl) ?_
        refine gX11_13 X hw sM0 nM0 fl_X11_182 dX11_tellCase_39 ?_
        refine lv_if_ne (tgt := 73) hx hb dX11_tellCase_42 (by decide) (fun c28 => ?_) (fun c28 => ?_)
        · have hf := (if_neg c28).symm.trans hf
          exact hx30_6 σ30_6 (lpK_inr (lp_leaf hf hz30_6)) ls H locs (lv_sub hl [0, 1, 2] rfl) hw
        · have hf := (if_pos c28).symm.trans hf
          refine lv_aload_n hx hb dX11_tellCase_45 rfl (lv_at hl 0 rfl) ?_
          refine gX11_21 (b := 8) X hw sM0 nM0 rfl fl_X11_40 dX11_tellCase_46 ?_
          refine lv_iload_n hx hb dX11_tellCase_49 rfl (lv_at hl 3 rfl) ?_
          obtain ⟨h29, hf⟩ := if_some hf
          refine wr_lald X hw sM8 nM8 h29 dX11_tellCase_50 ?_
          refine lv_aload_n hx hb dX11_tellCase_51 rfl (lv_at hl 0 rfl) ?_
          refine gX11_8 (b := 6) X hw sM0 nM0 rfl fl_X11_30 dX11_tellCase_52 ?_
          refine lv_iload_n hx hb dX11_tellCase_55 rfl (lv_at hl 2 rfl) ?_
          obtain ⟨h30, hf⟩ := if_some hf
          refine wr_lald X hw sM6 nM6 h30 dX11_tellCase_56 ?_
          refine W.lcmp hx hb dX11_tellCase_57 ?_
          refine lv_if_ne (tgt := 67) hx hb dX11_tellCase_58 (by decide) (fun c31 => ?_) (fun c31 => ?_)
          · have hf := (if_neg c31).symm.trans hf
            obtain ⟨v32, ev32, hf⟩ := wlet_some hf
            refine lv_iinc (v := v32) (lv' := [(3, .int v32), (0, .ref (ad 0)), (1, .int v2), (2, .int v3)]) hx hb dX11_tellCase_67 hl (k := 3) rfl (by rw [ev32]; rfl) (by decide) rfl (fun ls hl => ?_)
            refine lv_goto (tgt := 30) hx hb dX11_tellCase_70 (by decide) ?_
            exact ih30_6 σ30_6 v32 (lp_leaf hf hz30_6) ls H locs (lv_sub hl [1, 2, 3, 0] rfl) hw
          · have hf := (if_pos c31).symm.trans hf
            refine lv_aload_n hx hb dX11_tellCase_61 rfl (lv_at hl 0 rfl) ?_
            refine lv_iconst (v := 3) hx hb dX11_tellCase_62 (by decide) ?_
            refine lv_iload_n hx hb dX11_tellCase_63 rfl (lv_at hl 2 rfl) ?_
            obtain ⟨σ34, hq33, hf⟩ := bind_some hf
            refine wr_cVv (σ' := σ34) (av := [.int (3 : Int32), .int v3]) (rest := []) X hw hl.1 sM0 nM0 rfl (k_X11_wrong hI hq33) rfl ml_X11_256 im_X11_wrong se_X11_wrong ini_X11 co_X11_wrong hd_X11_wrong ⟨Nat.le_of_ble_eq_true rfl, Nat.le_of_ble_eq_true rfl⟩ (Nat.le_of_ble_eq_true rfl) dX11_tellCase_64 rfl (fun H locs hw => ?_)
            obtain ⟨v35, ev35, hf⟩ := wlet_some hf
            refine lv_iinc (v := v35) (lv' := [(3, .int v35), (0, .ref (ad 0)), (1, .int v2), (2, .int v3)]) hx hb dX11_tellCase_67 hl (k := 3) rfl (by rw [ev35]; rfl) (by decide) rfl (fun ls hl => ?_)
            refine lv_goto (tgt := 30) hx hb dX11_tellCase_70 (by decide) ?_
            exact ih30_6 σ34 v35 (lp_leaf hf hz30_6) ls H locs (lv_sub hl [1, 2, 3, 0] rfl) hw
  exact lo30_6 fuel σ5 (0 : Int32) hq30_6 ls H locs (lv_sub hl [3, 2, 1, 0] rfl) hw

def f_X11_term (σ : St)  : Option (St) := if ib (σ.1 0 29) 260 = true then wlet (si σ 19 (Int32.toNatClampNeg (σ.1 0 29)) (σ.1 0 35)) fun σ2 => wlet (fun (σ_24_3 : St) => (if ib (σ_24_3.1 0 29) 260 = true then wlet (si σ_24_3 20 (Int32.toNatClampNeg (σ_24_3.1 0 29)) (σ_24_3.1 0 35)) fun σ5 => wlet (si σ5 0 29 ((σ5.1 0 29) + (1 : Int32))) fun σ6 => some σ6 else none : Option (St))) fun k24_3 => if (σ2.1 0 13) = 0 then (Option.bind (f_X11_expression σ2) fun σ9 => k24_3 σ9) else (k24_3 σ2) else none
theorem hd_X11_term : yX11_term.cls = RX11 ∧ yX11_term.cls ≠ "java/lang/invoke/MethodHandle" ∧ yX11_term.cls ≠ "java/lang/invoke/VarHandle" ∧ (parseMethodDescriptor yX11_term.desc).map (fun d => d.parameters.length) = some 0 := by decide +kernel
set_option maxRecDepth 100000 in
set_option maxHeartbeats 4000000 in
theorem k_X11_term {l : Launch} {ad : Nat → Nat} {D : va_G} {cy : Nat → ClassId} {z : wStr} (hI : wI WM ad) {σ : St}   {res : St} (hf : f_X11_term σ  = some res) : wC WM ad D cy z l yX11_term (Cond.code yX11_term cX11_term 1 (none) :: aw) (5) (183) [.ref (ad 0)] σ (wQv WM ad D cy res) := by
  unfold f_X11_term at hf
  refine wr_start (own := RX11) hI (by decide +kernel) rfl (Nat.le_of_ble_eq_true rfl) rfl ?_
  intro p e s m below meth c ls X hw hr hl
  have hx := X.hx
  have hb := X.hb
  obtain ⟨H, eH⟩ : ∃ H : Heap, H = s.heap := ⟨_, rfl⟩
  obtain ⟨locs, el⟩ : ∃ locs : List Loc, locs = [] := ⟨_, rfl⟩
  rw [← eH, ← el] at hw ⊢
  clear eH el
  replace hl : lv_has ls 1 [(0, .ref (ad 0))] := hl
  refine lv_aload_n hx hb dX11_term_0 rfl (lv_at hl 0 rfl) ?_
  refine gX11_33 (b := 19) X hw sM0 nM0 rfl fl_X11_74 dX11_term_1 ?_
  refine lv_aload_n hx hb dX11_term_4 rfl (lv_at hl 0 rfl) ?_
  refine gX11_29 X hw sM0 nM0 fl_X11_221 dX11_term_5 ?_
  refine lv_aload_n hx hb dX11_term_8 rfl (lv_at hl 0 rfl) ?_
  refine gX11_35 X hw sM0 nM0 fl_X11_224 dX11_term_9 ?_
  obtain ⟨h1, hf⟩ := if_some hf
  obtain ⟨σ2, eσ2, hf⟩ := wlet_some hf
  refine wr_iast X hw sM19 nM19 h1 dX11_term_12 (fun H locs hw => ?_)
  replace hw := hw.to eσ2
  refine lv_aload_n hx hb dX11_term_13 rfl (lv_at hl 0 rfl) ?_
  refine gX11_13 X hw sM0 nM0 fl_X11_182 dX11_term_14 ?_
  obtain ⟨k24_3, ek24_3, hf0⟩ := wlet_some hf
  have j24_3 : ∀ (σ_24_3 : St) (_ : k24_3 σ_24_3 = some res) (ls : Array Slot) (H : Heap) (locs : List Loc), lv_has ls 1 [(0, .ref (ad 0))] → wH WM ad D cy s σ_24_3 H locs → W p l e { frames := 5, cells := 0, slots := 0, locals := 183 } s m [.ref (ad 0)].toArray below meth c H locs 0 0 (MQ below (wQv WM ad D cy res) [.ref (ad 0)].toArray s 0 0 (wA WM ad)) (F0 m 24 ls []) := by
    intro σ_24_3 hf ls H locs hl hw
    rw [ek24_3] at hf
    refine lv_aload_n hx hb dX11_term_24 rfl (lv_at hl 0 rfl) ?_
    refine gX11_34 (b := 20) X hw sM0 nM0 rfl fl_X11_77 dX11_term_25 ?_
    refine lv_aload_n hx hb dX11_term_28 rfl (lv_at hl 0 rfl) ?_
    refine gX11_29 X hw sM0 nM0 fl_X11_221 dX11_term_29 ?_
    refine lv_aload_n hx hb dX11_term_32 rfl (lv_at hl 0 rfl) ?_
    refine gX11_35 X hw sM0 nM0 fl_X11_224 dX11_term_33 ?_
    obtain ⟨h4, hf⟩ := if_some hf
    obtain ⟨σ5, eσ5, hf⟩ := wlet_some hf
    refine wr_iast X hw sM20 nM20 h4 dX11_term_36 (fun H locs hw => ?_)
    replace hw := hw.to eσ5
    refine lv_aload_n hx hb dX11_term_37 rfl (lv_at hl 0 rfl) ?_
    refine lv_dup hx hb dX11_term_38 rfl ?_
    refine gX11_29 X hw sM0 nM0 fl_X11_221 dX11_term_39 ?_
    refine lv_iconst (v := 1) hx hb dX11_term_42 (by decide) ?_
    refine lv_iadd hx hb dX11_term_43 ?_
    obtain ⟨σ6, eσ6, hf⟩ := wlet_some hf
    refine pX11_29 X hw sM0 nM0 fl_X11_221 dX11_term_44 (fun H locs hw => ?_)
    replace hw := hw.to eσ6
    have er := Option.some.inj hf
    subst er
    exact wr_vret X hw hr dX11_term_47
  replace hf := hf0
  refine lv_if_ne (tgt := 24) hx hb dX11_term_17 (by decide) (fun c7 => ?_) (fun c7 => ?_)
  · have hf := (if_neg c7).symm.trans hf
    exact j24_3 σ2 hf ls H locs (lv_sub hl [0] rfl) hw
  · have hf := (if_pos c7).symm.trans hf
    refine lv_aload_n hx hb dX11_term_20 rfl (lv_at hl 0 rfl) ?_
    obtain ⟨σ9, hq8, hf⟩ := bind_some hf
    refine wr_cVv (σ' := σ9) (av := []) (rest := []) X hw hl.1 sM0 nM0 rfl (k_X11_expression hI hq8) rfl ml_X11_259 im_X11_expression se_X11_expression ini_X11 co_X11_expression hd_X11_expression ⟨Nat.le_of_ble_eq_true rfl, Nat.le_of_ble_eq_true rfl⟩ (Nat.le_of_ble_eq_true rfl) dX11_term_21 rfl (fun H locs hw => ?_)
    exact j24_3 σ9 hf ls H locs (lv_sub hl [0] rfl) hw

def f_X11_tellLaw (σ : St) (x1 : Int32) : Option (St) := Option.bind (f_X11_must σ (5 : Int32)) fun σ2 => wlet (σ2.1 0 29) fun v3 => wlet (un2 (fun (σ12_4 : St) (x3_12_4 : Int32) => if (σ12_4.1 0 13) = 0 then (Option.bind (f_X11_is σ12_4 (27 : Int32)) fun v18 => if v18 = 0 then (some (.inr (.inl σ12_4))) else (wlet (fun (σ_38_20 : St) => (if (σ_38_20.1 0 13) ≤ 0 then (wlet (x3_12_4 + (1 : Int32)) fun v22 => Option.bind (f_X11_goesOn σ_38_20) fun σ24 => if ib (σ24.1 0 29) 260 = true then wlet (si σ24 16 (Int32.toNatClampNeg (σ24.1 0 29)) (vp_nar .boolean (1 : Int32))) fun σ26 => if ib (σ26.1 0 29) 260 = true then wlet (si σ26 17 (Int32.toNatClampNeg (σ26.1 0 29)) (σ26.1 0 35)) fun σ28 => Option.bind (f_X11_expression σ28) fun σ30 => Option.bind (f_X11_must σ30 (13 : Int32)) fun σ32 => if ib (σ32.1 0 29) 260 = true then wlet (si σ32 18 (Int32.toNatClampNeg (σ32.1 0 29)) (σ32.1 0 35)) fun σ34 => wlet (fun (σ_110_35 : St) => (Option.bind (f_X11_must σ_110_35 (28 : Int32)) fun σ37 => Option.bind (f_X11_term σ37) fun σ39 => Option.bind (f_X11_must σ39 (29 : Int32)) fun σ41 => some (.inl (σ41, v22)) : Option ((St × Int32) ⊕ ((St) ⊕ (St))))) fun k110_35 => if (σ34.1 0 13) = 0 then (Option.bind (f_X11_expression σ34) fun σ44 => k110_35 σ44) else (k110_35 σ34) else none else none else none) else (some (.inr (.inr σ_38_20))) : Option ((St × Int32) ⊕ ((St) ⊕ (St))))) fun k38_20 => if x3_12_4 = (4 : Int32) then (Option.bind (f_X11_fail σ12_4 (2 : Int32)) fun σ47 => k38_20 σ47) else (k38_20 σ12_4))) else (some (.inr (.inl σ12_4)))) : St × Int32 → Option ((St × Int32) ⊕ ((St) ⊕ (St)))) fun st12_4 => Option.bind (lp st12_4 fuel (σ2, (0 : Int32))) (sumk (fun (σe12_4 : St) => if ib (σe12_4.1 0 29) 260 = true then wlet (si σe12_4 16 (Int32.toNatClampNeg (σe12_4.1 0 29)) (vp_nar .boolean (0 : Int32))) fun σ6 => Option.bind (f_X11_term σ6) fun σ8 => Option.bind (f_X11_must σ8 (4 : Int32)) fun σ10 => if (σ10.1 0 13) ≤ 0 then (if ib (((4 : Int32) * (σ10.1 0 19)) + x1) 8 = true then wlet (si σ10 14 (Int32.toNatClampNeg (((4 : Int32) * (σ10.1 0 19)) + x1)) v3) fun σ13 => if ib (((4 : Int32) * (σ13.1 0 19)) + x1) 8 = true then wlet (si σ13 15 (Int32.toNatClampNeg (((4 : Int32) * (σ13.1 0 19)) + x1)) (σ13.1 0 29)) fun σ15 => some σ15 else none else none) else (some σ10) else none) (fun m => some m))
theorem hd_X11_tellLaw : yX11_tellLaw.cls = RX11 ∧ yX11_tellLaw.cls ≠ "java/lang/invoke/MethodHandle" ∧ yX11_tellLaw.cls ≠ "java/lang/invoke/VarHandle" ∧ (parseMethodDescriptor yX11_tellLaw.desc).map (fun d => d.parameters.length) = some 1 := by decide +kernel
set_option maxRecDepth 100000 in
set_option maxHeartbeats 4000000 in
theorem k_X11_tellLaw {l : Launch} {ad : Nat → Nat} {D : va_G} {cy : Nat → ClassId} {z : wStr} (hI : wI WM ad) {σ : St} {x1 : Int32}  {res : St} (hf : f_X11_tellLaw σ x1 = some res) : wC WM ad D cy z l yX11_tellLaw (Cond.code yX11_tellLaw cX11_tellLaw 4 (none) :: aw) (6) (203) [.ref (ad 0), .int x1] σ (wQv WM ad D cy res) := by
  unfold f_X11_tellLaw at hf
  refine wr_start (own := RX11) hI (by decide +kernel) rfl (Nat.le_of_ble_eq_true rfl) rfl ?_
  intro p e s m below meth c ls X hw hr hl
  have hx := X.hx
  have hb := X.hb
  obtain ⟨H, eH⟩ : ∃ H : Heap, H = s.heap := ⟨_, rfl⟩
  obtain ⟨locs, el⟩ : ∃ locs : List Loc, locs = [] := ⟨_, rfl⟩
  rw [← eH, ← el] at hw ⊢
  clear eH el
  replace hl : lv_has ls 4 [(0, .ref (ad 0)), (1, .int x1)] := hl
  refine lv_aload_n hx hb dX11_tellLaw_0 rfl (lv_at hl 0 rfl) ?_
  refine lv_iconst (v := 5) hx hb dX11_tellLaw_1 (by decide) ?_
  obtain ⟨σ2, hq1, hf⟩ := bind_some hf
  refine wr_cVv (σ' := σ2) (av := [.int (5 : Int32)]) (rest := []) X hw hl.1 sM0 nM0 rfl (k_X11_must hI hq1) rfl ml_X11_240 im_X11_must se_X11_must ini_X11 co_X11_must hd_X11_must ⟨Nat.le_of_ble_eq_true rfl, Nat.le_of_ble_eq_true rfl⟩ (Nat.le_of_ble_eq_true rfl) dX11_tellLaw_2 rfl (fun H locs hw => ?_)
  refine lv_aload_n hx hb dX11_tellLaw_5 rfl (lv_at hl 0 rfl) ?_
  refine gX11_29 X hw sM0 nM0 fl_X11_221 dX11_tellLaw_6 ?_
  obtain ⟨v3, ev3, hf⟩ := wlet_some hf
  refine wr_top ev3 ?_
  refine lv_istore_n (lv' := [(2, .int v3), (0, .ref (ad 0)), (1, .int x1)]) hx hb dX11_tellLaw_9 rfl hl (by decide) rfl (fun ls hl => ?_)
  refine lv_iconst (v := 0) hx hb dX11_tellLaw_10 (by decide) ?_
  refine lv_istore_n (lv' := [(3, .int (0 : Int32)), (2, .int v3), (0, .ref (ad 0)), (1, .int x1)]) hx hb dX11_tellLaw_11 rfl hl (by decide) rfl (fun ls hl => ?_)
  obtain ⟨st12_4, est12_4, hf⟩ := wlet_some hf
  obtain ⟨E12_4, hq12_4, hE12_4⟩ := bind_some hf
  have hx12_4 : ∀ (σe12_4 : St) (_ : Sum.inl σe12_4 = E12_4) (ls : Array Slot) (H : Heap) (locs : List Loc), lv_has ls 4 [(0, .ref (ad 0)), (1, .int x1), (2, .int v3)] → wH WM ad D cy s σe12_4 H locs → W p l e { frames := 6, cells := 0, slots := 0, locals := 203 } s m [.ref (ad 0), .int x1].toArray below meth c H locs 0 0 (MQ below (wQv WM ad D cy res) [.ref (ad 0), .int x1].toArray s 0 0 (wA WM ad)) (F0 m 129 ls []) := by
    intro σe12_4 e0 ls H locs hl hw
    have hf := sumk_l hE12_4 e0
    refine lv_aload_n hx hb dX11_tellLaw_129 rfl (lv_at hl 0 rfl) ?_
    refine gX11_30 (b := 16) X hw sM0 nM0 rfl fl_X11_64 dX11_tellLaw_130 ?_
    refine lv_aload_n hx hb dX11_tellLaw_133 rfl (lv_at hl 0 rfl) ?_
    refine gX11_29 X hw sM0 nM0 fl_X11_221 dX11_tellLaw_134 ?_
    refine lv_iconst (v := 0) hx hb dX11_tellLaw_137 (by decide) ?_
    obtain ⟨h5, hf⟩ := if_some hf
    obtain ⟨σ6, eσ6, hf⟩ := wlet_some hf
    refine wr_zast X hw sM16 nM16 h5 dX11_tellLaw_138 (fun H locs hw => ?_)
    replace hw := hw.to eσ6
    refine lv_aload_n hx hb dX11_tellLaw_139 rfl (lv_at hl 0 rfl) ?_
    obtain ⟨σ8, hq7, hf⟩ := bind_some hf
    refine wr_cVv (σ' := σ8) (av := []) (rest := []) X hw hl.1 sM0 nM0 rfl (k_X11_term hI hq7) rfl ml_X11_262 im_X11_term se_X11_term ini_X11 co_X11_term hd_X11_term ⟨Nat.le_of_ble_eq_true rfl, Nat.le_of_ble_eq_true rfl⟩ (Nat.le_of_ble_eq_true rfl) dX11_tellLaw_140 rfl (fun H locs hw => ?_)
    refine lv_aload_n hx hb dX11_tellLaw_143 rfl (lv_at hl 0 rfl) ?_
    refine lv_iconst (v := 4) hx hb dX11_tellLaw_144 (by decide) ?_
    obtain ⟨σ10, hq9, hf⟩ := bind_some hf
    refine wr_cVv (σ' := σ10) (av := [.int (4 : Int32)]) (rest := []) X hw hl.1 sM0 nM0 rfl (k_X11_must hI hq9) rfl ml_X11_240 im_X11_must se_X11_must ini_X11 co_X11_must hd_X11_must ⟨Nat.le_of_ble_eq_true rfl, Nat.le_of_ble_eq_true rfl⟩ (Nat.le_of_ble_eq_true rfl) dX11_tellLaw_145 rfl (fun H locs hw => ?_)
    refine lv_aload_n hx hb dX11_tellLaw_148 rfl (lv_at hl 0 rfl) ?_
    refine gX11_13 X hw sM0 nM0 fl_X11_182 dX11_tellLaw_149 ?_
    refine lv_if_le (tgt := 156) hx hb dX11_tellLaw_152 (by decide) (fun c11 => ?_) (fun c11 => ?_)
    · have hf := (if_pos c11).symm.trans hf
      refine lv_aload_n hx hb dX11_tellLaw_156 rfl (lv_at hl 0 rfl) ?_
      refine gX11_27 (b := 14) X hw sM0 nM0 rfl fl_X11_58 dX11_tellLaw_157 ?_
      refine lv_iconst (v := 4) hx hb dX11_tellLaw_160 (by decide) ?_
      refine lv_aload_n hx hb dX11_tellLaw_161 rfl (lv_at hl 0 rfl) ?_
      refine gX11_19 X hw sM0 nM0 fl_X11_215 dX11_tellLaw_162 ?_
      refine lv_imul hx hb dX11_tellLaw_165 ?_
      refine lv_iload_n hx hb dX11_tellLaw_166 rfl (lv_at hl 1 rfl) ?_
      refine lv_iadd hx hb dX11_tellLaw_167 ?_
      refine lv_iload_n hx hb dX11_tellLaw_168 rfl (lv_at hl 2 rfl) ?_
      obtain ⟨h12, hf⟩ := if_some hf
      obtain ⟨σ13, eσ13, hf⟩ := wlet_some hf
      refine wr_iast X hw sM14 nM14 h12 dX11_tellLaw_169 (fun H locs hw => ?_)
      replace hw := hw.to eσ13
      refine lv_aload_n hx hb dX11_tellLaw_170 rfl (lv_at hl 0 rfl) ?_
      refine gX11_28 (b := 15) X hw sM0 nM0 rfl fl_X11_61 dX11_tellLaw_171 ?_
      refine lv_iconst (v := 4) hx hb dX11_tellLaw_174 (by decide) ?_
      refine lv_aload_n hx hb dX11_tellLaw_175 rfl (lv_at hl 0 rfl) ?_
      refine gX11_19 X hw sM0 nM0 fl_X11_215 dX11_tellLaw_176 ?_
      refine lv_imul hx hb dX11_tellLaw_179 ?_
      refine lv_iload_n hx hb dX11_tellLaw_180 rfl (lv_at hl 1 rfl) ?_
      refine lv_iadd hx hb dX11_tellLaw_181 ?_
      refine lv_aload_n hx hb dX11_tellLaw_182 rfl (lv_at hl 0 rfl) ?_
      refine gX11_29 X hw sM0 nM0 fl_X11_221 dX11_tellLaw_183 ?_
      obtain ⟨h14, hf⟩ := if_some hf
      obtain ⟨σ15, eσ15, hf⟩ := wlet_some hf
      refine wr_iast X hw sM15 nM15 h14 dX11_tellLaw_186 (fun H locs hw => ?_)
      replace hw := hw.to eσ15
      have er := Option.some.inj hf
      subst er
      exact wr_vret X hw hr dX11_tellLaw_187
    · have hf := (if_neg c11).symm.trans hf
      have er := Option.some.inj hf
      subst er
      exact wr_vret X hw hr dX11_tellLaw_155
  have lo12_4 : ∀ (n : Nat) (σ12_4 : St) (x3_12_4 : Int32) (_ : lp st12_4 n (σ12_4, x3_12_4) = some E12_4) (ls : Array Slot) (H : Heap) (locs : List Loc), lv_has ls 4 [(0, .ref (ad 0)), (1, .int x1), (2, .int v3), (3, .int x3_12_4)] → wH WM ad D cy s σ12_4 H locs → W p l e { frames := 6, cells := 0, slots := 0, locals := 203 } s m [.ref (ad 0), .int x1].toArray below meth c H locs 0 0 (MQ below (wQv WM ad D cy res) [.ref (ad 0), .int x1].toArray s 0 0 (wA WM ad)) (F0 m 12 ls []) := by
    intro n
    induction n with
    | zero =>
      intro σ12_4 x3_12_4 hf ls H locs hl hw
      exact (lp_zero hf).elim
    | succ n ih12_4 =>
      intro σ12_4 x3_12_4 hf ls H locs hl hw
      obtain ⟨q12_4, hf, hz12_4⟩ := lp_succ hf
      rw [est12_4] at hf
      replace hf := un2_some hf
      refine lv_aload_n hx hb dX11_tellLaw_12 rfl (lv_at hl 0 rfl) ?_
      refine gX11_13 X hw sM0 nM0 fl_X11_182 dX11_tellLaw_13 ?_
      refine lv_if_ne (tgt := 129) hx hb dX11_tellLaw_16 (by decide) (fun c16 => ?_) (fun c16 => ?_)
      · have hf := (if_neg c16).symm.trans hf
        exact hx12_4 σ12_4 (lpK_inr (lp_leaf hf hz12_4)) ls H locs (lv_sub hl [0, 1, 2] rfl) hw
      · have hf := (if_pos c16).symm.trans hf
        refine lv_aload_n hx hb dX11_tellLaw_19 rfl (lv_at hl 0 rfl) ?_
        refine lv_bipush (v := 27) hx hb dX11_tellLaw_20 (by decide) ?_
        obtain ⟨v18, hq17, hf⟩ := bind_some hf
        refine wr_cVi (r := v18) (σ' := σ12_4) (av := [.int (27 : Int32)]) (rest := []) X hw hl.1 sM0 nM0 rfl (k_X11_is hI hq17) rfl ml_X11_200 im_X11_is se_X11_is ini_X11 co_X11_is hd_X11_is ⟨Nat.le_of_ble_eq_true rfl, Nat.le_of_ble_eq_true rfl⟩ (Nat.le_of_ble_eq_true rfl) dX11_tellLaw_22 rfl (fun H locs hw => ?_)
        refine lv_if_eq (tgt := 129) hx hb dX11_tellLaw_25 (by decide) (fun c19 => ?_) (fun c19 => ?_)
        · have hf := (if_pos c19).symm.trans hf
          exact hx12_4 σ12_4 (lpK_inr (lp_leaf hf hz12_4)) ls H locs (lv_sub hl [0, 1, 2] rfl) hw
        · have hf := (if_neg c19).symm.trans hf
          refine lv_iload_n hx hb dX11_tellLaw_28 rfl (lv_at hl 3 rfl) ?_
          refine lv_iconst (v := 4) hx hb dX11_tellLaw_29 (by decide) ?_
          obtain ⟨k38_20, ek38_20, hf0⟩ := wlet_some hf
          have j38_20 : ∀ (σ_38_20 : St) (_ : k38_20 σ_38_20 = some q12_4) (ls : Array Slot) (H : Heap) (locs : List Loc), lv_has ls 4 [(0, .ref (ad 0)), (1, .int x1), (2, .int v3), (3, .int x3_12_4)] → wH WM ad D cy s σ_38_20 H locs → W p l e { frames := 6, cells := 0, slots := 0, locals := 203 } s m [.ref (ad 0), .int x1].toArray below meth c H locs 0 0 (MQ below (wQv WM ad D cy res) [.ref (ad 0), .int x1].toArray s 0 0 (wA WM ad)) (F0 m 38 ls []) := by
            intro σ_38_20 hf ls H locs hl hw
            rw [ek38_20] at hf
            refine lv_aload_n hx hb dX11_tellLaw_38 rfl (lv_at hl 0 rfl) ?_
            refine gX11_13 X hw sM0 nM0 fl_X11_182 dX11_tellLaw_39 ?_
            refine lv_if_le (tgt := 46) hx hb dX11_tellLaw_42 (by decide) (fun c21 => ?_) (fun c21 => ?_)
            · have hf := (if_pos c21).symm.trans hf
              obtain ⟨v22, ev22, hf⟩ := wlet_some hf
              refine lv_iinc (v := v22) (lv' := [(3, .int v22), (0, .ref (ad 0)), (1, .int x1), (2, .int v3)]) hx hb dX11_tellLaw_46 hl (k := 3) rfl (by rw [ev22]; rfl) (by decide) rfl (fun ls hl => ?_)
              refine lv_aload_n hx hb dX11_tellLaw_49 rfl (lv_at hl 1 rfl) ?_
              obtain ⟨σ24, hq23, hf⟩ := bind_some hf
              refine wr_cVv (σ' := σ24) (av := []) (rest := []) X hw hl.1 sM0 nM0 rfl (k_X11_goesOn hI hq23) rfl ml_X11_203 im_X11_goesOn se_X11_goesOn ini_X11 co_X11_goesOn hd_X11_goesOn ⟨Nat.le_of_ble_eq_true rfl, Nat.le_of_ble_eq_true rfl⟩ (Nat.le_of_ble_eq_true rfl) dX11_tellLaw_50 rfl (fun H locs hw => ?_)
              refine lv_aload_n hx hb dX11_tellLaw_53 rfl (lv_at hl 1 rfl) ?_
              refine gX11_30 (b := 16) X hw sM0 nM0 rfl fl_X11_64 dX11_tellLaw_54 ?_
              refine lv_aload_n hx hb dX11_tellLaw_57 rfl (lv_at hl 1 rfl) ?_
              refine gX11_29 X hw sM0 nM0 fl_X11_221 dX11_tellLaw_58 ?_
              refine lv_iconst (v := 1) hx hb dX11_tellLaw_61 (by decide) ?_
              obtain ⟨h25, hf⟩ := if_some hf
              obtain ⟨σ26, eσ26, hf⟩ := wlet_some hf
              refine wr_zast X hw sM16 nM16 h25 dX11_tellLaw_62 (fun H locs hw => ?_)
              replace hw := hw.to eσ26
              refine lv_aload_n hx hb dX11_tellLaw_63 rfl (lv_at hl 1 rfl) ?_
              refine gX11_31 (b := 17) X hw sM0 nM0 rfl fl_X11_68 dX11_tellLaw_64 ?_
              refine lv_aload_n hx hb dX11_tellLaw_67 rfl (lv_at hl 1 rfl) ?_
              refine gX11_29 X hw sM0 nM0 fl_X11_221 dX11_tellLaw_68 ?_
              refine lv_aload_n hx hb dX11_tellLaw_71 rfl (lv_at hl 1 rfl) ?_
              refine gX11_35 X hw sM0 nM0 fl_X11_224 dX11_tellLaw_72 ?_
              obtain ⟨h27, hf⟩ := if_some hf
              obtain ⟨σ28, eσ28, hf⟩ := wlet_some hf
              refine wr_iast X hw sM17 nM17 h27 dX11_tellLaw_75 (fun H locs hw => ?_)
              replace hw := hw.to eσ28
              refine lv_aload_n hx hb dX11_tellLaw_76 rfl (lv_at hl 1 rfl) ?_
              obtain ⟨σ30, hq29, hf⟩ := bind_some hf
              refine wr_cVv (σ' := σ30) (av := []) (rest := []) X hw hl.1 sM0 nM0 rfl (k_X11_expression hI hq29) rfl ml_X11_259 im_X11_expression se_X11_expression ini_X11 co_X11_expression hd_X11_expression ⟨Nat.le_of_ble_eq_true rfl, Nat.le_of_ble_eq_true rfl⟩ (Nat.le_of_ble_eq_true rfl) dX11_tellLaw_77 rfl (fun H locs hw => ?_)
              refine lv_aload_n hx hb dX11_tellLaw_80 rfl (lv_at hl 1 rfl) ?_
              refine lv_bipush (v := 13) hx hb dX11_tellLaw_81 (by decide) ?_
              obtain ⟨σ32, hq31, hf⟩ := bind_some hf
              refine wr_cVv (σ' := σ32) (av := [.int (13 : Int32)]) (rest := []) X hw hl.1 sM0 nM0 rfl (k_X11_must hI hq31) rfl ml_X11_240 im_X11_must se_X11_must ini_X11 co_X11_must hd_X11_must ⟨Nat.le_of_ble_eq_true rfl, Nat.le_of_ble_eq_true rfl⟩ (Nat.le_of_ble_eq_true rfl) dX11_tellLaw_83 rfl (fun H locs hw => ?_)
              refine lv_aload_n hx hb dX11_tellLaw_86 rfl (lv_at hl 1 rfl) ?_
              refine gX11_32 (b := 18) X hw sM0 nM0 rfl fl_X11_71 dX11_tellLaw_87 ?_
              refine lv_aload_n hx hb dX11_tellLaw_90 rfl (lv_at hl 1 rfl) ?_
              refine gX11_29 X hw sM0 nM0 fl_X11_221 dX11_tellLaw_91 ?_
              refine lv_aload_n hx hb dX11_tellLaw_94 rfl (lv_at hl 1 rfl) ?_
              refine gX11_35 X hw sM0 nM0 fl_X11_224 dX11_tellLaw_95 ?_
              obtain ⟨h33, hf⟩ := if_some hf
              obtain ⟨σ34, eσ34, hf⟩ := wlet_some hf
              refine wr_iast X hw sM18 nM18 h33 dX11_tellLaw_98 (fun H locs hw => ?_)
              replace hw := hw.to eσ34
              refine lv_aload_n hx hb dX11_tellLaw_99 rfl (lv_at hl 1 rfl) ?_
              refine gX11_13 X hw sM0 nM0 fl_X11_182 dX11_tellLaw_100 ?_
              obtain ⟨k110_35, ek110_35, hf0⟩ := wlet_some hf
              have j110_35 : ∀ (σ_110_35 : St) (_ : k110_35 σ_110_35 = some q12_4) (ls : Array Slot) (H : Heap) (locs : List Loc), lv_has ls 4 [(0, .ref (ad 0)), (1, .int x1), (2, .int v3), (3, .int v22)] → wH WM ad D cy s σ_110_35 H locs → W p l e { frames := 6, cells := 0, slots := 0, locals := 203 } s m [.ref (ad 0), .int x1].toArray below meth c H locs 0 0 (MQ below (wQv WM ad D cy res) [.ref (ad 0), .int x1].toArray s 0 0 (wA WM ad)) (F0 m 110 ls []) := by
                intro σ_110_35 hf ls H locs hl hw
                rw [ek110_35] at hf
                refine lv_aload_n hx hb dX11_tellLaw_110 rfl (lv_at hl 0 rfl) ?_
                refine lv_bipush (v := 28) hx hb dX11_tellLaw_111 (by decide) ?_
                obtain ⟨σ37, hq36, hf⟩ := bind_some hf
                refine wr_cVv (σ' := σ37) (av := [.int (28 : Int32)]) (rest := []) X hw hl.1 sM0 nM0 rfl (k_X11_must hI hq36) rfl ml_X11_240 im_X11_must se_X11_must ini_X11 co_X11_must hd_X11_must ⟨Nat.le_of_ble_eq_true rfl, Nat.le_of_ble_eq_true rfl⟩ (Nat.le_of_ble_eq_true rfl) dX11_tellLaw_113 rfl (fun H locs hw => ?_)
                refine lv_aload_n hx hb dX11_tellLaw_116 rfl (lv_at hl 0 rfl) ?_
                obtain ⟨σ39, hq38, hf⟩ := bind_some hf
                refine wr_cVv (σ' := σ39) (av := []) (rest := []) X hw hl.1 sM0 nM0 rfl (k_X11_term hI hq38) rfl ml_X11_262 im_X11_term se_X11_term ini_X11 co_X11_term hd_X11_term ⟨Nat.le_of_ble_eq_true rfl, Nat.le_of_ble_eq_true rfl⟩ (Nat.le_of_ble_eq_true rfl) dX11_tellLaw_117 rfl (fun H locs hw => ?_)
                refine lv_aload_n hx hb dX11_tellLaw_120 rfl (lv_at hl 0 rfl) ?_
                refine lv_bipush (v := 29) hx hb dX11_tellLaw_121 (by decide) ?_
                obtain ⟨σ41, hq40, hf⟩ := bind_some hf
                refine wr_cVv (σ' := σ41) (av := [.int (29 : Int32)]) (rest := []) X hw hl.1 sM0 nM0 rfl (k_X11_must hI hq40) rfl ml_X11_240 im_X11_must se_X11_must ini_X11 co_X11_must hd_X11_must ⟨Nat.le_of_ble_eq_true rfl, Nat.le_of_ble_eq_true rfl⟩ (Nat.le_of_ble_eq_true rfl) dX11_tellLaw_123 rfl (fun H locs hw => ?_)
                refine lv_goto (tgt := 12) hx hb dX11_tellLaw_126 (by decide) ?_
                exact ih12_4 σ41 v22 (lp_leaf hf hz12_4) ls H locs (lv_sub hl [0, 1, 2, 3] rfl) hw
              replace hf := hf0
              refine lv_if_ne (tgt := 110) hx hb dX11_tellLaw_103 (by decide) (fun c42 => ?_) (fun c42 => ?_)
              · have hf := (if_neg c42).symm.trans hf
                exact j110_35 σ34 hf ls H locs (lv_sub hl [1, 2, 3, 0] rfl) hw
              · have hf := (if_pos c42).symm.trans hf
                refine lv_aload_n hx hb dX11_tellLaw_106 rfl (lv_at hl 1 rfl) ?_
                obtain ⟨σ44, hq43, hf⟩ := bind_some hf
                refine wr_cVv (σ' := σ44) (av := []) (rest := []) X hw hl.1 sM0 nM0 rfl (k_X11_expression hI hq43) rfl ml_X11_259 im_X11_expression se_X11_expression ini_X11 co_X11_expression hd_X11_expression ⟨Nat.le_of_ble_eq_true rfl, Nat.le_of_ble_eq_true rfl⟩ (Nat.le_of_ble_eq_true rfl) dX11_tellLaw_107 rfl (fun H locs hw => ?_)
                exact j110_35 σ44 hf ls H locs (lv_sub hl [1, 2, 3, 0] rfl) hw
            · have hf := (if_neg c21).symm.trans hf
              have e12_4 := lpK_inr (lp_leaf hf hz12_4)
              have hf := sumk_r hE12_4 e12_4
              have er := Option.some.inj hf
              subst er
              exact wr_vret X hw hr dX11_tellLaw_45
          replace hf := hf0
          refine lv_icmp_ne (tgt := 38) hx hb dX11_tellLaw_30 (by decide) (fun c45 => ?_) (fun c45 => ?_)
          · have hf := (if_neg c45).symm.trans hf
            exact j38_20 σ12_4 hf ls H locs (lv_sub hl [0, 1, 2, 3] rfl) hw
          · have hf := (if_pos c45).symm.trans hf
            refine lv_aload_n hx hb dX11_tellLaw_33 rfl (lv_at hl 0 rfl) ?_
            refine lv_iconst (v := 2) hx hb dX11_tellLaw_34 (by decide) ?_
            obtain ⟨σ47, hq46, hf⟩ := bind_some hf
            refine wr_cVv (σ' := σ47) (av := [.int (2 : Int32)]) (rest := []) X hw hl.1 sM0 nM0 rfl (k_X11_fail hI hq46) rfl ml_X11_197 im_X11_fail se_X11_fail ini_X11 co_X11_fail hd_X11_fail ⟨Nat.le_of_ble_eq_true rfl, Nat.le_of_ble_eq_true rfl⟩ (Nat.le_of_ble_eq_true rfl) dX11_tellLaw_35 rfl (fun H locs hw => ?_)
            exact j38_20 σ47 hf ls H locs (lv_sub hl [0, 1, 2, 3] rfl) hw
  exact lo12_4 fuel σ2 (0 : Int32) hq12_4 ls H locs (lv_sub hl [2, 3, 1, 0] rfl) hw

def f_X11_toldInt (σ : St) (x1 : Int32) : Option (Int32 × St) := Option.bind (f_X11_goesOn σ) fun σ2 => bnd2 (f_X11_bounded σ2 (0 : Int32) x1) fun v4 σ5 => Option.bind (f_X11_must σ5 (4 : Int32)) fun σ7 => some (v4, σ7)
theorem hd_X11_toldInt : yX11_toldInt.cls = RX11 ∧ yX11_toldInt.cls ≠ "java/lang/invoke/MethodHandle" ∧ yX11_toldInt.cls ≠ "java/lang/invoke/VarHandle" ∧ (parseMethodDescriptor yX11_toldInt.desc).map (fun d => d.parameters.length) = some 1 := by decide +kernel
set_option maxRecDepth 100000 in
set_option maxHeartbeats 4000000 in
theorem k_X11_toldInt {l : Launch} {ad : Nat → Nat} {D : va_G} {cy : Nat → ClassId} {z : wStr} (hI : wI WM ad) {σ : St} {x1 : Int32}  {res : Int32 × St} (hf : f_X11_toldInt σ x1 = some res) : wC WM ad D cy z l yX11_toldInt (Cond.code yX11_toldInt cX11_toldInt 3 (Option.some Jvm.ClassFile.FieldType.int) :: aw) (4) (164) [.ref (ad 0), .int x1] σ (wQi WM ad D cy res.1 res.2) := by
  unfold f_X11_toldInt at hf
  refine wr_start (own := RX11) hI (by decide +kernel) rfl (Nat.le_of_ble_eq_true rfl) rfl ?_
  intro p e s m below meth c ls X hw hr hl
  have hx := X.hx
  have hb := X.hb
  obtain ⟨H, eH⟩ : ∃ H : Heap, H = s.heap := ⟨_, rfl⟩
  obtain ⟨locs, el⟩ : ∃ locs : List Loc, locs = [] := ⟨_, rfl⟩
  rw [← eH, ← el] at hw ⊢
  clear eH el
  replace hl : lv_has ls 3 [(0, .ref (ad 0)), (1, .int x1)] := hl
  refine lv_aload_n hx hb dX11_toldInt_0 rfl (lv_at hl 0 rfl) ?_
  obtain ⟨σ2, hq1, hf⟩ := bind_some hf
  refine wr_cVv (σ' := σ2) (av := []) (rest := []) X hw hl.1 sM0 nM0 rfl (k_X11_goesOn hI hq1) rfl ml_X11_203 im_X11_goesOn se_X11_goesOn ini_X11 co_X11_goesOn hd_X11_goesOn ⟨Nat.le_of_ble_eq_true rfl, Nat.le_of_ble_eq_true rfl⟩ (Nat.le_of_ble_eq_true rfl) dX11_toldInt_1 rfl (fun H locs hw => ?_)
  refine lv_aload_n hx hb dX11_toldInt_4 rfl (lv_at hl 0 rfl) ?_
  refine lv_iconst (v := 0) hx hb dX11_toldInt_5 (by decide) ?_
  refine lv_iload_n hx hb dX11_toldInt_6 rfl (lv_at hl 1 rfl) ?_
  obtain ⟨v4, σ5, hq3, hf⟩ := bnd2_some hf
  refine wr_cVi (r := v4) (σ' := σ5) (av := [.int (0 : Int32), .int x1]) (rest := []) X hw hl.1 sM0 nM0 rfl (k_X11_bounded hI hq3) rfl ml_X11_236 im_X11_bounded se_X11_bounded ini_X11 co_X11_bounded hd_X11_bounded ⟨Nat.le_of_ble_eq_true rfl, Nat.le_of_ble_eq_true rfl⟩ (Nat.le_of_ble_eq_true rfl) dX11_toldInt_7 rfl (fun H locs hw => ?_)
  refine lv_istore_n (lv' := [(2, .int v4), (0, .ref (ad 0)), (1, .int x1)]) hx hb dX11_toldInt_10 rfl hl (by decide) rfl (fun ls hl => ?_)
  refine lv_aload_n hx hb dX11_toldInt_11 rfl (lv_at hl 1 rfl) ?_
  refine lv_iconst (v := 4) hx hb dX11_toldInt_12 (by decide) ?_
  obtain ⟨σ7, hq6, hf⟩ := bind_some hf
  refine wr_cVv (σ' := σ7) (av := [.int (4 : Int32)]) (rest := []) X hw hl.1 sM0 nM0 rfl (k_X11_must hI hq6) rfl ml_X11_240 im_X11_must se_X11_must ini_X11 co_X11_must hd_X11_must ⟨Nat.le_of_ble_eq_true rfl, Nat.le_of_ble_eq_true rfl⟩ (Nat.le_of_ble_eq_true rfl) dX11_toldInt_13 rfl (fun H locs hw => ?_)
  refine lv_iload_n hx hb dX11_toldInt_16 rfl (lv_at hl 0 rfl) ?_
  have er := Option.some.inj hf
  subst er
  exact wr_iret X hw hr (Or.inl rfl) dX11_toldInt_17

def f_X11_tellOne (σ : St)  : Option (St) := if ib (σ.1 0 11) 403 = true then if (σ.1 3 (Int32.toNatClampNeg (σ.1 0 11))) = (20 : Int32) then (if ib (σ.1 0 19) 2 = true then Option.bind (f_X11_roomFor σ (σ.1 9 (Int32.toNatClampNeg (σ.1 0 19))) (7 : Int32)) fun σ5 => if (σ5.1 0 13) = 0 then (Option.bind (f_X11_tellCase σ5) fun σ8 => some σ8) else (some σ5) else none) else if (σ.1 3 (Int32.toNatClampNeg (σ.1 0 11))) = (21 : Int32) then (bnd2 (f_X11_toldInt σ (99 : Int32)) fun v11 σ12 => if ib (σ.1 0 19) 2 = true then wlet (si σ12 12 (Int32.toNatClampNeg (σ.1 0 19)) v11) fun σ14 => some σ14 else none) else if (σ.1 3 (Int32.toNatClampNeg (σ.1 0 11))) = (26 : Int32) then (bnd2 (f_X11_toldInt σ (9999 : Int32)) fun v17 σ18 => if ib (σ.1 0 19) 2 = true then wlet (si σ18 13 (Int32.toNatClampNeg (σ.1 0 19)) v17) fun σ20 => some σ20 else none) else (if ib (σ.1 0 11) 403 = true then wlet ((σ.1 3 (Int32.toNatClampNeg (σ.1 0 11))) - (22 : Int32)) fun v22 => wlet (fun (σ_146_23 : St) => (if (σ_146_23.1 0 13) ≤ 0 then (Option.bind (f_X11_goesOn σ_146_23) fun σ26 => Option.bind (f_X11_tellLaw σ26 v22) fun σ28 => some σ28) else (some σ_146_23) : Option (St))) fun k146_23 => wlet (fun (_ : Unit) => (Option.bind (f_X11_fail σ (1 : Int32)) fun σ31 => k146_23 σ31 : Option (St))) fun k141_29 => if v22 < 0 then (k141_29 ()) else (if ib (σ.1 0 11) 403 = true then if (σ.1 3 (Int32.toNatClampNeg (σ.1 0 11))) ≤ (25 : Int32) then (k146_23 σ) else (k141_29 ()) else none) else none) else none
theorem hd_X11_tellOne : yX11_tellOne.cls = RX11 ∧ yX11_tellOne.cls ≠ "java/lang/invoke/MethodHandle" ∧ yX11_tellOne.cls ≠ "java/lang/invoke/VarHandle" ∧ (parseMethodDescriptor yX11_tellOne.desc).map (fun d => d.parameters.length) = some 0 := by decide +kernel
set_option maxRecDepth 100000 in
set_option maxHeartbeats 4000000 in
theorem k_X11_tellOne {l : Launch} {ad : Nat → Nat} {D : va_G} {cy : Nat → ClassId} {z : wStr} (hI : wI WM ad) {σ : St}   {res : St} (hf : f_X11_tellOne σ  = some res) : wC WM ad D cy z l yX11_tellOne (Cond.code yX11_tellOne cX11_tellOne 2 (none) :: aw) (7) (226) [.ref (ad 0)] σ (wQv WM ad D cy res) := by
  unfold f_X11_tellOne at hf
  refine wr_start (own := RX11) hI (by decide +kernel) rfl (Nat.le_of_ble_eq_true rfl) rfl ?_
  intro p e s m below meth c ls X hw hr hl
  have hx := X.hx
  have hb := X.hb
  obtain ⟨H, eH⟩ : ∃ H : Heap, H = s.heap := ⟨_, rfl⟩
  obtain ⟨locs, el⟩ : ∃ locs : List Loc, locs = [] := ⟨_, rfl⟩
  rw [← eH, ← el] at hw ⊢
  clear eH el
  replace hl : lv_has ls 2 [(0, .ref (ad 0))] := hl
  refine lv_aload_n hx hb dX11_tellOne_0 rfl (lv_at hl 0 rfl) ?_
  refine gX11_5 (b := 3) X hw sM0 nM0 rfl fl_X11_20 dX11_tellOne_1 ?_
  refine lv_aload_n hx hb dX11_tellOne_4 rfl (lv_at hl 0 rfl) ?_
  refine gX11_11 X hw sM0 nM0 fl_X11_185 dX11_tellOne_5 ?_
  obtain ⟨h1, hf⟩ := if_some hf
  refine wr_iald X hw sM3 nM3 h1 dX11_tellOne_8 ?_
  by_cases c2 : (σ.1 3 (Int32.toNatClampNeg (σ.1 0 11))) = (20 : Int32)
  · have hf := (if_pos c2).symm.trans hf
    refine lv_lookup (tgt := 44) (off := 35) hx hb dX11_tellOne_9 (by decide) (by rw [c2]; decide) (by decide) ?_
    refine lv_aload_n hx hb dX11_tellOne_44 rfl (lv_at hl 0 rfl) ?_
    refine lv_aload_n hx hb dX11_tellOne_45 rfl (lv_at hl 0 rfl) ?_
    refine gX11_22 (b := 9) X hw sM0 nM0 rfl fl_X11_43 dX11_tellOne_46 ?_
    refine lv_aload_n hx hb dX11_tellOne_49 rfl (lv_at hl 0 rfl) ?_
    refine gX11_19 X hw sM0 nM0 fl_X11_215 dX11_tellOne_50 ?_
    obtain ⟨h3, hf⟩ := if_some hf
    refine wr_iald X hw sM9 nM9 h3 dX11_tellOne_53 ?_
    refine lv_bipush (v := 7) hx hb dX11_tellOne_54 (by decide) ?_
    obtain ⟨σ5, hq4, hf⟩ := bind_some hf
    refine wr_cVv (σ' := σ5) (av := [.int (σ.1 9 (Int32.toNatClampNeg (σ.1 0 19))), .int (7 : Int32)]) (rest := []) X hw hl.1 sM0 nM0 rfl (k_X11_roomFor hI hq4) rfl ml_X11_243 im_X11_roomFor se_X11_roomFor ini_X11 co_X11_roomFor hd_X11_roomFor ⟨Nat.le_of_ble_eq_true rfl, Nat.le_of_ble_eq_true rfl⟩ (Nat.le_of_ble_eq_true rfl) dX11_tellOne_56 rfl (fun H locs hw => ?_)
    refine lv_aload_n hx hb dX11_tellOne_59 rfl (lv_at hl 0 rfl) ?_
    refine gX11_13 X hw sM0 nM0 fl_X11_182 dX11_tellOne_60 ?_
    refine lv_if_ne (tgt := 163) hx hb dX11_tellOne_63 (by decide) (fun c6 => ?_) (fun c6 => ?_)
    · have hf := (if_neg c6).symm.trans hf
      have er := Option.some.inj hf
      subst er
      exact wr_vret X hw hr dX11_tellOne_163
    · have hf := (if_pos c6).symm.trans hf
      refine lv_aload_n hx hb dX11_tellOne_66 rfl (lv_at hl 0 rfl) ?_
      obtain ⟨σ8, hq7, hf⟩ := bind_some hf
      refine wr_cVv (σ' := σ8) (av := []) (rest := []) X hw hl.1 sM0 nM0 rfl (k_X11_tellCase hI hq7) rfl ml_X11_247 im_X11_tellCase se_X11_tellCase ini_X11 co_X11_tellCase hd_X11_tellCase ⟨Nat.le_of_ble_eq_true rfl, Nat.le_of_ble_eq_true rfl⟩ (Nat.le_of_ble_eq_true rfl) dX11_tellOne_67 rfl (fun H locs hw => ?_)
      refine lv_goto (tgt := 163) hx hb dX11_tellOne_70 (by decide) ?_
      have er := Option.some.inj hf
      subst er
      exact wr_vret X hw hr dX11_tellOne_163
  have hf := (if_neg c2).symm.trans hf
  by_cases c9 : (σ.1 3 (Int32.toNatClampNeg (σ.1 0 11))) = (21 : Int32)
  · have hf := (if_pos c9).symm.trans hf
    refine lv_lookup (tgt := 73) (off := 64) hx hb dX11_tellOne_9 (by decide) (by rw [c9]; decide) (by decide) ?_
    refine lv_aload_n hx hb dX11_tellOne_73 rfl (lv_at hl 0 rfl) ?_
    refine gX11_25 (b := 12) X hw sM0 nM0 rfl fl_X11_52 dX11_tellOne_74 ?_
    refine lv_aload_n hx hb dX11_tellOne_77 rfl (lv_at hl 0 rfl) ?_
    refine gX11_19 X hw sM0 nM0 fl_X11_215 dX11_tellOne_78 ?_
    refine lv_aload_n hx hb dX11_tellOne_81 rfl (lv_at hl 0 rfl) ?_
    refine lv_bipush (v := 99) hx hb dX11_tellOne_82 (by decide) ?_
    obtain ⟨v11, σ12, hq10, hf⟩ := bnd2_some hf
    refine wr_cVi (r := v11) (σ' := σ12) (av := [.int (99 : Int32)]) (rest := [.int (σ.1 0 19), .ref (ad 12)]) X hw hl.1 sM0 nM0 rfl (k_X11_toldInt hI hq10) rfl ml_X11_250 im_X11_toldInt se_X11_toldInt ini_X11 co_X11_toldInt hd_X11_toldInt ⟨Nat.le_of_ble_eq_true rfl, Nat.le_of_ble_eq_true rfl⟩ (Nat.le_of_ble_eq_true rfl) dX11_tellOne_84 rfl (fun H locs hw => ?_)
    obtain ⟨h13, hf⟩ := if_some hf
    obtain ⟨σ14, eσ14, hf⟩ := wlet_some hf
    refine wr_iast X hw sM12 nM12 h13 dX11_tellOne_87 (fun H locs hw => ?_)
    replace hw := hw.to eσ14
    refine lv_goto (tgt := 163) hx hb dX11_tellOne_88 (by decide) ?_
    have er := Option.some.inj hf
    subst er
    exact wr_vret X hw hr dX11_tellOne_163
  have hf := (if_neg c9).symm.trans hf
  by_cases c15 : (σ.1 3 (Int32.toNatClampNeg (σ.1 0 11))) = (26 : Int32)
  · have hf := (if_pos c15).symm.trans hf
    refine lv_lookup (tgt := 91) (off := 82) hx hb dX11_tellOne_9 (by decide) (by rw [c15]; decide) (by decide) ?_
    refine lv_aload_n hx hb dX11_tellOne_91 rfl (lv_at hl 0 rfl) ?_
    refine gX11_26 (b := 13) X hw sM0 nM0 rfl fl_X11_55 dX11_tellOne_92 ?_
    refine lv_aload_n hx hb dX11_tellOne_95 rfl (lv_at hl 0 rfl) ?_
    refine gX11_19 X hw sM0 nM0 fl_X11_215 dX11_tellOne_96 ?_
    refine lv_aload_n hx hb dX11_tellOne_99 rfl (lv_at hl 0 rfl) ?_
    refine lv_sipush (v := 9999) hx hb dX11_tellOne_100 (by decide) ?_
    obtain ⟨v17, σ18, hq16, hf⟩ := bnd2_some hf
    refine wr_cVi (r := v17) (σ' := σ18) (av := [.int (9999 : Int32)]) (rest := [.int (σ.1 0 19), .ref (ad 13)]) X hw hl.1 sM0 nM0 rfl (k_X11_toldInt hI hq16) rfl ml_X11_250 im_X11_toldInt se_X11_toldInt ini_X11 co_X11_toldInt hd_X11_toldInt ⟨Nat.le_of_ble_eq_true rfl, Nat.le_of_ble_eq_true rfl⟩ (Nat.le_of_ble_eq_true rfl) dX11_tellOne_103 rfl (fun H locs hw => ?_)
    obtain ⟨h19, hf⟩ := if_some hf
    obtain ⟨σ20, eσ20, hf⟩ := wlet_some hf
    refine wr_iast X hw sM13 nM13 h19 dX11_tellOne_106 (fun H locs hw => ?_)
    replace hw := hw.to eσ20
    refine lv_goto (tgt := 163) hx hb dX11_tellOne_107 (by decide) ?_
    have er := Option.some.inj hf
    subst er
    exact wr_vret X hw hr dX11_tellOne_163
  have hf := (if_neg c15).symm.trans hf
  refine lv_lookup (tgt := 110) (off := 101) hx hb dX11_tellOne_9 (by decide) (by simp only [Op.lookupswitch.offset]; rw [if_neg (lk_ne c2), if_neg (lk_ne c9), if_neg (lk_ne c15)]) (by decide) ?_
  refine lv_aload_n hx hb dX11_tellOne_110 rfl (lv_at hl 0 rfl) ?_
  refine gX11_5 (b := 3) X hw sM0 nM0 rfl fl_X11_20 dX11_tellOne_111 ?_
  refine lv_aload_n hx hb dX11_tellOne_114 rfl (lv_at hl 0 rfl) ?_
  refine gX11_11 X hw sM0 nM0 fl_X11_185 dX11_tellOne_115 ?_
  obtain ⟨h21, hf⟩ := if_some hf
  refine wr_iald X hw sM3 nM3 h21 dX11_tellOne_118 ?_
  refine lv_bipush (v := 22) hx hb dX11_tellOne_119 (by decide) ?_
  refine lv_isub hx hb dX11_tellOne_121 ?_
  obtain ⟨v22, ev22, hf⟩ := wlet_some hf
  refine wr_top ev22 ?_
  refine lv_istore_n (lv' := [(1, .int v22), (0, .ref (ad 0))]) hx hb dX11_tellOne_122 rfl hl (by decide) rfl (fun ls hl => ?_)
  refine lv_iload_n hx hb dX11_tellOne_123 rfl (lv_at hl 0 rfl) ?_
  obtain ⟨k146_23, ek146_23, hf0⟩ := wlet_some hf
  have j146_23 : ∀ (σ_146_23 : St) (_ : k146_23 σ_146_23 = some res) (ls : Array Slot) (H : Heap) (locs : List Loc), lv_has ls 2 [(0, .ref (ad 0)), (1, .int v22)] → wH WM ad D cy s σ_146_23 H locs → W p l e { frames := 7, cells := 0, slots := 0, locals := 226 } s m [.ref (ad 0)].toArray below meth c H locs 0 0 (MQ below (wQv WM ad D cy res) [.ref (ad 0)].toArray s 0 0 (wA WM ad)) (F0 m 146 ls []) := by
    intro σ_146_23 hf ls H locs hl hw
    rw [ek146_23] at hf
    refine lv_aload_n hx hb dX11_tellOne_146 rfl (lv_at hl 0 rfl) ?_
    refine gX11_13 X hw sM0 nM0 fl_X11_182 dX11_tellOne_147 ?_
    refine lv_if_le (tgt := 154) hx hb dX11_tellOne_150 (by decide) (fun c24 => ?_) (fun c24 => ?_)
    · have hf := (if_pos c24).symm.trans hf
      refine lv_aload_n hx hb dX11_tellOne_154 rfl (lv_at hl 0 rfl) ?_
      obtain ⟨σ26, hq25, hf⟩ := bind_some hf
      refine wr_cVv (σ' := σ26) (av := []) (rest := []) X hw hl.1 sM0 nM0 rfl (k_X11_goesOn hI hq25) rfl ml_X11_203 im_X11_goesOn se_X11_goesOn ini_X11 co_X11_goesOn hd_X11_goesOn ⟨Nat.le_of_ble_eq_true rfl, Nat.le_of_ble_eq_true rfl⟩ (Nat.le_of_ble_eq_true rfl) dX11_tellOne_155 rfl (fun H locs hw => ?_)
      refine lv_aload_n hx hb dX11_tellOne_158 rfl (lv_at hl 0 rfl) ?_
      refine lv_iload_n hx hb dX11_tellOne_159 rfl (lv_at hl 1 rfl) ?_
      obtain ⟨σ28, hq27, hf⟩ := bind_some hf
      refine wr_cVv (σ' := σ28) (av := [.int v22]) (rest := []) X hw hl.1 sM0 nM0 rfl (k_X11_tellLaw hI hq27) rfl ml_X11_253 im_X11_tellLaw se_X11_tellLaw ini_X11 co_X11_tellLaw hd_X11_tellLaw ⟨Nat.le_of_ble_eq_true rfl, Nat.le_of_ble_eq_true rfl⟩ (Nat.le_of_ble_eq_true rfl) dX11_tellOne_160 rfl (fun H locs hw => ?_)
      have er := Option.some.inj hf
      subst er
      exact wr_vret X hw hr dX11_tellOne_163
    · have hf := (if_neg c24).symm.trans hf
      have er := Option.some.inj hf
      subst er
      exact wr_vret X hw hr dX11_tellOne_153
  replace hf := hf0
  obtain ⟨k141_29, ek141_29, hf0⟩ := wlet_some hf
  have j141_29 : ∀ (_ : k141_29 () = some res) (ls : Array Slot) (H : Heap) (locs : List Loc), lv_has ls 2 [(0, .ref (ad 0)), (1, .int v22)] → wH WM ad D cy s σ H locs → W p l e { frames := 7, cells := 0, slots := 0, locals := 226 } s m [.ref (ad 0)].toArray below meth c H locs 0 0 (MQ below (wQv WM ad D cy res) [.ref (ad 0)].toArray s 0 0 (wA WM ad)) (F0 m 141 ls []) := by
    intro  hf ls H locs hl hw
    rw [ek141_29] at hf
    refine lv_aload_n hx hb dX11_tellOne_141 rfl (lv_at hl 0 rfl) ?_
    refine lv_iconst (v := 1) hx hb dX11_tellOne_142 (by decide) ?_
    obtain ⟨σ31, hq30, hf⟩ := bind_some hf
    refine wr_cVv (σ' := σ31) (av := [.int (1 : Int32)]) (rest := []) X hw hl.1 sM0 nM0 rfl (k_X11_fail hI hq30) rfl ml_X11_197 im_X11_fail se_X11_fail ini_X11 co_X11_fail hd_X11_fail ⟨Nat.le_of_ble_eq_true rfl, Nat.le_of_ble_eq_true rfl⟩ (Nat.le_of_ble_eq_true rfl) dX11_tellOne_143 rfl (fun H locs hw => ?_)
    exact j146_23 σ31 hf ls H locs (lv_sub hl [0, 1] rfl) hw
  replace hf := hf0
  refine lv_if_lt (tgt := 141) hx hb dX11_tellOne_124 (by decide) (fun c32 => ?_) (fun c32 => ?_)
  · have hf := (if_pos c32).symm.trans hf
    exact j141_29 hf ls H locs (lv_sub hl [1, 0] rfl) hw
  · have hf := (if_neg c32).symm.trans hf
    refine lv_aload_n hx hb dX11_tellOne_127 rfl (lv_at hl 1 rfl) ?_
    refine gX11_5 (b := 3) X hw sM0 nM0 rfl fl_X11_20 dX11_tellOne_128 ?_
    refine lv_aload_n hx hb dX11_tellOne_131 rfl (lv_at hl 1 rfl) ?_
    refine gX11_11 X hw sM0 nM0 fl_X11_185 dX11_tellOne_132 ?_
    obtain ⟨h33, hf⟩ := if_some hf
    refine wr_iald X hw sM3 nM3 h33 dX11_tellOne_135 ?_
    refine lv_bipush (v := 25) hx hb dX11_tellOne_136 (by decide) ?_
    refine lv_icmp_le (tgt := 146) hx hb dX11_tellOne_138 (by decide) (fun c34 => ?_) (fun c34 => ?_)
    · have hf := (if_pos c34).symm.trans hf
      exact j146_23 σ hf ls H locs (lv_sub hl [1, 0] rfl) hw
    · have hf := (if_neg c34).symm.trans hf
      exact j141_29 hf ls H locs (lv_sub hl [1, 0] rfl) hw

def f_X11_read (σ : St)  : Option (Int32 × St) := wlet (si σ 0 4 (σ.1 0 2)) fun σ1 => wlet (un2 (fun (σ10_2 : St) (x1_10_2 : Int32) => if (σ10_2.1 0 4) ≤ x1_10_2 then (some (.inr σ10_2)) else (if ib x1_10_2 2000 = true then if ib x1_10_2 2000 = true then wlet (si σ10_2 2 (Int32.toNatClampNeg x1_10_2) (vp_nar .byte (σ10_2.1 1 (Int32.toNatClampNeg x1_10_2)))) fun σ44 => wlet (x1_10_2 + (1 : Int32)) fun v45 => some (.inl (σ44, v45)) else none else none)) : St × Int32 → Option ((St × Int32) ⊕ (St))) fun st10_2 => Option.bind (lp st10_2 fuel (σ1, (0 : Int32))) ((fun (σe10_2 : St) => wlet (si σe10_2 0 2 (0 : Int32)) fun σ3 => Option.bind (f_X11_cut σ3) fun σ5 => wlet (si σ5 0 11 (0 : Int32)) fun σ6 => wlet (si σ6 0 12 (0 : Int32)) fun σ7 => wlet (si σ7 0 13 (0 : Int32)) fun σ8 => wlet (si σ8 0 15 (0 : Int32)) fun σ9 => wlet (si σ9 0 19 ((1 : Int32) - (σ9.1 0 18))) fun σ10 => wlet (si σ10 0 20 (0 : Int32)) fun σ11 => Option.bind (f_X11_plain σ11 (σ11.1 0 19)) fun σ13 => wlet (si σ13 0 29 ((130 : Int32) * (σ13.1 0 19))) fun σ14 => wlet (si σ14 0 35 ((420 : Int32) * (σ14.1 0 19))) fun σ15 => wlet (fun (σ112_16 : St) => if (σ112_16.1 0 13) = 0 then (Option.bind (f_X11_is σ112_16 (0 : Int32)) fun v37 => if v37 = 0 then (Option.bind (f_X11_tellOne σ112_16) fun σ40 => some (.inl σ40)) else (some (.inr σ112_16))) else (some (.inr σ112_16)) : St → Option ((St) ⊕ (St))) fun st112_16 => Option.bind (lp st112_16 fuel σ15) ((fun (σe112_16 : St) => wlet (fun (s1_164_17 : Int32) => (wlet (si σe112_16 0 17 s1_164_17) fun σ18 => if (σ18.1 0 13) ≤ 0 then (if (σ18.1 0 15) ≤ 0 then (wlet (si σ18 0 18 (σ18.1 0 19)) fun σ21 => Option.bind (f_X11_begins σ21) fun σ23 => Option.bind (f_X11_keepsRow σ23) fun σ25 => wlet (si σ25 0 47 (0 : Int32)) fun σ26 => wlet (si σ26 0 51 (0 : Int32)) fun σ27 => wlet (un2 (fun (σ219_28 : St) (x1_219_28 : Int32) => if (3 : Int32) ≤ x1_219_28 then (some (.inr σ219_28)) else (if ib x1_219_28 3 = true then wlet (si σ219_28 36 (Int32.toNatClampNeg x1_219_28) (vp_nar .boolean (0 : Int32))) fun σ31 => wlet (x1_219_28 + (1 : Int32)) fun v32 => some (.inl (σ31, v32)) else none)) : St × Int32 → Option ((St × Int32) ⊕ (St))) fun st219_28 => Option.bind (lp st219_28 fuel (σ27, (0 : Int32))) ((fun (σe219_28 : St) => some ((0 : Int32), σe219_28)))) else (some ((σ18.1 0 15), σ18))) else (some ((σ18.1 0 13), σ18)) : Option (Int32 × St))) fun k164_17 => if (σe112_16.1 0 13) ≤ 0 then (if (σe112_16.1 0 15) ≤ 0 then (k164_17 (-1 : Int32)) else (k164_17 (σe112_16.1 0 16))) else (k164_17 (σe112_16.1 0 14))))))
theorem hd_X11_read : yX11_read.cls = RX11 ∧ yX11_read.cls ≠ "java/lang/invoke/MethodHandle" ∧ yX11_read.cls ≠ "java/lang/invoke/VarHandle" ∧ (parseMethodDescriptor yX11_read.desc).map (fun d => d.parameters.length) = some 0 := by decide +kernel
set_option maxRecDepth 100000 in
set_option maxHeartbeats 4000000 in
theorem k_X11_read {l : Launch} {ad : Nat → Nat} {D : va_G} {cy : Nat → ClassId} {z : wStr} (hI : wI WM ad) {σ : St}   {res : Int32 × St} (hf : f_X11_read σ  = some res) : wC WM ad D cy z l yX11_read (Cond.code yX11_read cX11_read 2 (Option.some Jvm.ClassFile.FieldType.int) :: aw) (8) (247) [.ref (ad 0)] σ (wQi WM ad D cy res.1 res.2) := by
  unfold f_X11_read at hf
  refine wr_start (own := RX11) hI (by decide +kernel) rfl (Nat.le_of_ble_eq_true rfl) rfl ?_
  intro p e s m below meth c ls X hw hr hl
  have hx := X.hx
  have hb := X.hb
  obtain ⟨H, eH⟩ : ∃ H : Heap, H = s.heap := ⟨_, rfl⟩
  obtain ⟨locs, el⟩ : ∃ locs : List Loc, locs = [] := ⟨_, rfl⟩
  rw [← eH, ← el] at hw ⊢
  clear eH el
  replace hl : lv_has ls 2 [(0, .ref (ad 0))] := hl
  refine lv_aload_n hx hb dX11_read_0 rfl (lv_at hl 0 rfl) ?_
  refine lv_aload_n hx hb dX11_read_1 rfl (lv_at hl 0 rfl) ?_
  refine gX11_2 X hw sM0 nM0 fl_X11_149 dX11_read_2 ?_
  obtain ⟨σ1, eσ1, hf⟩ := wlet_some hf
  refine pX11_4 X hw sM0 nM0 fl_X11_155 dX11_read_5 (fun H locs hw => ?_)
  replace hw := hw.to eσ1
  refine lv_iconst (v := 0) hx hb dX11_read_8 (by decide) ?_
  refine lv_istore_n (lv' := [(1, .int (0 : Int32)), (0, .ref (ad 0))]) hx hb dX11_read_9 rfl hl (by decide) rfl (fun ls hl => ?_)
  obtain ⟨st10_2, est10_2, hf⟩ := wlet_some hf
  obtain ⟨E10_2, hq10_2, hE10_2⟩ := bind_some hf
  have hx10_2 : ∀ (σe10_2 : St) (_ : σe10_2 = E10_2) (ls : Array Slot) (H : Heap) (locs : List Loc), lv_has ls 2 [(0, .ref (ad 0))] → wH WM ad D cy s σe10_2 H locs → W p l e { frames := 8, cells := 0, slots := 0, locals := 247 } s m [.ref (ad 0)].toArray below meth c H locs 0 0 (MQ below (wQi WM ad D cy res.1 res.2) [.ref (ad 0)].toArray s 0 0 (wA WM ad)) (F0 m 36 ls []) := by
    intro σe10_2 e0 ls H locs hl hw
    subst e0
    have hf := hE10_2
    refine lv_aload_n hx hb dX11_read_36 rfl (lv_at hl 0 rfl) ?_
    refine lv_iconst (v := 0) hx hb dX11_read_37 (by decide) ?_
    obtain ⟨σ3, eσ3, hf⟩ := wlet_some hf
    refine pX11_2 X hw sM0 nM0 fl_X11_149 dX11_read_38 (fun H locs hw => ?_)
    replace hw := hw.to eσ3
    refine lv_aload_n hx hb dX11_read_41 rfl (lv_at hl 0 rfl) ?_
    obtain ⟨σ5, hq4, hf⟩ := bind_some hf
    refine wr_cVv (σ' := σ5) (av := []) (rest := []) X hw hl.1 sM0 nM0 rfl (k_X11_cut hI hq4) rfl ml_X11_206 im_X11_cut se_X11_cut ini_X11 co_X11_cut hd_X11_cut ⟨Nat.le_of_ble_eq_true rfl, Nat.le_of_ble_eq_true rfl⟩ (Nat.le_of_ble_eq_true rfl) dX11_read_42 rfl (fun H locs hw => ?_)
    refine lv_aload_n hx hb dX11_read_45 rfl (lv_at hl 0 rfl) ?_
    refine lv_iconst (v := 0) hx hb dX11_read_46 (by decide) ?_
    obtain ⟨σ6, eσ6, hf⟩ := wlet_some hf
    refine pX11_11 X hw sM0 nM0 fl_X11_185 dX11_read_47 (fun H locs hw => ?_)
    replace hw := hw.to eσ6
    refine lv_aload_n hx hb dX11_read_50 rfl (lv_at hl 0 rfl) ?_
    refine lv_iconst (v := 0) hx hb dX11_read_51 (by decide) ?_
    obtain ⟨σ7, eσ7, hf⟩ := wlet_some hf
    refine pX11_12 X hw sM0 nM0 fl_X11_209 dX11_read_52 (fun H locs hw => ?_)
    replace hw := hw.to eσ7
    refine lv_aload_n hx hb dX11_read_55 rfl (lv_at hl 0 rfl) ?_
    refine lv_iconst (v := 0) hx hb dX11_read_56 (by decide) ?_
    obtain ⟨σ8, eσ8, hf⟩ := wlet_some hf
    refine pX11_13 X hw sM0 nM0 fl_X11_182 dX11_read_57 (fun H locs hw => ?_)
    replace hw := hw.to eσ8
    refine lv_aload_n hx hb dX11_read_60 rfl (lv_at hl 0 rfl) ?_
    refine lv_iconst (v := 0) hx hb dX11_read_61 (by decide) ?_
    obtain ⟨σ9, eσ9, hf⟩ := wlet_some hf
    refine pX11_15 X hw sM0 nM0 fl_X11_191 dX11_read_62 (fun H locs hw => ?_)
    replace hw := hw.to eσ9
    refine lv_aload_n hx hb dX11_read_65 rfl (lv_at hl 0 rfl) ?_
    refine lv_iconst (v := 1) hx hb dX11_read_66 (by decide) ?_
    refine lv_aload_n hx hb dX11_read_67 rfl (lv_at hl 0 rfl) ?_
    refine gX11_18 X hw sM0 nM0 fl_X11_212 dX11_read_68 ?_
    refine lv_isub hx hb dX11_read_71 ?_
    obtain ⟨σ10, eσ10, hf⟩ := wlet_some hf
    refine pX11_19 X hw sM0 nM0 fl_X11_215 dX11_read_72 (fun H locs hw => ?_)
    replace hw := hw.to eσ10
    refine lv_aload_n hx hb dX11_read_75 rfl (lv_at hl 0 rfl) ?_
    refine lv_iconst (v := 0) hx hb dX11_read_76 (by decide) ?_
    obtain ⟨σ11, eσ11, hf⟩ := wlet_some hf
    refine pX11_20 X hw sM0 nM0 fl_X11_218 dX11_read_77 (fun H locs hw => ?_)
    replace hw := hw.to eσ11
    refine lv_aload_n hx hb dX11_read_80 rfl (lv_at hl 0 rfl) ?_
    refine lv_aload_n hx hb dX11_read_81 rfl (lv_at hl 0 rfl) ?_
    refine gX11_19 X hw sM0 nM0 fl_X11_215 dX11_read_82 ?_
    obtain ⟨σ13, hq12, hf⟩ := bind_some hf
    refine wr_cVv (σ' := σ13) (av := [.int (σ11.1 0 19)]) (rest := []) X hw hl.1 sM0 nM0 rfl (k_X11_plain hI hq12) rfl ml_X11_131 im_X11_plain se_X11_plain ini_X11 co_X11_plain hd_X11_plain ⟨Nat.le_of_ble_eq_true rfl, Nat.le_of_ble_eq_true rfl⟩ (Nat.le_of_ble_eq_true rfl) dX11_read_85 rfl (fun H locs hw => ?_)
    refine lv_aload_n hx hb dX11_read_88 rfl (lv_at hl 0 rfl) ?_
    refine lv_sipush (v := 130) hx hb dX11_read_89 (by decide) ?_
    refine lv_aload_n hx hb dX11_read_92 rfl (lv_at hl 0 rfl) ?_
    refine gX11_19 X hw sM0 nM0 fl_X11_215 dX11_read_93 ?_
    refine lv_imul hx hb dX11_read_96 ?_
    obtain ⟨σ14, eσ14, hf⟩ := wlet_some hf
    refine pX11_29 X hw sM0 nM0 fl_X11_221 dX11_read_97 (fun H locs hw => ?_)
    replace hw := hw.to eσ14
    refine lv_aload_n hx hb dX11_read_100 rfl (lv_at hl 0 rfl) ?_
    refine lv_sipush (v := 420) hx hb dX11_read_101 (by decide) ?_
    refine lv_aload_n hx hb dX11_read_104 rfl (lv_at hl 0 rfl) ?_
    refine gX11_19 X hw sM0 nM0 fl_X11_215 dX11_read_105 ?_
    refine lv_imul hx hb dX11_read_108 ?_
    obtain ⟨σ15, eσ15, hf⟩ := wlet_some hf
    refine pX11_35 X hw sM0 nM0 fl_X11_224 dX11_read_109 (fun H locs hw => ?_)
    replace hw := hw.to eσ15
    obtain ⟨st112_16, est112_16, hf⟩ := wlet_some hf
    obtain ⟨E112_16, hq112_16, hE112_16⟩ := bind_some hf
    have hx112_16 : ∀ (σe112_16 : St) (_ : σe112_16 = E112_16) (ls : Array Slot) (H : Heap) (locs : List Loc), lv_has ls 2 [(0, .ref (ad 0))] → wH WM ad D cy s σe112_16 H locs → W p l e { frames := 8, cells := 0, slots := 0, locals := 247 } s m [.ref (ad 0)].toArray below meth c H locs 0 0 (MQ below (wQi WM ad D cy res.1 res.2) [.ref (ad 0)].toArray s 0 0 (wA WM ad)) (F0 m 134 ls []) := by
      intro σe112_16 e0 ls H locs hl hw
      subst e0
      have hf := hE112_16
      refine lv_aload_n hx hb dX11_read_134 rfl (lv_at hl 0 rfl) ?_
      refine lv_aload_n hx hb dX11_read_135 rfl (lv_at hl 0 rfl) ?_
      refine gX11_13 X hw sM0 nM0 fl_X11_182 dX11_read_136 ?_
      obtain ⟨k164_17, ek164_17, hf0⟩ := wlet_some hf
      have j164_17 : ∀ (s1_164_17 : Int32) (_ : k164_17 s1_164_17 = some res) (ls : Array Slot) (H : Heap) (locs : List Loc), lv_has ls 2 [(0, .ref (ad 0))] → wH WM ad D cy s σe112_16 H locs → W p l e { frames := 8, cells := 0, slots := 0, locals := 247 } s m [.ref (ad 0)].toArray below meth c H locs 0 0 (MQ below (wQi WM ad D cy res.1 res.2) [.ref (ad 0)].toArray s 0 0 (wA WM ad)) (F0 m 164 ls [.int s1_164_17, .ref (ad 0)]) := by
        intro s1_164_17 hf ls H locs hl hw
        rw [ek164_17] at hf
        obtain ⟨σ18, eσ18, hf⟩ := wlet_some hf
        refine pX11_17 X hw sM0 nM0 fl_X11_37 dX11_read_164 (fun H locs hw => ?_)
        replace hw := hw.to eσ18
        refine lv_aload_n hx hb dX11_read_167 rfl (lv_at hl 0 rfl) ?_
        refine gX11_13 X hw sM0 nM0 fl_X11_182 dX11_read_168 ?_
        refine lv_if_le (tgt := 179) hx hb dX11_read_171 (by decide) (fun c19 => ?_) (fun c19 => ?_)
        · have hf := (if_pos c19).symm.trans hf
          refine lv_aload_n hx hb dX11_read_179 rfl (lv_at hl 0 rfl) ?_
          refine gX11_15 X hw sM0 nM0 fl_X11_191 dX11_read_180 ?_
          refine lv_if_le (tgt := 191) hx hb dX11_read_183 (by decide) (fun c20 => ?_) (fun c20 => ?_)
          · have hf := (if_pos c20).symm.trans hf
            refine lv_aload_n hx hb dX11_read_191 rfl (lv_at hl 0 rfl) ?_
            refine lv_aload_n hx hb dX11_read_192 rfl (lv_at hl 0 rfl) ?_
            refine gX11_19 X hw sM0 nM0 fl_X11_215 dX11_read_193 ?_
            obtain ⟨σ21, eσ21, hf⟩ := wlet_some hf
            refine pX11_18 X hw sM0 nM0 fl_X11_212 dX11_read_196 (fun H locs hw => ?_)
            replace hw := hw.to eσ21
            refine lv_aload_n hx hb dX11_read_199 rfl (lv_at hl 0 rfl) ?_
            obtain ⟨σ23, hq22, hf⟩ := bind_some hf
            refine wr_cVv (σ' := σ23) (av := []) (rest := []) X hw hl.1 sM0 nM0 rfl (k_X11_begins hI hq22) rfl ml_X11_143 im_X11_begins se_X11_begins ini_X11 co_X11_begins hd_X11_begins ⟨Nat.le_of_ble_eq_true rfl, Nat.le_of_ble_eq_true rfl⟩ (Nat.le_of_ble_eq_true rfl) dX11_read_200 rfl (fun H locs hw => ?_)
            refine lv_aload_n hx hb dX11_read_203 rfl (lv_at hl 0 rfl) ?_
            obtain ⟨σ25, hq24, hf⟩ := bind_some hf
            refine wr_cVv (σ' := σ25) (av := []) (rest := []) X hw hl.1 sM0 nM0 rfl (k_X11_keepsRow hI hq24) rfl ml_X11_146 im_X11_keepsRow se_X11_keepsRow ini_X11 co_X11_keepsRow hd_X11_keepsRow ⟨Nat.le_of_ble_eq_true rfl, Nat.le_of_ble_eq_true rfl⟩ (Nat.le_of_ble_eq_true rfl) dX11_read_204 rfl (fun H locs hw => ?_)
            refine lv_aload_n hx hb dX11_read_207 rfl (lv_at hl 0 rfl) ?_
            refine lv_iconst (v := 0) hx hb dX11_read_208 (by decide) ?_
            obtain ⟨σ26, eσ26, hf⟩ := wlet_some hf
            refine pX11_47 X hw sM0 nM0 fl_X11_230 dX11_read_209 (fun H locs hw => ?_)
            replace hw := hw.to eσ26
            refine lv_aload_n hx hb dX11_read_212 rfl (lv_at hl 0 rfl) ?_
            refine lv_iconst (v := 0) hx hb dX11_read_213 (by decide) ?_
            obtain ⟨σ27, eσ27, hf⟩ := wlet_some hf
            refine pX11_51 X hw sM0 nM0 fl_X11_233 dX11_read_214 (fun H locs hw => ?_)
            replace hw := hw.to eσ27
            refine lv_iconst (v := 0) hx hb dX11_read_217 (by decide) ?_
            refine lv_istore_n (lv' := [(1, .int (0 : Int32)), (0, .ref (ad 0))]) hx hb dX11_read_218 rfl hl (by decide) rfl (fun ls hl => ?_)
            obtain ⟨st219_28, est219_28, hf⟩ := wlet_some hf
            obtain ⟨E219_28, hq219_28, hE219_28⟩ := bind_some hf
            have hx219_28 : ∀ (σe219_28 : St) (_ : σe219_28 = E219_28) (ls : Array Slot) (H : Heap) (locs : List Loc), lv_has ls 2 [] → wH WM ad D cy s σe219_28 H locs → W p l e { frames := 8, cells := 0, slots := 0, locals := 247 } s m [.ref (ad 0)].toArray below meth c H locs 0 0 (MQ below (wQi WM ad D cy res.1 res.2) [.ref (ad 0)].toArray s 0 0 (wA WM ad)) (F0 m 237 ls []) := by
              intro σe219_28 e0 ls H locs hl hw
              subst e0
              have hf := hE219_28
              refine lv_iconst (v := 0) hx hb dX11_read_237 (by decide) ?_
              have er := Option.some.inj hf
              subst er
              exact wr_iret X hw hr (Or.inl rfl) dX11_read_238
            have lo219_28 : ∀ (n : Nat) (σ219_28 : St) (x1_219_28 : Int32) (_ : lp st219_28 n (σ219_28, x1_219_28) = some E219_28) (ls : Array Slot) (H : Heap) (locs : List Loc), lv_has ls 2 [(0, .ref (ad 0)), (1, .int x1_219_28)] → wH WM ad D cy s σ219_28 H locs → W p l e { frames := 8, cells := 0, slots := 0, locals := 247 } s m [.ref (ad 0)].toArray below meth c H locs 0 0 (MQ below (wQi WM ad D cy res.1 res.2) [.ref (ad 0)].toArray s 0 0 (wA WM ad)) (F0 m 219 ls []) := by
              intro n
              induction n with
              | zero =>
                intro σ219_28 x1_219_28 hf ls H locs hl hw
                exact (lp_zero hf).elim
              | succ n ih219_28 =>
                intro σ219_28 x1_219_28 hf ls H locs hl hw
                obtain ⟨q219_28, hf, hz219_28⟩ := lp_succ hf
                rw [est219_28] at hf
                replace hf := un2_some hf
                refine lv_iload_n hx hb dX11_read_219 rfl (lv_at hl 1 rfl) ?_
                refine lv_iconst (v := 3) hx hb dX11_read_220 (by decide) ?_
                refine lv_icmp_ge (tgt := 237) hx hb dX11_read_221 (by decide) (fun c29 => ?_) (fun c29 => ?_)
                · have hf := (if_pos c29).symm.trans hf
                  exact hx219_28 σ219_28 (lpK_inr (lp_leaf hf hz219_28)) ls H locs (lv_sub hl [] rfl) hw
                · have hf := (if_neg c29).symm.trans hf
                  refine lv_aload_n hx hb dX11_read_224 rfl (lv_at hl 0 rfl) ?_
                  refine gX11_57 (b := 36) X hw sM0 nM0 rfl fl_X11_125 dX11_read_225 ?_
                  refine lv_iload_n hx hb dX11_read_228 rfl (lv_at hl 1 rfl) ?_
                  refine lv_iconst (v := 0) hx hb dX11_read_229 (by decide) ?_
                  obtain ⟨h30, hf⟩ := if_some hf
                  obtain ⟨σ31, eσ31, hf⟩ := wlet_some hf
                  refine wr_zast X hw sM36 nM36 h30 dX11_read_230 (fun H locs hw => ?_)
                  replace hw := hw.to eσ31
                  obtain ⟨v32, ev32, hf⟩ := wlet_some hf
                  refine lv_iinc (v := v32) (lv' := [(1, .int v32), (0, .ref (ad 0))]) hx hb dX11_read_231 hl (k := 1) rfl (by rw [ev32]; rfl) (by decide) rfl (fun ls hl => ?_)
                  refine lv_goto (tgt := 219) hx hb dX11_read_234 (by decide) ?_
                  exact ih219_28 σ31 v32 (lp_leaf hf hz219_28) ls H locs (lv_sub hl [1, 0] rfl) hw
            exact lo219_28 fuel σ27 (0 : Int32) hq219_28 ls H locs (lv_sub hl [1, 0] rfl) hw
          · have hf := (if_neg c20).symm.trans hf
            refine lv_aload_n hx hb dX11_read_186 rfl (lv_at hl 0 rfl) ?_
            refine gX11_15 X hw sM0 nM0 fl_X11_191 dX11_read_187 ?_
            have er := Option.some.inj hf
            subst er
            exact wr_iret X hw hr (Or.inl rfl) dX11_read_190
        · have hf := (if_neg c19).symm.trans hf
          refine lv_aload_n hx hb dX11_read_174 rfl (lv_at hl 0 rfl) ?_
          refine gX11_13 X hw sM0 nM0 fl_X11_182 dX11_read_175 ?_
          have er := Option.some.inj hf
          subst er
          exact wr_iret X hw hr (Or.inl rfl) dX11_read_178
      replace hf := hf0
      refine lv_if_le (tgt := 149) hx hb dX11_read_139 (by decide) (fun c33 => ?_) (fun c33 => ?_)
      · have hf := (if_pos c33).symm.trans hf
        refine lv_aload_n hx hb dX11_read_149 rfl (lv_at hl 0 rfl) ?_
        refine gX11_15 X hw sM0 nM0 fl_X11_191 dX11_read_150 ?_
        refine lv_if_le (tgt := 163) hx hb dX11_read_153 (by decide) (fun c34 => ?_) (fun c34 => ?_)
        · have hf := (if_pos c34).symm.trans hf
          refine lv_iconst (v := -1) hx hb dX11_read_163 (by decide) ?_
          exact j164_17 (-1 : Int32) hf ls H locs (lv_sub hl [0] rfl) hw
        · have hf := (if_neg c34).symm.trans hf
          refine lv_aload_n hx hb dX11_read_156 rfl (lv_at hl 0 rfl) ?_
          refine gX11_16 X hw sM0 nM0 fl_X11_194 dX11_read_157 ?_
          refine lv_goto (tgt := 164) hx hb dX11_read_160 (by decide) ?_
          exact j164_17 (σe112_16.1 0 16) hf ls H locs (lv_sub hl [0] rfl) hw
      · have hf := (if_neg c33).symm.trans hf
        refine lv_aload_n hx hb dX11_read_142 rfl (lv_at hl 0 rfl) ?_
        refine gX11_14 X hw sM0 nM0 fl_X11_188 dX11_read_143 ?_
        refine lv_goto (tgt := 164) hx hb dX11_read_146 (by decide) ?_
        exact j164_17 (σe112_16.1 0 14) hf ls H locs (lv_sub hl [0] rfl) hw
    have lo112_16 : ∀ (n : Nat) (σ112_16 : St) (_ : lp st112_16 n σ112_16 = some E112_16) (ls : Array Slot) (H : Heap) (locs : List Loc), lv_has ls 2 [(0, .ref (ad 0))] → wH WM ad D cy s σ112_16 H locs → W p l e { frames := 8, cells := 0, slots := 0, locals := 247 } s m [.ref (ad 0)].toArray below meth c H locs 0 0 (MQ below (wQi WM ad D cy res.1 res.2) [.ref (ad 0)].toArray s 0 0 (wA WM ad)) (F0 m 112 ls []) := by
      intro n
      induction n with
      | zero =>
        intro σ112_16 hf ls H locs hl hw
        exact (lp_zero hf).elim
      | succ n ih112_16 =>
        intro σ112_16 hf ls H locs hl hw
        obtain ⟨q112_16, hf, hz112_16⟩ := lp_succ hf
        rw [est112_16] at hf
        refine lv_aload_n hx hb dX11_read_112 rfl (lv_at hl 0 rfl) ?_
        refine gX11_13 X hw sM0 nM0 fl_X11_182 dX11_read_113 ?_
        refine lv_if_ne (tgt := 134) hx hb dX11_read_116 (by decide) (fun c35 => ?_) (fun c35 => ?_)
        · have hf := (if_neg c35).symm.trans hf
          exact hx112_16 σ112_16 (lpK_inr (lp_leaf hf hz112_16)) ls H locs (lv_sub hl [0] rfl) hw
        · have hf := (if_pos c35).symm.trans hf
          refine lv_aload_n hx hb dX11_read_119 rfl (lv_at hl 0 rfl) ?_
          refine lv_iconst (v := 0) hx hb dX11_read_120 (by decide) ?_
          obtain ⟨v37, hq36, hf⟩ := bind_some hf
          refine wr_cVi (r := v37) (σ' := σ112_16) (av := [.int (0 : Int32)]) (rest := []) X hw hl.1 sM0 nM0 rfl (k_X11_is hI hq36) rfl ml_X11_200 im_X11_is se_X11_is ini_X11 co_X11_is hd_X11_is ⟨Nat.le_of_ble_eq_true rfl, Nat.le_of_ble_eq_true rfl⟩ (Nat.le_of_ble_eq_true rfl) dX11_read_121 rfl (fun H locs hw => ?_)
          refine lv_if_ne (tgt := 134) hx hb dX11_read_124 (by decide) (fun c38 => ?_) (fun c38 => ?_)
          · have hf := (if_neg c38).symm.trans hf
            exact hx112_16 σ112_16 (lpK_inr (lp_leaf hf hz112_16)) ls H locs (lv_sub hl [0] rfl) hw
          · have hf := (if_pos c38).symm.trans hf
            refine lv_aload_n hx hb dX11_read_127 rfl (lv_at hl 0 rfl) ?_
            obtain ⟨σ40, hq39, hf⟩ := bind_some hf
            refine wr_cVv (σ' := σ40) (av := []) (rest := []) X hw hl.1 sM0 nM0 rfl (k_X11_tellOne hI hq39) rfl ml_X11_227 im_X11_tellOne se_X11_tellOne ini_X11 co_X11_tellOne hd_X11_tellOne ⟨Nat.le_of_ble_eq_true rfl, Nat.le_of_ble_eq_true rfl⟩ (Nat.le_of_ble_eq_true rfl) dX11_read_128 rfl (fun H locs hw => ?_)
            refine lv_goto (tgt := 112) hx hb dX11_read_131 (by decide) ?_
            exact ih112_16 σ40 (lp_leaf hf hz112_16) ls H locs (lv_sub hl [0] rfl) hw
    exact lo112_16 fuel σ15 hq112_16 ls H locs (lv_sub hl [0] rfl) hw
  have lo10_2 : ∀ (n : Nat) (σ10_2 : St) (x1_10_2 : Int32) (_ : lp st10_2 n (σ10_2, x1_10_2) = some E10_2) (ls : Array Slot) (H : Heap) (locs : List Loc), lv_has ls 2 [(0, .ref (ad 0)), (1, .int x1_10_2)] → wH WM ad D cy s σ10_2 H locs → W p l e { frames := 8, cells := 0, slots := 0, locals := 247 } s m [.ref (ad 0)].toArray below meth c H locs 0 0 (MQ below (wQi WM ad D cy res.1 res.2) [.ref (ad 0)].toArray s 0 0 (wA WM ad)) (F0 m 10 ls []) := by
    intro n
    induction n with
    | zero =>
      intro σ10_2 x1_10_2 hf ls H locs hl hw
      exact (lp_zero hf).elim
    | succ n ih10_2 =>
      intro σ10_2 x1_10_2 hf ls H locs hl hw
      obtain ⟨q10_2, hf, hz10_2⟩ := lp_succ hf
      rw [est10_2] at hf
      replace hf := un2_some hf
      refine lv_iload_n hx hb dX11_read_10 rfl (lv_at hl 1 rfl) ?_
      refine lv_aload_n hx hb dX11_read_11 rfl (lv_at hl 0 rfl) ?_
      refine gX11_4 X hw sM0 nM0 fl_X11_155 dX11_read_12 ?_
      refine lv_icmp_ge (tgt := 36) hx hb dX11_read_15 (by decide) (fun c41 => ?_) (fun c41 => ?_)
      · have hf := (if_pos c41).symm.trans hf
        exact hx10_2 σ10_2 (lpK_inr (lp_leaf hf hz10_2)) ls H locs (lv_sub hl [0] rfl) hw
      · have hf := (if_neg c41).symm.trans hf
        refine lv_aload_n hx hb dX11_read_18 rfl (lv_at hl 0 rfl) ?_
        refine gX11_3 (b := 2) X hw sM0 nM0 rfl fl_X11_17 dX11_read_19 ?_
        refine lv_iload_n hx hb dX11_read_22 rfl (lv_at hl 1 rfl) ?_
        refine lv_aload_n hx hb dX11_read_23 rfl (lv_at hl 0 rfl) ?_
        refine gX11_1 (b := 1) X hw sM0 nM0 rfl fl_X11_13 dX11_read_24 ?_
        refine lv_iload_n hx hb dX11_read_27 rfl (lv_at hl 1 rfl) ?_
        obtain ⟨h42, hf⟩ := if_some hf
        refine wr_bald X hw sM1 nM1 h42 dX11_read_28 ?_
        obtain ⟨h43, hf⟩ := if_some hf
        obtain ⟨σ44, eσ44, hf⟩ := wlet_some hf
        refine wr_bast X hw sM2 nM2 h43 dX11_read_29 (fun H locs hw => ?_)
        replace hw := hw.to eσ44
        obtain ⟨v45, ev45, hf⟩ := wlet_some hf
        refine lv_iinc (v := v45) (lv' := [(1, .int v45), (0, .ref (ad 0))]) hx hb dX11_read_30 hl (k := 1) rfl (by rw [ev45]; rfl) (by decide) rfl (fun ls hl => ?_)
        refine lv_goto (tgt := 10) hx hb dX11_read_33 (by decide) ?_
        exact ih10_2 σ44 v45 (lp_leaf hf hz10_2) ls H locs (lv_sub hl [1, 0] rfl) hw
  exact lo10_2 fuel σ1 (0 : Int32) hq10_2 ls H locs (lv_sub hl [1, 0] rfl) hw

def f_X11_restore (σ : St) (x1 : Int32) : Option (Int32 × St) := Option.bind (f_X11_in x1 (0 : Int32) (2 : Int32)) fun v2 => if v2 = 0 then (some ((0 : Int32), σ)) else (if ib x1 3 = true then if (σ.1 36 (Int32.toNatClampNeg x1)) = 0 then (some ((0 : Int32), σ)) else (wlet (un2 (fun (σ22_6 : St) (x2_22_6 : Int32) => if (26 : Int32) ≤ x2_22_6 then (some (.inr σ22_6)) else (if ib (((26 : Int32) * x1) + x2_22_6) 78 = true then if ib x2_22_6 26 = true then wlet (si σ22_6 26 (Int32.toNatClampNeg x2_22_6) (σ22_6.1 37 (Int32.toNatClampNeg (((26 : Int32) * x1) + x2_22_6)))) fun σ11 => wlet (x2_22_6 + (1 : Int32)) fun v12 => some (.inl (σ11, v12)) else none else none)) : St × Int32 → Option ((St × Int32) ⊕ (St))) fun st22_6 => Option.bind (lp st22_6 fuel (σ, (0 : Int32))) ((fun (σe22_6 : St) => wlet (si σe22_6 0 47 (0 : Int32)) fun σ7 => some ((1 : Int32), σ7)))) else none)
theorem hd_X11_restore : yX11_restore.cls = RX11 ∧ yX11_restore.cls ≠ "java/lang/invoke/MethodHandle" ∧ yX11_restore.cls ≠ "java/lang/invoke/VarHandle" ∧ (parseMethodDescriptor yX11_restore.desc).map (fun d => d.parameters.length) = some 1 := by decide +kernel
set_option maxRecDepth 100000 in
set_option maxHeartbeats 4000000 in
theorem k_X11_restore {l : Launch} {ad : Nat → Nat} {D : va_G} {cy : Nat → ClassId} {z : wStr} (hI : wI WM ad) {σ : St} {x1 : Int32}  {res : Int32 × St} (hf : f_X11_restore σ x1 = some res) : wC WM ad D cy z l yX11_restore (Cond.code yX11_restore cX11_restore 3 (Option.some Jvm.ClassFile.FieldType.boolean) :: aw) (2) (122) [.ref (ad 0), .int x1] σ (wQi WM ad D cy res.1 res.2) := by
  unfold f_X11_restore at hf
  refine wr_start (own := RX11) hI (by decide +kernel) rfl (Nat.le_of_ble_eq_true rfl) rfl ?_
  intro p e s m below meth c ls X hw hr hl
  have hx := X.hx
  have hb := X.hb
  obtain ⟨H, eH⟩ : ∃ H : Heap, H = s.heap := ⟨_, rfl⟩
  obtain ⟨locs, el⟩ : ∃ locs : List Loc, locs = [] := ⟨_, rfl⟩
  rw [← eH, ← el] at hw ⊢
  clear eH el
  replace hl : lv_has ls 3 [(0, .ref (ad 0)), (1, .int x1)] := hl
  refine lv_iload_n hx hb dX11_restore_0 rfl (lv_at hl 1 rfl) ?_
  refine lv_iconst (v := 0) hx hb dX11_restore_1 (by decide) ?_
  refine lv_iconst (v := 2) hx hb dX11_restore_2 (by decide) ?_
  obtain ⟨v2, hq1, hf⟩ := bind_some hf
  refine wr_cSi (r := v2) (σ' := σ) (av := [.int x1, .int (0 : Int32), .int (2 : Int32)]) (rest := []) X hw hl.1 (k_X11_in hI hq1) rfl ml_X11_282 st_X11_in ini_X11 co_X11_in hd_X11_in ⟨Nat.le_of_ble_eq_true rfl, Nat.le_of_ble_eq_true rfl⟩ (Nat.le_of_ble_eq_true rfl) dX11_restore_3 rfl (fun H locs hw => ?_)
  refine lv_if_eq (tgt := 18) hx hb dX11_restore_6 (by decide) (fun c3 => ?_) (fun c3 => ?_)
  · have hf := (if_pos c3).symm.trans hf
    refine lv_iconst (v := 0) hx hb dX11_restore_18 (by decide) ?_
    have er := Option.some.inj hf
    subst er
    exact wr_iret X hw hr (Or.inr ⟨rfl, (show bz (0 : Int32) = true from rfl)⟩) dX11_restore_19
  · have hf := (if_neg c3).symm.trans hf
    refine lv_aload_n hx hb dX11_restore_9 rfl (lv_at hl 0 rfl) ?_
    refine gX11_57 (b := 36) X hw sM0 nM0 rfl fl_X11_125 dX11_restore_10 ?_
    refine lv_iload_n hx hb dX11_restore_13 rfl (lv_at hl 1 rfl) ?_
    obtain ⟨h4, hf⟩ := if_some hf
    refine wr_zald X hw sM36 nM36 h4 dX11_restore_14 ?_
    refine lv_if_ne (tgt := 20) hx hb dX11_restore_15 (by decide) (fun c5 => ?_) (fun c5 => ?_)
    · have hf := (if_neg c5).symm.trans hf
      refine lv_iconst (v := 0) hx hb dX11_restore_20 (by decide) ?_
      refine lv_istore_n (lv' := [(2, .int (0 : Int32)), (0, .ref (ad 0)), (1, .int x1)]) hx hb dX11_restore_21 rfl hl (by decide) rfl (fun ls hl => ?_)
      obtain ⟨st22_6, est22_6, hf⟩ := wlet_some hf
      obtain ⟨E22_6, hq22_6, hE22_6⟩ := bind_some hf
      have hx22_6 : ∀ (σe22_6 : St) (_ : σe22_6 = E22_6) (ls : Array Slot) (H : Heap) (locs : List Loc), lv_has ls 3 [(0, .ref (ad 0))] → wH WM ad D cy s σe22_6 H locs → W p l e { frames := 2, cells := 0, slots := 0, locals := 122 } s m [.ref (ad 0), .int x1].toArray below meth c H locs 0 0 (MQ below (wQi WM ad D cy res.1 res.2) [.ref (ad 0), .int x1].toArray s 0 0 (wA WM ad)) (F0 m 51 ls []) := by
        intro σe22_6 e0 ls H locs hl hw
        subst e0
        have hf := hE22_6
        refine lv_aload_n hx hb dX11_restore_51 rfl (lv_at hl 0 rfl) ?_
        refine lv_iconst (v := 0) hx hb dX11_restore_52 (by decide) ?_
        obtain ⟨σ7, eσ7, hf⟩ := wlet_some hf
        refine pX11_47 X hw sM0 nM0 fl_X11_230 dX11_restore_53 (fun H locs hw => ?_)
        replace hw := hw.to eσ7
        refine lv_iconst (v := 1) hx hb dX11_restore_56 (by decide) ?_
        have er := Option.some.inj hf
        subst er
        exact wr_iret X hw hr (Or.inr ⟨rfl, (show bz (1 : Int32) = true from rfl)⟩) dX11_restore_57
      have lo22_6 : ∀ (n : Nat) (σ22_6 : St) (x2_22_6 : Int32) (_ : lp st22_6 n (σ22_6, x2_22_6) = some E22_6) (ls : Array Slot) (H : Heap) (locs : List Loc), lv_has ls 3 [(0, .ref (ad 0)), (1, .int x1), (2, .int x2_22_6)] → wH WM ad D cy s σ22_6 H locs → W p l e { frames := 2, cells := 0, slots := 0, locals := 122 } s m [.ref (ad 0), .int x1].toArray below meth c H locs 0 0 (MQ below (wQi WM ad D cy res.1 res.2) [.ref (ad 0), .int x1].toArray s 0 0 (wA WM ad)) (F0 m 22 ls []) := by
        intro n
        induction n with
        | zero =>
          intro σ22_6 x2_22_6 hf ls H locs hl hw
          exact (lp_zero hf).elim
        | succ n ih22_6 =>
          intro σ22_6 x2_22_6 hf ls H locs hl hw
          obtain ⟨q22_6, hf, hz22_6⟩ := lp_succ hf
          rw [est22_6] at hf
          replace hf := un2_some hf
          refine lv_iload_n hx hb dX11_restore_22 rfl (lv_at hl 2 rfl) ?_
          refine lv_bipush (v := 26) hx hb dX11_restore_23 (by decide) ?_
          refine lv_icmp_ge (tgt := 51) hx hb dX11_restore_25 (by decide) (fun c8 => ?_) (fun c8 => ?_)
          · have hf := (if_pos c8).symm.trans hf
            exact hx22_6 σ22_6 (lpK_inr (lp_leaf hf hz22_6)) ls H locs (lv_sub hl [0] rfl) hw
          · have hf := (if_neg c8).symm.trans hf
            refine lv_aload_n hx hb dX11_restore_28 rfl (lv_at hl 0 rfl) ?_
            refine gX11_43 (b := 26) X hw sM0 nM0 rfl fl_X11_95 dX11_restore_29 ?_
            refine lv_iload_n hx hb dX11_restore_32 rfl (lv_at hl 2 rfl) ?_
            refine lv_aload_n hx hb dX11_restore_33 rfl (lv_at hl 0 rfl) ?_
            refine gX11_58 (b := 37) X hw sM0 nM0 rfl fl_X11_128 dX11_restore_34 ?_
            refine lv_bipush (v := 26) hx hb dX11_restore_37 (by decide) ?_
            refine lv_iload_n hx hb dX11_restore_39 rfl (lv_at hl 1 rfl) ?_
            refine lv_imul hx hb dX11_restore_40 ?_
            refine lv_iload_n hx hb dX11_restore_41 rfl (lv_at hl 2 rfl) ?_
            refine lv_iadd hx hb dX11_restore_42 ?_
            obtain ⟨h9, hf⟩ := if_some hf
            refine wr_iald X hw sM37 nM37 h9 dX11_restore_43 ?_
            obtain ⟨h10, hf⟩ := if_some hf
            obtain ⟨σ11, eσ11, hf⟩ := wlet_some hf
            refine wr_iast X hw sM26 nM26 h10 dX11_restore_44 (fun H locs hw => ?_)
            replace hw := hw.to eσ11
            obtain ⟨v12, ev12, hf⟩ := wlet_some hf
            refine lv_iinc (v := v12) (lv' := [(2, .int v12), (0, .ref (ad 0)), (1, .int x1)]) hx hb dX11_restore_45 hl (k := 2) rfl (by rw [ev12]; rfl) (by decide) rfl (fun ls hl => ?_)
            refine lv_goto (tgt := 22) hx hb dX11_restore_48 (by decide) ?_
            exact ih22_6 σ11 v12 (lp_leaf hf hz22_6) ls H locs (lv_sub hl [1, 2, 0] rfl) hw
      exact lo22_6 fuel σ (0 : Int32) hq22_6 ls H locs (lv_sub hl [1, 2, 0] rfl) hw
    · have hf := (if_pos c5).symm.trans hf
      refine lv_iconst (v := 0) hx hb dX11_restore_18 (by decide) ?_
      have er := Option.some.inj hf
      subst er
      exact wr_iret X hw hr (Or.inr ⟨rfl, (show bz (0 : Int32) = true from rfl)⟩) dX11_restore_19

def f_X11_rests (σ : St)  : Option (Int32 × St) := Option.bind (f_X11_copies σ) fun σ2 => Option.bind (f_X11_firstOrder σ2) fun σ4 => wlet (un3 (fun (σ12_5 : St) (x1_12_5 : Int32) (x2_12_5 : Int32) => if x2_12_5 = 0 then (some (.inr (σ12_5, x1_12_5))) else (bnd2 (f_X11_isRest σ12_5) fun v8 σ9 => wlet (fun (x1_26_10 : Int32) => (bnd2 (f_X11_nextOrder σ9) fun v12 σ13 => some (.inl (σ13, x1_26_10, v12)) : Option ((St × Int32 × Int32) ⊕ (St × Int32)))) fun k26_10 => if v8 = 0 then (k26_10 x1_12_5) else (wlet (x1_12_5 + (1 : Int32)) fun v15 => k26_10 v15))) : St × Int32 × Int32 → Option ((St × Int32 × Int32) ⊕ (St × Int32))) fun st12_5 => Option.bind (lp st12_5 fuel (σ4, (0 : Int32), (1 : Int32))) ((un2 (fun (σe12_5 : St) (x1_e12_5 : Int32) => some (x1_e12_5, σe12_5))))
theorem hd_X11_rests : yX11_rests.cls = RX11 ∧ yX11_rests.cls ≠ "java/lang/invoke/MethodHandle" ∧ yX11_rests.cls ≠ "java/lang/invoke/VarHandle" ∧ (parseMethodDescriptor yX11_rests.desc).map (fun d => d.parameters.length) = some 0 := by decide +kernel
set_option maxRecDepth 100000 in
set_option maxHeartbeats 4000000 in
theorem k_X11_rests {l : Launch} {ad : Nat → Nat} {D : va_G} {cy : Nat → ClassId} {z : wStr} (hI : wI WM ad) {σ : St}   {res : Int32 × St} (hf : f_X11_rests σ  = some res) : wC WM ad D cy z l yX11_rests (Cond.code yX11_rests cX11_rests 3 (Option.some Jvm.ClassFile.FieldType.int) :: aw) (7) (248) [.ref (ad 0)] σ (wQi WM ad D cy res.1 res.2) := by
  unfold f_X11_rests at hf
  refine wr_start (own := RX11) hI (by decide +kernel) rfl (Nat.le_of_ble_eq_true rfl) rfl ?_
  intro p e s m below meth c ls X hw hr hl
  have hx := X.hx
  have hb := X.hb
  obtain ⟨H, eH⟩ : ∃ H : Heap, H = s.heap := ⟨_, rfl⟩
  obtain ⟨locs, el⟩ : ∃ locs : List Loc, locs = [] := ⟨_, rfl⟩
  rw [← eH, ← el] at hw ⊢
  clear eH el
  replace hl : lv_has ls 3 [(0, .ref (ad 0))] := hl
  refine lv_aload_n hx hb dX11_rests_0 rfl (lv_at hl 0 rfl) ?_
  obtain ⟨σ2, hq1, hf⟩ := bind_some hf
  refine wr_cVv (σ' := σ2) (av := []) (rest := []) X hw hl.1 sM0 nM0 rfl (k_X11_copies hI hq1) rfl ml_X11_345 im_X11_copies se_X11_copies ini_X11 co_X11_copies hd_X11_copies ⟨Nat.le_of_ble_eq_true rfl, Nat.le_of_ble_eq_true rfl⟩ (Nat.le_of_ble_eq_true rfl) dX11_rests_1 rfl (fun H locs hw => ?_)
  refine lv_aload_n hx hb dX11_rests_4 rfl (lv_at hl 0 rfl) ?_
  obtain ⟨σ4, hq3, hf⟩ := bind_some hf
  refine wr_cVv (σ' := σ4) (av := []) (rest := []) X hw hl.1 sM0 nM0 rfl (k_X11_firstOrder hI hq3) rfl ml_X11_384 im_X11_firstOrder se_X11_firstOrder ini_X11 co_X11_firstOrder hd_X11_firstOrder ⟨Nat.le_of_ble_eq_true rfl, Nat.le_of_ble_eq_true rfl⟩ (Nat.le_of_ble_eq_true rfl) dX11_rests_5 rfl (fun H locs hw => ?_)
  refine lv_iconst (v := 0) hx hb dX11_rests_8 (by decide) ?_
  refine lv_istore_n (lv' := [(1, .int (0 : Int32)), (0, .ref (ad 0))]) hx hb dX11_rests_9 rfl hl (by decide) rfl (fun ls hl => ?_)
  refine lv_iconst (v := 1) hx hb dX11_rests_10 (by decide) ?_
  refine lv_istore_n (lv' := [(2, .int (1 : Int32)), (1, .int (0 : Int32)), (0, .ref (ad 0))]) hx hb dX11_rests_11 rfl hl (by decide) rfl (fun ls hl => ?_)
  obtain ⟨st12_5, est12_5, hf⟩ := wlet_some hf
  obtain ⟨E12_5, hq12_5, hE12_5⟩ := bind_some hf
  have hx12_5 : ∀ (σe12_5 : St) (x1_e12_5 : Int32) (_ : (σe12_5, x1_e12_5) = E12_5) (ls : Array Slot) (H : Heap) (locs : List Loc), lv_has ls 3 [(1, .int x1_e12_5)] → wH WM ad D cy s σe12_5 H locs → W p l e { frames := 7, cells := 0, slots := 0, locals := 248 } s m [.ref (ad 0)].toArray below meth c H locs 0 0 (MQ below (wQi WM ad D cy res.1 res.2) [.ref (ad 0)].toArray s 0 0 (wA WM ad)) (F0 m 34 ls []) := by
    intro σe12_5 x1_e12_5 e0 ls H locs hl hw
    subst e0
    have hf := hE12_5
    replace hf := un2_some hf
    refine lv_iload_n hx hb dX11_rests_34 rfl (lv_at hl 0 rfl) ?_
    have er := Option.some.inj hf
    subst er
    exact wr_iret X hw hr (Or.inl rfl) dX11_rests_35
  have lo12_5 : ∀ (n : Nat) (σ12_5 : St) (x1_12_5 : Int32) (x2_12_5 : Int32) (_ : lp st12_5 n (σ12_5, x1_12_5, x2_12_5) = some E12_5) (ls : Array Slot) (H : Heap) (locs : List Loc), lv_has ls 3 [(0, .ref (ad 0)), (1, .int x1_12_5), (2, .int x2_12_5)] → wH WM ad D cy s σ12_5 H locs → W p l e { frames := 7, cells := 0, slots := 0, locals := 248 } s m [.ref (ad 0)].toArray below meth c H locs 0 0 (MQ below (wQi WM ad D cy res.1 res.2) [.ref (ad 0)].toArray s 0 0 (wA WM ad)) (F0 m 12 ls []) := by
    intro n
    induction n with
    | zero =>
      intro σ12_5 x1_12_5 x2_12_5 hf ls H locs hl hw
      exact (lp_zero hf).elim
    | succ n ih12_5 =>
      intro σ12_5 x1_12_5 x2_12_5 hf ls H locs hl hw
      obtain ⟨q12_5, hf, hz12_5⟩ := lp_succ hf
      rw [est12_5] at hf
      replace hf := un3_some hf
      refine lv_iload_n hx hb dX11_rests_12 rfl (lv_at hl 2 rfl) ?_
      refine lv_if_eq (tgt := 34) hx hb dX11_rests_13 (by decide) (fun c6 => ?_) (fun c6 => ?_)
      · have hf := (if_pos c6).symm.trans hf
        exact hx12_5 σ12_5 x1_12_5 (lpK_inr (lp_leaf hf hz12_5)) ls H locs (lv_sub hl [1] rfl) hw
      · have hf := (if_neg c6).symm.trans hf
        refine lv_aload_n hx hb dX11_rests_16 rfl (lv_at hl 0 rfl) ?_
        obtain ⟨v8, σ9, hq7, hf⟩ := bnd2_some hf
        refine wr_cVi (r := v8) (σ' := σ9) (av := []) (rest := []) X hw hl.1 sM0 nM0 rfl (k_X11_isRest hI hq7) rfl ml_X11_406 im_X11_isRest se_X11_isRest ini_X11 co_X11_isRest hd_X11_isRest ⟨Nat.le_of_ble_eq_true rfl, Nat.le_of_ble_eq_true rfl⟩ (Nat.le_of_ble_eq_true rfl) dX11_rests_17 rfl (fun H locs hw => ?_)
        obtain ⟨k26_10, ek26_10, hf0⟩ := wlet_some hf
        have j26_10 : ∀ (x1_26_10 : Int32) (_ : k26_10 x1_26_10 = some q12_5) (ls : Array Slot) (H : Heap) (locs : List Loc), lv_has ls 3 [(0, .ref (ad 0)), (1, .int x1_26_10)] → wH WM ad D cy s σ9 H locs → W p l e { frames := 7, cells := 0, slots := 0, locals := 248 } s m [.ref (ad 0)].toArray below meth c H locs 0 0 (MQ below (wQi WM ad D cy res.1 res.2) [.ref (ad 0)].toArray s 0 0 (wA WM ad)) (F0 m 26 ls []) := by
          intro x1_26_10 hf ls H locs hl hw
          rw [ek26_10] at hf
          refine lv_aload_n hx hb dX11_rests_26 rfl (lv_at hl 0 rfl) ?_
          obtain ⟨v12, σ13, hq11, hf⟩ := bnd2_some hf
          refine wr_cVi (r := v12) (σ' := σ13) (av := []) (rest := []) X hw hl.1 sM0 nM0 rfl (k_X11_nextOrder hI hq11) rfl ml_X11_393 im_X11_nextOrder se_X11_nextOrder ini_X11 co_X11_nextOrder hd_X11_nextOrder ⟨Nat.le_of_ble_eq_true rfl, Nat.le_of_ble_eq_true rfl⟩ (Nat.le_of_ble_eq_true rfl) dX11_rests_27 rfl (fun H locs hw => ?_)
          refine lv_istore_n (lv' := [(2, .int v12), (0, .ref (ad 0)), (1, .int x1_26_10)]) hx hb dX11_rests_30 rfl hl (by decide) rfl (fun ls hl => ?_)
          refine lv_goto (tgt := 12) hx hb dX11_rests_31 (by decide) ?_
          exact ih12_5 σ13 x1_26_10 v12 (lp_leaf hf hz12_5) ls H locs (lv_sub hl [1, 2, 0] rfl) hw
        replace hf := hf0
        refine lv_if_eq (tgt := 26) hx hb dX11_rests_20 (by decide) (fun c14 => ?_) (fun c14 => ?_)
        · have hf := (if_pos c14).symm.trans hf
          exact j26_10 x1_12_5 hf ls H locs (lv_sub hl [0, 1] rfl) hw
        · have hf := (if_neg c14).symm.trans hf
          obtain ⟨v15, ev15, hf⟩ := wlet_some hf
          refine lv_iinc (v := v15) (lv' := [(1, .int v15), (0, .ref (ad 0)), (2, .int x2_12_5)]) hx hb dX11_rests_23 hl (k := 1) rfl (by rw [ev15]; rfl) (by decide) rfl (fun ls hl => ?_)
          exact j26_10 v15 hf ls H locs (lv_sub hl [1, 0] rfl) hw
  exact lo12_5 fuel σ4 (0 : Int32) (1 : Int32) hq12_5 ls H locs (lv_sub hl [2, 1, 0] rfl) hw

def f_X11_sessions (σ : St) (x1 : Int32) : Option (Int32 × St) := Option.bind (f_X11_isLong x1) fun v2 => if v2 = 0 then (some ((-1 : Int32), σ)) else (if x1 = 0 then (if ib (8 : Int32) 26 = true then some ((σ.1 26 (Int32.toNatClampNeg (8 : Int32))), σ) else none) else (Option.bind (f_X11_copies σ) fun σ6 => Option.bind (f_X11_goes σ6 x1) fun σ8 => bnd2 (f_X11_records σ8) fun v10 σ11 => if ib (8 : Int32) 26 = true then some ((σ11.1 26 (Int32.toNatClampNeg (8 : Int32))), σ11) else none))
theorem hd_X11_sessions : yX11_sessions.cls = RX11 ∧ yX11_sessions.cls ≠ "java/lang/invoke/MethodHandle" ∧ yX11_sessions.cls ≠ "java/lang/invoke/VarHandle" ∧ (parseMethodDescriptor yX11_sessions.desc).map (fun d => d.parameters.length) = some 1 := by decide +kernel
set_option maxRecDepth 100000 in
set_option maxHeartbeats 4000000 in
theorem k_X11_sessions {l : Launch} {ad : Nat → Nat} {D : va_G} {cy : Nat → ClassId} {z : wStr} (hI : wI WM ad) {σ : St} {x1 : Int32}  {res : Int32 × St} (hf : f_X11_sessions σ x1 = some res) : wC WM ad D cy z l yX11_sessions (Cond.code yX11_sessions cX11_sessions 2 (Option.some Jvm.ClassFile.FieldType.int) :: aw) (7) (249) [.ref (ad 0), .int x1] σ (wQi WM ad D cy res.1 res.2) := by
  unfold f_X11_sessions at hf
  refine wr_start (own := RX11) hI (by decide +kernel) rfl (Nat.le_of_ble_eq_true rfl) rfl ?_
  intro p e s m below meth c ls X hw hr hl
  have hx := X.hx
  have hb := X.hb
  obtain ⟨H, eH⟩ : ∃ H : Heap, H = s.heap := ⟨_, rfl⟩
  obtain ⟨locs, el⟩ : ∃ locs : List Loc, locs = [] := ⟨_, rfl⟩
  rw [← eH, ← el] at hw ⊢
  clear eH el
  replace hl : lv_has ls 2 [(0, .ref (ad 0)), (1, .int x1)] := hl
  refine lv_iload_n hx hb dX11_sessions_0 rfl (lv_at hl 1 rfl) ?_
  obtain ⟨v2, hq1, hf⟩ := bind_some hf
  refine wr_cSi (r := v2) (σ' := σ) (av := [.int x1]) (rest := []) X hw hl.1 (k_X11_isLong hI hq1) rfl ml_X11_368 st_X11_isLong ini_X11 co_X11_isLong hd_X11_isLong ⟨Nat.le_of_ble_eq_true rfl, Nat.le_of_ble_eq_true rfl⟩ (Nat.le_of_ble_eq_true rfl) dX11_sessions_1 rfl (fun H locs hw => ?_)
  refine lv_if_ne (tgt := 9) hx hb dX11_sessions_4 (by decide) (fun c3 => ?_) (fun c3 => ?_)
  · have hf := (if_neg c3).symm.trans hf
    refine lv_iload_n hx hb dX11_sessions_9 rfl (lv_at hl 1 rfl) ?_
    refine lv_if_ne (tgt := 21) hx hb dX11_sessions_10 (by decide) (fun c4 => ?_) (fun c4 => ?_)
    · have hf := (if_neg c4).symm.trans hf
      refine lv_aload_n hx hb dX11_sessions_21 rfl (lv_at hl 0 rfl) ?_
      obtain ⟨σ6, hq5, hf⟩ := bind_some hf
      refine wr_cVv (σ' := σ6) (av := []) (rest := []) X hw hl.1 sM0 nM0 rfl (k_X11_copies hI hq5) rfl ml_X11_345 im_X11_copies se_X11_copies ini_X11 co_X11_copies hd_X11_copies ⟨Nat.le_of_ble_eq_true rfl, Nat.le_of_ble_eq_true rfl⟩ (Nat.le_of_ble_eq_true rfl) dX11_sessions_22 rfl (fun H locs hw => ?_)
      refine lv_aload_n hx hb dX11_sessions_25 rfl (lv_at hl 0 rfl) ?_
      refine lv_iload_n hx hb dX11_sessions_26 rfl (lv_at hl 1 rfl) ?_
      obtain ⟨σ8, hq7, hf⟩ := bind_some hf
      refine wr_cVv (σ' := σ8) (av := [.int x1]) (rest := []) X hw hl.1 sM0 nM0 rfl (k_X11_goes hI hq7) rfl ml_X11_371 im_X11_goes se_X11_goes ini_X11 co_X11_goes hd_X11_goes ⟨Nat.le_of_ble_eq_true rfl, Nat.le_of_ble_eq_true rfl⟩ (Nat.le_of_ble_eq_true rfl) dX11_sessions_27 rfl (fun H locs hw => ?_)
      refine lv_aload_n hx hb dX11_sessions_30 rfl (lv_at hl 0 rfl) ?_
      obtain ⟨v10, σ11, hq9, hf⟩ := bnd2_some hf
      refine wr_cVi (r := v10) (σ' := σ11) (av := []) (rest := []) X hw hl.1 sM0 nM0 rfl (k_X11_records hI hq9) rfl ml_X11_361 im_X11_records se_X11_records ini_X11 co_X11_records hd_X11_records ⟨Nat.le_of_ble_eq_true rfl, Nat.le_of_ble_eq_true rfl⟩ (Nat.le_of_ble_eq_true rfl) dX11_sessions_31 rfl (fun H locs hw => ?_)
      refine lv_pop hx hb dX11_sessions_34 rfl ?_
      refine lv_aload_n hx hb dX11_sessions_35 rfl (lv_at hl 0 rfl) ?_
      refine gX11_43 (b := 26) X hw sM0 nM0 rfl fl_X11_95 dX11_sessions_36 ?_
      refine lv_bipush (v := 8) hx hb dX11_sessions_39 (by decide) ?_
      obtain ⟨h12, hf⟩ := if_some hf
      refine wr_iald X hw sM26 nM26 h12 dX11_sessions_41 ?_
      have er := Option.some.inj hf
      subst er
      exact wr_iret X hw hr (Or.inl rfl) dX11_sessions_42
    · have hf := (if_pos c4).symm.trans hf
      refine lv_aload_n hx hb dX11_sessions_13 rfl (lv_at hl 0 rfl) ?_
      refine gX11_43 (b := 26) X hw sM0 nM0 rfl fl_X11_95 dX11_sessions_14 ?_
      refine lv_bipush (v := 8) hx hb dX11_sessions_17 (by decide) ?_
      obtain ⟨h13, hf⟩ := if_some hf
      refine wr_iald X hw sM26 nM26 h13 dX11_sessions_19 ?_
      have er := Option.some.inj hf
      subst er
      exact wr_iret X hw hr (Or.inl rfl) dX11_sessions_20
  · have hf := (if_pos c3).symm.trans hf
    refine lv_iconst (v := -1) hx hb dX11_sessions_7 (by decide) ?_
    have er := Option.some.inj hf
    subst er
    exact wr_iret X hw hr (Or.inl rfl) dX11_sessions_8

def f_X11_tradersOf (σ : St) (x1 : Int32) : Option (Int32 × St) := Option.bind (f_X11_placeOf σ x1) fun v2 => wlet (un3 (fun (σ11_3 : St) (x2_11_3 : Int32) (x4_11_3 : Int32) => if ib (7 : Int32) 26 = true then if (σ11_3.1 27 (Int32.toNatClampNeg (7 : Int32))) ≤ x4_11_3 then (some (.inr (σ11_3, x2_11_3))) else (if x4_11_3 = v2 then (wlet (x4_11_3 + (1 : Int32)) fun v7 => some (.inl (σ11_3, x2_11_3, v7))) else (bnd2 (f_X11_doTrade σ11_3 v2 x4_11_3) fun v9 σ10 => if v9 = 0 then (wlet (x4_11_3 + (1 : Int32)) fun v12 => some (.inl (σ10, x2_11_3, v12))) else (if ib x4_11_3 26 = true then wlet (x2_11_3 ||| ((1 : Int32) <<< ((σ10.1 27 (Int32.toNatClampNeg x4_11_3)) &&& 31))) fun v14 => wlet (x4_11_3 + (1 : Int32)) fun v15 => some (.inl (σ10, v14, v15)) else none))) else none) : St × Int32 × Int32 → Option ((St × Int32 × Int32) ⊕ (St × Int32))) fun st11_3 => Option.bind (lp st11_3 fuel (σ, (0 : Int32), (0 : Int32))) ((un2 (fun (σe11_3 : St) (x2_e11_3 : Int32) => some (x2_e11_3, σe11_3))))
theorem hd_X11_tradersOf : yX11_tradersOf.cls = RX11 ∧ yX11_tradersOf.cls ≠ "java/lang/invoke/MethodHandle" ∧ yX11_tradersOf.cls ≠ "java/lang/invoke/VarHandle" ∧ (parseMethodDescriptor yX11_tradersOf.desc).map (fun d => d.parameters.length) = some 1 := by decide +kernel
set_option maxRecDepth 100000 in
set_option maxHeartbeats 4000000 in
theorem k_X11_tradersOf {l : Launch} {ad : Nat → Nat} {D : va_G} {cy : Nat → ClassId} {z : wStr} (hI : wI WM ad) {σ : St} {x1 : Int32}  {res : Int32 × St} (hf : f_X11_tradersOf σ x1 = some res) : wC WM ad D cy z l yX11_tradersOf (Cond.code yX11_tradersOf cX11_tradersOf 5 (Option.some Jvm.ClassFile.FieldType.int) :: aw) (6) (226) [.ref (ad 0), .int x1] σ (wQi WM ad D cy res.1 res.2) := by
  unfold f_X11_tradersOf at hf
  refine wr_start (own := RX11) hI (by decide +kernel) rfl (Nat.le_of_ble_eq_true rfl) rfl ?_
  intro p e s m below meth c ls X hw hr hl
  have hx := X.hx
  have hb := X.hb
  obtain ⟨H, eH⟩ : ∃ H : Heap, H = s.heap := ⟨_, rfl⟩
  obtain ⟨locs, el⟩ : ∃ locs : List Loc, locs = [] := ⟨_, rfl⟩
  rw [← eH, ← el] at hw ⊢
  clear eH el
  replace hl : lv_has ls 5 [(0, .ref (ad 0)), (1, .int x1)] := hl
  refine lv_iconst (v := 0) hx hb dX11_tradersOf_0 (by decide) ?_
  refine lv_istore_n (lv' := [(2, .int (0 : Int32)), (0, .ref (ad 0)), (1, .int x1)]) hx hb dX11_tradersOf_1 rfl hl (by decide) rfl (fun ls hl => ?_)
  refine lv_aload_n hx hb dX11_tradersOf_2 rfl (lv_at hl 1 rfl) ?_
  refine lv_iload_n hx hb dX11_tradersOf_3 rfl (lv_at hl 2 rfl) ?_
  obtain ⟨v2, hq1, hf⟩ := bind_some hf
  refine wr_cVi (r := v2) (σ' := σ) (av := [.int x1]) (rest := []) X hw hl.1 sM0 nM0 rfl (k_X11_placeOf hI hq1) rfl ml_X11_293 im_X11_placeOf se_X11_placeOf ini_X11 co_X11_placeOf hd_X11_placeOf ⟨Nat.le_of_ble_eq_true rfl, Nat.le_of_ble_eq_true rfl⟩ (Nat.le_of_ble_eq_true rfl) dX11_tradersOf_4 rfl (fun H locs hw => ?_)
  refine lv_istore_n (lv' := [(3, .int v2), (2, .int (0 : Int32)), (0, .ref (ad 0)), (1, .int x1)]) hx hb dX11_tradersOf_7 rfl hl (by decide) rfl (fun ls hl => ?_)
  refine lv_iconst (v := 0) hx hb dX11_tradersOf_8 (by decide) ?_
  refine lv_istore (lv' := [(4, .int (0 : Int32)), (3, .int v2), (2, .int (0 : Int32)), (0, .ref (ad 0)), (1, .int x1)]) hx hb dX11_tradersOf_9 hl (by decide) rfl (fun ls hl => ?_)
  obtain ⟨st11_3, est11_3, hf⟩ := wlet_some hf
  obtain ⟨E11_3, hq11_3, hE11_3⟩ := bind_some hf
  have hx11_3 : ∀ (σe11_3 : St) (x2_e11_3 : Int32) (_ : (σe11_3, x2_e11_3) = E11_3) (ls : Array Slot) (H : Heap) (locs : List Loc), lv_has ls 5 [(2, .int x2_e11_3)] → wH WM ad D cy s σe11_3 H locs → W p l e { frames := 6, cells := 0, slots := 0, locals := 226 } s m [.ref (ad 0), .int x1].toArray below meth c H locs 0 0 (MQ below (wQi WM ad D cy res.1 res.2) [.ref (ad 0), .int x1].toArray s 0 0 (wA WM ad)) (F0 m 57 ls []) := by
    intro σe11_3 x2_e11_3 e0 ls H locs hl hw
    subst e0
    have hf := hE11_3
    replace hf := un2_some hf
    refine lv_iload_n hx hb dX11_tradersOf_57 rfl (lv_at hl 0 rfl) ?_
    have er := Option.some.inj hf
    subst er
    exact wr_iret X hw hr (Or.inl rfl) dX11_tradersOf_58
  have lo11_3 : ∀ (n : Nat) (σ11_3 : St) (x2_11_3 : Int32) (x4_11_3 : Int32) (_ : lp st11_3 n (σ11_3, x2_11_3, x4_11_3) = some E11_3) (ls : Array Slot) (H : Heap) (locs : List Loc), lv_has ls 5 [(0, .ref (ad 0)), (2, .int x2_11_3), (3, .int v2), (4, .int x4_11_3)] → wH WM ad D cy s σ11_3 H locs → W p l e { frames := 6, cells := 0, slots := 0, locals := 226 } s m [.ref (ad 0), .int x1].toArray below meth c H locs 0 0 (MQ below (wQi WM ad D cy res.1 res.2) [.ref (ad 0), .int x1].toArray s 0 0 (wA WM ad)) (F0 m 11 ls []) := by
    intro n
    induction n with
    | zero =>
      intro σ11_3 x2_11_3 x4_11_3 hf ls H locs hl hw
      exact (lp_zero hf).elim
    | succ n ih11_3 =>
      intro σ11_3 x2_11_3 x4_11_3 hf ls H locs hl hw
      obtain ⟨q11_3, hf, hz11_3⟩ := lp_succ hf
      rw [est11_3] at hf
      replace hf := un3_some hf
      refine lv_iload hx hb dX11_tradersOf_11 (lv_at hl 3 rfl) ?_
      refine lv_aload_n hx hb dX11_tradersOf_13 rfl (lv_at hl 0 rfl) ?_
      refine gX11_44 (b := 27) X hw sM0 nM0 rfl fl_X11_98 dX11_tradersOf_14 ?_
      refine lv_bipush (v := 7) hx hb dX11_tradersOf_17 (by decide) ?_
      obtain ⟨h4, hf⟩ := if_some hf
      refine wr_iald X hw sM27 nM27 h4 dX11_tradersOf_19 ?_
      refine lv_icmp_ge (tgt := 57) hx hb dX11_tradersOf_20 (by decide) (fun c5 => ?_) (fun c5 => ?_)
      · have hf := (if_pos c5).symm.trans hf
        exact hx11_3 σ11_3 x2_11_3 (lpK_inr (lp_leaf hf hz11_3)) ls H locs (lv_sub hl [1] rfl) hw
      · have hf := (if_neg c5).symm.trans hf
        refine lv_iload hx hb dX11_tradersOf_23 (lv_at hl 3 rfl) ?_
        refine lv_iload_n hx hb dX11_tradersOf_25 rfl (lv_at hl 2 rfl) ?_
        refine lv_icmp_eq (tgt := 51) hx hb dX11_tradersOf_26 (by decide) (fun c6 => ?_) (fun c6 => ?_)
        · have hf := (if_pos c6).symm.trans hf
          obtain ⟨v7, ev7, hf⟩ := wlet_some hf
          refine lv_iinc (v := v7) (lv' := [(4, .int v7), (0, .ref (ad 0)), (2, .int x2_11_3), (3, .int v2)]) hx hb dX11_tradersOf_51 hl (k := 3) rfl (by rw [ev7]; rfl) (by decide) rfl (fun ls hl => ?_)
          refine lv_goto (tgt := 11) hx hb dX11_tradersOf_54 (by decide) ?_
          exact ih11_3 σ11_3 x2_11_3 v7 (lp_leaf hf hz11_3) ls H locs (lv_sub hl [1, 2, 3, 0] rfl) hw
        · have hf := (if_neg c6).symm.trans hf
          refine lv_aload_n hx hb dX11_tradersOf_29 rfl (lv_at hl 0 rfl) ?_
          refine lv_iload_n hx hb dX11_tradersOf_30 rfl (lv_at hl 2 rfl) ?_
          refine lv_iload hx hb dX11_tradersOf_31 (lv_at hl 3 rfl) ?_
          obtain ⟨v9, σ10, hq8, hf⟩ := bnd2_some hf
          refine wr_cVi (r := v9) (σ' := σ10) (av := [.int v2, .int x4_11_3]) (rest := []) X hw hl.1 sM0 nM0 rfl (k_X11_doTrade hI hq8) rfl ml_X11_399 im_X11_doTrade se_X11_doTrade ini_X11 co_X11_doTrade hd_X11_doTrade ⟨Nat.le_of_ble_eq_true rfl, Nat.le_of_ble_eq_true rfl⟩ (Nat.le_of_ble_eq_true rfl) dX11_tradersOf_33 rfl (fun H locs hw => ?_)
          refine lv_if_eq (tgt := 51) hx hb dX11_tradersOf_36 (by decide) (fun c11 => ?_) (fun c11 => ?_)
          · have hf := (if_pos c11).symm.trans hf
            obtain ⟨v12, ev12, hf⟩ := wlet_some hf
            refine lv_iinc (v := v12) (lv' := [(4, .int v12), (0, .ref (ad 0)), (2, .int x2_11_3), (3, .int v2)]) hx hb dX11_tradersOf_51 hl (k := 3) rfl (by rw [ev12]; rfl) (by decide) rfl (fun ls hl => ?_)
            refine lv_goto (tgt := 11) hx hb dX11_tradersOf_54 (by decide) ?_
            exact ih11_3 σ10 x2_11_3 v12 (lp_leaf hf hz11_3) ls H locs (lv_sub hl [1, 2, 3, 0] rfl) hw
          · have hf := (if_neg c11).symm.trans hf
            refine lv_iload_n hx hb dX11_tradersOf_39 rfl (lv_at hl 1 rfl) ?_
            refine lv_iconst (v := 1) hx hb dX11_tradersOf_40 (by decide) ?_
            refine lv_aload_n hx hb dX11_tradersOf_41 rfl (lv_at hl 0 rfl) ?_
            refine gX11_44 (b := 27) X hw sM0 nM0 rfl fl_X11_98 dX11_tradersOf_42 ?_
            refine lv_iload hx hb dX11_tradersOf_45 (lv_at hl 3 rfl) ?_
            obtain ⟨h13, hf⟩ := if_some hf
            refine wr_iald X hw sM27 nM27 h13 dX11_tradersOf_47 ?_
            refine lv_ishl hx hb dX11_tradersOf_48 ?_
            refine lv_ior hx hb dX11_tradersOf_49 ?_
            obtain ⟨v14, ev14, hf⟩ := wlet_some hf
            refine wr_top ev14 ?_
            refine lv_istore_n (lv' := [(2, .int v14), (0, .ref (ad 0)), (3, .int v2), (4, .int x4_11_3)]) hx hb dX11_tradersOf_50 rfl hl (by decide) rfl (fun ls hl => ?_)
            obtain ⟨v15, ev15, hf⟩ := wlet_some hf
            refine lv_iinc (v := v15) (lv' := [(4, .int v15), (2, .int v14), (0, .ref (ad 0)), (3, .int v2)]) hx hb dX11_tradersOf_51 hl (k := 3) rfl (by rw [ev15]; rfl) (by decide) rfl (fun ls hl => ?_)
            refine lv_goto (tgt := 11) hx hb dX11_tradersOf_54 (by decide) ?_
            exact ih11_3 σ10 v14 v15 (lp_leaf hf hz11_3) ls H locs (lv_sub hl [2, 1, 3, 0] rfl) hw
  exact lo11_3 fuel σ (0 : Int32) (0 : Int32) hq11_3 ls H locs (lv_sub hl [3, 2, 1, 0] rfl) hw

def f_X11_tradesOnce (σ : St)  : Option (Int32 × St) := wlet (un2 (fun (σ2_1 : St) (x1_2_1 : Int32) => if ib (σ2_1.1 0 18) 2 = true then if (σ2_1.1 9 (Int32.toNatClampNeg (σ2_1.1 0 18))) ≤ x1_2_1 then (some (.inr (.inl σ2_1))) else (Option.bind (f_X11_isOn σ2_1 x1_2_1) fun v5 => wlet (fun (σ_32_6 : St) (s0_32_6 : Int32) => (if s0_32_6 = 0 then (wlet (x1_2_1 + (1 : Int32)) fun v16 => some (.inl (σ_32_6, v16))) else (Option.bind (f_X11_placeOf σ_32_6 x1_2_1) fun v9 => Option.bind (f_X11_lowestOf s0_32_6) fun v11 => Option.bind (f_X11_placeOf σ_32_6 v11) fun v13 => Option.bind (f_X11_changes σ_32_6 v9 v13) fun σ15 => some (.inr (.inr ((1 : Int32), σ15)))) : Option ((St × Int32) ⊕ ((St) ⊕ (Int32 × St))))) fun k32_6 => if v5 = 0 then (k32_6 σ2_1 (0 : Int32)) else (bnd2 (f_X11_tradersOf σ2_1 x1_2_1) fun v19 σ20 => k32_6 σ20 v19)) else none) : St × Int32 → Option ((St × Int32) ⊕ ((St) ⊕ (Int32 × St)))) fun st2_1 => Option.bind (lp st2_1 fuel (σ, (0 : Int32))) (sumk (fun (σe2_1 : St) => some ((0 : Int32), σe2_1)) (fun m => some m))
theorem hd_X11_tradesOnce : yX11_tradesOnce.cls = RX11 ∧ yX11_tradesOnce.cls ≠ "java/lang/invoke/MethodHandle" ∧ yX11_tradesOnce.cls ≠ "java/lang/invoke/VarHandle" ∧ (parseMethodDescriptor yX11_tradesOnce.desc).map (fun d => d.parameters.length) = some 0 := by decide +kernel
set_option maxRecDepth 100000 in
set_option maxHeartbeats 4000000 in
theorem k_X11_tradesOnce {l : Launch} {ad : Nat → Nat} {D : va_G} {cy : Nat → ClassId} {z : wStr} (hI : wI WM ad) {σ : St}   {res : Int32 × St} (hf : f_X11_tradesOnce σ  = some res) : wC WM ad D cy z l yX11_tradesOnce (Cond.code yX11_tradesOnce cX11_tradesOnce 3 (Option.some Jvm.ClassFile.FieldType.boolean) :: aw) (7) (250) [.ref (ad 0)] σ (wQi WM ad D cy res.1 res.2) := by
  unfold f_X11_tradesOnce at hf
  refine wr_start (own := RX11) hI (by decide +kernel) rfl (Nat.le_of_ble_eq_true rfl) rfl ?_
  intro p e s m below meth c ls X hw hr hl
  have hx := X.hx
  have hb := X.hb
  obtain ⟨H, eH⟩ : ∃ H : Heap, H = s.heap := ⟨_, rfl⟩
  obtain ⟨locs, el⟩ : ∃ locs : List Loc, locs = [] := ⟨_, rfl⟩
  rw [← eH, ← el] at hw ⊢
  clear eH el
  replace hl : lv_has ls 3 [(0, .ref (ad 0))] := hl
  refine lv_iconst (v := 0) hx hb dX11_tradesOnce_0 (by decide) ?_
  refine lv_istore_n (lv' := [(1, .int (0 : Int32)), (0, .ref (ad 0))]) hx hb dX11_tradesOnce_1 rfl hl (by decide) rfl (fun ls hl => ?_)
  obtain ⟨st2_1, est2_1, hf⟩ := wlet_some hf
  obtain ⟨E2_1, hq2_1, hE2_1⟩ := bind_some hf
  have hx2_1 : ∀ (σe2_1 : St) (_ : Sum.inl σe2_1 = E2_1) (ls : Array Slot) (H : Heap) (locs : List Loc), lv_has ls 3 [] → wH WM ad D cy s σe2_1 H locs → W p l e { frames := 7, cells := 0, slots := 0, locals := 250 } s m [.ref (ad 0)].toArray below meth c H locs 0 0 (MQ below (wQi WM ad D cy res.1 res.2) [.ref (ad 0)].toArray s 0 0 (wA WM ad)) (F0 m 65 ls []) := by
    intro σe2_1 e0 ls H locs hl hw
    have hf := sumk_l hE2_1 e0
    refine lv_iconst (v := 0) hx hb dX11_tradesOnce_65 (by decide) ?_
    have er := Option.some.inj hf
    subst er
    exact wr_iret X hw hr (Or.inr ⟨rfl, (show bz (0 : Int32) = true from rfl)⟩) dX11_tradesOnce_66
  have lo2_1 : ∀ (n : Nat) (σ2_1 : St) (x1_2_1 : Int32) (_ : lp st2_1 n (σ2_1, x1_2_1) = some E2_1) (ls : Array Slot) (H : Heap) (locs : List Loc), lv_has ls 3 [(0, .ref (ad 0)), (1, .int x1_2_1)] → wH WM ad D cy s σ2_1 H locs → W p l e { frames := 7, cells := 0, slots := 0, locals := 250 } s m [.ref (ad 0)].toArray below meth c H locs 0 0 (MQ below (wQi WM ad D cy res.1 res.2) [.ref (ad 0)].toArray s 0 0 (wA WM ad)) (F0 m 2 ls []) := by
    intro n
    induction n with
    | zero =>
      intro σ2_1 x1_2_1 hf ls H locs hl hw
      exact (lp_zero hf).elim
    | succ n ih2_1 =>
      intro σ2_1 x1_2_1 hf ls H locs hl hw
      obtain ⟨q2_1, hf, hz2_1⟩ := lp_succ hf
      rw [est2_1] at hf
      replace hf := un2_some hf
      refine lv_iload_n hx hb dX11_tradesOnce_2 rfl (lv_at hl 1 rfl) ?_
      refine lv_aload_n hx hb dX11_tradesOnce_3 rfl (lv_at hl 0 rfl) ?_
      refine gX11_22 (b := 9) X hw sM0 nM0 rfl fl_X11_43 dX11_tradesOnce_4 ?_
      refine lv_aload_n hx hb dX11_tradesOnce_7 rfl (lv_at hl 0 rfl) ?_
      refine gX11_18 X hw sM0 nM0 fl_X11_212 dX11_tradesOnce_8 ?_
      obtain ⟨h2, hf⟩ := if_some hf
      refine wr_iald X hw sM9 nM9 h2 dX11_tradesOnce_11 ?_
      refine lv_icmp_ge (tgt := 65) hx hb dX11_tradesOnce_12 (by decide) (fun c3 => ?_) (fun c3 => ?_)
      · have hf := (if_pos c3).symm.trans hf
        exact hx2_1 σ2_1 (lpK_inr (lp_leaf hf hz2_1)) ls H locs (lv_sub hl [] rfl) hw
      · have hf := (if_neg c3).symm.trans hf
        refine lv_aload_n hx hb dX11_tradesOnce_15 rfl (lv_at hl 0 rfl) ?_
        refine lv_iload_n hx hb dX11_tradesOnce_16 rfl (lv_at hl 1 rfl) ?_
        obtain ⟨v5, hq4, hf⟩ := bind_some hf
        refine wr_cVi (r := v5) (σ' := σ2_1) (av := [.int x1_2_1]) (rest := []) X hw hl.1 sM0 nM0 rfl (k_X11_isOn hI hq4) rfl ml_X11_348 im_X11_isOn se_X11_isOn ini_X11 co_X11_isOn hd_X11_isOn ⟨Nat.le_of_ble_eq_true rfl, Nat.le_of_ble_eq_true rfl⟩ (Nat.le_of_ble_eq_true rfl) dX11_tradesOnce_17 rfl (fun H locs hw => ?_)
        obtain ⟨k32_6, ek32_6, hf0⟩ := wlet_some hf
        have j32_6 : ∀ (σ_32_6 : St) (s0_32_6 : Int32) (_ : k32_6 σ_32_6 s0_32_6 = some q2_1) (ls : Array Slot) (H : Heap) (locs : List Loc), lv_has ls 3 [(0, .ref (ad 0)), (1, .int x1_2_1)] → wH WM ad D cy s σ_32_6 H locs → W p l e { frames := 7, cells := 0, slots := 0, locals := 250 } s m [.ref (ad 0)].toArray below meth c H locs 0 0 (MQ below (wQi WM ad D cy res.1 res.2) [.ref (ad 0)].toArray s 0 0 (wA WM ad)) (F0 m 32 ls [.int s0_32_6]) := by
          intro σ_32_6 s0_32_6 hf ls H locs hl hw
          rw [ek32_6] at hf
          refine lv_istore_n (lv' := [(2, .int s0_32_6), (0, .ref (ad 0)), (1, .int x1_2_1)]) hx hb dX11_tradesOnce_32 rfl hl (by decide) rfl (fun ls hl => ?_)
          refine lv_iload_n hx hb dX11_tradesOnce_33 rfl (lv_at hl 0 rfl) ?_
          refine lv_if_ne (tgt := 40) hx hb dX11_tradesOnce_34 (by decide) (fun c7 => ?_) (fun c7 => ?_)
          · have hf := (if_neg c7).symm.trans hf
            refine lv_aload_n hx hb dX11_tradesOnce_40 rfl (lv_at hl 1 rfl) ?_
            refine lv_aload_n hx hb dX11_tradesOnce_41 rfl (lv_at hl 1 rfl) ?_
            refine lv_iload_n hx hb dX11_tradesOnce_42 rfl (lv_at hl 2 rfl) ?_
            obtain ⟨v9, hq8, hf⟩ := bind_some hf
            refine wr_cVi (r := v9) (σ' := σ_32_6) (av := [.int x1_2_1]) (rest := [.ref (ad 0)]) X hw hl.1 sM0 nM0 rfl (k_X11_placeOf hI hq8) rfl ml_X11_293 im_X11_placeOf se_X11_placeOf ini_X11 co_X11_placeOf hd_X11_placeOf ⟨Nat.le_of_ble_eq_true rfl, Nat.le_of_ble_eq_true rfl⟩ (Nat.le_of_ble_eq_true rfl) dX11_tradesOnce_43 rfl (fun H locs hw => ?_)
            refine lv_aload_n hx hb dX11_tradesOnce_46 rfl (lv_at hl 1 rfl) ?_
            refine lv_iload_n hx hb dX11_tradesOnce_47 rfl (lv_at hl 0 rfl) ?_
            obtain ⟨v11, hq10, hf⟩ := bind_some hf
            refine wr_cSi (r := v11) (σ' := σ_32_6) (av := [.int s0_32_6]) (rest := [.ref (ad 0), .int v9, .ref (ad 0)]) X hw hl.1 (k_X11_lowestOf hI hq10) rfl ml_X11_409 st_X11_lowestOf ini_X11 co_X11_lowestOf hd_X11_lowestOf ⟨Nat.le_of_ble_eq_true rfl, Nat.le_of_ble_eq_true rfl⟩ (Nat.le_of_ble_eq_true rfl) dX11_tradesOnce_48 rfl (fun H locs hw => ?_)
            obtain ⟨v13, hq12, hf⟩ := bind_some hf
            refine wr_cVi (r := v13) (σ' := σ_32_6) (av := [.int v11]) (rest := [.int v9, .ref (ad 0)]) X hw hl.1 sM0 nM0 rfl (k_X11_placeOf hI hq12) rfl ml_X11_293 im_X11_placeOf se_X11_placeOf ini_X11 co_X11_placeOf hd_X11_placeOf ⟨Nat.le_of_ble_eq_true rfl, Nat.le_of_ble_eq_true rfl⟩ (Nat.le_of_ble_eq_true rfl) dX11_tradesOnce_51 rfl (fun H locs hw => ?_)
            obtain ⟨σ15, hq14, hf⟩ := bind_some hf
            refine wr_cVv (σ' := σ15) (av := [.int v9, .int v13]) (rest := []) X hw hl.1 sM0 nM0 rfl (k_X11_changes hI hq14) rfl ml_X11_358 im_X11_changes se_X11_changes ini_X11 co_X11_changes hd_X11_changes ⟨Nat.le_of_ble_eq_true rfl, Nat.le_of_ble_eq_true rfl⟩ (Nat.le_of_ble_eq_true rfl) dX11_tradesOnce_54 rfl (fun H locs hw => ?_)
            refine lv_iconst (v := 1) hx hb dX11_tradesOnce_57 (by decide) ?_
            have e2_1 := lpK_inr (lp_leaf hf hz2_1)
            have hf := sumk_r hE2_1 e2_1
            have er := Option.some.inj hf
            subst er
            exact wr_iret X hw hr (Or.inr ⟨rfl, (show bz (1 : Int32) = true from rfl)⟩) dX11_tradesOnce_58
          · have hf := (if_pos c7).symm.trans hf
            refine lv_goto (tgt := 59) hx hb dX11_tradesOnce_37 (by decide) ?_
            obtain ⟨v16, ev16, hf⟩ := wlet_some hf
            refine lv_iinc (v := v16) (lv' := [(1, .int v16), (2, .int s0_32_6), (0, .ref (ad 0))]) hx hb dX11_tradesOnce_59 hl (k := 2) rfl (by rw [ev16]; rfl) (by decide) rfl (fun ls hl => ?_)
            refine lv_goto (tgt := 2) hx hb dX11_tradesOnce_62 (by decide) ?_
            exact ih2_1 σ_32_6 v16 (lp_leaf hf hz2_1) ls H locs (lv_sub hl [2, 0] rfl) hw
        replace hf := hf0
        refine lv_if_eq (tgt := 31) hx hb dX11_tradesOnce_20 (by decide) (fun c17 => ?_) (fun c17 => ?_)
        · have hf := (if_pos c17).symm.trans hf
          refine lv_iconst (v := 0) hx hb dX11_tradesOnce_31 (by decide) ?_
          exact j32_6 σ2_1 (0 : Int32) hf ls H locs (lv_sub hl [0, 1] rfl) hw
        · have hf := (if_neg c17).symm.trans hf
          refine lv_aload_n hx hb dX11_tradesOnce_23 rfl (lv_at hl 0 rfl) ?_
          refine lv_iload_n hx hb dX11_tradesOnce_24 rfl (lv_at hl 1 rfl) ?_
          obtain ⟨v19, σ20, hq18, hf⟩ := bnd2_some hf
          refine wr_cVi (r := v19) (σ' := σ20) (av := [.int x1_2_1]) (rest := []) X hw hl.1 sM0 nM0 rfl (k_X11_tradersOf hI hq18) rfl ml_X11_402 im_X11_tradersOf se_X11_tradersOf ini_X11 co_X11_tradersOf hd_X11_tradersOf ⟨Nat.le_of_ble_eq_true rfl, Nat.le_of_ble_eq_true rfl⟩ (Nat.le_of_ble_eq_true rfl) dX11_tradesOnce_25 rfl (fun H locs hw => ?_)
          refine lv_goto (tgt := 32) hx hb dX11_tradesOnce_28 (by decide) ?_
          exact j32_6 σ20 v19 hf ls H locs (lv_sub hl [0, 1] rfl) hw
  exact lo2_1 fuel σ (0 : Int32) hq2_1 ls H locs (lv_sub hl [1, 0] rfl) hw

def f_X11_settles (σ : St)  : Option (Int32 × St) := Option.bind (f_X11_copies σ) fun σ2 => wlet (un2 (fun (σ6_3 : St) (x1_6_3 : Int32) => if (50 : Int32) < x1_6_3 then (some (.inr (.inl σ6_3))) else (bnd2 (f_X11_tradesOnce σ6_3) fun v6 σ7 => if v6 = 0 then (some (.inr (.inr (x1_6_3, σ7)))) else (wlet (x1_6_3 + (1 : Int32)) fun v9 => some (.inl (σ7, v9))))) : St × Int32 → Option ((St × Int32) ⊕ ((St) ⊕ (Int32 × St)))) fun st6_3 => Option.bind (lp st6_3 fuel (σ2, (0 : Int32))) (sumk (fun (σe6_3 : St) => some ((-2 : Int32), σe6_3)) (fun m => some m))
theorem hd_X11_settles : yX11_settles.cls = RX11 ∧ yX11_settles.cls ≠ "java/lang/invoke/MethodHandle" ∧ yX11_settles.cls ≠ "java/lang/invoke/VarHandle" ∧ (parseMethodDescriptor yX11_settles.desc).map (fun d => d.parameters.length) = some 0 := by decide +kernel
set_option maxRecDepth 100000 in
set_option maxHeartbeats 4000000 in
theorem k_X11_settles {l : Launch} {ad : Nat → Nat} {D : va_G} {cy : Nat → ClassId} {z : wStr} (hI : wI WM ad) {σ : St}   {res : Int32 × St} (hf : f_X11_settles σ  = some res) : wC WM ad D cy z l yX11_settles (Cond.code yX11_settles cX11_settles 2 (Option.some Jvm.ClassFile.FieldType.int) :: aw) (8) (272) [.ref (ad 0)] σ (wQi WM ad D cy res.1 res.2) := by
  unfold f_X11_settles at hf
  refine wr_start (own := RX11) hI (by decide +kernel) rfl (Nat.le_of_ble_eq_true rfl) rfl ?_
  intro p e s m below meth c ls X hw hr hl
  have hx := X.hx
  have hb := X.hb
  obtain ⟨H, eH⟩ : ∃ H : Heap, H = s.heap := ⟨_, rfl⟩
  obtain ⟨locs, el⟩ : ∃ locs : List Loc, locs = [] := ⟨_, rfl⟩
  rw [← eH, ← el] at hw ⊢
  clear eH el
  replace hl : lv_has ls 2 [(0, .ref (ad 0))] := hl
  refine lv_aload_n hx hb dX11_settles_0 rfl (lv_at hl 0 rfl) ?_
  obtain ⟨σ2, hq1, hf⟩ := bind_some hf
  refine wr_cVv (σ' := σ2) (av := []) (rest := []) X hw hl.1 sM0 nM0 rfl (k_X11_copies hI hq1) rfl ml_X11_345 im_X11_copies se_X11_copies ini_X11 co_X11_copies hd_X11_copies ⟨Nat.le_of_ble_eq_true rfl, Nat.le_of_ble_eq_true rfl⟩ (Nat.le_of_ble_eq_true rfl) dX11_settles_1 rfl (fun H locs hw => ?_)
  refine lv_iconst (v := 0) hx hb dX11_settles_4 (by decide) ?_
  refine lv_istore_n (lv' := [(1, .int (0 : Int32)), (0, .ref (ad 0))]) hx hb dX11_settles_5 rfl hl (by decide) rfl (fun ls hl => ?_)
  obtain ⟨st6_3, est6_3, hf⟩ := wlet_some hf
  obtain ⟨E6_3, hq6_3, hE6_3⟩ := bind_some hf
  have hx6_3 : ∀ (σe6_3 : St) (_ : Sum.inl σe6_3 = E6_3) (ls : Array Slot) (H : Heap) (locs : List Loc), lv_has ls 2 [] → wH WM ad D cy s σe6_3 H locs → W p l e { frames := 8, cells := 0, slots := 0, locals := 272 } s m [.ref (ad 0)].toArray below meth c H locs 0 0 (MQ below (wQi WM ad D cy res.1 res.2) [.ref (ad 0)].toArray s 0 0 (wA WM ad)) (F0 m 27 ls []) := by
    intro σe6_3 e0 ls H locs hl hw
    have hf := sumk_l hE6_3 e0
    refine lv_bipush (v := -2) hx hb dX11_settles_27 (by decide) ?_
    have er := Option.some.inj hf
    subst er
    exact wr_iret X hw hr (Or.inl rfl) dX11_settles_29
  have lo6_3 : ∀ (n : Nat) (σ6_3 : St) (x1_6_3 : Int32) (_ : lp st6_3 n (σ6_3, x1_6_3) = some E6_3) (ls : Array Slot) (H : Heap) (locs : List Loc), lv_has ls 2 [(0, .ref (ad 0)), (1, .int x1_6_3)] → wH WM ad D cy s σ6_3 H locs → W p l e { frames := 8, cells := 0, slots := 0, locals := 272 } s m [.ref (ad 0)].toArray below meth c H locs 0 0 (MQ below (wQi WM ad D cy res.1 res.2) [.ref (ad 0)].toArray s 0 0 (wA WM ad)) (F0 m 6 ls []) := by
    intro n
    induction n with
    | zero =>
      intro σ6_3 x1_6_3 hf ls H locs hl hw
      exact (lp_zero hf).elim
    | succ n ih6_3 =>
      intro σ6_3 x1_6_3 hf ls H locs hl hw
      obtain ⟨q6_3, hf, hz6_3⟩ := lp_succ hf
      rw [est6_3] at hf
      replace hf := un2_some hf
      refine lv_iload_n hx hb dX11_settles_6 rfl (lv_at hl 1 rfl) ?_
      refine lv_bipush (v := 50) hx hb dX11_settles_7 (by decide) ?_
      refine lv_icmp_gt (tgt := 27) hx hb dX11_settles_9 (by decide) (fun c4 => ?_) (fun c4 => ?_)
      · have hf := (if_pos c4).symm.trans hf
        exact hx6_3 σ6_3 (lpK_inr (lp_leaf hf hz6_3)) ls H locs (lv_sub hl [] rfl) hw
      · have hf := (if_neg c4).symm.trans hf
        refine lv_aload_n hx hb dX11_settles_12 rfl (lv_at hl 0 rfl) ?_
        obtain ⟨v6, σ7, hq5, hf⟩ := bnd2_some hf
        refine wr_cVi (r := v6) (σ' := σ7) (av := []) (rest := []) X hw hl.1 sM0 nM0 rfl (k_X11_tradesOnce hI hq5) rfl ml_X11_412 im_X11_tradesOnce se_X11_tradesOnce ini_X11 co_X11_tradesOnce hd_X11_tradesOnce ⟨Nat.le_of_ble_eq_true rfl, Nat.le_of_ble_eq_true rfl⟩ (Nat.le_of_ble_eq_true rfl) dX11_settles_13 rfl (fun H locs hw => ?_)
        refine lv_if_ne (tgt := 21) hx hb dX11_settles_16 (by decide) (fun c8 => ?_) (fun c8 => ?_)
        · have hf := (if_neg c8).symm.trans hf
          obtain ⟨v9, ev9, hf⟩ := wlet_some hf
          refine lv_iinc (v := v9) (lv' := [(1, .int v9), (0, .ref (ad 0))]) hx hb dX11_settles_21 hl (k := 1) rfl (by rw [ev9]; rfl) (by decide) rfl (fun ls hl => ?_)
          refine lv_goto (tgt := 6) hx hb dX11_settles_24 (by decide) ?_
          exact ih6_3 σ7 v9 (lp_leaf hf hz6_3) ls H locs (lv_sub hl [1, 0] rfl) hw
        · have hf := (if_pos c8).symm.trans hf
          refine lv_iload_n hx hb dX11_settles_19 rfl (lv_at hl 1 rfl) ?_
          have e6_3 := lpK_inr (lp_leaf hf hz6_3)
          have hf := sumk_r hE6_3 e6_3
          have er := Option.some.inj hf
          subst er
          exact wr_iret X hw hr (Or.inl rfl) dX11_settles_20
  exact lo6_3 fuel σ2 (0 : Int32) hq6_3 ls H locs (lv_sub hl [1, 0] rfl) hw

def f_X11_shunned (σ : St) (x1 : Int32) : Option (Int32 × St) := Option.bind (f_X11_in x1 (0 : Int32) (1 : Int32)) fun v2 => if v2 = 0 then (some ((-1 : Int32), σ)) else (Option.bind (f_X11_copies σ) fun σ5 => wlet (un4 (fun (σ24_6 : St) (x2_24_6 : Int32) (x3_24_6 : Int32) (x4_24_6 : Int32) => if ib (σ24_6.1 0 18) 2 = true then if (σ24_6.1 9 (Int32.toNatClampNeg (σ24_6.1 0 18))) ≤ x4_24_6 then (some (.inr (σ24_6, x2_24_6, x3_24_6))) else (Option.bind (f_X11_isOn σ24_6 x4_24_6) fun v11 => if v11 = 0 then (wlet (x4_24_6 + (1 : Int32)) fun v13 => some (.inl (σ24_6, x2_24_6, x3_24_6, v13))) else (wlet (fun (σ_64_14 : St) => (bnd2 (f_X11_dreadOf σ_64_14 x4_24_6) fun v16 σ17 => wlet (x4_24_6 + (1 : Int32)) fun v18 => some (.inl (σ17, x4_24_6, v16, v18)) : Option ((St × Int32 × Int32 × Int32) ⊕ (St × Int32 × Int32)))) fun k64_14 => if x2_24_6 < 0 then (k64_14 σ24_6) else (bnd2 (f_X11_dreadOf σ24_6 x4_24_6) fun v21 σ22 => if x3_24_6 < v21 then (k64_14 σ22) else (wlet (x4_24_6 + (1 : Int32)) fun v24 => some (.inl (σ22, x2_24_6, x3_24_6, v24)))))) else none) : St × Int32 × Int32 × Int32 → Option ((St × Int32 × Int32 × Int32) ⊕ (St × Int32 × Int32))) fun st24_6 => Option.bind (lp st24_6 fuel (σ5, (-2 : Int32), (-2 : Int32), (0 : Int32))) ((un3 (fun (σe24_6 : St) (x2_e24_6 : Int32) (x3_e24_6 : Int32) => if x1 = 0 then (some (x2_e24_6, σe24_6)) else (some (x3_e24_6, σe24_6))))))
theorem hd_X11_shunned : yX11_shunned.cls = RX11 ∧ yX11_shunned.cls ≠ "java/lang/invoke/MethodHandle" ∧ yX11_shunned.cls ≠ "java/lang/invoke/VarHandle" ∧ (parseMethodDescriptor yX11_shunned.desc).map (fun d => d.parameters.length) = some 1 := by decide +kernel
set_option maxRecDepth 100000 in
set_option maxHeartbeats 4000000 in
theorem k_X11_shunned {l : Launch} {ad : Nat → Nat} {D : va_G} {cy : Nat → ClassId} {z : wStr} (hI : wI WM ad) {σ : St} {x1 : Int32}  {res : Int32 × St} (hf : f_X11_shunned σ x1 = some res) : wC WM ad D cy z l yX11_shunned (Cond.code yX11_shunned cX11_shunned 5 (Option.some Jvm.ClassFile.FieldType.int) :: aw) (5) (199) [.ref (ad 0), .int x1] σ (wQi WM ad D cy res.1 res.2) := by
  unfold f_X11_shunned at hf
  refine wr_start (own := RX11) hI (by decide +kernel) rfl (Nat.le_of_ble_eq_true rfl) rfl ?_
  intro p e s m below meth c ls X hw hr hl
  have hx := X.hx
  have hb := X.hb
  obtain ⟨H, eH⟩ : ∃ H : Heap, H = s.heap := ⟨_, rfl⟩
  obtain ⟨locs, el⟩ : ∃ locs : List Loc, locs = [] := ⟨_, rfl⟩
  rw [← eH, ← el] at hw ⊢
  clear eH el
  replace hl : lv_has ls 5 [(0, .ref (ad 0)), (1, .int x1)] := hl
  refine lv_iload_n hx hb dX11_shunned_0 rfl (lv_at hl 1 rfl) ?_
  refine lv_iconst (v := 0) hx hb dX11_shunned_1 (by decide) ?_
  refine lv_iconst (v := 1) hx hb dX11_shunned_2 (by decide) ?_
  obtain ⟨v2, hq1, hf⟩ := bind_some hf
  refine wr_cSi (r := v2) (σ' := σ) (av := [.int x1, .int (0 : Int32), .int (1 : Int32)]) (rest := []) X hw hl.1 (k_X11_in hI hq1) rfl ml_X11_282 st_X11_in ini_X11 co_X11_in hd_X11_in ⟨Nat.le_of_ble_eq_true rfl, Nat.le_of_ble_eq_true rfl⟩ (Nat.le_of_ble_eq_true rfl) dX11_shunned_3 rfl (fun H locs hw => ?_)
  refine lv_if_ne (tgt := 11) hx hb dX11_shunned_6 (by decide) (fun c3 => ?_) (fun c3 => ?_)
  · have hf := (if_neg c3).symm.trans hf
    refine lv_aload_n hx hb dX11_shunned_11 rfl (lv_at hl 0 rfl) ?_
    obtain ⟨σ5, hq4, hf⟩ := bind_some hf
    refine wr_cVv (σ' := σ5) (av := []) (rest := []) X hw hl.1 sM0 nM0 rfl (k_X11_copies hI hq4) rfl ml_X11_345 im_X11_copies se_X11_copies ini_X11 co_X11_copies hd_X11_copies ⟨Nat.le_of_ble_eq_true rfl, Nat.le_of_ble_eq_true rfl⟩ (Nat.le_of_ble_eq_true rfl) dX11_shunned_12 rfl (fun H locs hw => ?_)
    refine lv_bipush (v := -2) hx hb dX11_shunned_15 (by decide) ?_
    refine lv_istore_n (lv' := [(2, .int (-2 : Int32)), (0, .ref (ad 0)), (1, .int x1)]) hx hb dX11_shunned_17 rfl hl (by decide) rfl (fun ls hl => ?_)
    refine lv_bipush (v := -2) hx hb dX11_shunned_18 (by decide) ?_
    refine lv_istore_n (lv' := [(3, .int (-2 : Int32)), (2, .int (-2 : Int32)), (0, .ref (ad 0)), (1, .int x1)]) hx hb dX11_shunned_20 rfl hl (by decide) rfl (fun ls hl => ?_)
    refine lv_iconst (v := 0) hx hb dX11_shunned_21 (by decide) ?_
    refine lv_istore (lv' := [(4, .int (0 : Int32)), (3, .int (-2 : Int32)), (2, .int (-2 : Int32)), (0, .ref (ad 0)), (1, .int x1)]) hx hb dX11_shunned_22 hl (by decide) rfl (fun ls hl => ?_)
    obtain ⟨st24_6, est24_6, hf⟩ := wlet_some hf
    obtain ⟨E24_6, hq24_6, hE24_6⟩ := bind_some hf
    have hx24_6 : ∀ (σe24_6 : St) (x2_e24_6 : Int32) (x3_e24_6 : Int32) (_ : (σe24_6, x2_e24_6, x3_e24_6) = E24_6) (ls : Array Slot) (H : Heap) (locs : List Loc), lv_has ls 5 [(1, .int x1), (2, .int x2_e24_6), (3, .int x3_e24_6)] → wH WM ad D cy s σe24_6 H locs → W p l e { frames := 5, cells := 0, slots := 0, locals := 199 } s m [.ref (ad 0), .int x1].toArray below meth c H locs 0 0 (MQ below (wQi WM ad D cy res.1 res.2) [.ref (ad 0), .int x1].toArray s 0 0 (wA WM ad)) (F0 m 80 ls []) := by
      intro σe24_6 x2_e24_6 x3_e24_6 e0 ls H locs hl hw
      subst e0
      have hf := hE24_6
      replace hf := un3_some hf
      refine lv_iload_n hx hb dX11_shunned_80 rfl (lv_at hl 0 rfl) ?_
      refine lv_if_ne (tgt := 88) hx hb dX11_shunned_81 (by decide) (fun c7 => ?_) (fun c7 => ?_)
      · have hf := (if_neg c7).symm.trans hf
        refine lv_iload_n hx hb dX11_shunned_88 rfl (lv_at hl 2 rfl) ?_
        have er := Option.some.inj hf
        subst er
        exact wr_iret X hw hr (Or.inl rfl) dX11_shunned_89
      · have hf := (if_pos c7).symm.trans hf
        refine lv_iload_n hx hb dX11_shunned_84 rfl (lv_at hl 1 rfl) ?_
        refine lv_goto (tgt := 89) hx hb dX11_shunned_85 (by decide) ?_
        have er := Option.some.inj hf
        subst er
        exact wr_iret X hw hr (Or.inl rfl) dX11_shunned_89
    have lo24_6 : ∀ (n : Nat) (σ24_6 : St) (x2_24_6 : Int32) (x3_24_6 : Int32) (x4_24_6 : Int32) (_ : lp st24_6 n (σ24_6, x2_24_6, x3_24_6, x4_24_6) = some E24_6) (ls : Array Slot) (H : Heap) (locs : List Loc), lv_has ls 5 [(0, .ref (ad 0)), (1, .int x1), (2, .int x2_24_6), (3, .int x3_24_6), (4, .int x4_24_6)] → wH WM ad D cy s σ24_6 H locs → W p l e { frames := 5, cells := 0, slots := 0, locals := 199 } s m [.ref (ad 0), .int x1].toArray below meth c H locs 0 0 (MQ below (wQi WM ad D cy res.1 res.2) [.ref (ad 0), .int x1].toArray s 0 0 (wA WM ad)) (F0 m 24 ls []) := by
      intro n
      induction n with
      | zero =>
        intro σ24_6 x2_24_6 x3_24_6 x4_24_6 hf ls H locs hl hw
        exact (lp_zero hf).elim
      | succ n ih24_6 =>
        intro σ24_6 x2_24_6 x3_24_6 x4_24_6 hf ls H locs hl hw
        obtain ⟨q24_6, hf, hz24_6⟩ := lp_succ hf
        rw [est24_6] at hf
        replace hf := un4_some hf
        refine lv_iload hx hb dX11_shunned_24 (lv_at hl 4 rfl) ?_
        refine lv_aload_n hx hb dX11_shunned_26 rfl (lv_at hl 0 rfl) ?_
        refine gX11_22 (b := 9) X hw sM0 nM0 rfl fl_X11_43 dX11_shunned_27 ?_
        refine lv_aload_n hx hb dX11_shunned_30 rfl (lv_at hl 0 rfl) ?_
        refine gX11_18 X hw sM0 nM0 fl_X11_212 dX11_shunned_31 ?_
        obtain ⟨h8, hf⟩ := if_some hf
        refine wr_iald X hw sM9 nM9 h8 dX11_shunned_34 ?_
        refine lv_icmp_ge (tgt := 80) hx hb dX11_shunned_35 (by decide) (fun c9 => ?_) (fun c9 => ?_)
        · have hf := (if_pos c9).symm.trans hf
          exact hx24_6 σ24_6 x2_24_6 x3_24_6 (lpK_inr (lp_leaf hf hz24_6)) ls H locs (lv_sub hl [1, 2, 3] rfl) hw
        · have hf := (if_neg c9).symm.trans hf
          refine lv_aload_n hx hb dX11_shunned_38 rfl (lv_at hl 0 rfl) ?_
          refine lv_iload hx hb dX11_shunned_39 (lv_at hl 4 rfl) ?_
          obtain ⟨v11, hq10, hf⟩ := bind_some hf
          refine wr_cVi (r := v11) (σ' := σ24_6) (av := [.int x4_24_6]) (rest := []) X hw hl.1 sM0 nM0 rfl (k_X11_isOn hI hq10) rfl ml_X11_348 im_X11_isOn se_X11_isOn ini_X11 co_X11_isOn hd_X11_isOn ⟨Nat.le_of_ble_eq_true rfl, Nat.le_of_ble_eq_true rfl⟩ (Nat.le_of_ble_eq_true rfl) dX11_shunned_41 rfl (fun H locs hw => ?_)
          refine lv_if_eq (tgt := 74) hx hb dX11_shunned_44 (by decide) (fun c12 => ?_) (fun c12 => ?_)
          · have hf := (if_pos c12).symm.trans hf
            obtain ⟨v13, ev13, hf⟩ := wlet_some hf
            refine lv_iinc (v := v13) (lv' := [(4, .int v13), (0, .ref (ad 0)), (1, .int x1), (2, .int x2_24_6), (3, .int x3_24_6)]) hx hb dX11_shunned_74 hl (k := 4) rfl (by rw [ev13]; rfl) (by decide) rfl (fun ls hl => ?_)
            refine lv_goto (tgt := 24) hx hb dX11_shunned_77 (by decide) ?_
            exact ih24_6 σ24_6 x2_24_6 x3_24_6 v13 (lp_leaf hf hz24_6) ls H locs (lv_sub hl [1, 2, 3, 4, 0] rfl) hw
          · have hf := (if_neg c12).symm.trans hf
            refine lv_iload_n hx hb dX11_shunned_47 rfl (lv_at hl 2 rfl) ?_
            obtain ⟨k64_14, ek64_14, hf0⟩ := wlet_some hf
            have j64_14 : ∀ (σ_64_14 : St) (_ : k64_14 σ_64_14 = some q24_6) (ls : Array Slot) (H : Heap) (locs : List Loc), lv_has ls 5 [(0, .ref (ad 0)), (1, .int x1), (4, .int x4_24_6)] → wH WM ad D cy s σ_64_14 H locs → W p l e { frames := 5, cells := 0, slots := 0, locals := 199 } s m [.ref (ad 0), .int x1].toArray below meth c H locs 0 0 (MQ below (wQi WM ad D cy res.1 res.2) [.ref (ad 0), .int x1].toArray s 0 0 (wA WM ad)) (F0 m 64 ls []) := by
              intro σ_64_14 hf ls H locs hl hw
              rw [ek64_14] at hf
              refine lv_iload hx hb dX11_shunned_64 (lv_at hl 2 rfl) ?_
              refine lv_istore_n (lv' := [(2, .int x4_24_6), (0, .ref (ad 0)), (1, .int x1), (4, .int x4_24_6)]) hx hb dX11_shunned_66 rfl hl (by decide) rfl (fun ls hl => ?_)
              refine lv_aload_n hx hb dX11_shunned_67 rfl (lv_at hl 1 rfl) ?_
              refine lv_iload hx hb dX11_shunned_68 (lv_at hl 3 rfl) ?_
              obtain ⟨v16, σ17, hq15, hf⟩ := bnd2_some hf
              refine wr_cVi (r := v16) (σ' := σ17) (av := [.int x4_24_6]) (rest := []) X hw hl.1 sM0 nM0 rfl (k_X11_dreadOf hI hq15) rfl ml_X11_415 im_X11_dreadOf se_X11_dreadOf ini_X11 co_X11_dreadOf hd_X11_dreadOf ⟨Nat.le_of_ble_eq_true rfl, Nat.le_of_ble_eq_true rfl⟩ (Nat.le_of_ble_eq_true rfl) dX11_shunned_70 rfl (fun H locs hw => ?_)
              refine lv_istore_n (lv' := [(3, .int v16), (2, .int x4_24_6), (0, .ref (ad 0)), (1, .int x1), (4, .int x4_24_6)]) hx hb dX11_shunned_73 rfl hl (by decide) rfl (fun ls hl => ?_)
              obtain ⟨v18, ev18, hf⟩ := wlet_some hf
              refine lv_iinc (v := v18) (lv' := [(4, .int v18), (3, .int v16), (2, .int x4_24_6), (0, .ref (ad 0)), (1, .int x1)]) hx hb dX11_shunned_74 hl (k := 4) rfl (by rw [ev18]; rfl) (by decide) rfl (fun ls hl => ?_)
              refine lv_goto (tgt := 24) hx hb dX11_shunned_77 (by decide) ?_
              exact ih24_6 σ17 x4_24_6 v16 v18 (lp_leaf hf hz24_6) ls H locs (lv_sub hl [3, 4, 2, 1, 0] rfl) hw
            replace hf := hf0
            refine lv_if_lt (tgt := 64) hx hb dX11_shunned_48 (by decide) (fun c19 => ?_) (fun c19 => ?_)
            · have hf := (if_pos c19).symm.trans hf
              exact j64_14 σ24_6 hf ls H locs (lv_sub hl [0, 1, 4] rfl) hw
            · have hf := (if_neg c19).symm.trans hf
              refine lv_aload_n hx hb dX11_shunned_51 rfl (lv_at hl 0 rfl) ?_
              refine lv_iload hx hb dX11_shunned_52 (lv_at hl 4 rfl) ?_
              obtain ⟨v21, σ22, hq20, hf⟩ := bnd2_some hf
              refine wr_cVi (r := v21) (σ' := σ22) (av := [.int x4_24_6]) (rest := []) X hw hl.1 sM0 nM0 rfl (k_X11_dreadOf hI hq20) rfl ml_X11_415 im_X11_dreadOf se_X11_dreadOf ini_X11 co_X11_dreadOf hd_X11_dreadOf ⟨Nat.le_of_ble_eq_true rfl, Nat.le_of_ble_eq_true rfl⟩ (Nat.le_of_ble_eq_true rfl) dX11_shunned_54 rfl (fun H locs hw => ?_)
              refine lv_iload_n hx hb dX11_shunned_57 rfl (lv_at hl 3 rfl) ?_
              refine lv_icmp_gt (tgt := 64) hx hb dX11_shunned_58 (by decide) (fun c23 => ?_) (fun c23 => ?_)
              · have hf := (if_pos c23).symm.trans hf
                exact j64_14 σ22 hf ls H locs (lv_sub hl [0, 1, 4] rfl) hw
              · have hf := (if_neg c23).symm.trans hf
                refine lv_goto (tgt := 74) hx hb dX11_shunned_61 (by decide) ?_
                obtain ⟨v24, ev24, hf⟩ := wlet_some hf
                refine lv_iinc (v := v24) (lv' := [(4, .int v24), (0, .ref (ad 0)), (1, .int x1), (2, .int x2_24_6), (3, .int x3_24_6)]) hx hb dX11_shunned_74 hl (k := 4) rfl (by rw [ev24]; rfl) (by decide) rfl (fun ls hl => ?_)
                refine lv_goto (tgt := 24) hx hb dX11_shunned_77 (by decide) ?_
                exact ih24_6 σ22 x2_24_6 x3_24_6 v24 (lp_leaf hf hz24_6) ls H locs (lv_sub hl [1, 2, 3, 4, 0] rfl) hw
    exact lo24_6 fuel σ5 (-2 : Int32) (-2 : Int32) (0 : Int32) hq24_6 ls H locs (lv_sub hl [3, 4, 2, 1, 0] rfl) hw
  · have hf := (if_pos c3).symm.trans hf
    refine lv_iconst (v := -1) hx hb dX11_shunned_9 (by decide) ?_
    have er := Option.some.inj hf
    subst er
    exact wr_iret X hw hr (Or.inl rfl) dX11_shunned_10

def f_X11_suffers (σ : St) (x1 : Int32) (x2 : Int32) : Option (Int32 × St) := Option.bind (f_X11_copies σ) fun σ2 => Option.bind (f_X11_isCase σ2 x1) fun v4 => if v4 = 0 then (some ((-1 : Int32), σ2)) else (Option.bind (f_X11_isOn σ2 x1) fun v7 => if v7 = 0 then (some ((-1 : Int32), σ2)) else (Option.bind (f_X11_in x2 (0 : Int32) (1 : Int32)) fun v10 => if v10 = 0 then (some ((-1 : Int32), σ2)) else (if x2 = 0 then (Option.bind (f_X11_placeOf σ2 x1) fun v18 => bnd2 (f_X11_sufferAt σ2 v18) fun v20 σ21 => some (v20, σ21)) else (Option.bind (f_X11_placeOf σ2 x1) fun v14 => Option.bind (f_X11_kindAt σ2 v14) fun v16 => some (v16, σ2)))))
theorem hd_X11_suffers : yX11_suffers.cls = RX11 ∧ yX11_suffers.cls ≠ "java/lang/invoke/MethodHandle" ∧ yX11_suffers.cls ≠ "java/lang/invoke/VarHandle" ∧ (parseMethodDescriptor yX11_suffers.desc).map (fun d => d.parameters.length) = some 2 := by decide +kernel
set_option maxRecDepth 100000 in
set_option maxHeartbeats 4000000 in
theorem k_X11_suffers {l : Launch} {ad : Nat → Nat} {D : va_G} {cy : Nat → ClassId} {z : wStr} (hI : wI WM ad) {σ : St} {x1 : Int32} {x2 : Int32}  {res : Int32 × St} (hf : f_X11_suffers σ x1 x2 = some res) : wC WM ad D cy z l yX11_suffers (Cond.code yX11_suffers cX11_suffers 3 (Option.some Jvm.ClassFile.FieldType.int) :: aw) (5) (201) [.ref (ad 0), .int x1, .int x2] σ (wQi WM ad D cy res.1 res.2) := by
  unfold f_X11_suffers at hf
  refine wr_start (own := RX11) hI (by decide +kernel) rfl (Nat.le_of_ble_eq_true rfl) rfl ?_
  intro p e s m below meth c ls X hw hr hl
  have hx := X.hx
  have hb := X.hb
  obtain ⟨H, eH⟩ : ∃ H : Heap, H = s.heap := ⟨_, rfl⟩
  obtain ⟨locs, el⟩ : ∃ locs : List Loc, locs = [] := ⟨_, rfl⟩
  rw [← eH, ← el] at hw ⊢
  clear eH el
  replace hl : lv_has ls 3 [(0, .ref (ad 0)), (1, .int x1), (2, .int x2)] := hl
  refine lv_aload_n hx hb dX11_suffers_0 rfl (lv_at hl 0 rfl) ?_
  obtain ⟨σ2, hq1, hf⟩ := bind_some hf
  refine wr_cVv (σ' := σ2) (av := []) (rest := []) X hw hl.1 sM0 nM0 rfl (k_X11_copies hI hq1) rfl ml_X11_345 im_X11_copies se_X11_copies ini_X11 co_X11_copies hd_X11_copies ⟨Nat.le_of_ble_eq_true rfl, Nat.le_of_ble_eq_true rfl⟩ (Nat.le_of_ble_eq_true rfl) dX11_suffers_1 rfl (fun H locs hw => ?_)
  refine lv_aload_n hx hb dX11_suffers_4 rfl (lv_at hl 0 rfl) ?_
  refine lv_iload_n hx hb dX11_suffers_5 rfl (lv_at hl 1 rfl) ?_
  obtain ⟨v4, hq3, hf⟩ := bind_some hf
  refine wr_cVi (r := v4) (σ' := σ2) (av := [.int x1]) (rest := []) X hw hl.1 sM0 nM0 rfl (k_X11_isCase hI hq3) rfl ml_X11_342 im_X11_isCase se_X11_isCase ini_X11 co_X11_isCase hd_X11_isCase ⟨Nat.le_of_ble_eq_true rfl, Nat.le_of_ble_eq_true rfl⟩ (Nat.le_of_ble_eq_true rfl) dX11_suffers_6 rfl (fun H locs hw => ?_)
  refine lv_if_eq (tgt := 29) hx hb dX11_suffers_9 (by decide) (fun c5 => ?_) (fun c5 => ?_)
  · have hf := (if_pos c5).symm.trans hf
    refine lv_iconst (v := -1) hx hb dX11_suffers_29 (by decide) ?_
    have er := Option.some.inj hf
    subst er
    exact wr_iret X hw hr (Or.inl rfl) dX11_suffers_30
  · have hf := (if_neg c5).symm.trans hf
    refine lv_aload_n hx hb dX11_suffers_12 rfl (lv_at hl 0 rfl) ?_
    refine lv_iload_n hx hb dX11_suffers_13 rfl (lv_at hl 1 rfl) ?_
    obtain ⟨v7, hq6, hf⟩ := bind_some hf
    refine wr_cVi (r := v7) (σ' := σ2) (av := [.int x1]) (rest := []) X hw hl.1 sM0 nM0 rfl (k_X11_isOn hI hq6) rfl ml_X11_348 im_X11_isOn se_X11_isOn ini_X11 co_X11_isOn hd_X11_isOn ⟨Nat.le_of_ble_eq_true rfl, Nat.le_of_ble_eq_true rfl⟩ (Nat.le_of_ble_eq_true rfl) dX11_suffers_14 rfl (fun H locs hw => ?_)
    refine lv_if_eq (tgt := 29) hx hb dX11_suffers_17 (by decide) (fun c8 => ?_) (fun c8 => ?_)
    · have hf := (if_pos c8).symm.trans hf
      refine lv_iconst (v := -1) hx hb dX11_suffers_29 (by decide) ?_
      have er := Option.some.inj hf
      subst er
      exact wr_iret X hw hr (Or.inl rfl) dX11_suffers_30
    · have hf := (if_neg c8).symm.trans hf
      refine lv_iload_n hx hb dX11_suffers_20 rfl (lv_at hl 2 rfl) ?_
      refine lv_iconst (v := 0) hx hb dX11_suffers_21 (by decide) ?_
      refine lv_iconst (v := 1) hx hb dX11_suffers_22 (by decide) ?_
      obtain ⟨v10, hq9, hf⟩ := bind_some hf
      refine wr_cSi (r := v10) (σ' := σ2) (av := [.int x2, .int (0 : Int32), .int (1 : Int32)]) (rest := []) X hw hl.1 (k_X11_in hI hq9) rfl ml_X11_282 st_X11_in ini_X11 co_X11_in hd_X11_in ⟨Nat.le_of_ble_eq_true rfl, Nat.le_of_ble_eq_true rfl⟩ (Nat.le_of_ble_eq_true rfl) dX11_suffers_23 rfl (fun H locs hw => ?_)
      refine lv_if_ne (tgt := 31) hx hb dX11_suffers_26 (by decide) (fun c11 => ?_) (fun c11 => ?_)
      · have hf := (if_neg c11).symm.trans hf
        refine lv_iload_n hx hb dX11_suffers_31 rfl (lv_at hl 2 rfl) ?_
        refine lv_if_ne (tgt := 47) hx hb dX11_suffers_32 (by decide) (fun c12 => ?_) (fun c12 => ?_)
        · have hf := (if_neg c12).symm.trans hf
          refine lv_aload_n hx hb dX11_suffers_47 rfl (lv_at hl 0 rfl) ?_
          refine lv_aload_n hx hb dX11_suffers_48 rfl (lv_at hl 0 rfl) ?_
          refine lv_iload_n hx hb dX11_suffers_49 rfl (lv_at hl 1 rfl) ?_
          obtain ⟨v14, hq13, hf⟩ := bind_some hf
          refine wr_cVi (r := v14) (σ' := σ2) (av := [.int x1]) (rest := [.ref (ad 0)]) X hw hl.1 sM0 nM0 rfl (k_X11_placeOf hI hq13) rfl ml_X11_293 im_X11_placeOf se_X11_placeOf ini_X11 co_X11_placeOf hd_X11_placeOf ⟨Nat.le_of_ble_eq_true rfl, Nat.le_of_ble_eq_true rfl⟩ (Nat.le_of_ble_eq_true rfl) dX11_suffers_50 rfl (fun H locs hw => ?_)
          obtain ⟨v16, hq15, hf⟩ := bind_some hf
          refine wr_cVi (r := v16) (σ' := σ2) (av := [.int v14]) (rest := []) X hw hl.1 sM0 nM0 rfl (k_X11_kindAt hI hq15) rfl ml_X11_315 im_X11_kindAt se_X11_kindAt ini_X11 co_X11_kindAt hd_X11_kindAt ⟨Nat.le_of_ble_eq_true rfl, Nat.le_of_ble_eq_true rfl⟩ (Nat.le_of_ble_eq_true rfl) dX11_suffers_53 rfl (fun H locs hw => ?_)
          have er := Option.some.inj hf
          subst er
          exact wr_iret X hw hr (Or.inl rfl) dX11_suffers_56
        · have hf := (if_pos c12).symm.trans hf
          refine lv_aload_n hx hb dX11_suffers_35 rfl (lv_at hl 0 rfl) ?_
          refine lv_aload_n hx hb dX11_suffers_36 rfl (lv_at hl 0 rfl) ?_
          refine lv_iload_n hx hb dX11_suffers_37 rfl (lv_at hl 1 rfl) ?_
          obtain ⟨v18, hq17, hf⟩ := bind_some hf
          refine wr_cVi (r := v18) (σ' := σ2) (av := [.int x1]) (rest := [.ref (ad 0)]) X hw hl.1 sM0 nM0 rfl (k_X11_placeOf hI hq17) rfl ml_X11_293 im_X11_placeOf se_X11_placeOf ini_X11 co_X11_placeOf hd_X11_placeOf ⟨Nat.le_of_ble_eq_true rfl, Nat.le_of_ble_eq_true rfl⟩ (Nat.le_of_ble_eq_true rfl) dX11_suffers_38 rfl (fun H locs hw => ?_)
          obtain ⟨v20, σ21, hq19, hf⟩ := bnd2_some hf
          refine wr_cVi (r := v20) (σ' := σ21) (av := [.int v18]) (rest := []) X hw hl.1 sM0 nM0 rfl (k_X11_sufferAt hI hq19) rfl ml_X11_324 im_X11_sufferAt se_X11_sufferAt ini_X11 co_X11_sufferAt hd_X11_sufferAt ⟨Nat.le_of_ble_eq_true rfl, Nat.le_of_ble_eq_true rfl⟩ (Nat.le_of_ble_eq_true rfl) dX11_suffers_41 rfl (fun H locs hw => ?_)
          refine lv_goto (tgt := 56) hx hb dX11_suffers_44 (by decide) ?_
          have er := Option.some.inj hf
          subst er
          exact wr_iret X hw hr (Or.inl rfl) dX11_suffers_56
      · have hf := (if_pos c11).symm.trans hf
        refine lv_iconst (v := -1) hx hb dX11_suffers_29 (by decide) ?_
        have er := Option.some.inj hf
        subst er
        exact wr_iret X hw hr (Or.inl rfl) dX11_suffers_30

def f_X11_tell (σ : St) (x1 : Int32) (x2 : Int32) (x3 : Int32) : Option (Int32 × St) := if (σ.1 0 51) = (20 : Int32) then (some ((-1 : Int32), σ)) else (Option.bind (f_X11_in x1 (0 : Int32) (6 : Int32)) fun v3 => if v3 = 0 then (some ((-1 : Int32), σ)) else (Option.bind (f_X11_isMark x2) fun v6 => if v6 = 0 then (some ((-1 : Int32), σ)) else (if ib (σ.1 0 51) 20 = true then wlet (si σ 31 (Int32.toNatClampNeg (σ.1 0 51)) x1) fun σ9 => if ib (σ9.1 0 51) 20 = true then wlet (si σ9 32 (Int32.toNatClampNeg (σ9.1 0 51)) x2) fun σ11 => if ib (σ11.1 0 51) 20 = true then wlet (si σ11 33 (Int32.toNatClampNeg (σ11.1 0 51)) (vp_nar .boolean x3)) fun σ13 => wlet (si σ13 0 51 ((σ13.1 0 51) + (1 : Int32))) fun σ14 => some (((σ14.1 0 51) - (1 : Int32)), σ14) else none else none else none)))
theorem hd_X11_tell : yX11_tell.cls = RX11 ∧ yX11_tell.cls ≠ "java/lang/invoke/MethodHandle" ∧ yX11_tell.cls ≠ "java/lang/invoke/VarHandle" ∧ (parseMethodDescriptor yX11_tell.desc).map (fun d => d.parameters.length) = some 3 := by decide +kernel
set_option maxRecDepth 100000 in
set_option maxHeartbeats 4000000 in
theorem k_X11_tell {l : Launch} {ad : Nat → Nat} {D : va_G} {cy : Nat → ClassId} {z : wStr} (hI : wI WM ad) {σ : St} {x1 : Int32} {x2 : Int32} {x3 : Int32}  {res : Int32 × St} (hf : f_X11_tell σ x1 x2 x3 = some res) : wC WM ad D cy z l yX11_tell (Cond.code yX11_tell cX11_tell 4 (Option.some Jvm.ClassFile.FieldType.int) :: aw) (3) (142) [.ref (ad 0), .int x1, .int x2, .int x3] σ (wQi WM ad D cy res.1 res.2) := by
  unfold f_X11_tell at hf
  refine wr_start (own := RX11) hI (by decide +kernel) rfl (Nat.le_of_ble_eq_true rfl) rfl ?_
  intro p e s m below meth c ls X hw hr hl
  have hx := X.hx
  have hb := X.hb
  obtain ⟨H, eH⟩ : ∃ H : Heap, H = s.heap := ⟨_, rfl⟩
  obtain ⟨locs, el⟩ : ∃ locs : List Loc, locs = [] := ⟨_, rfl⟩
  rw [← eH, ← el] at hw ⊢
  clear eH el
  replace hl : lv_has ls 4 [(0, .ref (ad 0)), (1, .int x1), (2, .int x2), (3, .int x3)] := hl
  refine lv_aload_n hx hb dX11_tell_0 rfl (lv_at hl 0 rfl) ?_
  refine gX11_51 X hw sM0 nM0 fl_X11_233 dX11_tell_1 ?_
  refine lv_bipush (v := 20) hx hb dX11_tell_4 (by decide) ?_
  refine lv_icmp_eq (tgt := 26) hx hb dX11_tell_6 (by decide) (fun c1 => ?_) (fun c1 => ?_)
  · have hf := (if_pos c1).symm.trans hf
    refine lv_iconst (v := -1) hx hb dX11_tell_26 (by decide) ?_
    have er := Option.some.inj hf
    subst er
    exact wr_iret X hw hr (Or.inl rfl) dX11_tell_27
  · have hf := (if_neg c1).symm.trans hf
    refine lv_iload_n hx hb dX11_tell_9 rfl (lv_at hl 1 rfl) ?_
    refine lv_iconst (v := 0) hx hb dX11_tell_10 (by decide) ?_
    refine lv_bipush (v := 6) hx hb dX11_tell_11 (by decide) ?_
    obtain ⟨v3, hq2, hf⟩ := bind_some hf
    refine wr_cSi (r := v3) (σ' := σ) (av := [.int x1, .int (0 : Int32), .int (6 : Int32)]) (rest := []) X hw hl.1 (k_X11_in hI hq2) rfl ml_X11_282 st_X11_in ini_X11 co_X11_in hd_X11_in ⟨Nat.le_of_ble_eq_true rfl, Nat.le_of_ble_eq_true rfl⟩ (Nat.le_of_ble_eq_true rfl) dX11_tell_13 rfl (fun H locs hw => ?_)
    refine lv_if_eq (tgt := 26) hx hb dX11_tell_16 (by decide) (fun c4 => ?_) (fun c4 => ?_)
    · have hf := (if_pos c4).symm.trans hf
      refine lv_iconst (v := -1) hx hb dX11_tell_26 (by decide) ?_
      have er := Option.some.inj hf
      subst er
      exact wr_iret X hw hr (Or.inl rfl) dX11_tell_27
    · have hf := (if_neg c4).symm.trans hf
      refine lv_iload_n hx hb dX11_tell_19 rfl (lv_at hl 2 rfl) ?_
      obtain ⟨v6, hq5, hf⟩ := bind_some hf
      refine wr_cSi (r := v6) (σ' := σ) (av := [.int x2]) (rest := []) X hw hl.1 (k_X11_isMark hI hq5) rfl ml_X11_427 st_X11_isMark ini_X11 co_X11_isMark hd_X11_isMark ⟨Nat.le_of_ble_eq_true rfl, Nat.le_of_ble_eq_true rfl⟩ (Nat.le_of_ble_eq_true rfl) dX11_tell_20 rfl (fun H locs hw => ?_)
      refine lv_if_ne (tgt := 28) hx hb dX11_tell_23 (by decide) (fun c7 => ?_) (fun c7 => ?_)
      · have hf := (if_neg c7).symm.trans hf
        refine lv_aload_n hx hb dX11_tell_28 rfl (lv_at hl 0 rfl) ?_
        refine gX11_52 (b := 31) X hw sM0 nM0 rfl fl_X11_110 dX11_tell_29 ?_
        refine lv_aload_n hx hb dX11_tell_32 rfl (lv_at hl 0 rfl) ?_
        refine gX11_51 X hw sM0 nM0 fl_X11_233 dX11_tell_33 ?_
        refine lv_iload_n hx hb dX11_tell_36 rfl (lv_at hl 1 rfl) ?_
        obtain ⟨h8, hf⟩ := if_some hf
        obtain ⟨σ9, eσ9, hf⟩ := wlet_some hf
        refine wr_iast X hw sM31 nM31 h8 dX11_tell_37 (fun H locs hw => ?_)
        replace hw := hw.to eσ9
        refine lv_aload_n hx hb dX11_tell_38 rfl (lv_at hl 0 rfl) ?_
        refine gX11_53 (b := 32) X hw sM0 nM0 rfl fl_X11_113 dX11_tell_39 ?_
        refine lv_aload_n hx hb dX11_tell_42 rfl (lv_at hl 0 rfl) ?_
        refine gX11_51 X hw sM0 nM0 fl_X11_233 dX11_tell_43 ?_
        refine lv_iload_n hx hb dX11_tell_46 rfl (lv_at hl 2 rfl) ?_
        obtain ⟨h10, hf⟩ := if_some hf
        obtain ⟨σ11, eσ11, hf⟩ := wlet_some hf
        refine wr_iast X hw sM32 nM32 h10 dX11_tell_47 (fun H locs hw => ?_)
        replace hw := hw.to eσ11
        refine lv_aload_n hx hb dX11_tell_48 rfl (lv_at hl 0 rfl) ?_
        refine gX11_54 (b := 33) X hw sM0 nM0 rfl fl_X11_116 dX11_tell_49 ?_
        refine lv_aload_n hx hb dX11_tell_52 rfl (lv_at hl 0 rfl) ?_
        refine gX11_51 X hw sM0 nM0 fl_X11_233 dX11_tell_53 ?_
        refine lv_iload_n hx hb dX11_tell_56 rfl (lv_at hl 3 rfl) ?_
        obtain ⟨h12, hf⟩ := if_some hf
        obtain ⟨σ13, eσ13, hf⟩ := wlet_some hf
        refine wr_zast X hw sM33 nM33 h12 dX11_tell_57 (fun H locs hw => ?_)
        replace hw := hw.to eσ13
        refine lv_aload_n hx hb dX11_tell_58 rfl (lv_at hl 0 rfl) ?_
        refine lv_dup hx hb dX11_tell_59 rfl ?_
        refine gX11_51 X hw sM0 nM0 fl_X11_233 dX11_tell_60 ?_
        refine lv_iconst (v := 1) hx hb dX11_tell_63 (by decide) ?_
        refine lv_iadd hx hb dX11_tell_64 ?_
        obtain ⟨σ14, eσ14, hf⟩ := wlet_some hf
        refine pX11_51 X hw sM0 nM0 fl_X11_233 dX11_tell_65 (fun H locs hw => ?_)
        replace hw := hw.to eσ14
        refine lv_aload_n hx hb dX11_tell_68 rfl (lv_at hl 0 rfl) ?_
        refine gX11_51 X hw sM0 nM0 fl_X11_233 dX11_tell_69 ?_
        refine lv_iconst (v := 1) hx hb dX11_tell_72 (by decide) ?_
        refine lv_isub hx hb dX11_tell_73 ?_
        have er := Option.some.inj hf
        subst er
        exact wr_iret X hw hr (Or.inl rfl) dX11_tell_74
      · have hf := (if_pos c7).symm.trans hf
        refine lv_iconst (v := -1) hx hb dX11_tell_26 (by decide) ?_
        have er := Option.some.inj hf
        subst er
        exact wr_iret X hw hr (Or.inl rfl) dX11_tell_27

def f_X11_tells (σ : St) (x1 : Int32) (x2 : Int32) (x3 : Int32) : Option (Int32 × St) := Option.bind (f_X11_isCase σ x1) fun v2 => if v2 = 0 then (some ((-1 : Int32), σ)) else (Option.bind (f_X11_in x2 (0 : Int32) (99 : Int32)) fun v5 => if v5 = 0 then (some ((-1 : Int32), σ)) else (Option.bind (f_X11_copies σ) fun σ8 => if x3 = (0 : Int32) then (Option.bind (f_X11_placeOf σ8 x1) fun v11 => bnd2 (f_X11_doomOf σ8 x1 v11 x2) fun v13 σ14 => some (v13, σ14)) else if x3 = (1 : Int32) then (Option.bind (f_X11_placeOf σ8 x1) fun v17 => bnd2 (f_X11_pleaOf σ8 x1 v17 x2) fun v19 σ20 => some (v19, σ20)) else if x3 = (2 : Int32) then (Option.bind (f_X11_placeOf σ8 x1) fun v23 => bnd2 (f_X11_feeOf σ8 x1 v23 x2) fun v25 σ26 => some (v25, σ26)) else (some ((-1 : Int32), σ8))))
theorem hd_X11_tells : yX11_tells.cls = RX11 ∧ yX11_tells.cls ≠ "java/lang/invoke/MethodHandle" ∧ yX11_tells.cls ≠ "java/lang/invoke/VarHandle" ∧ (parseMethodDescriptor yX11_tells.desc).map (fun d => d.parameters.length) = some 3 := by decide +kernel
set_option maxRecDepth 100000 in
set_option maxHeartbeats 4000000 in
theorem k_X11_tells {l : Launch} {ad : Nat → Nat} {D : va_G} {cy : Nat → ClassId} {z : wStr} (hI : wI WM ad) {σ : St} {x1 : Int32} {x2 : Int32} {x3 : Int32}  {res : Int32 × St} (hf : f_X11_tells σ x1 x2 x3 = some res) : wC WM ad D cy z l yX11_tells (Cond.code yX11_tells cX11_tells 4 (Option.some Jvm.ClassFile.FieldType.int) :: aw) (4) (176) [.ref (ad 0), .int x1, .int x2, .int x3] σ (wQi WM ad D cy res.1 res.2) := by
  unfold f_X11_tells at hf
  refine wr_start (own := RX11) hI (by decide +kernel) rfl (Nat.le_of_ble_eq_true rfl) rfl ?_
  intro p e s m below meth c ls X hw hr hl
  have hx := X.hx
  have hb := X.hb
  obtain ⟨H, eH⟩ : ∃ H : Heap, H = s.heap := ⟨_, rfl⟩
  obtain ⟨locs, el⟩ : ∃ locs : List Loc, locs = [] := ⟨_, rfl⟩
  rw [← eH, ← el] at hw ⊢
  clear eH el
  replace hl : lv_has ls 4 [(0, .ref (ad 0)), (1, .int x1), (2, .int x2), (3, .int x3)] := hl
  refine lv_aload_n hx hb dX11_tells_0 rfl (lv_at hl 0 rfl) ?_
  refine lv_iload_n hx hb dX11_tells_1 rfl (lv_at hl 1 rfl) ?_
  obtain ⟨v2, hq1, hf⟩ := bind_some hf
  refine wr_cVi (r := v2) (σ' := σ) (av := [.int x1]) (rest := []) X hw hl.1 sM0 nM0 rfl (k_X11_isCase hI hq1) rfl ml_X11_342 im_X11_isCase se_X11_isCase ini_X11 co_X11_isCase hd_X11_isCase ⟨Nat.le_of_ble_eq_true rfl, Nat.le_of_ble_eq_true rfl⟩ (Nat.le_of_ble_eq_true rfl) dX11_tells_2 rfl (fun H locs hw => ?_)
  refine lv_if_eq (tgt := 18) hx hb dX11_tells_5 (by decide) (fun c3 => ?_) (fun c3 => ?_)
  · have hf := (if_pos c3).symm.trans hf
    refine lv_iconst (v := -1) hx hb dX11_tells_18 (by decide) ?_
    have er := Option.some.inj hf
    subst er
    exact wr_iret X hw hr (Or.inl rfl) dX11_tells_19
  · have hf := (if_neg c3).symm.trans hf
    refine lv_iload_n hx hb dX11_tells_8 rfl (lv_at hl 2 rfl) ?_
    refine lv_iconst (v := 0) hx hb dX11_tells_9 (by decide) ?_
    refine lv_bipush (v := 99) hx hb dX11_tells_10 (by decide) ?_
    obtain ⟨v5, hq4, hf⟩ := bind_some hf
    refine wr_cSi (r := v5) (σ' := σ) (av := [.int x2, .int (0 : Int32), .int (99 : Int32)]) (rest := []) X hw hl.1 (k_X11_in hI hq4) rfl ml_X11_282 st_X11_in ini_X11 co_X11_in hd_X11_in ⟨Nat.le_of_ble_eq_true rfl, Nat.le_of_ble_eq_true rfl⟩ (Nat.le_of_ble_eq_true rfl) dX11_tells_12 rfl (fun H locs hw => ?_)
    refine lv_if_ne (tgt := 20) hx hb dX11_tells_15 (by decide) (fun c6 => ?_) (fun c6 => ?_)
    · have hf := (if_neg c6).symm.trans hf
      refine lv_aload_n hx hb dX11_tells_20 rfl (lv_at hl 0 rfl) ?_
      obtain ⟨σ8, hq7, hf⟩ := bind_some hf
      refine wr_cVv (σ' := σ8) (av := []) (rest := []) X hw hl.1 sM0 nM0 rfl (k_X11_copies hI hq7) rfl ml_X11_345 im_X11_copies se_X11_copies ini_X11 co_X11_copies hd_X11_copies ⟨Nat.le_of_ble_eq_true rfl, Nat.le_of_ble_eq_true rfl⟩ (Nat.le_of_ble_eq_true rfl) dX11_tells_21 rfl (fun H locs hw => ?_)
      refine lv_iload_n hx hb dX11_tells_24 rfl (lv_at hl 3 rfl) ?_
      by_cases c9 : x3 = (0 : Int32)
      · have hf := (if_pos c9).symm.trans hf
        refine lv_tableIn (tgt := 52) (off := 27) hx hb dX11_tells_25 (by rw [c9]; decide) (by rw [c9]; decide) (by rw [c9]; rfl) (by decide) ?_
        refine lv_aload_n hx hb dX11_tells_52 rfl (lv_at hl 0 rfl) ?_
        refine lv_iload_n hx hb dX11_tells_53 rfl (lv_at hl 1 rfl) ?_
        refine lv_aload_n hx hb dX11_tells_54 rfl (lv_at hl 0 rfl) ?_
        refine lv_iload_n hx hb dX11_tells_55 rfl (lv_at hl 1 rfl) ?_
        obtain ⟨v11, hq10, hf⟩ := bind_some hf
        refine wr_cVi (r := v11) (σ' := σ8) (av := [.int x1]) (rest := [.int x1, .ref (ad 0)]) X hw hl.1 sM0 nM0 rfl (k_X11_placeOf hI hq10) rfl ml_X11_293 im_X11_placeOf se_X11_placeOf ini_X11 co_X11_placeOf hd_X11_placeOf ⟨Nat.le_of_ble_eq_true rfl, Nat.le_of_ble_eq_true rfl⟩ (Nat.le_of_ble_eq_true rfl) dX11_tells_56 rfl (fun H locs hw => ?_)
        refine lv_iload_n hx hb dX11_tells_59 rfl (lv_at hl 2 rfl) ?_
        obtain ⟨v13, σ14, hq12, hf⟩ := bnd2_some hf
        refine wr_cVi (r := v13) (σ' := σ14) (av := [.int x1, .int v11, .int x2]) (rest := []) X hw hl.1 sM0 nM0 rfl (k_X11_doomOf hI hq12) rfl ml_X11_318 im_X11_doomOf se_X11_doomOf ini_X11 co_X11_doomOf hd_X11_doomOf ⟨Nat.le_of_ble_eq_true rfl, Nat.le_of_ble_eq_true rfl⟩ (Nat.le_of_ble_eq_true rfl) dX11_tells_60 rfl (fun H locs hw => ?_)
        have er := Option.some.inj hf
        subst er
        exact wr_iret X hw hr (Or.inl rfl) dX11_tells_63
      have hf := (if_neg c9).symm.trans hf
      by_cases c15 : x3 = (1 : Int32)
      · have hf := (if_pos c15).symm.trans hf
        refine lv_tableIn (tgt := 64) (off := 39) hx hb dX11_tells_25 (by rw [c15]; decide) (by rw [c15]; decide) (by rw [c15]; rfl) (by decide) ?_
        refine lv_aload_n hx hb dX11_tells_64 rfl (lv_at hl 0 rfl) ?_
        refine lv_iload_n hx hb dX11_tells_65 rfl (lv_at hl 1 rfl) ?_
        refine lv_aload_n hx hb dX11_tells_66 rfl (lv_at hl 0 rfl) ?_
        refine lv_iload_n hx hb dX11_tells_67 rfl (lv_at hl 1 rfl) ?_
        obtain ⟨v17, hq16, hf⟩ := bind_some hf
        refine wr_cVi (r := v17) (σ' := σ8) (av := [.int x1]) (rest := [.int x1, .ref (ad 0)]) X hw hl.1 sM0 nM0 rfl (k_X11_placeOf hI hq16) rfl ml_X11_293 im_X11_placeOf se_X11_placeOf ini_X11 co_X11_placeOf hd_X11_placeOf ⟨Nat.le_of_ble_eq_true rfl, Nat.le_of_ble_eq_true rfl⟩ (Nat.le_of_ble_eq_true rfl) dX11_tells_68 rfl (fun H locs hw => ?_)
        refine lv_iload_n hx hb dX11_tells_71 rfl (lv_at hl 2 rfl) ?_
        obtain ⟨v19, σ20, hq18, hf⟩ := bnd2_some hf
        refine wr_cVi (r := v19) (σ' := σ20) (av := [.int x1, .int v17, .int x2]) (rest := []) X hw hl.1 sM0 nM0 rfl (k_X11_pleaOf hI hq18) rfl ml_X11_321 im_X11_pleaOf se_X11_pleaOf ini_X11 co_X11_pleaOf hd_X11_pleaOf ⟨Nat.le_of_ble_eq_true rfl, Nat.le_of_ble_eq_true rfl⟩ (Nat.le_of_ble_eq_true rfl) dX11_tells_72 rfl (fun H locs hw => ?_)
        have er := Option.some.inj hf
        subst er
        exact wr_iret X hw hr (Or.inl rfl) dX11_tells_75
      have hf := (if_neg c15).symm.trans hf
      by_cases c21 : x3 = (2 : Int32)
      · have hf := (if_pos c21).symm.trans hf
        refine lv_tableIn (tgt := 76) (off := 51) hx hb dX11_tells_25 (by rw [c21]; decide) (by rw [c21]; decide) (by rw [c21]; rfl) (by decide) ?_
        refine lv_aload_n hx hb dX11_tells_76 rfl (lv_at hl 0 rfl) ?_
        refine lv_iload_n hx hb dX11_tells_77 rfl (lv_at hl 1 rfl) ?_
        refine lv_aload_n hx hb dX11_tells_78 rfl (lv_at hl 0 rfl) ?_
        refine lv_iload_n hx hb dX11_tells_79 rfl (lv_at hl 1 rfl) ?_
        obtain ⟨v23, hq22, hf⟩ := bind_some hf
        refine wr_cVi (r := v23) (σ' := σ8) (av := [.int x1]) (rest := [.int x1, .ref (ad 0)]) X hw hl.1 sM0 nM0 rfl (k_X11_placeOf hI hq22) rfl ml_X11_293 im_X11_placeOf se_X11_placeOf ini_X11 co_X11_placeOf hd_X11_placeOf ⟨Nat.le_of_ble_eq_true rfl, Nat.le_of_ble_eq_true rfl⟩ (Nat.le_of_ble_eq_true rfl) dX11_tells_80 rfl (fun H locs hw => ?_)
        refine lv_iload_n hx hb dX11_tells_83 rfl (lv_at hl 2 rfl) ?_
        obtain ⟨v25, σ26, hq24, hf⟩ := bnd2_some hf
        refine wr_cVi (r := v25) (σ' := σ26) (av := [.int x1, .int v23, .int x2]) (rest := []) X hw hl.1 sM0 nM0 rfl (k_X11_feeOf hI hq24) rfl ml_X11_351 im_X11_feeOf se_X11_feeOf ini_X11 co_X11_feeOf hd_X11_feeOf ⟨Nat.le_of_ble_eq_true rfl, Nat.le_of_ble_eq_true rfl⟩ (Nat.le_of_ble_eq_true rfl) dX11_tells_84 rfl (fun H locs hw => ?_)
        have er := Option.some.inj hf
        subst er
        exact wr_iret X hw hr (Or.inl rfl) dX11_tells_87
      have hf := (if_neg c21).symm.trans hf
      refine lv_tableOut (tgt := 88) hx hb dX11_tells_25 (sw_out (by decide) (by decide) (fun k h1 h2 => ?_)) (by decide) ?_
      · have h3 : k = 0 ∨ k = 1 ∨ k = 2 := by omega
        rcases h3 with rfl | rfl | rfl
        · exact c9
        · exact c15
        · exact c21
      refine lv_iconst (v := -1) hx hb dX11_tells_88 (by decide) ?_
      have er := Option.some.inj hf
      subst er
      exact wr_iret X hw hr (Or.inl rfl) dX11_tells_89
    · have hf := (if_pos c6).symm.trans hf
      refine lv_iconst (v := -1) hx hb dX11_tells_18 (by decide) ?_
      have er := Option.some.inj hf
      subst er
      exact wr_iret X hw hr (Or.inl rfl) dX11_tells_19

def f_X11_then (σ : St) (x1 : Int32) (x2 : Int32) : Option (Int32 × St) := Option.bind (f_X11_isCase σ x1) fun v2 => if v2 = 0 then (some ((-1 : Int32), σ)) else (Option.bind (f_X11_isLong x2) fun v5 => if v5 = 0 then (some ((-1 : Int32), σ)) else (Option.bind (f_X11_copies σ) fun σ8 => Option.bind (f_X11_goes σ8 x2) fun σ10 => if ib ((17 : Int32) + x1) 26 = true then some ((σ10.1 27 (Int32.toNatClampNeg ((17 : Int32) + x1))), σ10) else none))
theorem hd_X11_then : yX11_then.cls = RX11 ∧ yX11_then.cls ≠ "java/lang/invoke/MethodHandle" ∧ yX11_then.cls ≠ "java/lang/invoke/VarHandle" ∧ (parseMethodDescriptor yX11_then.desc).map (fun d => d.parameters.length) = some 2 := by decide +kernel
set_option maxRecDepth 100000 in
set_option maxHeartbeats 4000000 in
theorem k_X11_then {l : Launch} {ad : Nat → Nat} {D : va_G} {cy : Nat → ClassId} {z : wStr} (hI : wI WM ad) {σ : St} {x1 : Int32} {x2 : Int32}  {res : Int32 × St} (hf : f_X11_then σ x1 x2 = some res) : wC WM ad D cy z l yX11_then (Cond.code yX11_then cX11_then 3 (Option.some Jvm.ClassFile.FieldType.int) :: aw) (7) (249) [.ref (ad 0), .int x1, .int x2] σ (wQi WM ad D cy res.1 res.2) := by
  unfold f_X11_then at hf
  refine wr_start (own := RX11) hI (by decide +kernel) rfl (Nat.le_of_ble_eq_true rfl) rfl ?_
  intro p e s m below meth c ls X hw hr hl
  have hx := X.hx
  have hb := X.hb
  obtain ⟨H, eH⟩ : ∃ H : Heap, H = s.heap := ⟨_, rfl⟩
  obtain ⟨locs, el⟩ : ∃ locs : List Loc, locs = [] := ⟨_, rfl⟩
  rw [← eH, ← el] at hw ⊢
  clear eH el
  replace hl : lv_has ls 3 [(0, .ref (ad 0)), (1, .int x1), (2, .int x2)] := hl
  refine lv_aload_n hx hb dX11_then_0 rfl (lv_at hl 0 rfl) ?_
  refine lv_iload_n hx hb dX11_then_1 rfl (lv_at hl 1 rfl) ?_
  obtain ⟨v2, hq1, hf⟩ := bind_some hf
  refine wr_cVi (r := v2) (σ' := σ) (av := [.int x1]) (rest := []) X hw hl.1 sM0 nM0 rfl (k_X11_isCase hI hq1) rfl ml_X11_342 im_X11_isCase se_X11_isCase ini_X11 co_X11_isCase hd_X11_isCase ⟨Nat.le_of_ble_eq_true rfl, Nat.le_of_ble_eq_true rfl⟩ (Nat.le_of_ble_eq_true rfl) dX11_then_2 rfl (fun H locs hw => ?_)
  refine lv_if_eq (tgt := 15) hx hb dX11_then_5 (by decide) (fun c3 => ?_) (fun c3 => ?_)
  · have hf := (if_pos c3).symm.trans hf
    refine lv_iconst (v := -1) hx hb dX11_then_15 (by decide) ?_
    have er := Option.some.inj hf
    subst er
    exact wr_iret X hw hr (Or.inl rfl) dX11_then_16
  · have hf := (if_neg c3).symm.trans hf
    refine lv_iload_n hx hb dX11_then_8 rfl (lv_at hl 2 rfl) ?_
    obtain ⟨v5, hq4, hf⟩ := bind_some hf
    refine wr_cSi (r := v5) (σ' := σ) (av := [.int x2]) (rest := []) X hw hl.1 (k_X11_isLong hI hq4) rfl ml_X11_368 st_X11_isLong ini_X11 co_X11_isLong hd_X11_isLong ⟨Nat.le_of_ble_eq_true rfl, Nat.le_of_ble_eq_true rfl⟩ (Nat.le_of_ble_eq_true rfl) dX11_then_9 rfl (fun H locs hw => ?_)
    refine lv_if_ne (tgt := 17) hx hb dX11_then_12 (by decide) (fun c6 => ?_) (fun c6 => ?_)
    · have hf := (if_neg c6).symm.trans hf
      refine lv_aload_n hx hb dX11_then_17 rfl (lv_at hl 0 rfl) ?_
      obtain ⟨σ8, hq7, hf⟩ := bind_some hf
      refine wr_cVv (σ' := σ8) (av := []) (rest := []) X hw hl.1 sM0 nM0 rfl (k_X11_copies hI hq7) rfl ml_X11_345 im_X11_copies se_X11_copies ini_X11 co_X11_copies hd_X11_copies ⟨Nat.le_of_ble_eq_true rfl, Nat.le_of_ble_eq_true rfl⟩ (Nat.le_of_ble_eq_true rfl) dX11_then_18 rfl (fun H locs hw => ?_)
      refine lv_aload_n hx hb dX11_then_21 rfl (lv_at hl 0 rfl) ?_
      refine lv_iload_n hx hb dX11_then_22 rfl (lv_at hl 2 rfl) ?_
      obtain ⟨σ10, hq9, hf⟩ := bind_some hf
      refine wr_cVv (σ' := σ10) (av := [.int x2]) (rest := []) X hw hl.1 sM0 nM0 rfl (k_X11_goes hI hq9) rfl ml_X11_371 im_X11_goes se_X11_goes ini_X11 co_X11_goes hd_X11_goes ⟨Nat.le_of_ble_eq_true rfl, Nat.le_of_ble_eq_true rfl⟩ (Nat.le_of_ble_eq_true rfl) dX11_then_23 rfl (fun H locs hw => ?_)
      refine lv_aload_n hx hb dX11_then_26 rfl (lv_at hl 0 rfl) ?_
      refine gX11_44 (b := 27) X hw sM0 nM0 rfl fl_X11_98 dX11_then_27 ?_
      refine lv_bipush (v := 17) hx hb dX11_then_30 (by decide) ?_
      refine lv_iload_n hx hb dX11_then_32 rfl (lv_at hl 1 rfl) ?_
      refine lv_iadd hx hb dX11_then_33 ?_
      obtain ⟨h11, hf⟩ := if_some hf
      refine wr_iald X hw sM27 nM27 h11 dX11_then_34 ?_
      have er := Option.some.inj hf
      subst er
      exact wr_iret X hw hr (Or.inl rfl) dX11_then_35
    · have hf := (if_pos c6).symm.trans hf
      refine lv_iconst (v := -1) hx hb dX11_then_15 (by decide) ?_
      have er := Option.some.inj hf
      subst er
      exact wr_iret X hw hr (Or.inl rfl) dX11_then_16

def f_X11_traders (σ : St) (x1 : Int32) : Option (Int32 × St) := Option.bind (f_X11_copies σ) fun σ2 => Option.bind (f_X11_isCase σ2 x1) fun v4 => if v4 = 0 then (some ((-1 : Int32), σ2)) else (Option.bind (f_X11_isOn σ2 x1) fun v7 => if v7 = 0 then (some ((-1 : Int32), σ2)) else (bnd2 (f_X11_tradersOf σ2 x1) fun v10 σ11 => some (v10, σ11)))
theorem hd_X11_traders : yX11_traders.cls = RX11 ∧ yX11_traders.cls ≠ "java/lang/invoke/MethodHandle" ∧ yX11_traders.cls ≠ "java/lang/invoke/VarHandle" ∧ (parseMethodDescriptor yX11_traders.desc).map (fun d => d.parameters.length) = some 1 := by decide +kernel
set_option maxRecDepth 100000 in
set_option maxHeartbeats 4000000 in
theorem k_X11_traders {l : Launch} {ad : Nat → Nat} {D : va_G} {cy : Nat → ClassId} {z : wStr} (hI : wI WM ad) {σ : St} {x1 : Int32}  {res : Int32 × St} (hf : f_X11_traders σ x1 = some res) : wC WM ad D cy z l yX11_traders (Cond.code yX11_traders cX11_traders 2 (Option.some Jvm.ClassFile.FieldType.int) :: aw) (7) (250) [.ref (ad 0), .int x1] σ (wQi WM ad D cy res.1 res.2) := by
  unfold f_X11_traders at hf
  refine wr_start (own := RX11) hI (by decide +kernel) rfl (Nat.le_of_ble_eq_true rfl) rfl ?_
  intro p e s m below meth c ls X hw hr hl
  have hx := X.hx
  have hb := X.hb
  obtain ⟨H, eH⟩ : ∃ H : Heap, H = s.heap := ⟨_, rfl⟩
  obtain ⟨locs, el⟩ : ∃ locs : List Loc, locs = [] := ⟨_, rfl⟩
  rw [← eH, ← el] at hw ⊢
  clear eH el
  replace hl : lv_has ls 2 [(0, .ref (ad 0)), (1, .int x1)] := hl
  refine lv_aload_n hx hb dX11_traders_0 rfl (lv_at hl 0 rfl) ?_
  obtain ⟨σ2, hq1, hf⟩ := bind_some hf
  refine wr_cVv (σ' := σ2) (av := []) (rest := []) X hw hl.1 sM0 nM0 rfl (k_X11_copies hI hq1) rfl ml_X11_345 im_X11_copies se_X11_copies ini_X11 co_X11_copies hd_X11_copies ⟨Nat.le_of_ble_eq_true rfl, Nat.le_of_ble_eq_true rfl⟩ (Nat.le_of_ble_eq_true rfl) dX11_traders_1 rfl (fun H locs hw => ?_)
  refine lv_aload_n hx hb dX11_traders_4 rfl (lv_at hl 0 rfl) ?_
  refine lv_iload_n hx hb dX11_traders_5 rfl (lv_at hl 1 rfl) ?_
  obtain ⟨v4, hq3, hf⟩ := bind_some hf
  refine wr_cVi (r := v4) (σ' := σ2) (av := [.int x1]) (rest := []) X hw hl.1 sM0 nM0 rfl (k_X11_isCase hI hq3) rfl ml_X11_342 im_X11_isCase se_X11_isCase ini_X11 co_X11_isCase hd_X11_isCase ⟨Nat.le_of_ble_eq_true rfl, Nat.le_of_ble_eq_true rfl⟩ (Nat.le_of_ble_eq_true rfl) dX11_traders_6 rfl (fun H locs hw => ?_)
  refine lv_if_eq (tgt := 28) hx hb dX11_traders_9 (by decide) (fun c5 => ?_) (fun c5 => ?_)
  · have hf := (if_pos c5).symm.trans hf
    refine lv_iconst (v := -1) hx hb dX11_traders_28 (by decide) ?_
    have er := Option.some.inj hf
    subst er
    exact wr_iret X hw hr (Or.inl rfl) dX11_traders_29
  · have hf := (if_neg c5).symm.trans hf
    refine lv_aload_n hx hb dX11_traders_12 rfl (lv_at hl 0 rfl) ?_
    refine lv_iload_n hx hb dX11_traders_13 rfl (lv_at hl 1 rfl) ?_
    obtain ⟨v7, hq6, hf⟩ := bind_some hf
    refine wr_cVi (r := v7) (σ' := σ2) (av := [.int x1]) (rest := []) X hw hl.1 sM0 nM0 rfl (k_X11_isOn hI hq6) rfl ml_X11_348 im_X11_isOn se_X11_isOn ini_X11 co_X11_isOn hd_X11_isOn ⟨Nat.le_of_ble_eq_true rfl, Nat.le_of_ble_eq_true rfl⟩ (Nat.le_of_ble_eq_true rfl) dX11_traders_14 rfl (fun H locs hw => ?_)
    refine lv_if_eq (tgt := 28) hx hb dX11_traders_17 (by decide) (fun c8 => ?_) (fun c8 => ?_)
    · have hf := (if_pos c8).symm.trans hf
      refine lv_iconst (v := -1) hx hb dX11_traders_28 (by decide) ?_
      have er := Option.some.inj hf
      subst er
      exact wr_iret X hw hr (Or.inl rfl) dX11_traders_29
    · have hf := (if_neg c8).symm.trans hf
      refine lv_aload_n hx hb dX11_traders_20 rfl (lv_at hl 0 rfl) ?_
      refine lv_iload_n hx hb dX11_traders_21 rfl (lv_at hl 1 rfl) ?_
      obtain ⟨v10, σ11, hq9, hf⟩ := bnd2_some hf
      refine wr_cVi (r := v10) (σ' := σ11) (av := [.int x1]) (rest := []) X hw hl.1 sM0 nM0 rfl (k_X11_tradersOf hI hq9) rfl ml_X11_402 im_X11_tradersOf se_X11_tradersOf ini_X11 co_X11_tradersOf hd_X11_tradersOf ⟨Nat.le_of_ble_eq_true rfl, Nat.le_of_ble_eq_true rfl⟩ (Nat.le_of_ble_eq_true rfl) dX11_traders_22 rfl (fun H locs hw => ?_)
      refine lv_goto (tgt := 29) hx hb dX11_traders_25 (by decide) ?_
      have er := Option.some.inj hf
      subst er
      exact wr_iret X hw hr (Or.inl rfl) dX11_traders_29

def f_X11_undo (σ : St)  : Option (Int32 × St) := if (σ.1 0 47) = 0 then (some ((0 : Int32), σ)) else (wlet (si σ 0 47 ((σ.1 0 47) - (1 : Int32))) fun σ2 => wlet (un2 (fun (σ21_3 : St) (x1_21_3 : Int32) => if (26 : Int32) ≤ x1_21_3 then (some (.inr σ21_3)) else (if ib (((26 : Int32) * (σ21_3.1 0 47)) + x1_21_3) 1040 = true then if ib x1_21_3 26 = true then wlet (si σ21_3 26 (Int32.toNatClampNeg x1_21_3) (σ21_3.1 29 (Int32.toNatClampNeg (((26 : Int32) * (σ21_3.1 0 47)) + x1_21_3)))) fun σ7 => wlet (x1_21_3 + (1 : Int32)) fun v8 => some (.inl (σ7, v8)) else none else none)) : St × Int32 → Option ((St × Int32) ⊕ (St))) fun st21_3 => Option.bind (lp st21_3 fuel (σ2, (0 : Int32))) ((fun (σe21_3 : St) => some ((1 : Int32), σe21_3))))
theorem hd_X11_undo : yX11_undo.cls = RX11 ∧ yX11_undo.cls ≠ "java/lang/invoke/MethodHandle" ∧ yX11_undo.cls ≠ "java/lang/invoke/VarHandle" ∧ (parseMethodDescriptor yX11_undo.desc).map (fun d => d.parameters.length) = some 0 := by decide +kernel
set_option maxRecDepth 100000 in
set_option maxHeartbeats 4000000 in
theorem k_X11_undo {l : Launch} {ad : Nat → Nat} {D : va_G} {cy : Nat → ClassId} {z : wStr} (hI : wI WM ad) {σ : St}   {res : Int32 × St} (hf : f_X11_undo σ  = some res) : wC WM ad D cy z l yX11_undo (Cond.code yX11_undo cX11_undo 2 (Option.some Jvm.ClassFile.FieldType.boolean) :: aw) (1) (100) [.ref (ad 0)] σ (wQi WM ad D cy res.1 res.2) := by
  unfold f_X11_undo at hf
  refine wr_start (own := RX11) hI (by decide +kernel) rfl (Nat.le_of_ble_eq_true rfl) rfl ?_
  intro p e s m below meth c ls X hw hr hl
  have hx := X.hx
  have hb := X.hb
  obtain ⟨H, eH⟩ : ∃ H : Heap, H = s.heap := ⟨_, rfl⟩
  obtain ⟨locs, el⟩ : ∃ locs : List Loc, locs = [] := ⟨_, rfl⟩
  rw [← eH, ← el] at hw ⊢
  clear eH el
  replace hl : lv_has ls 2 [(0, .ref (ad 0))] := hl
  refine lv_aload_n hx hb dX11_undo_0 rfl (lv_at hl 0 rfl) ?_
  refine gX11_47 X hw sM0 nM0 fl_X11_230 dX11_undo_1 ?_
  refine lv_if_ne (tgt := 9) hx hb dX11_undo_4 (by decide) (fun c1 => ?_) (fun c1 => ?_)
  · have hf := (if_neg c1).symm.trans hf
    refine lv_aload_n hx hb dX11_undo_9 rfl (lv_at hl 0 rfl) ?_
    refine lv_dup hx hb dX11_undo_10 rfl ?_
    refine gX11_47 X hw sM0 nM0 fl_X11_230 dX11_undo_11 ?_
    refine lv_iconst (v := 1) hx hb dX11_undo_14 (by decide) ?_
    refine lv_isub hx hb dX11_undo_15 ?_
    obtain ⟨σ2, eσ2, hf⟩ := wlet_some hf
    refine pX11_47 X hw sM0 nM0 fl_X11_230 dX11_undo_16 (fun H locs hw => ?_)
    replace hw := hw.to eσ2
    refine lv_iconst (v := 0) hx hb dX11_undo_19 (by decide) ?_
    refine lv_istore_n (lv' := [(1, .int (0 : Int32)), (0, .ref (ad 0))]) hx hb dX11_undo_20 rfl hl (by decide) rfl (fun ls hl => ?_)
    obtain ⟨st21_3, est21_3, hf⟩ := wlet_some hf
    obtain ⟨E21_3, hq21_3, hE21_3⟩ := bind_some hf
    have hx21_3 : ∀ (σe21_3 : St) (_ : σe21_3 = E21_3) (ls : Array Slot) (H : Heap) (locs : List Loc), lv_has ls 2 [] → wH WM ad D cy s σe21_3 H locs → W p l e { frames := 1, cells := 0, slots := 0, locals := 100 } s m [.ref (ad 0)].toArray below meth c H locs 0 0 (MQ below (wQi WM ad D cy res.1 res.2) [.ref (ad 0)].toArray s 0 0 (wA WM ad)) (F0 m 53 ls []) := by
      intro σe21_3 e0 ls H locs hl hw
      subst e0
      have hf := hE21_3
      refine lv_iconst (v := 1) hx hb dX11_undo_53 (by decide) ?_
      have er := Option.some.inj hf
      subst er
      exact wr_iret X hw hr (Or.inr ⟨rfl, (show bz (1 : Int32) = true from rfl)⟩) dX11_undo_54
    have lo21_3 : ∀ (n : Nat) (σ21_3 : St) (x1_21_3 : Int32) (_ : lp st21_3 n (σ21_3, x1_21_3) = some E21_3) (ls : Array Slot) (H : Heap) (locs : List Loc), lv_has ls 2 [(0, .ref (ad 0)), (1, .int x1_21_3)] → wH WM ad D cy s σ21_3 H locs → W p l e { frames := 1, cells := 0, slots := 0, locals := 100 } s m [.ref (ad 0)].toArray below meth c H locs 0 0 (MQ below (wQi WM ad D cy res.1 res.2) [.ref (ad 0)].toArray s 0 0 (wA WM ad)) (F0 m 21 ls []) := by
      intro n
      induction n with
      | zero =>
        intro σ21_3 x1_21_3 hf ls H locs hl hw
        exact (lp_zero hf).elim
      | succ n ih21_3 =>
        intro σ21_3 x1_21_3 hf ls H locs hl hw
        obtain ⟨q21_3, hf, hz21_3⟩ := lp_succ hf
        rw [est21_3] at hf
        replace hf := un2_some hf
        refine lv_iload_n hx hb dX11_undo_21 rfl (lv_at hl 1 rfl) ?_
        refine lv_bipush (v := 26) hx hb dX11_undo_22 (by decide) ?_
        refine lv_icmp_ge (tgt := 53) hx hb dX11_undo_24 (by decide) (fun c4 => ?_) (fun c4 => ?_)
        · have hf := (if_pos c4).symm.trans hf
          exact hx21_3 σ21_3 (lpK_inr (lp_leaf hf hz21_3)) ls H locs (lv_sub hl [] rfl) hw
        · have hf := (if_neg c4).symm.trans hf
          refine lv_aload_n hx hb dX11_undo_27 rfl (lv_at hl 0 rfl) ?_
          refine gX11_43 (b := 26) X hw sM0 nM0 rfl fl_X11_95 dX11_undo_28 ?_
          refine lv_iload_n hx hb dX11_undo_31 rfl (lv_at hl 1 rfl) ?_
          refine lv_aload_n hx hb dX11_undo_32 rfl (lv_at hl 0 rfl) ?_
          refine gX11_48 (b := 29) X hw sM0 nM0 rfl fl_X11_104 dX11_undo_33 ?_
          refine lv_bipush (v := 26) hx hb dX11_undo_36 (by decide) ?_
          refine lv_aload_n hx hb dX11_undo_38 rfl (lv_at hl 0 rfl) ?_
          refine gX11_47 X hw sM0 nM0 fl_X11_230 dX11_undo_39 ?_
          refine lv_imul hx hb dX11_undo_42 ?_
          refine lv_iload_n hx hb dX11_undo_43 rfl (lv_at hl 1 rfl) ?_
          refine lv_iadd hx hb dX11_undo_44 ?_
          obtain ⟨h5, hf⟩ := if_some hf
          refine wr_iald X hw sM29 nM29 h5 dX11_undo_45 ?_
          obtain ⟨h6, hf⟩ := if_some hf
          obtain ⟨σ7, eσ7, hf⟩ := wlet_some hf
          refine wr_iast X hw sM26 nM26 h6 dX11_undo_46 (fun H locs hw => ?_)
          replace hw := hw.to eσ7
          obtain ⟨v8, ev8, hf⟩ := wlet_some hf
          refine lv_iinc (v := v8) (lv' := [(1, .int v8), (0, .ref (ad 0))]) hx hb dX11_undo_47 hl (k := 1) rfl (by rw [ev8]; rfl) (by decide) rfl (fun ls hl => ?_)
          refine lv_goto (tgt := 21) hx hb dX11_undo_50 (by decide) ?_
          exact ih21_3 σ7 v8 (lp_leaf hf hz21_3) ls H locs (lv_sub hl [1, 0] rfl) hw
    exact lo21_3 fuel σ2 (0 : Int32) hq21_3 ls H locs (lv_sub hl [1, 0] rfl) hw
  · have hf := (if_pos c1).symm.trans hf
    refine lv_iconst (v := 0) hx hb dX11_undo_7 (by decide) ?_
    have er := Option.some.inj hf
    subst er
    exact wr_iret X hw hr (Or.inr ⟨rfl, (show bz (0 : Int32) = true from rfl)⟩) dX11_undo_8

def f_X11_year (σ : St) (x1 : Int32) (x2 : Int32) (x3 : Int32) : Option (Int32 × St) := Option.bind (f_X11_isCase σ x1) fun v2 => if v2 = 0 then (some ((-1 : Int32), σ)) else (Option.bind (f_X11_isLong x2) fun v5 => if v5 = 0 then (some ((-1 : Int32), σ)) else (Option.bind (f_X11_in x3 (1 : Int32) (20 : Int32)) fun v8 => if v8 = 0 then (some ((-1 : Int32), σ)) else (wlet (un3 (fun (σ33_10 : St) (x4_33_10 : Int32) (x5_33_10 : Int32) => if x3 ≤ x5_33_10 then (some (.inr (σ33_10, x4_33_10))) else (Option.bind (f_X11_copies σ33_10) fun σ13 => wlet (si σ13 0 45 ((σ13.1 0 45) + x5_33_10)) fun σ14 => Option.bind (f_X11_goes σ14 x2) fun σ16 => Option.bind (f_X11_isOn σ16 x1) fun v18 => if v18 = 0 then (wlet (x5_33_10 + (1 : Int32)) fun v20 => some (.inl (σ16, x4_33_10, v20))) else (wlet (x4_33_10 + (1 : Int32)) fun v21 => wlet (x5_33_10 + (1 : Int32)) fun v22 => some (.inl (σ16, v21, v22))))) : St × Int32 × Int32 → Option ((St × Int32 × Int32) ⊕ (St × Int32))) fun st33_10 => Option.bind (lp st33_10 fuel (σ, (0 : Int32), (0 : Int32))) ((un2 (fun (σe33_10 : St) (x4_e33_10 : Int32) => some (x4_e33_10, σe33_10)))))))
theorem hd_X11_year : yX11_year.cls = RX11 ∧ yX11_year.cls ≠ "java/lang/invoke/MethodHandle" ∧ yX11_year.cls ≠ "java/lang/invoke/VarHandle" ∧ (parseMethodDescriptor yX11_year.desc).map (fun d => d.parameters.length) = some 3 := by decide +kernel
set_option maxRecDepth 100000 in
set_option maxHeartbeats 4000000 in
theorem k_X11_year {l : Launch} {ad : Nat → Nat} {D : va_G} {cy : Nat → ClassId} {z : wStr} (hI : wI WM ad) {σ : St} {x1 : Int32} {x2 : Int32} {x3 : Int32}  {res : Int32 × St} (hf : f_X11_year σ x1 x2 x3 = some res) : wC WM ad D cy z l yX11_year (Cond.code yX11_year cX11_year 6 (Option.some Jvm.ClassFile.FieldType.int) :: aw) (7) (249) [.ref (ad 0), .int x1, .int x2, .int x3] σ (wQi WM ad D cy res.1 res.2) := by
  unfold f_X11_year at hf
  refine wr_start (own := RX11) hI (by decide +kernel) rfl (Nat.le_of_ble_eq_true rfl) rfl ?_
  intro p e s m below meth c ls X hw hr hl
  have hx := X.hx
  have hb := X.hb
  obtain ⟨H, eH⟩ : ∃ H : Heap, H = s.heap := ⟨_, rfl⟩
  obtain ⟨locs, el⟩ : ∃ locs : List Loc, locs = [] := ⟨_, rfl⟩
  rw [← eH, ← el] at hw ⊢
  clear eH el
  replace hl : lv_has ls 6 [(0, .ref (ad 0)), (1, .int x1), (2, .int x2), (3, .int x3)] := hl
  refine lv_aload_n hx hb dX11_year_0 rfl (lv_at hl 0 rfl) ?_
  refine lv_iload_n hx hb dX11_year_1 rfl (lv_at hl 1 rfl) ?_
  obtain ⟨v2, hq1, hf⟩ := bind_some hf
  refine wr_cVi (r := v2) (σ' := σ) (av := [.int x1]) (rest := []) X hw hl.1 sM0 nM0 rfl (k_X11_isCase hI hq1) rfl ml_X11_342 im_X11_isCase se_X11_isCase ini_X11 co_X11_isCase hd_X11_isCase ⟨Nat.le_of_ble_eq_true rfl, Nat.le_of_ble_eq_true rfl⟩ (Nat.le_of_ble_eq_true rfl) dX11_year_2 rfl (fun H locs hw => ?_)
  refine lv_if_eq (tgt := 25) hx hb dX11_year_5 (by decide) (fun c3 => ?_) (fun c3 => ?_)
  · have hf := (if_pos c3).symm.trans hf
    refine lv_iconst (v := -1) hx hb dX11_year_25 (by decide) ?_
    have er := Option.some.inj hf
    subst er
    exact wr_iret X hw hr (Or.inl rfl) dX11_year_26
  · have hf := (if_neg c3).symm.trans hf
    refine lv_iload_n hx hb dX11_year_8 rfl (lv_at hl 2 rfl) ?_
    obtain ⟨v5, hq4, hf⟩ := bind_some hf
    refine wr_cSi (r := v5) (σ' := σ) (av := [.int x2]) (rest := []) X hw hl.1 (k_X11_isLong hI hq4) rfl ml_X11_368 st_X11_isLong ini_X11 co_X11_isLong hd_X11_isLong ⟨Nat.le_of_ble_eq_true rfl, Nat.le_of_ble_eq_true rfl⟩ (Nat.le_of_ble_eq_true rfl) dX11_year_9 rfl (fun H locs hw => ?_)
    refine lv_if_eq (tgt := 25) hx hb dX11_year_12 (by decide) (fun c6 => ?_) (fun c6 => ?_)
    · have hf := (if_pos c6).symm.trans hf
      refine lv_iconst (v := -1) hx hb dX11_year_25 (by decide) ?_
      have er := Option.some.inj hf
      subst er
      exact wr_iret X hw hr (Or.inl rfl) dX11_year_26
    · have hf := (if_neg c6).symm.trans hf
      refine lv_iload_n hx hb dX11_year_15 rfl (lv_at hl 3 rfl) ?_
      refine lv_iconst (v := 1) hx hb dX11_year_16 (by decide) ?_
      refine lv_bipush (v := 20) hx hb dX11_year_17 (by decide) ?_
      obtain ⟨v8, hq7, hf⟩ := bind_some hf
      refine wr_cSi (r := v8) (σ' := σ) (av := [.int x3, .int (1 : Int32), .int (20 : Int32)]) (rest := []) X hw hl.1 (k_X11_in hI hq7) rfl ml_X11_282 st_X11_in ini_X11 co_X11_in hd_X11_in ⟨Nat.le_of_ble_eq_true rfl, Nat.le_of_ble_eq_true rfl⟩ (Nat.le_of_ble_eq_true rfl) dX11_year_19 rfl (fun H locs hw => ?_)
      refine lv_if_ne (tgt := 27) hx hb dX11_year_22 (by decide) (fun c9 => ?_) (fun c9 => ?_)
      · have hf := (if_neg c9).symm.trans hf
        refine lv_iconst (v := 0) hx hb dX11_year_27 (by decide) ?_
        refine lv_istore (lv' := [(4, .int (0 : Int32)), (0, .ref (ad 0)), (1, .int x1), (2, .int x2), (3, .int x3)]) hx hb dX11_year_28 hl (by decide) rfl (fun ls hl => ?_)
        refine lv_iconst (v := 0) hx hb dX11_year_30 (by decide) ?_
        refine lv_istore (lv' := [(5, .int (0 : Int32)), (4, .int (0 : Int32)), (0, .ref (ad 0)), (1, .int x1), (2, .int x2), (3, .int x3)]) hx hb dX11_year_31 hl (by decide) rfl (fun ls hl => ?_)
        obtain ⟨st33_10, est33_10, hf⟩ := wlet_some hf
        obtain ⟨E33_10, hq33_10, hE33_10⟩ := bind_some hf
        have hx33_10 : ∀ (σe33_10 : St) (x4_e33_10 : Int32) (_ : (σe33_10, x4_e33_10) = E33_10) (ls : Array Slot) (H : Heap) (locs : List Loc), lv_has ls 6 [(4, .int x4_e33_10)] → wH WM ad D cy s σe33_10 H locs → W p l e { frames := 7, cells := 0, slots := 0, locals := 249 } s m [.ref (ad 0), .int x1, .int x2, .int x3].toArray below meth c H locs 0 0 (MQ below (wQi WM ad D cy res.1 res.2) [.ref (ad 0), .int x1, .int x2, .int x3].toArray s 0 0 (wA WM ad)) (F0 m 76 ls []) := by
          intro σe33_10 x4_e33_10 e0 ls H locs hl hw
          subst e0
          have hf := hE33_10
          replace hf := un2_some hf
          refine lv_iload hx hb dX11_year_76 (lv_at hl 0 rfl) ?_
          have er := Option.some.inj hf
          subst er
          exact wr_iret X hw hr (Or.inl rfl) dX11_year_78
        have lo33_10 : ∀ (n : Nat) (σ33_10 : St) (x4_33_10 : Int32) (x5_33_10 : Int32) (_ : lp st33_10 n (σ33_10, x4_33_10, x5_33_10) = some E33_10) (ls : Array Slot) (H : Heap) (locs : List Loc), lv_has ls 6 [(0, .ref (ad 0)), (1, .int x1), (2, .int x2), (3, .int x3), (4, .int x4_33_10), (5, .int x5_33_10)] → wH WM ad D cy s σ33_10 H locs → W p l e { frames := 7, cells := 0, slots := 0, locals := 249 } s m [.ref (ad 0), .int x1, .int x2, .int x3].toArray below meth c H locs 0 0 (MQ below (wQi WM ad D cy res.1 res.2) [.ref (ad 0), .int x1, .int x2, .int x3].toArray s 0 0 (wA WM ad)) (F0 m 33 ls []) := by
          intro n
          induction n with
          | zero =>
            intro σ33_10 x4_33_10 x5_33_10 hf ls H locs hl hw
            exact (lp_zero hf).elim
          | succ n ih33_10 =>
            intro σ33_10 x4_33_10 x5_33_10 hf ls H locs hl hw
            obtain ⟨q33_10, hf, hz33_10⟩ := lp_succ hf
            rw [est33_10] at hf
            replace hf := un3_some hf
            refine lv_iload hx hb dX11_year_33 (lv_at hl 5 rfl) ?_
            refine lv_iload_n hx hb dX11_year_35 rfl (lv_at hl 3 rfl) ?_
            refine lv_icmp_ge (tgt := 76) hx hb dX11_year_36 (by decide) (fun c11 => ?_) (fun c11 => ?_)
            · have hf := (if_pos c11).symm.trans hf
              exact hx33_10 σ33_10 x4_33_10 (lpK_inr (lp_leaf hf hz33_10)) ls H locs (lv_sub hl [4] rfl) hw
            · have hf := (if_neg c11).symm.trans hf
              refine lv_aload_n hx hb dX11_year_39 rfl (lv_at hl 0 rfl) ?_
              obtain ⟨σ13, hq12, hf⟩ := bind_some hf
              refine wr_cVv (σ' := σ13) (av := []) (rest := []) X hw hl.1 sM0 nM0 rfl (k_X11_copies hI hq12) rfl ml_X11_345 im_X11_copies se_X11_copies ini_X11 co_X11_copies hd_X11_copies ⟨Nat.le_of_ble_eq_true rfl, Nat.le_of_ble_eq_true rfl⟩ (Nat.le_of_ble_eq_true rfl) dX11_year_40 rfl (fun H locs hw => ?_)
              refine lv_aload_n hx hb dX11_year_43 rfl (lv_at hl 0 rfl) ?_
              refine lv_dup hx hb dX11_year_44 rfl ?_
              refine gX11_45 X hw sM0 nM0 fl_X11_286 dX11_year_45 ?_
              refine lv_iload hx hb dX11_year_48 (lv_at hl 5 rfl) ?_
              refine lv_iadd hx hb dX11_year_50 ?_
              obtain ⟨σ14, eσ14, hf⟩ := wlet_some hf
              refine pX11_45 X hw sM0 nM0 fl_X11_286 dX11_year_51 (fun H locs hw => ?_)
              replace hw := hw.to eσ14
              refine lv_aload_n hx hb dX11_year_54 rfl (lv_at hl 0 rfl) ?_
              refine lv_iload_n hx hb dX11_year_55 rfl (lv_at hl 2 rfl) ?_
              obtain ⟨σ16, hq15, hf⟩ := bind_some hf
              refine wr_cVv (σ' := σ16) (av := [.int x2]) (rest := []) X hw hl.1 sM0 nM0 rfl (k_X11_goes hI hq15) rfl ml_X11_371 im_X11_goes se_X11_goes ini_X11 co_X11_goes hd_X11_goes ⟨Nat.le_of_ble_eq_true rfl, Nat.le_of_ble_eq_true rfl⟩ (Nat.le_of_ble_eq_true rfl) dX11_year_56 rfl (fun H locs hw => ?_)
              refine lv_aload_n hx hb dX11_year_59 rfl (lv_at hl 0 rfl) ?_
              refine lv_iload_n hx hb dX11_year_60 rfl (lv_at hl 1 rfl) ?_
              obtain ⟨v18, hq17, hf⟩ := bind_some hf
              refine wr_cVi (r := v18) (σ' := σ16) (av := [.int x1]) (rest := []) X hw hl.1 sM0 nM0 rfl (k_X11_isOn hI hq17) rfl ml_X11_348 im_X11_isOn se_X11_isOn ini_X11 co_X11_isOn hd_X11_isOn ⟨Nat.le_of_ble_eq_true rfl, Nat.le_of_ble_eq_true rfl⟩ (Nat.le_of_ble_eq_true rfl) dX11_year_61 rfl (fun H locs hw => ?_)
              refine lv_if_eq (tgt := 70) hx hb dX11_year_64 (by decide) (fun c19 => ?_) (fun c19 => ?_)
              · have hf := (if_pos c19).symm.trans hf
                obtain ⟨v20, ev20, hf⟩ := wlet_some hf
                refine lv_iinc (v := v20) (lv' := [(5, .int v20), (0, .ref (ad 0)), (1, .int x1), (2, .int x2), (3, .int x3), (4, .int x4_33_10)]) hx hb dX11_year_70 hl (k := 5) rfl (by rw [ev20]; rfl) (by decide) rfl (fun ls hl => ?_)
                refine lv_goto (tgt := 33) hx hb dX11_year_73 (by decide) ?_
                exact ih33_10 σ16 x4_33_10 v20 (lp_leaf hf hz33_10) ls H locs (lv_sub hl [1, 2, 3, 4, 5, 0] rfl) hw
              · have hf := (if_neg c19).symm.trans hf
                obtain ⟨v21, ev21, hf⟩ := wlet_some hf
                refine lv_iinc (v := v21) (lv' := [(4, .int v21), (0, .ref (ad 0)), (1, .int x1), (2, .int x2), (3, .int x3), (5, .int x5_33_10)]) hx hb dX11_year_67 hl (k := 4) rfl (by rw [ev21]; rfl) (by decide) rfl (fun ls hl => ?_)
                obtain ⟨v22, ev22, hf⟩ := wlet_some hf
                refine lv_iinc (v := v22) (lv' := [(5, .int v22), (4, .int v21), (0, .ref (ad 0)), (1, .int x1), (2, .int x2), (3, .int x3)]) hx hb dX11_year_70 hl (k := 5) rfl (by rw [ev22]; rfl) (by decide) rfl (fun ls hl => ?_)
                refine lv_goto (tgt := 33) hx hb dX11_year_73 (by decide) ?_
                exact ih33_10 σ16 v21 v22 (lp_leaf hf hz33_10) ls H locs (lv_sub hl [2, 3, 4, 5, 1, 0] rfl) hw
        exact lo33_10 fuel σ (0 : Int32) (0 : Int32) hq33_10 ls H locs (lv_sub hl [2, 3, 4, 5, 1, 0] rfl) hw
      · have hf := (if_pos c9).symm.trans hf
        refine lv_iconst (v := -1) hx hb dX11_year_25 (by decide) ?_
        have er := Option.some.inj hf
        subst er
        exact wr_iret X hw hr (Or.inl rfl) dX11_year_26
