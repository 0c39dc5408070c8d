def f_X10_added (σ : St) (o0 : Nat) : Option (Int32) := wlet (un2 (fun (x1_10_1 : Int32) (x4_10_1 : Int32) => if (7 : Int32) ≤ x4_10_1 then (some (.inr x1_10_1)) else (if ib x4_10_1 7 = true then wlet (σ.1 o0 (Int32.toNatClampNeg x4_10_1)) fun v4 => wlet (x1_10_1 + v4) fun v5 => wlet (x4_10_1 + (1 : Int32)) fun v6 => some (.inl (v5, v6)) else none)) : Int32 × Int32 → Option ((Int32 × Int32) ⊕ (Int32))) fun st10_1 => Option.bind (lp st10_1 fuel ((0 : Int32), (0 : Int32))) ((fun (x1_e10_1 : Int32) => some x1_e10_1))
theorem hd_X10_added : yX10_added.cls ≠ "java/lang/invoke/MethodHandle" ∧ yX10_added.cls ≠ "java/lang/invoke/VarHandle" ∧ (parseMethodDescriptor yX10_added.desc).map (fun d => d.parameters.length) = some 1 := by decide +kernel
set_option maxRecDepth 100000 in
set_option maxHeartbeats 4000000 in
theorem k_X10_added {l : Launch} {ad : Nat → Nat} {D : va_G} {cy : Nat → ClassId} {z : wStr} (hI : wI WC ad) {σ : St} {o0 : Nat} (ho0 : isA7 o0) {res : Int32} (hf : f_X10_added σ o0 = some res) : wC WC ad D cy z l yX10_added (Cond.code yX10_added cX10_added 6 (Option.some Jvm.ClassFile.FieldType.int) :: aw) (1) (100) [.ref (ad o0)] σ (wQi WC ad D cy res σ) := by
  unfold f_X10_added at hf
  refine wr_start (own := RX10) hI (by decide +kernel) rfl (Nat.le_of_ble_eq_true rfl) rfl ?_
  intro p e s m below meth c ls X hw hr hl
  have hx := X.hx
  have hb := X.hb
  obtain ⟨H, eH⟩ : ∃ H : Heap, H = s.heap := ⟨_, rfl⟩
  obtain ⟨locs, el⟩ : ∃ locs : List Loc, locs = [] := ⟨_, rfl⟩
  rw [← eH, ← el] at hw ⊢
  clear eH el
  replace hl : lv_has ls 6 [(0, .ref (ad o0))] := hl
  refine lv_iconst (v := 0) hx hb dX10_added_0 (by decide) ?_
  refine lv_istore_n (lv' := [(1, .int (0 : Int32)), (0, .ref (ad o0))]) hx hb dX10_added_1 rfl hl (by decide) rfl (fun ls hl => ?_)
  refine lv_aload_n hx hb dX10_added_2 rfl (lv_at hl 1 rfl) ?_
  refine lv_astore_n (lv' := [(2, .ref (ad o0)), (1, .int (0 : Int32)), (0, .ref (ad o0))]) hx hb dX10_added_3 rfl hl (by decide) rfl (fun ls hl => ?_)
  refine lv_aload_n hx hb dX10_added_4 rfl (lv_at hl 0 rfl) ?_
  refine wr_alen X hw (t := 0) (isA7.s0 ho0) (isA7.n0 ho0) (by decide) (v := 7) (by decide) dX10_added_5 ?_
  refine lv_istore_n (lv' := [(3, .int (7 : Int32)), (2, .ref (ad o0)), (1, .int (0 : Int32)), (0, .ref (ad o0))]) hx hb dX10_added_6 rfl hl (by decide) rfl (fun ls hl => ?_)
  refine lv_iconst (v := 0) hx hb dX10_added_7 (by decide) ?_
  refine lv_istore (lv' := [(4, .int (0 : Int32)), (3, .int (7 : Int32)), (2, .ref (ad o0)), (1, .int (0 : Int32)), (0, .ref (ad o0))]) hx hb dX10_added_8 hl (by decide) rfl (fun ls hl => ?_)
  obtain ⟨st10_1, est10_1, hf⟩ := wlet_some hf
  obtain ⟨E10_1, hq10_1, hE10_1⟩ := bind_some hf
  have hx10_1 : ∀ (x1_e10_1 : Int32) (_ : x1_e10_1 = E10_1) (ls : Array Slot) (H : Heap) (locs : List Loc), lv_has ls 6 [(1, .int x1_e10_1)] → wH WC ad D cy s σ H locs → W p l e { frames := 1, cells := 0, slots := 0, locals := 100 } s m [.ref (ad o0)].toArray below meth c H locs 0 0 (MQ below (wQi WC ad D cy res σ) [.ref (ad o0)].toArray s 0 0 (wA WC ad)) (F0 m 33 ls []) := by
    intro x1_e10_1 e0 ls H locs hl hw
    subst e0
    have hf := hE10_1
    refine lv_iload_n hx hb dX10_added_33 rfl (lv_at hl 0 rfl) ?_
    have er := Option.some.inj hf
    subst er
    exact wr_iret X hw hr (Or.inl rfl) dX10_added_34
  have lo10_1 : ∀ (n : Nat) (x1_10_1 : Int32) (x4_10_1 : Int32) (_ : lp st10_1 n (x1_10_1, x4_10_1) = some E10_1) (ls : Array Slot) (H : Heap) (locs : List Loc), lv_has ls 6 [(1, .int x1_10_1), (2, .ref (ad o0)), (3, .int (7 : Int32)), (4, .int x4_10_1)] → wH WC ad D cy s σ H locs → W p l e { frames := 1, cells := 0, slots := 0, locals := 100 } s m [.ref (ad o0)].toArray below meth c H locs 0 0 (MQ below (wQi WC ad D cy res σ) [.ref (ad o0)].toArray s 0 0 (wA WC ad)) (F0 m 10 ls []) := by
    intro n
    induction n with
    | zero =>
      intro x1_10_1 x4_10_1 hf ls H locs hl hw
      exact (lp_zero hf).elim
    | succ n ih10_1 =>
      intro x1_10_1 x4_10_1 hf ls H locs hl hw
      obtain ⟨q10_1, hf, hz10_1⟩ := lp_succ hf
      rw [est10_1] at hf
      replace hf := un2_some hf
      refine lv_iload hx hb dX10_added_10 (lv_at hl 3 rfl) ?_
      refine lv_iload_n hx hb dX10_added_12 rfl (lv_at hl 2 rfl) ?_
      refine lv_icmp_ge (tgt := 33) hx hb dX10_added_13 (by decide) (fun c2 => ?_) (fun c2 => ?_)
      · have hf := (if_pos c2).symm.trans hf
        exact hx10_1 x1_10_1 (lpK_inr (lp_leaf hf hz10_1)) ls H locs (lv_sub hl [0] rfl) hw
      · have hf := (if_neg c2).symm.trans hf
        refine lv_aload_n hx hb dX10_added_16 rfl (lv_at hl 1 rfl) ?_
        refine lv_iload hx hb dX10_added_17 (lv_at hl 3 rfl) ?_
        obtain ⟨h3, hf⟩ := if_some hf
        refine wr_iald X hw (isA7.s0 ho0) (isA7.n0 ho0) h3 dX10_added_19 ?_
        obtain ⟨v4, ev4, hf⟩ := wlet_some hf
        refine wr_top ev4 ?_
        refine lv_istore (lv' := [(5, .int v4), (1, .int x1_10_1), (2, .ref (ad o0)), (3, .int (7 : Int32)), (4, .int x4_10_1)]) hx hb dX10_added_20 hl (by decide) rfl (fun ls hl => ?_)
        refine lv_iload_n hx hb dX10_added_22 rfl (lv_at hl 1 rfl) ?_
        refine lv_iload hx hb dX10_added_23 (lv_at hl 0 rfl) ?_
        refine lv_iadd hx hb dX10_added_25 ?_
        obtain ⟨v5, ev5, hf⟩ := wlet_some hf
        refine wr_top ev5 ?_
        refine lv_istore_n (lv' := [(1, .int v5), (5, .int v4), (2, .ref (ad o0)), (3, .int (7 : Int32)), (4, .int x4_10_1)]) hx hb dX10_added_26 rfl hl (by decide) rfl (fun ls hl => ?_)
        obtain ⟨v6, ev6, hf⟩ := wlet_some hf
        refine lv_iinc (v := v6) (lv' := [(4, .int v6), (1, .int v5), (5, .int v4), (2, .ref (ad o0)), (3, .int (7 : Int32))]) hx hb dX10_added_27 hl (k := 4) rfl (by rw [ev6]; rfl) (by decide) rfl (fun ls hl => ?_)
        refine lv_goto (tgt := 10) hx hb dX10_added_30 (by decide) ?_
        exact ih10_1 v5 v6 (lp_leaf hf hz10_1) ls H locs (lv_sub hl [1, 3, 4, 0] rfl) hw
  exact lo10_1 fuel (0 : Int32) (0 : Int32) hq10_1 ls H locs (lv_sub hl [3, 2, 1, 0] rfl) hw

def f_X10_ask (σ : St) (x1 : Int32) (x2 : Int32) : Option (Int32 × St) := if x1 < 0 then (some ((-1 : Int32), σ)) else (if (σ.1 31 4) < x1 then (some ((-1 : Int32), σ)) else (if x2 < 0 then (some ((-1 : Int32), σ)) else (if x2 ≤ (999 : Int32) then (Option.bind (f_X2_layFirst σ 38) fun σ6 => Option.bind (f_X9_seekFitting σ6 x1 x2) fun σ8 => if (σ8.1 31 5) = 0 then (some ((-2 : Int32), σ8)) else (Option.bind (f_X9_placeToAsk σ8 (σ8.1 38 3)) fun v11 => some (v11, σ8))) else (some ((-1 : Int32), σ)))))
theorem hd_X10_ask : yX10_ask.cls = RX10 ∧ yX10_ask.cls ≠ "java/lang/invoke/MethodHandle" ∧ yX10_ask.cls ≠ "java/lang/invoke/VarHandle" ∧ (parseMethodDescriptor yX10_ask.desc).map (fun d => d.parameters.length) = some 2 := by decide +kernel
set_option maxRecDepth 100000 in
set_option maxHeartbeats 4000000 in
theorem k_X10_ask {l : Launch} {ad : Nat → Nat} {D : va_G} {cy : Nat → ClassId} {z : wStr} (hI : wI WC ad) {σ : St} {x1 : Int32} {x2 : Int32}  {res : Int32 × St} (hf : f_X10_ask σ x1 x2 = some res) : wC WC ad D cy z l yX10_ask (Cond.code yX10_ask cX10_ask 3 (Option.some Jvm.ClassFile.FieldType.int) :: aw) (7) (248) [.ref (ad 0), .int x1, .int x2] σ (wQi WC ad D cy res.1 res.2) := by
  unfold f_X10_ask at hf
  refine wr_start (own := RX10) hI (by decide +kernel) rfl (Nat.le_of_ble_eq_true rfl) rfl ?_
  intro p e s m below meth c ls X hw hr hl
  have hx := X.hx
  have hb := X.hb
  obtain ⟨H, eH⟩ : ∃ H : Heap, H = s.heap := ⟨_, rfl⟩
  obtain ⟨locs, el⟩ : ∃ locs : List Loc, locs = [] := ⟨_, rfl⟩
  rw [← eH, ← el] at hw ⊢
  clear eH el
  replace hl : lv_has ls 3 [(0, .ref (ad 0)), (1, .int x1), (2, .int x2)] := hl
  refine lv_iload_n hx hb dX10_ask_0 rfl (lv_at hl 1 rfl) ?_
  refine lv_if_lt (tgt := 26) hx hb dX10_ask_1 (by decide) (fun c1 => ?_) (fun c1 => ?_)
  · have hf := (if_pos c1).symm.trans hf
    refine lv_iconst (v := -1) hx hb dX10_ask_26 (by decide) ?_
    have er := Option.some.inj hf
    subst er
    exact wr_iret X hw hr (Or.inl rfl) dX10_ask_27
  · have hf := (if_neg c1).symm.trans hf
    refine lv_iload_n hx hb dX10_ask_4 rfl (lv_at hl 1 rfl) ?_
    refine lv_aload_n hx hb dX10_ask_5 rfl (lv_at hl 0 rfl) ?_
    refine gX10_6 (b := 31) X hw sC0 nC0 rfl fl_X10_62 dX10_ask_6 ?_
    refine gnX9_4 X hw sC31 nC31 fn_X10_112 dX10_ask_9 ?_
    refine lv_icmp_gt (tgt := 26) hx hb dX10_ask_12 (by decide) (fun c2 => ?_) (fun c2 => ?_)
    · have hf := (if_pos c2).symm.trans hf
      refine lv_iconst (v := -1) hx hb dX10_ask_26 (by decide) ?_
      have er := Option.some.inj hf
      subst er
      exact wr_iret X hw hr (Or.inl rfl) dX10_ask_27
    · have hf := (if_neg c2).symm.trans hf
      refine lv_iload_n hx hb dX10_ask_15 rfl (lv_at hl 2 rfl) ?_
      refine lv_if_lt (tgt := 26) hx hb dX10_ask_16 (by decide) (fun c3 => ?_) (fun c3 => ?_)
      · have hf := (if_pos c3).symm.trans hf
        refine lv_iconst (v := -1) hx hb dX10_ask_26 (by decide) ?_
        have er := Option.some.inj hf
        subst er
        exact wr_iret X hw hr (Or.inl rfl) dX10_ask_27
      · have hf := (if_neg c3).symm.trans hf
        refine lv_iload_n hx hb dX10_ask_19 rfl (lv_at hl 2 rfl) ?_
        refine lv_sipush (v := 999) hx hb dX10_ask_20 (by decide) ?_
        refine lv_icmp_le (tgt := 28) hx hb dX10_ask_23 (by decide) (fun c4 => ?_) (fun c4 => ?_)
        · have hf := (if_pos c4).symm.trans hf
          refine lv_aload_n hx hb dX10_ask_28 rfl (lv_at hl 0 rfl) ?_
          refine gX10_4 (b := 25) X hw sC0 nC0 rfl fl_X10_46 dX10_ask_29 ?_
          refine lv_aload_n hx hb dX10_ask_32 rfl (lv_at hl 0 rfl) ?_
          refine gX10_7 (b := 38) X hw sC0 nC0 rfl fl_X10_69 dX10_ask_33 ?_
          obtain ⟨σ6, hq5, hf⟩ := bind_some hf
          refine wr_cNv (σ' := σ6) (av := [.ref (ad 38)]) (rest := []) X hw hl.1 sC25 nC25 rfl (k_X2_layFirst hI st_now hq5) rfl mn_X10_211 im_X2_layFirst se_X2_layFirst ini_X2 co_X2_layFirst hd_X2_layFirst ⟨Nat.le_of_ble_eq_true rfl, Nat.le_of_ble_eq_true rfl⟩ (Nat.le_of_ble_eq_true rfl) dX10_ask_36 rfl (fun H locs hw => ?_)
          refine lv_aload_n hx hb dX10_ask_39 rfl (lv_at hl 0 rfl) ?_
          refine gX10_6 (b := 31) X hw sC0 nC0 rfl fl_X10_62 dX10_ask_40 ?_
          refine lv_aload_n hx hb dX10_ask_43 rfl (lv_at hl 0 rfl) ?_
          refine gX10_4 (b := 25) X hw sC0 nC0 rfl fl_X10_46 dX10_ask_44 ?_
          refine lv_iload_n hx hb dX10_ask_47 rfl (lv_at hl 1 rfl) ?_
          refine lv_iload_n hx hb dX10_ask_48 rfl (lv_at hl 2 rfl) ?_
          obtain ⟨σ8, hq7, hf⟩ := bind_some hf
          refine wr_cNv (σ' := σ8) (av := [.ref (ad 25), .int x1, .int x2]) (rest := []) X hw hl.1 sC31 nC31 rfl (k_X9_seekFitting hI hq7) rfl mn_X10_273 im_X9_seekFitting se_X9_seekFitting ini_X9 co_X9_seekFitting hd_X9_seekFitting ⟨Nat.le_of_ble_eq_true rfl, Nat.le_of_ble_eq_true rfl⟩ (Nat.le_of_ble_eq_true rfl) dX10_ask_49 rfl (fun H locs hw => ?_)
          refine lv_aload_n hx hb dX10_ask_52 rfl (lv_at hl 0 rfl) ?_
          refine gX10_6 (b := 31) X hw sC0 nC0 rfl fl_X10_62 dX10_ask_53 ?_
          refine gnX9_5 X hw sC31 nC31 fn_X10_277 dX10_ask_56 ?_
          refine lv_if_ne (tgt := 67) hx hb dX10_ask_59 (by decide) (fun c9 => ?_) (fun c9 => ?_)
          · have hf := (if_neg c9).symm.trans hf
            refine lv_aload_n hx hb dX10_ask_67 rfl (lv_at hl 0 rfl) ?_
            refine gX10_6 (b := 31) X hw sC0 nC0 rfl fl_X10_62 dX10_ask_68 ?_
            refine lv_aload_n hx hb dX10_ask_71 rfl (lv_at hl 0 rfl) ?_
            refine gX10_7 (b := 38) X hw sC0 nC0 rfl fl_X10_69 dX10_ask_72 ?_
            refine gnX6_3 X hw (isSt.s0 st_now) (isSt.n0 st_now) fn_X10_208 dX10_ask_75 ?_
            obtain ⟨v11, hq10, hf⟩ := bind_some hf
            refine wr_cNi (r := v11) (σ' := σ8) (av := [.int (σ8.1 38 3)]) (rest := []) X hw hl.1 sC31 nC31 rfl (k_X9_placeToAsk hI hq10) rfl mn_X10_283 im_X9_placeToAsk se_X9_placeToAsk ini_X9 co_X9_placeToAsk hd_X9_placeToAsk ⟨Nat.le_of_ble_eq_true rfl, Nat.le_of_ble_eq_true rfl⟩ (Nat.le_of_ble_eq_true rfl) dX10_ask_78 rfl (fun H locs hw => ?_)
            have er := Option.some.inj hf
            subst er
            exact wr_iret X hw hr (Or.inl rfl) dX10_ask_81
          · have hf := (if_pos c9).symm.trans hf
            refine lv_bipush (v := -2) hx hb dX10_ask_62 (by decide) ?_
            refine lv_goto (tgt := 81) hx hb dX10_ask_64 (by decide) ?_
            have er := Option.some.inj hf
            subst er
            exact wr_iret X hw hr (Or.inl rfl) dX10_ask_81
        · have hf := (if_neg c4).symm.trans hf
          refine lv_iconst (v := -1) hx hb dX10_ask_26 (by decide) ?_
          have er := Option.some.inj hf
          subst er
          exact wr_iret X hw hr (Or.inl rfl) dX10_ask_27

def f_X10_at (σ : St) (x1 : Int32) : Option (Int32) := Option.bind (f_X6_docketAt σ 38 x1) fun v2 => some v2
theorem hd_X10_at : yX10_at.cls = RX10 ∧ yX10_at.cls ≠ "java/lang/invoke/MethodHandle" ∧ yX10_at.cls ≠ "java/lang/invoke/VarHandle" ∧ (parseMethodDescriptor yX10_at.desc).map (fun d => d.parameters.length) = some 1 := by decide +kernel
set_option maxRecDepth 100000 in
set_option maxHeartbeats 4000000 in
theorem k_X10_at {l : Launch} {ad : Nat → Nat} {D : va_G} {cy : Nat → ClassId} {z : wStr} (hI : wI WC ad) {σ : St} {x1 : Int32}  {res : Int32} (hf : f_X10_at σ x1 = some res) : wC WC ad D cy z l yX10_at (Cond.code yX10_at cX10_at 2 (Option.some Jvm.ClassFile.FieldType.int) :: aw) (2) (121) [.ref (ad 0), .int x1] σ (wQi WC ad D cy res σ) := by
  unfold f_X10_at at hf
  refine wr_start (own := RX10) hI (by decide +kernel) rfl (Nat.le_of_ble_eq_true rfl) rfl ?_
  intro p e s m below meth c ls X hw hr hl
  have hx := X.hx
  have hb := X.hb
  obtain ⟨H, eH⟩ : ∃ H : Heap, H = s.heap := ⟨_, rfl⟩
  obtain ⟨locs, el⟩ : ∃ locs : List Loc, locs = [] := ⟨_, rfl⟩
  rw [← eH, ← el] at hw ⊢
  clear eH el
  replace hl : lv_has ls 2 [(0, .ref (ad 0)), (1, .int x1)] := hl
  refine lv_aload_n hx hb dX10_at_0 rfl (lv_at hl 0 rfl) ?_
  refine gX10_7 (b := 38) X hw sC0 nC0 rfl fl_X10_69 dX10_at_1 ?_
  refine lv_iload_n hx hb dX10_at_4 rfl (lv_at hl 1 rfl) ?_
  obtain ⟨v2, hq1, hf⟩ := bind_some hf
  refine wr_cNi (r := v2) (σ' := σ) (av := [.int x1]) (rest := []) X hw hl.1 (isSt.s0 st_now) (isSt.n0 st_now) rfl (k_X6_docketAt hI st_now hq1) rfl mn_X10_165 im_X6_docketAt se_X6_docketAt ini_X6 co_X6_docketAt hd_X6_docketAt ⟨Nat.le_of_ble_eq_true rfl, Nat.le_of_ble_eq_true rfl⟩ (Nat.le_of_ble_eq_true rfl) dX10_at_5 rfl (fun H locs hw => ?_)
  have er := Option.some.inj hf
  subst er
  exact wr_iret X hw hr (Or.inl rfl) dX10_at_8

def f_X10_back (σ : St) (x1 : Int32) : Option (Int32 × St) := if x1 < 0 then (some ((-1 : Int32), σ)) else (if x1 ≤ (σ.1 2 1) then (wlet (si σ 2 1 ((σ.1 2 1) - x1)) fun σ3 => some ((σ3.1 2 1), σ3)) else (some ((-1 : Int32), σ)))
theorem hd_X10_back : yX10_back.cls = RX10 ∧ yX10_back.cls ≠ "java/lang/invoke/MethodHandle" ∧ yX10_back.cls ≠ "java/lang/invoke/VarHandle" ∧ (parseMethodDescriptor yX10_back.desc).map (fun d => d.parameters.length) = some 1 := by decide +kernel
set_option maxRecDepth 100000 in
set_option maxHeartbeats 4000000 in
theorem k_X10_back {l : Launch} {ad : Nat → Nat} {D : va_G} {cy : Nat → ClassId} {z : wStr} (hI : wI WC ad) {σ : St} {x1 : Int32}  {res : Int32 × St} (hf : f_X10_back σ x1 = some res) : wC WC ad D cy z l yX10_back (Cond.code yX10_back cX10_back 2 (Option.some Jvm.ClassFile.FieldType.int) :: aw) (1) (100) [.ref (ad 0), .int x1] σ (wQi WC ad D cy res.1 res.2) := by
  unfold f_X10_back at hf
  refine wr_start (own := RX10) hI (by decide +kernel) rfl (Nat.le_of_ble_eq_true rfl) rfl ?_
  intro p e s m below meth c ls X hw hr hl
  have hx := X.hx
  have hb := X.hb
  obtain ⟨H, eH⟩ : ∃ H : Heap, H = s.heap := ⟨_, rfl⟩
  obtain ⟨locs, el⟩ : ∃ locs : List Loc, locs = [] := ⟨_, rfl⟩
  rw [← eH, ← el] at hw ⊢
  clear eH el
  replace hl : lv_has ls 2 [(0, .ref (ad 0)), (1, .int x1)] := hl
  refine lv_iload_n hx hb dX10_back_0 rfl (lv_at hl 1 rfl) ?_
  refine lv_if_lt (tgt := 15) hx hb dX10_back_1 (by decide) (fun c1 => ?_) (fun c1 => ?_)
  · have hf := (if_pos c1).symm.trans hf
    refine lv_iconst (v := -1) hx hb dX10_back_15 (by decide) ?_
    have er := Option.some.inj hf
    subst er
    exact wr_iret X hw hr (Or.inl rfl) dX10_back_16
  · have hf := (if_neg c1).symm.trans hf
    refine lv_iload_n hx hb dX10_back_4 rfl (lv_at hl 1 rfl) ?_
    refine lv_aload_n hx hb dX10_back_5 rfl (lv_at hl 0 rfl) ?_
    refine gX10_0 (b := 2) X hw sC0 nC0 rfl fl_X10_10 dX10_back_6 ?_
    refine gnX7_1 X hw sC2 nC2 fn_X10_88 dX10_back_9 ?_
    refine lv_icmp_le (tgt := 17) hx hb dX10_back_12 (by decide) (fun c2 => ?_) (fun c2 => ?_)
    · have hf := (if_pos c2).symm.trans hf
      refine lv_aload_n hx hb dX10_back_17 rfl (lv_at hl 0 rfl) ?_
      refine gX10_0 (b := 2) X hw sC0 nC0 rfl fl_X10_10 dX10_back_18 ?_
      refine lv_dup hx hb dX10_back_21 rfl ?_
      refine gnX7_1 X hw sC2 nC2 fn_X10_88 dX10_back_22 ?_
      refine lv_iload_n hx hb dX10_back_25 rfl (lv_at hl 1 rfl) ?_
      refine lv_isub hx hb dX10_back_26 ?_
      obtain ⟨σ3, eσ3, hf⟩ := wlet_some hf
      refine pnX7_1 X hw sC2 nC2 fn_X10_88 dX10_back_27 (fun H locs hw => ?_)
      replace hw := hw.to eσ3
      refine lv_aload_n hx hb dX10_back_30 rfl (lv_at hl 0 rfl) ?_
      refine gX10_0 (b := 2) X hw sC0 nC0 rfl fl_X10_10 dX10_back_31 ?_
      refine gnX7_1 X hw sC2 nC2 fn_X10_88 dX10_back_34 ?_
      have er := Option.some.inj hf
      subst er
      exact wr_iret X hw hr (Or.inl rfl) dX10_back_37
    · have hf := (if_neg c2).symm.trans hf
      refine lv_iconst (v := -1) hx hb dX10_back_15 (by decide) ?_
      have er := Option.some.inj hf
      subst er
      exact wr_iret X hw hr (Or.inl rfl) dX10_back_16

def f_X10_behind (σ : St) (x1 : Int32) : Option (Int32) := Option.bind (f_X6_isListed σ 38 x1) fun v2 => if v2 = 0 then (some (-1 : Int32)) else (Option.bind (f_X6_behindOf σ 38 x1) fun v5 => if v5 = (-1 : Int32) then (some (-2 : Int32)) else (some v5))
theorem hd_X10_behind : yX10_behind.cls = RX10 ∧ yX10_behind.cls ≠ "java/lang/invoke/MethodHandle" ∧ yX10_behind.cls ≠ "java/lang/invoke/VarHandle" ∧ (parseMethodDescriptor yX10_behind.desc).map (fun d => d.parameters.length) = some 1 := by decide +kernel
set_option maxRecDepth 100000 in
set_option maxHeartbeats 4000000 in
theorem k_X10_behind {l : Launch} {ad : Nat → Nat} {D : va_G} {cy : Nat → ClassId} {z : wStr} (hI : wI WC ad) {σ : St} {x1 : Int32}  {res : Int32} (hf : f_X10_behind σ x1 = some res) : wC WC ad D cy z l yX10_behind (Cond.code yX10_behind cX10_behind 3 (Option.some Jvm.ClassFile.FieldType.int) :: aw) (3) (144) [.ref (ad 0), .int x1] σ (wQi WC ad D cy res σ) := by
  unfold f_X10_behind at hf
  refine wr_start (own := RX10) hI (by decide +kernel) rfl (Nat.le_of_ble_eq_true rfl) rfl ?_
  intro p e s m below meth c ls X hw hr hl
  have hx := X.hx
  have hb := X.hb
  obtain ⟨H, eH⟩ : ∃ H : Heap, H = s.heap := ⟨_, rfl⟩
  obtain ⟨locs, el⟩ : ∃ locs : List Loc, locs = [] := ⟨_, rfl⟩
  rw [← eH, ← el] at hw ⊢
  clear eH el
  replace hl : lv_has ls 3 [(0, .ref (ad 0)), (1, .int x1)] := hl
  refine lv_aload_n hx hb dX10_behind_0 rfl (lv_at hl 0 rfl) ?_
  refine gX10_7 (b := 38) X hw sC0 nC0 rfl fl_X10_69 dX10_behind_1 ?_
  refine lv_iload_n hx hb dX10_behind_4 rfl (lv_at hl 1 rfl) ?_
  obtain ⟨v2, hq1, hf⟩ := bind_some hf
  refine wr_cNi (r := v2) (σ' := σ) (av := [.int x1]) (rest := []) X hw hl.1 (isSt.s0 st_now) (isSt.n0 st_now) rfl (k_X6_isListed hI st_now hq1) rfl mn_X10_127 im_X6_isListed se_X6_isListed ini_X6 co_X6_isListed hd_X6_isListed ⟨Nat.le_of_ble_eq_true rfl, Nat.le_of_ble_eq_true rfl⟩ (Nat.le_of_ble_eq_true rfl) dX10_behind_5 rfl (fun H locs hw => ?_)
  refine lv_if_ne (tgt := 13) hx hb dX10_behind_8 (by decide) (fun c3 => ?_) (fun c3 => ?_)
  · have hf := (if_neg c3).symm.trans hf
    refine lv_aload_n hx hb dX10_behind_13 rfl (lv_at hl 0 rfl) ?_
    refine gX10_7 (b := 38) X hw sC0 nC0 rfl fl_X10_69 dX10_behind_14 ?_
    refine lv_iload_n hx hb dX10_behind_17 rfl (lv_at hl 1 rfl) ?_
    obtain ⟨v5, hq4, hf⟩ := bind_some hf
    refine wr_cNi (r := v5) (σ' := σ) (av := [.int x1]) (rest := []) X hw hl.1 (isSt.s0 st_now) (isSt.n0 st_now) rfl (k_X6_behindOf hI st_now hq4) rfl mn_X10_185 im_X6_behindOf se_X6_behindOf ini_X6 co_X6_behindOf hd_X6_behindOf ⟨Nat.le_of_ble_eq_true rfl, Nat.le_of_ble_eq_true rfl⟩ (Nat.le_of_ble_eq_true rfl) dX10_behind_18 rfl (fun H locs hw => ?_)
    refine lv_istore_n (lv' := [(2, .int v5), (0, .ref (ad 0)), (1, .int x1)]) hx hb dX10_behind_21 rfl hl (by decide) rfl (fun ls hl => ?_)
    refine lv_iload_n hx hb dX10_behind_22 rfl (lv_at hl 0 rfl) ?_
    refine lv_iconst (v := -1) hx hb dX10_behind_23 (by decide) ?_
    refine lv_icmp_ne (tgt := 32) hx hb dX10_behind_24 (by decide) (fun c6 => ?_) (fun c6 => ?_)
    · have hf := (if_neg c6).symm.trans hf
      refine lv_iload_n hx hb dX10_behind_32 rfl (lv_at hl 0 rfl) ?_
      have er := Option.some.inj hf
      subst er
      exact wr_iret X hw hr (Or.inl rfl) dX10_behind_33
    · have hf := (if_pos c6).symm.trans hf
      refine lv_bipush (v := -2) hx hb dX10_behind_27 (by decide) ?_
      refine lv_goto (tgt := 33) hx hb dX10_behind_29 (by decide) ?_
      have er := Option.some.inj hf
      subst er
      exact wr_iret X hw hr (Or.inl rfl) dX10_behind_33
  · have hf := (if_pos c3).symm.trans hf
    refine lv_iconst (v := -1) hx hb dX10_behind_11 (by decide) ?_
    have er := Option.some.inj hf
    subst er
    exact wr_iret X hw hr (Or.inl rfl) dX10_behind_12

def f_X10_best (σ : St) (x1 : Int32) (x2 : Int32) : Option (Int32 × St) := if x1 < 0 then (some ((-1 : Int32), σ)) else (if (3 : Int32) < x1 then (some ((-1 : Int32), σ)) else (if x2 < (-2 : Int32) then (some ((-1 : Int32), σ)) else (if x2 < (σ.1 38 3) then (Option.bind (f_X2_layFirst σ 38) fun σ6 => Option.bind (f_X2_seekBest σ6 x1) fun σ8 => if x2 = (-1 : Int32) then (some ((σ8.1 25 6), σ8)) else (if x2 = (-2 : Int32) then (some ((σ8.1 25 7), σ8)) else (Option.bind (f_X2_bestAt σ8 x2) fun v12 => some (v12, σ8)))) else (some ((-1 : Int32), σ)))))
theorem hd_X10_best : yX10_best.cls = RX10 ∧ yX10_best.cls ≠ "java/lang/invoke/MethodHandle" ∧ yX10_best.cls ≠ "java/lang/invoke/VarHandle" ∧ (parseMethodDescriptor yX10_best.desc).map (fun d => d.parameters.length) = some 2 := by decide +kernel
set_option maxRecDepth 100000 in
set_option maxHeartbeats 4000000 in
theorem k_X10_best {l : Launch} {ad : Nat → Nat} {D : va_G} {cy : Nat → ClassId} {z : wStr} (hI : wI WC ad) {σ : St} {x1 : Int32} {x2 : Int32}  {res : Int32 × St} (hf : f_X10_best σ x1 x2 = some res) : wC WC ad D cy z l yX10_best (Cond.code yX10_best cX10_best 3 (Option.some Jvm.ClassFile.FieldType.int) :: aw) (7) (248) [.ref (ad 0), .int x1, .int x2] σ (wQi WC ad D cy res.1 res.2) := by
  unfold f_X10_best at hf
  refine wr_start (own := RX10) hI (by decide +kernel) rfl (Nat.le_of_ble_eq_true rfl) rfl ?_
  intro p e s m below meth c ls X hw hr hl
  have hx := X.hx
  have hb := X.hb
  obtain ⟨H, eH⟩ : ∃ H : Heap, H = s.heap := ⟨_, rfl⟩
  obtain ⟨locs, el⟩ : ∃ locs : List Loc, locs = [] := ⟨_, rfl⟩
  rw [← eH, ← el] at hw ⊢
  clear eH el
  replace hl : lv_has ls 3 [(0, .ref (ad 0)), (1, .int x1), (2, .int x2)] := hl
  refine lv_iload_n hx hb dX10_best_0 rfl (lv_at hl 1 rfl) ?_
  refine lv_if_lt (tgt := 26) hx hb dX10_best_1 (by decide) (fun c1 => ?_) (fun c1 => ?_)
  · have hf := (if_pos c1).symm.trans hf
    refine lv_iconst (v := -1) hx hb dX10_best_26 (by decide) ?_
    have er := Option.some.inj hf
    subst er
    exact wr_iret X hw hr (Or.inl rfl) dX10_best_27
  · have hf := (if_neg c1).symm.trans hf
    refine lv_iload_n hx hb dX10_best_4 rfl (lv_at hl 1 rfl) ?_
    refine lv_iconst (v := 3) hx hb dX10_best_5 (by decide) ?_
    refine lv_icmp_gt (tgt := 26) hx hb dX10_best_6 (by decide) (fun c2 => ?_) (fun c2 => ?_)
    · have hf := (if_pos c2).symm.trans hf
      refine lv_iconst (v := -1) hx hb dX10_best_26 (by decide) ?_
      have er := Option.some.inj hf
      subst er
      exact wr_iret X hw hr (Or.inl rfl) dX10_best_27
    · have hf := (if_neg c2).symm.trans hf
      refine lv_iload_n hx hb dX10_best_9 rfl (lv_at hl 2 rfl) ?_
      refine lv_bipush (v := -2) hx hb dX10_best_10 (by decide) ?_
      refine lv_icmp_lt (tgt := 26) hx hb dX10_best_12 (by decide) (fun c3 => ?_) (fun c3 => ?_)
      · have hf := (if_pos c3).symm.trans hf
        refine lv_iconst (v := -1) hx hb dX10_best_26 (by decide) ?_
        have er := Option.some.inj hf
        subst er
        exact wr_iret X hw hr (Or.inl rfl) dX10_best_27
      · have hf := (if_neg c3).symm.trans hf
        refine lv_iload_n hx hb dX10_best_15 rfl (lv_at hl 2 rfl) ?_
        refine lv_aload_n hx hb dX10_best_16 rfl (lv_at hl 0 rfl) ?_
        refine gX10_7 (b := 38) X hw sC0 nC0 rfl fl_X10_69 dX10_best_17 ?_
        refine gnX6_3 X hw (isSt.s0 st_now) (isSt.n0 st_now) fn_X10_208 dX10_best_20 ?_
        refine lv_icmp_lt (tgt := 28) hx hb dX10_best_23 (by decide) (fun c4 => ?_) (fun c4 => ?_)
        · have hf := (if_pos c4).symm.trans hf
          refine lv_aload_n hx hb dX10_best_28 rfl (lv_at hl 0 rfl) ?_
          refine gX10_4 (b := 25) X hw sC0 nC0 rfl fl_X10_46 dX10_best_29 ?_
          refine lv_aload_n hx hb dX10_best_32 rfl (lv_at hl 0 rfl) ?_
          refine gX10_7 (b := 38) X hw sC0 nC0 rfl fl_X10_69 dX10_best_33 ?_
          obtain ⟨σ6, hq5, hf⟩ := bind_some hf
          refine wr_cNv (σ' := σ6) (av := [.ref (ad 38)]) (rest := []) X hw hl.1 sC25 nC25 rfl (k_X2_layFirst hI st_now hq5) rfl mn_X10_211 im_X2_layFirst se_X2_layFirst ini_X2 co_X2_layFirst hd_X2_layFirst ⟨Nat.le_of_ble_eq_true rfl, Nat.le_of_ble_eq_true rfl⟩ (Nat.le_of_ble_eq_true rfl) dX10_best_36 rfl (fun H locs hw => ?_)
          refine lv_aload_n hx hb dX10_best_39 rfl (lv_at hl 0 rfl) ?_
          refine gX10_4 (b := 25) X hw sC0 nC0 rfl fl_X10_46 dX10_best_40 ?_
          refine lv_iload_n hx hb dX10_best_43 rfl (lv_at hl 1 rfl) ?_
          obtain ⟨σ8, hq7, hf⟩ := bind_some hf
          refine wr_cNv (σ' := σ8) (av := [.int x1]) (rest := []) X hw hl.1 sC25 nC25 rfl (k_X2_seekBest hI hq7) rfl mn_X10_214 im_X2_seekBest se_X2_seekBest ini_X2 co_X2_seekBest hd_X2_seekBest ⟨Nat.le_of_ble_eq_true rfl, Nat.le_of_ble_eq_true rfl⟩ (Nat.le_of_ble_eq_true rfl) dX10_best_44 rfl (fun H locs hw => ?_)
          refine lv_iload_n hx hb dX10_best_47 rfl (lv_at hl 2 rfl) ?_
          refine lv_iconst (v := -1) hx hb dX10_best_48 (by decide) ?_
          refine lv_icmp_ne (tgt := 60) hx hb dX10_best_49 (by decide) (fun c9 => ?_) (fun c9 => ?_)
          · have hf := (if_neg c9).symm.trans hf
            refine lv_iload_n hx hb dX10_best_60 rfl (lv_at hl 2 rfl) ?_
            refine lv_bipush (v := -2) hx hb dX10_best_61 (by decide) ?_
            refine lv_icmp_ne (tgt := 76) hx hb dX10_best_63 (by decide) (fun c10 => ?_) (fun c10 => ?_)
            · have hf := (if_neg c10).symm.trans hf
              refine lv_aload_n hx hb dX10_best_76 rfl (lv_at hl 0 rfl) ?_
              refine gX10_4 (b := 25) X hw sC0 nC0 rfl fl_X10_46 dX10_best_77 ?_
              refine lv_iload_n hx hb dX10_best_80 rfl (lv_at hl 2 rfl) ?_
              obtain ⟨v12, hq11, hf⟩ := bind_some hf
              refine wr_cNi (r := v12) (σ' := σ8) (av := [.int x2]) (rest := []) X hw hl.1 sC25 nC25 rfl (k_X2_bestAt hI hq11) rfl mn_X10_223 im_X2_bestAt se_X2_bestAt ini_X2 co_X2_bestAt hd_X2_bestAt ⟨Nat.le_of_ble_eq_true rfl, Nat.le_of_ble_eq_true rfl⟩ (Nat.le_of_ble_eq_true rfl) dX10_best_81 rfl (fun H locs hw => ?_)
              have er := Option.some.inj hf
              subst er
              exact wr_iret X hw hr (Or.inl rfl) dX10_best_84
            · have hf := (if_pos c10).symm.trans hf
              refine lv_aload_n hx hb dX10_best_66 rfl (lv_at hl 0 rfl) ?_
              refine gX10_4 (b := 25) X hw sC0 nC0 rfl fl_X10_46 dX10_best_67 ?_
              refine gnX2_7 X hw sC25 nC25 fn_X10_220 dX10_best_70 ?_
              refine lv_goto (tgt := 84) hx hb dX10_best_73 (by decide) ?_
              have er := Option.some.inj hf
              subst er
              exact wr_iret X hw hr (Or.inl rfl) dX10_best_84
          · have hf := (if_pos c9).symm.trans hf
            refine lv_aload_n hx hb dX10_best_52 rfl (lv_at hl 0 rfl) ?_
            refine gX10_4 (b := 25) X hw sC0 nC0 rfl fl_X10_46 dX10_best_53 ?_
            refine gnX2_6 X hw sC25 nC25 fn_X10_217 dX10_best_56 ?_
            have er := Option.some.inj hf
            subst er
            exact wr_iret X hw hr (Or.inl rfl) dX10_best_59
        · have hf := (if_neg c4).symm.trans hf
          refine lv_iconst (v := -1) hx hb dX10_best_26 (by decide) ?_
          have er := Option.some.inj hf
          subst er
          exact wr_iret X hw hr (Or.inl rfl) dX10_best_27

def f_X10_buyers (σ : St)  : Option (Int32 × St) := bnd2 (f_X3_buyersOf σ 38) fun v2 σ3 => some (v2, σ3)
theorem hd_X10_buyers : yX10_buyers.cls = RX10 ∧ yX10_buyers.cls ≠ "java/lang/invoke/MethodHandle" ∧ yX10_buyers.cls ≠ "java/lang/invoke/VarHandle" ∧ (parseMethodDescriptor yX10_buyers.desc).map (fun d => d.parameters.length) = some 0 := by decide +kernel
set_option maxRecDepth 100000 in
set_option maxHeartbeats 4000000 in
theorem k_X10_buyers {l : Launch} {ad : Nat → Nat} {D : va_G} {cy : Nat → ClassId} {z : wStr} (hI : wI WC ad) {σ : St}   {res : Int32 × St} (hf : f_X10_buyers σ  = some res) : wC WC ad D cy z l yX10_buyers (Cond.code yX10_buyers cX10_buyers 1 (Option.some Jvm.ClassFile.FieldType.int) :: aw) (8) (270) [.ref (ad 0)] σ (wQi WC ad D cy res.1 res.2) := by
  unfold f_X10_buyers at hf
  refine wr_start (own := RX10) hI (by decide +kernel) rfl (Nat.le_of_ble_eq_true rfl) rfl ?_
  intro p e s m below meth c ls X hw hr hl
  have hx := X.hx
  have hb := X.hb
  obtain ⟨H, eH⟩ : ∃ H : Heap, H = s.heap := ⟨_, rfl⟩
  obtain ⟨locs, el⟩ : ∃ locs : List Loc, locs = [] := ⟨_, rfl⟩
  rw [← eH, ← el] at hw ⊢
  clear eH el
  replace hl : lv_has ls 1 [(0, .ref (ad 0))] := hl
  refine lv_aload_n hx hb dX10_buyers_0 rfl (lv_at hl 0 rfl) ?_
  refine gX10_5 (b := 30) X hw sC0 nC0 rfl fl_X10_55 dX10_buyers_1 ?_
  refine lv_aload_n hx hb dX10_buyers_4 rfl (lv_at hl 0 rfl) ?_
  refine gX10_7 (b := 38) X hw sC0 nC0 rfl fl_X10_69 dX10_buyers_5 ?_
  obtain ⟨v2, σ3, hq1, hf⟩ := bnd2_some hf
  refine wr_cNi (r := v2) (σ' := σ3) (av := [.ref (ad 38)]) (rest := []) X hw hl.1 sC30 nC30 rfl (k_X3_buyersOf hI st_now hq1) rfl mn_X10_249 im_X3_buyersOf se_X3_buyersOf ini_X3 co_X3_buyersOf hd_X3_buyersOf ⟨Nat.le_of_ble_eq_true rfl, Nat.le_of_ble_eq_true rfl⟩ (Nat.le_of_ble_eq_true rfl) dX10_buyers_8 rfl (fun H locs hw => ?_)
  have er := Option.some.inj hf
  subst er
  exact wr_iret X hw hr (Or.inl rfl) dX10_buyers_11

def f_X10_change (σ : St) (x1 : Int32) (x2 : Int32) : Option (Int32 × St) := if x1 = x2 then (some ((0 : Int32), σ)) else (Option.bind (f_X6_isListed σ 38 x1) fun v3 => if v3 = 0 then (some ((0 : Int32), σ)) else (Option.bind (f_X6_isListed σ 38 x2) fun v6 => if v6 = 0 then (some ((0 : Int32), σ)) else (Option.bind (f_X0_remember σ 38) fun σ9 => Option.bind (f_X6_swap σ9 38 x1 x2) fun σ11 => some ((1 : Int32), σ11))))
theorem hd_X10_change : yX10_change.cls = RX10 ∧ yX10_change.cls ≠ "java/lang/invoke/MethodHandle" ∧ yX10_change.cls ≠ "java/lang/invoke/VarHandle" ∧ (parseMethodDescriptor yX10_change.desc).map (fun d => d.parameters.length) = some 2 := by decide +kernel
set_option maxRecDepth 100000 in
set_option maxHeartbeats 4000000 in
theorem k_X10_change {l : Launch} {ad : Nat → Nat} {D : va_G} {cy : Nat → ClassId} {z : wStr} (hI : wI WC ad) {σ : St} {x1 : Int32} {x2 : Int32}  {res : Int32 × St} (hf : f_X10_change σ x1 x2 = some res) : wC WC ad D cy z l yX10_change (Cond.code yX10_change cX10_change 3 (Option.some Jvm.ClassFile.FieldType.boolean) :: aw) (3) (146) [.ref (ad 0), .int x1, .int x2] σ (wQi WC ad D cy res.1 res.2) := by
  unfold f_X10_change at hf
  refine wr_start (own := RX10) hI (by decide +kernel) rfl (Nat.le_of_ble_eq_true rfl) rfl ?_
  intro p e s m below meth c ls X hw hr hl
  have hx := X.hx
  have hb := X.hb
  obtain ⟨H, eH⟩ : ∃ H : Heap, H = s.heap := ⟨_, rfl⟩
  obtain ⟨locs, el⟩ : ∃ locs : List Loc, locs = [] := ⟨_, rfl⟩
  rw [← eH, ← el] at hw ⊢
  clear eH el
  replace hl : lv_has ls 3 [(0, .ref (ad 0)), (1, .int x1), (2, .int x2)] := hl
  refine lv_iload_n hx hb dX10_change_0 rfl (lv_at hl 1 rfl) ?_
  refine lv_iload_n hx hb dX10_change_1 rfl (lv_at hl 2 rfl) ?_
  refine lv_icmp_eq (tgt := 27) hx hb dX10_change_2 (by decide) (fun c1 => ?_) (fun c1 => ?_)
  · have hf := (if_pos c1).symm.trans hf
    refine lv_iconst (v := 0) hx hb dX10_change_27 (by decide) ?_
    have er := Option.some.inj hf
    subst er
    exact wr_iret X hw hr (Or.inr ⟨rfl, (show bz (0 : Int32) = true from rfl)⟩) dX10_change_28
  · have hf := (if_neg c1).symm.trans hf
    refine lv_aload_n hx hb dX10_change_5 rfl (lv_at hl 0 rfl) ?_
    refine gX10_7 (b := 38) X hw sC0 nC0 rfl fl_X10_69 dX10_change_6 ?_
    refine lv_iload_n hx hb dX10_change_9 rfl (lv_at hl 1 rfl) ?_
    obtain ⟨v3, hq2, hf⟩ := bind_some hf
    refine wr_cNi (r := v3) (σ' := σ) (av := [.int x1]) (rest := []) X hw hl.1 (isSt.s0 st_now) (isSt.n0 st_now) rfl (k_X6_isListed hI st_now hq2) rfl mn_X10_127 im_X6_isListed se_X6_isListed ini_X6 co_X6_isListed hd_X6_isListed ⟨Nat.le_of_ble_eq_true rfl, Nat.le_of_ble_eq_true rfl⟩ (Nat.le_of_ble_eq_true rfl) dX10_change_10 rfl (fun H locs hw => ?_)
    refine lv_if_eq (tgt := 27) hx hb dX10_change_13 (by decide) (fun c4 => ?_) (fun c4 => ?_)
    · have hf := (if_pos c4).symm.trans hf
      refine lv_iconst (v := 0) hx hb dX10_change_27 (by decide) ?_
      have er := Option.some.inj hf
      subst er
      exact wr_iret X hw hr (Or.inr ⟨rfl, (show bz (0 : Int32) = true from rfl)⟩) dX10_change_28
    · have hf := (if_neg c4).symm.trans hf
      refine lv_aload_n hx hb dX10_change_16 rfl (lv_at hl 0 rfl) ?_
      refine gX10_7 (b := 38) X hw sC0 nC0 rfl fl_X10_69 dX10_change_17 ?_
      refine lv_iload_n hx hb dX10_change_20 rfl (lv_at hl 2 rfl) ?_
      obtain ⟨v6, hq5, hf⟩ := bind_some hf
      refine wr_cNi (r := v6) (σ' := σ) (av := [.int x2]) (rest := []) X hw hl.1 (isSt.s0 st_now) (isSt.n0 st_now) rfl (k_X6_isListed hI st_now hq5) rfl mn_X10_127 im_X6_isListed se_X6_isListed ini_X6 co_X6_isListed hd_X6_isListed ⟨Nat.le_of_ble_eq_true rfl, Nat.le_of_ble_eq_true rfl⟩ (Nat.le_of_ble_eq_true rfl) dX10_change_21 rfl (fun H locs hw => ?_)
      refine lv_if_ne (tgt := 29) hx hb dX10_change_24 (by decide) (fun c7 => ?_) (fun c7 => ?_)
      · have hf := (if_neg c7).symm.trans hf
        refine lv_aload_n hx hb dX10_change_29 rfl (lv_at hl 0 rfl) ?_
        refine gX10_8 (b := 36) X hw sC0 nC0 rfl fl_X10_76 dX10_change_30 ?_
        refine lv_aload_n hx hb dX10_change_33 rfl (lv_at hl 0 rfl) ?_
        refine gX10_7 (b := 38) X hw sC0 nC0 rfl fl_X10_69 dX10_change_34 ?_
        obtain ⟨σ9, hq8, hf⟩ := bind_some hf
        refine wr_cNv (σ' := σ9) (av := [.ref (ad 38)]) (rest := []) X hw hl.1 sC36 nC36 rfl (k_X0_remember hI st_now hq8) rfl mn_X10_168 im_X0_remember se_X0_remember ini_X0 co_X0_remember hd_X0_remember ⟨Nat.le_of_ble_eq_true rfl, Nat.le_of_ble_eq_true rfl⟩ (Nat.le_of_ble_eq_true rfl) dX10_change_37 rfl (fun H locs hw => ?_)
        refine lv_aload_n hx hb dX10_change_40 rfl (lv_at hl 0 rfl) ?_
        refine gX10_7 (b := 38) X hw sC0 nC0 rfl fl_X10_69 dX10_change_41 ?_
        refine lv_iload_n hx hb dX10_change_44 rfl (lv_at hl 1 rfl) ?_
        refine lv_iload_n hx hb dX10_change_45 rfl (lv_at hl 2 rfl) ?_
        obtain ⟨σ11, hq10, hf⟩ := bind_some hf
        refine wr_cNv (σ' := σ11) (av := [.int x1, .int x2]) (rest := []) X hw hl.1 (isSt.s0 st_now) (isSt.n0 st_now) rfl (k_X6_swap hI st_now hq10) rfl mn_X10_172 im_X6_swap se_X6_swap ini_X6 co_X6_swap hd_X6_swap ⟨Nat.le_of_ble_eq_true rfl, Nat.le_of_ble_eq_true rfl⟩ (Nat.le_of_ble_eq_true rfl) dX10_change_46 rfl (fun H locs hw => ?_)
        refine lv_iconst (v := 1) hx hb dX10_change_49 (by decide) ?_
        have er := Option.some.inj hf
        subst er
        exact wr_iret X hw hr (Or.inr ⟨rfl, (show bz (1 : Int32) = true from rfl)⟩) dX10_change_50
      · have hf := (if_pos c7).symm.trans hf
        refine lv_iconst (v := 0) hx hb dX10_change_27 (by decide) ?_
        have er := Option.some.inj hf
        subst er
        exact wr_iret X hw hr (Or.inr ⟨rfl, (show bz (0 : Int32) = true from rfl)⟩) dX10_change_28

def f_X10_isAtRest (σ : St)  : Option (Int32 × St) := Option.bind (f_X2_layAsListed σ 38) fun σ2 => bnd2 (f_X2_isResting σ2) fun v4 σ5 => if bz v4 = true then some (v4, σ5) else none
theorem hd_X10_isAtRest : yX10_isAtRest.cls = RX10 ∧ yX10_isAtRest.cls ≠ "java/lang/invoke/MethodHandle" ∧ yX10_isAtRest.cls ≠ "java/lang/invoke/VarHandle" ∧ (parseMethodDescriptor yX10_isAtRest.desc).map (fun d => d.parameters.length) = some 0 := by decide +kernel
set_option maxRecDepth 100000 in
set_option maxHeartbeats 4000000 in
theorem k_X10_isAtRest {l : Launch} {ad : Nat → Nat} {D : va_G} {cy : Nat → ClassId} {z : wStr} (hI : wI WC ad) {σ : St}   {res : Int32 × St} (hf : f_X10_isAtRest σ  = some res) : wC WC ad D cy z l yX10_isAtRest (Cond.code yX10_isAtRest cX10_isAtRest 1 (Option.some Jvm.ClassFile.FieldType.boolean) :: aw) (7) (248) [.ref (ad 0)] σ (wQi WC ad D cy res.1 res.2) := by
  unfold f_X10_isAtRest at hf
  refine wr_start (own := RX10) hI (by decide +kernel) rfl (Nat.le_of_ble_eq_true rfl) rfl ?_
  intro p e s m below meth c ls X hw hr hl
  have hx := X.hx
  have hb := X.hb
  obtain ⟨H, eH⟩ : ∃ H : Heap, H = s.heap := ⟨_, rfl⟩
  obtain ⟨locs, el⟩ : ∃ locs : List Loc, locs = [] := ⟨_, rfl⟩
  rw [← eH, ← el] at hw ⊢
  clear eH el
  replace hl : lv_has ls 1 [(0, .ref (ad 0))] := hl
  refine lv_aload_n hx hb dX10_isAtRest_0 rfl (lv_at hl 0 rfl) ?_
  refine gX10_4 (b := 25) X hw sC0 nC0 rfl fl_X10_46 dX10_isAtRest_1 ?_
  refine lv_aload_n hx hb dX10_isAtRest_4 rfl (lv_at hl 0 rfl) ?_
  refine gX10_7 (b := 38) X hw sC0 nC0 rfl fl_X10_69 dX10_isAtRest_5 ?_
  obtain ⟨σ2, hq1, hf⟩ := bind_some hf
  refine wr_cNv (σ' := σ2) (av := [.ref (ad 38)]) (rest := []) X hw hl.1 sC25 nC25 rfl (k_X2_layAsListed hI st_now hq1) rfl mn_X10_226 im_X2_layAsListed se_X2_layAsListed ini_X2 co_X2_layAsListed hd_X2_layAsListed ⟨Nat.le_of_ble_eq_true rfl, Nat.le_of_ble_eq_true rfl⟩ (Nat.le_of_ble_eq_true rfl) dX10_isAtRest_8 rfl (fun H locs hw => ?_)
  refine lv_aload_n hx hb dX10_isAtRest_11 rfl (lv_at hl 0 rfl) ?_
  refine gX10_4 (b := 25) X hw sC0 nC0 rfl fl_X10_46 dX10_isAtRest_12 ?_
  obtain ⟨v4, σ5, hq3, hf⟩ := bnd2_some hf
  refine wr_cNi (r := v4) (σ' := σ5) (av := []) (rest := []) X hw hl.1 sC25 nC25 rfl (k_X2_isResting hI hq3) rfl mn_X10_325 im_X2_isResting se_X2_isResting ini_X2 co_X2_isResting hd_X2_isResting ⟨Nat.le_of_ble_eq_true rfl, Nat.le_of_ble_eq_true rfl⟩ (Nat.le_of_ble_eq_true rfl) dX10_isAtRest_15 rfl (fun H locs hw => ?_)
  obtain ⟨hz, hf⟩ := if_some hf
  have er := Option.some.inj hf
  subst er
  exact wr_iret X hw hr (Or.inr ⟨rfl, hz⟩) dX10_isAtRest_18

def f_X10_spared (σ : St)  : Option (Int32 × St) := Option.bind (f_X2_layFirst σ 38) fun σ2 => Option.bind (f_X2_seekBest σ2 (0 : Int32)) fun σ4 => bnd2 (f_X1_allSuffering σ4 38) fun v6 σ7 => some ((v6 - (σ7.1 25 6)), σ7)
theorem hd_X10_spared : yX10_spared.cls = RX10 ∧ yX10_spared.cls ≠ "java/lang/invoke/MethodHandle" ∧ yX10_spared.cls ≠ "java/lang/invoke/VarHandle" ∧ (parseMethodDescriptor yX10_spared.desc).map (fun d => d.parameters.length) = some 0 := by decide +kernel
set_option maxRecDepth 100000 in
set_option maxHeartbeats 4000000 in
theorem k_X10_spared {l : Launch} {ad : Nat → Nat} {D : va_G} {cy : Nat → ClassId} {z : wStr} (hI : wI WC ad) {σ : St}   {res : Int32 × St} (hf : f_X10_spared σ  = some res) : wC WC ad D cy z l yX10_spared (Cond.code yX10_spared cX10_spared 1 (Option.some Jvm.ClassFile.FieldType.int) :: aw) (7) (248) [.ref (ad 0)] σ (wQi WC ad D cy res.1 res.2) := by
  unfold f_X10_spared at hf
  refine wr_start (own := RX10) hI (by decide +kernel) rfl (Nat.le_of_ble_eq_true rfl) rfl ?_
  intro p e s m below meth c ls X hw hr hl
  have hx := X.hx
  have hb := X.hb
  obtain ⟨H, eH⟩ : ∃ H : Heap, H = s.heap := ⟨_, rfl⟩
  obtain ⟨locs, el⟩ : ∃ locs : List Loc, locs = [] := ⟨_, rfl⟩
  rw [← eH, ← el] at hw ⊢
  clear eH el
  replace hl : lv_has ls 1 [(0, .ref (ad 0))] := hl
  refine lv_aload_n hx hb dX10_spared_0 rfl (lv_at hl 0 rfl) ?_
  refine gX10_4 (b := 25) X hw sC0 nC0 rfl fl_X10_46 dX10_spared_1 ?_
  refine lv_aload_n hx hb dX10_spared_4 rfl (lv_at hl 0 rfl) ?_
  refine gX10_7 (b := 38) X hw sC0 nC0 rfl fl_X10_69 dX10_spared_5 ?_
  obtain ⟨σ2, hq1, hf⟩ := bind_some hf
  refine wr_cNv (σ' := σ2) (av := [.ref (ad 38)]) (rest := []) X hw hl.1 sC25 nC25 rfl (k_X2_layFirst hI st_now hq1) rfl mn_X10_211 im_X2_layFirst se_X2_layFirst ini_X2 co_X2_layFirst hd_X2_layFirst ⟨Nat.le_of_ble_eq_true rfl, Nat.le_of_ble_eq_true rfl⟩ (Nat.le_of_ble_eq_true rfl) dX10_spared_8 rfl (fun H locs hw => ?_)
  refine lv_aload_n hx hb dX10_spared_11 rfl (lv_at hl 0 rfl) ?_
  refine gX10_4 (b := 25) X hw sC0 nC0 rfl fl_X10_46 dX10_spared_12 ?_
  refine lv_iconst (v := 0) hx hb dX10_spared_15 (by decide) ?_
  obtain ⟨σ4, hq3, hf⟩ := bind_some hf
  refine wr_cNv (σ' := σ4) (av := [.int (0 : Int32)]) (rest := []) X hw hl.1 sC25 nC25 rfl (k_X2_seekBest hI hq3) rfl mn_X10_214 im_X2_seekBest se_X2_seekBest ini_X2 co_X2_seekBest hd_X2_seekBest ⟨Nat.le_of_ble_eq_true rfl, Nat.le_of_ble_eq_true rfl⟩ (Nat.le_of_ble_eq_true rfl) dX10_spared_16 rfl (fun H locs hw => ?_)
  refine lv_aload_n hx hb dX10_spared_19 rfl (lv_at hl 0 rfl) ?_
  refine gX10_3 (b := 21) X hw sC0 nC0 rfl fl_X10_37 dX10_spared_20 ?_
  refine lv_aload_n hx hb dX10_spared_23 rfl (lv_at hl 0 rfl) ?_
  refine gX10_7 (b := 38) X hw sC0 nC0 rfl fl_X10_69 dX10_spared_24 ?_
  obtain ⟨v6, σ7, hq5, hf⟩ := bnd2_some hf
  refine wr_cNi (r := v6) (σ' := σ7) (av := [.ref (ad 38)]) (rest := []) X hw hl.1 sC21 nC21 rfl (k_X1_allSuffering hI st_now hq5) rfl mn_X10_291 im_X1_allSuffering se_X1_allSuffering ini_X1 co_X1_allSuffering hd_X1_allSuffering ⟨Nat.le_of_ble_eq_true rfl, Nat.le_of_ble_eq_true rfl⟩ (Nat.le_of_ble_eq_true rfl) dX10_spared_27 rfl (fun H locs hw => ?_)
  refine lv_aload_n hx hb dX10_spared_30 rfl (lv_at hl 0 rfl) ?_
  refine gX10_4 (b := 25) X hw sC0 nC0 rfl fl_X10_46 dX10_spared_31 ?_
  refine gnX2_6 X hw sC25 nC25 fn_X10_217 dX10_spared_34 ?_
  refine lv_isub hx hb dX10_spared_37 ?_
  have er := Option.some.inj hf
  subst er
  exact wr_iret X hw hr (Or.inl rfl) dX10_spared_38

def f_X10_unlisted (σ : St)  : Option (Int32) := wlet (un2 (fun (x1_4_1 : Int32) (x2_4_1 : Int32) => if (σ.1 4 6) ≤ x2_4_1 then (some (.inr x1_4_1)) else (Option.bind (f_X6_isListed σ 38 x2_4_1) fun v4 => if v4 = 0 then (wlet (x1_4_1 ||| ((1 : Int32) <<< (x2_4_1 &&& 31))) fun v7 => wlet (x2_4_1 + (1 : Int32)) fun v8 => some (.inl (v7, v8))) else (wlet (x2_4_1 + (1 : Int32)) fun v6 => some (.inl (x1_4_1, v6))))) : Int32 × Int32 → Option ((Int32 × Int32) ⊕ (Int32))) fun st4_1 => Option.bind (lp st4_1 fuel ((0 : Int32), (0 : Int32))) ((fun (x1_e4_1 : Int32) => some x1_e4_1))
theorem hd_X10_unlisted : yX10_unlisted.cls = RX10 ∧ yX10_unlisted.cls ≠ "java/lang/invoke/MethodHandle" ∧ yX10_unlisted.cls ≠ "java/lang/invoke/VarHandle" ∧ (parseMethodDescriptor yX10_unlisted.desc).map (fun d => d.parameters.length) = some 0 := by decide +kernel
set_option maxRecDepth 100000 in
set_option maxHeartbeats 4000000 in
theorem k_X10_unlisted {l : Launch} {ad : Nat → Nat} {D : va_G} {cy : Nat → ClassId} {z : wStr} (hI : wI WC ad) {σ : St}   {res : Int32} (hf : f_X10_unlisted σ  = some res) : wC WC ad D cy z l yX10_unlisted (Cond.code yX10_unlisted cX10_unlisted 3 (Option.some Jvm.ClassFile.FieldType.int) :: aw) (3) (143) [.ref (ad 0)] σ (wQi WC ad D cy res σ) := by
  unfold f_X10_unlisted at hf
  refine wr_start (own := RX10) hI (by decide +kernel) rfl (Nat.le_of_ble_eq_true rfl) rfl ?_
  intro p e s m below meth c ls X hw hr hl
  have hx := X.hx
  have hb := X.hb
  obtain ⟨H, eH⟩ : ∃ H : Heap, H = s.heap := ⟨_, rfl⟩
  obtain ⟨locs, el⟩ : ∃ locs : List Loc, locs = [] := ⟨_, rfl⟩
  rw [← eH, ← el] at hw ⊢
  clear eH el
  replace hl : lv_has ls 3 [(0, .ref (ad 0))] := hl
  refine lv_iconst (v := 0) hx hb dX10_unlisted_0 (by decide) ?_
  refine lv_istore_n (lv' := [(1, .int (0 : Int32)), (0, .ref (ad 0))]) hx hb dX10_unlisted_1 rfl hl (by decide) rfl (fun ls hl => ?_)
  refine lv_iconst (v := 0) hx hb dX10_unlisted_2 (by decide) ?_
  refine lv_istore_n (lv' := [(2, .int (0 : Int32)), (1, .int (0 : Int32)), (0, .ref (ad 0))]) hx hb dX10_unlisted_3 rfl hl (by decide) rfl (fun ls hl => ?_)
  obtain ⟨st4_1, est4_1, hf⟩ := wlet_some hf
  obtain ⟨E4_1, hq4_1, hE4_1⟩ := bind_some hf
  have hx4_1 : ∀ (x1_e4_1 : Int32) (_ : x1_e4_1 = E4_1) (ls : Array Slot) (H : Heap) (locs : List Loc), lv_has ls 3 [(1, .int x1_e4_1)] → wH WC ad D cy s σ H locs → W p l e { frames := 3, cells := 0, slots := 0, locals := 143 } s m [.ref (ad 0)].toArray below meth c H locs 0 0 (MQ below (wQi WC ad D cy res σ) [.ref (ad 0)].toArray s 0 0 (wA WC ad)) (F0 m 38 ls []) := by
    intro x1_e4_1 e0 ls H locs hl hw
    subst e0
    have hf := hE4_1
    refine lv_iload_n hx hb dX10_unlisted_38 rfl (lv_at hl 0 rfl) ?_
    have er := Option.some.inj hf
    subst er
    exact wr_iret X hw hr (Or.inl rfl) dX10_unlisted_39
  have lo4_1 : ∀ (n : Nat) (x1_4_1 : Int32) (x2_4_1 : Int32) (_ : lp st4_1 n (x1_4_1, x2_4_1) = some E4_1) (ls : Array Slot) (H : Heap) (locs : List Loc), lv_has ls 3 [(0, .ref (ad 0)), (1, .int x1_4_1), (2, .int x2_4_1)] → wH WC ad D cy s σ H locs → W p l e { frames := 3, cells := 0, slots := 0, locals := 143 } s m [.ref (ad 0)].toArray below meth c H locs 0 0 (MQ below (wQi WC ad D cy res σ) [.ref (ad 0)].toArray s 0 0 (wA WC ad)) (F0 m 4 ls []) := by
    intro n
    induction n with
    | zero =>
      intro x1_4_1 x2_4_1 hf ls H locs hl hw
      exact (lp_zero hf).elim
    | succ n ih4_1 =>
      intro x1_4_1 x2_4_1 hf ls H locs hl hw
      obtain ⟨q4_1, hf, hz4_1⟩ := lp_succ hf
      rw [est4_1] at hf
      replace hf := un2_some hf
      refine lv_iload_n hx hb dX10_unlisted_4 rfl (lv_at hl 2 rfl) ?_
      refine lv_aload_n hx hb dX10_unlisted_5 rfl (lv_at hl 0 rfl) ?_
      refine gX10_1 (b := 4) X hw sC0 nC0 rfl fl_X10_19 dX10_unlisted_6 ?_
      refine gnX8_6 X hw sC4 nC4 fn_X10_288 dX10_unlisted_9 ?_
      refine lv_icmp_ge (tgt := 38) hx hb dX10_unlisted_12 (by decide) (fun c2 => ?_) (fun c2 => ?_)
      · have hf := (if_pos c2).symm.trans hf
        exact hx4_1 x1_4_1 (lpK_inr (lp_leaf hf hz4_1)) ls H locs (lv_sub hl [1] rfl) hw
      · have hf := (if_neg c2).symm.trans hf
        refine lv_aload_n hx hb dX10_unlisted_15 rfl (lv_at hl 0 rfl) ?_
        refine gX10_7 (b := 38) X hw sC0 nC0 rfl fl_X10_69 dX10_unlisted_16 ?_
        refine lv_iload_n hx hb dX10_unlisted_19 rfl (lv_at hl 2 rfl) ?_
        obtain ⟨v4, hq3, hf⟩ := bind_some hf
        refine wr_cNi (r := v4) (σ' := σ) (av := [.int x2_4_1]) (rest := []) X hw hl.1 (isSt.s0 st_now) (isSt.n0 st_now) rfl (k_X6_isListed hI st_now hq3) rfl mn_X10_127 im_X6_isListed se_X6_isListed ini_X6 co_X6_isListed hd_X6_isListed ⟨Nat.le_of_ble_eq_true rfl, Nat.le_of_ble_eq_true rfl⟩ (Nat.le_of_ble_eq_true rfl) dX10_unlisted_20 rfl (fun H locs hw => ?_)
        refine lv_if_ne (tgt := 32) hx hb dX10_unlisted_23 (by decide) (fun c5 => ?_) (fun c5 => ?_)
        · have hf := (if_neg c5).symm.trans hf
          obtain ⟨v6, ev6, hf⟩ := wlet_some hf
          refine lv_iinc (v := v6) (lv' := [(2, .int v6), (0, .ref (ad 0)), (1, .int x1_4_1)]) hx hb dX10_unlisted_32 hl (k := 2) rfl (by rw [ev6]; rfl) (by decide) rfl (fun ls hl => ?_)
          refine lv_goto (tgt := 4) hx hb dX10_unlisted_35 (by decide) ?_
          exact ih4_1 x1_4_1 v6 (lp_leaf hf hz4_1) ls H locs (lv_sub hl [1, 2, 0] rfl) hw
        · have hf := (if_pos c5).symm.trans hf
          refine lv_iload_n hx hb dX10_unlisted_26 rfl (lv_at hl 1 rfl) ?_
          refine lv_iconst (v := 1) hx hb dX10_unlisted_27 (by decide) ?_
          refine lv_iload_n hx hb dX10_unlisted_28 rfl (lv_at hl 2 rfl) ?_
          refine lv_ishl hx hb dX10_unlisted_29 ?_
          refine lv_ior hx hb dX10_unlisted_30 ?_
          obtain ⟨v7, ev7, hf⟩ := wlet_some hf
          refine wr_top ev7 ?_
          refine lv_istore_n (lv' := [(1, .int v7), (0, .ref (ad 0)), (2, .int x2_4_1)]) hx hb dX10_unlisted_31 rfl hl (by decide) rfl (fun ls hl => ?_)
          obtain ⟨v8, ev8, hf⟩ := wlet_some hf
          refine lv_iinc (v := v8) (lv' := [(2, .int v8), (1, .int v7), (0, .ref (ad 0))]) hx hb dX10_unlisted_32 hl (k := 2) rfl (by rw [ev8]; rfl) (by decide) rfl (fun ls hl => ?_)
          refine lv_goto (tgt := 4) hx hb dX10_unlisted_35 (by decide) ?_
          exact ih4_1 v7 v8 (lp_leaf hf hz4_1) ls H locs (lv_sub hl [2, 1, 0] rfl) hw
  exact lo4_1 fuel (0 : Int32) (0 : Int32) hq4_1 ls H locs (lv_sub hl [2, 1, 0] rfl) hw

def f_X10_count (σ : St) (x1 : Int32) : Option (Int32 × St) := if x1 = (0 : Int32) then (some ((σ.1 4 6), σ)) else if x1 = (1 : Int32) then (some ((σ.1 38 3), σ)) else if x1 = (2 : Int32) then (some ((σ.1 38 6), σ)) else if x1 = (3 : Int32) then (some ((σ.1 38 5), σ)) else if x1 = (4 : Int32) then (bnd2 (f_X1_allSuffering σ 38) fun v7 σ8 => some (v7, σ8)) else if x1 = (5 : Int32) then (Option.bind (f_X10_added σ 41) fun v11 => some (v11, σ)) else if x1 = (6 : Int32) then (some ((σ.1 38 4), σ)) else if x1 = (7 : Int32) then (Option.bind (f_X10_added σ 40) fun v15 => some (v15, σ)) else if x1 = (8 : Int32) then (some ((σ.1 2 1), σ)) else if x1 = (9 : Int32) then (some ((σ.1 36 1), σ)) else if x1 = (10 : Int32) then (some ((σ.1 31 4), σ)) else if x1 = (11 : Int32) then (Option.bind (f_J6_bitCount_0f7a4 (σ.1 0 10)) fun v21 => some (v21, σ)) else if x1 = (12 : Int32) then (some ((σ.1 38 7), σ)) else if x1 = (13 : Int32) then (bnd2 (f_X10_isAtRest σ) fun v25 σ26 => if v25 = 0 then (some ((0 : Int32), σ26)) else (some ((1 : Int32), σ26))) else if x1 = (14 : Int32) then (bnd2 (f_X1_worstSuffering σ 38) fun v30 σ31 => some (v30, σ31)) else if x1 = (15 : Int32) then (Option.bind (f_X10_unlisted σ) fun v34 => some (v34, σ)) else if x1 = (16 : Int32) then (bnd2 (f_X1_allDue σ 38) fun v37 σ38 => some (v37, σ38)) else if x1 = (17 : Int32) then (bnd2 (f_X3_buyersOf σ 38) fun v41 σ42 => Option.bind (f_J6_bitCount_0f7a4 v41) fun v44 => some (v44, σ42)) else if x1 = (18 : Int32) then (bnd2 (f_X10_spared σ) fun v47 σ48 => some (v47, σ48)) else (some ((-1 : Int32), σ))
theorem hd_X10_count : yX10_count.cls = RX10 ∧ yX10_count.cls ≠ "java/lang/invoke/MethodHandle" ∧ yX10_count.cls ≠ "java/lang/invoke/VarHandle" ∧ (parseMethodDescriptor yX10_count.desc).map (fun d => d.parameters.length) = some 1 := by decide +kernel
set_option maxRecDepth 100000 in
set_option maxHeartbeats 4000000 in
theorem k_X10_count {l : Launch} {ad : Nat → Nat} {D : va_G} {cy : Nat → ClassId} {z : wStr} (hI : wI WC ad) {σ : St} {x1 : Int32}  {res : Int32 × St} (hf : f_X10_count σ x1 = some res) : wC WC ad D cy z l yX10_count (Cond.code yX10_count cX10_count 2 (Option.some Jvm.ClassFile.FieldType.int) :: aw) (8) (270) [.ref (ad 0), .int x1] σ (wQi WC ad D cy res.1 res.2) := by
  unfold f_X10_count at hf
  refine wr_start (own := RX10) hI (by decide +kernel) rfl (Nat.le_of_ble_eq_true rfl) rfl ?_
  intro p e s m below meth c ls X hw hr hl
  have hx := X.hx
  have hb := X.hb
  obtain ⟨H, eH⟩ : ∃ H : Heap, H = s.heap := ⟨_, rfl⟩
  obtain ⟨locs, el⟩ : ∃ locs : List Loc, locs = [] := ⟨_, rfl⟩
  rw [← eH, ← el] at hw ⊢
  clear eH el
  replace hl : lv_has ls 2 [(0, .ref (ad 0)), (1, .int x1)] := hl
  refine lv_iload_n hx hb dX10_count_0 rfl (lv_at hl 1 rfl) ?_
  by_cases c1 : x1 = (0 : Int32)
  · have hf := (if_pos c1).symm.trans hf
    refine lv_tableIn (tgt := 92) (off := 91) hx hb dX10_count_1 (by rw [c1]; decide) (by rw [c1]; decide) (by rw [c1]; rfl) (by decide) ?_
    refine lv_aload_n hx hb dX10_count_92 rfl (lv_at hl 0 rfl) ?_
    refine gX10_1 (b := 4) X hw sC0 nC0 rfl fl_X10_19 dX10_count_93 ?_
    refine gnX8_6 X hw sC4 nC4 fn_X10_288 dX10_count_96 ?_
    have er := Option.some.inj hf
    subst er
    exact wr_iret X hw hr (Or.inl rfl) dX10_count_99
  have hf := (if_neg c1).symm.trans hf
  by_cases c2 : x1 = (1 : Int32)
  · have hf := (if_pos c2).symm.trans hf
    refine lv_tableIn (tgt := 100) (off := 99) hx hb dX10_count_1 (by rw [c2]; decide) (by rw [c2]; decide) (by rw [c2]; rfl) (by decide) ?_
    refine lv_aload_n hx hb dX10_count_100 rfl (lv_at hl 0 rfl) ?_
    refine gX10_7 (b := 38) X hw sC0 nC0 rfl fl_X10_69 dX10_count_101 ?_
    refine gnX6_3 X hw (isSt.s0 st_now) (isSt.n0 st_now) fn_X10_208 dX10_count_104 ?_
    have er := Option.some.inj hf
    subst er
    exact wr_iret X hw hr (Or.inl rfl) dX10_count_107
  have hf := (if_neg c2).symm.trans hf
  by_cases c3 : x1 = (2 : Int32)
  · have hf := (if_pos c3).symm.trans hf
    refine lv_tableIn (tgt := 108) (off := 107) hx hb dX10_count_1 (by rw [c3]; decide) (by rw [c3]; decide) (by rw [c3]; rfl) (by decide) ?_
    refine lv_aload_n hx hb dX10_count_108 rfl (lv_at hl 0 rfl) ?_
    refine gX10_7 (b := 38) X hw sC0 nC0 rfl fl_X10_69 dX10_count_109 ?_
    refine gnX6_6 X hw (isSt.s0 st_now) (isSt.n0 st_now) fn_X10_201 dX10_count_112 ?_
    have er := Option.some.inj hf
    subst er
    exact wr_iret X hw hr (Or.inl rfl) dX10_count_115
  have hf := (if_neg c3).symm.trans hf
  by_cases c4 : x1 = (3 : Int32)
  · have hf := (if_pos c4).symm.trans hf
    refine lv_tableIn (tgt := 116) (off := 115) hx hb dX10_count_1 (by rw [c4]; decide) (by rw [c4]; decide) (by rw [c4]; rfl) (by decide) ?_
    refine lv_aload_n hx hb dX10_count_116 rfl (lv_at hl 0 rfl) ?_
    refine gX10_7 (b := 38) X hw sC0 nC0 rfl fl_X10_69 dX10_count_117 ?_
    refine gnX6_5 X hw (isSt.s0 st_now) (isSt.n0 st_now) fn_X10_263 dX10_count_120 ?_
    have er := Option.some.inj hf
    subst er
    exact wr_iret X hw hr (Or.inl rfl) dX10_count_123
  have hf := (if_neg c4).symm.trans hf
  by_cases c5 : x1 = (4 : Int32)
  · have hf := (if_pos c5).symm.trans hf
    refine lv_tableIn (tgt := 124) (off := 123) hx hb dX10_count_1 (by rw [c5]; decide) (by rw [c5]; decide) (by rw [c5]; rfl) (by decide) ?_
    refine lv_aload_n hx hb dX10_count_124 rfl (lv_at hl 0 rfl) ?_
    refine gX10_3 (b := 21) X hw sC0 nC0 rfl fl_X10_37 dX10_count_125 ?_
    refine lv_aload_n hx hb dX10_count_128 rfl (lv_at hl 0 rfl) ?_
    refine gX10_7 (b := 38) X hw sC0 nC0 rfl fl_X10_69 dX10_count_129 ?_
    obtain ⟨v7, σ8, hq6, hf⟩ := bnd2_some hf
    refine wr_cNi (r := v7) (σ' := σ8) (av := [.ref (ad 38)]) (rest := []) X hw hl.1 sC21 nC21 rfl (k_X1_allSuffering hI st_now hq6) rfl mn_X10_291 im_X1_allSuffering se_X1_allSuffering ini_X1 co_X1_allSuffering hd_X1_allSuffering ⟨Nat.le_of_ble_eq_true rfl, Nat.le_of_ble_eq_true rfl⟩ (Nat.le_of_ble_eq_true rfl) dX10_count_132 rfl (fun H locs hw => ?_)
    have er := Option.some.inj hf
    subst er
    exact wr_iret X hw hr (Or.inl rfl) dX10_count_135
  have hf := (if_neg c5).symm.trans hf
  by_cases c9 : x1 = (5 : Int32)
  · have hf := (if_pos c9).symm.trans hf
    refine lv_tableIn (tgt := 136) (off := 135) hx hb dX10_count_1 (by rw [c9]; decide) (by rw [c9]; decide) (by rw [c9]; rfl) (by decide) ?_
    refine lv_aload_n hx hb dX10_count_136 rfl (lv_at hl 0 rfl) ?_
    refine gX10_7 (b := 38) X hw sC0 nC0 rfl fl_X10_69 dX10_count_137 ?_
    refine gnX6_2 (b := 41) X hw (isSt.s0 st_now) (isSt.n0 st_now) rfl fn_X10_134 dX10_count_140 ?_
    obtain ⟨v11, hq10, hf⟩ := bind_some hf
    refine wr_cSi (r := v11) (σ' := σ) (av := [.ref (ad 41)]) (rest := []) X hw hl.1 (k_X10_added hI ⟨(isSt.s3 st_now), (isSt.n3 st_now)⟩ hq10) rfl ml_X10_294 st_X10_added ini_X10 co_X10_added hd_X10_added ⟨Nat.le_of_ble_eq_true rfl, Nat.le_of_ble_eq_true rfl⟩ (Nat.le_of_ble_eq_true rfl) dX10_count_143 rfl (fun H locs hw => ?_)
    have er := Option.some.inj hf
    subst er
    exact wr_iret X hw hr (Or.inl rfl) dX10_count_146
  have hf := (if_neg c9).symm.trans hf
  by_cases c12 : x1 = (6 : Int32)
  · have hf := (if_pos c12).symm.trans hf
    refine lv_tableIn (tgt := 147) (off := 146) hx hb dX10_count_1 (by rw [c12]; decide) (by rw [c12]; decide) (by rw [c12]; rfl) (by decide) ?_
    refine lv_aload_n hx hb dX10_count_147 rfl (lv_at hl 0 rfl) ?_
    refine gX10_7 (b := 38) X hw sC0 nC0 rfl fl_X10_69 dX10_count_148 ?_
    refine gnX6_4 X hw (isSt.s0 st_now) (isSt.n0 st_now) fn_X10_298 dX10_count_151 ?_
    have er := Option.some.inj hf
    subst er
    exact wr_iret X hw hr (Or.inl rfl) dX10_count_154
  have hf := (if_neg c12).symm.trans hf
  by_cases c13 : x1 = (7 : Int32)
  · have hf := (if_pos c13).symm.trans hf
    refine lv_tableIn (tgt := 155) (off := 154) hx hb dX10_count_1 (by rw [c13]; decide) (by rw [c13]; decide) (by rw [c13]; rfl) (by decide) ?_
    refine lv_aload_n hx hb dX10_count_155 rfl (lv_at hl 0 rfl) ?_
    refine gX10_7 (b := 38) X hw sC0 nC0 rfl fl_X10_69 dX10_count_156 ?_
    refine gnX6_1 (b := 40) X hw (isSt.s0 st_now) (isSt.n0 st_now) rfl fn_X10_124 dX10_count_159 ?_
    obtain ⟨v15, hq14, hf⟩ := bind_some hf
    refine wr_cSi (r := v15) (σ' := σ) (av := [.ref (ad 40)]) (rest := []) X hw hl.1 (k_X10_added hI ⟨(isSt.s2 st_now), (isSt.n2 st_now)⟩ hq14) rfl ml_X10_294 st_X10_added ini_X10 co_X10_added hd_X10_added ⟨Nat.le_of_ble_eq_true rfl, Nat.le_of_ble_eq_true rfl⟩ (Nat.le_of_ble_eq_true rfl) dX10_count_162 rfl (fun H locs hw => ?_)
    have er := Option.some.inj hf
    subst er
    exact wr_iret X hw hr (Or.inl rfl) dX10_count_165
  have hf := (if_neg c13).symm.trans hf
  by_cases c16 : x1 = (8 : Int32)
  · have hf := (if_pos c16).symm.trans hf
    refine lv_tableIn (tgt := 166) (off := 165) hx hb dX10_count_1 (by rw [c16]; decide) (by rw [c16]; decide) (by rw [c16]; rfl) (by decide) ?_
    refine lv_aload_n hx hb dX10_count_166 rfl (lv_at hl 0 rfl) ?_
    refine gX10_0 (b := 2) X hw sC0 nC0 rfl fl_X10_10 dX10_count_167 ?_
    refine gnX7_1 X hw sC2 nC2 fn_X10_88 dX10_count_170 ?_
    have er := Option.some.inj hf
    subst er
    exact wr_iret X hw hr (Or.inl rfl) dX10_count_173
  have hf := (if_neg c16).symm.trans hf
  by_cases c17 : x1 = (9 : Int32)
  · have hf := (if_pos c17).symm.trans hf
    refine lv_tableIn (tgt := 174) (off := 173) hx hb dX10_count_1 (by rw [c17]; decide) (by rw [c17]; decide) (by rw [c17]; rfl) (by decide) ?_
    refine lv_aload_n hx hb dX10_count_174 rfl (lv_at hl 0 rfl) ?_
    refine gX10_8 (b := 36) X hw sC0 nC0 rfl fl_X10_76 dX10_count_175 ?_
    refine gnX0_1 X hw sC36 nC36 fn_X10_109 dX10_count_178 ?_
    have er := Option.some.inj hf
    subst er
    exact wr_iret X hw hr (Or.inl rfl) dX10_count_181
  have hf := (if_neg c17).symm.trans hf
  by_cases c18 : x1 = (10 : Int32)
  · have hf := (if_pos c18).symm.trans hf
    refine lv_tableIn (tgt := 182) (off := 181) hx hb dX10_count_1 (by rw [c18]; decide) (by rw [c18]; decide) (by rw [c18]; rfl) (by decide) ?_
    refine lv_aload_n hx hb dX10_count_182 rfl (lv_at hl 0 rfl) ?_
    refine gX10_6 (b := 31) X hw sC0 nC0 rfl fl_X10_62 dX10_count_183 ?_
    refine gnX9_4 X hw sC31 nC31 fn_X10_112 dX10_count_186 ?_
    have er := Option.some.inj hf
    subst er
    exact wr_iret X hw hr (Or.inl rfl) dX10_count_189
  have hf := (if_neg c18).symm.trans hf
  by_cases c19 : x1 = (11 : Int32)
  · have hf := (if_pos c19).symm.trans hf
    refine lv_tableIn (tgt := 190) (off := 189) hx hb dX10_count_1 (by rw [c19]; decide) (by rw [c19]; decide) (by rw [c19]; rfl) (by decide) ?_
    refine lv_aload_n hx hb dX10_count_190 rfl (lv_at hl 0 rfl) ?_
    refine gX10_10 X hw sC0 nC0 fl_X10_113 dX10_count_191 ?_
    obtain ⟨v21, hq20, hf⟩ := bind_some hf
    refine wr_cSi (r := v21) (σ' := σ) (av := [.int (σ.1 0 10)]) (rest := []) X hw hl.1 (k_J6_bitCount_0f7a4 hI hq20) rfl ml_X10_301 st_J6_bitCount_0f7a4 ini_J6 co_J6_bitCount_0f7a4 hd_J6_bitCount_0f7a4 ⟨Nat.le_of_ble_eq_true rfl, Nat.le_of_ble_eq_true rfl⟩ (Nat.le_of_ble_eq_true rfl) dX10_count_194 rfl (fun H locs hw => ?_)
    have er := Option.some.inj hf
    subst er
    exact wr_iret X hw hr (Or.inl rfl) dX10_count_197
  have hf := (if_neg c19).symm.trans hf
  by_cases c22 : x1 = (12 : Int32)
  · have hf := (if_pos c22).symm.trans hf
    refine lv_tableIn (tgt := 198) (off := 197) hx hb dX10_count_1 (by rw [c22]; decide) (by rw [c22]; decide) (by rw [c22]; rfl) (by decide) ?_
    refine lv_aload_n hx hb dX10_count_198 rfl (lv_at hl 0 rfl) ?_
    refine gX10_7 (b := 38) X hw sC0 nC0 rfl fl_X10_69 dX10_count_199 ?_
    refine gnX6_7 X hw (isSt.s0 st_now) (isSt.n0 st_now) fn_X10_306 dX10_count_202 ?_
    have er := Option.some.inj hf
    subst er
    exact wr_iret X hw hr (Or.inl rfl) dX10_count_205
  have hf := (if_neg c22).symm.trans hf
  by_cases c23 : x1 = (13 : Int32)
  · have hf := (if_pos c23).symm.trans hf
    refine lv_tableIn (tgt := 206) (off := 205) hx hb dX10_count_1 (by rw [c23]; decide) (by rw [c23]; decide) (by rw [c23]; rfl) (by decide) ?_
    refine lv_aload_n hx hb dX10_count_206 rfl (lv_at hl 0 rfl) ?_
    obtain ⟨v25, σ26, hq24, hf⟩ := bnd2_some hf
    refine wr_cVi (r := v25) (σ' := σ26) (av := []) (rest := []) X hw hl.1 sC0 nC0 rfl (k_X10_isAtRest hI hq24) rfl ml_X10_309 im_X10_isAtRest se_X10_isAtRest ini_X10 co_X10_isAtRest hd_X10_isAtRest ⟨Nat.le_of_ble_eq_true rfl, Nat.le_of_ble_eq_true rfl⟩ (Nat.le_of_ble_eq_true rfl) dX10_count_207 rfl (fun H locs hw => ?_)
    refine lv_if_eq (tgt := 217) hx hb dX10_count_210 (by decide) (fun c27 => ?_) (fun c27 => ?_)
    · have hf := (if_pos c27).symm.trans hf
      refine lv_iconst (v := 0) hx hb dX10_count_217 (by decide) ?_
      have er := Option.some.inj hf
      subst er
      exact wr_iret X hw hr (Or.inl rfl) dX10_count_218
    · have hf := (if_neg c27).symm.trans hf
      refine lv_iconst (v := 1) hx hb dX10_count_213 (by decide) ?_
      refine lv_goto (tgt := 218) hx hb dX10_count_214 (by decide) ?_
      have er := Option.some.inj hf
      subst er
      exact wr_iret X hw hr (Or.inl rfl) dX10_count_218
  have hf := (if_neg c23).symm.trans hf
  by_cases c28 : x1 = (14 : Int32)
  · have hf := (if_pos c28).symm.trans hf
    refine lv_tableIn (tgt := 219) (off := 218) hx hb dX10_count_1 (by rw [c28]; decide) (by rw [c28]; decide) (by rw [c28]; rfl) (by decide) ?_
    refine lv_aload_n hx hb dX10_count_219 rfl (lv_at hl 0 rfl) ?_
    refine gX10_3 (b := 21) X hw sC0 nC0 rfl fl_X10_37 dX10_count_220 ?_
    refine lv_aload_n hx hb dX10_count_223 rfl (lv_at hl 0 rfl) ?_
    refine gX10_7 (b := 38) X hw sC0 nC0 rfl fl_X10_69 dX10_count_224 ?_
    obtain ⟨v30, σ31, hq29, hf⟩ := bnd2_some hf
    refine wr_cNi (r := v30) (σ' := σ31) (av := [.ref (ad 38)]) (rest := []) X hw hl.1 sC21 nC21 rfl (k_X1_worstSuffering hI st_now hq29) rfl mn_X10_313 im_X1_worstSuffering se_X1_worstSuffering ini_X1 co_X1_worstSuffering hd_X1_worstSuffering ⟨Nat.le_of_ble_eq_true rfl, Nat.le_of_ble_eq_true rfl⟩ (Nat.le_of_ble_eq_true rfl) dX10_count_227 rfl (fun H locs hw => ?_)
    have er := Option.some.inj hf
    subst er
    exact wr_iret X hw hr (Or.inl rfl) dX10_count_230
  have hf := (if_neg c28).symm.trans hf
  by_cases c32 : x1 = (15 : Int32)
  · have hf := (if_pos c32).symm.trans hf
    refine lv_tableIn (tgt := 231) (off := 230) hx hb dX10_count_1 (by rw [c32]; decide) (by rw [c32]; decide) (by rw [c32]; rfl) (by decide) ?_
    refine lv_aload_n hx hb dX10_count_231 rfl (lv_at hl 0 rfl) ?_
    obtain ⟨v34, hq33, hf⟩ := bind_some hf
    refine wr_cVi (r := v34) (σ' := σ) (av := []) (rest := []) X hw hl.1 sC0 nC0 rfl (k_X10_unlisted hI hq33) rfl ml_X10_316 im_X10_unlisted se_X10_unlisted ini_X10 co_X10_unlisted hd_X10_unlisted ⟨Nat.le_of_ble_eq_true rfl, Nat.le_of_ble_eq_true rfl⟩ (Nat.le_of_ble_eq_true rfl) dX10_count_232 rfl (fun H locs hw => ?_)
    have er := Option.some.inj hf
    subst er
    exact wr_iret X hw hr (Or.inl rfl) dX10_count_235
  have hf := (if_neg c32).symm.trans hf
  by_cases c35 : x1 = (16 : Int32)
  · have hf := (if_pos c35).symm.trans hf
    refine lv_tableIn (tgt := 236) (off := 235) hx hb dX10_count_1 (by rw [c35]; decide) (by rw [c35]; decide) (by rw [c35]; rfl) (by decide) ?_
    refine lv_aload_n hx hb dX10_count_236 rfl (lv_at hl 0 rfl) ?_
    refine gX10_3 (b := 21) X hw sC0 nC0 rfl fl_X10_37 dX10_count_237 ?_
    refine lv_aload_n hx hb dX10_count_240 rfl (lv_at hl 0 rfl) ?_
    refine gX10_7 (b := 38) X hw sC0 nC0 rfl fl_X10_69 dX10_count_241 ?_
    obtain ⟨v37, σ38, hq36, hf⟩ := bnd2_some hf
    refine wr_cNi (r := v37) (σ' := σ38) (av := [.ref (ad 38)]) (rest := []) X hw hl.1 sC21 nC21 rfl (k_X1_allDue hI st_now hq36) rfl mn_X10_319 im_X1_allDue se_X1_allDue ini_X1 co_X1_allDue hd_X1_allDue ⟨Nat.le_of_ble_eq_true rfl, Nat.le_of_ble_eq_true rfl⟩ (Nat.le_of_ble_eq_true rfl) dX10_count_244 rfl (fun H locs hw => ?_)
    have er := Option.some.inj hf
    subst er
    exact wr_iret X hw hr (Or.inl rfl) dX10_count_247
  have hf := (if_neg c35).symm.trans hf
  by_cases c39 : x1 = (17 : Int32)
  · have hf := (if_pos c39).symm.trans hf
    refine lv_tableIn (tgt := 248) (off := 247) hx hb dX10_count_1 (by rw [c39]; decide) (by rw [c39]; decide) (by rw [c39]; rfl) (by decide) ?_
    refine lv_aload_n hx hb dX10_count_248 rfl (lv_at hl 0 rfl) ?_
    refine gX10_5 (b := 30) X hw sC0 nC0 rfl fl_X10_55 dX10_count_249 ?_
    refine lv_aload_n hx hb dX10_count_252 rfl (lv_at hl 0 rfl) ?_
    refine gX10_7 (b := 38) X hw sC0 nC0 rfl fl_X10_69 dX10_count_253 ?_
    obtain ⟨v41, σ42, hq40, hf⟩ := bnd2_some hf
    refine wr_cNi (r := v41) (σ' := σ42) (av := [.ref (ad 38)]) (rest := []) X hw hl.1 sC30 nC30 rfl (k_X3_buyersOf hI st_now hq40) rfl mn_X10_249 im_X3_buyersOf se_X3_buyersOf ini_X3 co_X3_buyersOf hd_X3_buyersOf ⟨Nat.le_of_ble_eq_true rfl, Nat.le_of_ble_eq_true rfl⟩ (Nat.le_of_ble_eq_true rfl) dX10_count_256 rfl (fun H locs hw => ?_)
    obtain ⟨v44, hq43, hf⟩ := bind_some hf
    refine wr_cSi (r := v44) (σ' := σ42) (av := [.int v41]) (rest := []) X hw hl.1 (k_J6_bitCount_0f7a4 hI hq43) rfl ml_X10_301 st_J6_bitCount_0f7a4 ini_J6 co_J6_bitCount_0f7a4 hd_J6_bitCount_0f7a4 ⟨Nat.le_of_ble_eq_true rfl, Nat.le_of_ble_eq_true rfl⟩ (Nat.le_of_ble_eq_true rfl) dX10_count_259 rfl (fun H locs hw => ?_)
    have er := Option.some.inj hf
    subst er
    exact wr_iret X hw hr (Or.inl rfl) dX10_count_262
  have hf := (if_neg c39).symm.trans hf
  by_cases c45 : x1 = (18 : Int32)
  · have hf := (if_pos c45).symm.trans hf
    refine lv_tableIn (tgt := 263) (off := 262) hx hb dX10_count_1 (by rw [c45]; decide) (by rw [c45]; decide) (by rw [c45]; rfl) (by decide) ?_
    refine lv_aload_n hx hb dX10_count_263 rfl (lv_at hl 0 rfl) ?_
    obtain ⟨v47, σ48, hq46, hf⟩ := bnd2_some hf
    refine wr_cVi (r := v47) (σ' := σ48) (av := []) (rest := []) X hw hl.1 sC0 nC0 rfl (k_X10_spared hI hq46) rfl ml_X10_322 im_X10_spared se_X10_spared ini_X10 co_X10_spared hd_X10_spared ⟨Nat.le_of_ble_eq_true rfl, Nat.le_of_ble_eq_true rfl⟩ (Nat.le_of_ble_eq_true rfl) dX10_count_264 rfl (fun H locs hw => ?_)
    have er := Option.some.inj hf
    subst er
    exact wr_iret X hw hr (Or.inl rfl) dX10_count_267
  have hf := (if_neg c45).symm.trans hf
  refine lv_tableOut (tgt := 268) hx hb dX10_count_1 (sw_out (by decide) (by decide) (fun k h1 h2 => ?_)) (by decide) ?_
  · have h3 : k = 0 ∨ k = 1 ∨ k = 2 ∨ k = 3 ∨ k = 4 ∨ k = 5 ∨ k = 6 ∨ k = 7 ∨ k = 8 ∨ k = 9 ∨ k = 10 ∨ k = 11 ∨ k = 12 ∨ k = 13 ∨ k = 14 ∨ k = 15 ∨ k = 16 ∨ k = 17 ∨ k = 18 := by omega
    rcases h3 with rfl | rfl | rfl | rfl | rfl | rfl | rfl | rfl | rfl | rfl | rfl | rfl | rfl | rfl | rfl | rfl | rfl | rfl | rfl
    · exact c1
    · exact c2
    · exact c3
    · exact c4
    · exact c5
    · exact c9
    · exact c12
    · exact c13
    · exact c16
    · exact c17
    · exact c18
    · exact c19
    · exact c22
    · exact c23
    · exact c28
    · exact c32
    · exact c35
    · exact c39
    · exact c45
  refine lv_iconst (v := -1) hx hb dX10_count_268 (by decide) ?_
  have er := Option.some.inj hf
  subst er
  exact wr_iret X hw hr (Or.inl rfl) dX10_count_269

def f_X10_docket (σ : St) (x1 : Int32) (x2 : Int32) : Option (Int32 × St) := Option.bind (f_X8_has σ 4 x1) fun v2 => if v2 = 0 then (some ((-1 : Int32), σ)) else (if x2 = (0 : Int32) then (if ib x1 7 = true then some ((σ.1 7 (Int32.toNatClampNeg x1)), σ) else none) else if x2 = (1 : Int32) then (if ib x1 7 = true then some ((σ.1 40 (Int32.toNatClampNeg x1)), σ) else none) else if x2 = (2 : Int32) then (Option.bind (f_X6_isListed σ 38 x1) fun v10 => if v10 = 0 then (some ((-2 : Int32), σ)) else (Option.bind (f_X6_placeOf σ 38 x1) fun v13 => some (v13, σ))) else if x2 = (3 : Int32) then (if ib x1 7 = true then some ((σ.1 41 (Int32.toNatClampNeg x1)), σ) else none) else if x2 = (4 : Int32) then (Option.bind (f_X6_isPleading σ 38 x1) fun v18 => if v18 = 0 then (some ((0 : Int32), σ)) else (some ((1 : Int32), σ))) else if x2 = (5 : Int32) then (bnd2 (f_X1_dueAsListed σ 38 x1) fun v22 σ23 => some (v22, σ23)) else if x2 = (6 : Int32) then (bnd2 (f_X1_chanceOfAdjourning σ 38 x1) fun v26 σ27 => some (v26, σ27)) else (some ((-1 : Int32), σ)))
theorem hd_X10_docket : yX10_docket.cls = RX10 ∧ yX10_docket.cls ≠ "java/lang/invoke/MethodHandle" ∧ yX10_docket.cls ≠ "java/lang/invoke/VarHandle" ∧ (parseMethodDescriptor yX10_docket.desc).map (fun d => d.parameters.length) = some 2 := by decide +kernel
set_option maxRecDepth 100000 in
set_option maxHeartbeats 4000000 in
theorem k_X10_docket {l : Launch} {ad : Nat → Nat} {D : va_G} {cy : Nat → ClassId} {z : wStr} (hI : wI WC ad) {σ : St} {x1 : Int32} {x2 : Int32}  {res : Int32 × St} (hf : f_X10_docket σ x1 x2 = some res) : wC WC ad D cy z l yX10_docket (Cond.code yX10_docket cX10_docket 3 (Option.some Jvm.ClassFile.FieldType.int) :: aw) (5) (195) [.ref (ad 0), .int x1, .int x2] σ (wQi WC ad D cy res.1 res.2) := by
  unfold f_X10_docket at hf
  refine wr_start (own := RX10) hI (by decide +kernel) rfl (Nat.le_of_ble_eq_true rfl) rfl ?_
  intro p e s m below meth c ls X hw hr hl
  have hx := X.hx
  have hb := X.hb
  obtain ⟨H, eH⟩ : ∃ H : Heap, H = s.heap := ⟨_, rfl⟩
  obtain ⟨locs, el⟩ : ∃ locs : List Loc, locs = [] := ⟨_, rfl⟩
  rw [← eH, ← el] at hw ⊢
  clear eH el
  replace hl : lv_has ls 3 [(0, .ref (ad 0)), (1, .int x1), (2, .int x2)] := hl
  refine lv_aload_n hx hb dX10_docket_0 rfl (lv_at hl 0 rfl) ?_
  refine gX10_1 (b := 4) X hw sC0 nC0 rfl fl_X10_19 dX10_docket_1 ?_
  refine lv_iload_n hx hb dX10_docket_4 rfl (lv_at hl 1 rfl) ?_
  obtain ⟨v2, hq1, hf⟩ := bind_some hf
  refine wr_cNi (r := v2) (σ' := σ) (av := [.int x1]) (rest := []) X hw hl.1 sC4 nC4 rfl (k_X8_has hI tx_1 hq1) rfl mn_X10_116 im_X8_has se_X8_has ini_X8 co_X8_has hd_X8_has ⟨Nat.le_of_ble_eq_true rfl, Nat.le_of_ble_eq_true rfl⟩ (Nat.le_of_ble_eq_true rfl) dX10_docket_5 rfl (fun H locs hw => ?_)
  refine lv_if_ne (tgt := 13) hx hb dX10_docket_8 (by decide) (fun c3 => ?_) (fun c3 => ?_)
  · have hf := (if_neg c3).symm.trans hf
    refine lv_iload_n hx hb dX10_docket_13 rfl (lv_at hl 2 rfl) ?_
    by_cases c4 : x2 = (0 : Int32)
    · have hf := (if_pos c4).symm.trans hf
      refine lv_tableIn (tgt := 56) (off := 42) hx hb dX10_docket_14 (by rw [c4]; decide) (by rw [c4]; decide) (by rw [c4]; rfl) (by decide) ?_
      refine lv_aload_n hx hb dX10_docket_56 rfl (lv_at hl 0 rfl) ?_
      refine gX10_1 (b := 4) X hw sC0 nC0 rfl fl_X10_19 dX10_docket_57 ?_
      refine gnX8_2 (b := 7) X hw sC4 nC4 rfl fn_X10_120 dX10_docket_60 ?_
      refine lv_iload_n hx hb dX10_docket_63 rfl (lv_at hl 1 rfl) ?_
      obtain ⟨h5, hf⟩ := if_some hf
      refine wr_iald X hw sC7 nC7 h5 dX10_docket_64 ?_
      have er := Option.some.inj hf
      subst er
      exact wr_iret X hw hr (Or.inl rfl) dX10_docket_65
    have hf := (if_neg c4).symm.trans hf
    by_cases c6 : x2 = (1 : Int32)
    · have hf := (if_pos c6).symm.trans hf
      refine lv_tableIn (tgt := 66) (off := 52) hx hb dX10_docket_14 (by rw [c6]; decide) (by rw [c6]; decide) (by rw [c6]; rfl) (by decide) ?_
      refine lv_aload_n hx hb dX10_docket_66 rfl (lv_at hl 0 rfl) ?_
      refine gX10_7 (b := 38) X hw sC0 nC0 rfl fl_X10_69 dX10_docket_67 ?_
      refine gnX6_1 (b := 40) X hw (isSt.s0 st_now) (isSt.n0 st_now) rfl fn_X10_124 dX10_docket_70 ?_
      refine lv_iload_n hx hb dX10_docket_73 rfl (lv_at hl 1 rfl) ?_
      obtain ⟨h7, hf⟩ := if_some hf
      refine wr_iald X hw (isSt.s2 st_now) (isSt.n2 st_now) h7 dX10_docket_74 ?_
      have er := Option.some.inj hf
      subst er
      exact wr_iret X hw hr (Or.inl rfl) dX10_docket_75
    have hf := (if_neg c6).symm.trans hf
    by_cases c8 : x2 = (2 : Int32)
    · have hf := (if_pos c8).symm.trans hf
      refine lv_tableIn (tgt := 76) (off := 62) hx hb dX10_docket_14 (by rw [c8]; decide) (by rw [c8]; decide) (by rw [c8]; rfl) (by decide) ?_
      refine lv_aload_n hx hb dX10_docket_76 rfl (lv_at hl 0 rfl) ?_
      refine gX10_7 (b := 38) X hw sC0 nC0 rfl fl_X10_69 dX10_docket_77 ?_
      refine lv_iload_n hx hb dX10_docket_80 rfl (lv_at hl 1 rfl) ?_
      obtain ⟨v10, hq9, hf⟩ := bind_some hf
      refine wr_cNi (r := v10) (σ' := σ) (av := [.int x1]) (rest := []) X hw hl.1 (isSt.s0 st_now) (isSt.n0 st_now) rfl (k_X6_isListed hI st_now hq9) rfl mn_X10_127 im_X6_isListed se_X6_isListed ini_X6 co_X6_isListed hd_X6_isListed ⟨Nat.le_of_ble_eq_true rfl, Nat.le_of_ble_eq_true rfl⟩ (Nat.le_of_ble_eq_true rfl) dX10_docket_81 rfl (fun H locs hw => ?_)
      refine lv_if_eq (tgt := 98) hx hb dX10_docket_84 (by decide) (fun c11 => ?_) (fun c11 => ?_)
      · have hf := (if_pos c11).symm.trans hf
        refine lv_bipush (v := -2) hx hb dX10_docket_98 (by decide) ?_
        have er := Option.some.inj hf
        subst er
        exact wr_iret X hw hr (Or.inl rfl) dX10_docket_100
      · have hf := (if_neg c11).symm.trans hf
        refine lv_aload_n hx hb dX10_docket_87 rfl (lv_at hl 0 rfl) ?_
        refine gX10_7 (b := 38) X hw sC0 nC0 rfl fl_X10_69 dX10_docket_88 ?_
        refine lv_iload_n hx hb dX10_docket_91 rfl (lv_at hl 1 rfl) ?_
        obtain ⟨v13, hq12, hf⟩ := bind_some hf
        refine wr_cNi (r := v13) (σ' := σ) (av := [.int x1]) (rest := []) X hw hl.1 (isSt.s0 st_now) (isSt.n0 st_now) rfl (k_X6_placeOf hI st_now hq12) rfl mn_X10_130 im_X6_placeOf se_X6_placeOf ini_X6 co_X6_placeOf hd_X6_placeOf ⟨Nat.le_of_ble_eq_true rfl, Nat.le_of_ble_eq_true rfl⟩ (Nat.le_of_ble_eq_true rfl) dX10_docket_92 rfl (fun H locs hw => ?_)
        refine lv_goto (tgt := 100) hx hb dX10_docket_95 (by decide) ?_
        have er := Option.some.inj hf
        subst er
        exact wr_iret X hw hr (Or.inl rfl) dX10_docket_100
    have hf := (if_neg c8).symm.trans hf
    by_cases c14 : x2 = (3 : Int32)
    · have hf := (if_pos c14).symm.trans hf
      refine lv_tableIn (tgt := 101) (off := 87) hx hb dX10_docket_14 (by rw [c14]; decide) (by rw [c14]; decide) (by rw [c14]; rfl) (by decide) ?_
      refine lv_aload_n hx hb dX10_docket_101 rfl (lv_at hl 0 rfl) ?_
      refine gX10_7 (b := 38) X hw sC0 nC0 rfl fl_X10_69 dX10_docket_102 ?_
      refine gnX6_2 (b := 41) X hw (isSt.s0 st_now) (isSt.n0 st_now) rfl fn_X10_134 dX10_docket_105 ?_
      refine lv_iload_n hx hb dX10_docket_108 rfl (lv_at hl 1 rfl) ?_
      obtain ⟨h15, hf⟩ := if_some hf
      refine wr_iald X hw (isSt.s3 st_now) (isSt.n3 st_now) h15 dX10_docket_109 ?_
      have er := Option.some.inj hf
      subst er
      exact wr_iret X hw hr (Or.inl rfl) dX10_docket_110
    have hf := (if_neg c14).symm.trans hf
    by_cases c16 : x2 = (4 : Int32)
    · have hf := (if_pos c16).symm.trans hf
      refine lv_tableIn (tgt := 111) (off := 97) hx hb dX10_docket_14 (by rw [c16]; decide) (by rw [c16]; decide) (by rw [c16]; rfl) (by decide) ?_
      refine lv_aload_n hx hb dX10_docket_111 rfl (lv_at hl 0 rfl) ?_
      refine gX10_7 (b := 38) X hw sC0 nC0 rfl fl_X10_69 dX10_docket_112 ?_
      refine lv_iload_n hx hb dX10_docket_115 rfl (lv_at hl 1 rfl) ?_
      obtain ⟨v18, hq17, hf⟩ := bind_some hf
      refine wr_cNi (r := v18) (σ' := σ) (av := [.int x1]) (rest := []) X hw hl.1 (isSt.s0 st_now) (isSt.n0 st_now) rfl (k_X6_isPleading hI st_now hq17) rfl mn_X10_137 im_X6_isPleading se_X6_isPleading ini_X6 co_X6_isPleading hd_X6_isPleading ⟨Nat.le_of_ble_eq_true rfl, Nat.le_of_ble_eq_true rfl⟩ (Nat.le_of_ble_eq_true rfl) dX10_docket_116 rfl (fun H locs hw => ?_)
      refine lv_if_eq (tgt := 126) hx hb dX10_docket_119 (by decide) (fun c19 => ?_) (fun c19 => ?_)
      · have hf := (if_pos c19).symm.trans hf
        refine lv_iconst (v := 0) hx hb dX10_docket_126 (by decide) ?_
        have er := Option.some.inj hf
        subst er
        exact wr_iret X hw hr (Or.inl rfl) dX10_docket_127
      · have hf := (if_neg c19).symm.trans hf
        refine lv_iconst (v := 1) hx hb dX10_docket_122 (by decide) ?_
        refine lv_goto (tgt := 127) hx hb dX10_docket_123 (by decide) ?_
        have er := Option.some.inj hf
        subst er
        exact wr_iret X hw hr (Or.inl rfl) dX10_docket_127
    have hf := (if_neg c16).symm.trans hf
    by_cases c20 : x2 = (5 : Int32)
    · have hf := (if_pos c20).symm.trans hf
      refine lv_tableIn (tgt := 128) (off := 114) hx hb dX10_docket_14 (by rw [c20]; decide) (by rw [c20]; decide) (by rw [c20]; rfl) (by decide) ?_
      refine lv_aload_n hx hb dX10_docket_128 rfl (lv_at hl 0 rfl) ?_
      refine gX10_3 (b := 21) X hw sC0 nC0 rfl fl_X10_37 dX10_docket_129 ?_
      refine lv_aload_n hx hb dX10_docket_132 rfl (lv_at hl 0 rfl) ?_
      refine gX10_7 (b := 38) X hw sC0 nC0 rfl fl_X10_69 dX10_docket_133 ?_
      refine lv_iload_n hx hb dX10_docket_136 rfl (lv_at hl 1 rfl) ?_
      obtain ⟨v22, σ23, hq21, hf⟩ := bnd2_some hf
      refine wr_cNi (r := v22) (σ' := σ23) (av := [.ref (ad 38), .int x1]) (rest := []) X hw hl.1 sC21 nC21 rfl (k_X1_dueAsListed hI st_now hq21) rfl mn_X10_140 im_X1_dueAsListed se_X1_dueAsListed ini_X1 co_X1_dueAsListed hd_X1_dueAsListed ⟨Nat.le_of_ble_eq_true rfl, Nat.le_of_ble_eq_true rfl⟩ (Nat.le_of_ble_eq_true rfl) dX10_docket_137 rfl (fun H locs hw => ?_)
      have er := Option.some.inj hf
      subst er
      exact wr_iret X hw hr (Or.inl rfl) dX10_docket_140
    have hf := (if_neg c20).symm.trans hf
    by_cases c24 : x2 = (6 : Int32)
    · have hf := (if_pos c24).symm.trans hf
      refine lv_tableIn (tgt := 141) (off := 127) hx hb dX10_docket_14 (by rw [c24]; decide) (by rw [c24]; decide) (by rw [c24]; rfl) (by decide) ?_
      refine lv_aload_n hx hb dX10_docket_141 rfl (lv_at hl 0 rfl) ?_
      refine gX10_3 (b := 21) X hw sC0 nC0 rfl fl_X10_37 dX10_docket_142 ?_
      refine lv_aload_n hx hb dX10_docket_145 rfl (lv_at hl 0 rfl) ?_
      refine gX10_7 (b := 38) X hw sC0 nC0 rfl fl_X10_69 dX10_docket_146 ?_
      refine lv_iload_n hx hb dX10_docket_149 rfl (lv_at hl 1 rfl) ?_
      obtain ⟨v26, σ27, hq25, hf⟩ := bnd2_some hf
      refine wr_cNi (r := v26) (σ' := σ27) (av := [.ref (ad 38), .int x1]) (rest := []) X hw hl.1 sC21 nC21 rfl (k_X1_chanceOfAdjourning hI st_now hq25) rfl mn_X10_144 im_X1_chanceOfAdjourning se_X1_chanceOfAdjourning ini_X1 co_X1_chanceOfAdjourning hd_X1_chanceOfAdjourning ⟨Nat.le_of_ble_eq_true rfl, Nat.le_of_ble_eq_true rfl⟩ (Nat.le_of_ble_eq_true rfl) dX10_docket_150 rfl (fun H locs hw => ?_)
      have er := Option.some.inj hf
      subst er
      exact wr_iret X hw hr (Or.inl rfl) dX10_docket_153
    have hf := (if_neg c24).symm.trans hf
    refine lv_tableOut (tgt := 154) hx hb dX10_docket_14 (sw_out (by decide) (by decide) (fun k h1 h2 => ?_)) (by decide) ?_
    · have h3 : k = 0 ∨ k = 1 ∨ k = 2 ∨ k = 3 ∨ k = 4 ∨ k = 5 ∨ k = 6 := by omega
      rcases h3 with rfl | rfl | rfl | rfl | rfl | rfl | rfl
      · exact c4
      · exact c6
      · exact c8
      · exact c14
      · exact c16
      · exact c20
      · exact c24
    refine lv_iconst (v := -1) hx hb dX10_docket_154 (by decide) ?_
    have er := Option.some.inj hf
    subst er
    exact wr_iret X hw hr (Or.inl rfl) dX10_docket_155
  · have hf := (if_pos c3).symm.trans hf
    refine lv_iconst (v := -1) hx hb dX10_docket_11 (by decide) ?_
    have er := Option.some.inj hf
    subst er
    exact wr_iret X hw hr (Or.inl rfl) dX10_docket_12

def f_X10_feed (σ : St) (x1 : Int32) (x2 : Int32) (x3 : Int32) (x4 : Int32) (x5 : Int32) : Option (Int32 × St) := if (σ.1 2 1) ≤ (1980 : Int32) then (Option.bind (f_X7_putWord σ x1) fun σ3 => Option.bind (f_X7_putWord σ3 x2) fun σ5 => Option.bind (f_X7_putWord σ5 x3) fun σ7 => Option.bind (f_X7_putWord σ7 x4) fun σ9 => Option.bind (f_X7_putWord σ9 x5) fun σ11 => some ((σ11.1 2 1), σ11)) else (some ((-1 : Int32), σ))
theorem hd_X10_feed : yX10_feed.cls = RX10 ∧ yX10_feed.cls ≠ "java/lang/invoke/MethodHandle" ∧ yX10_feed.cls ≠ "java/lang/invoke/VarHandle" ∧ (parseMethodDescriptor yX10_feed.desc).map (fun d => d.parameters.length) = some 5 := by decide +kernel
set_option maxRecDepth 100000 in
set_option maxHeartbeats 4000000 in
theorem k_X10_feed {l : Launch} {ad : Nat → Nat} {D : va_G} {cy : Nat → ClassId} {z : wStr} (hI : wI WC ad) {σ : St} {x1 : Int32} {x2 : Int32} {x3 : Int32} {x4 : Int32} {x5 : Int32}  {res : Int32 × St} (hf : f_X10_feed σ x1 x2 x3 x4 x5 = some res) : wC WC ad D cy z l yX10_feed (Cond.code yX10_feed cX10_feed 6 (Option.some Jvm.ClassFile.FieldType.int) :: aw) (2) (122) [.ref (ad 0), .int x1, .int x2, .int x3, .int x4, .int x5] σ (wQi WC ad D cy res.1 res.2) := by
  unfold f_X10_feed at hf
  refine wr_start (own := RX10) hI (by decide +kernel) rfl (Nat.le_of_ble_eq_true rfl) rfl ?_
  intro p e s m below meth c ls X hw hr hl
  have hx := X.hx
  have hb := X.hb
  obtain ⟨H, eH⟩ : ∃ H : Heap, H = s.heap := ⟨_, rfl⟩
  obtain ⟨locs, el⟩ : ∃ locs : List Loc, locs = [] := ⟨_, rfl⟩
  rw [← eH, ← el] at hw ⊢
  clear eH el
  replace hl : lv_has ls 6 [(0, .ref (ad 0)), (1, .int x1), (2, .int x2), (3, .int x3), (4, .int x4), (5, .int x5)] := hl
  refine lv_aload_n hx hb dX10_feed_0 rfl (lv_at hl 0 rfl) ?_
  refine gX10_0 (b := 2) X hw sC0 nC0 rfl fl_X10_10 dX10_feed_1 ?_
  refine gnX7_1 X hw sC2 nC2 fn_X10_88 dX10_feed_4 ?_
  refine lv_sipush (v := 1980) hx hb dX10_feed_7 (by decide) ?_
  refine lv_icmp_le (tgt := 15) hx hb dX10_feed_10 (by decide) (fun c1 => ?_) (fun c1 => ?_)
  · have hf := (if_pos c1).symm.trans hf
    refine lv_aload_n hx hb dX10_feed_15 rfl (lv_at hl 0 rfl) ?_
    refine gX10_0 (b := 2) X hw sC0 nC0 rfl fl_X10_10 dX10_feed_16 ?_
    refine lv_iload_n hx hb dX10_feed_19 rfl (lv_at hl 1 rfl) ?_
    obtain ⟨σ3, hq2, hf⟩ := bind_some hf
    refine wr_cNv (σ' := σ3) (av := [.int x1]) (rest := []) X hw hl.1 sC2 nC2 rfl (k_X7_putWord hI hq2) rfl mn_X10_91 im_X7_putWord se_X7_putWord ini_X7 co_X7_putWord hd_X7_putWord ⟨Nat.le_of_ble_eq_true rfl, Nat.le_of_ble_eq_true rfl⟩ (Nat.le_of_ble_eq_true rfl) dX10_feed_20 rfl (fun H locs hw => ?_)
    refine lv_aload_n hx hb dX10_feed_23 rfl (lv_at hl 0 rfl) ?_
    refine gX10_0 (b := 2) X hw sC0 nC0 rfl fl_X10_10 dX10_feed_24 ?_
    refine lv_iload_n hx hb dX10_feed_27 rfl (lv_at hl 2 rfl) ?_
    obtain ⟨σ5, hq4, hf⟩ := bind_some hf
    refine wr_cNv (σ' := σ5) (av := [.int x2]) (rest := []) X hw hl.1 sC2 nC2 rfl (k_X7_putWord hI hq4) rfl mn_X10_91 im_X7_putWord se_X7_putWord ini_X7 co_X7_putWord hd_X7_putWord ⟨Nat.le_of_ble_eq_true rfl, Nat.le_of_ble_eq_true rfl⟩ (Nat.le_of_ble_eq_true rfl) dX10_feed_28 rfl (fun H locs hw => ?_)
    refine lv_aload_n hx hb dX10_feed_31 rfl (lv_at hl 0 rfl) ?_
    refine gX10_0 (b := 2) X hw sC0 nC0 rfl fl_X10_10 dX10_feed_32 ?_
    refine lv_iload_n hx hb dX10_feed_35 rfl (lv_at hl 3 rfl) ?_
    obtain ⟨σ7, hq6, hf⟩ := bind_some hf
    refine wr_cNv (σ' := σ7) (av := [.int x3]) (rest := []) X hw hl.1 sC2 nC2 rfl (k_X7_putWord hI hq6) rfl mn_X10_91 im_X7_putWord se_X7_putWord ini_X7 co_X7_putWord hd_X7_putWord ⟨Nat.le_of_ble_eq_true rfl, Nat.le_of_ble_eq_true rfl⟩ (Nat.le_of_ble_eq_true rfl) dX10_feed_36 rfl (fun H locs hw => ?_)
    refine lv_aload_n hx hb dX10_feed_39 rfl (lv_at hl 0 rfl) ?_
    refine gX10_0 (b := 2) X hw sC0 nC0 rfl fl_X10_10 dX10_feed_40 ?_
    refine lv_iload hx hb dX10_feed_43 (lv_at hl 4 rfl) ?_
    obtain ⟨σ9, hq8, hf⟩ := bind_some hf
    refine wr_cNv (σ' := σ9) (av := [.int x4]) (rest := []) X hw hl.1 sC2 nC2 rfl (k_X7_putWord hI hq8) rfl mn_X10_91 im_X7_putWord se_X7_putWord ini_X7 co_X7_putWord hd_X7_putWord ⟨Nat.le_of_ble_eq_true rfl, Nat.le_of_ble_eq_true rfl⟩ (Nat.le_of_ble_eq_true rfl) dX10_feed_45 rfl (fun H locs hw => ?_)
    refine lv_aload_n hx hb dX10_feed_48 rfl (lv_at hl 0 rfl) ?_
    refine gX10_0 (b := 2) X hw sC0 nC0 rfl fl_X10_10 dX10_feed_49 ?_
    refine lv_iload hx hb dX10_feed_52 (lv_at hl 5 rfl) ?_
    obtain ⟨σ11, hq10, hf⟩ := bind_some hf
    refine wr_cNv (σ' := σ11) (av := [.int x5]) (rest := []) X hw hl.1 sC2 nC2 rfl (k_X7_putWord hI hq10) rfl mn_X10_91 im_X7_putWord se_X7_putWord ini_X7 co_X7_putWord hd_X7_putWord ⟨Nat.le_of_ble_eq_true rfl, Nat.le_of_ble_eq_true rfl⟩ (Nat.le_of_ble_eq_true rfl) dX10_feed_54 rfl (fun H locs hw => ?_)
    refine lv_aload_n hx hb dX10_feed_57 rfl (lv_at hl 0 rfl) ?_
    refine gX10_0 (b := 2) X hw sC0 nC0 rfl fl_X10_10 dX10_feed_58 ?_
    refine gnX7_1 X hw sC2 nC2 fn_X10_88 dX10_feed_61 ?_
    have er := Option.some.inj hf
    subst er
    exact wr_iret X hw hr (Or.inl rfl) dX10_feed_64
  · have hf := (if_neg c1).symm.trans hf
    refine lv_iconst (v := -1) hx hb dX10_feed_13 (by decide) ?_
    have er := Option.some.inj hf
    subst er
    exact wr_iret X hw hr (Or.inl rfl) dX10_feed_14

def f_X10_fits (σ : St) (x1 : Int32) (x2 : Int32) : Option (Int32 × St) := if x1 < 0 then (some ((-1 : Int32), σ)) else (if (σ.1 31 4) < x1 then (some ((-1 : Int32), σ)) else (if x2 < 0 then (some ((-1 : Int32), σ)) else (if x2 ≤ (1 : Int32) then (Option.bind (f_X2_layFirst σ 38) fun σ6 => Option.bind (f_X9_seekFitting σ6 x1 (0 : Int32)) fun σ8 => if x2 = 0 then (some ((σ8.1 31 5), σ8)) else (if (σ8.1 31 5) = 0 then (some ((-2 : Int32), σ8)) else (some ((σ8.1 31 6), σ8)))) else (some ((-1 : Int32), σ)))))
theorem hd_X10_fits : yX10_fits.cls = RX10 ∧ yX10_fits.cls ≠ "java/lang/invoke/MethodHandle" ∧ yX10_fits.cls ≠ "java/lang/invoke/VarHandle" ∧ (parseMethodDescriptor yX10_fits.desc).map (fun d => d.parameters.length) = some 2 := by decide +kernel
set_option maxRecDepth 100000 in
set_option maxHeartbeats 4000000 in
theorem k_X10_fits {l : Launch} {ad : Nat → Nat} {D : va_G} {cy : Nat → ClassId} {z : wStr} (hI : wI WC ad) {σ : St} {x1 : Int32} {x2 : Int32}  {res : Int32 × St} (hf : f_X10_fits σ x1 x2 = some res) : wC WC ad D cy z l yX10_fits (Cond.code yX10_fits cX10_fits 3 (Option.some Jvm.ClassFile.FieldType.int) :: aw) (7) (248) [.ref (ad 0), .int x1, .int x2] σ (wQi WC ad D cy res.1 res.2) := by
  unfold f_X10_fits at hf
  refine wr_start (own := RX10) hI (by decide +kernel) rfl (Nat.le_of_ble_eq_true rfl) rfl ?_
  intro p e s m below meth c ls X hw hr hl
  have hx := X.hx
  have hb := X.hb
  obtain ⟨H, eH⟩ : ∃ H : Heap, H = s.heap := ⟨_, rfl⟩
  obtain ⟨locs, el⟩ : ∃ locs : List Loc, locs = [] := ⟨_, rfl⟩
  rw [← eH, ← el] at hw ⊢
  clear eH el
  replace hl : lv_has ls 3 [(0, .ref (ad 0)), (1, .int x1), (2, .int x2)] := hl
  refine lv_iload_n hx hb dX10_fits_0 rfl (lv_at hl 1 rfl) ?_
  refine lv_if_lt (tgt := 24) hx hb dX10_fits_1 (by decide) (fun c1 => ?_) (fun c1 => ?_)
  · have hf := (if_pos c1).symm.trans hf
    refine lv_iconst (v := -1) hx hb dX10_fits_24 (by decide) ?_
    have er := Option.some.inj hf
    subst er
    exact wr_iret X hw hr (Or.inl rfl) dX10_fits_25
  · have hf := (if_neg c1).symm.trans hf
    refine lv_iload_n hx hb dX10_fits_4 rfl (lv_at hl 1 rfl) ?_
    refine lv_aload_n hx hb dX10_fits_5 rfl (lv_at hl 0 rfl) ?_
    refine gX10_6 (b := 31) X hw sC0 nC0 rfl fl_X10_62 dX10_fits_6 ?_
    refine gnX9_4 X hw sC31 nC31 fn_X10_112 dX10_fits_9 ?_
    refine lv_icmp_gt (tgt := 24) hx hb dX10_fits_12 (by decide) (fun c2 => ?_) (fun c2 => ?_)
    · have hf := (if_pos c2).symm.trans hf
      refine lv_iconst (v := -1) hx hb dX10_fits_24 (by decide) ?_
      have er := Option.some.inj hf
      subst er
      exact wr_iret X hw hr (Or.inl rfl) dX10_fits_25
    · have hf := (if_neg c2).symm.trans hf
      refine lv_iload_n hx hb dX10_fits_15 rfl (lv_at hl 2 rfl) ?_
      refine lv_if_lt (tgt := 24) hx hb dX10_fits_16 (by decide) (fun c3 => ?_) (fun c3 => ?_)
      · have hf := (if_pos c3).symm.trans hf
        refine lv_iconst (v := -1) hx hb dX10_fits_24 (by decide) ?_
        have er := Option.some.inj hf
        subst er
        exact wr_iret X hw hr (Or.inl rfl) dX10_fits_25
      · have hf := (if_neg c3).symm.trans hf
        refine lv_iload_n hx hb dX10_fits_19 rfl (lv_at hl 2 rfl) ?_
        refine lv_iconst (v := 1) hx hb dX10_fits_20 (by decide) ?_
        refine lv_icmp_le (tgt := 26) hx hb dX10_fits_21 (by decide) (fun c4 => ?_) (fun c4 => ?_)
        · have hf := (if_pos c4).symm.trans hf
          refine lv_aload_n hx hb dX10_fits_26 rfl (lv_at hl 0 rfl) ?_
          refine gX10_4 (b := 25) X hw sC0 nC0 rfl fl_X10_46 dX10_fits_27 ?_
          refine lv_aload_n hx hb dX10_fits_30 rfl (lv_at hl 0 rfl) ?_
          refine gX10_7 (b := 38) X hw sC0 nC0 rfl fl_X10_69 dX10_fits_31 ?_
          obtain ⟨σ6, hq5, hf⟩ := bind_some hf
          refine wr_cNv (σ' := σ6) (av := [.ref (ad 38)]) (rest := []) X hw hl.1 sC25 nC25 rfl (k_X2_layFirst hI st_now hq5) rfl mn_X10_211 im_X2_layFirst se_X2_layFirst ini_X2 co_X2_layFirst hd_X2_layFirst ⟨Nat.le_of_ble_eq_true rfl, Nat.le_of_ble_eq_true rfl⟩ (Nat.le_of_ble_eq_true rfl) dX10_fits_34 rfl (fun H locs hw => ?_)
          refine lv_aload_n hx hb dX10_fits_37 rfl (lv_at hl 0 rfl) ?_
          refine gX10_6 (b := 31) X hw sC0 nC0 rfl fl_X10_62 dX10_fits_38 ?_
          refine lv_aload_n hx hb dX10_fits_41 rfl (lv_at hl 0 rfl) ?_
          refine gX10_4 (b := 25) X hw sC0 nC0 rfl fl_X10_46 dX10_fits_42 ?_
          refine lv_iload_n hx hb dX10_fits_45 rfl (lv_at hl 1 rfl) ?_
          refine lv_iconst (v := 0) hx hb dX10_fits_46 (by decide) ?_
          obtain ⟨σ8, hq7, hf⟩ := bind_some hf
          refine wr_cNv (σ' := σ8) (av := [.ref (ad 25), .int x1, .int (0 : Int32)]) (rest := []) X hw hl.1 sC31 nC31 rfl (k_X9_seekFitting hI hq7) rfl mn_X10_273 im_X9_seekFitting se_X9_seekFitting ini_X9 co_X9_seekFitting hd_X9_seekFitting ⟨Nat.le_of_ble_eq_true rfl, Nat.le_of_ble_eq_true rfl⟩ (Nat.le_of_ble_eq_true rfl) dX10_fits_47 rfl (fun H locs hw => ?_)
          refine lv_iload_n hx hb dX10_fits_50 rfl (lv_at hl 2 rfl) ?_
          refine lv_if_ne (tgt := 62) hx hb dX10_fits_51 (by decide) (fun c9 => ?_) (fun c9 => ?_)
          · have hf := (if_neg c9).symm.trans hf
            refine lv_aload_n hx hb dX10_fits_62 rfl (lv_at hl 0 rfl) ?_
            refine gX10_6 (b := 31) X hw sC0 nC0 rfl fl_X10_62 dX10_fits_63 ?_
            refine gnX9_5 X hw sC31 nC31 fn_X10_277 dX10_fits_66 ?_
            refine lv_if_ne (tgt := 77) hx hb dX10_fits_69 (by decide) (fun c10 => ?_) (fun c10 => ?_)
            · have hf := (if_neg c10).symm.trans hf
              refine lv_aload_n hx hb dX10_fits_77 rfl (lv_at hl 0 rfl) ?_
              refine gX10_6 (b := 31) X hw sC0 nC0 rfl fl_X10_62 dX10_fits_78 ?_
              refine gnX9_6 X hw sC31 nC31 fn_X10_280 dX10_fits_81 ?_
              have er := Option.some.inj hf
              subst er
              exact wr_iret X hw hr (Or.inl rfl) dX10_fits_84
            · have hf := (if_pos c10).symm.trans hf
              refine lv_bipush (v := -2) hx hb dX10_fits_72 (by decide) ?_
              refine lv_goto (tgt := 84) hx hb dX10_fits_74 (by decide) ?_
              have er := Option.some.inj hf
              subst er
              exact wr_iret X hw hr (Or.inl rfl) dX10_fits_84
          · have hf := (if_pos c9).symm.trans hf
            refine lv_aload_n hx hb dX10_fits_54 rfl (lv_at hl 0 rfl) ?_
            refine gX10_6 (b := 31) X hw sC0 nC0 rfl fl_X10_62 dX10_fits_55 ?_
            refine gnX9_5 X hw sC31 nC31 fn_X10_277 dX10_fits_58 ?_
            have er := Option.some.inj hf
            subst er
            exact wr_iret X hw hr (Or.inl rfl) dX10_fits_61
        · have hf := (if_neg c4).symm.trans hf
          refine lv_iconst (v := -1) hx hb dX10_fits_24 (by decide) ?_
          have er := Option.some.inj hf
          subst er
          exact wr_iret X hw hr (Or.inl rfl) dX10_fits_25

def f_X10_forget (σ : St)  : Option (Int32 × St) := wlet (σ.1 31 4) fun v1 => wlet (si σ 31 4 (0 : Int32)) fun σ2 => some (v1, σ2)
theorem hd_X10_forget : yX10_forget.cls = RX10 ∧ yX10_forget.cls ≠ "java/lang/invoke/MethodHandle" ∧ yX10_forget.cls ≠ "java/lang/invoke/VarHandle" ∧ (parseMethodDescriptor yX10_forget.desc).map (fun d => d.parameters.length) = some 0 := by decide +kernel
set_option maxRecDepth 100000 in
set_option maxHeartbeats 4000000 in
theorem k_X10_forget {l : Launch} {ad : Nat → Nat} {D : va_G} {cy : Nat → ClassId} {z : wStr} (hI : wI WC ad) {σ : St}   {res : Int32 × St} (hf : f_X10_forget σ  = some res) : wC WC ad D cy z l yX10_forget (Cond.code yX10_forget cX10_forget 2 (Option.some Jvm.ClassFile.FieldType.int) :: aw) (1) (100) [.ref (ad 0)] σ (wQi WC ad D cy res.1 res.2) := by
  unfold f_X10_forget at hf
  refine wr_start (own := RX10) hI (by decide +kernel) rfl (Nat.le_of_ble_eq_true rfl) rfl ?_
  intro p e s m below meth c ls X hw hr hl
  have hx := X.hx
  have hb := X.hb
  obtain ⟨H, eH⟩ : ∃ H : Heap, H = s.heap := ⟨_, rfl⟩
  obtain ⟨locs, el⟩ : ∃ locs : List Loc, locs = [] := ⟨_, rfl⟩
  rw [← eH, ← el] at hw ⊢
  clear eH el
  replace hl : lv_has ls 2 [(0, .ref (ad 0))] := hl
  refine lv_aload_n hx hb dX10_forget_0 rfl (lv_at hl 0 rfl) ?_
  refine gX10_6 (b := 31) X hw sC0 nC0 rfl fl_X10_62 dX10_forget_1 ?_
  refine gnX9_4 X hw sC31 nC31 fn_X10_112 dX10_forget_4 ?_
  obtain ⟨v1, ev1, hf⟩ := wlet_some hf
  refine wr_top ev1 ?_
  refine lv_istore_n (lv' := [(1, .int v1), (0, .ref (ad 0))]) hx hb dX10_forget_7 rfl hl (by decide) rfl (fun ls hl => ?_)
  refine lv_aload_n hx hb dX10_forget_8 rfl (lv_at hl 1 rfl) ?_
  refine gX10_6 (b := 31) X hw sC0 nC0 rfl fl_X10_62 dX10_forget_9 ?_
  refine lv_iconst (v := 0) hx hb dX10_forget_12 (by decide) ?_
  obtain ⟨σ2, eσ2, hf⟩ := wlet_some hf
  refine pnX9_4 X hw sC31 nC31 fn_X10_112 dX10_forget_13 (fun H locs hw => ?_)
  replace hw := hw.to eσ2
  refine lv_iload_n hx hb dX10_forget_16 rfl (lv_at hl 0 rfl) ?_
  have er := Option.some.inj hf
  subst er
  exact wr_iret X hw hr (Or.inl rfl) dX10_forget_17

def f_X10_furthest (σ : St) (x1 : Int32) (x2 : Int32) : Option (Int32 × St) := Option.bind (f_X6_isListed σ 38 x1) fun v2 => if v2 = 0 then (some ((-1 : Int32), σ)) else (if x2 < 0 then (some ((-1 : Int32), σ)) else (if x2 ≤ (1 : Int32) then (Option.bind (f_X3_seekFurthest σ 38 x1) fun σ7 => Option.bind (f_X3_answer σ7 x2) fun v9 => some (v9, σ7)) else (some ((-1 : Int32), σ))))
theorem hd_X10_furthest : yX10_furthest.cls = RX10 ∧ yX10_furthest.cls ≠ "java/lang/invoke/MethodHandle" ∧ yX10_furthest.cls ≠ "java/lang/invoke/VarHandle" ∧ (parseMethodDescriptor yX10_furthest.desc).map (fun d => d.parameters.length) = some 2 := by decide +kernel
set_option maxRecDepth 100000 in
set_option maxHeartbeats 4000000 in
theorem k_X10_furthest {l : Launch} {ad : Nat → Nat} {D : va_G} {cy : Nat → ClassId} {z : wStr} (hI : wI WC ad) {σ : St} {x1 : Int32} {x2 : Int32}  {res : Int32 × St} (hf : f_X10_furthest σ x1 x2 = some res) : wC WC ad D cy z l yX10_furthest (Cond.code yX10_furthest cX10_furthest 3 (Option.some Jvm.ClassFile.FieldType.int) :: aw) (7) (245) [.ref (ad 0), .int x1, .int x2] σ (wQi WC ad D cy res.1 res.2) := by
  unfold f_X10_furthest at hf
  refine wr_start (own := RX10) hI (by decide +kernel) rfl (Nat.le_of_ble_eq_true rfl) rfl ?_
  intro p e s m below meth c ls X hw hr hl
  have hx := X.hx
  have hb := X.hb
  obtain ⟨H, eH⟩ : ∃ H : Heap, H = s.heap := ⟨_, rfl⟩
  obtain ⟨locs, el⟩ : ∃ locs : List Loc, locs = [] := ⟨_, rfl⟩
  rw [← eH, ← el] at hw ⊢
  clear eH el
  replace hl : lv_has ls 3 [(0, .ref (ad 0)), (1, .int x1), (2, .int x2)] := hl
  refine lv_aload_n hx hb dX10_furthest_0 rfl (lv_at hl 0 rfl) ?_
  refine gX10_7 (b := 38) X hw sC0 nC0 rfl fl_X10_69 dX10_furthest_1 ?_
  refine lv_iload_n hx hb dX10_furthest_4 rfl (lv_at hl 1 rfl) ?_
  obtain ⟨v2, hq1, hf⟩ := bind_some hf
  refine wr_cNi (r := v2) (σ' := σ) (av := [.int x1]) (rest := []) X hw hl.1 (isSt.s0 st_now) (isSt.n0 st_now) rfl (k_X6_isListed hI st_now hq1) rfl mn_X10_127 im_X6_isListed se_X6_isListed ini_X6 co_X6_isListed hd_X6_isListed ⟨Nat.le_of_ble_eq_true rfl, Nat.le_of_ble_eq_true rfl⟩ (Nat.le_of_ble_eq_true rfl) dX10_furthest_5 rfl (fun H locs hw => ?_)
  refine lv_if_eq (tgt := 20) hx hb dX10_furthest_8 (by decide) (fun c3 => ?_) (fun c3 => ?_)
  · have hf := (if_pos c3).symm.trans hf
    refine lv_iconst (v := -1) hx hb dX10_furthest_20 (by decide) ?_
    have er := Option.some.inj hf
    subst er
    exact wr_iret X hw hr (Or.inl rfl) dX10_furthest_21
  · have hf := (if_neg c3).symm.trans hf
    refine lv_iload_n hx hb dX10_furthest_11 rfl (lv_at hl 2 rfl) ?_
    refine lv_if_lt (tgt := 20) hx hb dX10_furthest_12 (by decide) (fun c4 => ?_) (fun c4 => ?_)
    · have hf := (if_pos c4).symm.trans hf
      refine lv_iconst (v := -1) hx hb dX10_furthest_20 (by decide) ?_
      have er := Option.some.inj hf
      subst er
      exact wr_iret X hw hr (Or.inl rfl) dX10_furthest_21
    · have hf := (if_neg c4).symm.trans hf
      refine lv_iload_n hx hb dX10_furthest_15 rfl (lv_at hl 2 rfl) ?_
      refine lv_iconst (v := 1) hx hb dX10_furthest_16 (by decide) ?_
      refine lv_icmp_le (tgt := 22) hx hb dX10_furthest_17 (by decide) (fun c5 => ?_) (fun c5 => ?_)
      · have hf := (if_pos c5).symm.trans hf
        refine lv_aload_n hx hb dX10_furthest_22 rfl (lv_at hl 0 rfl) ?_
        refine gX10_5 (b := 30) X hw sC0 nC0 rfl fl_X10_55 dX10_furthest_23 ?_
        refine lv_aload_n hx hb dX10_furthest_26 rfl (lv_at hl 0 rfl) ?_
        refine gX10_7 (b := 38) X hw sC0 nC0 rfl fl_X10_69 dX10_furthest_27 ?_
        refine lv_iload_n hx hb dX10_furthest_30 rfl (lv_at hl 1 rfl) ?_
        obtain ⟨σ7, hq6, hf⟩ := bind_some hf
        refine wr_cNv (σ' := σ7) (av := [.ref (ad 38), .int x1]) (rest := []) X hw hl.1 sC30 nC30 rfl (k_X3_seekFurthest hI st_now hq6) rfl mn_X10_256 im_X3_seekFurthest se_X3_seekFurthest ini_X3 co_X3_seekFurthest hd_X3_seekFurthest ⟨Nat.le_of_ble_eq_true rfl, Nat.le_of_ble_eq_true rfl⟩ (Nat.le_of_ble_eq_true rfl) dX10_furthest_31 rfl (fun H locs hw => ?_)
        refine lv_aload_n hx hb dX10_furthest_34 rfl (lv_at hl 0 rfl) ?_
        refine gX10_5 (b := 30) X hw sC0 nC0 rfl fl_X10_55 dX10_furthest_35 ?_
        refine lv_iload_n hx hb dX10_furthest_38 rfl (lv_at hl 2 rfl) ?_
        obtain ⟨v9, hq8, hf⟩ := bind_some hf
        refine wr_cNi (r := v9) (σ' := σ7) (av := [.int x2]) (rest := []) X hw hl.1 sC30 nC30 rfl (k_X3_answer hI hq8) rfl mn_X10_246 im_X3_answer se_X3_answer ini_X3 co_X3_answer hd_X3_answer ⟨Nat.le_of_ble_eq_true rfl, Nat.le_of_ble_eq_true rfl⟩ (Nat.le_of_ble_eq_true rfl) dX10_furthest_39 rfl (fun H locs hw => ?_)
        have er := Option.some.inj hf
        subst er
        exact wr_iret X hw hr (Or.inl rfl) dX10_furthest_42
      · have hf := (if_neg c5).symm.trans hf
        refine lv_iconst (v := -1) hx hb dX10_furthest_20 (by decide) ?_
        have er := Option.some.inj hf
        subst er
        exact wr_iret X hw hr (Or.inl rfl) dX10_furthest_21

def f_X10_gain (σ : St) (x1 : Int32) (x2 : Int32) : Option (Int32 × St) := if x1 = x2 then (some ((-100000 : Int32), σ)) else (Option.bind (f_X6_isListed σ 38 x1) fun v3 => if v3 = 0 then (some ((-100000 : Int32), σ)) else (Option.bind (f_X6_isListed σ 38 x2) fun v6 => if v6 = 0 then (some ((-100000 : Int32), σ)) else (bnd2 (f_X3_gainOfSwap σ 38 x1 x2) fun v9 σ10 => some (v9, σ10))))
theorem hd_X10_gain : yX10_gain.cls = RX10 ∧ yX10_gain.cls ≠ "java/lang/invoke/MethodHandle" ∧ yX10_gain.cls ≠ "java/lang/invoke/VarHandle" ∧ (parseMethodDescriptor yX10_gain.desc).map (fun d => d.parameters.length) = some 2 := by decide +kernel
set_option maxRecDepth 100000 in
set_option maxHeartbeats 4000000 in
theorem k_X10_gain {l : Launch} {ad : Nat → Nat} {D : va_G} {cy : Nat → ClassId} {z : wStr} (hI : wI WC ad) {σ : St} {x1 : Int32} {x2 : Int32}  {res : Int32 × St} (hf : f_X10_gain σ x1 x2 = some res) : wC WC ad D cy z l yX10_gain (Cond.code yX10_gain cX10_gain 3 (Option.some Jvm.ClassFile.FieldType.int) :: aw) (8) (267) [.ref (ad 0), .int x1, .int x2] σ (wQi WC ad D cy res.1 res.2) := by
  unfold f_X10_gain at hf
  refine wr_start (own := RX10) hI (by decide +kernel) rfl (Nat.le_of_ble_eq_true rfl) rfl ?_
  intro p e s m below meth c ls X hw hr hl
  have hx := X.hx
  have hb := X.hb
  obtain ⟨H, eH⟩ : ∃ H : Heap, H = s.heap := ⟨_, rfl⟩
  obtain ⟨locs, el⟩ : ∃ locs : List Loc, locs = [] := ⟨_, rfl⟩
  rw [← eH, ← el] at hw ⊢
  clear eH el
  replace hl : lv_has ls 3 [(0, .ref (ad 0)), (1, .int x1), (2, .int x2)] := hl
  refine lv_iload_n hx hb dX10_gain_0 rfl (lv_at hl 1 rfl) ?_
  refine lv_iload_n hx hb dX10_gain_1 rfl (lv_at hl 2 rfl) ?_
  refine lv_icmp_eq (tgt := 27) hx hb dX10_gain_2 (by decide) (fun c1 => ?_) (fun c1 => ?_)
  · have hf := (if_pos c1).symm.trans hf
    refine lv_ldc (v := -100000) hx hb X.ow (X.tw kc_X10_232) dX10_gain_27 ?_
    have er := Option.some.inj hf
    subst er
    exact wr_iret X hw hr (Or.inl rfl) dX10_gain_29
  · have hf := (if_neg c1).symm.trans hf
    refine lv_aload_n hx hb dX10_gain_5 rfl (lv_at hl 0 rfl) ?_
    refine gX10_7 (b := 38) X hw sC0 nC0 rfl fl_X10_69 dX10_gain_6 ?_
    refine lv_iload_n hx hb dX10_gain_9 rfl (lv_at hl 1 rfl) ?_
    obtain ⟨v3, hq2, hf⟩ := bind_some hf
    refine wr_cNi (r := v3) (σ' := σ) (av := [.int x1]) (rest := []) X hw hl.1 (isSt.s0 st_now) (isSt.n0 st_now) rfl (k_X6_isListed hI st_now hq2) rfl mn_X10_127 im_X6_isListed se_X6_isListed ini_X6 co_X6_isListed hd_X6_isListed ⟨Nat.le_of_ble_eq_true rfl, Nat.le_of_ble_eq_true rfl⟩ (Nat.le_of_ble_eq_true rfl) dX10_gain_10 rfl (fun H locs hw => ?_)
    refine lv_if_eq (tgt := 27) hx hb dX10_gain_13 (by decide) (fun c4 => ?_) (fun c4 => ?_)
    · have hf := (if_pos c4).symm.trans hf
      refine lv_ldc (v := -100000) hx hb X.ow (X.tw kc_X10_232) dX10_gain_27 ?_
      have er := Option.some.inj hf
      subst er
      exact wr_iret X hw hr (Or.inl rfl) dX10_gain_29
    · have hf := (if_neg c4).symm.trans hf
      refine lv_aload_n hx hb dX10_gain_16 rfl (lv_at hl 0 rfl) ?_
      refine gX10_7 (b := 38) X hw sC0 nC0 rfl fl_X10_69 dX10_gain_17 ?_
      refine lv_iload_n hx hb dX10_gain_20 rfl (lv_at hl 2 rfl) ?_
      obtain ⟨v6, hq5, hf⟩ := bind_some hf
      refine wr_cNi (r := v6) (σ' := σ) (av := [.int x2]) (rest := []) X hw hl.1 (isSt.s0 st_now) (isSt.n0 st_now) rfl (k_X6_isListed hI st_now hq5) rfl mn_X10_127 im_X6_isListed se_X6_isListed ini_X6 co_X6_isListed hd_X6_isListed ⟨Nat.le_of_ble_eq_true rfl, Nat.le_of_ble_eq_true rfl⟩ (Nat.le_of_ble_eq_true rfl) dX10_gain_21 rfl (fun H locs hw => ?_)
      refine lv_if_ne (tgt := 30) hx hb dX10_gain_24 (by decide) (fun c7 => ?_) (fun c7 => ?_)
      · have hf := (if_neg c7).symm.trans hf
        refine lv_aload_n hx hb dX10_gain_30 rfl (lv_at hl 0 rfl) ?_
        refine gX10_5 (b := 30) X hw sC0 nC0 rfl fl_X10_55 dX10_gain_31 ?_
        refine lv_aload_n hx hb dX10_gain_34 rfl (lv_at hl 0 rfl) ?_
        refine gX10_7 (b := 38) X hw sC0 nC0 rfl fl_X10_69 dX10_gain_35 ?_
        refine lv_iload_n hx hb dX10_gain_38 rfl (lv_at hl 1 rfl) ?_
        refine lv_iload_n hx hb dX10_gain_39 rfl (lv_at hl 2 rfl) ?_
        obtain ⟨v9, σ10, hq8, hf⟩ := bnd2_some hf
        refine wr_cNi (r := v9) (σ' := σ10) (av := [.ref (ad 38), .int x1, .int x2]) (rest := []) X hw hl.1 sC30 nC30 rfl (k_X3_gainOfSwap hI st_now hq8) rfl mn_X10_233 im_X3_gainOfSwap se_X3_gainOfSwap ini_X3 co_X3_gainOfSwap hd_X3_gainOfSwap ⟨Nat.le_of_ble_eq_true rfl, Nat.le_of_ble_eq_true rfl⟩ (Nat.le_of_ble_eq_true rfl) dX10_gain_40 rfl (fun H locs hw => ?_)
        have er := Option.some.inj hf
        subst er
        exact wr_iret X hw hr (Or.inl rfl) dX10_gain_43
      · have hf := (if_pos c7).symm.trans hf
        refine lv_ldc (v := -100000) hx hb X.ow (X.tw kc_X10_232) dX10_gain_27 ?_
        have er := Option.some.inj hf
        subst er
        exact wr_iret X hw hr (Or.inl rfl) dX10_gain_29

def f_X10_go (σ : St) (x1 : Int32) (x2 : Int32) : Option (Int32 × St) := Option.bind (f_X6_isListed σ 38 x1) fun v2 => if v2 = 0 then (some ((0 : Int32), σ)) else (Option.bind (f_X6_docketAt σ 38 x2) fun v5 => if v5 = (-1 : Int32) then (some ((0 : Int32), σ)) else (Option.bind (f_X6_placeOf σ 38 x1) fun v8 => if v8 = x2 then (some ((0 : Int32), σ)) else (Option.bind (f_X0_remember σ 38) fun σ11 => Option.bind (f_X6_move σ11 38 x1 x2) fun σ13 => some ((1 : Int32), σ13))))
theorem hd_X10_go : yX10_go.cls = RX10 ∧ yX10_go.cls ≠ "java/lang/invoke/MethodHandle" ∧ yX10_go.cls ≠ "java/lang/invoke/VarHandle" ∧ (parseMethodDescriptor yX10_go.desc).map (fun d => d.parameters.length) = some 2 := by decide +kernel
set_option maxRecDepth 100000 in
set_option maxHeartbeats 4000000 in
theorem k_X10_go {l : Launch} {ad : Nat → Nat} {D : va_G} {cy : Nat → ClassId} {z : wStr} (hI : wI WC ad) {σ : St} {x1 : Int32} {x2 : Int32}  {res : Int32 × St} (hf : f_X10_go σ x1 x2 = some res) : wC WC ad D cy z l yX10_go (Cond.code yX10_go cX10_go 3 (Option.some Jvm.ClassFile.FieldType.boolean) :: aw) (3) (147) [.ref (ad 0), .int x1, .int x2] σ (wQi WC ad D cy res.1 res.2) := by
  unfold f_X10_go at hf
  refine wr_start (own := RX10) hI (by decide +kernel) rfl (Nat.le_of_ble_eq_true rfl) rfl ?_
  intro p e s m below meth c ls X hw hr hl
  have hx := X.hx
  have hb := X.hb
  obtain ⟨H, eH⟩ : ∃ H : Heap, H = s.heap := ⟨_, rfl⟩
  obtain ⟨locs, el⟩ : ∃ locs : List Loc, locs = [] := ⟨_, rfl⟩
  rw [← eH, ← el] at hw ⊢
  clear eH el
  replace hl : lv_has ls 3 [(0, .ref (ad 0)), (1, .int x1), (2, .int x2)] := hl
  refine lv_aload_n hx hb dX10_go_0 rfl (lv_at hl 0 rfl) ?_
  refine gX10_7 (b := 38) X hw sC0 nC0 rfl fl_X10_69 dX10_go_1 ?_
  refine lv_iload_n hx hb dX10_go_4 rfl (lv_at hl 1 rfl) ?_
  obtain ⟨v2, hq1, hf⟩ := bind_some hf
  refine wr_cNi (r := v2) (σ' := σ) (av := [.int x1]) (rest := []) X hw hl.1 (isSt.s0 st_now) (isSt.n0 st_now) rfl (k_X6_isListed hI st_now hq1) rfl mn_X10_127 im_X6_isListed se_X6_isListed ini_X6 co_X6_isListed hd_X6_isListed ⟨Nat.le_of_ble_eq_true rfl, Nat.le_of_ble_eq_true rfl⟩ (Nat.le_of_ble_eq_true rfl) dX10_go_5 rfl (fun H locs hw => ?_)
  refine lv_if_eq (tgt := 35) hx hb dX10_go_8 (by decide) (fun c3 => ?_) (fun c3 => ?_)
  · have hf := (if_pos c3).symm.trans hf
    refine lv_iconst (v := 0) hx hb dX10_go_35 (by decide) ?_
    have er := Option.some.inj hf
    subst er
    exact wr_iret X hw hr (Or.inr ⟨rfl, (show bz (0 : Int32) = true from rfl)⟩) dX10_go_36
  · have hf := (if_neg c3).symm.trans hf
    refine lv_aload_n hx hb dX10_go_11 rfl (lv_at hl 0 rfl) ?_
    refine gX10_7 (b := 38) X hw sC0 nC0 rfl fl_X10_69 dX10_go_12 ?_
    refine lv_iload_n hx hb dX10_go_15 rfl (lv_at hl 2 rfl) ?_
    obtain ⟨v5, hq4, hf⟩ := bind_some hf
    refine wr_cNi (r := v5) (σ' := σ) (av := [.int x2]) (rest := []) X hw hl.1 (isSt.s0 st_now) (isSt.n0 st_now) rfl (k_X6_docketAt hI st_now hq4) rfl mn_X10_165 im_X6_docketAt se_X6_docketAt ini_X6 co_X6_docketAt hd_X6_docketAt ⟨Nat.le_of_ble_eq_true rfl, Nat.le_of_ble_eq_true rfl⟩ (Nat.le_of_ble_eq_true rfl) dX10_go_16 rfl (fun H locs hw => ?_)
    refine lv_iconst (v := -1) hx hb dX10_go_19 (by decide) ?_
    refine lv_icmp_eq (tgt := 35) hx hb dX10_go_20 (by decide) (fun c6 => ?_) (fun c6 => ?_)
    · have hf := (if_pos c6).symm.trans hf
      refine lv_iconst (v := 0) hx hb dX10_go_35 (by decide) ?_
      have er := Option.some.inj hf
      subst er
      exact wr_iret X hw hr (Or.inr ⟨rfl, (show bz (0 : Int32) = true from rfl)⟩) dX10_go_36
    · have hf := (if_neg c6).symm.trans hf
      refine lv_aload_n hx hb dX10_go_23 rfl (lv_at hl 0 rfl) ?_
      refine gX10_7 (b := 38) X hw sC0 nC0 rfl fl_X10_69 dX10_go_24 ?_
      refine lv_iload_n hx hb dX10_go_27 rfl (lv_at hl 1 rfl) ?_
      obtain ⟨v8, hq7, hf⟩ := bind_some hf
      refine wr_cNi (r := v8) (σ' := σ) (av := [.int x1]) (rest := []) X hw hl.1 (isSt.s0 st_now) (isSt.n0 st_now) rfl (k_X6_placeOf hI st_now hq7) rfl mn_X10_130 im_X6_placeOf se_X6_placeOf ini_X6 co_X6_placeOf hd_X6_placeOf ⟨Nat.le_of_ble_eq_true rfl, Nat.le_of_ble_eq_true rfl⟩ (Nat.le_of_ble_eq_true rfl) dX10_go_28 rfl (fun H locs hw => ?_)
      refine lv_iload_n hx hb dX10_go_31 rfl (lv_at hl 2 rfl) ?_
      refine lv_icmp_ne (tgt := 37) hx hb dX10_go_32 (by decide) (fun c9 => ?_) (fun c9 => ?_)
      · have hf := (if_neg c9).symm.trans hf
        refine lv_aload_n hx hb dX10_go_37 rfl (lv_at hl 0 rfl) ?_
        refine gX10_8 (b := 36) X hw sC0 nC0 rfl fl_X10_76 dX10_go_38 ?_
        refine lv_aload_n hx hb dX10_go_41 rfl (lv_at hl 0 rfl) ?_
        refine gX10_7 (b := 38) X hw sC0 nC0 rfl fl_X10_69 dX10_go_42 ?_
        obtain ⟨σ11, hq10, hf⟩ := bind_some hf
        refine wr_cNv (σ' := σ11) (av := [.ref (ad 38)]) (rest := []) X hw hl.1 sC36 nC36 rfl (k_X0_remember hI st_now hq10) rfl mn_X10_168 im_X0_remember se_X0_remember ini_X0 co_X0_remember hd_X0_remember ⟨Nat.le_of_ble_eq_true rfl, Nat.le_of_ble_eq_true rfl⟩ (Nat.le_of_ble_eq_true rfl) dX10_go_45 rfl (fun H locs hw => ?_)
        refine lv_aload_n hx hb dX10_go_48 rfl (lv_at hl 0 rfl) ?_
        refine gX10_7 (b := 38) X hw sC0 nC0 rfl fl_X10_69 dX10_go_49 ?_
        refine lv_iload_n hx hb dX10_go_52 rfl (lv_at hl 1 rfl) ?_
        refine lv_iload_n hx hb dX10_go_53 rfl (lv_at hl 2 rfl) ?_
        obtain ⟨σ13, hq12, hf⟩ := bind_some hf
        refine wr_cNv (σ' := σ13) (av := [.int x1, .int x2]) (rest := []) X hw hl.1 (isSt.s0 st_now) (isSt.n0 st_now) rfl (k_X6_move hI st_now hq12) rfl mn_X10_176 im_X6_move se_X6_move ini_X6 co_X6_move hd_X6_move ⟨Nat.le_of_ble_eq_true rfl, Nat.le_of_ble_eq_true rfl⟩ (Nat.le_of_ble_eq_true rfl) dX10_go_54 rfl (fun H locs hw => ?_)
        refine lv_iconst (v := 1) hx hb dX10_go_57 (by decide) ?_
        have er := Option.some.inj hf
        subst er
        exact wr_iret X hw hr (Or.inr ⟨rfl, (show bz (1 : Int32) = true from rfl)⟩) dX10_go_58
      · have hf := (if_pos c9).symm.trans hf
        refine lv_iconst (v := 0) hx hb dX10_go_35 (by decide) ?_
        have er := Option.some.inj hf
        subst er
        exact wr_iret X hw hr (Or.inr ⟨rfl, (show bz (0 : Int32) = true from rfl)⟩) dX10_go_36

def f_X10_hold (σ : St) (x1 : Int32) : Option (Int32 × St) := if x1 < 0 then (some ((0 : Int32), σ)) else (if x1 < (3 : Int32) then (if ib x1 3 = true then wlet (206 + 4 * (Int32.toNatClampNeg x1)) fun (oh4 : Nat) => Option.bind (f_X6_copyFrom σ oh4 38) fun σ6 => wlet (si σ6 0 10 ((σ6.1 0 10) ||| ((1 : Int32) <<< (x1 &&& 31)))) fun σ7 => some ((1 : Int32), σ7) else none) else (some ((0 : Int32), σ)))
theorem hd_X10_hold : yX10_hold.cls = RX10 ∧ yX10_hold.cls ≠ "java/lang/invoke/MethodHandle" ∧ yX10_hold.cls ≠ "java/lang/invoke/VarHandle" ∧ (parseMethodDescriptor yX10_hold.desc).map (fun d => d.parameters.length) = some 1 := by decide +kernel
set_option maxRecDepth 100000 in
set_option maxHeartbeats 4000000 in
theorem k_X10_hold {l : Launch} {ad : Nat → Nat} {D : va_G} {cy : Nat → ClassId} {z : wStr} (hI : wI WC ad) {σ : St} {x1 : Int32}  {res : Int32 × St} (hf : f_X10_hold σ x1 = some res) : wC WC ad D cy z l yX10_hold (Cond.code yX10_hold cX10_hold 2 (Option.some Jvm.ClassFile.FieldType.boolean) :: aw) (2) (121) [.ref (ad 0), .int x1] σ (wQi WC ad D cy res.1 res.2) := by
  unfold f_X10_hold at hf
  refine wr_start (own := RX10) hI (by decide +kernel) rfl (Nat.le_of_ble_eq_true rfl) rfl ?_
  intro p e s m below meth c ls X hw hr hl
  have hx := X.hx
  have hb := X.hb
  obtain ⟨H, eH⟩ : ∃ H : Heap, H = s.heap := ⟨_, rfl⟩
  obtain ⟨locs, el⟩ : ∃ locs : List Loc, locs = [] := ⟨_, rfl⟩
  rw [← eH, ← el] at hw ⊢
  clear eH el
  replace hl : lv_has ls 2 [(0, .ref (ad 0)), (1, .int x1)] := hl
  refine lv_iload_n hx hb dX10_hold_0 rfl (lv_at hl 1 rfl) ?_
  refine lv_if_lt (tgt := 9) hx hb dX10_hold_1 (by decide) (fun c1 => ?_) (fun c1 => ?_)
  · have hf := (if_pos c1).symm.trans hf
    refine lv_iconst (v := 0) hx hb dX10_hold_9 (by decide) ?_
    have er := Option.some.inj hf
    subst er
    exact wr_iret X hw hr (Or.inr ⟨rfl, (show bz (0 : Int32) = true from rfl)⟩) dX10_hold_10
  · have hf := (if_neg c1).symm.trans hf
    refine lv_iload_n hx hb dX10_hold_4 rfl (lv_at hl 1 rfl) ?_
    refine lv_iconst (v := 3) hx hb dX10_hold_5 (by decide) ?_
    refine lv_icmp_lt (tgt := 11) hx hb dX10_hold_6 (by decide) (fun c2 => ?_) (fun c2 => ?_)
    · have hf := (if_pos c2).symm.trans hf
      refine lv_aload_n hx hb dX10_hold_11 rfl (lv_at hl 0 rfl) ?_
      refine gX10_9 (b := 1) X hw sC0 nC0 rfl fl_X10_80 dX10_hold_12 ?_
      refine lv_iload_n hx hb dX10_hold_15 rfl (lv_at hl 1 rfl) ?_
      obtain ⟨h3, hf⟩ := if_some hf
      refine wr_aald X hw sC1 nC1 h3 dX10_hold_16 ?_
      obtain ⟨oh4, eoh4, hf⟩ := wlet_some hf
      have hoh4 : isSt oh4 := eoh4 ▸ st_slot h3
      refine wr_topr (b' := oh4) eoh4 ?_
      refine lv_aload_n hx hb dX10_hold_17 rfl (lv_at hl 0 rfl) ?_
      refine gX10_7 (b := 38) X hw sC0 nC0 rfl fl_X10_69 dX10_hold_18 ?_
      obtain ⟨σ6, hq5, hf⟩ := bind_some hf
      refine wr_cNv (σ' := σ6) (av := [.ref (ad 38)]) (rest := []) X hw hl.1 (isSt.s0 hoh4) (isSt.n0 hoh4) rfl (k_X6_copyFrom hI hoh4 st_now hq5) rfl mn_X10_286 im_X6_copyFrom se_X6_copyFrom ini_X6 co_X6_copyFrom hd_X6_copyFrom ⟨Nat.le_of_ble_eq_true rfl, Nat.le_of_ble_eq_true rfl⟩ (Nat.le_of_ble_eq_true rfl) dX10_hold_21 rfl (fun H locs hw => ?_)
      refine lv_aload_n hx hb dX10_hold_24 rfl (lv_at hl 0 rfl) ?_
      refine lv_dup hx hb dX10_hold_25 rfl ?_
      refine gX10_10 X hw sC0 nC0 fl_X10_113 dX10_hold_26 ?_
      refine lv_iconst (v := 1) hx hb dX10_hold_29 (by decide) ?_
      refine lv_iload_n hx hb dX10_hold_30 rfl (lv_at hl 1 rfl) ?_
      refine lv_ishl hx hb dX10_hold_31 ?_
      refine lv_ior hx hb dX10_hold_32 ?_
      obtain ⟨σ7, eσ7, hf⟩ := wlet_some hf
      refine pX10_10 X hw sC0 nC0 fl_X10_113 dX10_hold_33 (fun H locs hw => ?_)
      replace hw := hw.to eσ7
      refine lv_iconst (v := 1) hx hb dX10_hold_36 (by decide) ?_
      have er := Option.some.inj hf
      subst er
      exact wr_iret X hw hr (Or.inr ⟨rfl, (show bz (1 : Int32) = true from rfl)⟩) dX10_hold_37
    · have hf := (if_neg c2).symm.trans hf
      refine lv_iconst (v := 0) hx hb dX10_hold_9 (by decide) ?_
      have er := Option.some.inj hf
      subst er
      exact wr_iret X hw hr (Or.inr ⟨rfl, (show bz (0 : Int32) = true from rfl)⟩) dX10_hold_10

def f_X10_lighter (σ : St) (x1 : Int32) : Option (Int32 × St) := if x1 < 0 then (some ((-1 : Int32), σ)) else (if x1 ≤ (1 : Int32) then (Option.bind (f_X3_seekLighter σ 38) fun σ4 => Option.bind (f_X3_answer σ4 x1) fun v6 => some (v6, σ4)) else (some ((-1 : Int32), σ)))
theorem hd_X10_lighter : yX10_lighter.cls = RX10 ∧ yX10_lighter.cls ≠ "java/lang/invoke/MethodHandle" ∧ yX10_lighter.cls ≠ "java/lang/invoke/VarHandle" ∧ (parseMethodDescriptor yX10_lighter.desc).map (fun d => d.parameters.length) = some 1 := by decide +kernel
set_option maxRecDepth 100000 in
set_option maxHeartbeats 4000000 in
theorem k_X10_lighter {l : Launch} {ad : Nat → Nat} {D : va_G} {cy : Nat → ClassId} {z : wStr} (hI : wI WC ad) {σ : St} {x1 : Int32}  {res : Int32 × St} (hf : f_X10_lighter σ x1 = some res) : wC WC ad D cy z l yX10_lighter (Cond.code yX10_lighter cX10_lighter 2 (Option.some Jvm.ClassFile.FieldType.int) :: aw) (8) (267) [.ref (ad 0), .int x1] σ (wQi WC ad D cy res.1 res.2) := by
  unfold f_X10_lighter at hf
  refine wr_start (own := RX10) hI (by decide +kernel) rfl (Nat.le_of_ble_eq_true rfl) rfl ?_
  intro p e s m below meth c ls X hw hr hl
  have hx := X.hx
  have hb := X.hb
  obtain ⟨H, eH⟩ : ∃ H : Heap, H = s.heap := ⟨_, rfl⟩
  obtain ⟨locs, el⟩ : ∃ locs : List Loc, locs = [] := ⟨_, rfl⟩
  rw [← eH, ← el] at hw ⊢
  clear eH el
  replace hl : lv_has ls 2 [(0, .ref (ad 0)), (1, .int x1)] := hl
  refine lv_iload_n hx hb dX10_lighter_0 rfl (lv_at hl 1 rfl) ?_
  refine lv_if_lt (tgt := 9) hx hb dX10_lighter_1 (by decide) (fun c1 => ?_) (fun c1 => ?_)
  · have hf := (if_pos c1).symm.trans hf
    refine lv_iconst (v := -1) hx hb dX10_lighter_9 (by decide) ?_
    have er := Option.some.inj hf
    subst er
    exact wr_iret X hw hr (Or.inl rfl) dX10_lighter_10
  · have hf := (if_neg c1).symm.trans hf
    refine lv_iload_n hx hb dX10_lighter_4 rfl (lv_at hl 1 rfl) ?_
    refine lv_iconst (v := 1) hx hb dX10_lighter_5 (by decide) ?_
    refine lv_icmp_le (tgt := 11) hx hb dX10_lighter_6 (by decide) (fun c2 => ?_) (fun c2 => ?_)
    · have hf := (if_pos c2).symm.trans hf
      refine lv_aload_n hx hb dX10_lighter_11 rfl (lv_at hl 0 rfl) ?_
      refine gX10_5 (b := 30) X hw sC0 nC0 rfl fl_X10_55 dX10_lighter_12 ?_
      refine lv_aload_n hx hb dX10_lighter_15 rfl (lv_at hl 0 rfl) ?_
      refine gX10_7 (b := 38) X hw sC0 nC0 rfl fl_X10_69 dX10_lighter_16 ?_
      obtain ⟨σ4, hq3, hf⟩ := bind_some hf
      refine wr_cNv (σ' := σ4) (av := [.ref (ad 38)]) (rest := []) X hw hl.1 sC30 nC30 rfl (k_X3_seekLighter hI st_now hq3) rfl mn_X10_253 im_X3_seekLighter se_X3_seekLighter ini_X3 co_X3_seekLighter hd_X3_seekLighter ⟨Nat.le_of_ble_eq_true rfl, Nat.le_of_ble_eq_true rfl⟩ (Nat.le_of_ble_eq_true rfl) dX10_lighter_19 rfl (fun H locs hw => ?_)
      refine lv_aload_n hx hb dX10_lighter_22 rfl (lv_at hl 0 rfl) ?_
      refine gX10_5 (b := 30) X hw sC0 nC0 rfl fl_X10_55 dX10_lighter_23 ?_
      refine lv_iload_n hx hb dX10_lighter_26 rfl (lv_at hl 1 rfl) ?_
      obtain ⟨v6, hq5, hf⟩ := bind_some hf
      refine wr_cNi (r := v6) (σ' := σ4) (av := [.int x1]) (rest := []) X hw hl.1 sC30 nC30 rfl (k_X3_answer hI hq5) rfl mn_X10_246 im_X3_answer se_X3_answer ini_X3 co_X3_answer hd_X3_answer ⟨Nat.le_of_ble_eq_true rfl, Nat.le_of_ble_eq_true rfl⟩ (Nat.le_of_ble_eq_true rfl) dX10_lighter_27 rfl (fun H locs hw => ?_)
      have er := Option.some.inj hf
      subst er
      exact wr_iret X hw hr (Or.inl rfl) dX10_lighter_30
    · have hf := (if_neg c2).symm.trans hf
      refine lv_iconst (v := -1) hx hb dX10_lighter_9 (by decide) ?_
      have er := Option.some.inj hf
      subst er
      exact wr_iret X hw hr (Or.inl rfl) dX10_lighter_10

def f_X10_listIn (σ : St) (x1 : Int32) (x2 : Int32) : Option (Int32 × St) := if x1 < 0 then (some ((-1 : Int32), σ)) else (if (40 : Int32) < x1 then (some ((-1 : Int32), σ)) else (if x2 < 0 then (some ((-1 : Int32), σ)) else (if x2 ≤ (1 : Int32) then (Option.bind (f_X3_inSessions σ 38 x1) fun σ6 => if x2 = 0 then (some ((σ6.1 42 3), σ6)) else (some ((σ6.1 42 5), σ6))) else (some ((-1 : Int32), σ)))))
theorem hd_X10_listIn : yX10_listIn.cls = RX10 ∧ yX10_listIn.cls ≠ "java/lang/invoke/MethodHandle" ∧ yX10_listIn.cls ≠ "java/lang/invoke/VarHandle" ∧ (parseMethodDescriptor yX10_listIn.desc).map (fun d => d.parameters.length) = some 2 := by decide +kernel
set_option maxRecDepth 100000 in
set_option maxHeartbeats 4000000 in
theorem k_X10_listIn {l : Launch} {ad : Nat → Nat} {D : va_G} {cy : Nat → ClassId} {z : wStr} (hI : wI WC ad) {σ : St} {x1 : Int32} {x2 : Int32}  {res : Int32 × St} (hf : f_X10_listIn σ x1 x2 = some res) : wC WC ad D cy z l yX10_listIn (Cond.code yX10_listIn cX10_listIn 4 (Option.some Jvm.ClassFile.FieldType.int) :: aw) (8) (271) [.ref (ad 0), .int x1, .int x2] σ (wQi WC ad D cy res.1 res.2) := by
  unfold f_X10_listIn at hf
  refine wr_start (own := RX10) hI (by decide +kernel) rfl (Nat.le_of_ble_eq_true rfl) rfl ?_
  intro p e s m below meth c ls X hw hr hl
  have hx := X.hx
  have hb := X.hb
  obtain ⟨H, eH⟩ : ∃ H : Heap, H = s.heap := ⟨_, rfl⟩
  obtain ⟨locs, el⟩ : ∃ locs : List Loc, locs = [] := ⟨_, rfl⟩
  rw [← eH, ← el] at hw ⊢
  clear eH el
  replace hl : lv_has ls 4 [(0, .ref (ad 0)), (1, .int x1), (2, .int x2)] := hl
  refine lv_iload_n hx hb dX10_listIn_0 rfl (lv_at hl 1 rfl) ?_
  refine lv_if_lt (tgt := 19) hx hb dX10_listIn_1 (by decide) (fun c1 => ?_) (fun c1 => ?_)
  · have hf := (if_pos c1).symm.trans hf
    refine lv_iconst (v := -1) hx hb dX10_listIn_19 (by decide) ?_
    have er := Option.some.inj hf
    subst er
    exact wr_iret X hw hr (Or.inl rfl) dX10_listIn_20
  · have hf := (if_neg c1).symm.trans hf
    refine lv_iload_n hx hb dX10_listIn_4 rfl (lv_at hl 1 rfl) ?_
    refine lv_bipush (v := 40) hx hb dX10_listIn_5 (by decide) ?_
    refine lv_icmp_gt (tgt := 19) hx hb dX10_listIn_7 (by decide) (fun c2 => ?_) (fun c2 => ?_)
    · have hf := (if_pos c2).symm.trans hf
      refine lv_iconst (v := -1) hx hb dX10_listIn_19 (by decide) ?_
      have er := Option.some.inj hf
      subst er
      exact wr_iret X hw hr (Or.inl rfl) dX10_listIn_20
    · have hf := (if_neg c2).symm.trans hf
      refine lv_iload_n hx hb dX10_listIn_10 rfl (lv_at hl 2 rfl) ?_
      refine lv_if_lt (tgt := 19) hx hb dX10_listIn_11 (by decide) (fun c3 => ?_) (fun c3 => ?_)
      · have hf := (if_pos c3).symm.trans hf
        refine lv_iconst (v := -1) hx hb dX10_listIn_19 (by decide) ?_
        have er := Option.some.inj hf
        subst er
        exact wr_iret X hw hr (Or.inl rfl) dX10_listIn_20
      · have hf := (if_neg c3).symm.trans hf
        refine lv_iload_n hx hb dX10_listIn_14 rfl (lv_at hl 2 rfl) ?_
        refine lv_iconst (v := 1) hx hb dX10_listIn_15 (by decide) ?_
        refine lv_icmp_le (tgt := 21) hx hb dX10_listIn_16 (by decide) (fun c4 => ?_) (fun c4 => ?_)
        · have hf := (if_pos c4).symm.trans hf
          refine lv_aload_n hx hb dX10_listIn_21 rfl (lv_at hl 0 rfl) ?_
          refine gX10_5 (b := 30) X hw sC0 nC0 rfl fl_X10_55 dX10_listIn_22 ?_
          refine lv_aload_n hx hb dX10_listIn_25 rfl (lv_at hl 0 rfl) ?_
          refine gX10_7 (b := 38) X hw sC0 nC0 rfl fl_X10_69 dX10_listIn_26 ?_
          refine lv_iload_n hx hb dX10_listIn_29 rfl (lv_at hl 1 rfl) ?_
          obtain ⟨σ6, hq5, hf⟩ := bind_some hf
          refine wr_cNr (σ' := σ6) (r := 42) (av := [.ref (ad 38), .int x1]) (rest := []) X hw hl.1 sC30 nC30 rfl (k_X3_inSessions hI st_now hq5) rfl mn_X10_259 im_X3_inSessions se_X3_inSessions ini_X3 co_X3_inSessions hd_X3_inSessions ⟨Nat.le_of_ble_eq_true rfl, Nat.le_of_ble_eq_true rfl⟩ (Nat.le_of_ble_eq_true rfl) dX10_listIn_30 rfl (fun H locs hw => ?_)
          refine lv_astore_n (lv' := [(3, .ref (ad 42)), (0, .ref (ad 0)), (1, .int x1), (2, .int x2)]) hx hb dX10_listIn_33 rfl hl (by decide) rfl (fun ls hl => ?_)
          refine lv_iload_n hx hb dX10_listIn_34 rfl (lv_at hl 3 rfl) ?_
          refine lv_if_ne (tgt := 45) hx hb dX10_listIn_35 (by decide) (fun c7 => ?_) (fun c7 => ?_)
          · have hf := (if_neg c7).symm.trans hf
            refine lv_aload_n hx hb dX10_listIn_45 rfl (lv_at hl 0 rfl) ?_
            refine gnX6_5 X hw (isSt.s0 st_trial) (isSt.n0 st_trial) fn_X10_263 dX10_listIn_46 ?_
            have er := Option.some.inj hf
            subst er
            exact wr_iret X hw hr (Or.inl rfl) dX10_listIn_49
          · have hf := (if_pos c7).symm.trans hf
            refine lv_aload_n hx hb dX10_listIn_38 rfl (lv_at hl 0 rfl) ?_
            refine gnX6_3 X hw (isSt.s0 st_trial) (isSt.n0 st_trial) fn_X10_208 dX10_listIn_39 ?_
            refine lv_goto (tgt := 49) hx hb dX10_listIn_42 (by decide) ?_
            have er := Option.some.inj hf
            subst er
            exact wr_iret X hw hr (Or.inl rfl) dX10_listIn_49
        · have hf := (if_neg c4).symm.trans hf
          refine lv_iconst (v := -1) hx hb dX10_listIn_19 (by decide) ?_
          have er := Option.some.inj hf
          subst er
          exact wr_iret X hw hr (Or.inl rfl) dX10_listIn_20

def f_X10_off (σ : St) (x1 : Int32) : Option (Int32 × St) := Option.bind (f_X6_isListed σ 38 x1) fun v2 => if v2 = 0 then (some ((0 : Int32), σ)) else (Option.bind (f_X0_remember σ 38) fun σ5 => Option.bind (f_X6_strike σ5 38 x1) fun σ7 => some ((1 : Int32), σ7))
theorem hd_X10_off : yX10_off.cls = RX10 ∧ yX10_off.cls ≠ "java/lang/invoke/MethodHandle" ∧ yX10_off.cls ≠ "java/lang/invoke/VarHandle" ∧ (parseMethodDescriptor yX10_off.desc).map (fun d => d.parameters.length) = some 1 := by decide +kernel
set_option maxRecDepth 100000 in
set_option maxHeartbeats 4000000 in
theorem k_X10_off {l : Launch} {ad : Nat → Nat} {D : va_G} {cy : Nat → ClassId} {z : wStr} (hI : wI WC ad) {σ : St} {x1 : Int32}  {res : Int32 × St} (hf : f_X10_off σ x1 = some res) : wC WC ad D cy z l yX10_off (Cond.code yX10_off cX10_off 2 (Option.some Jvm.ClassFile.FieldType.boolean) :: aw) (4) (168) [.ref (ad 0), .int x1] σ (wQi WC ad D cy res.1 res.2) := by
  unfold f_X10_off at hf
  refine wr_start (own := RX10) hI (by decide +kernel) rfl (Nat.le_of_ble_eq_true rfl) rfl ?_
  intro p e s m below meth c ls X hw hr hl
  have hx := X.hx
  have hb := X.hb
  obtain ⟨H, eH⟩ : ∃ H : Heap, H = s.heap := ⟨_, rfl⟩
  obtain ⟨locs, el⟩ : ∃ locs : List Loc, locs = [] := ⟨_, rfl⟩
  rw [← eH, ← el] at hw ⊢
  clear eH el
  replace hl : lv_has ls 2 [(0, .ref (ad 0)), (1, .int x1)] := hl
  refine lv_aload_n hx hb dX10_off_0 rfl (lv_at hl 0 rfl) ?_
  refine gX10_7 (b := 38) X hw sC0 nC0 rfl fl_X10_69 dX10_off_1 ?_
  refine lv_iload_n hx hb dX10_off_4 rfl (lv_at hl 1 rfl) ?_
  obtain ⟨v2, hq1, hf⟩ := bind_some hf
  refine wr_cNi (r := v2) (σ' := σ) (av := [.int x1]) (rest := []) X hw hl.1 (isSt.s0 st_now) (isSt.n0 st_now) rfl (k_X6_isListed hI st_now hq1) rfl mn_X10_127 im_X6_isListed se_X6_isListed ini_X6 co_X6_isListed hd_X6_isListed ⟨Nat.le_of_ble_eq_true rfl, Nat.le_of_ble_eq_true rfl⟩ (Nat.le_of_ble_eq_true rfl) dX10_off_5 rfl (fun H locs hw => ?_)
  refine lv_if_ne (tgt := 13) hx hb dX10_off_8 (by decide) (fun c3 => ?_) (fun c3 => ?_)
  · have hf := (if_neg c3).symm.trans hf
    refine lv_aload_n hx hb dX10_off_13 rfl (lv_at hl 0 rfl) ?_
    refine gX10_8 (b := 36) X hw sC0 nC0 rfl fl_X10_76 dX10_off_14 ?_
    refine lv_aload_n hx hb dX10_off_17 rfl (lv_at hl 0 rfl) ?_
    refine gX10_7 (b := 38) X hw sC0 nC0 rfl fl_X10_69 dX10_off_18 ?_
    obtain ⟨σ5, hq4, hf⟩ := bind_some hf
    refine wr_cNv (σ' := σ5) (av := [.ref (ad 38)]) (rest := []) X hw hl.1 sC36 nC36 rfl (k_X0_remember hI st_now hq4) rfl mn_X10_168 im_X0_remember se_X0_remember ini_X0 co_X0_remember hd_X0_remember ⟨Nat.le_of_ble_eq_true rfl, Nat.le_of_ble_eq_true rfl⟩ (Nat.le_of_ble_eq_true rfl) dX10_off_21 rfl (fun H locs hw => ?_)
    refine lv_aload_n hx hb dX10_off_24 rfl (lv_at hl 0 rfl) ?_
    refine gX10_7 (b := 38) X hw sC0 nC0 rfl fl_X10_69 dX10_off_25 ?_
    refine lv_iload_n hx hb dX10_off_28 rfl (lv_at hl 1 rfl) ?_
    obtain ⟨σ7, hq6, hf⟩ := bind_some hf
    refine wr_cNv (σ' := σ7) (av := [.int x1]) (rest := []) X hw hl.1 (isSt.s0 st_now) (isSt.n0 st_now) rfl (k_X6_strike hI st_now hq6) rfl mn_X10_179 im_X6_strike se_X6_strike ini_X6 co_X6_strike hd_X6_strike ⟨Nat.le_of_ble_eq_true rfl, Nat.le_of_ble_eq_true rfl⟩ (Nat.le_of_ble_eq_true rfl) dX10_off_29 rfl (fun H locs hw => ?_)
    refine lv_iconst (v := 1) hx hb dX10_off_32 (by decide) ?_
    have er := Option.some.inj hf
    subst er
    exact wr_iret X hw hr (Or.inr ⟨rfl, (show bz (1 : Int32) = true from rfl)⟩) dX10_off_33
  · have hf := (if_pos c3).symm.trans hf
    refine lv_iconst (v := 0) hx hb dX10_off_11 (by decide) ?_
    have er := Option.some.inj hf
    subst er
    exact wr_iret X hw hr (Or.inr ⟨rfl, (show bz (0 : Int32) = true from rfl)⟩) dX10_off_12

def f_X10_on (σ : St) (x1 : Int32) : Option (Int32 × St) := Option.bind (f_X8_has σ 4 x1) fun v2 => if v2 = 0 then (some ((0 : Int32), σ)) else (Option.bind (f_X6_isListed σ 38 x1) fun v5 => if v5 = 0 then (Option.bind (f_X0_remember σ 38) fun σ8 => Option.bind (f_X6_append σ8 38 x1) fun σ10 => some ((1 : Int32), σ10)) else (some ((0 : Int32), σ)))
theorem hd_X10_on : yX10_on.cls = RX10 ∧ yX10_on.cls ≠ "java/lang/invoke/MethodHandle" ∧ yX10_on.cls ≠ "java/lang/invoke/VarHandle" ∧ (parseMethodDescriptor yX10_on.desc).map (fun d => d.parameters.length) = some 1 := by decide +kernel
set_option maxRecDepth 100000 in
set_option maxHeartbeats 4000000 in
theorem k_X10_on {l : Launch} {ad : Nat → Nat} {D : va_G} {cy : Nat → ClassId} {z : wStr} (hI : wI WC ad) {σ : St} {x1 : Int32}  {res : Int32 × St} (hf : f_X10_on σ x1 = some res) : wC WC ad D cy z l yX10_on (Cond.code yX10_on cX10_on 2 (Option.some Jvm.ClassFile.FieldType.boolean) :: aw) (3) (143) [.ref (ad 0), .int x1] σ (wQi WC ad D cy res.1 res.2) := by
  unfold f_X10_on at hf
  refine wr_start (own := RX10) hI (by decide +kernel) rfl (Nat.le_of_ble_eq_true rfl) rfl ?_
  intro p e s m below meth c ls X hw hr hl
  have hx := X.hx
  have hb := X.hb
  obtain ⟨H, eH⟩ : ∃ H : Heap, H = s.heap := ⟨_, rfl⟩
  obtain ⟨locs, el⟩ : ∃ locs : List Loc, locs = [] := ⟨_, rfl⟩
  rw [← eH, ← el] at hw ⊢
  clear eH el
  replace hl : lv_has ls 2 [(0, .ref (ad 0)), (1, .int x1)] := hl
  refine lv_aload_n hx hb dX10_on_0 rfl (lv_at hl 0 rfl) ?_
  refine gX10_1 (b := 4) X hw sC0 nC0 rfl fl_X10_19 dX10_on_1 ?_
  refine lv_iload_n hx hb dX10_on_4 rfl (lv_at hl 1 rfl) ?_
  obtain ⟨v2, hq1, hf⟩ := bind_some hf
  refine wr_cNi (r := v2) (σ' := σ) (av := [.int x1]) (rest := []) X hw hl.1 sC4 nC4 rfl (k_X8_has hI tx_1 hq1) rfl mn_X10_116 im_X8_has se_X8_has ini_X8 co_X8_has hd_X8_has ⟨Nat.le_of_ble_eq_true rfl, Nat.le_of_ble_eq_true rfl⟩ (Nat.le_of_ble_eq_true rfl) dX10_on_5 rfl (fun H locs hw => ?_)
  refine lv_if_eq (tgt := 22) hx hb dX10_on_8 (by decide) (fun c3 => ?_) (fun c3 => ?_)
  · have hf := (if_pos c3).symm.trans hf
    refine lv_iconst (v := 0) hx hb dX10_on_22 (by decide) ?_
    have er := Option.some.inj hf
    subst er
    exact wr_iret X hw hr (Or.inr ⟨rfl, (show bz (0 : Int32) = true from rfl)⟩) dX10_on_23
  · have hf := (if_neg c3).symm.trans hf
    refine lv_aload_n hx hb dX10_on_11 rfl (lv_at hl 0 rfl) ?_
    refine gX10_7 (b := 38) X hw sC0 nC0 rfl fl_X10_69 dX10_on_12 ?_
    refine lv_iload_n hx hb dX10_on_15 rfl (lv_at hl 1 rfl) ?_
    obtain ⟨v5, hq4, hf⟩ := bind_some hf
    refine wr_cNi (r := v5) (σ' := σ) (av := [.int x1]) (rest := []) X hw hl.1 (isSt.s0 st_now) (isSt.n0 st_now) rfl (k_X6_isListed hI st_now hq4) rfl mn_X10_127 im_X6_isListed se_X6_isListed ini_X6 co_X6_isListed hd_X6_isListed ⟨Nat.le_of_ble_eq_true rfl, Nat.le_of_ble_eq_true rfl⟩ (Nat.le_of_ble_eq_true rfl) dX10_on_16 rfl (fun H locs hw => ?_)
    refine lv_if_eq (tgt := 24) hx hb dX10_on_19 (by decide) (fun c6 => ?_) (fun c6 => ?_)
    · have hf := (if_pos c6).symm.trans hf
      refine lv_aload_n hx hb dX10_on_24 rfl (lv_at hl 0 rfl) ?_
      refine gX10_8 (b := 36) X hw sC0 nC0 rfl fl_X10_76 dX10_on_25 ?_
      refine lv_aload_n hx hb dX10_on_28 rfl (lv_at hl 0 rfl) ?_
      refine gX10_7 (b := 38) X hw sC0 nC0 rfl fl_X10_69 dX10_on_29 ?_
      obtain ⟨σ8, hq7, hf⟩ := bind_some hf
      refine wr_cNv (σ' := σ8) (av := [.ref (ad 38)]) (rest := []) X hw hl.1 sC36 nC36 rfl (k_X0_remember hI st_now hq7) rfl mn_X10_168 im_X0_remember se_X0_remember ini_X0 co_X0_remember hd_X0_remember ⟨Nat.le_of_ble_eq_true rfl, Nat.le_of_ble_eq_true rfl⟩ (Nat.le_of_ble_eq_true rfl) dX10_on_32 rfl (fun H locs hw => ?_)
      refine lv_aload_n hx hb dX10_on_35 rfl (lv_at hl 0 rfl) ?_
      refine gX10_7 (b := 38) X hw sC0 nC0 rfl fl_X10_69 dX10_on_36 ?_
      refine lv_iload_n hx hb dX10_on_39 rfl (lv_at hl 1 rfl) ?_
      obtain ⟨σ10, hq9, hf⟩ := bind_some hf
      refine wr_cNv (σ' := σ10) (av := [.int x1]) (rest := []) X hw hl.1 (isSt.s0 st_now) (isSt.n0 st_now) rfl (k_X6_append hI st_now hq9) rfl mn_X10_182 im_X6_append se_X6_append ini_X6 co_X6_append hd_X6_append ⟨Nat.le_of_ble_eq_true rfl, Nat.le_of_ble_eq_true rfl⟩ (Nat.le_of_ble_eq_true rfl) dX10_on_40 rfl (fun H locs hw => ?_)
      refine lv_iconst (v := 1) hx hb dX10_on_43 (by decide) ?_
      have er := Option.some.inj hf
      subst er
      exact wr_iret X hw hr (Or.inr ⟨rfl, (show bz (1 : Int32) = true from rfl)⟩) dX10_on_44
    · have hf := (if_neg c6).symm.trans hf
      refine lv_iconst (v := 0) hx hb dX10_on_22 (by decide) ?_
      have er := Option.some.inj hf
      subst er
      exact wr_iret X hw hr (Or.inr ⟨rfl, (show bz (0 : Int32) = true from rfl)⟩) dX10_on_23

def f_X10_place (σ : St)  : Option (Int32) := some (σ.1 0 11)
theorem hd_X10_place : yX10_place.cls = RX10 ∧ yX10_place.cls ≠ "java/lang/invoke/MethodHandle" ∧ yX10_place.cls ≠ "java/lang/invoke/VarHandle" ∧ (parseMethodDescriptor yX10_place.desc).map (fun d => d.parameters.length) = some 0 := by decide +kernel
set_option maxRecDepth 100000 in
set_option maxHeartbeats 4000000 in
theorem k_X10_place {l : Launch} {ad : Nat → Nat} {D : va_G} {cy : Nat → ClassId} {z : wStr} (hI : wI WC ad) {σ : St}   {res : Int32} (hf : f_X10_place σ  = some res) : wC WC ad D cy z l yX10_place (Cond.code yX10_place cX10_place 1 (Option.some Jvm.ClassFile.FieldType.int) :: aw) (1) (100) [.ref (ad 0)] σ (wQi WC ad D cy res σ) := by
  unfold f_X10_place at hf
  refine wr_start (own := RX10) hI (by decide +kernel) rfl (Nat.le_of_ble_eq_true rfl) rfl ?_
  intro p e s m below meth c ls X hw hr hl
  have hx := X.hx
  have hb := X.hb
  obtain ⟨H, eH⟩ : ∃ H : Heap, H = s.heap := ⟨_, rfl⟩
  obtain ⟨locs, el⟩ : ∃ locs : List Loc, locs = [] := ⟨_, rfl⟩
  rw [← eH, ← el] at hw ⊢
  clear eH el
  replace hl : lv_has ls 1 [(0, .ref (ad 0))] := hl
  refine lv_aload_n hx hb dX10_place_0 rfl (lv_at hl 0 rfl) ?_
  refine gX10_11 X hw sC0 nC0 fl_X10_84 dX10_place_1 ?_
  have er := Option.some.inj hf
  subst er
  exact wr_iret X hw hr (Or.inl rfl) dX10_place_4

def f_X10_plead (σ : St) (x1 : Int32) : Option (Int32 × St) := Option.bind (f_X6_behindOf σ 38 x1) fun v2 => Option.bind (f_X8_has σ 4 v2) fun v4 => if v4 = 0 then (some ((-1 : Int32), σ)) else (Option.bind (f_X6_isPleading σ 38 x1) fun v7 => if v7 = 0 then (Option.bind (f_X1_seatAsListed σ 38 v2) fun σ10 => Option.bind (f_X8_deedOf σ10 4 x1) fun v12 => bnd2 (f_X1_sentence σ10 (2 : Int32) v12) fun v14 σ15 => if ib v2 7 = true then if v14 ≤ (σ15.1 40 (Int32.toNatClampNeg v2)) then (Option.bind (f_X0_remember σ15 38) fun σ19 => if ib v2 7 = true then if ib v2 7 = true then wlet (si σ19 40 (Int32.toNatClampNeg v2) ((σ19.1 40 (Int32.toNatClampNeg v2)) - v14)) fun σ22 => Option.bind (f_X6_letPlead σ22 38 x1) fun σ24 => some (v14, σ24) else none else none) else (some ((-1 : Int32), σ15)) else none) else (some ((-1 : Int32), σ)))
theorem hd_X10_plead : yX10_plead.cls = RX10 ∧ yX10_plead.cls ≠ "java/lang/invoke/MethodHandle" ∧ yX10_plead.cls ≠ "java/lang/invoke/VarHandle" ∧ (parseMethodDescriptor yX10_plead.desc).map (fun d => d.parameters.length) = some 1 := by decide +kernel
set_option maxRecDepth 100000 in
set_option maxHeartbeats 4000000 in
theorem k_X10_plead {l : Launch} {ad : Nat → Nat} {D : va_G} {cy : Nat → ClassId} {z : wStr} (hI : wI WC ad) {σ : St} {x1 : Int32}  {res : Int32 × St} (hf : f_X10_plead σ x1 = some res) : wC WC ad D cy z l yX10_plead (Cond.code yX10_plead cX10_plead 4 (Option.some Jvm.ClassFile.FieldType.int) :: aw) (4) (173) [.ref (ad 0), .int x1] σ (wQi WC ad D cy res.1 res.2) := by
  unfold f_X10_plead at hf
  refine wr_start (own := RX10) hI (by decide +kernel) rfl (Nat.le_of_ble_eq_true rfl) rfl ?_
  intro p e s m below meth c ls X hw hr hl
  have hx := X.hx
  have hb := X.hb
  obtain ⟨H, eH⟩ : ∃ H : Heap, H = s.heap := ⟨_, rfl⟩
  obtain ⟨locs, el⟩ : ∃ locs : List Loc, locs = [] := ⟨_, rfl⟩
  rw [← eH, ← el] at hw ⊢
  clear eH el
  replace hl : lv_has ls 4 [(0, .ref (ad 0)), (1, .int x1)] := hl
  refine lv_aload_n hx hb dX10_plead_0 rfl (lv_at hl 0 rfl) ?_
  refine gX10_7 (b := 38) X hw sC0 nC0 rfl fl_X10_69 dX10_plead_1 ?_
  refine lv_iload_n hx hb dX10_plead_4 rfl (lv_at hl 1 rfl) ?_
  obtain ⟨v2, hq1, hf⟩ := bind_some hf
  refine wr_cNi (r := v2) (σ' := σ) (av := [.int x1]) (rest := []) X hw hl.1 (isSt.s0 st_now) (isSt.n0 st_now) rfl (k_X6_behindOf hI st_now hq1) rfl mn_X10_185 im_X6_behindOf se_X6_behindOf ini_X6 co_X6_behindOf hd_X6_behindOf ⟨Nat.le_of_ble_eq_true rfl, Nat.le_of_ble_eq_true rfl⟩ (Nat.le_of_ble_eq_true rfl) dX10_plead_5 rfl (fun H locs hw => ?_)
  refine lv_istore_n (lv' := [(2, .int v2), (0, .ref (ad 0)), (1, .int x1)]) hx hb dX10_plead_8 rfl hl (by decide) rfl (fun ls hl => ?_)
  refine lv_aload_n hx hb dX10_plead_9 rfl (lv_at hl 1 rfl) ?_
  refine gX10_1 (b := 4) X hw sC0 nC0 rfl fl_X10_19 dX10_plead_10 ?_
  refine lv_iload_n hx hb dX10_plead_13 rfl (lv_at hl 0 rfl) ?_
  obtain ⟨v4, hq3, hf⟩ := bind_some hf
  refine wr_cNi (r := v4) (σ' := σ) (av := [.int v2]) (rest := []) X hw hl.1 sC4 nC4 rfl (k_X8_has hI tx_1 hq3) rfl mn_X10_116 im_X8_has se_X8_has ini_X8 co_X8_has hd_X8_has ⟨Nat.le_of_ble_eq_true rfl, Nat.le_of_ble_eq_true rfl⟩ (Nat.le_of_ble_eq_true rfl) dX10_plead_14 rfl (fun H locs hw => ?_)
  refine lv_if_eq (tgt := 31) hx hb dX10_plead_17 (by decide) (fun c5 => ?_) (fun c5 => ?_)
  · have hf := (if_pos c5).symm.trans hf
    refine lv_iconst (v := -1) hx hb dX10_plead_31 (by decide) ?_
    have er := Option.some.inj hf
    subst er
    exact wr_iret X hw hr (Or.inl rfl) dX10_plead_32
  · have hf := (if_neg c5).symm.trans hf
    refine lv_aload_n hx hb dX10_plead_20 rfl (lv_at hl 1 rfl) ?_
    refine gX10_7 (b := 38) X hw sC0 nC0 rfl fl_X10_69 dX10_plead_21 ?_
    refine lv_iload_n hx hb dX10_plead_24 rfl (lv_at hl 2 rfl) ?_
    obtain ⟨v7, hq6, hf⟩ := bind_some hf
    refine wr_cNi (r := v7) (σ' := σ) (av := [.int x1]) (rest := []) X hw hl.1 (isSt.s0 st_now) (isSt.n0 st_now) rfl (k_X6_isPleading hI st_now hq6) rfl mn_X10_137 im_X6_isPleading se_X6_isPleading ini_X6 co_X6_isPleading hd_X6_isPleading ⟨Nat.le_of_ble_eq_true rfl, Nat.le_of_ble_eq_true rfl⟩ (Nat.le_of_ble_eq_true rfl) dX10_plead_25 rfl (fun H locs hw => ?_)
    refine lv_if_eq (tgt := 33) hx hb dX10_plead_28 (by decide) (fun c8 => ?_) (fun c8 => ?_)
    · have hf := (if_pos c8).symm.trans hf
      refine lv_aload_n hx hb dX10_plead_33 rfl (lv_at hl 1 rfl) ?_
      refine gX10_3 (b := 21) X hw sC0 nC0 rfl fl_X10_37 dX10_plead_34 ?_
      refine lv_aload_n hx hb dX10_plead_37 rfl (lv_at hl 1 rfl) ?_
      refine gX10_7 (b := 38) X hw sC0 nC0 rfl fl_X10_69 dX10_plead_38 ?_
      refine lv_iload_n hx hb dX10_plead_41 rfl (lv_at hl 0 rfl) ?_
      obtain ⟨σ10, hq9, hf⟩ := bind_some hf
      refine wr_cNv (σ' := σ10) (av := [.ref (ad 38), .int v2]) (rest := []) X hw hl.1 sC21 nC21 rfl (k_X1_seatAsListed hI st_now hq9) rfl mn_X10_157 im_X1_seatAsListed se_X1_seatAsListed ini_X1 co_X1_seatAsListed hd_X1_seatAsListed ⟨Nat.le_of_ble_eq_true rfl, Nat.le_of_ble_eq_true rfl⟩ (Nat.le_of_ble_eq_true rfl) dX10_plead_42 rfl (fun H locs hw => ?_)
      refine lv_aload_n hx hb dX10_plead_45 rfl (lv_at hl 1 rfl) ?_
      refine gX10_3 (b := 21) X hw sC0 nC0 rfl fl_X10_37 dX10_plead_46 ?_
      refine lv_iconst (v := 2) hx hb dX10_plead_49 (by decide) ?_
      refine lv_aload_n hx hb dX10_plead_50 rfl (lv_at hl 1 rfl) ?_
      refine gX10_1 (b := 4) X hw sC0 nC0 rfl fl_X10_19 dX10_plead_51 ?_
      refine lv_iload_n hx hb dX10_plead_54 rfl (lv_at hl 2 rfl) ?_
      obtain ⟨v12, hq11, hf⟩ := bind_some hf
      refine wr_cNi (r := v12) (σ' := σ10) (av := [.int x1]) (rest := [.int (2 : Int32), .ref (ad 21)]) X hw hl.1 sC4 nC4 rfl (k_X8_deedOf hI tx_1 hq11) rfl mn_X10_188 im_X8_deedOf se_X8_deedOf ini_X8 co_X8_deedOf hd_X8_deedOf ⟨Nat.le_of_ble_eq_true rfl, Nat.le_of_ble_eq_true rfl⟩ (Nat.le_of_ble_eq_true rfl) dX10_plead_55 rfl (fun H locs hw => ?_)
      obtain ⟨v14, σ15, hq13, hf⟩ := bnd2_some hf
      refine wr_cNi (r := v14) (σ' := σ15) (av := [.int (2 : Int32), .int v12]) (rest := []) X hw hl.1 sC21 nC21 rfl (k_X1_sentence hI hq13) rfl mn_X10_161 im_X1_sentence se_X1_sentence ini_X1 co_X1_sentence hd_X1_sentence ⟨Nat.le_of_ble_eq_true rfl, Nat.le_of_ble_eq_true rfl⟩ (Nat.le_of_ble_eq_true rfl) dX10_plead_58 rfl (fun H locs hw => ?_)
      refine lv_istore_n (lv' := [(3, .int v14), (2, .int v2), (0, .ref (ad 0)), (1, .int x1)]) hx hb dX10_plead_61 rfl hl (by decide) rfl (fun ls hl => ?_)
      refine lv_aload_n hx hb dX10_plead_62 rfl (lv_at hl 2 rfl) ?_
      refine gX10_7 (b := 38) X hw sC0 nC0 rfl fl_X10_69 dX10_plead_63 ?_
      refine gnX6_1 (b := 40) X hw (isSt.s0 st_now) (isSt.n0 st_now) rfl fn_X10_124 dX10_plead_66 ?_
      refine lv_iload_n hx hb dX10_plead_69 rfl (lv_at hl 1 rfl) ?_
      obtain ⟨h16, hf⟩ := if_some hf
      refine wr_iald X hw (isSt.s2 st_now) (isSt.n2 st_now) h16 dX10_plead_70 ?_
      refine lv_iload_n hx hb dX10_plead_71 rfl (lv_at hl 0 rfl) ?_
      refine lv_icmp_ge (tgt := 77) hx hb dX10_plead_72 (by decide) (fun c17 => ?_) (fun c17 => ?_)
      · have hf := (if_pos c17).symm.trans hf
        refine lv_aload_n hx hb dX10_plead_77 rfl (lv_at hl 2 rfl) ?_
        refine gX10_8 (b := 36) X hw sC0 nC0 rfl fl_X10_76 dX10_plead_78 ?_
        refine lv_aload_n hx hb dX10_plead_81 rfl (lv_at hl 2 rfl) ?_
        refine gX10_7 (b := 38) X hw sC0 nC0 rfl fl_X10_69 dX10_plead_82 ?_
        obtain ⟨σ19, hq18, hf⟩ := bind_some hf
        refine wr_cNv (σ' := σ19) (av := [.ref (ad 38)]) (rest := []) X hw hl.1 sC36 nC36 rfl (k_X0_remember hI st_now hq18) rfl mn_X10_168 im_X0_remember se_X0_remember ini_X0 co_X0_remember hd_X0_remember ⟨Nat.le_of_ble_eq_true rfl, Nat.le_of_ble_eq_true rfl⟩ (Nat.le_of_ble_eq_true rfl) dX10_plead_85 rfl (fun H locs hw => ?_)
        refine lv_aload_n hx hb dX10_plead_88 rfl (lv_at hl 2 rfl) ?_
        refine gX10_7 (b := 38) X hw sC0 nC0 rfl fl_X10_69 dX10_plead_89 ?_
        refine gnX6_1 (b := 40) X hw (isSt.s0 st_now) (isSt.n0 st_now) rfl fn_X10_124 dX10_plead_92 ?_
        refine lv_iload_n hx hb dX10_plead_95 rfl (lv_at hl 1 rfl) ?_
        refine lv_dup2_11 hx hb dX10_plead_96 rfl rfl ?_
        obtain ⟨h20, hf⟩ := if_some hf
        refine wr_iald X hw (isSt.s2 st_now) (isSt.n2 st_now) h20 dX10_plead_97 ?_
        refine lv_iload_n hx hb dX10_plead_98 rfl (lv_at hl 0 rfl) ?_
        refine lv_isub hx hb dX10_plead_99 ?_
        obtain ⟨h21, hf⟩ := if_some hf
        obtain ⟨σ22, eσ22, hf⟩ := wlet_some hf
        refine wr_iast X hw (isSt.s2 st_now) (isSt.n2 st_now) h21 dX10_plead_100 (fun H locs hw => ?_)
        replace hw := hw.to eσ22
        refine lv_aload_n hx hb dX10_plead_101 rfl (lv_at hl 2 rfl) ?_
        refine gX10_7 (b := 38) X hw sC0 nC0 rfl fl_X10_69 dX10_plead_102 ?_
        refine lv_iload_n hx hb dX10_plead_105 rfl (lv_at hl 3 rfl) ?_
        obtain ⟨σ24, hq23, hf⟩ := bind_some hf
        refine wr_cNv (σ' := σ24) (av := [.int x1]) (rest := []) X hw hl.1 (isSt.s0 st_now) (isSt.n0 st_now) rfl (k_X6_letPlead hI st_now hq23) rfl mn_X10_191 im_X6_letPlead se_X6_letPlead ini_X6 co_X6_letPlead hd_X6_letPlead ⟨Nat.le_of_ble_eq_true rfl, Nat.le_of_ble_eq_true rfl⟩ (Nat.le_of_ble_eq_true rfl) dX10_plead_106 rfl (fun H locs hw => ?_)
        refine lv_iload_n hx hb dX10_plead_109 rfl (lv_at hl 0 rfl) ?_
        have er := Option.some.inj hf
        subst er
        exact wr_iret X hw hr (Or.inl rfl) dX10_plead_110
      · have hf := (if_neg c17).symm.trans hf
        refine lv_iconst (v := -1) hx hb dX10_plead_75 (by decide) ?_
        have er := Option.some.inj hf
        subst er
        exact wr_iret X hw hr (Or.inl rfl) dX10_plead_76
    · have hf := (if_neg c8).symm.trans hf
      refine lv_iconst (v := -1) hx hb dX10_plead_31 (by decide) ?_
      have er := Option.some.inj hf
      subst er
      exact wr_iret X hw hr (Or.inl rfl) dX10_plead_32

def f_X10_read (σ : St)  : Option (Int32 × St) := bnd2 (f_X4_readTape σ) fun v2 σ3 => wlet (si σ3 2 1 (0 : Int32)) fun σ4 => wlet (fun (s1_32_5 : Int32) => (wlet (si σ4 0 11 s1_32_5) fun σ6 => if v2 = 0 then (Option.bind (f_X8_copyFrom σ6 4 15) fun σ9 => Option.bind (f_X6_begin σ9 38 4) fun σ11 => wlet (si σ11 36 1 (0 : Int32)) fun σ12 => wlet (si σ12 31 4 (0 : Int32)) fun σ13 => wlet (si σ13 0 10 (0 : Int32)) fun σ14 => some (v2, σ14)) else (some (v2, σ6)) : Option (Int32 × St))) fun k32_5 => if v2 = 0 then (k32_5 (-1 : Int32)) else (k32_5 (σ4.1 10 4))
theorem hd_X10_read : yX10_read.cls = RX10 ∧ yX10_read.cls ≠ "java/lang/invoke/MethodHandle" ∧ yX10_read.cls ≠ "java/lang/invoke/VarHandle" ∧ (parseMethodDescriptor yX10_read.desc).map (fun d => d.parameters.length) = some 0 := by decide +kernel
set_option maxRecDepth 100000 in
set_option maxHeartbeats 4000000 in
theorem k_X10_read {l : Launch} {ad : Nat → Nat} {D : va_G} {cy : Nat → ClassId} {z : wStr} (hI : wI WC ad) {σ : St}   {res : Int32 × St} (hf : f_X10_read σ  = some res) : wC WC ad D cy z l yX10_read (Cond.code yX10_read cX10_read 2 (Option.some Jvm.ClassFile.FieldType.int) :: aw) (59) (5508) [.ref (ad 0)] σ (wQi WC ad D cy res.1 res.2) := by
  unfold f_X10_read at hf
  refine wr_start (own := RX10) hI (by decide +kernel) rfl (Nat.le_of_ble_eq_true rfl) rfl ?_
  intro p e s m below meth c ls X hw hr hl
  have hx := X.hx
  have hb := X.hb
  obtain ⟨H, eH⟩ : ∃ H : Heap, H = s.heap := ⟨_, rfl⟩
  obtain ⟨locs, el⟩ : ∃ locs : List Loc, locs = [] := ⟨_, rfl⟩
  rw [← eH, ← el] at hw ⊢
  clear eH el
  replace hl : lv_has ls 2 [(0, .ref (ad 0))] := hl
  refine lv_aload_n hx hb dX10_read_0 rfl (lv_at hl 0 rfl) ?_
  refine gX10_2 (b := 10) X hw sC0 nC0 rfl fl_X10_28 dX10_read_1 ?_
  obtain ⟨v2, σ3, hq1, hf⟩ := bnd2_some hf
  refine wr_cNi (r := v2) (σ' := σ3) (av := []) (rest := []) X hw hl.1 sC10 nC10 rfl (k_X4_readTape hI hq1) rfl mn_X10_95 im_X4_readTape se_X4_readTape ini_X4 co_X4_readTape hd_X4_readTape ⟨Nat.le_of_ble_eq_true rfl, Nat.le_of_ble_eq_true rfl⟩ (Nat.le_of_ble_eq_true rfl) dX10_read_4 rfl (fun H locs hw => ?_)
  refine lv_istore_n (lv' := [(1, .int v2), (0, .ref (ad 0))]) hx hb dX10_read_7 rfl hl (by decide) rfl (fun ls hl => ?_)
  refine lv_aload_n hx hb dX10_read_8 rfl (lv_at hl 1 rfl) ?_
  refine gX10_0 (b := 2) X hw sC0 nC0 rfl fl_X10_10 dX10_read_9 ?_
  refine lv_iconst (v := 0) hx hb dX10_read_12 (by decide) ?_
  obtain ⟨σ4, eσ4, hf⟩ := wlet_some hf
  refine pnX7_1 X hw sC2 nC2 fn_X10_88 dX10_read_13 (fun H locs hw => ?_)
  replace hw := hw.to eσ4
  refine lv_aload_n hx hb dX10_read_16 rfl (lv_at hl 1 rfl) ?_
  refine lv_iload_n hx hb dX10_read_17 rfl (lv_at hl 0 rfl) ?_
  obtain ⟨k32_5, ek32_5, hf0⟩ := wlet_some hf
  have j32_5 : ∀ (s1_32_5 : Int32) (_ : k32_5 s1_32_5 = some res) (ls : Array Slot) (H : Heap) (locs : List Loc), lv_has ls 2 [(0, .ref (ad 0)), (1, .int v2)] → wH WC ad D cy s σ4 H locs → W p l e { frames := 59, cells := 0, slots := 0, locals := 5508 } s m [.ref (ad 0)].toArray below meth c H locs 0 0 (MQ below (wQi WC ad D cy res.1 res.2) [.ref (ad 0)].toArray s 0 0 (wA WC ad)) (F0 m 32 ls [.int s1_32_5, .ref (ad 0)]) := by
    intro s1_32_5 hf ls H locs hl hw
    rw [ek32_5] at hf
    obtain ⟨σ6, eσ6, hf⟩ := wlet_some hf
    refine pX10_11 X hw sC0 nC0 fl_X10_84 dX10_read_32 (fun H locs hw => ?_)
    replace hw := hw.to eσ6
    refine lv_iload_n hx hb dX10_read_35 rfl (lv_at hl 1 rfl) ?_
    refine lv_if_ne (tgt := 85) hx hb dX10_read_36 (by decide) (fun c7 => ?_) (fun c7 => ?_)
    · have hf := (if_neg c7).symm.trans hf
      refine lv_iload_n hx hb dX10_read_85 rfl (lv_at hl 1 rfl) ?_
      have er := Option.some.inj hf
      subst er
      exact wr_iret X hw hr (Or.inl rfl) dX10_read_86
    · have hf := (if_pos c7).symm.trans hf
      refine lv_aload_n hx hb dX10_read_39 rfl (lv_at hl 0 rfl) ?_
      refine gX10_1 (b := 4) X hw sC0 nC0 rfl fl_X10_19 dX10_read_40 ?_
      refine lv_aload_n hx hb dX10_read_43 rfl (lv_at hl 0 rfl) ?_
      refine gX10_2 (b := 10) X hw sC0 nC0 rfl fl_X10_28 dX10_read_44 ?_
      refine gnX4_1 (b := 15) X hw sC10 nC10 rfl fn_X10_100 dX10_read_47 ?_
      obtain ⟨σ9, hq8, hf⟩ := bind_some hf
      refine wr_cNv (σ' := σ9) (av := [.ref (ad 15)]) (rest := []) X hw hl.1 sC4 nC4 rfl (k_X8_copyFrom hI tx_1 tx_2 hq8) rfl mn_X10_103 im_X8_copyFrom se_X8_copyFrom ini_X8 co_X8_copyFrom hd_X8_copyFrom ⟨Nat.le_of_ble_eq_true rfl, Nat.le_of_ble_eq_true rfl⟩ (Nat.le_of_ble_eq_true rfl) dX10_read_50 rfl (fun H locs hw => ?_)
      refine lv_aload_n hx hb dX10_read_53 rfl (lv_at hl 0 rfl) ?_
      refine gX10_7 (b := 38) X hw sC0 nC0 rfl fl_X10_69 dX10_read_54 ?_
      refine lv_aload_n hx hb dX10_read_57 rfl (lv_at hl 0 rfl) ?_
      refine gX10_1 (b := 4) X hw sC0 nC0 rfl fl_X10_19 dX10_read_58 ?_
      obtain ⟨σ11, hq10, hf⟩ := bind_some hf
      refine wr_cNv (σ' := σ11) (av := [.ref (ad 4)]) (rest := []) X hw hl.1 (isSt.s0 st_now) (isSt.n0 st_now) rfl (k_X6_begin hI st_now tx_1 hq10) rfl mn_X10_106 im_X6_begin se_X6_begin ini_X6 co_X6_begin hd_X6_begin ⟨Nat.le_of_ble_eq_true rfl, Nat.le_of_ble_eq_true rfl⟩ (Nat.le_of_ble_eq_true rfl) dX10_read_61 rfl (fun H locs hw => ?_)
      refine lv_aload_n hx hb dX10_read_64 rfl (lv_at hl 0 rfl) ?_
      refine gX10_8 (b := 36) X hw sC0 nC0 rfl fl_X10_76 dX10_read_65 ?_
      refine lv_iconst (v := 0) hx hb dX10_read_68 (by decide) ?_
      obtain ⟨σ12, eσ12, hf⟩ := wlet_some hf
      refine pnX0_1 X hw sC36 nC36 fn_X10_109 dX10_read_69 (fun H locs hw => ?_)
      replace hw := hw.to eσ12
      refine lv_aload_n hx hb dX10_read_72 rfl (lv_at hl 0 rfl) ?_
      refine gX10_6 (b := 31) X hw sC0 nC0 rfl fl_X10_62 dX10_read_73 ?_
      refine lv_iconst (v := 0) hx hb dX10_read_76 (by decide) ?_
      obtain ⟨σ13, eσ13, hf⟩ := wlet_some hf
      refine pnX9_4 X hw sC31 nC31 fn_X10_112 dX10_read_77 (fun H locs hw => ?_)
      replace hw := hw.to eσ13
      refine lv_aload_n hx hb dX10_read_80 rfl (lv_at hl 0 rfl) ?_
      refine lv_iconst (v := 0) hx hb dX10_read_81 (by decide) ?_
      obtain ⟨σ14, eσ14, hf⟩ := wlet_some hf
      refine pX10_10 X hw sC0 nC0 fl_X10_113 dX10_read_82 (fun H locs hw => ?_)
      replace hw := hw.to eσ14
      refine lv_iload_n hx hb dX10_read_85 rfl (lv_at hl 1 rfl) ?_
      have er := Option.some.inj hf
      subst er
      exact wr_iret X hw hr (Or.inl rfl) dX10_read_86
  replace hf := hf0
  refine lv_if_ne (tgt := 25) hx hb dX10_read_18 (by decide) (fun c15 => ?_) (fun c15 => ?_)
  · have hf := (if_neg c15).symm.trans hf
    refine lv_aload_n hx hb dX10_read_25 rfl (lv_at hl 1 rfl) ?_
    refine gX10_2 (b := 10) X hw sC0 nC0 rfl fl_X10_28 dX10_read_26 ?_
    refine gnX4_4 X hw sC10 nC10 fn_X10_99 dX10_read_29 ?_
    exact j32_5 (σ4.1 10 4) hf ls H locs (lv_sub hl [1, 0] rfl) hw
  · have hf := (if_pos c15).symm.trans hf
    refine lv_iconst (v := -1) hx hb dX10_read_21 (by decide) ?_
    refine lv_goto (tgt := 32) hx hb dX10_read_22 (by decide) ?_
    exact j32_5 (-1 : Int32) hf ls H locs (lv_sub hl [1, 0] rfl) hw

def f_X10_restore (σ : St) (x1 : Int32) : Option (Int32 × St) := if x1 < 0 then (some ((0 : Int32), σ)) else (if (3 : Int32) ≤ x1 then (some ((0 : Int32), σ)) else (if (((σ.1 0 10) >>> (x1 &&& 31)) &&& (1 : Int32)) = 0 then (some ((0 : Int32), σ)) else (if ib x1 3 = true then wlet (206 + 4 * (Int32.toNatClampNeg x1)) fun (oh5 : Nat) => Option.bind (f_X6_copyFrom σ 38 oh5) fun σ7 => wlet (si σ7 36 1 (0 : Int32)) fun σ8 => some ((1 : Int32), σ8) else none)))
theorem hd_X10_restore : yX10_restore.cls = RX10 ∧ yX10_restore.cls ≠ "java/lang/invoke/MethodHandle" ∧ yX10_restore.cls ≠ "java/lang/invoke/VarHandle" ∧ (parseMethodDescriptor yX10_restore.desc).map (fun d => d.parameters.length) = some 1 := by decide +kernel
set_option maxRecDepth 100000 in
set_option maxHeartbeats 4000000 in
theorem k_X10_restore {l : Launch} {ad : Nat → Nat} {D : va_G} {cy : Nat → ClassId} {z : wStr} (hI : wI WC ad) {σ : St} {x1 : Int32}  {res : Int32 × St} (hf : f_X10_restore σ x1 = some res) : wC WC ad D cy z l yX10_restore (Cond.code yX10_restore cX10_restore 2 (Option.some Jvm.ClassFile.FieldType.boolean) :: aw) (2) (121) [.ref (ad 0), .int x1] σ (wQi WC ad D cy res.1 res.2) := by
  unfold f_X10_restore at hf
  refine wr_start (own := RX10) hI (by decide +kernel) rfl (Nat.le_of_ble_eq_true rfl) rfl ?_
  intro p e s m below meth c ls X hw hr hl
  have hx := X.hx
  have hb := X.hb
  obtain ⟨H, eH⟩ : ∃ H : Heap, H = s.heap := ⟨_, rfl⟩
  obtain ⟨locs, el⟩ : ∃ locs : List Loc, locs = [] := ⟨_, rfl⟩
  rw [← eH, ← el] at hw ⊢
  clear eH el
  replace hl : lv_has ls 2 [(0, .ref (ad 0)), (1, .int x1)] := hl
  refine lv_iload_n hx hb dX10_restore_0 rfl (lv_at hl 1 rfl) ?_
  refine lv_if_lt (tgt := 20) hx hb dX10_restore_1 (by decide) (fun c1 => ?_) (fun c1 => ?_)
  · have hf := (if_pos c1).symm.trans hf
    refine lv_iconst (v := 0) hx hb dX10_restore_20 (by decide) ?_
    have er := Option.some.inj hf
    subst er
    exact wr_iret X hw hr (Or.inr ⟨rfl, (show bz (0 : Int32) = true from rfl)⟩) dX10_restore_21
  · have hf := (if_neg c1).symm.trans hf
    refine lv_iload_n hx hb dX10_restore_4 rfl (lv_at hl 1 rfl) ?_
    refine lv_iconst (v := 3) hx hb dX10_restore_5 (by decide) ?_
    refine lv_icmp_ge (tgt := 20) hx hb dX10_restore_6 (by decide) (fun c2 => ?_) (fun c2 => ?_)
    · have hf := (if_pos c2).symm.trans hf
      refine lv_iconst (v := 0) hx hb dX10_restore_20 (by decide) ?_
      have er := Option.some.inj hf
      subst er
      exact wr_iret X hw hr (Or.inr ⟨rfl, (show bz (0 : Int32) = true from rfl)⟩) dX10_restore_21
    · have hf := (if_neg c2).symm.trans hf
      refine lv_aload_n hx hb dX10_restore_9 rfl (lv_at hl 0 rfl) ?_
      refine gX10_10 X hw sC0 nC0 fl_X10_113 dX10_restore_10 ?_
      refine lv_iload_n hx hb dX10_restore_13 rfl (lv_at hl 1 rfl) ?_
      refine lv_ishr hx hb dX10_restore_14 ?_
      refine lv_iconst (v := 1) hx hb dX10_restore_15 (by decide) ?_
      refine lv_iand hx hb dX10_restore_16 ?_
      refine lv_if_ne (tgt := 22) hx hb dX10_restore_17 (by decide) (fun c3 => ?_) (fun c3 => ?_)
      · have hf := (if_neg c3).symm.trans hf
        refine lv_aload_n hx hb dX10_restore_22 rfl (lv_at hl 0 rfl) ?_
        refine gX10_7 (b := 38) X hw sC0 nC0 rfl fl_X10_69 dX10_restore_23 ?_
        refine lv_aload_n hx hb dX10_restore_26 rfl (lv_at hl 0 rfl) ?_
        refine gX10_9 (b := 1) X hw sC0 nC0 rfl fl_X10_80 dX10_restore_27 ?_
        refine lv_iload_n hx hb dX10_restore_30 rfl (lv_at hl 1 rfl) ?_
        obtain ⟨h4, hf⟩ := if_some hf
        refine wr_aald X hw sC1 nC1 h4 dX10_restore_31 ?_
        obtain ⟨oh5, eoh5, hf⟩ := wlet_some hf
        have hoh5 : isSt oh5 := eoh5 ▸ st_slot h4
        refine wr_topr (b' := oh5) eoh5 ?_
        obtain ⟨σ7, hq6, hf⟩ := bind_some hf
        refine wr_cNv (σ' := σ7) (av := [.ref (ad oh5)]) (rest := []) X hw hl.1 (isSt.s0 st_now) (isSt.n0 st_now) rfl (k_X6_copyFrom hI st_now hoh5 hq6) rfl mn_X10_286 im_X6_copyFrom se_X6_copyFrom ini_X6 co_X6_copyFrom hd_X6_copyFrom ⟨Nat.le_of_ble_eq_true rfl, Nat.le_of_ble_eq_true rfl⟩ (Nat.le_of_ble_eq_true rfl) dX10_restore_32 rfl (fun H locs hw => ?_)
        refine lv_aload_n hx hb dX10_restore_35 rfl (lv_at hl 0 rfl) ?_
        refine gX10_8 (b := 36) X hw sC0 nC0 rfl fl_X10_76 dX10_restore_36 ?_
        refine lv_iconst (v := 0) hx hb dX10_restore_39 (by decide) ?_
        obtain ⟨σ8, eσ8, hf⟩ := wlet_some hf
        refine pnX0_1 X hw sC36 nC36 fn_X10_109 dX10_restore_40 (fun H locs hw => ?_)
        replace hw := hw.to eσ8
        refine lv_iconst (v := 1) hx hb dX10_restore_43 (by decide) ?_
        have er := Option.some.inj hf
        subst er
        exact wr_iret X hw hr (Or.inr ⟨rfl, (show bz (1 : Int32) = true from rfl)⟩) dX10_restore_44
      · have hf := (if_pos c3).symm.trans hf
        refine lv_iconst (v := 0) hx hb dX10_restore_20 (by decide) ?_
        have er := Option.some.inj hf
        subst er
        exact wr_iret X hw hr (Or.inr ⟨rfl, (show bz (0 : Int32) = true from rfl)⟩) dX10_restore_21

def f_X10_rests (σ : St)  : Option (Int32 × St) := Option.bind (f_X2_layFirst σ 38) fun σ2 => bnd2 (f_X2_countResting σ2) fun v4 σ5 => some (v4, σ5)
theorem hd_X10_rests : yX10_rests.cls = RX10 ∧ yX10_rests.cls ≠ "java/lang/invoke/MethodHandle" ∧ yX10_rests.cls ≠ "java/lang/invoke/VarHandle" ∧ (parseMethodDescriptor yX10_rests.desc).map (fun d => d.parameters.length) = some 0 := by decide +kernel
set_option maxRecDepth 100000 in
set_option maxHeartbeats 4000000 in
theorem k_X10_rests {l : Launch} {ad : Nat → Nat} {D : va_G} {cy : Nat → ClassId} {z : wStr} (hI : wI WC ad) {σ : St}   {res : Int32 × St} (hf : f_X10_rests σ  = some res) : wC WC ad D cy z l yX10_rests (Cond.code yX10_rests cX10_rests 1 (Option.some Jvm.ClassFile.FieldType.int) :: aw) (7) (248) [.ref (ad 0)] σ (wQi WC ad D cy res.1 res.2) := by
  unfold f_X10_rests at hf
  refine wr_start (own := RX10) hI (by decide +kernel) rfl (Nat.le_of_ble_eq_true rfl) rfl ?_
  intro p e s m below meth c ls X hw hr hl
  have hx := X.hx
  have hb := X.hb
  obtain ⟨H, eH⟩ : ∃ H : Heap, H = s.heap := ⟨_, rfl⟩
  obtain ⟨locs, el⟩ : ∃ locs : List Loc, locs = [] := ⟨_, rfl⟩
  rw [← eH, ← el] at hw ⊢
  clear eH el
  replace hl : lv_has ls 1 [(0, .ref (ad 0))] := hl
  refine lv_aload_n hx hb dX10_rests_0 rfl (lv_at hl 0 rfl) ?_
  refine gX10_4 (b := 25) X hw sC0 nC0 rfl fl_X10_46 dX10_rests_1 ?_
  refine lv_aload_n hx hb dX10_rests_4 rfl (lv_at hl 0 rfl) ?_
  refine gX10_7 (b := 38) X hw sC0 nC0 rfl fl_X10_69 dX10_rests_5 ?_
  obtain ⟨σ2, hq1, hf⟩ := bind_some hf
  refine wr_cNv (σ' := σ2) (av := [.ref (ad 38)]) (rest := []) X hw hl.1 sC25 nC25 rfl (k_X2_layFirst hI st_now hq1) rfl mn_X10_211 im_X2_layFirst se_X2_layFirst ini_X2 co_X2_layFirst hd_X2_layFirst ⟨Nat.le_of_ble_eq_true rfl, Nat.le_of_ble_eq_true rfl⟩ (Nat.le_of_ble_eq_true rfl) dX10_rests_8 rfl (fun H locs hw => ?_)
  refine lv_aload_n hx hb dX10_rests_11 rfl (lv_at hl 0 rfl) ?_
  refine gX10_4 (b := 25) X hw sC0 nC0 rfl fl_X10_46 dX10_rests_12 ?_
  obtain ⟨v4, σ5, hq3, hf⟩ := bnd2_some hf
  refine wr_cNi (r := v4) (σ' := σ5) (av := []) (rest := []) X hw hl.1 sC25 nC25 rfl (k_X2_countResting hI hq3) rfl mn_X10_237 im_X2_countResting se_X2_countResting ini_X2 co_X2_countResting hd_X2_countResting ⟨Nat.le_of_ble_eq_true rfl, Nat.le_of_ble_eq_true rfl⟩ (Nat.le_of_ble_eq_true rfl) dX10_rests_15 rfl (fun H locs hw => ?_)
  have er := Option.some.inj hf
  subst er
  exact wr_iret X hw hr (Or.inl rfl) dX10_rests_18

def f_X10_sessions (σ : St) (x1 : Int32) : Option (Int32 × St) := if x1 < 0 then (some ((-1 : Int32), σ)) else (if x1 ≤ (40 : Int32) then (if x1 ≤ 0 then (some ((σ.1 38 6), σ)) else (Option.bind (f_X0_remember σ 38) fun σ5 => Option.bind (f_X1_goThrough σ5 38 x1 (σ5.1 4 8)) fun σ7 => some ((σ7.1 38 6), σ7))) else (some ((-1 : Int32), σ)))
theorem hd_X10_sessions : yX10_sessions.cls = RX10 ∧ yX10_sessions.cls ≠ "java/lang/invoke/MethodHandle" ∧ yX10_sessions.cls ≠ "java/lang/invoke/VarHandle" ∧ (parseMethodDescriptor yX10_sessions.desc).map (fun d => d.parameters.length) = some 1 := by decide +kernel
set_option maxRecDepth 100000 in
set_option maxHeartbeats 4000000 in
theorem k_X10_sessions {l : Launch} {ad : Nat → Nat} {D : va_G} {cy : Nat → ClassId} {z : wStr} (hI : wI WC ad) {σ : St} {x1 : Int32}  {res : Int32 × St} (hf : f_X10_sessions σ x1 = some res) : wC WC ad D cy z l yX10_sessions (Cond.code yX10_sessions cX10_sessions 2 (Option.some Jvm.ClassFile.FieldType.int) :: aw) (7) (249) [.ref (ad 0), .int x1] σ (wQi WC ad D cy res.1 res.2) := by
  unfold f_X10_sessions at hf
  refine wr_start (own := RX10) hI (by decide +kernel) rfl (Nat.le_of_ble_eq_true rfl) rfl ?_
  intro p e s m below meth c ls X hw hr hl
  have hx := X.hx
  have hb := X.hb
  obtain ⟨H, eH⟩ : ∃ H : Heap, H = s.heap := ⟨_, rfl⟩
  obtain ⟨locs, el⟩ : ∃ locs : List Loc, locs = [] := ⟨_, rfl⟩
  rw [← eH, ← el] at hw ⊢
  clear eH el
  replace hl : lv_has ls 2 [(0, .ref (ad 0)), (1, .int x1)] := hl
  refine lv_iload_n hx hb dX10_sessions_0 rfl (lv_at hl 1 rfl) ?_
  refine lv_if_lt (tgt := 10) hx hb dX10_sessions_1 (by decide) (fun c1 => ?_) (fun c1 => ?_)
  · have hf := (if_pos c1).symm.trans hf
    refine lv_iconst (v := -1) hx hb dX10_sessions_10 (by decide) ?_
    have er := Option.some.inj hf
    subst er
    exact wr_iret X hw hr (Or.inl rfl) dX10_sessions_11
  · have hf := (if_neg c1).symm.trans hf
    refine lv_iload_n hx hb dX10_sessions_4 rfl (lv_at hl 1 rfl) ?_
    refine lv_bipush (v := 40) hx hb dX10_sessions_5 (by decide) ?_
    refine lv_icmp_le (tgt := 12) hx hb dX10_sessions_7 (by decide) (fun c2 => ?_) (fun c2 => ?_)
    · have hf := (if_pos c2).symm.trans hf
      refine lv_iload_n hx hb dX10_sessions_12 rfl (lv_at hl 1 rfl) ?_
      refine lv_if_le (tgt := 46) hx hb dX10_sessions_13 (by decide) (fun c3 => ?_) (fun c3 => ?_)
      · have hf := (if_pos c3).symm.trans hf
        refine lv_aload_n hx hb dX10_sessions_46 rfl (lv_at hl 0 rfl) ?_
        refine gX10_7 (b := 38) X hw sC0 nC0 rfl fl_X10_69 dX10_sessions_47 ?_
        refine gnX6_6 X hw (isSt.s0 st_now) (isSt.n0 st_now) fn_X10_201 dX10_sessions_50 ?_
        have er := Option.some.inj hf
        subst er
        exact wr_iret X hw hr (Or.inl rfl) dX10_sessions_53
      · have hf := (if_neg c3).symm.trans hf
        refine lv_aload_n hx hb dX10_sessions_16 rfl (lv_at hl 0 rfl) ?_
        refine gX10_8 (b := 36) X hw sC0 nC0 rfl fl_X10_76 dX10_sessions_17 ?_
        refine lv_aload_n hx hb dX10_sessions_20 rfl (lv_at hl 0 rfl) ?_
        refine gX10_7 (b := 38) X hw sC0 nC0 rfl fl_X10_69 dX10_sessions_21 ?_
        obtain ⟨σ5, hq4, hf⟩ := bind_some hf
        refine wr_cNv (σ' := σ5) (av := [.ref (ad 38)]) (rest := []) X hw hl.1 sC36 nC36 rfl (k_X0_remember hI st_now hq4) rfl mn_X10_168 im_X0_remember se_X0_remember ini_X0 co_X0_remember hd_X0_remember ⟨Nat.le_of_ble_eq_true rfl, Nat.le_of_ble_eq_true rfl⟩ (Nat.le_of_ble_eq_true rfl) dX10_sessions_24 rfl (fun H locs hw => ?_)
        refine lv_aload_n hx hb dX10_sessions_27 rfl (lv_at hl 0 rfl) ?_
        refine gX10_3 (b := 21) X hw sC0 nC0 rfl fl_X10_37 dX10_sessions_28 ?_
        refine lv_aload_n hx hb dX10_sessions_31 rfl (lv_at hl 0 rfl) ?_
        refine gX10_7 (b := 38) X hw sC0 nC0 rfl fl_X10_69 dX10_sessions_32 ?_
        refine lv_iload_n hx hb dX10_sessions_35 rfl (lv_at hl 1 rfl) ?_
        refine lv_aload_n hx hb dX10_sessions_36 rfl (lv_at hl 0 rfl) ?_
        refine gX10_1 (b := 4) X hw sC0 nC0 rfl fl_X10_19 dX10_sessions_37 ?_
        refine gnX8_8 X hw sC4 nC4 fn_X10_194 dX10_sessions_40 ?_
        obtain ⟨σ7, hq6, hf⟩ := bind_some hf
        refine wr_cNv (σ' := σ7) (av := [.ref (ad 38), .int x1, .int (σ5.1 4 8)]) (rest := []) X hw hl.1 sC21 nC21 rfl (k_X1_goThrough hI st_now hq6) rfl mn_X10_197 im_X1_goThrough se_X1_goThrough ini_X1 co_X1_goThrough hd_X1_goThrough ⟨Nat.le_of_ble_eq_true rfl, Nat.le_of_ble_eq_true rfl⟩ (Nat.le_of_ble_eq_true rfl) dX10_sessions_43 rfl (fun H locs hw => ?_)
        refine lv_aload_n hx hb dX10_sessions_46 rfl (lv_at hl 0 rfl) ?_
        refine gX10_7 (b := 38) X hw sC0 nC0 rfl fl_X10_69 dX10_sessions_47 ?_
        refine gnX6_6 X hw (isSt.s0 st_now) (isSt.n0 st_now) fn_X10_201 dX10_sessions_50 ?_
        have er := Option.some.inj hf
        subst er
        exact wr_iret X hw hr (Or.inl rfl) dX10_sessions_53
    · have hf := (if_neg c2).symm.trans hf
      refine lv_iconst (v := -1) hx hb dX10_sessions_10 (by decide) ?_
      have er := Option.some.inj hf
      subst er
      exact wr_iret X hw hr (Or.inl rfl) dX10_sessions_11

def f_X10_settles (σ : St)  : Option (Int32 × St) := Option.bind (f_X2_layAsListed σ 38) fun σ2 => bnd2 (f_X2_countTrades σ2) fun v4 σ5 => some (v4, σ5)
theorem hd_X10_settles : yX10_settles.cls = RX10 ∧ yX10_settles.cls ≠ "java/lang/invoke/MethodHandle" ∧ yX10_settles.cls ≠ "java/lang/invoke/VarHandle" ∧ (parseMethodDescriptor yX10_settles.desc).map (fun d => d.parameters.length) = some 0 := by decide +kernel
set_option maxRecDepth 100000 in
set_option maxHeartbeats 4000000 in
theorem k_X10_settles {l : Launch} {ad : Nat → Nat} {D : va_G} {cy : Nat → ClassId} {z : wStr} (hI : wI WC ad) {σ : St}   {res : Int32 × St} (hf : f_X10_settles σ  = some res) : wC WC ad D cy z l yX10_settles (Cond.code yX10_settles cX10_settles 1 (Option.some Jvm.ClassFile.FieldType.int) :: aw) (8) (256) [.ref (ad 0)] σ (wQi WC ad D cy res.1 res.2) := by
  unfold f_X10_settles at hf
  refine wr_start (own := RX10) hI (by decide +kernel) rfl (Nat.le_of_ble_eq_true rfl) rfl ?_
  intro p e s m below meth c ls X hw hr hl
  have hx := X.hx
  have hb := X.hb
  obtain ⟨H, eH⟩ : ∃ H : Heap, H = s.heap := ⟨_, rfl⟩
  obtain ⟨locs, el⟩ : ∃ locs : List Loc, locs = [] := ⟨_, rfl⟩
  rw [← eH, ← el] at hw ⊢
  clear eH el
  replace hl : lv_has ls 1 [(0, .ref (ad 0))] := hl
  refine lv_aload_n hx hb dX10_settles_0 rfl (lv_at hl 0 rfl) ?_
  refine gX10_4 (b := 25) X hw sC0 nC0 rfl fl_X10_46 dX10_settles_1 ?_
  refine lv_aload_n hx hb dX10_settles_4 rfl (lv_at hl 0 rfl) ?_
  refine gX10_7 (b := 38) X hw sC0 nC0 rfl fl_X10_69 dX10_settles_5 ?_
  obtain ⟨σ2, hq1, hf⟩ := bind_some hf
  refine wr_cNv (σ' := σ2) (av := [.ref (ad 38)]) (rest := []) X hw hl.1 sC25 nC25 rfl (k_X2_layAsListed hI st_now hq1) rfl mn_X10_226 im_X2_layAsListed se_X2_layAsListed ini_X2 co_X2_layAsListed hd_X2_layAsListed ⟨Nat.le_of_ble_eq_true rfl, Nat.le_of_ble_eq_true rfl⟩ (Nat.le_of_ble_eq_true rfl) dX10_settles_8 rfl (fun H locs hw => ?_)
  refine lv_aload_n hx hb dX10_settles_11 rfl (lv_at hl 0 rfl) ?_
  refine gX10_4 (b := 25) X hw sC0 nC0 rfl fl_X10_46 dX10_settles_12 ?_
  obtain ⟨v4, σ5, hq3, hf⟩ := bnd2_some hf
  refine wr_cNi (r := v4) (σ' := σ5) (av := []) (rest := []) X hw hl.1 sC25 nC25 rfl (k_X2_countTrades hI hq3) rfl mn_X10_240 im_X2_countTrades se_X2_countTrades ini_X2 co_X2_countTrades hd_X2_countTrades ⟨Nat.le_of_ble_eq_true rfl, Nat.le_of_ble_eq_true rfl⟩ (Nat.le_of_ble_eq_true rfl) dX10_settles_15 rfl (fun H locs hw => ?_)
  have er := Option.some.inj hf
  subst er
  exact wr_iret X hw hr (Or.inl rfl) dX10_settles_18

def f_X10_shunned (σ : St) (x1 : Int32) : Option (Int32 × St) := if x1 < 0 then (some ((-1 : Int32), σ)) else (if x1 ≤ (1 : Int32) then (Option.bind (f_X3_seekShunned σ 38) fun σ4 => Option.bind (f_X3_answer σ4 x1) fun v6 => some (v6, σ4)) else (some ((-1 : Int32), σ)))
theorem hd_X10_shunned : yX10_shunned.cls = RX10 ∧ yX10_shunned.cls ≠ "java/lang/invoke/MethodHandle" ∧ yX10_shunned.cls ≠ "java/lang/invoke/VarHandle" ∧ (parseMethodDescriptor yX10_shunned.desc).map (fun d => d.parameters.length) = some 1 := by decide +kernel
set_option maxRecDepth 100000 in
set_option maxHeartbeats 4000000 in
theorem k_X10_shunned {l : Launch} {ad : Nat → Nat} {D : va_G} {cy : Nat → ClassId} {z : wStr} (hI : wI WC ad) {σ : St} {x1 : Int32}  {res : Int32 × St} (hf : f_X10_shunned σ x1 = some res) : wC WC ad D cy z l yX10_shunned (Cond.code yX10_shunned cX10_shunned 2 (Option.some Jvm.ClassFile.FieldType.int) :: aw) (6) (221) [.ref (ad 0), .int x1] σ (wQi WC ad D cy res.1 res.2) := by
  unfold f_X10_shunned at hf
  refine wr_start (own := RX10) hI (by decide +kernel) rfl (Nat.le_of_ble_eq_true rfl) rfl ?_
  intro p e s m below meth c ls X hw hr hl
  have hx := X.hx
  have hb := X.hb
  obtain ⟨H, eH⟩ : ∃ H : Heap, H = s.heap := ⟨_, rfl⟩
  obtain ⟨locs, el⟩ : ∃ locs : List Loc, locs = [] := ⟨_, rfl⟩
  rw [← eH, ← el] at hw ⊢
  clear eH el
  replace hl : lv_has ls 2 [(0, .ref (ad 0)), (1, .int x1)] := hl
  refine lv_iload_n hx hb dX10_shunned_0 rfl (lv_at hl 1 rfl) ?_
  refine lv_if_lt (tgt := 9) hx hb dX10_shunned_1 (by decide) (fun c1 => ?_) (fun c1 => ?_)
  · have hf := (if_pos c1).symm.trans hf
    refine lv_iconst (v := -1) hx hb dX10_shunned_9 (by decide) ?_
    have er := Option.some.inj hf
    subst er
    exact wr_iret X hw hr (Or.inl rfl) dX10_shunned_10
  · have hf := (if_neg c1).symm.trans hf
    refine lv_iload_n hx hb dX10_shunned_4 rfl (lv_at hl 1 rfl) ?_
    refine lv_iconst (v := 1) hx hb dX10_shunned_5 (by decide) ?_
    refine lv_icmp_le (tgt := 11) hx hb dX10_shunned_6 (by decide) (fun c2 => ?_) (fun c2 => ?_)
    · have hf := (if_pos c2).symm.trans hf
      refine lv_aload_n hx hb dX10_shunned_11 rfl (lv_at hl 0 rfl) ?_
      refine gX10_5 (b := 30) X hw sC0 nC0 rfl fl_X10_55 dX10_shunned_12 ?_
      refine lv_aload_n hx hb dX10_shunned_15 rfl (lv_at hl 0 rfl) ?_
      refine gX10_7 (b := 38) X hw sC0 nC0 rfl fl_X10_69 dX10_shunned_16 ?_
      obtain ⟨σ4, hq3, hf⟩ := bind_some hf
      refine wr_cNv (σ' := σ4) (av := [.ref (ad 38)]) (rest := []) X hw hl.1 sC30 nC30 rfl (k_X3_seekShunned hI st_now hq3) rfl mn_X10_243 im_X3_seekShunned se_X3_seekShunned ini_X3 co_X3_seekShunned hd_X3_seekShunned ⟨Nat.le_of_ble_eq_true rfl, Nat.le_of_ble_eq_true rfl⟩ (Nat.le_of_ble_eq_true rfl) dX10_shunned_19 rfl (fun H locs hw => ?_)
      refine lv_aload_n hx hb dX10_shunned_22 rfl (lv_at hl 0 rfl) ?_
      refine gX10_5 (b := 30) X hw sC0 nC0 rfl fl_X10_55 dX10_shunned_23 ?_
      refine lv_iload_n hx hb dX10_shunned_26 rfl (lv_at hl 1 rfl) ?_
      obtain ⟨v6, hq5, hf⟩ := bind_some hf
      refine wr_cNi (r := v6) (σ' := σ4) (av := [.int x1]) (rest := []) X hw hl.1 sC30 nC30 rfl (k_X3_answer hI hq5) rfl mn_X10_246 im_X3_answer se_X3_answer ini_X3 co_X3_answer hd_X3_answer ⟨Nat.le_of_ble_eq_true rfl, Nat.le_of_ble_eq_true rfl⟩ (Nat.le_of_ble_eq_true rfl) dX10_shunned_27 rfl (fun H locs hw => ?_)
      have er := Option.some.inj hf
      subst er
      exact wr_iret X hw hr (Or.inl rfl) dX10_shunned_30
    · have hf := (if_neg c2).symm.trans hf
      refine lv_iconst (v := -1) hx hb dX10_shunned_9 (by decide) ?_
      have er := Option.some.inj hf
      subst er
      exact wr_iret X hw hr (Or.inl rfl) dX10_shunned_10

def f_X10_suffers (σ : St) (x1 : Int32) (x2 : Int32) : Option (Int32 × St) := Option.bind (f_X6_placeOf σ 38 x1) fun v2 => if v2 = (-1 : Int32) then (some ((-1 : Int32), σ)) else (if x2 = (0 : Int32) then (Option.bind (f_X6_aheadOf σ 38 v2) fun v6 => bnd2 (f_X1_suffering σ 38 x1 v2 v6) fun v8 σ9 => some (v8, σ9)) else if x2 = (1 : Int32) then (Option.bind (f_X6_aheadOf σ 38 v2) fun v12 => Option.bind (f_X1_kindOf σ 38 x1 v2 v12) fun v14 => some (v14, σ)) else (some ((-1 : Int32), σ)))
theorem hd_X10_suffers : yX10_suffers.cls = RX10 ∧ yX10_suffers.cls ≠ "java/lang/invoke/MethodHandle" ∧ yX10_suffers.cls ≠ "java/lang/invoke/VarHandle" ∧ (parseMethodDescriptor yX10_suffers.desc).map (fun d => d.parameters.length) = some 2 := by decide +kernel
set_option maxRecDepth 100000 in
set_option maxHeartbeats 4000000 in
theorem k_X10_suffers {l : Launch} {ad : Nat → Nat} {D : va_G} {cy : Nat → ClassId} {z : wStr} (hI : wI WC ad) {σ : St} {x1 : Int32} {x2 : Int32}  {res : Int32 × St} (hf : f_X10_suffers σ x1 x2 = some res) : wC WC ad D cy z l yX10_suffers (Cond.code yX10_suffers cX10_suffers 4 (Option.some Jvm.ClassFile.FieldType.int) :: aw) (5) (199) [.ref (ad 0), .int x1, .int x2] σ (wQi WC ad D cy res.1 res.2) := by
  unfold f_X10_suffers at hf
  refine wr_start (own := RX10) hI (by decide +kernel) rfl (Nat.le_of_ble_eq_true rfl) rfl ?_
  intro p e s m below meth c ls X hw hr hl
  have hx := X.hx
  have hb := X.hb
  obtain ⟨H, eH⟩ : ∃ H : Heap, H = s.heap := ⟨_, rfl⟩
  obtain ⟨locs, el⟩ : ∃ locs : List Loc, locs = [] := ⟨_, rfl⟩
  rw [← eH, ← el] at hw ⊢
  clear eH el
  replace hl : lv_has ls 4 [(0, .ref (ad 0)), (1, .int x1), (2, .int x2)] := hl
  refine lv_aload_n hx hb dX10_suffers_0 rfl (lv_at hl 0 rfl) ?_
  refine gX10_7 (b := 38) X hw sC0 nC0 rfl fl_X10_69 dX10_suffers_1 ?_
  refine lv_iload_n hx hb dX10_suffers_4 rfl (lv_at hl 1 rfl) ?_
  obtain ⟨v2, hq1, hf⟩ := bind_some hf
  refine wr_cNi (r := v2) (σ' := σ) (av := [.int x1]) (rest := []) X hw hl.1 (isSt.s0 st_now) (isSt.n0 st_now) rfl (k_X6_placeOf hI st_now hq1) rfl mn_X10_130 im_X6_placeOf se_X6_placeOf ini_X6 co_X6_placeOf hd_X6_placeOf ⟨Nat.le_of_ble_eq_true rfl, Nat.le_of_ble_eq_true rfl⟩ (Nat.le_of_ble_eq_true rfl) dX10_suffers_5 rfl (fun H locs hw => ?_)
  refine lv_istore_n (lv' := [(3, .int v2), (0, .ref (ad 0)), (1, .int x1), (2, .int x2)]) hx hb dX10_suffers_8 rfl hl (by decide) rfl (fun ls hl => ?_)
  refine lv_iload_n hx hb dX10_suffers_9 rfl (lv_at hl 0 rfl) ?_
  refine lv_iconst (v := -1) hx hb dX10_suffers_10 (by decide) ?_
  refine lv_icmp_ne (tgt := 16) hx hb dX10_suffers_11 (by decide) (fun c3 => ?_) (fun c3 => ?_)
  · have hf := (if_neg c3).symm.trans hf
    refine lv_iload_n hx hb dX10_suffers_16 rfl (lv_at hl 3 rfl) ?_
    by_cases c4 : x2 = (0 : Int32)
    · have hf := (if_pos c4).symm.trans hf
      refine lv_lookup (tgt := 44) (off := 27) hx hb dX10_suffers_17 (by decide) (by rw [c4]; decide) (by decide) ?_
      refine lv_aload_n hx hb dX10_suffers_44 rfl (lv_at hl 1 rfl) ?_
      refine gX10_3 (b := 21) X hw sC0 nC0 rfl fl_X10_37 dX10_suffers_45 ?_
      refine lv_aload_n hx hb dX10_suffers_48 rfl (lv_at hl 1 rfl) ?_
      refine gX10_7 (b := 38) X hw sC0 nC0 rfl fl_X10_69 dX10_suffers_49 ?_
      refine lv_iload_n hx hb dX10_suffers_52 rfl (lv_at hl 2 rfl) ?_
      refine lv_iload_n hx hb dX10_suffers_53 rfl (lv_at hl 0 rfl) ?_
      refine lv_aload_n hx hb dX10_suffers_54 rfl (lv_at hl 1 rfl) ?_
      refine gX10_7 (b := 38) X hw sC0 nC0 rfl fl_X10_69 dX10_suffers_55 ?_
      refine lv_iload_n hx hb dX10_suffers_58 rfl (lv_at hl 0 rfl) ?_
      obtain ⟨v6, hq5, hf⟩ := bind_some hf
      refine wr_cNi (r := v6) (σ' := σ) (av := [.int v2]) (rest := [.int v2, .int x1, .ref (ad 38), .ref (ad 21)]) X hw hl.1 (isSt.s0 st_now) (isSt.n0 st_now) rfl (k_X6_aheadOf hI st_now hq5) rfl mn_X10_147 im_X6_aheadOf se_X6_aheadOf ini_X6 co_X6_aheadOf hd_X6_aheadOf ⟨Nat.le_of_ble_eq_true rfl, Nat.le_of_ble_eq_true rfl⟩ (Nat.le_of_ble_eq_true rfl) dX10_suffers_59 rfl (fun H locs hw => ?_)
      obtain ⟨v8, σ9, hq7, hf⟩ := bnd2_some hf
      refine wr_cNi (r := v8) (σ' := σ9) (av := [.ref (ad 38), .int x1, .int v2, .int v6]) (rest := []) X hw hl.1 sC21 nC21 rfl (k_X1_suffering hI st_now hq7) rfl mn_X10_150 im_X1_suffering se_X1_suffering ini_X1 co_X1_suffering hd_X1_suffering ⟨Nat.le_of_ble_eq_true rfl, Nat.le_of_ble_eq_true rfl⟩ (Nat.le_of_ble_eq_true rfl) dX10_suffers_62 rfl (fun H locs hw => ?_)
      have er := Option.some.inj hf
      subst er
      exact wr_iret X hw hr (Or.inl rfl) dX10_suffers_65
    have hf := (if_neg c4).symm.trans hf
    by_cases c10 : x2 = (1 : Int32)
    · have hf := (if_pos c10).symm.trans hf
      refine lv_lookup (tgt := 66) (off := 49) hx hb dX10_suffers_17 (by decide) (by rw [c10]; decide) (by decide) ?_
      refine lv_aload_n hx hb dX10_suffers_66 rfl (lv_at hl 1 rfl) ?_
      refine gX10_3 (b := 21) X hw sC0 nC0 rfl fl_X10_37 dX10_suffers_67 ?_
      refine lv_aload_n hx hb dX10_suffers_70 rfl (lv_at hl 1 rfl) ?_
      refine gX10_7 (b := 38) X hw sC0 nC0 rfl fl_X10_69 dX10_suffers_71 ?_
      refine lv_iload_n hx hb dX10_suffers_74 rfl (lv_at hl 2 rfl) ?_
      refine lv_iload_n hx hb dX10_suffers_75 rfl (lv_at hl 0 rfl) ?_
      refine lv_aload_n hx hb dX10_suffers_76 rfl (lv_at hl 1 rfl) ?_
      refine gX10_7 (b := 38) X hw sC0 nC0 rfl fl_X10_69 dX10_suffers_77 ?_
      refine lv_iload_n hx hb dX10_suffers_80 rfl (lv_at hl 0 rfl) ?_
      obtain ⟨v12, hq11, hf⟩ := bind_some hf
      refine wr_cNi (r := v12) (σ' := σ) (av := [.int v2]) (rest := [.int v2, .int x1, .ref (ad 38), .ref (ad 21)]) X hw hl.1 (isSt.s0 st_now) (isSt.n0 st_now) rfl (k_X6_aheadOf hI st_now hq11) rfl mn_X10_147 im_X6_aheadOf se_X6_aheadOf ini_X6 co_X6_aheadOf hd_X6_aheadOf ⟨Nat.le_of_ble_eq_true rfl, Nat.le_of_ble_eq_true rfl⟩ (Nat.le_of_ble_eq_true rfl) dX10_suffers_81 rfl (fun H locs hw => ?_)
      obtain ⟨v14, hq13, hf⟩ := bind_some hf
      refine wr_cNi (r := v14) (σ' := σ) (av := [.ref (ad 38), .int x1, .int v2, .int v12]) (rest := []) X hw hl.1 sC21 nC21 rfl (k_X1_kindOf hI st_now hq13) rfl mn_X10_154 im_X1_kindOf se_X1_kindOf ini_X1 co_X1_kindOf hd_X1_kindOf ⟨Nat.le_of_ble_eq_true rfl, Nat.le_of_ble_eq_true rfl⟩ (Nat.le_of_ble_eq_true rfl) dX10_suffers_84 rfl (fun H locs hw => ?_)
      have er := Option.some.inj hf
      subst er
      exact wr_iret X hw hr (Or.inl rfl) dX10_suffers_87
    have hf := (if_neg c10).symm.trans hf
    refine lv_lookup (tgt := 88) (off := 71) hx hb dX10_suffers_17 (by decide) (by simp only [Op.lookupswitch.offset]; rw [if_neg (lk_ne c4), if_neg (lk_ne c10)]) (by decide) ?_
    refine lv_iconst (v := -1) hx hb dX10_suffers_88 (by decide) ?_
    have er := Option.some.inj hf
    subst er
    exact wr_iret X hw hr (Or.inl rfl) dX10_suffers_89
  · have hf := (if_pos c3).symm.trans hf
    refine lv_iconst (v := -1) hx hb dX10_suffers_14 (by decide) ?_
    have er := Option.some.inj hf
    subst er
    exact wr_iret X hw hr (Or.inl rfl) dX10_suffers_15

def f_X10_tell (σ : St) (x1 : Int32) (x2 : Int32) (x3 : Int32) : Option (Int32 × St) := if x1 < 0 then (some ((-1 : Int32), σ)) else (if (7 : Int32) ≤ x1 then (some ((-1 : Int32), σ)) else (if x2 < 0 then (some ((-1 : Int32), σ)) else (if x2 ≤ (999 : Int32) then (bnd2 (f_X9_add σ x1 x2 x3) fun v6 σ7 => some (v6, σ7)) else (some ((-1 : Int32), σ)))))
theorem hd_X10_tell : yX10_tell.cls = RX10 ∧ yX10_tell.cls ≠ "java/lang/invoke/MethodHandle" ∧ yX10_tell.cls ≠ "java/lang/invoke/VarHandle" ∧ (parseMethodDescriptor yX10_tell.desc).map (fun d => d.parameters.length) = some 3 := by decide +kernel
set_option maxRecDepth 100000 in
set_option maxHeartbeats 4000000 in
theorem k_X10_tell {l : Launch} {ad : Nat → Nat} {D : va_G} {cy : Nat → ClassId} {z : wStr} (hI : wI WC ad) {σ : St} {x1 : Int32} {x2 : Int32} {x3 : Int32}  {res : Int32 × St} (hf : f_X10_tell σ x1 x2 x3 = some res) : wC WC ad D cy z l yX10_tell (Cond.code yX10_tell cX10_tell 4 (Option.some Jvm.ClassFile.FieldType.int) :: aw) (2) (123) [.ref (ad 0), .int x1, .int x2, .int x3] σ (wQi WC ad D cy res.1 res.2) := by
  unfold f_X10_tell at hf
  refine wr_start (own := RX10) hI (by decide +kernel) rfl (Nat.le_of_ble_eq_true rfl) rfl ?_
  intro p e s m below meth c ls X hw hr hl
  have hx := X.hx
  have hb := X.hb
  obtain ⟨H, eH⟩ : ∃ H : Heap, H = s.heap := ⟨_, rfl⟩
  obtain ⟨locs, el⟩ : ∃ locs : List Loc, locs = [] := ⟨_, rfl⟩
  rw [← eH, ← el] at hw ⊢
  clear eH el
  replace hl : lv_has ls 4 [(0, .ref (ad 0)), (1, .int x1), (2, .int x2), (3, .int x3)] := hl
  refine lv_iload_n hx hb dX10_tell_0 rfl (lv_at hl 1 rfl) ?_
  refine lv_if_lt (tgt := 21) hx hb dX10_tell_1 (by decide) (fun c1 => ?_) (fun c1 => ?_)
  · have hf := (if_pos c1).symm.trans hf
    refine lv_iconst (v := -1) hx hb dX10_tell_21 (by decide) ?_
    have er := Option.some.inj hf
    subst er
    exact wr_iret X hw hr (Or.inl rfl) dX10_tell_22
  · have hf := (if_neg c1).symm.trans hf
    refine lv_iload_n hx hb dX10_tell_4 rfl (lv_at hl 1 rfl) ?_
    refine lv_bipush (v := 7) hx hb dX10_tell_5 (by decide) ?_
    refine lv_icmp_ge (tgt := 21) hx hb dX10_tell_7 (by decide) (fun c2 => ?_) (fun c2 => ?_)
    · have hf := (if_pos c2).symm.trans hf
      refine lv_iconst (v := -1) hx hb dX10_tell_21 (by decide) ?_
      have er := Option.some.inj hf
      subst er
      exact wr_iret X hw hr (Or.inl rfl) dX10_tell_22
    · have hf := (if_neg c2).symm.trans hf
      refine lv_iload_n hx hb dX10_tell_10 rfl (lv_at hl 2 rfl) ?_
      refine lv_if_lt (tgt := 21) hx hb dX10_tell_11 (by decide) (fun c3 => ?_) (fun c3 => ?_)
      · have hf := (if_pos c3).symm.trans hf
        refine lv_iconst (v := -1) hx hb dX10_tell_21 (by decide) ?_
        have er := Option.some.inj hf
        subst er
        exact wr_iret X hw hr (Or.inl rfl) dX10_tell_22
      · have hf := (if_neg c3).symm.trans hf
        refine lv_iload_n hx hb dX10_tell_14 rfl (lv_at hl 2 rfl) ?_
        refine lv_sipush (v := 999) hx hb dX10_tell_15 (by decide) ?_
        refine lv_icmp_le (tgt := 23) hx hb dX10_tell_18 (by decide) (fun c4 => ?_) (fun c4 => ?_)
        · have hf := (if_pos c4).symm.trans hf
          refine lv_aload_n hx hb dX10_tell_23 rfl (lv_at hl 0 rfl) ?_
          refine gX10_6 (b := 31) X hw sC0 nC0 rfl fl_X10_62 dX10_tell_24 ?_
          refine lv_iload_n hx hb dX10_tell_27 rfl (lv_at hl 1 rfl) ?_
          refine lv_iload_n hx hb dX10_tell_28 rfl (lv_at hl 2 rfl) ?_
          refine lv_iload_n hx hb dX10_tell_29 rfl (lv_at hl 3 rfl) ?_
          obtain ⟨v6, σ7, hq5, hf⟩ := bnd2_some hf
          refine wr_cNi (r := v6) (σ' := σ7) (av := [.int x1, .int x2, .int x3]) (rest := []) X hw hl.1 sC31 nC31 rfl (k_X9_add hI hq5) rfl mn_X10_269 im_X9_add se_X9_add ini_X9 co_X9_add hd_X9_add ⟨Nat.le_of_ble_eq_true rfl, Nat.le_of_ble_eq_true rfl⟩ (Nat.le_of_ble_eq_true rfl) dX10_tell_30 rfl (fun H locs hw => ?_)
          have er := Option.some.inj hf
          subst er
          exact wr_iret X hw hr (Or.inl rfl) dX10_tell_33
        · have hf := (if_neg c4).symm.trans hf
          refine lv_iconst (v := -1) hx hb dX10_tell_21 (by decide) ?_
          have er := Option.some.inj hf
          subst er
          exact wr_iret X hw hr (Or.inl rfl) dX10_tell_22

def f_X10_tells (σ : St) (x1 : Int32) (x2 : Int32) (x3 : Int32) : Option (Int32 × St) := Option.bind (f_X8_has σ 4 x1) fun v2 => if v2 = 0 then (some ((-1 : Int32), σ)) else (if x2 < 0 then (some ((-1 : Int32), σ)) else (if (99 : Int32) < x2 then (some ((-1 : Int32), σ)) else (if x3 < 0 then (some ((-1 : Int32), σ)) else (if x3 ≤ (2 : Int32) then (Option.bind (f_X1_seatAsListed σ 38 x1) fun σ9 => bnd2 (f_X1_sentence σ9 x3 x2) fun v11 σ12 => some (v11, σ12)) else (some ((-1 : Int32), σ))))))
theorem hd_X10_tells : yX10_tells.cls = RX10 ∧ yX10_tells.cls ≠ "java/lang/invoke/MethodHandle" ∧ yX10_tells.cls ≠ "java/lang/invoke/VarHandle" ∧ (parseMethodDescriptor yX10_tells.desc).map (fun d => d.parameters.length) = some 3 := by decide +kernel
set_option maxRecDepth 100000 in
set_option maxHeartbeats 4000000 in
theorem k_X10_tells {l : Launch} {ad : Nat → Nat} {D : va_G} {cy : Nat → ClassId} {z : wStr} (hI : wI WC ad) {σ : St} {x1 : Int32} {x2 : Int32} {x3 : Int32}  {res : Int32 × St} (hf : f_X10_tells σ x1 x2 x3 = some res) : wC WC ad D cy z l yX10_tells (Cond.code yX10_tells cX10_tells 4 (Option.some Jvm.ClassFile.FieldType.int) :: aw) (4) (173) [.ref (ad 0), .int x1, .int x2, .int x3] σ (wQi WC ad D cy res.1 res.2) := by
  unfold f_X10_tells at hf
  refine wr_start (own := RX10) hI (by decide +kernel) rfl (Nat.le_of_ble_eq_true rfl) rfl ?_
  intro p e s m below meth c ls X hw hr hl
  have hx := X.hx
  have hb := X.hb
  obtain ⟨H, eH⟩ : ∃ H : Heap, H = s.heap := ⟨_, rfl⟩
  obtain ⟨locs, el⟩ : ∃ locs : List Loc, locs = [] := ⟨_, rfl⟩
  rw [← eH, ← el] at hw ⊢
  clear eH el
  replace hl : lv_has ls 4 [(0, .ref (ad 0)), (1, .int x1), (2, .int x2), (3, .int x3)] := hl
  refine lv_aload_n hx hb dX10_tells_0 rfl (lv_at hl 0 rfl) ?_
  refine gX10_1 (b := 4) X hw sC0 nC0 rfl fl_X10_19 dX10_tells_1 ?_
  refine lv_iload_n hx hb dX10_tells_4 rfl (lv_at hl 1 rfl) ?_
  obtain ⟨v2, hq1, hf⟩ := bind_some hf
  refine wr_cNi (r := v2) (σ' := σ) (av := [.int x1]) (rest := []) X hw hl.1 sC4 nC4 rfl (k_X8_has hI tx_1 hq1) rfl mn_X10_116 im_X8_has se_X8_has ini_X8 co_X8_has hd_X8_has ⟨Nat.le_of_ble_eq_true rfl, Nat.le_of_ble_eq_true rfl⟩ (Nat.le_of_ble_eq_true rfl) dX10_tells_5 rfl (fun H locs hw => ?_)
  refine lv_if_eq (tgt := 30) hx hb dX10_tells_8 (by decide) (fun c3 => ?_) (fun c3 => ?_)
  · have hf := (if_pos c3).symm.trans hf
    refine lv_iconst (v := -1) hx hb dX10_tells_30 (by decide) ?_
    have er := Option.some.inj hf
    subst er
    exact wr_iret X hw hr (Or.inl rfl) dX10_tells_31
  · have hf := (if_neg c3).symm.trans hf
    refine lv_iload_n hx hb dX10_tells_11 rfl (lv_at hl 2 rfl) ?_
    refine lv_if_lt (tgt := 30) hx hb dX10_tells_12 (by decide) (fun c4 => ?_) (fun c4 => ?_)
    · have hf := (if_pos c4).symm.trans hf
      refine lv_iconst (v := -1) hx hb dX10_tells_30 (by decide) ?_
      have er := Option.some.inj hf
      subst er
      exact wr_iret X hw hr (Or.inl rfl) dX10_tells_31
    · have hf := (if_neg c4).symm.trans hf
      refine lv_iload_n hx hb dX10_tells_15 rfl (lv_at hl 2 rfl) ?_
      refine lv_bipush (v := 99) hx hb dX10_tells_16 (by decide) ?_
      refine lv_icmp_gt (tgt := 30) hx hb dX10_tells_18 (by decide) (fun c5 => ?_) (fun c5 => ?_)
      · have hf := (if_pos c5).symm.trans hf
        refine lv_iconst (v := -1) hx hb dX10_tells_30 (by decide) ?_
        have er := Option.some.inj hf
        subst er
        exact wr_iret X hw hr (Or.inl rfl) dX10_tells_31
      · have hf := (if_neg c5).symm.trans hf
        refine lv_iload_n hx hb dX10_tells_21 rfl (lv_at hl 3 rfl) ?_
        refine lv_if_lt (tgt := 30) hx hb dX10_tells_22 (by decide) (fun c6 => ?_) (fun c6 => ?_)
        · have hf := (if_pos c6).symm.trans hf
          refine lv_iconst (v := -1) hx hb dX10_tells_30 (by decide) ?_
          have er := Option.some.inj hf
          subst er
          exact wr_iret X hw hr (Or.inl rfl) dX10_tells_31
        · have hf := (if_neg c6).symm.trans hf
          refine lv_iload_n hx hb dX10_tells_25 rfl (lv_at hl 3 rfl) ?_
          refine lv_iconst (v := 2) hx hb dX10_tells_26 (by decide) ?_
          refine lv_icmp_le (tgt := 32) hx hb dX10_tells_27 (by decide) (fun c7 => ?_) (fun c7 => ?_)
          · have hf := (if_pos c7).symm.trans hf
            refine lv_aload_n hx hb dX10_tells_32 rfl (lv_at hl 0 rfl) ?_
            refine gX10_3 (b := 21) X hw sC0 nC0 rfl fl_X10_37 dX10_tells_33 ?_
            refine lv_aload_n hx hb dX10_tells_36 rfl (lv_at hl 0 rfl) ?_
            refine gX10_7 (b := 38) X hw sC0 nC0 rfl fl_X10_69 dX10_tells_37 ?_
            refine lv_iload_n hx hb dX10_tells_40 rfl (lv_at hl 1 rfl) ?_
            obtain ⟨σ9, hq8, hf⟩ := bind_some hf
            refine wr_cNv (σ' := σ9) (av := [.ref (ad 38), .int x1]) (rest := []) X hw hl.1 sC21 nC21 rfl (k_X1_seatAsListed hI st_now hq8) rfl mn_X10_157 im_X1_seatAsListed se_X1_seatAsListed ini_X1 co_X1_seatAsListed hd_X1_seatAsListed ⟨Nat.le_of_ble_eq_true rfl, Nat.le_of_ble_eq_true rfl⟩ (Nat.le_of_ble_eq_true rfl) dX10_tells_41 rfl (fun H locs hw => ?_)
            refine lv_aload_n hx hb dX10_tells_44 rfl (lv_at hl 0 rfl) ?_
            refine gX10_3 (b := 21) X hw sC0 nC0 rfl fl_X10_37 dX10_tells_45 ?_
            refine lv_iload_n hx hb dX10_tells_48 rfl (lv_at hl 3 rfl) ?_
            refine lv_iload_n hx hb dX10_tells_49 rfl (lv_at hl 2 rfl) ?_
            obtain ⟨v11, σ12, hq10, hf⟩ := bnd2_some hf
            refine wr_cNi (r := v11) (σ' := σ12) (av := [.int x3, .int x2]) (rest := []) X hw hl.1 sC21 nC21 rfl (k_X1_sentence hI hq10) rfl mn_X10_161 im_X1_sentence se_X1_sentence ini_X1 co_X1_sentence hd_X1_sentence ⟨Nat.le_of_ble_eq_true rfl, Nat.le_of_ble_eq_true rfl⟩ (Nat.le_of_ble_eq_true rfl) dX10_tells_50 rfl (fun H locs hw => ?_)
            have er := Option.some.inj hf
            subst er
            exact wr_iret X hw hr (Or.inl rfl) dX10_tells_53
          · have hf := (if_neg c7).symm.trans hf
            refine lv_iconst (v := -1) hx hb dX10_tells_30 (by decide) ?_
            have er := Option.some.inj hf
            subst er
            exact wr_iret X hw hr (Or.inl rfl) dX10_tells_31

def f_X10_then (σ : St) (x1 : Int32) (x2 : Int32) : Option (Int32 × St) := Option.bind (f_X8_has σ 4 x1) fun v2 => if v2 = 0 then (some ((-1 : Int32), σ)) else (if x2 < 0 then (some ((-1 : Int32), σ)) else (if x2 ≤ (40 : Int32) then (Option.bind (f_X3_inSessions σ 38 x2) fun σ7 => if ib x1 7 = true then some ((σ7.1 45 (Int32.toNatClampNeg x1)), σ7) else none) else (some ((-1 : Int32), σ))))
theorem hd_X10_then : yX10_then.cls = RX10 ∧ yX10_then.cls ≠ "java/lang/invoke/MethodHandle" ∧ yX10_then.cls ≠ "java/lang/invoke/VarHandle" ∧ (parseMethodDescriptor yX10_then.desc).map (fun d => d.parameters.length) = some 2 := by decide +kernel
set_option maxRecDepth 100000 in
set_option maxHeartbeats 4000000 in
theorem k_X10_then {l : Launch} {ad : Nat → Nat} {D : va_G} {cy : Nat → ClassId} {z : wStr} (hI : wI WC ad) {σ : St} {x1 : Int32} {x2 : Int32}  {res : Int32 × St} (hf : f_X10_then σ x1 x2 = some res) : wC WC ad D cy z l yX10_then (Cond.code yX10_then cX10_then 3 (Option.some Jvm.ClassFile.FieldType.int) :: aw) (8) (271) [.ref (ad 0), .int x1, .int x2] σ (wQi WC ad D cy res.1 res.2) := by
  unfold f_X10_then at hf
  refine wr_start (own := RX10) hI (by decide +kernel) rfl (Nat.le_of_ble_eq_true rfl) rfl ?_
  intro p e s m below meth c ls X hw hr hl
  have hx := X.hx
  have hb := X.hb
  obtain ⟨H, eH⟩ : ∃ H : Heap, H = s.heap := ⟨_, rfl⟩
  obtain ⟨locs, el⟩ : ∃ locs : List Loc, locs = [] := ⟨_, rfl⟩
  rw [← eH, ← el] at hw ⊢
  clear eH el
  replace hl : lv_has ls 3 [(0, .ref (ad 0)), (1, .int x1), (2, .int x2)] := hl
  refine lv_aload_n hx hb dX10_then_0 rfl (lv_at hl 0 rfl) ?_
  refine gX10_1 (b := 4) X hw sC0 nC0 rfl fl_X10_19 dX10_then_1 ?_
  refine lv_iload_n hx hb dX10_then_4 rfl (lv_at hl 1 rfl) ?_
  obtain ⟨v2, hq1, hf⟩ := bind_some hf
  refine wr_cNi (r := v2) (σ' := σ) (av := [.int x1]) (rest := []) X hw hl.1 sC4 nC4 rfl (k_X8_has hI tx_1 hq1) rfl mn_X10_116 im_X8_has se_X8_has ini_X8 co_X8_has hd_X8_has ⟨Nat.le_of_ble_eq_true rfl, Nat.le_of_ble_eq_true rfl⟩ (Nat.le_of_ble_eq_true rfl) dX10_then_5 rfl (fun H locs hw => ?_)
  refine lv_if_eq (tgt := 21) hx hb dX10_then_8 (by decide) (fun c3 => ?_) (fun c3 => ?_)
  · have hf := (if_pos c3).symm.trans hf
    refine lv_iconst (v := -1) hx hb dX10_then_21 (by decide) ?_
    have er := Option.some.inj hf
    subst er
    exact wr_iret X hw hr (Or.inl rfl) dX10_then_22
  · have hf := (if_neg c3).symm.trans hf
    refine lv_iload_n hx hb dX10_then_11 rfl (lv_at hl 2 rfl) ?_
    refine lv_if_lt (tgt := 21) hx hb dX10_then_12 (by decide) (fun c4 => ?_) (fun c4 => ?_)
    · have hf := (if_pos c4).symm.trans hf
      refine lv_iconst (v := -1) hx hb dX10_then_21 (by decide) ?_
      have er := Option.some.inj hf
      subst er
      exact wr_iret X hw hr (Or.inl rfl) dX10_then_22
    · have hf := (if_neg c4).symm.trans hf
      refine lv_iload_n hx hb dX10_then_15 rfl (lv_at hl 2 rfl) ?_
      refine lv_bipush (v := 40) hx hb dX10_then_16 (by decide) ?_
      refine lv_icmp_le (tgt := 23) hx hb dX10_then_18 (by decide) (fun c5 => ?_) (fun c5 => ?_)
      · have hf := (if_pos c5).symm.trans hf
        refine lv_aload_n hx hb dX10_then_23 rfl (lv_at hl 0 rfl) ?_
        refine gX10_5 (b := 30) X hw sC0 nC0 rfl fl_X10_55 dX10_then_24 ?_
        refine lv_aload_n hx hb dX10_then_27 rfl (lv_at hl 0 rfl) ?_
        refine gX10_7 (b := 38) X hw sC0 nC0 rfl fl_X10_69 dX10_then_28 ?_
        refine lv_iload_n hx hb dX10_then_31 rfl (lv_at hl 2 rfl) ?_
        obtain ⟨σ7, hq6, hf⟩ := bind_some hf
        refine wr_cNr (σ' := σ7) (r := 42) (av := [.ref (ad 38), .int x2]) (rest := []) X hw hl.1 sC30 nC30 rfl (k_X3_inSessions hI st_now hq6) rfl mn_X10_259 im_X3_inSessions se_X3_inSessions ini_X3 co_X3_inSessions hd_X3_inSessions ⟨Nat.le_of_ble_eq_true rfl, Nat.le_of_ble_eq_true rfl⟩ (Nat.le_of_ble_eq_true rfl) dX10_then_32 rfl (fun H locs hw => ?_)
        refine gnX6_2 (b := 45) X hw (isSt.s0 st_trial) (isSt.n0 st_trial) rfl fn_X10_134 dX10_then_35 ?_
        refine lv_iload_n hx hb dX10_then_38 rfl (lv_at hl 1 rfl) ?_
        obtain ⟨h8, hf⟩ := if_some hf
        refine wr_iald X hw (isSt.s3 st_trial) (isSt.n3 st_trial) h8 dX10_then_39 ?_
        have er := Option.some.inj hf
        subst er
        exact wr_iret X hw hr (Or.inl rfl) dX10_then_40
      · have hf := (if_neg c5).symm.trans hf
        refine lv_iconst (v := -1) hx hb dX10_then_21 (by decide) ?_
        have er := Option.some.inj hf
        subst er
        exact wr_iret X hw hr (Or.inl rfl) dX10_then_22

def f_X10_traders (σ : St) (x1 : Int32) : Option (Int32 × St) := Option.bind (f_X6_isListed σ 38 x1) fun v2 => if v2 = 0 then (some ((-1 : Int32), σ)) else (Option.bind (f_X2_layAsListed σ 38) fun σ5 => bnd2 (f_X2_tradersOf σ5 x1) fun v7 σ8 => some (v7, σ8))
theorem hd_X10_traders : yX10_traders.cls = RX10 ∧ yX10_traders.cls ≠ "java/lang/invoke/MethodHandle" ∧ yX10_traders.cls ≠ "java/lang/invoke/VarHandle" ∧ (parseMethodDescriptor yX10_traders.desc).map (fun d => d.parameters.length) = some 1 := by decide +kernel
set_option maxRecDepth 100000 in
set_option maxHeartbeats 4000000 in
theorem k_X10_traders {l : Launch} {ad : Nat → Nat} {D : va_G} {cy : Nat → ClassId} {z : wStr} (hI : wI WC ad) {σ : St} {x1 : Int32}  {res : Int32 × St} (hf : f_X10_traders σ x1 = some res) : wC WC ad D cy z l yX10_traders (Cond.code yX10_traders cX10_traders 2 (Option.some Jvm.ClassFile.FieldType.int) :: aw) (7) (248) [.ref (ad 0), .int x1] σ (wQi WC ad D cy res.1 res.2) := by
  unfold f_X10_traders at hf
  refine wr_start (own := RX10) hI (by decide +kernel) rfl (Nat.le_of_ble_eq_true rfl) rfl ?_
  intro p e s m below meth c ls X hw hr hl
  have hx := X.hx
  have hb := X.hb
  obtain ⟨H, eH⟩ : ∃ H : Heap, H = s.heap := ⟨_, rfl⟩
  obtain ⟨locs, el⟩ : ∃ locs : List Loc, locs = [] := ⟨_, rfl⟩
  rw [← eH, ← el] at hw ⊢
  clear eH el
  replace hl : lv_has ls 2 [(0, .ref (ad 0)), (1, .int x1)] := hl
  refine lv_aload_n hx hb dX10_traders_0 rfl (lv_at hl 0 rfl) ?_
  refine gX10_7 (b := 38) X hw sC0 nC0 rfl fl_X10_69 dX10_traders_1 ?_
  refine lv_iload_n hx hb dX10_traders_4 rfl (lv_at hl 1 rfl) ?_
  obtain ⟨v2, hq1, hf⟩ := bind_some hf
  refine wr_cNi (r := v2) (σ' := σ) (av := [.int x1]) (rest := []) X hw hl.1 (isSt.s0 st_now) (isSt.n0 st_now) rfl (k_X6_isListed hI st_now hq1) rfl mn_X10_127 im_X6_isListed se_X6_isListed ini_X6 co_X6_isListed hd_X6_isListed ⟨Nat.le_of_ble_eq_true rfl, Nat.le_of_ble_eq_true rfl⟩ (Nat.le_of_ble_eq_true rfl) dX10_traders_5 rfl (fun H locs hw => ?_)
  refine lv_if_ne (tgt := 13) hx hb dX10_traders_8 (by decide) (fun c3 => ?_) (fun c3 => ?_)
  · have hf := (if_neg c3).symm.trans hf
    refine lv_aload_n hx hb dX10_traders_13 rfl (lv_at hl 0 rfl) ?_
    refine gX10_4 (b := 25) X hw sC0 nC0 rfl fl_X10_46 dX10_traders_14 ?_
    refine lv_aload_n hx hb dX10_traders_17 rfl (lv_at hl 0 rfl) ?_
    refine gX10_7 (b := 38) X hw sC0 nC0 rfl fl_X10_69 dX10_traders_18 ?_
    obtain ⟨σ5, hq4, hf⟩ := bind_some hf
    refine wr_cNv (σ' := σ5) (av := [.ref (ad 38)]) (rest := []) X hw hl.1 sC25 nC25 rfl (k_X2_layAsListed hI st_now hq4) rfl mn_X10_226 im_X2_layAsListed se_X2_layAsListed ini_X2 co_X2_layAsListed hd_X2_layAsListed ⟨Nat.le_of_ble_eq_true rfl, Nat.le_of_ble_eq_true rfl⟩ (Nat.le_of_ble_eq_true rfl) dX10_traders_21 rfl (fun H locs hw => ?_)
    refine lv_aload_n hx hb dX10_traders_24 rfl (lv_at hl 0 rfl) ?_
    refine gX10_4 (b := 25) X hw sC0 nC0 rfl fl_X10_46 dX10_traders_25 ?_
    refine lv_iload_n hx hb dX10_traders_28 rfl (lv_at hl 1 rfl) ?_
    obtain ⟨v7, σ8, hq6, hf⟩ := bnd2_some hf
    refine wr_cNi (r := v7) (σ' := σ8) (av := [.int x1]) (rest := []) X hw hl.1 sC25 nC25 rfl (k_X2_tradersOf hI hq6) rfl mn_X10_229 im_X2_tradersOf se_X2_tradersOf ini_X2 co_X2_tradersOf hd_X2_tradersOf ⟨Nat.le_of_ble_eq_true rfl, Nat.le_of_ble_eq_true rfl⟩ (Nat.le_of_ble_eq_true rfl) dX10_traders_29 rfl (fun H locs hw => ?_)
    have er := Option.some.inj hf
    subst er
    exact wr_iret X hw hr (Or.inl rfl) dX10_traders_32
  · have hf := (if_pos c3).symm.trans hf
    refine lv_iconst (v := -1) hx hb dX10_traders_11 (by decide) ?_
    have er := Option.some.inj hf
    subst er
    exact wr_iret X hw hr (Or.inl rfl) dX10_traders_12

def f_X10_undo (σ : St)  : Option (Int32 × St) := bnd2 (f_X0_takeBack σ 38) fun v2 σ3 => if bz v2 = true then some (v2, σ3) else none
theorem hd_X10_undo : yX10_undo.cls = RX10 ∧ yX10_undo.cls ≠ "java/lang/invoke/MethodHandle" ∧ yX10_undo.cls ≠ "java/lang/invoke/VarHandle" ∧ (parseMethodDescriptor yX10_undo.desc).map (fun d => d.parameters.length) = some 0 := by decide +kernel
set_option maxRecDepth 100000 in
set_option maxHeartbeats 4000000 in
theorem k_X10_undo {l : Launch} {ad : Nat → Nat} {D : va_G} {cy : Nat → ClassId} {z : wStr} (hI : wI WC ad) {σ : St}   {res : Int32 × St} (hf : f_X10_undo σ  = some res) : wC WC ad D cy z l yX10_undo (Cond.code yX10_undo cX10_undo 1 (Option.some Jvm.ClassFile.FieldType.boolean) :: aw) (3) (143) [.ref (ad 0)] σ (wQi WC ad D cy res.1 res.2) := by
  unfold f_X10_undo at hf
  refine wr_start (own := RX10) hI (by decide +kernel) rfl (Nat.le_of_ble_eq_true rfl) rfl ?_
  intro p e s m below meth c ls X hw hr hl
  have hx := X.hx
  have hb := X.hb
  obtain ⟨H, eH⟩ : ∃ H : Heap, H = s.heap := ⟨_, rfl⟩
  obtain ⟨locs, el⟩ : ∃ locs : List Loc, locs = [] := ⟨_, rfl⟩
  rw [← eH, ← el] at hw ⊢
  clear eH el
  replace hl : lv_has ls 1 [(0, .ref (ad 0))] := hl
  refine lv_aload_n hx hb dX10_undo_0 rfl (lv_at hl 0 rfl) ?_
  refine gX10_8 (b := 36) X hw sC0 nC0 rfl fl_X10_76 dX10_undo_1 ?_
  refine lv_aload_n hx hb dX10_undo_4 rfl (lv_at hl 0 rfl) ?_
  refine gX10_7 (b := 38) X hw sC0 nC0 rfl fl_X10_69 dX10_undo_5 ?_
  obtain ⟨v2, σ3, hq1, hf⟩ := bnd2_some hf
  refine wr_cNi (r := v2) (σ' := σ3) (av := [.ref (ad 38)]) (rest := []) X hw hl.1 sC36 nC36 rfl (k_X0_takeBack hI st_now hq1) rfl mn_X10_204 im_X0_takeBack se_X0_takeBack ini_X0 co_X0_takeBack hd_X0_takeBack ⟨Nat.le_of_ble_eq_true rfl, Nat.le_of_ble_eq_true rfl⟩ (Nat.le_of_ble_eq_true rfl) dX10_undo_8 rfl (fun H locs hw => ?_)
  obtain ⟨hz, hf⟩ := if_some hf
  have er := Option.some.inj hf
  subst er
  exact wr_iret X hw hr (Or.inr ⟨rfl, hz⟩) dX10_undo_11

def f_X10_year (σ : St) (x1 : Int32) (x2 : Int32) (x3 : Int32) : Option (Int32 × St) := Option.bind (f_X8_has σ 4 x1) fun v2 => if v2 = 0 then (some ((-1 : Int32), σ)) else (if x2 < 0 then (some ((-1 : Int32), σ)) else (if (40 : Int32) < x2 then (some ((-1 : Int32), σ)) else (if x3 < (1 : Int32) then (some ((-1 : Int32), σ)) else (if x3 ≤ (20 : Int32) then (bnd2 (f_X3_seedsThatKeep σ 38 x1 x2 x3) fun v9 σ10 => some (v9, σ10)) else (some ((-1 : Int32), σ))))))
theorem hd_X10_year : yX10_year.cls = RX10 ∧ yX10_year.cls ≠ "java/lang/invoke/MethodHandle" ∧ yX10_year.cls ≠ "java/lang/invoke/VarHandle" ∧ (parseMethodDescriptor yX10_year.desc).map (fun d => d.parameters.length) = some 3 := by decide +kernel
set_option maxRecDepth 100000 in
set_option maxHeartbeats 4000000 in
theorem k_X10_year {l : Launch} {ad : Nat → Nat} {D : va_G} {cy : Nat → ClassId} {z : wStr} (hI : wI WC ad) {σ : St} {x1 : Int32} {x2 : Int32} {x3 : Int32}  {res : Int32 × St} (hf : f_X10_year σ x1 x2 x3 = some res) : wC WC ad D cy z l yX10_year (Cond.code yX10_year cX10_year 4 (Option.some Jvm.ClassFile.FieldType.int) :: aw) (8) (275) [.ref (ad 0), .int x1, .int x2, .int x3] σ (wQi WC ad D cy res.1 res.2) := by
  unfold f_X10_year at hf
  refine wr_start (own := RX10) hI (by decide +kernel) rfl (Nat.le_of_ble_eq_true rfl) rfl ?_
  intro p e s m below meth c ls X hw hr hl
  have hx := X.hx
  have hb := X.hb
  obtain ⟨H, eH⟩ : ∃ H : Heap, H = s.heap := ⟨_, rfl⟩
  obtain ⟨locs, el⟩ : ∃ locs : List Loc, locs = [] := ⟨_, rfl⟩
  rw [← eH, ← el] at hw ⊢
  clear eH el
  replace hl : lv_has ls 4 [(0, .ref (ad 0)), (1, .int x1), (2, .int x2), (3, .int x3)] := hl
  refine lv_aload_n hx hb dX10_year_0 rfl (lv_at hl 0 rfl) ?_
  refine gX10_1 (b := 4) X hw sC0 nC0 rfl fl_X10_19 dX10_year_1 ?_
  refine lv_iload_n hx hb dX10_year_4 rfl (lv_at hl 1 rfl) ?_
  obtain ⟨v2, hq1, hf⟩ := bind_some hf
  refine wr_cNi (r := v2) (σ' := σ) (av := [.int x1]) (rest := []) X hw hl.1 sC4 nC4 rfl (k_X8_has hI tx_1 hq1) rfl mn_X10_116 im_X8_has se_X8_has ini_X8 co_X8_has hd_X8_has ⟨Nat.le_of_ble_eq_true rfl, Nat.le_of_ble_eq_true rfl⟩ (Nat.le_of_ble_eq_true rfl) dX10_year_5 rfl (fun H locs hw => ?_)
  refine lv_if_eq (tgt := 32) hx hb dX10_year_8 (by decide) (fun c3 => ?_) (fun c3 => ?_)
  · have hf := (if_pos c3).symm.trans hf
    refine lv_iconst (v := -1) hx hb dX10_year_32 (by decide) ?_
    have er := Option.some.inj hf
    subst er
    exact wr_iret X hw hr (Or.inl rfl) dX10_year_33
  · have hf := (if_neg c3).symm.trans hf
    refine lv_iload_n hx hb dX10_year_11 rfl (lv_at hl 2 rfl) ?_
    refine lv_if_lt (tgt := 32) hx hb dX10_year_12 (by decide) (fun c4 => ?_) (fun c4 => ?_)
    · have hf := (if_pos c4).symm.trans hf
      refine lv_iconst (v := -1) hx hb dX10_year_32 (by decide) ?_
      have er := Option.some.inj hf
      subst er
      exact wr_iret X hw hr (Or.inl rfl) dX10_year_33
    · have hf := (if_neg c4).symm.trans hf
      refine lv_iload_n hx hb dX10_year_15 rfl (lv_at hl 2 rfl) ?_
      refine lv_bipush (v := 40) hx hb dX10_year_16 (by decide) ?_
      refine lv_icmp_gt (tgt := 32) hx hb dX10_year_18 (by decide) (fun c5 => ?_) (fun c5 => ?_)
      · have hf := (if_pos c5).symm.trans hf
        refine lv_iconst (v := -1) hx hb dX10_year_32 (by decide) ?_
        have er := Option.some.inj hf
        subst er
        exact wr_iret X hw hr (Or.inl rfl) dX10_year_33
      · have hf := (if_neg c5).symm.trans hf
        refine lv_iload_n hx hb dX10_year_21 rfl (lv_at hl 3 rfl) ?_
        refine lv_iconst (v := 1) hx hb dX10_year_22 (by decide) ?_
        refine lv_icmp_lt (tgt := 32) hx hb dX10_year_23 (by decide) (fun c6 => ?_) (fun c6 => ?_)
        · have hf := (if_pos c6).symm.trans hf
          refine lv_iconst (v := -1) hx hb dX10_year_32 (by decide) ?_
          have er := Option.some.inj hf
          subst er
          exact wr_iret X hw hr (Or.inl rfl) dX10_year_33
        · have hf := (if_neg c6).symm.trans hf
          refine lv_iload_n hx hb dX10_year_26 rfl (lv_at hl 3 rfl) ?_
          refine lv_bipush (v := 20) hx hb dX10_year_27 (by decide) ?_
          refine lv_icmp_le (tgt := 34) hx hb dX10_year_29 (by decide) (fun c7 => ?_) (fun c7 => ?_)
          · have hf := (if_pos c7).symm.trans hf
            refine lv_aload_n hx hb dX10_year_34 rfl (lv_at hl 0 rfl) ?_
            refine gX10_5 (b := 30) X hw sC0 nC0 rfl fl_X10_55 dX10_year_35 ?_
            refine lv_aload_n hx hb dX10_year_38 rfl (lv_at hl 0 rfl) ?_
            refine gX10_7 (b := 38) X hw sC0 nC0 rfl fl_X10_69 dX10_year_39 ?_
            refine lv_iload_n hx hb dX10_year_42 rfl (lv_at hl 1 rfl) ?_
            refine lv_iload_n hx hb dX10_year_43 rfl (lv_at hl 2 rfl) ?_
            refine lv_iload_n hx hb dX10_year_44 rfl (lv_at hl 3 rfl) ?_
            obtain ⟨v9, σ10, hq8, hf⟩ := bnd2_some hf
            refine wr_cNi (r := v9) (σ' := σ10) (av := [.ref (ad 38), .int x1, .int x2, .int x3]) (rest := []) X hw hl.1 sC30 nC30 rfl (k_X3_seedsThatKeep hI st_now hq8) rfl mn_X10_266 im_X3_seedsThatKeep se_X3_seedsThatKeep ini_X3 co_X3_seedsThatKeep hd_X3_seedsThatKeep ⟨Nat.le_of_ble_eq_true rfl, Nat.le_of_ble_eq_true rfl⟩ (Nat.le_of_ble_eq_true rfl) dX10_year_45 rfl (fun H locs hw => ?_)
            have er := Option.some.inj hf
            subst er
            exact wr_iret X hw hr (Or.inl rfl) dX10_year_48
          · have hf := (if_neg c7).symm.trans hf
            refine lv_iconst (v := -1) hx hb dX10_year_32 (by decide) ?_
            have er := Option.some.inj hf
            subst er
            exact wr_iret X hw hr (Or.inl rfl) dX10_year_33
