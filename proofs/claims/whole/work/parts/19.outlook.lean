def f_X3_isBuyer (σ : St) (o1 : Nat) (x2 : Int32) : Option (Int32 × St) := Option.bind (f_X6_docketAt σ o1 x2) fun v2 => Option.bind (f_X6_aheadOf σ o1 x2) fun v4 => Option.bind (f_X1_seat σ o1 v2 x2 v4) fun σ6 => Option.bind (f_X8_deedOf σ6 4 v4) fun v8 => bnd2 (f_X1_sentence σ6 (2 : Int32) v8) fun v10 σ11 => Option.bind (f_X6_copyFrom σ11 42 o1) fun σ13 => Option.bind (f_X6_letPlead σ13 42 v4) fun σ15 => bnd2 (f_X1_sufferingAt σ15 o1 x2) fun v17 σ18 => bnd2 (f_X1_sufferingAt σ18 42 x2) fun v20 σ21 => wlet (v17 - v20) fun v22 => if v22 ≤ v10 then (some ((0 : Int32), σ21)) else (Option.bind (f_X8_has σ21 4 v2) fun v25 => if v25 = 0 then (some ((0 : Int32), σ21)) else (if ib v2 7 = true then if (σ21.1 (o1 + 2) (Int32.toNatClampNeg v2)) < v10 then (some ((0 : Int32), σ21)) else (some ((1 : Int32), σ21)) else none))
theorem hd_X3_isBuyer : yX3_isBuyer.cls = RX3 ∧ yX3_isBuyer.cls ≠ "java/lang/invoke/MethodHandle" ∧ yX3_isBuyer.cls ≠ "java/lang/invoke/VarHandle" ∧ (parseMethodDescriptor yX3_isBuyer.desc).map (fun d => d.parameters.length) = some 2 := by decide +kernel
set_option maxRecDepth 100000 in
set_option maxHeartbeats 4000000 in
theorem k_X3_isBuyer {l : Launch} {ad : Nat → Nat} {D : va_G} {cy : Nat → ClassId} {z : wStr} (hI : wI WC ad) {σ : St} {o1 : Nat} {x2 : Int32} (ho1 : isSt o1) {res : Int32 × St} (hf : f_X3_isBuyer σ o1 x2 = some res) : wC WC ad D cy z l yX3_isBuyer (Cond.code yX3_isBuyer cX3_isBuyer 7 (Option.some Jvm.ClassFile.FieldType.boolean) :: aw) (6) (221) [.ref (ad 30), .ref (ad o1), .int x2] σ (wQi WC ad D cy res.1 res.2) := by
  unfold f_X3_isBuyer at hf
  refine wr_start (own := RX3) hI (by decide +kernel) rfl (Nat.le_of_ble_eq_true rfl) rfl ?_
  intro p e s m below meth c ls X hw hr hl
  have hx := X.hx
  have hb := X.hb
  obtain ⟨H, eH⟩ : ∃ H : Heap, H = s.heap := ⟨_, rfl⟩
  obtain ⟨locs, el⟩ : ∃ locs : List Loc, locs = [] := ⟨_, rfl⟩
  rw [← eH, ← el] at hw ⊢
  clear eH el
  replace hl : lv_has ls 7 [(0, .ref (ad 30)), (1, .ref (ad o1)), (2, .int x2)] := hl
  refine lv_aload_n hx hb dX3_isBuyer_0 rfl (lv_at hl 1 rfl) ?_
  refine lv_iload_n hx hb dX3_isBuyer_1 rfl (lv_at hl 2 rfl) ?_
  obtain ⟨v2, hq1, hf⟩ := bind_some hf
  refine wr_cNi (r := v2) (σ' := σ) (av := [.int x2]) (rest := []) X hw hl.1 (isSt.s0 ho1) (isSt.n0 ho1) rfl (k_X6_docketAt hI ho1 hq1) rfl mn_X3_58 im_X6_docketAt se_X6_docketAt ini_X6 co_X6_docketAt hd_X6_docketAt ⟨Nat.le_of_ble_eq_true rfl, Nat.le_of_ble_eq_true rfl⟩ (Nat.le_of_ble_eq_true rfl) dX3_isBuyer_2 rfl (fun H locs hw => ?_)
  refine lv_istore_n (lv' := [(3, .int v2), (0, .ref (ad 30)), (1, .ref (ad o1)), (2, .int x2)]) hx hb dX3_isBuyer_5 rfl hl (by decide) rfl (fun ls hl => ?_)
  refine lv_aload_n hx hb dX3_isBuyer_6 rfl (lv_at hl 2 rfl) ?_
  refine lv_iload_n hx hb dX3_isBuyer_7 rfl (lv_at hl 3 rfl) ?_
  obtain ⟨v4, hq3, hf⟩ := bind_some hf
  refine wr_cNi (r := v4) (σ' := σ) (av := [.int x2]) (rest := []) X hw hl.1 (isSt.s0 ho1) (isSt.n0 ho1) rfl (k_X6_aheadOf hI ho1 hq3) rfl mn_X3_62 im_X6_aheadOf se_X6_aheadOf ini_X6 co_X6_aheadOf hd_X6_aheadOf ⟨Nat.le_of_ble_eq_true rfl, Nat.le_of_ble_eq_true rfl⟩ (Nat.le_of_ble_eq_true rfl) dX3_isBuyer_8 rfl (fun H locs hw => ?_)
  refine lv_istore (lv' := [(4, .int v4), (3, .int v2), (0, .ref (ad 30)), (1, .ref (ad o1)), (2, .int x2)]) hx hb dX3_isBuyer_11 hl (by decide) rfl (fun ls hl => ?_)
  refine lv_aload_n hx hb dX3_isBuyer_13 rfl (lv_at hl 2 rfl) ?_
  refine gX3_1 (b := 21) X hw sC30 nC30 rfl fl_X3_22 dX3_isBuyer_14 ?_
  refine lv_aload_n hx hb dX3_isBuyer_17 rfl (lv_at hl 3 rfl) ?_
  refine lv_iload_n hx hb dX3_isBuyer_18 rfl (lv_at hl 1 rfl) ?_
  refine lv_iload_n hx hb dX3_isBuyer_19 rfl (lv_at hl 4 rfl) ?_
  refine lv_iload hx hb dX3_isBuyer_20 (lv_at hl 0 rfl) ?_
  obtain ⟨σ6, hq5, hf⟩ := bind_some hf
  refine wr_cNv (σ' := σ6) (av := [.ref (ad o1), .int v2, .int x2, .int v4]) (rest := []) X hw hl.1 sC21 nC21 rfl (k_X1_seat hI ho1 hq5) rfl mn_X3_65 im_X1_seat se_X1_seat ini_X1 co_X1_seat hd_X1_seat ⟨Nat.le_of_ble_eq_true rfl, Nat.le_of_ble_eq_true rfl⟩ (Nat.le_of_ble_eq_true rfl) dX3_isBuyer_22 rfl (fun H locs hw => ?_)
  refine lv_aload_n hx hb dX3_isBuyer_25 rfl (lv_at hl 2 rfl) ?_
  refine gX3_1 (b := 21) X hw sC30 nC30 rfl fl_X3_22 dX3_isBuyer_26 ?_
  refine lv_iconst (v := 2) hx hb dX3_isBuyer_29 (by decide) ?_
  refine lv_aload_n hx hb dX3_isBuyer_30 rfl (lv_at hl 2 rfl) ?_
  refine gX3_0 (b := 4) X hw sC30 nC30 rfl fl_X3_18 dX3_isBuyer_31 ?_
  refine lv_iload hx hb dX3_isBuyer_34 (lv_at hl 0 rfl) ?_
  obtain ⟨v8, hq7, hf⟩ := bind_some hf
  refine wr_cNi (r := v8) (σ' := σ6) (av := [.int v4]) (rest := [.int (2 : Int32), .ref (ad 21)]) X hw hl.1 sC4 nC4 rfl (k_X8_deedOf hI tx_1 hq7) rfl mn_X3_69 im_X8_deedOf se_X8_deedOf ini_X8 co_X8_deedOf hd_X8_deedOf ⟨Nat.le_of_ble_eq_true rfl, Nat.le_of_ble_eq_true rfl⟩ (Nat.le_of_ble_eq_true rfl) dX3_isBuyer_36 rfl (fun H locs hw => ?_)
  obtain ⟨v10, σ11, hq9, hf⟩ := bnd2_some hf
  refine wr_cNi (r := v10) (σ' := σ11) (av := [.int (2 : Int32), .int v8]) (rest := []) X hw hl.1 sC21 nC21 rfl (k_X1_sentence hI hq9) rfl mn_X3_74 im_X1_sentence se_X1_sentence ini_X1 co_X1_sentence hd_X1_sentence ⟨Nat.le_of_ble_eq_true rfl, Nat.le_of_ble_eq_true rfl⟩ (Nat.le_of_ble_eq_true rfl) dX3_isBuyer_39 rfl (fun H locs hw => ?_)
  refine lv_istore (lv' := [(5, .int v10), (4, .int v4), (3, .int v2), (0, .ref (ad 30)), (1, .ref (ad o1)), (2, .int x2)]) hx hb dX3_isBuyer_42 hl (by decide) rfl (fun ls hl => ?_)
  refine lv_aload_n hx hb dX3_isBuyer_44 rfl (lv_at hl 3 rfl) ?_
  refine gX3_2 (b := 42) X hw sC30 nC30 rfl fl_X3_12 dX3_isBuyer_45 ?_
  refine lv_aload_n hx hb dX3_isBuyer_48 rfl (lv_at hl 4 rfl) ?_
  obtain ⟨σ13, hq12, hf⟩ := bind_some hf
  refine wr_cNv (σ' := σ13) (av := [.ref (ad o1)]) (rest := []) X hw hl.1 (isSt.s0 st_trial) (isSt.n0 st_trial) rfl (k_X6_copyFrom hI st_trial ho1 hq12) rfl mn_X3_33 im_X6_copyFrom se_X6_copyFrom ini_X6 co_X6_copyFrom hd_X6_copyFrom ⟨Nat.le_of_ble_eq_true rfl, Nat.le_of_ble_eq_true rfl⟩ (Nat.le_of_ble_eq_true rfl) dX3_isBuyer_49 rfl (fun H locs hw => ?_)
  refine lv_aload_n hx hb dX3_isBuyer_52 rfl (lv_at hl 3 rfl) ?_
  refine gX3_2 (b := 42) X hw sC30 nC30 rfl fl_X3_12 dX3_isBuyer_53 ?_
  refine lv_iload hx hb dX3_isBuyer_56 (lv_at hl 1 rfl) ?_
  obtain ⟨σ15, hq14, hf⟩ := bind_some hf
  refine wr_cNv (σ' := σ15) (av := [.int v4]) (rest := []) X hw hl.1 (isSt.s0 st_trial) (isSt.n0 st_trial) rfl (k_X6_letPlead hI st_trial hq14) rfl mn_X3_85 im_X6_letPlead se_X6_letPlead ini_X6 co_X6_letPlead hd_X6_letPlead ⟨Nat.le_of_ble_eq_true rfl, Nat.le_of_ble_eq_true rfl⟩ (Nat.le_of_ble_eq_true rfl) dX3_isBuyer_58 rfl (fun H locs hw => ?_)
  refine lv_aload_n hx hb dX3_isBuyer_61 rfl (lv_at hl 3 rfl) ?_
  refine gX3_1 (b := 21) X hw sC30 nC30 rfl fl_X3_22 dX3_isBuyer_62 ?_
  refine lv_aload_n hx hb dX3_isBuyer_65 rfl (lv_at hl 4 rfl) ?_
  refine lv_iload_n hx hb dX3_isBuyer_66 rfl (lv_at hl 5 rfl) ?_
  obtain ⟨v17, σ18, hq16, hf⟩ := bnd2_some hf
  refine wr_cNi (r := v17) (σ' := σ18) (av := [.ref (ad o1), .int x2]) (rest := []) X hw hl.1 sC21 nC21 rfl (k_X1_sufferingAt hI ho1 hq16) rfl mn_X3_89 im_X1_sufferingAt se_X1_sufferingAt ini_X1 co_X1_sufferingAt hd_X1_sufferingAt ⟨Nat.le_of_ble_eq_true rfl, Nat.le_of_ble_eq_true rfl⟩ (Nat.le_of_ble_eq_true rfl) dX3_isBuyer_67 rfl (fun H locs hw => ?_)
  refine lv_aload_n hx hb dX3_isBuyer_70 rfl (lv_at hl 3 rfl) ?_
  refine gX3_1 (b := 21) X hw sC30 nC30 rfl fl_X3_22 dX3_isBuyer_71 ?_
  refine lv_aload_n hx hb dX3_isBuyer_74 rfl (lv_at hl 3 rfl) ?_
  refine gX3_2 (b := 42) X hw sC30 nC30 rfl fl_X3_12 dX3_isBuyer_75 ?_
  refine lv_iload_n hx hb dX3_isBuyer_78 rfl (lv_at hl 5 rfl) ?_
  obtain ⟨v20, σ21, hq19, hf⟩ := bnd2_some hf
  refine wr_cNi (r := v20) (σ' := σ21) (av := [.ref (ad 42), .int x2]) (rest := [.int v17]) X hw hl.1 sC21 nC21 rfl (k_X1_sufferingAt hI st_trial hq19) rfl mn_X3_89 im_X1_sufferingAt se_X1_sufferingAt ini_X1 co_X1_sufferingAt hd_X1_sufferingAt ⟨Nat.le_of_ble_eq_true rfl, Nat.le_of_ble_eq_true rfl⟩ (Nat.le_of_ble_eq_true rfl) dX3_isBuyer_79 rfl (fun H locs hw => ?_)
  refine lv_isub hx hb dX3_isBuyer_82 ?_
  obtain ⟨v22, ev22, hf⟩ := wlet_some hf
  refine wr_top ev22 ?_
  refine lv_istore (lv' := [(6, .int v22), (5, .int v10), (4, .int v4), (3, .int v2), (0, .ref (ad 30)), (1, .ref (ad o1)), (2, .int x2)]) hx hb dX3_isBuyer_83 hl (by decide) rfl (fun ls hl => ?_)
  refine lv_iload hx hb dX3_isBuyer_85 (lv_at hl 0 rfl) ?_
  refine lv_iload hx hb dX3_isBuyer_87 (lv_at hl 1 rfl) ?_
  refine lv_icmp_le (tgt := 118) hx hb dX3_isBuyer_89 (by decide) (fun c23 => ?_) (fun c23 => ?_)
  · have hf := (if_pos c23).symm.trans hf
    refine lv_iconst (v := 0) hx hb dX3_isBuyer_118 (by decide) ?_
    have er := Option.some.inj hf
    subst er
    exact wr_iret X hw hr (Or.inr ⟨rfl, (show bz (0 : Int32) = true from rfl)⟩) dX3_isBuyer_119
  · have hf := (if_neg c23).symm.trans hf
    refine lv_aload_n hx hb dX3_isBuyer_92 rfl (lv_at hl 4 rfl) ?_
    refine gX3_0 (b := 4) X hw sC30 nC30 rfl fl_X3_18 dX3_isBuyer_93 ?_
    refine lv_iload_n hx hb dX3_isBuyer_96 rfl (lv_at hl 3 rfl) ?_
    obtain ⟨v25, hq24, hf⟩ := bind_some hf
    refine wr_cNi (r := v25) (σ' := σ21) (av := [.int v2]) (rest := []) X hw hl.1 sC4 nC4 rfl (k_X8_has hI tx_1 hq24) rfl mn_X3_92 im_X8_has se_X8_has ini_X8 co_X8_has hd_X8_has ⟨Nat.le_of_ble_eq_true rfl, Nat.le_of_ble_eq_true rfl⟩ (Nat.le_of_ble_eq_true rfl) dX3_isBuyer_97 rfl (fun H locs hw => ?_)
    refine lv_if_eq (tgt := 118) hx hb dX3_isBuyer_100 (by decide) (fun c26 => ?_) (fun c26 => ?_)
    · have hf := (if_pos c26).symm.trans hf
      refine lv_iconst (v := 0) hx hb dX3_isBuyer_118 (by decide) ?_
      have er := Option.some.inj hf
      subst er
      exact wr_iret X hw hr (Or.inr ⟨rfl, (show bz (0 : Int32) = true from rfl)⟩) dX3_isBuyer_119
    · have hf := (if_neg c26).symm.trans hf
      refine lv_aload_n hx hb dX3_isBuyer_103 rfl (lv_at hl 5 rfl) ?_
      refine gnX6_1 (b := (o1 + 2)) X hw (isSt.s0 ho1) (isSt.n0 ho1) (isSt.r1 ho1) fn_X3_95 dX3_isBuyer_104 ?_
      refine lv_iload_n hx hb dX3_isBuyer_107 rfl (lv_at hl 3 rfl) ?_
      obtain ⟨h27, hf⟩ := if_some hf
      refine wr_iald X hw (isSt.s2 ho1) (isSt.n2 ho1) h27 dX3_isBuyer_108 ?_
      refine lv_iload hx hb dX3_isBuyer_109 (lv_at hl 1 rfl) ?_
      refine lv_icmp_lt (tgt := 118) hx hb dX3_isBuyer_111 (by decide) (fun c28 => ?_) (fun c28 => ?_)
      · have hf := (if_pos c28).symm.trans hf
        refine lv_iconst (v := 0) hx hb dX3_isBuyer_118 (by decide) ?_
        have er := Option.some.inj hf
        subst er
        exact wr_iret X hw hr (Or.inr ⟨rfl, (show bz (0 : Int32) = true from rfl)⟩) dX3_isBuyer_119
      · have hf := (if_neg c28).symm.trans hf
        refine lv_iconst (v := 1) hx hb dX3_isBuyer_114 (by decide) ?_
        refine lv_goto (tgt := 119) hx hb dX3_isBuyer_115 (by decide) ?_
        have er := Option.some.inj hf
        subst er
        exact wr_iret X hw hr (Or.inr ⟨rfl, (show bz (1 : Int32) = true from rfl)⟩) dX3_isBuyer_119

def f_X3_buyersOf (σ : St) (o1 : Nat) : Option (Int32 × St) := wlet (un3 (fun (σ4_1 : St) (x2_4_1 : Int32) (x3_4_1 : Int32) => if (σ4_1.1 o1 3) ≤ x3_4_1 then (some (.inr (σ4_1, x2_4_1))) else (Option.bind (f_X6_aheadOf σ4_1 o1 x3_4_1) fun v4 => Option.bind (f_X6_isPleading σ4_1 o1 v4) fun v6 => if v6 = 0 then (bnd2 (f_X3_isBuyer σ4_1 o1 x3_4_1) fun v10 σ11 => if v10 = 0 then (wlet (x3_4_1 + (1 : Int32)) fun v13 => some (.inl (σ11, x2_4_1, v13))) else (Option.bind (f_X6_docketAt σ11 o1 x3_4_1) fun v15 => wlet (x2_4_1 ||| ((1 : Int32) <<< (v15 &&& 31))) fun v16 => wlet (x3_4_1 + (1 : Int32)) fun v17 => some (.inl (σ11, v16, v17)))) else (wlet (x3_4_1 + (1 : Int32)) fun v8 => some (.inl (σ4_1, x2_4_1, v8))))) : St × Int32 × Int32 → Option ((St × Int32 × Int32) ⊕ (St × Int32))) fun st4_1 => Option.bind (lp st4_1 fuel (σ, (0 : Int32), (1 : Int32))) ((un2 (fun (σe4_1 : St) (x2_e4_1 : Int32) => some (x2_e4_1, σe4_1))))
theorem hd_X3_buyersOf : yX3_buyersOf.cls = RX3 ∧ yX3_buyersOf.cls ≠ "java/lang/invoke/MethodHandle" ∧ yX3_buyersOf.cls ≠ "java/lang/invoke/VarHandle" ∧ (parseMethodDescriptor yX3_buyersOf.desc).map (fun d => d.parameters.length) = some 1 := by decide +kernel
set_option maxRecDepth 100000 in
set_option maxHeartbeats 4000000 in
theorem k_X3_buyersOf {l : Launch} {ad : Nat → Nat} {D : va_G} {cy : Nat → ClassId} {z : wStr} (hI : wI WC ad) {σ : St} {o1 : Nat} (ho1 : isSt o1) {res : Int32 × St} (hf : f_X3_buyersOf σ o1 = some res) : wC WC ad D cy z l yX3_buyersOf (Cond.code yX3_buyersOf cX3_buyersOf 4 (Option.some Jvm.ClassFile.FieldType.int) :: aw) (7) (247) [.ref (ad 30), .ref (ad o1)] σ (wQi WC ad D cy res.1 res.2) := by
  unfold f_X3_buyersOf at hf
  refine wr_start (own := RX3) hI (by decide +kernel) rfl (Nat.le_of_ble_eq_true rfl) rfl ?_
  intro p e s m below meth c ls X hw hr hl
  have hx := X.hx
  have hb := X.hb
  obtain ⟨H, eH⟩ : ∃ H : Heap, H = s.heap := ⟨_, rfl⟩
  obtain ⟨locs, el⟩ : ∃ locs : List Loc, locs = [] := ⟨_, rfl⟩
  rw [← eH, ← el] at hw ⊢
  clear eH el
  replace hl : lv_has ls 4 [(0, .ref (ad 30)), (1, .ref (ad o1))] := hl
  refine lv_iconst (v := 0) hx hb dX3_buyersOf_0 (by decide) ?_
  refine lv_istore_n (lv' := [(2, .int (0 : Int32)), (0, .ref (ad 30)), (1, .ref (ad o1))]) hx hb dX3_buyersOf_1 rfl hl (by decide) rfl (fun ls hl => ?_)
  refine lv_iconst (v := 1) hx hb dX3_buyersOf_2 (by decide) ?_
  refine lv_istore_n (lv' := [(3, .int (1 : Int32)), (2, .int (0 : Int32)), (0, .ref (ad 30)), (1, .ref (ad o1))]) hx hb dX3_buyersOf_3 rfl hl (by decide) rfl (fun ls hl => ?_)
  obtain ⟨st4_1, est4_1, hf⟩ := wlet_some hf
  obtain ⟨E4_1, hq4_1, hE4_1⟩ := bind_some hf
  have hx4_1 : ∀ (σe4_1 : St) (x2_e4_1 : Int32) (_ : (σe4_1, x2_e4_1) = E4_1) (ls : Array Slot) (H : Heap) (locs : List Loc), lv_has ls 4 [(2, .int x2_e4_1)] → wH WC ad D cy s σe4_1 H locs → W p l e { frames := 7, cells := 0, slots := 0, locals := 247 } s m [.ref (ad 30), .ref (ad o1)].toArray below meth c H locs 0 0 (MQ below (wQi WC ad D cy res.1 res.2) [.ref (ad 30), .ref (ad o1)].toArray s 0 0 (wA WC ad)) (F0 m 49 ls []) := by
    intro σe4_1 x2_e4_1 e0 ls H locs hl hw
    subst e0
    have hf := hE4_1
    replace hf := un2_some hf
    refine lv_iload_n hx hb dX3_buyersOf_49 rfl (lv_at hl 0 rfl) ?_
    have er := Option.some.inj hf
    subst er
    exact wr_iret X hw hr (Or.inl rfl) dX3_buyersOf_50
  have lo4_1 : ∀ (n : Nat) (σ4_1 : St) (x2_4_1 : Int32) (x3_4_1 : Int32) (_ : lp st4_1 n (σ4_1, x2_4_1, x3_4_1) = some E4_1) (ls : Array Slot) (H : Heap) (locs : List Loc), lv_has ls 4 [(0, .ref (ad 30)), (1, .ref (ad o1)), (2, .int x2_4_1), (3, .int x3_4_1)] → wH WC ad D cy s σ4_1 H locs → W p l e { frames := 7, cells := 0, slots := 0, locals := 247 } s m [.ref (ad 30), .ref (ad o1)].toArray below meth c H locs 0 0 (MQ below (wQi WC ad D cy res.1 res.2) [.ref (ad 30), .ref (ad o1)].toArray s 0 0 (wA WC ad)) (F0 m 4 ls []) := by
    intro n
    induction n with
    | zero =>
      intro σ4_1 x2_4_1 x3_4_1 hf ls H locs hl hw
      exact (lp_zero hf).elim
    | succ n ih4_1 =>
      intro σ4_1 x2_4_1 x3_4_1 hf ls H locs hl hw
      obtain ⟨q4_1, hf, hz4_1⟩ := lp_succ hf
      rw [est4_1] at hf
      replace hf := un3_some hf
      refine lv_iload_n hx hb dX3_buyersOf_4 rfl (lv_at hl 3 rfl) ?_
      refine lv_aload_n hx hb dX3_buyersOf_5 rfl (lv_at hl 1 rfl) ?_
      refine gnX6_3 X hw (isSt.s0 ho1) (isSt.n0 ho1) fn_X3_55 dX3_buyersOf_6 ?_
      refine lv_icmp_ge (tgt := 49) hx hb dX3_buyersOf_9 (by decide) (fun c2 => ?_) (fun c2 => ?_)
      · have hf := (if_pos c2).symm.trans hf
        exact hx4_1 σ4_1 x2_4_1 (lpK_inr (lp_leaf hf hz4_1)) ls H locs (lv_sub hl [2] rfl) hw
      · have hf := (if_neg c2).symm.trans hf
        refine lv_aload_n hx hb dX3_buyersOf_12 rfl (lv_at hl 1 rfl) ?_
        refine lv_aload_n hx hb dX3_buyersOf_13 rfl (lv_at hl 1 rfl) ?_
        refine lv_iload_n hx hb dX3_buyersOf_14 rfl (lv_at hl 3 rfl) ?_
        obtain ⟨v4, hq3, hf⟩ := bind_some hf
        refine wr_cNi (r := v4) (σ' := σ4_1) (av := [.int x3_4_1]) (rest := [.ref (ad o1)]) X hw hl.1 (isSt.s0 ho1) (isSt.n0 ho1) rfl (k_X6_aheadOf hI ho1 hq3) rfl mn_X3_62 im_X6_aheadOf se_X6_aheadOf ini_X6 co_X6_aheadOf hd_X6_aheadOf ⟨Nat.le_of_ble_eq_true rfl, Nat.le_of_ble_eq_true rfl⟩ (Nat.le_of_ble_eq_true rfl) dX3_buyersOf_15 rfl (fun H locs hw => ?_)
        obtain ⟨v6, hq5, hf⟩ := bind_some hf
        refine wr_cNi (r := v6) (σ' := σ4_1) (av := [.int v4]) (rest := []) X hw hl.1 (isSt.s0 ho1) (isSt.n0 ho1) rfl (k_X6_isPleading hI ho1 hq5) rfl mn_X3_78 im_X6_isPleading se_X6_isPleading ini_X6 co_X6_isPleading hd_X6_isPleading ⟨Nat.le_of_ble_eq_true rfl, Nat.le_of_ble_eq_true rfl⟩ (Nat.le_of_ble_eq_true rfl) dX3_buyersOf_18 rfl (fun H locs hw => ?_)
        refine lv_if_ne (tgt := 43) hx hb dX3_buyersOf_21 (by decide) (fun c7 => ?_) (fun c7 => ?_)
        · have hf := (if_neg c7).symm.trans hf
          obtain ⟨v8, ev8, hf⟩ := wlet_some hf
          refine lv_iinc (v := v8) (lv' := [(3, .int v8), (0, .ref (ad 30)), (1, .ref (ad o1)), (2, .int x2_4_1)]) hx hb dX3_buyersOf_43 hl (k := 3) rfl (by rw [ev8]; rfl) (by decide) rfl (fun ls hl => ?_)
          refine lv_goto (tgt := 4) hx hb dX3_buyersOf_46 (by decide) ?_
          exact ih4_1 σ4_1 x2_4_1 v8 (lp_leaf hf hz4_1) ls H locs (lv_sub hl [1, 2, 3, 0] rfl) hw
        · have hf := (if_pos c7).symm.trans hf
          refine lv_aload_n hx hb dX3_buyersOf_24 rfl (lv_at hl 0 rfl) ?_
          refine lv_aload_n hx hb dX3_buyersOf_25 rfl (lv_at hl 1 rfl) ?_
          refine lv_iload_n hx hb dX3_buyersOf_26 rfl (lv_at hl 3 rfl) ?_
          obtain ⟨v10, σ11, hq9, hf⟩ := bnd2_some hf
          refine wr_cVi (r := v10) (σ' := σ11) (av := [.ref (ad o1), .int x3_4_1]) (rest := []) X hw hl.1 sC30 nC30 rfl (k_X3_isBuyer hI ho1 hq9) rfl ml_X3_81 im_X3_isBuyer se_X3_isBuyer ini_X3 co_X3_isBuyer hd_X3_isBuyer ⟨Nat.le_of_ble_eq_true rfl, Nat.le_of_ble_eq_true rfl⟩ (Nat.le_of_ble_eq_true rfl) dX3_buyersOf_27 rfl (fun H locs hw => ?_)
          refine lv_if_eq (tgt := 43) hx hb dX3_buyersOf_30 (by decide) (fun c12 => ?_) (fun c12 => ?_)
          · have hf := (if_pos c12).symm.trans hf
            obtain ⟨v13, ev13, hf⟩ := wlet_some hf
            refine lv_iinc (v := v13) (lv' := [(3, .int v13), (0, .ref (ad 30)), (1, .ref (ad o1)), (2, .int x2_4_1)]) hx hb dX3_buyersOf_43 hl (k := 3) rfl (by rw [ev13]; rfl) (by decide) rfl (fun ls hl => ?_)
            refine lv_goto (tgt := 4) hx hb dX3_buyersOf_46 (by decide) ?_
            exact ih4_1 σ11 x2_4_1 v13 (lp_leaf hf hz4_1) ls H locs (lv_sub hl [1, 2, 3, 0] rfl) hw
          · have hf := (if_neg c12).symm.trans hf
            refine lv_iload_n hx hb dX3_buyersOf_33 rfl (lv_at hl 2 rfl) ?_
            refine lv_iconst (v := 1) hx hb dX3_buyersOf_34 (by decide) ?_
            refine lv_aload_n hx hb dX3_buyersOf_35 rfl (lv_at hl 1 rfl) ?_
            refine lv_iload_n hx hb dX3_buyersOf_36 rfl (lv_at hl 3 rfl) ?_
            obtain ⟨v15, hq14, hf⟩ := bind_some hf
            refine wr_cNi (r := v15) (σ' := σ11) (av := [.int x3_4_1]) (rest := [.int (1 : Int32), .int x2_4_1]) X hw hl.1 (isSt.s0 ho1) (isSt.n0 ho1) rfl (k_X6_docketAt hI ho1 hq14) rfl mn_X3_58 im_X6_docketAt se_X6_docketAt ini_X6 co_X6_docketAt hd_X6_docketAt ⟨Nat.le_of_ble_eq_true rfl, Nat.le_of_ble_eq_true rfl⟩ (Nat.le_of_ble_eq_true rfl) dX3_buyersOf_37 rfl (fun H locs hw => ?_)
            refine lv_ishl hx hb dX3_buyersOf_40 ?_
            refine lv_ior hx hb dX3_buyersOf_41 ?_
            obtain ⟨v16, ev16, hf⟩ := wlet_some hf
            refine wr_top ev16 ?_
            refine lv_istore_n (lv' := [(2, .int v16), (0, .ref (ad 30)), (1, .ref (ad o1)), (3, .int x3_4_1)]) hx hb dX3_buyersOf_42 rfl hl (by decide) rfl (fun ls hl => ?_)
            obtain ⟨v17, ev17, hf⟩ := wlet_some hf
            refine lv_iinc (v := v17) (lv' := [(3, .int v17), (2, .int v16), (0, .ref (ad 30)), (1, .ref (ad o1))]) hx hb dX3_buyersOf_43 hl (k := 3) rfl (by rw [ev17]; rfl) (by decide) rfl (fun ls hl => ?_)
            refine lv_goto (tgt := 4) hx hb dX3_buyersOf_46 (by decide) ?_
            exact ih4_1 σ11 v16 v17 (lp_leaf hf hz4_1) ls H locs (lv_sub hl [2, 3, 1, 0] rfl) hw
  exact lo4_1 fuel σ (0 : Int32) (1 : Int32) hq4_1 ls H locs (lv_sub hl [2, 3, 1, 0] rfl) hw

def f_X3_answer (σ : St) (x1 : Int32) : Option (Int32) := if x1 = 0 then (some (σ.1 30 3)) else (if (σ.1 30 3) = (-2 : Int32) then (some (σ.1 30 3)) else (some (σ.1 30 4)))
theorem hd_X3_answer : yX3_answer.cls = RX3 ∧ yX3_answer.cls ≠ "java/lang/invoke/MethodHandle" ∧ yX3_answer.cls ≠ "java/lang/invoke/VarHandle" ∧ (parseMethodDescriptor yX3_answer.desc).map (fun d => d.parameters.length) = some 1 := by decide +kernel
set_option maxRecDepth 100000 in
set_option maxHeartbeats 4000000 in
theorem k_X3_answer {l : Launch} {ad : Nat → Nat} {D : va_G} {cy : Nat → ClassId} {z : wStr} (hI : wI WC ad) {σ : St} {x1 : Int32}  {res : Int32} (hf : f_X3_answer σ x1 = some res) : wC WC ad D cy z l yX3_answer (Cond.code yX3_answer cX3_answer 2 (Option.some Jvm.ClassFile.FieldType.int) :: aw) (1) (100) [.ref (ad 30), .int x1] σ (wQi WC ad D cy res σ) := by
  unfold f_X3_answer at hf
  refine wr_start (own := RX3) hI (by decide +kernel) rfl (Nat.le_of_ble_eq_true rfl) rfl ?_
  intro p e s m below meth c ls X hw hr hl
  have hx := X.hx
  have hb := X.hb
  obtain ⟨H, eH⟩ : ∃ H : Heap, H = s.heap := ⟨_, rfl⟩
  obtain ⟨locs, el⟩ : ∃ locs : List Loc, locs = [] := ⟨_, rfl⟩
  rw [← eH, ← el] at hw ⊢
  clear eH el
  replace hl : lv_has ls 2 [(0, .ref (ad 30)), (1, .int x1)] := hl
  refine lv_iload_n hx hb dX3_answer_0 rfl (lv_at hl 1 rfl) ?_
  refine lv_if_eq (tgt := 13) hx hb dX3_answer_1 (by decide) (fun c1 => ?_) (fun c1 => ?_)
  · have hf := (if_pos c1).symm.trans hf
    refine lv_aload_n hx hb dX3_answer_13 rfl (lv_at hl 0 rfl) ?_
    refine gX3_3 X hw sC30 nC30 fl_X3_26 dX3_answer_14 ?_
    refine lv_goto (tgt := 24) hx hb dX3_answer_17 (by decide) ?_
    have er := Option.some.inj hf
    subst er
    exact wr_iret X hw hr (Or.inl rfl) dX3_answer_24
  · have hf := (if_neg c1).symm.trans hf
    refine lv_aload_n hx hb dX3_answer_4 rfl (lv_at hl 0 rfl) ?_
    refine gX3_3 X hw sC30 nC30 fl_X3_26 dX3_answer_5 ?_
    refine lv_bipush (v := -2) hx hb dX3_answer_8 (by decide) ?_
    refine lv_icmp_ne (tgt := 20) hx hb dX3_answer_10 (by decide) (fun c2 => ?_) (fun c2 => ?_)
    · have hf := (if_neg c2).symm.trans hf
      refine lv_aload_n hx hb dX3_answer_20 rfl (lv_at hl 0 rfl) ?_
      refine gX3_4 X hw sC30 nC30 fl_X3_30 dX3_answer_21 ?_
      have er := Option.some.inj hf
      subst er
      exact wr_iret X hw hr (Or.inl rfl) dX3_answer_24
    · have hf := (if_pos c2).symm.trans hf
      refine lv_aload_n hx hb dX3_answer_13 rfl (lv_at hl 0 rfl) ?_
      refine gX3_3 X hw sC30 nC30 fl_X3_26 dX3_answer_14 ?_
      refine lv_goto (tgt := 24) hx hb dX3_answer_17 (by decide) ?_
      have er := Option.some.inj hf
      subst er
      exact wr_iret X hw hr (Or.inl rfl) dX3_answer_24

def f_X3_seekFurthest (σ : St) (o1 : Nat) (x2 : Int32) : Option (St) := wlet (si σ 30 3 (-2 : Int32)) fun σ1 => wlet (un2 (fun (σ8_2 : St) (x3_8_2 : Int32) => if (σ8_2.1 o1 3) ≤ x3_8_2 then (some (.inr σ8_2)) else (Option.bind (f_X6_copyFrom σ8_2 42 o1) fun σ5 => Option.bind (f_X6_move σ5 42 x2 x3_8_2) fun σ7 => bnd2 (f_X1_sufferingAt σ7 42 x3_8_2) fun v9 σ10 => wlet (fun (_ : Unit) => (wlet (si σ10 30 3 x3_8_2) fun σ12 => wlet (si σ12 30 4 v9) fun σ13 => wlet (x3_8_2 + (1 : Int32)) fun v14 => some (.inl (σ13, v14)) : Option ((St × Int32) ⊕ (St)))) fun k65_11 => if (σ10.1 30 3) = (-2 : Int32) then (k65_11 ()) else (if (σ10.1 30 4) ≤ v9 then (wlet (x3_8_2 + (1 : Int32)) fun v17 => some (.inl (σ10, v17))) else (k65_11 ())))) : St × Int32 → Option ((St × Int32) ⊕ (St))) fun st8_2 => Option.bind (lp st8_2 fuel (σ1, (0 : Int32))) ((fun (σe8_2 : St) => some σe8_2))
theorem hd_X3_seekFurthest : yX3_seekFurthest.cls = RX3 ∧ yX3_seekFurthest.cls ≠ "java/lang/invoke/MethodHandle" ∧ yX3_seekFurthest.cls ≠ "java/lang/invoke/VarHandle" ∧ (parseMethodDescriptor yX3_seekFurthest.desc).map (fun d => d.parameters.length) = some 2 := by decide +kernel
set_option maxRecDepth 100000 in
set_option maxHeartbeats 4000000 in
theorem k_X3_seekFurthest {l : Launch} {ad : Nat → Nat} {D : va_G} {cy : Nat → ClassId} {z : wStr} (hI : wI WC ad) {σ : St} {o1 : Nat} {x2 : Int32} (ho1 : isSt o1) {res : St} (hf : f_X3_seekFurthest σ o1 x2 = some res) : wC WC ad D cy z l yX3_seekFurthest (Cond.code yX3_seekFurthest cX3_seekFurthest 5 (none) :: aw) (6) (221) [.ref (ad 30), .ref (ad o1), .int x2] σ (wQv WC ad D cy res) := by
  unfold f_X3_seekFurthest at hf
  refine wr_start (own := RX3) hI (by decide +kernel) rfl (Nat.le_of_ble_eq_true rfl) rfl ?_
  intro p e s m below meth c ls X hw hr hl
  have hx := X.hx
  have hb := X.hb
  obtain ⟨H, eH⟩ : ∃ H : Heap, H = s.heap := ⟨_, rfl⟩
  obtain ⟨locs, el⟩ : ∃ locs : List Loc, locs = [] := ⟨_, rfl⟩
  rw [← eH, ← el] at hw ⊢
  clear eH el
  replace hl : lv_has ls 5 [(0, .ref (ad 30)), (1, .ref (ad o1)), (2, .int x2)] := hl
  refine lv_aload_n hx hb dX3_seekFurthest_0 rfl (lv_at hl 0 rfl) ?_
  refine lv_bipush (v := -2) hx hb dX3_seekFurthest_1 (by decide) ?_
  obtain ⟨σ1, eσ1, hf⟩ := wlet_some hf
  refine pX3_3 X hw sC30 nC30 fl_X3_26 dX3_seekFurthest_3 (fun H locs hw => ?_)
  replace hw := hw.to eσ1
  refine lv_iconst (v := 0) hx hb dX3_seekFurthest_6 (by decide) ?_
  refine lv_istore_n (lv' := [(3, .int (0 : Int32)), (0, .ref (ad 30)), (1, .ref (ad o1)), (2, .int x2)]) hx hb dX3_seekFurthest_7 rfl hl (by decide) rfl (fun ls hl => ?_)
  obtain ⟨st8_2, est8_2, hf⟩ := wlet_some hf
  obtain ⟨E8_2, hq8_2, hE8_2⟩ := bind_some hf
  have hx8_2 : ∀ (σe8_2 : St) (_ : σe8_2 = E8_2) (ls : Array Slot) (H : Heap) (locs : List Loc), lv_has ls 5 [] → wH WC ad D cy s σe8_2 H locs → W p l e { frames := 6, cells := 0, slots := 0, locals := 221 } s m [.ref (ad 30), .ref (ad o1), .int x2].toArray below meth c H locs 0 0 (MQ below (wQv WC ad D cy res) [.ref (ad 30), .ref (ad o1), .int x2].toArray s 0 0 (wA WC ad)) (F0 m 82 ls []) := by
    intro σe8_2 e0 ls H locs hl hw
    subst e0
    have hf := hE8_2
    have er := Option.some.inj hf
    subst er
    exact wr_vret X hw hr dX3_seekFurthest_82
  have lo8_2 : ∀ (n : Nat) (σ8_2 : St) (x3_8_2 : Int32) (_ : lp st8_2 n (σ8_2, x3_8_2) = some E8_2) (ls : Array Slot) (H : Heap) (locs : List Loc), lv_has ls 5 [(0, .ref (ad 30)), (1, .ref (ad o1)), (2, .int x2), (3, .int x3_8_2)] → wH WC ad D cy s σ8_2 H locs → W p l e { frames := 6, cells := 0, slots := 0, locals := 221 } s m [.ref (ad 30), .ref (ad o1), .int x2].toArray below meth c H locs 0 0 (MQ below (wQv WC ad D cy res) [.ref (ad 30), .ref (ad o1), .int x2].toArray s 0 0 (wA WC ad)) (F0 m 8 ls []) := by
    intro n
    induction n with
    | zero =>
      intro σ8_2 x3_8_2 hf ls H locs hl hw
      exact (lp_zero hf).elim
    | succ n ih8_2 =>
      intro σ8_2 x3_8_2 hf ls H locs hl hw
      obtain ⟨q8_2, hf, hz8_2⟩ := lp_succ hf
      rw [est8_2] at hf
      replace hf := un2_some hf
      refine lv_iload_n hx hb dX3_seekFurthest_8 rfl (lv_at hl 3 rfl) ?_
      refine lv_aload_n hx hb dX3_seekFurthest_9 rfl (lv_at hl 1 rfl) ?_
      refine gnX6_3 X hw (isSt.s0 ho1) (isSt.n0 ho1) fn_X3_55 dX3_seekFurthest_10 ?_
      refine lv_icmp_ge (tgt := 82) hx hb dX3_seekFurthest_13 (by decide) (fun c3 => ?_) (fun c3 => ?_)
      · have hf := (if_pos c3).symm.trans hf
        exact hx8_2 σ8_2 (lpK_inr (lp_leaf hf hz8_2)) ls H locs (lv_sub hl [] rfl) hw
      · have hf := (if_neg c3).symm.trans hf
        refine lv_aload_n hx hb dX3_seekFurthest_16 rfl (lv_at hl 0 rfl) ?_
        refine gX3_2 (b := 42) X hw sC30 nC30 rfl fl_X3_12 dX3_seekFurthest_17 ?_
        refine lv_aload_n hx hb dX3_seekFurthest_20 rfl (lv_at hl 1 rfl) ?_
        obtain ⟨σ5, hq4, hf⟩ := bind_some hf
        refine wr_cNv (σ' := σ5) (av := [.ref (ad o1)]) (rest := []) X hw hl.1 (isSt.s0 st_trial) (isSt.n0 st_trial) rfl (k_X6_copyFrom hI st_trial ho1 hq4) rfl mn_X3_33 im_X6_copyFrom se_X6_copyFrom ini_X6 co_X6_copyFrom hd_X6_copyFrom ⟨Nat.le_of_ble_eq_true rfl, Nat.le_of_ble_eq_true rfl⟩ (Nat.le_of_ble_eq_true rfl) dX3_seekFurthest_21 rfl (fun H locs hw => ?_)
        refine lv_aload_n hx hb dX3_seekFurthest_24 rfl (lv_at hl 0 rfl) ?_
        refine gX3_2 (b := 42) X hw sC30 nC30 rfl fl_X3_12 dX3_seekFurthest_25 ?_
        refine lv_iload_n hx hb dX3_seekFurthest_28 rfl (lv_at hl 2 rfl) ?_
        refine lv_iload_n hx hb dX3_seekFurthest_29 rfl (lv_at hl 3 rfl) ?_
        obtain ⟨σ7, hq6, hf⟩ := bind_some hf
        refine wr_cNv (σ' := σ7) (av := [.int x2, .int x3_8_2]) (rest := []) X hw hl.1 (isSt.s0 st_trial) (isSt.n0 st_trial) rfl (k_X6_move hI st_trial hq6) rfl mn_X3_102 im_X6_move se_X6_move ini_X6 co_X6_move hd_X6_move ⟨Nat.le_of_ble_eq_true rfl, Nat.le_of_ble_eq_true rfl⟩ (Nat.le_of_ble_eq_true rfl) dX3_seekFurthest_30 rfl (fun H locs hw => ?_)
        refine lv_aload_n hx hb dX3_seekFurthest_33 rfl (lv_at hl 0 rfl) ?_
        refine gX3_1 (b := 21) X hw sC30 nC30 rfl fl_X3_22 dX3_seekFurthest_34 ?_
        refine lv_aload_n hx hb dX3_seekFurthest_37 rfl (lv_at hl 0 rfl) ?_
        refine gX3_2 (b := 42) X hw sC30 nC30 rfl fl_X3_12 dX3_seekFurthest_38 ?_
        refine lv_iload_n hx hb dX3_seekFurthest_41 rfl (lv_at hl 3 rfl) ?_
        obtain ⟨v9, σ10, hq8, hf⟩ := bnd2_some hf
        refine wr_cNi (r := v9) (σ' := σ10) (av := [.ref (ad 42), .int x3_8_2]) (rest := []) X hw hl.1 sC21 nC21 rfl (k_X1_sufferingAt hI st_trial hq8) rfl mn_X3_89 im_X1_sufferingAt se_X1_sufferingAt ini_X1 co_X1_sufferingAt hd_X1_sufferingAt ⟨Nat.le_of_ble_eq_true rfl, Nat.le_of_ble_eq_true rfl⟩ (Nat.le_of_ble_eq_true rfl) dX3_seekFurthest_42 rfl (fun H locs hw => ?_)
        refine lv_istore (lv' := [(4, .int v9), (0, .ref (ad 30)), (1, .ref (ad o1)), (2, .int x2), (3, .int x3_8_2)]) hx hb dX3_seekFurthest_45 hl (by decide) rfl (fun ls hl => ?_)
        refine lv_aload_n hx hb dX3_seekFurthest_47 rfl (lv_at hl 1 rfl) ?_
        refine gX3_3 X hw sC30 nC30 fl_X3_26 dX3_seekFurthest_48 ?_
        refine lv_bipush (v := -2) hx hb dX3_seekFurthest_51 (by decide) ?_
        obtain ⟨k65_11, ek65_11, hf0⟩ := wlet_some hf
        have j65_11 : ∀ (_ : k65_11 () = some q8_2) (ls : Array Slot) (H : Heap) (locs : List Loc), lv_has ls 5 [(0, .ref (ad 30)), (1, .ref (ad o1)), (2, .int x2), (3, .int x3_8_2), (4, .int v9)] → wH WC ad D cy s σ10 H locs → W p l e { frames := 6, cells := 0, slots := 0, locals := 221 } s m [.ref (ad 30), .ref (ad o1), .int x2].toArray below meth c H locs 0 0 (MQ below (wQv WC ad D cy res) [.ref (ad 30), .ref (ad o1), .int x2].toArray s 0 0 (wA WC ad)) (F0 m 65 ls []) := by
          intro  hf ls H locs hl hw
          rw [ek65_11] at hf
          refine lv_aload_n hx hb dX3_seekFurthest_65 rfl (lv_at hl 0 rfl) ?_
          refine lv_iload_n hx hb dX3_seekFurthest_66 rfl (lv_at hl 3 rfl) ?_
          obtain ⟨σ12, eσ12, hf⟩ := wlet_some hf
          refine pX3_3 X hw sC30 nC30 fl_X3_26 dX3_seekFurthest_67 (fun H locs hw => ?_)
          replace hw := hw.to eσ12
          refine lv_aload_n hx hb dX3_seekFurthest_70 rfl (lv_at hl 0 rfl) ?_
          refine lv_iload hx hb dX3_seekFurthest_71 (lv_at hl 4 rfl) ?_
          obtain ⟨σ13, eσ13, hf⟩ := wlet_some hf
          refine pX3_4 X hw sC30 nC30 fl_X3_30 dX3_seekFurthest_73 (fun H locs hw => ?_)
          replace hw := hw.to eσ13
          obtain ⟨v14, ev14, hf⟩ := wlet_some hf
          refine lv_iinc (v := v14) (lv' := [(3, .int v14), (0, .ref (ad 30)), (1, .ref (ad o1)), (2, .int x2), (4, .int v9)]) hx hb dX3_seekFurthest_76 hl (k := 3) rfl (by rw [ev14]; rfl) (by decide) rfl (fun ls hl => ?_)
          refine lv_goto (tgt := 8) hx hb dX3_seekFurthest_79 (by decide) ?_
          exact ih8_2 σ13 v14 (lp_leaf hf hz8_2) ls H locs (lv_sub hl [1, 2, 3, 0] rfl) hw
        replace hf := hf0
        refine lv_icmp_eq (tgt := 65) hx hb dX3_seekFurthest_53 (by decide) (fun c15 => ?_) (fun c15 => ?_)
        · have hf := (if_pos c15).symm.trans hf
          exact j65_11 hf ls H locs (lv_sub hl [1, 2, 3, 4, 0] rfl) hw
        · have hf := (if_neg c15).symm.trans hf
          refine lv_iload hx hb dX3_seekFurthest_56 (lv_at hl 0 rfl) ?_
          refine lv_aload_n hx hb dX3_seekFurthest_58 rfl (lv_at hl 1 rfl) ?_
          refine gX3_4 X hw sC30 nC30 fl_X3_30 dX3_seekFurthest_59 ?_
          refine lv_icmp_ge (tgt := 76) hx hb dX3_seekFurthest_62 (by decide) (fun c16 => ?_) (fun c16 => ?_)
          · have hf := (if_pos c16).symm.trans hf
            obtain ⟨v17, ev17, hf⟩ := wlet_some hf
            refine lv_iinc (v := v17) (lv' := [(3, .int v17), (4, .int v9), (0, .ref (ad 30)), (1, .ref (ad o1)), (2, .int x2)]) hx hb dX3_seekFurthest_76 hl (k := 4) rfl (by rw [ev17]; rfl) (by decide) rfl (fun ls hl => ?_)
            refine lv_goto (tgt := 8) hx hb dX3_seekFurthest_79 (by decide) ?_
            exact ih8_2 σ10 v17 (lp_leaf hf hz8_2) ls H locs (lv_sub hl [2, 3, 4, 0] rfl) hw
          · have hf := (if_neg c16).symm.trans hf
            exact j65_11 hf ls H locs (lv_sub hl [1, 2, 3, 4, 0] rfl) hw
  exact lo8_2 fuel σ1 (0 : Int32) hq8_2 ls H locs (lv_sub hl [1, 2, 3, 0] rfl) hw

def f_X3_gainOfSwap (σ : St) (o1 : Nat) (x2 : Int32) (x3 : Int32) : Option (Int32 × St) := Option.bind (f_X6_copyFrom σ 42 o1) fun σ2 => Option.bind (f_X6_swap σ2 42 x2 x3) fun σ4 => bnd2 (f_X1_allSuffering σ4 o1) fun v6 σ7 => bnd2 (f_X1_allSuffering σ7 42) fun v9 σ10 => some ((v6 - v9), σ10)
theorem hd_X3_gainOfSwap : yX3_gainOfSwap.cls = RX3 ∧ yX3_gainOfSwap.cls ≠ "java/lang/invoke/MethodHandle" ∧ yX3_gainOfSwap.cls ≠ "java/lang/invoke/VarHandle" ∧ (parseMethodDescriptor yX3_gainOfSwap.desc).map (fun d => d.parameters.length) = some 3 := by decide +kernel
set_option maxRecDepth 100000 in
set_option maxHeartbeats 4000000 in
theorem k_X3_gainOfSwap {l : Launch} {ad : Nat → Nat} {D : va_G} {cy : Nat → ClassId} {z : wStr} (hI : wI WC ad) {σ : St} {o1 : Nat} {x2 : Int32} {x3 : Int32} (ho1 : isSt o1) {res : Int32 × St} (hf : f_X3_gainOfSwap σ o1 x2 x3 = some res) : wC WC ad D cy z l yX3_gainOfSwap (Cond.code yX3_gainOfSwap cX3_gainOfSwap 4 (Option.some Jvm.ClassFile.FieldType.int) :: aw) (7) (244) [.ref (ad 30), .ref (ad o1), .int x2, .int x3] σ (wQi WC ad D cy res.1 res.2) := by
  unfold f_X3_gainOfSwap at hf
  refine wr_start (own := RX3) hI (by decide +kernel) rfl (Nat.le_of_ble_eq_true rfl) rfl ?_
  intro p e s m below meth c ls X hw hr hl
  have hx := X.hx
  have hb := X.hb
  obtain ⟨H, eH⟩ : ∃ H : Heap, H = s.heap := ⟨_, rfl⟩
  obtain ⟨locs, el⟩ : ∃ locs : List Loc, locs = [] := ⟨_, rfl⟩
  rw [← eH, ← el] at hw ⊢
  clear eH el
  replace hl : lv_has ls 4 [(0, .ref (ad 30)), (1, .ref (ad o1)), (2, .int x2), (3, .int x3)] := hl
  refine lv_aload_n hx hb dX3_gainOfSwap_0 rfl (lv_at hl 0 rfl) ?_
  refine gX3_2 (b := 42) X hw sC30 nC30 rfl fl_X3_12 dX3_gainOfSwap_1 ?_
  refine lv_aload_n hx hb dX3_gainOfSwap_4 rfl (lv_at hl 1 rfl) ?_
  obtain ⟨σ2, hq1, hf⟩ := bind_some hf
  refine wr_cNv (σ' := σ2) (av := [.ref (ad o1)]) (rest := []) X hw hl.1 (isSt.s0 st_trial) (isSt.n0 st_trial) rfl (k_X6_copyFrom hI st_trial ho1 hq1) rfl mn_X3_33 im_X6_copyFrom se_X6_copyFrom ini_X6 co_X6_copyFrom hd_X6_copyFrom ⟨Nat.le_of_ble_eq_true rfl, Nat.le_of_ble_eq_true rfl⟩ (Nat.le_of_ble_eq_true rfl) dX3_gainOfSwap_5 rfl (fun H locs hw => ?_)
  refine lv_aload_n hx hb dX3_gainOfSwap_8 rfl (lv_at hl 0 rfl) ?_
  refine gX3_2 (b := 42) X hw sC30 nC30 rfl fl_X3_12 dX3_gainOfSwap_9 ?_
  refine lv_iload_n hx hb dX3_gainOfSwap_12 rfl (lv_at hl 2 rfl) ?_
  refine lv_iload_n hx hb dX3_gainOfSwap_13 rfl (lv_at hl 3 rfl) ?_
  obtain ⟨σ4, hq3, hf⟩ := bind_some hf
  refine wr_cNv (σ' := σ4) (av := [.int x2, .int x3]) (rest := []) X hw hl.1 (isSt.s0 st_trial) (isSt.n0 st_trial) rfl (k_X6_swap hI st_trial hq3) rfl mn_X3_37 im_X6_swap se_X6_swap ini_X6 co_X6_swap hd_X6_swap ⟨Nat.le_of_ble_eq_true rfl, Nat.le_of_ble_eq_true rfl⟩ (Nat.le_of_ble_eq_true rfl) dX3_gainOfSwap_14 rfl (fun H locs hw => ?_)
  refine lv_aload_n hx hb dX3_gainOfSwap_17 rfl (lv_at hl 0 rfl) ?_
  refine gX3_1 (b := 21) X hw sC30 nC30 rfl fl_X3_22 dX3_gainOfSwap_18 ?_
  refine lv_aload_n hx hb dX3_gainOfSwap_21 rfl (lv_at hl 1 rfl) ?_
  obtain ⟨v6, σ7, hq5, hf⟩ := bnd2_some hf
  refine wr_cNi (r := v6) (σ' := σ7) (av := [.ref (ad o1)]) (rest := []) X hw hl.1 sC21 nC21 rfl (k_X1_allSuffering hI ho1 hq5) rfl mn_X3_41 im_X1_allSuffering se_X1_allSuffering ini_X1 co_X1_allSuffering hd_X1_allSuffering ⟨Nat.le_of_ble_eq_true rfl, Nat.le_of_ble_eq_true rfl⟩ (Nat.le_of_ble_eq_true rfl) dX3_gainOfSwap_22 rfl (fun H locs hw => ?_)
  refine lv_aload_n hx hb dX3_gainOfSwap_25 rfl (lv_at hl 0 rfl) ?_
  refine gX3_1 (b := 21) X hw sC30 nC30 rfl fl_X3_22 dX3_gainOfSwap_26 ?_
  refine lv_aload_n hx hb dX3_gainOfSwap_29 rfl (lv_at hl 0 rfl) ?_
  refine gX3_2 (b := 42) X hw sC30 nC30 rfl fl_X3_12 dX3_gainOfSwap_30 ?_
  obtain ⟨v9, σ10, hq8, hf⟩ := bnd2_some hf
  refine wr_cNi (r := v9) (σ' := σ10) (av := [.ref (ad 42)]) (rest := [.int v6]) X hw hl.1 sC21 nC21 rfl (k_X1_allSuffering hI st_trial hq8) rfl mn_X3_41 im_X1_allSuffering se_X1_allSuffering ini_X1 co_X1_allSuffering hd_X1_allSuffering ⟨Nat.le_of_ble_eq_true rfl, Nat.le_of_ble_eq_true rfl⟩ (Nat.le_of_ble_eq_true rfl) dX3_gainOfSwap_33 rfl (fun H locs hw => ?_)
  refine lv_isub hx hb dX3_gainOfSwap_36 ?_
  have er := Option.some.inj hf
  subst er
  exact wr_iret X hw hr (Or.inl rfl) dX3_gainOfSwap_37

def f_X3_seekLighter (σ : St) (o1 : Nat) : Option (St) := wlet (si σ 30 3 (-2 : Int32)) fun σ1 => wlet (un2 (fun (σ8_2 : St) (x2_8_2 : Int32) => if (7 : Int32) ≤ x2_8_2 then (some (.inr σ8_2)) else (Option.bind (f_X6_isListed σ8_2 o1 x2_8_2) fun v5 => if v5 = 0 then (wlet (x2_8_2 + (1 : Int32)) fun v7 => some (.inl (σ8_2, v7))) else (Option.bind (f_X6_copyFrom σ8_2 42 o1) fun σ9 => Option.bind (f_X6_strike σ9 42 x2_8_2) fun σ11 => bnd2 (f_X1_allSuffering σ11 42) fun v13 σ14 => wlet (fun (_ : Unit) => (wlet (si σ14 30 3 x2_8_2) fun σ16 => wlet (si σ16 30 4 v13) fun σ17 => wlet (x2_8_2 + (1 : Int32)) fun v18 => some (.inl (σ17, v18)) : Option ((St × Int32) ⊕ (St)))) fun k67_15 => if (σ14.1 30 3) = (-2 : Int32) then (k67_15 ()) else (if (σ14.1 30 4) ≤ v13 then (wlet (x2_8_2 + (1 : Int32)) fun v21 => some (.inl (σ14, v21))) else (k67_15 ()))))) : St × Int32 → Option ((St × Int32) ⊕ (St))) fun st8_2 => Option.bind (lp st8_2 fuel (σ1, (0 : Int32))) ((fun (σe8_2 : St) => some σe8_2))
theorem hd_X3_seekLighter : yX3_seekLighter.cls = RX3 ∧ yX3_seekLighter.cls ≠ "java/lang/invoke/MethodHandle" ∧ yX3_seekLighter.cls ≠ "java/lang/invoke/VarHandle" ∧ (parseMethodDescriptor yX3_seekLighter.desc).map (fun d => d.parameters.length) = some 1 := by decide +kernel
set_option maxRecDepth 100000 in
set_option maxHeartbeats 4000000 in
theorem k_X3_seekLighter {l : Launch} {ad : Nat → Nat} {D : va_G} {cy : Nat → ClassId} {z : wStr} (hI : wI WC ad) {σ : St} {o1 : Nat} (ho1 : isSt o1) {res : St} (hf : f_X3_seekLighter σ o1 = some res) : wC WC ad D cy z l yX3_seekLighter (Cond.code yX3_seekLighter cX3_seekLighter 4 (none) :: aw) (7) (244) [.ref (ad 30), .ref (ad o1)] σ (wQv WC ad D cy res) := by
  unfold f_X3_seekLighter at hf
  refine wr_start (own := RX3) hI (by decide +kernel) rfl (Nat.le_of_ble_eq_true rfl) rfl ?_
  intro p e s m below meth c ls X hw hr hl
  have hx := X.hx
  have hb := X.hb
  obtain ⟨H, eH⟩ : ∃ H : Heap, H = s.heap := ⟨_, rfl⟩
  obtain ⟨locs, el⟩ : ∃ locs : List Loc, locs = [] := ⟨_, rfl⟩
  rw [← eH, ← el] at hw ⊢
  clear eH el
  replace hl : lv_has ls 4 [(0, .ref (ad 30)), (1, .ref (ad o1))] := hl
  refine lv_aload_n hx hb dX3_seekLighter_0 rfl (lv_at hl 0 rfl) ?_
  refine lv_bipush (v := -2) hx hb dX3_seekLighter_1 (by decide) ?_
  obtain ⟨σ1, eσ1, hf⟩ := wlet_some hf
  refine pX3_3 X hw sC30 nC30 fl_X3_26 dX3_seekLighter_3 (fun H locs hw => ?_)
  replace hw := hw.to eσ1
  refine lv_iconst (v := 0) hx hb dX3_seekLighter_6 (by decide) ?_
  refine lv_istore_n (lv' := [(2, .int (0 : Int32)), (0, .ref (ad 30)), (1, .ref (ad o1))]) hx hb dX3_seekLighter_7 rfl hl (by decide) rfl (fun ls hl => ?_)
  obtain ⟨st8_2, est8_2, hf⟩ := wlet_some hf
  obtain ⟨E8_2, hq8_2, hE8_2⟩ := bind_some hf
  have hx8_2 : ∀ (σe8_2 : St) (_ : σe8_2 = E8_2) (ls : Array Slot) (H : Heap) (locs : List Loc), lv_has ls 4 [] → wH WC ad D cy s σe8_2 H locs → W p l e { frames := 7, cells := 0, slots := 0, locals := 244 } s m [.ref (ad 30), .ref (ad o1)].toArray below meth c H locs 0 0 (MQ below (wQv WC ad D cy res) [.ref (ad 30), .ref (ad o1)].toArray s 0 0 (wA WC ad)) (F0 m 83 ls []) := by
    intro σe8_2 e0 ls H locs hl hw
    subst e0
    have hf := hE8_2
    have er := Option.some.inj hf
    subst er
    exact wr_vret X hw hr dX3_seekLighter_83
  have lo8_2 : ∀ (n : Nat) (σ8_2 : St) (x2_8_2 : Int32) (_ : lp st8_2 n (σ8_2, x2_8_2) = some E8_2) (ls : Array Slot) (H : Heap) (locs : List Loc), lv_has ls 4 [(0, .ref (ad 30)), (1, .ref (ad o1)), (2, .int x2_8_2)] → wH WC ad D cy s σ8_2 H locs → W p l e { frames := 7, cells := 0, slots := 0, locals := 244 } s m [.ref (ad 30), .ref (ad o1)].toArray below meth c H locs 0 0 (MQ below (wQv WC ad D cy res) [.ref (ad 30), .ref (ad o1)].toArray s 0 0 (wA WC ad)) (F0 m 8 ls []) := by
    intro n
    induction n with
    | zero =>
      intro σ8_2 x2_8_2 hf ls H locs hl hw
      exact (lp_zero hf).elim
    | succ n ih8_2 =>
      intro σ8_2 x2_8_2 hf ls H locs hl hw
      obtain ⟨q8_2, hf, hz8_2⟩ := lp_succ hf
      rw [est8_2] at hf
      replace hf := un2_some hf
      refine lv_iload_n hx hb dX3_seekLighter_8 rfl (lv_at hl 2 rfl) ?_
      refine lv_bipush (v := 7) hx hb dX3_seekLighter_9 (by decide) ?_
      refine lv_icmp_ge (tgt := 83) hx hb dX3_seekLighter_11 (by decide) (fun c3 => ?_) (fun c3 => ?_)
      · have hf := (if_pos c3).symm.trans hf
        exact hx8_2 σ8_2 (lpK_inr (lp_leaf hf hz8_2)) ls H locs (lv_sub hl [] rfl) hw
      · have hf := (if_neg c3).symm.trans hf
        refine lv_aload_n hx hb dX3_seekLighter_14 rfl (lv_at hl 1 rfl) ?_
        refine lv_iload_n hx hb dX3_seekLighter_15 rfl (lv_at hl 2 rfl) ?_
        obtain ⟨v5, hq4, hf⟩ := bind_some hf
        refine wr_cNi (r := v5) (σ' := σ8_2) (av := [.int x2_8_2]) (rest := []) X hw hl.1 (isSt.s0 ho1) (isSt.n0 ho1) rfl (k_X6_isListed hI ho1 hq4) rfl mn_X3_47 im_X6_isListed se_X6_isListed ini_X6 co_X6_isListed hd_X6_isListed ⟨Nat.le_of_ble_eq_true rfl, Nat.le_of_ble_eq_true rfl⟩ (Nat.le_of_ble_eq_true rfl) dX3_seekLighter_16 rfl (fun H locs hw => ?_)
        refine lv_if_eq (tgt := 77) hx hb dX3_seekLighter_19 (by decide) (fun c6 => ?_) (fun c6 => ?_)
        · have hf := (if_pos c6).symm.trans hf
          obtain ⟨v7, ev7, hf⟩ := wlet_some hf
          refine lv_iinc (v := v7) (lv' := [(2, .int v7), (0, .ref (ad 30)), (1, .ref (ad o1))]) hx hb dX3_seekLighter_77 hl (k := 2) rfl (by rw [ev7]; rfl) (by decide) rfl (fun ls hl => ?_)
          refine lv_goto (tgt := 8) hx hb dX3_seekLighter_80 (by decide) ?_
          exact ih8_2 σ8_2 v7 (lp_leaf hf hz8_2) ls H locs (lv_sub hl [1, 2, 0] rfl) hw
        · have hf := (if_neg c6).symm.trans hf
          refine lv_aload_n hx hb dX3_seekLighter_22 rfl (lv_at hl 0 rfl) ?_
          refine gX3_2 (b := 42) X hw sC30 nC30 rfl fl_X3_12 dX3_seekLighter_23 ?_
          refine lv_aload_n hx hb dX3_seekLighter_26 rfl (lv_at hl 1 rfl) ?_
          obtain ⟨σ9, hq8, hf⟩ := bind_some hf
          refine wr_cNv (σ' := σ9) (av := [.ref (ad o1)]) (rest := []) X hw hl.1 (isSt.s0 st_trial) (isSt.n0 st_trial) rfl (k_X6_copyFrom hI st_trial ho1 hq8) rfl mn_X3_33 im_X6_copyFrom se_X6_copyFrom ini_X6 co_X6_copyFrom hd_X6_copyFrom ⟨Nat.le_of_ble_eq_true rfl, Nat.le_of_ble_eq_true rfl⟩ (Nat.le_of_ble_eq_true rfl) dX3_seekLighter_27 rfl (fun H locs hw => ?_)
          refine lv_aload_n hx hb dX3_seekLighter_30 rfl (lv_at hl 0 rfl) ?_
          refine gX3_2 (b := 42) X hw sC30 nC30 rfl fl_X3_12 dX3_seekLighter_31 ?_
          refine lv_iload_n hx hb dX3_seekLighter_34 rfl (lv_at hl 2 rfl) ?_
          obtain ⟨σ11, hq10, hf⟩ := bind_some hf
          refine wr_cNv (σ' := σ11) (av := [.int x2_8_2]) (rest := []) X hw hl.1 (isSt.s0 st_trial) (isSt.n0 st_trial) rfl (k_X6_strike hI st_trial hq10) rfl mn_X3_99 im_X6_strike se_X6_strike ini_X6 co_X6_strike hd_X6_strike ⟨Nat.le_of_ble_eq_true rfl, Nat.le_of_ble_eq_true rfl⟩ (Nat.le_of_ble_eq_true rfl) dX3_seekLighter_35 rfl (fun H locs hw => ?_)
          refine lv_aload_n hx hb dX3_seekLighter_38 rfl (lv_at hl 0 rfl) ?_
          refine gX3_1 (b := 21) X hw sC30 nC30 rfl fl_X3_22 dX3_seekLighter_39 ?_
          refine lv_aload_n hx hb dX3_seekLighter_42 rfl (lv_at hl 0 rfl) ?_
          refine gX3_2 (b := 42) X hw sC30 nC30 rfl fl_X3_12 dX3_seekLighter_43 ?_
          obtain ⟨v13, σ14, hq12, hf⟩ := bnd2_some hf
          refine wr_cNi (r := v13) (σ' := σ14) (av := [.ref (ad 42)]) (rest := []) X hw hl.1 sC21 nC21 rfl (k_X1_allSuffering hI st_trial hq12) rfl mn_X3_41 im_X1_allSuffering se_X1_allSuffering ini_X1 co_X1_allSuffering hd_X1_allSuffering ⟨Nat.le_of_ble_eq_true rfl, Nat.le_of_ble_eq_true rfl⟩ (Nat.le_of_ble_eq_true rfl) dX3_seekLighter_46 rfl (fun H locs hw => ?_)
          refine lv_istore_n (lv' := [(3, .int v13), (0, .ref (ad 30)), (1, .ref (ad o1)), (2, .int x2_8_2)]) hx hb dX3_seekLighter_49 rfl hl (by decide) rfl (fun ls hl => ?_)
          refine lv_aload_n hx hb dX3_seekLighter_50 rfl (lv_at hl 1 rfl) ?_
          refine gX3_3 X hw sC30 nC30 fl_X3_26 dX3_seekLighter_51 ?_
          refine lv_bipush (v := -2) hx hb dX3_seekLighter_54 (by decide) ?_
          obtain ⟨k67_15, ek67_15, hf0⟩ := wlet_some hf
          have j67_15 : ∀ (_ : k67_15 () = some q8_2) (ls : Array Slot) (H : Heap) (locs : List Loc), lv_has ls 4 [(0, .ref (ad 30)), (1, .ref (ad o1)), (2, .int x2_8_2), (3, .int v13)] → wH WC ad D cy s σ14 H locs → W p l e { frames := 7, cells := 0, slots := 0, locals := 244 } s m [.ref (ad 30), .ref (ad o1)].toArray below meth c H locs 0 0 (MQ below (wQv WC ad D cy res) [.ref (ad 30), .ref (ad o1)].toArray s 0 0 (wA WC ad)) (F0 m 67 ls []) := by
            intro  hf ls H locs hl hw
            rw [ek67_15] at hf
            refine lv_aload_n hx hb dX3_seekLighter_67 rfl (lv_at hl 0 rfl) ?_
            refine lv_iload_n hx hb dX3_seekLighter_68 rfl (lv_at hl 2 rfl) ?_
            obtain ⟨σ16, eσ16, hf⟩ := wlet_some hf
            refine pX3_3 X hw sC30 nC30 fl_X3_26 dX3_seekLighter_69 (fun H locs hw => ?_)
            replace hw := hw.to eσ16
            refine lv_aload_n hx hb dX3_seekLighter_72 rfl (lv_at hl 0 rfl) ?_
            refine lv_iload_n hx hb dX3_seekLighter_73 rfl (lv_at hl 3 rfl) ?_
            obtain ⟨σ17, eσ17, hf⟩ := wlet_some hf
            refine pX3_4 X hw sC30 nC30 fl_X3_30 dX3_seekLighter_74 (fun H locs hw => ?_)
            replace hw := hw.to eσ17
            obtain ⟨v18, ev18, hf⟩ := wlet_some hf
            refine lv_iinc (v := v18) (lv' := [(2, .int v18), (0, .ref (ad 30)), (1, .ref (ad o1)), (3, .int v13)]) hx hb dX3_seekLighter_77 hl (k := 2) rfl (by rw [ev18]; rfl) (by decide) rfl (fun ls hl => ?_)
            refine lv_goto (tgt := 8) hx hb dX3_seekLighter_80 (by decide) ?_
            exact ih8_2 σ17 v18 (lp_leaf hf hz8_2) ls H locs (lv_sub hl [1, 2, 0] rfl) hw
          replace hf := hf0
          refine lv_icmp_eq (tgt := 67) hx hb dX3_seekLighter_56 (by decide) (fun c19 => ?_) (fun c19 => ?_)
          · have hf := (if_pos c19).symm.trans hf
            exact j67_15 hf ls H locs (lv_sub hl [1, 2, 3, 0] rfl) hw
          · have hf := (if_neg c19).symm.trans hf
            refine lv_iload_n hx hb dX3_seekLighter_59 rfl (lv_at hl 0 rfl) ?_
            refine lv_aload_n hx hb dX3_seekLighter_60 rfl (lv_at hl 1 rfl) ?_
            refine gX3_4 X hw sC30 nC30 fl_X3_30 dX3_seekLighter_61 ?_
            refine lv_icmp_ge (tgt := 77) hx hb dX3_seekLighter_64 (by decide) (fun c20 => ?_) (fun c20 => ?_)
            · have hf := (if_pos c20).symm.trans hf
              obtain ⟨v21, ev21, hf⟩ := wlet_some hf
              refine lv_iinc (v := v21) (lv' := [(2, .int v21), (3, .int v13), (0, .ref (ad 30)), (1, .ref (ad o1))]) hx hb dX3_seekLighter_77 hl (k := 3) rfl (by rw [ev21]; rfl) (by decide) rfl (fun ls hl => ?_)
              refine lv_goto (tgt := 8) hx hb dX3_seekLighter_80 (by decide) ?_
              exact ih8_2 σ14 v21 (lp_leaf hf hz8_2) ls H locs (lv_sub hl [2, 3, 0] rfl) hw
            · have hf := (if_neg c20).symm.trans hf
              exact j67_15 hf ls H locs (lv_sub hl [1, 2, 3, 0] rfl) hw
  exact lo8_2 fuel σ1 (0 : Int32) hq8_2 ls H locs (lv_sub hl [1, 2, 0] rfl) hw

def f_X3_inSessions (σ : St) (o1 : Nat) (x2 : Int32) : Option (St) := Option.bind (f_X6_copyFrom σ 42 o1) fun σ2 => Option.bind (f_X1_goThrough σ2 42 x2 (σ2.1 4 8)) fun σ4 => some σ4
theorem hd_X3_inSessions : yX3_inSessions.cls = RX3 ∧ yX3_inSessions.cls ≠ "java/lang/invoke/MethodHandle" ∧ yX3_inSessions.cls ≠ "java/lang/invoke/VarHandle" ∧ (parseMethodDescriptor yX3_inSessions.desc).map (fun d => d.parameters.length) = some 2 := by decide +kernel
set_option maxRecDepth 100000 in
set_option maxHeartbeats 4000000 in
theorem k_X3_inSessions {l : Launch} {ad : Nat → Nat} {D : va_G} {cy : Nat → ClassId} {z : wStr} (hI : wI WC ad) {σ : St} {o1 : Nat} {x2 : Int32} (ho1 : isSt o1) {res : St} (hf : f_X3_inSessions σ o1 x2 = some res) : wC WC ad D cy z l yX3_inSessions (Cond.code yX3_inSessions cX3_inSessions 3 (Option.some (Jvm.ClassFile.FieldType.object "CaseBefore$State")) :: aw) (7) (249) [.ref (ad 30), .ref (ad o1), .int x2] σ (wQr WC ad D cy 42 res) := by
  unfold f_X3_inSessions at hf
  refine wr_start (own := RX3) hI (by decide +kernel) rfl (Nat.le_of_ble_eq_true rfl) rfl ?_
  intro p e s m below meth c ls X hw hr hl
  have hx := X.hx
  have hb := X.hb
  obtain ⟨H, eH⟩ : ∃ H : Heap, H = s.heap := ⟨_, rfl⟩
  obtain ⟨locs, el⟩ : ∃ locs : List Loc, locs = [] := ⟨_, rfl⟩
  rw [← eH, ← el] at hw ⊢
  clear eH el
  replace hl : lv_has ls 3 [(0, .ref (ad 30)), (1, .ref (ad o1)), (2, .int x2)] := hl
  refine lv_aload_n hx hb dX3_inSessions_0 rfl (lv_at hl 0 rfl) ?_
  refine gX3_2 (b := 42) X hw sC30 nC30 rfl fl_X3_12 dX3_inSessions_1 ?_
  refine lv_aload_n hx hb dX3_inSessions_4 rfl (lv_at hl 1 rfl) ?_
  obtain ⟨σ2, hq1, hf⟩ := bind_some hf
  refine wr_cNv (σ' := σ2) (av := [.ref (ad o1)]) (rest := []) X hw hl.1 (isSt.s0 st_trial) (isSt.n0 st_trial) rfl (k_X6_copyFrom hI st_trial ho1 hq1) rfl mn_X3_33 im_X6_copyFrom se_X6_copyFrom ini_X6 co_X6_copyFrom hd_X6_copyFrom ⟨Nat.le_of_ble_eq_true rfl, Nat.le_of_ble_eq_true rfl⟩ (Nat.le_of_ble_eq_true rfl) dX3_inSessions_5 rfl (fun H locs hw => ?_)
  refine lv_aload_n hx hb dX3_inSessions_8 rfl (lv_at hl 0 rfl) ?_
  refine gX3_1 (b := 21) X hw sC30 nC30 rfl fl_X3_22 dX3_inSessions_9 ?_
  refine lv_aload_n hx hb dX3_inSessions_12 rfl (lv_at hl 0 rfl) ?_
  refine gX3_2 (b := 42) X hw sC30 nC30 rfl fl_X3_12 dX3_inSessions_13 ?_
  refine lv_iload_n hx hb dX3_inSessions_16 rfl (lv_at hl 2 rfl) ?_
  refine lv_aload_n hx hb dX3_inSessions_17 rfl (lv_at hl 0 rfl) ?_
  refine gX3_0 (b := 4) X hw sC30 nC30 rfl fl_X3_18 dX3_inSessions_18 ?_
  refine gnX8_8 X hw sC4 nC4 fn_X3_105 dX3_inSessions_21 ?_
  obtain ⟨σ4, hq3, hf⟩ := bind_some hf
  refine wr_cNv (σ' := σ4) (av := [.ref (ad 42), .int x2, .int (σ2.1 4 8)]) (rest := []) X hw hl.1 sC21 nC21 rfl (k_X1_goThrough hI st_trial hq3) rfl mn_X3_108 im_X1_goThrough se_X1_goThrough ini_X1 co_X1_goThrough hd_X1_goThrough ⟨Nat.le_of_ble_eq_true rfl, Nat.le_of_ble_eq_true rfl⟩ (Nat.le_of_ble_eq_true rfl) dX3_inSessions_24 rfl (fun H locs hw => ?_)
  refine lv_aload_n hx hb dX3_inSessions_27 rfl (lv_at hl 0 rfl) ?_
  refine gX3_2 (b := 42) X hw sC30 nC30 rfl fl_X3_12 dX3_inSessions_28 ?_
  have er := Option.some.inj hf
  subst er
  exact wr_aret X hw hr (Or.inl ⟨_, rfl⟩) dX3_inSessions_31

def f_X3_doomsBehind (σ : St) (o1 : Nat) (x2 : Int32) : Option (Int32 × St) := wlet (un3 (fun (σ5_1 : St) (x3_5_1 : Int32) (x4_5_1 : Int32) => if (σ5_1.1 o1 3) ≤ x4_5_1 then (some (.inr (σ5_1, x3_5_1))) else (Option.bind (f_X6_docketAt σ5_1 o1 x4_5_1) fun v4 => if v4 = x2 then (wlet (x4_5_1 + (1 : Int32)) fun v6 => some (.inl (σ5_1, x3_5_1, v6))) else (Option.bind (f_X6_aheadOf σ5_1 o1 x4_5_1) fun v8 => Option.bind (f_X1_seat σ5_1 o1 v4 x4_5_1 v8) fun σ10 => Option.bind (f_X8_deedOf σ10 4 x2) fun v12 => bnd2 (f_X1_sentence σ10 (0 : Int32) v12) fun v14 σ15 => wlet (x3_5_1 + v14) fun v16 => wlet (x4_5_1 + (1 : Int32)) fun v17 => some (.inl (σ15, v16, v17))))) : St × Int32 × Int32 → Option ((St × Int32 × Int32) ⊕ (St × Int32))) fun st5_1 => Option.bind (lp st5_1 fuel (σ, (0 : Int32), (0 : Int32))) ((un2 (fun (σe5_1 : St) (x3_e5_1 : Int32) => some (x3_e5_1, σe5_1))))
theorem hd_X3_doomsBehind : yX3_doomsBehind.cls = RX3 ∧ yX3_doomsBehind.cls ≠ "java/lang/invoke/MethodHandle" ∧ yX3_doomsBehind.cls ≠ "java/lang/invoke/VarHandle" ∧ (parseMethodDescriptor yX3_doomsBehind.desc).map (fun d => d.parameters.length) = some 2 := by decide +kernel
set_option maxRecDepth 100000 in
set_option maxHeartbeats 4000000 in
theorem k_X3_doomsBehind {l : Launch} {ad : Nat → Nat} {D : va_G} {cy : Nat → ClassId} {z : wStr} (hI : wI WC ad) {σ : St} {o1 : Nat} {x2 : Int32} (ho1 : isSt o1) {res : Int32 × St} (hf : f_X3_doomsBehind σ o1 x2 = some res) : wC WC ad D cy z l yX3_doomsBehind (Cond.code yX3_doomsBehind cX3_doomsBehind 6 (Option.some Jvm.ClassFile.FieldType.int) :: aw) (4) (173) [.ref (ad 30), .ref (ad o1), .int x2] σ (wQi WC ad D cy res.1 res.2) := by
  unfold f_X3_doomsBehind at hf
  refine wr_start (own := RX3) hI (by decide +kernel) rfl (Nat.le_of_ble_eq_true rfl) rfl ?_
  intro p e s m below meth c ls X hw hr hl
  have hx := X.hx
  have hb := X.hb
  obtain ⟨H, eH⟩ : ∃ H : Heap, H = s.heap := ⟨_, rfl⟩
  obtain ⟨locs, el⟩ : ∃ locs : List Loc, locs = [] := ⟨_, rfl⟩
  rw [← eH, ← el] at hw ⊢
  clear eH el
  replace hl : lv_has ls 6 [(0, .ref (ad 30)), (1, .ref (ad o1)), (2, .int x2)] := hl
  refine lv_iconst (v := 0) hx hb dX3_doomsBehind_0 (by decide) ?_
  refine lv_istore_n (lv' := [(3, .int (0 : Int32)), (0, .ref (ad 30)), (1, .ref (ad o1)), (2, .int x2)]) hx hb dX3_doomsBehind_1 rfl hl (by decide) rfl (fun ls hl => ?_)
  refine lv_iconst (v := 0) hx hb dX3_doomsBehind_2 (by decide) ?_
  refine lv_istore (lv' := [(4, .int (0 : Int32)), (3, .int (0 : Int32)), (0, .ref (ad 30)), (1, .ref (ad o1)), (2, .int x2)]) hx hb dX3_doomsBehind_3 hl (by decide) rfl (fun ls hl => ?_)
  obtain ⟨st5_1, est5_1, hf⟩ := wlet_some hf
  obtain ⟨E5_1, hq5_1, hE5_1⟩ := bind_some hf
  have hx5_1 : ∀ (σe5_1 : St) (x3_e5_1 : Int32) (_ : (σe5_1, x3_e5_1) = E5_1) (ls : Array Slot) (H : Heap) (locs : List Loc), lv_has ls 6 [(3, .int x3_e5_1)] → wH WC ad D cy s σe5_1 H locs → W p l e { frames := 4, cells := 0, slots := 0, locals := 173 } s m [.ref (ad 30), .ref (ad o1), .int x2].toArray below meth c H locs 0 0 (MQ below (wQi WC ad D cy res.1 res.2) [.ref (ad 30), .ref (ad o1), .int x2].toArray s 0 0 (wA WC ad)) (F0 m 71 ls []) := by
    intro σe5_1 x3_e5_1 e0 ls H locs hl hw
    subst e0
    have hf := hE5_1
    replace hf := un2_some hf
    refine lv_iload_n hx hb dX3_doomsBehind_71 rfl (lv_at hl 0 rfl) ?_
    have er := Option.some.inj hf
    subst er
    exact wr_iret X hw hr (Or.inl rfl) dX3_doomsBehind_72
  have lo5_1 : ∀ (n : Nat) (σ5_1 : St) (x3_5_1 : Int32) (x4_5_1 : Int32) (_ : lp st5_1 n (σ5_1, x3_5_1, x4_5_1) = some E5_1) (ls : Array Slot) (H : Heap) (locs : List Loc), lv_has ls 6 [(0, .ref (ad 30)), (1, .ref (ad o1)), (2, .int x2), (3, .int x3_5_1), (4, .int x4_5_1)] → wH WC ad D cy s σ5_1 H locs → W p l e { frames := 4, cells := 0, slots := 0, locals := 173 } s m [.ref (ad 30), .ref (ad o1), .int x2].toArray below meth c H locs 0 0 (MQ below (wQi WC ad D cy res.1 res.2) [.ref (ad 30), .ref (ad o1), .int x2].toArray s 0 0 (wA WC ad)) (F0 m 5 ls []) := by
    intro n
    induction n with
    | zero =>
      intro σ5_1 x3_5_1 x4_5_1 hf ls H locs hl hw
      exact (lp_zero hf).elim
    | succ n ih5_1 =>
      intro σ5_1 x3_5_1 x4_5_1 hf ls H locs hl hw
      obtain ⟨q5_1, hf, hz5_1⟩ := lp_succ hf
      rw [est5_1] at hf
      replace hf := un3_some hf
      refine lv_iload hx hb dX3_doomsBehind_5 (lv_at hl 4 rfl) ?_
      refine lv_aload_n hx hb dX3_doomsBehind_7 rfl (lv_at hl 1 rfl) ?_
      refine gnX6_3 X hw (isSt.s0 ho1) (isSt.n0 ho1) fn_X3_55 dX3_doomsBehind_8 ?_
      refine lv_icmp_ge (tgt := 71) hx hb dX3_doomsBehind_11 (by decide) (fun c2 => ?_) (fun c2 => ?_)
      · have hf := (if_pos c2).symm.trans hf
        exact hx5_1 σ5_1 x3_5_1 (lpK_inr (lp_leaf hf hz5_1)) ls H locs (lv_sub hl [3] rfl) hw
      · have hf := (if_neg c2).symm.trans hf
        refine lv_aload_n hx hb dX3_doomsBehind_14 rfl (lv_at hl 1 rfl) ?_
        refine lv_iload hx hb dX3_doomsBehind_15 (lv_at hl 4 rfl) ?_
        obtain ⟨v4, hq3, hf⟩ := bind_some hf
        refine wr_cNi (r := v4) (σ' := σ5_1) (av := [.int x4_5_1]) (rest := []) X hw hl.1 (isSt.s0 ho1) (isSt.n0 ho1) rfl (k_X6_docketAt hI ho1 hq3) rfl mn_X3_58 im_X6_docketAt se_X6_docketAt ini_X6 co_X6_docketAt hd_X6_docketAt ⟨Nat.le_of_ble_eq_true rfl, Nat.le_of_ble_eq_true rfl⟩ (Nat.le_of_ble_eq_true rfl) dX3_doomsBehind_17 rfl (fun H locs hw => ?_)
        refine lv_istore (lv' := [(5, .int v4), (0, .ref (ad 30)), (1, .ref (ad o1)), (2, .int x2), (3, .int x3_5_1), (4, .int x4_5_1)]) hx hb dX3_doomsBehind_20 hl (by decide) rfl (fun ls hl => ?_)
        refine lv_iload hx hb dX3_doomsBehind_22 (lv_at hl 0 rfl) ?_
        refine lv_iload_n hx hb dX3_doomsBehind_24 rfl (lv_at hl 3 rfl) ?_
        refine lv_icmp_eq (tgt := 65) hx hb dX3_doomsBehind_25 (by decide) (fun c5 => ?_) (fun c5 => ?_)
        · have hf := (if_pos c5).symm.trans hf
          obtain ⟨v6, ev6, hf⟩ := wlet_some hf
          refine lv_iinc (v := v6) (lv' := [(4, .int v6), (5, .int v4), (0, .ref (ad 30)), (1, .ref (ad o1)), (2, .int x2), (3, .int x3_5_1)]) hx hb dX3_doomsBehind_65 hl (k := 5) rfl (by rw [ev6]; rfl) (by decide) rfl (fun ls hl => ?_)
          refine lv_goto (tgt := 5) hx hb dX3_doomsBehind_68 (by decide) ?_
          exact ih5_1 σ5_1 x3_5_1 v6 (lp_leaf hf hz5_1) ls H locs (lv_sub hl [2, 3, 4, 5, 0] rfl) hw
        · have hf := (if_neg c5).symm.trans hf
          refine lv_aload_n hx hb dX3_doomsBehind_28 rfl (lv_at hl 1 rfl) ?_
          refine gX3_1 (b := 21) X hw sC30 nC30 rfl fl_X3_22 dX3_doomsBehind_29 ?_
          refine lv_aload_n hx hb dX3_doomsBehind_32 rfl (lv_at hl 2 rfl) ?_
          refine lv_iload hx hb dX3_doomsBehind_33 (lv_at hl 0 rfl) ?_
          refine lv_iload hx hb dX3_doomsBehind_35 (lv_at hl 5 rfl) ?_
          refine lv_aload_n hx hb dX3_doomsBehind_37 rfl (lv_at hl 2 rfl) ?_
          refine lv_iload hx hb dX3_doomsBehind_38 (lv_at hl 5 rfl) ?_
          obtain ⟨v8, hq7, hf⟩ := bind_some hf
          refine wr_cNi (r := v8) (σ' := σ5_1) (av := [.int x4_5_1]) (rest := [.int x4_5_1, .int v4, .ref (ad o1), .ref (ad 21)]) X hw hl.1 (isSt.s0 ho1) (isSt.n0 ho1) rfl (k_X6_aheadOf hI ho1 hq7) rfl mn_X3_62 im_X6_aheadOf se_X6_aheadOf ini_X6 co_X6_aheadOf hd_X6_aheadOf ⟨Nat.le_of_ble_eq_true rfl, Nat.le_of_ble_eq_true rfl⟩ (Nat.le_of_ble_eq_true rfl) dX3_doomsBehind_40 rfl (fun H locs hw => ?_)
          obtain ⟨σ10, hq9, hf⟩ := bind_some hf
          refine wr_cNv (σ' := σ10) (av := [.ref (ad o1), .int v4, .int x4_5_1, .int v8]) (rest := []) X hw hl.1 sC21 nC21 rfl (k_X1_seat hI ho1 hq9) rfl mn_X3_65 im_X1_seat se_X1_seat ini_X1 co_X1_seat hd_X1_seat ⟨Nat.le_of_ble_eq_true rfl, Nat.le_of_ble_eq_true rfl⟩ (Nat.le_of_ble_eq_true rfl) dX3_doomsBehind_43 rfl (fun H locs hw => ?_)
          refine lv_iload_n hx hb dX3_doomsBehind_46 rfl (lv_at hl 4 rfl) ?_
          refine lv_aload_n hx hb dX3_doomsBehind_47 rfl (lv_at hl 1 rfl) ?_
          refine gX3_1 (b := 21) X hw sC30 nC30 rfl fl_X3_22 dX3_doomsBehind_48 ?_
          refine lv_iconst (v := 0) hx hb dX3_doomsBehind_51 (by decide) ?_
          refine lv_aload_n hx hb dX3_doomsBehind_52 rfl (lv_at hl 1 rfl) ?_
          refine gX3_0 (b := 4) X hw sC30 nC30 rfl fl_X3_18 dX3_doomsBehind_53 ?_
          refine lv_iload_n hx hb dX3_doomsBehind_56 rfl (lv_at hl 3 rfl) ?_
          obtain ⟨v12, hq11, hf⟩ := bind_some hf
          refine wr_cNi (r := v12) (σ' := σ10) (av := [.int x2]) (rest := [.int (0 : Int32), .ref (ad 21), .int x3_5_1]) X hw hl.1 sC4 nC4 rfl (k_X8_deedOf hI tx_1 hq11) rfl mn_X3_69 im_X8_deedOf se_X8_deedOf ini_X8 co_X8_deedOf hd_X8_deedOf ⟨Nat.le_of_ble_eq_true rfl, Nat.le_of_ble_eq_true rfl⟩ (Nat.le_of_ble_eq_true rfl) dX3_doomsBehind_57 rfl (fun H locs hw => ?_)
          obtain ⟨v14, σ15, hq13, hf⟩ := bnd2_some hf
          refine wr_cNi (r := v14) (σ' := σ15) (av := [.int (0 : Int32), .int v12]) (rest := [.int x3_5_1]) X hw hl.1 sC21 nC21 rfl (k_X1_sentence hI hq13) rfl mn_X3_74 im_X1_sentence se_X1_sentence ini_X1 co_X1_sentence hd_X1_sentence ⟨Nat.le_of_ble_eq_true rfl, Nat.le_of_ble_eq_true rfl⟩ (Nat.le_of_ble_eq_true rfl) dX3_doomsBehind_60 rfl (fun H locs hw => ?_)
          refine lv_iadd hx hb dX3_doomsBehind_63 ?_
          obtain ⟨v16, ev16, hf⟩ := wlet_some hf
          refine wr_top ev16 ?_
          refine lv_istore_n (lv' := [(3, .int v16), (5, .int v4), (0, .ref (ad 30)), (1, .ref (ad o1)), (2, .int x2), (4, .int x4_5_1)]) hx hb dX3_doomsBehind_64 rfl hl (by decide) rfl (fun ls hl => ?_)
          obtain ⟨v17, ev17, hf⟩ := wlet_some hf
          refine lv_iinc (v := v17) (lv' := [(4, .int v17), (3, .int v16), (5, .int v4), (0, .ref (ad 30)), (1, .ref (ad o1)), (2, .int x2)]) hx hb dX3_doomsBehind_65 hl (k := 5) rfl (by rw [ev17]; rfl) (by decide) rfl (fun ls hl => ?_)
          refine lv_goto (tgt := 5) hx hb dX3_doomsBehind_68 (by decide) ?_
          exact ih5_1 σ15 v16 v17 (lp_leaf hf hz5_1) ls H locs (lv_sub hl [3, 4, 5, 1, 0] rfl) hw
  exact lo5_1 fuel σ (0 : Int32) (0 : Int32) hq5_1 ls H locs (lv_sub hl [2, 3, 4, 1, 0] rfl) hw

def f_X3_seekShunned (σ : St) (o1 : Nat) : Option (St) := wlet (si σ 30 3 (-2 : Int32)) fun σ1 => wlet (un2 (fun (σ8_2 : St) (x2_8_2 : Int32) => if (7 : Int32) ≤ x2_8_2 then (some (.inr σ8_2)) else (Option.bind (f_X6_isListed σ8_2 o1 x2_8_2) fun v5 => if v5 = 0 then (wlet (x2_8_2 + (1 : Int32)) fun v7 => some (.inl (σ8_2, v7))) else (bnd2 (f_X3_doomsBehind σ8_2 o1 x2_8_2) fun v9 σ10 => wlet (fun (_ : Unit) => (wlet (si σ10 30 3 x2_8_2) fun σ12 => wlet (si σ12 30 4 v9) fun σ13 => wlet (x2_8_2 + (1 : Int32)) fun v14 => some (.inl (σ13, v14)) : Option ((St × Int32) ⊕ (St)))) fun k46_11 => if (σ10.1 30 3) = (-2 : Int32) then (k46_11 ()) else (if v9 ≤ (σ10.1 30 4) then (wlet (x2_8_2 + (1 : Int32)) fun v17 => some (.inl (σ10, v17))) else (k46_11 ()))))) : St × Int32 → Option ((St × Int32) ⊕ (St))) fun st8_2 => Option.bind (lp st8_2 fuel (σ1, (0 : Int32))) ((fun (σe8_2 : St) => some σe8_2))
theorem hd_X3_seekShunned : yX3_seekShunned.cls = RX3 ∧ yX3_seekShunned.cls ≠ "java/lang/invoke/MethodHandle" ∧ yX3_seekShunned.cls ≠ "java/lang/invoke/VarHandle" ∧ (parseMethodDescriptor yX3_seekShunned.desc).map (fun d => d.parameters.length) = some 1 := by decide +kernel
set_option maxRecDepth 100000 in
set_option maxHeartbeats 4000000 in
theorem k_X3_seekShunned {l : Launch} {ad : Nat → Nat} {D : va_G} {cy : Nat → ClassId} {z : wStr} (hI : wI WC ad) {σ : St} {o1 : Nat} (ho1 : isSt o1) {res : St} (hf : f_X3_seekShunned σ o1 = some res) : wC WC ad D cy z l yX3_seekShunned (Cond.code yX3_seekShunned cX3_seekShunned 4 (none) :: aw) (5) (198) [.ref (ad 30), .ref (ad o1)] σ (wQv WC ad D cy res) := by
  unfold f_X3_seekShunned at hf
  refine wr_start (own := RX3) hI (by decide +kernel) rfl (Nat.le_of_ble_eq_true rfl) rfl ?_
  intro p e s m below meth c ls X hw hr hl
  have hx := X.hx
  have hb := X.hb
  obtain ⟨H, eH⟩ : ∃ H : Heap, H = s.heap := ⟨_, rfl⟩
  obtain ⟨locs, el⟩ : ∃ locs : List Loc, locs = [] := ⟨_, rfl⟩
  rw [← eH, ← el] at hw ⊢
  clear eH el
  replace hl : lv_has ls 4 [(0, .ref (ad 30)), (1, .ref (ad o1))] := hl
  refine lv_aload_n hx hb dX3_seekShunned_0 rfl (lv_at hl 0 rfl) ?_
  refine lv_bipush (v := -2) hx hb dX3_seekShunned_1 (by decide) ?_
  obtain ⟨σ1, eσ1, hf⟩ := wlet_some hf
  refine pX3_3 X hw sC30 nC30 fl_X3_26 dX3_seekShunned_3 (fun H locs hw => ?_)
  replace hw := hw.to eσ1
  refine lv_iconst (v := 0) hx hb dX3_seekShunned_6 (by decide) ?_
  refine lv_istore_n (lv' := [(2, .int (0 : Int32)), (0, .ref (ad 30)), (1, .ref (ad o1))]) hx hb dX3_seekShunned_7 rfl hl (by decide) rfl (fun ls hl => ?_)
  obtain ⟨st8_2, est8_2, hf⟩ := wlet_some hf
  obtain ⟨E8_2, hq8_2, hE8_2⟩ := bind_some hf
  have hx8_2 : ∀ (σe8_2 : St) (_ : σe8_2 = E8_2) (ls : Array Slot) (H : Heap) (locs : List Loc), lv_has ls 4 [] → wH WC ad D cy s σe8_2 H locs → W p l e { frames := 5, cells := 0, slots := 0, locals := 198 } s m [.ref (ad 30), .ref (ad o1)].toArray below meth c H locs 0 0 (MQ below (wQv WC ad D cy res) [.ref (ad 30), .ref (ad o1)].toArray s 0 0 (wA WC ad)) (F0 m 62 ls []) := by
    intro σe8_2 e0 ls H locs hl hw
    subst e0
    have hf := hE8_2
    have er := Option.some.inj hf
    subst er
    exact wr_vret X hw hr dX3_seekShunned_62
  have lo8_2 : ∀ (n : Nat) (σ8_2 : St) (x2_8_2 : Int32) (_ : lp st8_2 n (σ8_2, x2_8_2) = some E8_2) (ls : Array Slot) (H : Heap) (locs : List Loc), lv_has ls 4 [(0, .ref (ad 30)), (1, .ref (ad o1)), (2, .int x2_8_2)] → wH WC ad D cy s σ8_2 H locs → W p l e { frames := 5, cells := 0, slots := 0, locals := 198 } s m [.ref (ad 30), .ref (ad o1)].toArray below meth c H locs 0 0 (MQ below (wQv WC ad D cy res) [.ref (ad 30), .ref (ad o1)].toArray s 0 0 (wA WC ad)) (F0 m 8 ls []) := by
    intro n
    induction n with
    | zero =>
      intro σ8_2 x2_8_2 hf ls H locs hl hw
      exact (lp_zero hf).elim
    | succ n ih8_2 =>
      intro σ8_2 x2_8_2 hf ls H locs hl hw
      obtain ⟨q8_2, hf, hz8_2⟩ := lp_succ hf
      rw [est8_2] at hf
      replace hf := un2_some hf
      refine lv_iload_n hx hb dX3_seekShunned_8 rfl (lv_at hl 2 rfl) ?_
      refine lv_bipush (v := 7) hx hb dX3_seekShunned_9 (by decide) ?_
      refine lv_icmp_ge (tgt := 62) hx hb dX3_seekShunned_11 (by decide) (fun c3 => ?_) (fun c3 => ?_)
      · have hf := (if_pos c3).symm.trans hf
        exact hx8_2 σ8_2 (lpK_inr (lp_leaf hf hz8_2)) ls H locs (lv_sub hl [] rfl) hw
      · have hf := (if_neg c3).symm.trans hf
        refine lv_aload_n hx hb dX3_seekShunned_14 rfl (lv_at hl 1 rfl) ?_
        refine lv_iload_n hx hb dX3_seekShunned_15 rfl (lv_at hl 2 rfl) ?_
        obtain ⟨v5, hq4, hf⟩ := bind_some hf
        refine wr_cNi (r := v5) (σ' := σ8_2) (av := [.int x2_8_2]) (rest := []) X hw hl.1 (isSt.s0 ho1) (isSt.n0 ho1) rfl (k_X6_isListed hI ho1 hq4) rfl mn_X3_47 im_X6_isListed se_X6_isListed ini_X6 co_X6_isListed hd_X6_isListed ⟨Nat.le_of_ble_eq_true rfl, Nat.le_of_ble_eq_true rfl⟩ (Nat.le_of_ble_eq_true rfl) dX3_seekShunned_16 rfl (fun H locs hw => ?_)
        refine lv_if_eq (tgt := 56) hx hb dX3_seekShunned_19 (by decide) (fun c6 => ?_) (fun c6 => ?_)
        · have hf := (if_pos c6).symm.trans hf
          obtain ⟨v7, ev7, hf⟩ := wlet_some hf
          refine lv_iinc (v := v7) (lv' := [(2, .int v7), (0, .ref (ad 30)), (1, .ref (ad o1))]) hx hb dX3_seekShunned_56 hl (k := 2) rfl (by rw [ev7]; rfl) (by decide) rfl (fun ls hl => ?_)
          refine lv_goto (tgt := 8) hx hb dX3_seekShunned_59 (by decide) ?_
          exact ih8_2 σ8_2 v7 (lp_leaf hf hz8_2) ls H locs (lv_sub hl [1, 2, 0] rfl) hw
        · have hf := (if_neg c6).symm.trans hf
          refine lv_aload_n hx hb dX3_seekShunned_22 rfl (lv_at hl 0 rfl) ?_
          refine lv_aload_n hx hb dX3_seekShunned_23 rfl (lv_at hl 1 rfl) ?_
          refine lv_iload_n hx hb dX3_seekShunned_24 rfl (lv_at hl 2 rfl) ?_
          obtain ⟨v9, σ10, hq8, hf⟩ := bnd2_some hf
          refine wr_cVi (r := v9) (σ' := σ10) (av := [.ref (ad o1), .int x2_8_2]) (rest := []) X hw hl.1 sC30 nC30 rfl (k_X3_doomsBehind hI ho1 hq8) rfl ml_X3_51 im_X3_doomsBehind se_X3_doomsBehind ini_X3 co_X3_doomsBehind hd_X3_doomsBehind ⟨Nat.le_of_ble_eq_true rfl, Nat.le_of_ble_eq_true rfl⟩ (Nat.le_of_ble_eq_true rfl) dX3_seekShunned_25 rfl (fun H locs hw => ?_)
          refine lv_istore_n (lv' := [(3, .int v9), (0, .ref (ad 30)), (1, .ref (ad o1)), (2, .int x2_8_2)]) hx hb dX3_seekShunned_28 rfl hl (by decide) rfl (fun ls hl => ?_)
          refine lv_aload_n hx hb dX3_seekShunned_29 rfl (lv_at hl 1 rfl) ?_
          refine gX3_3 X hw sC30 nC30 fl_X3_26 dX3_seekShunned_30 ?_
          refine lv_bipush (v := -2) hx hb dX3_seekShunned_33 (by decide) ?_
          obtain ⟨k46_11, ek46_11, hf0⟩ := wlet_some hf
          have j46_11 : ∀ (_ : k46_11 () = some q8_2) (ls : Array Slot) (H : Heap) (locs : List Loc), lv_has ls 4 [(0, .ref (ad 30)), (1, .ref (ad o1)), (2, .int x2_8_2), (3, .int v9)] → wH WC ad D cy s σ10 H locs → W p l e { frames := 5, cells := 0, slots := 0, locals := 198 } s m [.ref (ad 30), .ref (ad o1)].toArray below meth c H locs 0 0 (MQ below (wQv WC ad D cy res) [.ref (ad 30), .ref (ad o1)].toArray s 0 0 (wA WC ad)) (F0 m 46 ls []) := by
            intro  hf ls H locs hl hw
            rw [ek46_11] at hf
            refine lv_aload_n hx hb dX3_seekShunned_46 rfl (lv_at hl 0 rfl) ?_
            refine lv_iload_n hx hb dX3_seekShunned_47 rfl (lv_at hl 2 rfl) ?_
            obtain ⟨σ12, eσ12, hf⟩ := wlet_some hf
            refine pX3_3 X hw sC30 nC30 fl_X3_26 dX3_seekShunned_48 (fun H locs hw => ?_)
            replace hw := hw.to eσ12
            refine lv_aload_n hx hb dX3_seekShunned_51 rfl (lv_at hl 0 rfl) ?_
            refine lv_iload_n hx hb dX3_seekShunned_52 rfl (lv_at hl 3 rfl) ?_
            obtain ⟨σ13, eσ13, hf⟩ := wlet_some hf
            refine pX3_4 X hw sC30 nC30 fl_X3_30 dX3_seekShunned_53 (fun H locs hw => ?_)
            replace hw := hw.to eσ13
            obtain ⟨v14, ev14, hf⟩ := wlet_some hf
            refine lv_iinc (v := v14) (lv' := [(2, .int v14), (0, .ref (ad 30)), (1, .ref (ad o1)), (3, .int v9)]) hx hb dX3_seekShunned_56 hl (k := 2) rfl (by rw [ev14]; rfl) (by decide) rfl (fun ls hl => ?_)
            refine lv_goto (tgt := 8) hx hb dX3_seekShunned_59 (by decide) ?_
            exact ih8_2 σ13 v14 (lp_leaf hf hz8_2) ls H locs (lv_sub hl [1, 2, 0] rfl) hw
          replace hf := hf0
          refine lv_icmp_eq (tgt := 46) hx hb dX3_seekShunned_35 (by decide) (fun c15 => ?_) (fun c15 => ?_)
          · have hf := (if_pos c15).symm.trans hf
            exact j46_11 hf ls H locs (lv_sub hl [1, 2, 3, 0] rfl) hw
          · have hf := (if_neg c15).symm.trans hf
            refine lv_iload_n hx hb dX3_seekShunned_38 rfl (lv_at hl 0 rfl) ?_
            refine lv_aload_n hx hb dX3_seekShunned_39 rfl (lv_at hl 1 rfl) ?_
            refine gX3_4 X hw sC30 nC30 fl_X3_30 dX3_seekShunned_40 ?_
            refine lv_icmp_le (tgt := 56) hx hb dX3_seekShunned_43 (by decide) (fun c16 => ?_) (fun c16 => ?_)
            · have hf := (if_pos c16).symm.trans hf
              obtain ⟨v17, ev17, hf⟩ := wlet_some hf
              refine lv_iinc (v := v17) (lv' := [(2, .int v17), (3, .int v9), (0, .ref (ad 30)), (1, .ref (ad o1))]) hx hb dX3_seekShunned_56 hl (k := 3) rfl (by rw [ev17]; rfl) (by decide) rfl (fun ls hl => ?_)
              refine lv_goto (tgt := 8) hx hb dX3_seekShunned_59 (by decide) ?_
              exact ih8_2 σ10 v17 (lp_leaf hf hz8_2) ls H locs (lv_sub hl [2, 3, 0] rfl) hw
            · have hf := (if_neg c16).symm.trans hf
              exact j46_11 hf ls H locs (lv_sub hl [1, 2, 3, 0] rfl) hw
  exact lo8_2 fuel σ1 (0 : Int32) hq8_2 ls H locs (lv_sub hl [1, 2, 0] rfl) hw

def f_X3_seedsThatKeep (σ : St) (o1 : Nat) (x2 : Int32) (x3 : Int32) (x4 : Int32) : Option (Int32 × St) := wlet (un3 (fun (σ6_1 : St) (x5_6_1 : Int32) (x6_6_1 : Int32) => if x4 ≤ x6_6_1 then (some (.inr (σ6_1, x5_6_1))) else (Option.bind (f_X6_copyFrom σ6_1 42 o1) fun σ4 => Option.bind (f_X1_goThrough σ4 42 x3 ((σ4.1 4 8) + x6_6_1)) fun σ6 => Option.bind (f_X6_isListed σ6 42 x2) fun v8 => if v8 = 0 then (wlet (x6_6_1 + (1 : Int32)) fun v10 => some (.inl (σ6, x5_6_1, v10))) else (wlet (x5_6_1 + (1 : Int32)) fun v11 => wlet (x6_6_1 + (1 : Int32)) fun v12 => some (.inl (σ6, v11, v12))))) : St × Int32 × Int32 → Option ((St × Int32 × Int32) ⊕ (St × Int32))) fun st6_1 => Option.bind (lp st6_1 fuel (σ, (0 : Int32), (0 : Int32))) ((un2 (fun (σe6_1 : St) (x5_e6_1 : Int32) => some (x5_e6_1, σe6_1))))
theorem hd_X3_seedsThatKeep : yX3_seedsThatKeep.cls = RX3 ∧ yX3_seedsThatKeep.cls ≠ "java/lang/invoke/MethodHandle" ∧ yX3_seedsThatKeep.cls ≠ "java/lang/invoke/VarHandle" ∧ (parseMethodDescriptor yX3_seedsThatKeep.desc).map (fun d => d.parameters.length) = some 4 := by decide +kernel
set_option maxRecDepth 100000 in
set_option maxHeartbeats 4000000 in
theorem k_X3_seedsThatKeep {l : Launch} {ad : Nat → Nat} {D : va_G} {cy : Nat → ClassId} {z : wStr} (hI : wI WC ad) {σ : St} {o1 : Nat} {x2 : Int32} {x3 : Int32} {x4 : Int32} (ho1 : isSt o1) {res : Int32 × St} (hf : f_X3_seedsThatKeep σ o1 x2 x3 x4 = some res) : wC WC ad D cy z l yX3_seedsThatKeep (Cond.code yX3_seedsThatKeep cX3_seedsThatKeep 7 (Option.some Jvm.ClassFile.FieldType.int) :: aw) (7) (249) [.ref (ad 30), .ref (ad o1), .int x2, .int x3, .int x4] σ (wQi WC ad D cy res.1 res.2) := by
  unfold f_X3_seedsThatKeep at hf
  refine wr_start (own := RX3) hI (by decide +kernel) rfl (Nat.le_of_ble_eq_true rfl) rfl ?_
  intro p e s m below meth c ls X hw hr hl
  have hx := X.hx
  have hb := X.hb
  obtain ⟨H, eH⟩ : ∃ H : Heap, H = s.heap := ⟨_, rfl⟩
  obtain ⟨locs, el⟩ : ∃ locs : List Loc, locs = [] := ⟨_, rfl⟩
  rw [← eH, ← el] at hw ⊢
  clear eH el
  replace hl : lv_has ls 7 [(0, .ref (ad 30)), (1, .ref (ad o1)), (2, .int x2), (3, .int x3), (4, .int x4)] := hl
  refine lv_iconst (v := 0) hx hb dX3_seedsThatKeep_0 (by decide) ?_
  refine lv_istore (lv' := [(5, .int (0 : Int32)), (0, .ref (ad 30)), (1, .ref (ad o1)), (2, .int x2), (3, .int x3), (4, .int x4)]) hx hb dX3_seedsThatKeep_1 hl (by decide) rfl (fun ls hl => ?_)
  refine lv_iconst (v := 0) hx hb dX3_seedsThatKeep_3 (by decide) ?_
  refine lv_istore (lv' := [(6, .int (0 : Int32)), (5, .int (0 : Int32)), (0, .ref (ad 30)), (1, .ref (ad o1)), (2, .int x2), (3, .int x3), (4, .int x4)]) hx hb dX3_seedsThatKeep_4 hl (by decide) rfl (fun ls hl => ?_)
  obtain ⟨st6_1, est6_1, hf⟩ := wlet_some hf
  obtain ⟨E6_1, hq6_1, hE6_1⟩ := bind_some hf
  have hx6_1 : ∀ (σe6_1 : St) (x5_e6_1 : Int32) (_ : (σe6_1, x5_e6_1) = E6_1) (ls : Array Slot) (H : Heap) (locs : List Loc), lv_has ls 7 [(5, .int x5_e6_1)] → wH WC ad D cy s σe6_1 H locs → W p l e { frames := 7, cells := 0, slots := 0, locals := 249 } s m [.ref (ad 30), .ref (ad o1), .int x2, .int x3, .int x4].toArray below meth c H locs 0 0 (MQ below (wQi WC ad D cy res.1 res.2) [.ref (ad 30), .ref (ad o1), .int x2, .int x3, .int x4].toArray s 0 0 (wA WC ad)) (F0 m 63 ls []) := by
    intro σe6_1 x5_e6_1 e0 ls H locs hl hw
    subst e0
    have hf := hE6_1
    replace hf := un2_some hf
    refine lv_iload hx hb dX3_seedsThatKeep_63 (lv_at hl 0 rfl) ?_
    have er := Option.some.inj hf
    subst er
    exact wr_iret X hw hr (Or.inl rfl) dX3_seedsThatKeep_65
  have lo6_1 : ∀ (n : Nat) (σ6_1 : St) (x5_6_1 : Int32) (x6_6_1 : Int32) (_ : lp st6_1 n (σ6_1, x5_6_1, x6_6_1) = some E6_1) (ls : Array Slot) (H : Heap) (locs : List Loc), lv_has ls 7 [(0, .ref (ad 30)), (1, .ref (ad o1)), (2, .int x2), (3, .int x3), (4, .int x4), (5, .int x5_6_1), (6, .int x6_6_1)] → wH WC ad D cy s σ6_1 H locs → W p l e { frames := 7, cells := 0, slots := 0, locals := 249 } s m [.ref (ad 30), .ref (ad o1), .int x2, .int x3, .int x4].toArray below meth c H locs 0 0 (MQ below (wQi WC ad D cy res.1 res.2) [.ref (ad 30), .ref (ad o1), .int x2, .int x3, .int x4].toArray s 0 0 (wA WC ad)) (F0 m 6 ls []) := by
    intro n
    induction n with
    | zero =>
      intro σ6_1 x5_6_1 x6_6_1 hf ls H locs hl hw
      exact (lp_zero hf).elim
    | succ n ih6_1 =>
      intro σ6_1 x5_6_1 x6_6_1 hf ls H locs hl hw
      obtain ⟨q6_1, hf, hz6_1⟩ := lp_succ hf
      rw [est6_1] at hf
      replace hf := un3_some hf
      refine lv_iload hx hb dX3_seedsThatKeep_6 (lv_at hl 6 rfl) ?_
      refine lv_iload hx hb dX3_seedsThatKeep_8 (lv_at hl 4 rfl) ?_
      refine lv_icmp_ge (tgt := 63) hx hb dX3_seedsThatKeep_10 (by decide) (fun c2 => ?_) (fun c2 => ?_)
      · have hf := (if_pos c2).symm.trans hf
        exact hx6_1 σ6_1 x5_6_1 (lpK_inr (lp_leaf hf hz6_1)) ls H locs (lv_sub hl [5] rfl) hw
      · have hf := (if_neg c2).symm.trans hf
        refine lv_aload_n hx hb dX3_seedsThatKeep_13 rfl (lv_at hl 0 rfl) ?_
        refine gX3_2 (b := 42) X hw sC30 nC30 rfl fl_X3_12 dX3_seedsThatKeep_14 ?_
        refine lv_aload_n hx hb dX3_seedsThatKeep_17 rfl (lv_at hl 1 rfl) ?_
        obtain ⟨σ4, hq3, hf⟩ := bind_some hf
        refine wr_cNv (σ' := σ4) (av := [.ref (ad o1)]) (rest := []) X hw hl.1 (isSt.s0 st_trial) (isSt.n0 st_trial) rfl (k_X6_copyFrom hI st_trial ho1 hq3) rfl mn_X3_33 im_X6_copyFrom se_X6_copyFrom ini_X6 co_X6_copyFrom hd_X6_copyFrom ⟨Nat.le_of_ble_eq_true rfl, Nat.le_of_ble_eq_true rfl⟩ (Nat.le_of_ble_eq_true rfl) dX3_seedsThatKeep_18 rfl (fun H locs hw => ?_)
        refine lv_aload_n hx hb dX3_seedsThatKeep_21 rfl (lv_at hl 0 rfl) ?_
        refine gX3_1 (b := 21) X hw sC30 nC30 rfl fl_X3_22 dX3_seedsThatKeep_22 ?_
        refine lv_aload_n hx hb dX3_seedsThatKeep_25 rfl (lv_at hl 0 rfl) ?_
        refine gX3_2 (b := 42) X hw sC30 nC30 rfl fl_X3_12 dX3_seedsThatKeep_26 ?_
        refine lv_iload_n hx hb dX3_seedsThatKeep_29 rfl (lv_at hl 3 rfl) ?_
        refine lv_aload_n hx hb dX3_seedsThatKeep_30 rfl (lv_at hl 0 rfl) ?_
        refine gX3_0 (b := 4) X hw sC30 nC30 rfl fl_X3_18 dX3_seedsThatKeep_31 ?_
        refine gnX8_8 X hw sC4 nC4 fn_X3_105 dX3_seedsThatKeep_34 ?_
        refine lv_iload hx hb dX3_seedsThatKeep_37 (lv_at hl 6 rfl) ?_
        refine lv_iadd hx hb dX3_seedsThatKeep_39 ?_
        obtain ⟨σ6, hq5, hf⟩ := bind_some hf
        refine wr_cNv (σ' := σ6) (av := [.ref (ad 42), .int x3, .int ((σ4.1 4 8) + x6_6_1)]) (rest := []) X hw hl.1 sC21 nC21 rfl (k_X1_goThrough hI st_trial hq5) rfl mn_X3_108 im_X1_goThrough se_X1_goThrough ini_X1 co_X1_goThrough hd_X1_goThrough ⟨Nat.le_of_ble_eq_true rfl, Nat.le_of_ble_eq_true rfl⟩ (Nat.le_of_ble_eq_true rfl) dX3_seedsThatKeep_40 rfl (fun H locs hw => ?_)
        refine lv_aload_n hx hb dX3_seedsThatKeep_43 rfl (lv_at hl 0 rfl) ?_
        refine gX3_2 (b := 42) X hw sC30 nC30 rfl fl_X3_12 dX3_seedsThatKeep_44 ?_
        refine lv_iload_n hx hb dX3_seedsThatKeep_47 rfl (lv_at hl 2 rfl) ?_
        obtain ⟨v8, hq7, hf⟩ := bind_some hf
        refine wr_cNi (r := v8) (σ' := σ6) (av := [.int x2]) (rest := []) X hw hl.1 (isSt.s0 st_trial) (isSt.n0 st_trial) rfl (k_X6_isListed hI st_trial hq7) rfl mn_X3_47 im_X6_isListed se_X6_isListed ini_X6 co_X6_isListed hd_X6_isListed ⟨Nat.le_of_ble_eq_true rfl, Nat.le_of_ble_eq_true rfl⟩ (Nat.le_of_ble_eq_true rfl) dX3_seedsThatKeep_48 rfl (fun H locs hw => ?_)
        refine lv_if_eq (tgt := 57) hx hb dX3_seedsThatKeep_51 (by decide) (fun c9 => ?_) (fun c9 => ?_)
        · have hf := (if_pos c9).symm.trans hf
          obtain ⟨v10, ev10, hf⟩ := wlet_some hf
          refine lv_iinc (v := v10) (lv' := [(6, .int v10), (0, .ref (ad 30)), (1, .ref (ad o1)), (2, .int x2), (3, .int x3), (4, .int x4), (5, .int x5_6_1)]) hx hb dX3_seedsThatKeep_57 hl (k := 6) rfl (by rw [ev10]; rfl) (by decide) rfl (fun ls hl => ?_)
          refine lv_goto (tgt := 6) hx hb dX3_seedsThatKeep_60 (by decide) ?_
          exact ih6_1 σ6 x5_6_1 v10 (lp_leaf hf hz6_1) ls H locs (lv_sub hl [1, 2, 3, 4, 5, 6, 0] rfl) hw
        · have hf := (if_neg c9).symm.trans hf
          obtain ⟨v11, ev11, hf⟩ := wlet_some hf
          refine lv_iinc (v := v11) (lv' := [(5, .int v11), (0, .ref (ad 30)), (1, .ref (ad o1)), (2, .int x2), (3, .int x3), (4, .int x4), (6, .int x6_6_1)]) hx hb dX3_seedsThatKeep_54 hl (k := 5) rfl (by rw [ev11]; rfl) (by decide) rfl (fun ls hl => ?_)
          obtain ⟨v12, ev12, hf⟩ := wlet_some hf
          refine lv_iinc (v := v12) (lv' := [(6, .int v12), (5, .int v11), (0, .ref (ad 30)), (1, .ref (ad o1)), (2, .int x2), (3, .int x3), (4, .int x4)]) hx hb dX3_seedsThatKeep_57 hl (k := 6) rfl (by rw [ev12]; rfl) (by decide) rfl (fun ls hl => ?_)
          refine lv_goto (tgt := 6) hx hb dX3_seedsThatKeep_60 (by decide) ?_
          exact ih6_1 σ6 v11 v12 (lp_leaf hf hz6_1) ls H locs (lv_sub hl [2, 3, 4, 5, 6, 1, 0] rfl) hw
  exact lo6_1 fuel σ (0 : Int32) (0 : Int32) hq6_1 ls H locs (lv_sub hl [2, 3, 4, 5, 6, 1, 0] rfl) hw
