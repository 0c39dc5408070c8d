def f_X6_isPleading (σ : St) (o0 : Nat) (x1 : Int32) : Option (Int32) := if x1 < 0 then (some (0 : Int32)) else (if (7 : Int32) ≤ x1 then (some (0 : Int32)) else (if (((σ.1 o0 4) >>> (x1 &&& 31)) &&& (1 : Int32)) = (1 : Int32) then (some (1 : Int32)) else (some (0 : Int32))))
theorem hd_X6_isPleading : yX6_isPleading.cls = RX6 ∧ yX6_isPleading.cls ≠ "java/lang/invoke/MethodHandle" ∧ yX6_isPleading.cls ≠ "java/lang/invoke/VarHandle" ∧ (parseMethodDescriptor yX6_isPleading.desc).map (fun d => d.parameters.length) = some 1 := by decide +kernel
set_option maxRecDepth 100000 in
set_option maxHeartbeats 4000000 in
theorem k_X6_isPleading {l : Launch} {ad : Nat → Nat} {D : va_G} {cy : Nat → ClassId} {z : wStr} (hI : wI WC ad) {σ : St} {o0 : Nat} {x1 : Int32} (ho0 : isSt o0) {res : Int32} (hf : f_X6_isPleading σ o0 x1 = some res) : wC WC ad D cy z l yX6_isPleading (Cond.code yX6_isPleading cX6_isPleading 2 (Option.some Jvm.ClassFile.FieldType.boolean) :: aw) (1) (100) [.ref (ad o0), .int x1] σ (wQi WC ad D cy res σ) := by
  unfold f_X6_isPleading at hf
  refine wr_start (own := RX6) hI (by decide +kernel) rfl (Nat.le_of_ble_eq_true rfl) rfl ?_
  intro p e s m below meth c ls X hw hr hl
  have hx := X.hx
  have hb := X.hb
  obtain ⟨H, eH⟩ : ∃ H : Heap, H = s.heap := ⟨_, rfl⟩
  obtain ⟨locs, el⟩ : ∃ locs : List Loc, locs = [] := ⟨_, rfl⟩
  rw [← eH, ← el] at hw ⊢
  clear eH el
  replace hl : lv_has ls 2 [(0, .ref (ad o0)), (1, .int x1)] := hl
  refine lv_iload_n hx hb dX6_isPleading_0 rfl (lv_at hl 1 rfl) ?_
  refine lv_if_lt (tgt := 26) hx hb dX6_isPleading_1 (by decide) (fun c1 => ?_) (fun c1 => ?_)
  · have hf := (if_pos c1).symm.trans hf
    refine lv_iconst (v := 0) hx hb dX6_isPleading_26 (by decide) ?_
    have er := Option.some.inj hf
    subst er
    exact wr_iret X hw hr (Or.inr ⟨rfl, (show bz (0 : Int32) = true from rfl)⟩) dX6_isPleading_27
  · have hf := (if_neg c1).symm.trans hf
    refine lv_iload_n hx hb dX6_isPleading_4 rfl (lv_at hl 1 rfl) ?_
    refine lv_bipush (v := 7) hx hb dX6_isPleading_5 (by decide) ?_
    refine lv_icmp_ge (tgt := 26) hx hb dX6_isPleading_7 (by decide) (fun c2 => ?_) (fun c2 => ?_)
    · have hf := (if_pos c2).symm.trans hf
      refine lv_iconst (v := 0) hx hb dX6_isPleading_26 (by decide) ?_
      have er := Option.some.inj hf
      subst er
      exact wr_iret X hw hr (Or.inr ⟨rfl, (show bz (0 : Int32) = true from rfl)⟩) dX6_isPleading_27
    · have hf := (if_neg c2).symm.trans hf
      refine lv_aload_n hx hb dX6_isPleading_10 rfl (lv_at hl 0 rfl) ?_
      refine gX6_4 X hw (isSt.s0 ho0) (isSt.n0 ho0) fl_X6_35 dX6_isPleading_11 ?_
      refine lv_iload_n hx hb dX6_isPleading_14 rfl (lv_at hl 1 rfl) ?_
      refine lv_ishr hx hb dX6_isPleading_15 ?_
      refine lv_iconst (v := 1) hx hb dX6_isPleading_16 (by decide) ?_
      refine lv_iand hx hb dX6_isPleading_17 ?_
      refine lv_iconst (v := 1) hx hb dX6_isPleading_18 (by decide) ?_
      refine lv_icmp_ne (tgt := 26) hx hb dX6_isPleading_19 (by decide) (fun c3 => ?_) (fun c3 => ?_)
      · have hf := (if_neg c3).symm.trans hf
        refine lv_iconst (v := 0) hx hb dX6_isPleading_26 (by decide) ?_
        have er := Option.some.inj hf
        subst er
        exact wr_iret X hw hr (Or.inr ⟨rfl, (show bz (0 : Int32) = true from rfl)⟩) dX6_isPleading_27
      · have hf := (if_pos c3).symm.trans hf
        refine lv_iconst (v := 1) hx hb dX6_isPleading_22 (by decide) ?_
        refine lv_goto (tgt := 27) hx hb dX6_isPleading_23 (by decide) ?_
        have er := Option.some.inj hf
        subst er
        exact wr_iret X hw hr (Or.inr ⟨rfl, (show bz (1 : Int32) = true from rfl)⟩) dX6_isPleading_27

def f_X6_placeOf (σ : St) (o0 : Nat) (x1 : Int32) : Option (Int32) := wlet (fun (x2_2_1 : Int32) => if (σ.1 o0 3) ≤ x2_2_1 then (some (.inr (.inl ()))) else (if (7 : Int32) ≤ x2_2_1 then (some (.inr (.inl ()))) else (if ib x2_2_1 7 = true then if (σ.1 (o0 + 1) (Int32.toNatClampNeg x2_2_1)) = x1 then (some (.inr (.inr x2_2_1))) else (wlet (x2_2_1 + (1 : Int32)) fun v6 => some (.inl v6)) else none)) : Int32 → Option ((Int32) ⊕ ((Unit) ⊕ (Int32)))) fun st2_1 => Option.bind (lp st2_1 fuel (0 : Int32)) (sumk (fun (_ : Unit) => some (-1 : Int32)) (fun m => some m))
theorem hd_X6_placeOf : yX6_placeOf.cls = RX6 ∧ yX6_placeOf.cls ≠ "java/lang/invoke/MethodHandle" ∧ yX6_placeOf.cls ≠ "java/lang/invoke/VarHandle" ∧ (parseMethodDescriptor yX6_placeOf.desc).map (fun d => d.parameters.length) = some 1 := by decide +kernel
set_option maxRecDepth 100000 in
set_option maxHeartbeats 4000000 in
theorem k_X6_placeOf {l : Launch} {ad : Nat → Nat} {D : va_G} {cy : Nat → ClassId} {z : wStr} (hI : wI WC ad) {σ : St} {o0 : Nat} {x1 : Int32} (ho0 : isSt o0) {res : Int32} (hf : f_X6_placeOf σ o0 x1 = some res) : wC WC ad D cy z l yX6_placeOf (Cond.code yX6_placeOf cX6_placeOf 3 (Option.some Jvm.ClassFile.FieldType.int) :: aw) (1) (100) [.ref (ad o0), .int x1] σ (wQi WC ad D cy res σ) := by
  unfold f_X6_placeOf at hf
  refine wr_start (own := RX6) hI (by decide +kernel) rfl (Nat.le_of_ble_eq_true rfl) rfl ?_
  intro p e s m below meth c ls X hw hr hl
  have hx := X.hx
  have hb := X.hb
  obtain ⟨H, eH⟩ : ∃ H : Heap, H = s.heap := ⟨_, rfl⟩
  obtain ⟨locs, el⟩ : ∃ locs : List Loc, locs = [] := ⟨_, rfl⟩
  rw [← eH, ← el] at hw ⊢
  clear eH el
  replace hl : lv_has ls 3 [(0, .ref (ad o0)), (1, .int x1)] := hl
  refine lv_iconst (v := 0) hx hb dX6_placeOf_0 (by decide) ?_
  refine lv_istore_n (lv' := [(2, .int (0 : Int32)), (0, .ref (ad o0)), (1, .int x1)]) hx hb dX6_placeOf_1 rfl hl (by decide) rfl (fun ls hl => ?_)
  obtain ⟨st2_1, est2_1, hf⟩ := wlet_some hf
  obtain ⟨E2_1, hq2_1, hE2_1⟩ := bind_some hf
  have hx2_1 : ∀ (_ : Sum.inl () = E2_1) (ls : Array Slot) (H : Heap) (locs : List Loc), lv_has ls 3 [] → wH WC ad D cy s σ H locs → W p l e { frames := 1, cells := 0, slots := 0, locals := 100 } s m [.ref (ad o0), .int x1].toArray below meth c H locs 0 0 (MQ below (wQi WC ad D cy res σ) [.ref (ad o0), .int x1].toArray s 0 0 (wA WC ad)) (F0 m 34 ls []) := by
    intro  e0 ls H locs hl hw
    have hf := sumk_l hE2_1 e0
    refine lv_iconst (v := -1) hx hb dX6_placeOf_34 (by decide) ?_
    have er := Option.some.inj hf
    subst er
    exact wr_iret X hw hr (Or.inl rfl) dX6_placeOf_35
  have lo2_1 : ∀ (n : Nat) (x2_2_1 : Int32) (_ : lp st2_1 n x2_2_1 = some E2_1) (ls : Array Slot) (H : Heap) (locs : List Loc), lv_has ls 3 [(0, .ref (ad o0)), (1, .int x1), (2, .int x2_2_1)] → wH WC ad D cy s σ H locs → W p l e { frames := 1, cells := 0, slots := 0, locals := 100 } s m [.ref (ad o0), .int x1].toArray below meth c H locs 0 0 (MQ below (wQi WC ad D cy res σ) [.ref (ad o0), .int x1].toArray s 0 0 (wA WC ad)) (F0 m 2 ls []) := by
    intro n
    induction n with
    | zero =>
      intro x2_2_1 hf ls H locs hl hw
      exact (lp_zero hf).elim
    | succ n ih2_1 =>
      intro x2_2_1 hf ls H locs hl hw
      obtain ⟨q2_1, hf, hz2_1⟩ := lp_succ hf
      rw [est2_1] at hf
      refine lv_iload_n hx hb dX6_placeOf_2 rfl (lv_at hl 2 rfl) ?_
      refine lv_aload_n hx hb dX6_placeOf_3 rfl (lv_at hl 0 rfl) ?_
      refine gX6_3 X hw (isSt.s0 ho0) (isSt.n0 ho0) fl_X6_32 dX6_placeOf_4 ?_
      refine lv_icmp_ge (tgt := 34) hx hb dX6_placeOf_7 (by decide) (fun c2 => ?_) (fun c2 => ?_)
      · have hf := (if_pos c2).symm.trans hf
        exact hx2_1  (lpK_inr (lp_leaf hf hz2_1)) ls H locs (lv_sub hl [] rfl) hw
      · have hf := (if_neg c2).symm.trans hf
        refine lv_iload_n hx hb dX6_placeOf_10 rfl (lv_at hl 2 rfl) ?_
        refine lv_bipush (v := 7) hx hb dX6_placeOf_11 (by decide) ?_
        refine lv_icmp_ge (tgt := 34) hx hb dX6_placeOf_13 (by decide) (fun c3 => ?_) (fun c3 => ?_)
        · have hf := (if_pos c3).symm.trans hf
          exact hx2_1  (lpK_inr (lp_leaf hf hz2_1)) ls H locs (lv_sub hl [] rfl) hw
        · have hf := (if_neg c3).symm.trans hf
          refine lv_aload_n hx hb dX6_placeOf_16 rfl (lv_at hl 0 rfl) ?_
          refine gX6_0 (b := (o0 + 1)) X hw (isSt.s0 ho0) (isSt.n0 ho0) (isSt.r0 ho0) fl_X6_9 dX6_placeOf_17 ?_
          refine lv_iload_n hx hb dX6_placeOf_20 rfl (lv_at hl 2 rfl) ?_
          obtain ⟨h4, hf⟩ := if_some hf
          refine wr_iald X hw (isSt.s1 ho0) (isSt.n1 ho0) h4 dX6_placeOf_21 ?_
          refine lv_iload_n hx hb dX6_placeOf_22 rfl (lv_at hl 1 rfl) ?_
          refine lv_icmp_ne (tgt := 28) hx hb dX6_placeOf_23 (by decide) (fun c5 => ?_) (fun c5 => ?_)
          · have hf := (if_neg c5).symm.trans hf
            obtain ⟨v6, ev6, hf⟩ := wlet_some hf
            refine lv_iinc (v := v6) (lv' := [(2, .int v6), (0, .ref (ad o0)), (1, .int x1)]) hx hb dX6_placeOf_28 hl (k := 2) rfl (by rw [ev6]; rfl) (by decide) rfl (fun ls hl => ?_)
            refine lv_goto (tgt := 2) hx hb dX6_placeOf_31 (by decide) ?_
            exact ih2_1 v6 (lp_leaf hf hz2_1) ls H locs (lv_sub hl [1, 2, 0] rfl) hw
          · have hf := (if_pos c5).symm.trans hf
            refine lv_iload_n hx hb dX6_placeOf_26 rfl (lv_at hl 2 rfl) ?_
            have e2_1 := lpK_inr (lp_leaf hf hz2_1)
            have hf := sumk_r hE2_1 e2_1
            have er := Option.some.inj hf
            subst er
            exact wr_iret X hw hr (Or.inl rfl) dX6_placeOf_27
  exact lo2_1 fuel (0 : Int32) hq2_1 ls H locs (lv_sub hl [1, 2, 0] rfl) hw

def f_X6_isListed (σ : St) (o0 : Nat) (x1 : Int32) : Option (Int32) := Option.bind (f_X6_placeOf σ o0 x1) fun v2 => if v2 = (-1 : Int32) then (some (0 : Int32)) else (some (1 : Int32))
theorem hd_X6_isListed : yX6_isListed.cls = RX6 ∧ yX6_isListed.cls ≠ "java/lang/invoke/MethodHandle" ∧ yX6_isListed.cls ≠ "java/lang/invoke/VarHandle" ∧ (parseMethodDescriptor yX6_isListed.desc).map (fun d => d.parameters.length) = some 1 := by decide +kernel
set_option maxRecDepth 100000 in
set_option maxHeartbeats 4000000 in
theorem k_X6_isListed {l : Launch} {ad : Nat → Nat} {D : va_G} {cy : Nat → ClassId} {z : wStr} (hI : wI WC ad) {σ : St} {o0 : Nat} {x1 : Int32} (ho0 : isSt o0) {res : Int32} (hf : f_X6_isListed σ o0 x1 = some res) : wC WC ad D cy z l yX6_isListed (Cond.code yX6_isListed cX6_isListed 2 (Option.some Jvm.ClassFile.FieldType.boolean) :: aw) (2) (122) [.ref (ad o0), .int x1] σ (wQi WC ad D cy res σ) := by
  unfold f_X6_isListed at hf
  refine wr_start (own := RX6) hI (by decide +kernel) rfl (Nat.le_of_ble_eq_true rfl) rfl ?_
  intro p e s m below meth c ls X hw hr hl
  have hx := X.hx
  have hb := X.hb
  obtain ⟨H, eH⟩ : ∃ H : Heap, H = s.heap := ⟨_, rfl⟩
  obtain ⟨locs, el⟩ : ∃ locs : List Loc, locs = [] := ⟨_, rfl⟩
  rw [← eH, ← el] at hw ⊢
  clear eH el
  replace hl : lv_has ls 2 [(0, .ref (ad o0)), (1, .int x1)] := hl
  refine lv_aload_n hx hb dX6_isListed_0 rfl (lv_at hl 0 rfl) ?_
  refine lv_iload_n hx hb dX6_isListed_1 rfl (lv_at hl 1 rfl) ?_
  obtain ⟨v2, hq1, hf⟩ := bind_some hf
  refine wr_cVi (r := v2) (σ' := σ) (av := [.int x1]) (rest := []) X hw hl.1 (isSt.s0 ho0) (isSt.n0 ho0) rfl (k_X6_placeOf hI ho0 hq1) rfl ml_X6_54 im_X6_placeOf se_X6_placeOf ini_X6 co_X6_placeOf hd_X6_placeOf ⟨Nat.le_of_ble_eq_true rfl, Nat.le_of_ble_eq_true rfl⟩ (Nat.le_of_ble_eq_true rfl) dX6_isListed_2 rfl (fun H locs hw => ?_)
  refine lv_iconst (v := -1) hx hb dX6_isListed_5 (by decide) ?_
  refine lv_icmp_eq (tgt := 13) hx hb dX6_isListed_6 (by decide) (fun c3 => ?_) (fun c3 => ?_)
  · have hf := (if_pos c3).symm.trans hf
    refine lv_iconst (v := 0) hx hb dX6_isListed_13 (by decide) ?_
    have er := Option.some.inj hf
    subst er
    exact wr_iret X hw hr (Or.inr ⟨rfl, (show bz (0 : Int32) = true from rfl)⟩) dX6_isListed_14
  · have hf := (if_neg c3).symm.trans hf
    refine lv_iconst (v := 1) hx hb dX6_isListed_9 (by decide) ?_
    refine lv_goto (tgt := 14) hx hb dX6_isListed_10 (by decide) ?_
    have er := Option.some.inj hf
    subst er
    exact wr_iret X hw hr (Or.inr ⟨rfl, (show bz (1 : Int32) = true from rfl)⟩) dX6_isListed_14

def f_X6_docketAt (σ : St) (o0 : Nat) (x1 : Int32) : Option (Int32) := if x1 < 0 then (some (-1 : Int32)) else (if (σ.1 o0 3) ≤ x1 then (some (-1 : Int32)) else (if (7 : Int32) ≤ x1 then (some (-1 : Int32)) else (if ib x1 7 = true then some (σ.1 (o0 + 1) (Int32.toNatClampNeg x1)) else none)))
theorem hd_X6_docketAt : yX6_docketAt.cls = RX6 ∧ yX6_docketAt.cls ≠ "java/lang/invoke/MethodHandle" ∧ yX6_docketAt.cls ≠ "java/lang/invoke/VarHandle" ∧ (parseMethodDescriptor yX6_docketAt.desc).map (fun d => d.parameters.length) = some 1 := by decide +kernel
set_option maxRecDepth 100000 in
set_option maxHeartbeats 4000000 in
theorem k_X6_docketAt {l : Launch} {ad : Nat → Nat} {D : va_G} {cy : Nat → ClassId} {z : wStr} (hI : wI WC ad) {σ : St} {o0 : Nat} {x1 : Int32} (ho0 : isSt o0) {res : Int32} (hf : f_X6_docketAt σ o0 x1 = some res) : wC WC ad D cy z l yX6_docketAt (Cond.code yX6_docketAt cX6_docketAt 2 (Option.some Jvm.ClassFile.FieldType.int) :: aw) (1) (100) [.ref (ad o0), .int x1] σ (wQi WC ad D cy res σ) := by
  unfold f_X6_docketAt at hf
  refine wr_start (own := RX6) hI (by decide +kernel) rfl (Nat.le_of_ble_eq_true rfl) rfl ?_
  intro p e s m below meth c ls X hw hr hl
  have hx := X.hx
  have hb := X.hb
  obtain ⟨H, eH⟩ : ∃ H : Heap, H = s.heap := ⟨_, rfl⟩
  obtain ⟨locs, el⟩ : ∃ locs : List Loc, locs = [] := ⟨_, rfl⟩
  rw [← eH, ← el] at hw ⊢
  clear eH el
  replace hl : lv_has ls 2 [(0, .ref (ad o0)), (1, .int x1)] := hl
  refine lv_iload_n hx hb dX6_docketAt_0 rfl (lv_at hl 1 rfl) ?_
  refine lv_if_lt (tgt := 27) hx hb dX6_docketAt_1 (by decide) (fun c1 => ?_) (fun c1 => ?_)
  · have hf := (if_pos c1).symm.trans hf
    refine lv_iconst (v := -1) hx hb dX6_docketAt_27 (by decide) ?_
    have er := Option.some.inj hf
    subst er
    exact wr_iret X hw hr (Or.inl rfl) dX6_docketAt_28
  · have hf := (if_neg c1).symm.trans hf
    refine lv_iload_n hx hb dX6_docketAt_4 rfl (lv_at hl 1 rfl) ?_
    refine lv_aload_n hx hb dX6_docketAt_5 rfl (lv_at hl 0 rfl) ?_
    refine gX6_3 X hw (isSt.s0 ho0) (isSt.n0 ho0) fl_X6_32 dX6_docketAt_6 ?_
    refine lv_icmp_ge (tgt := 27) hx hb dX6_docketAt_9 (by decide) (fun c2 => ?_) (fun c2 => ?_)
    · have hf := (if_pos c2).symm.trans hf
      refine lv_iconst (v := -1) hx hb dX6_docketAt_27 (by decide) ?_
      have er := Option.some.inj hf
      subst er
      exact wr_iret X hw hr (Or.inl rfl) dX6_docketAt_28
    · have hf := (if_neg c2).symm.trans hf
      refine lv_iload_n hx hb dX6_docketAt_12 rfl (lv_at hl 1 rfl) ?_
      refine lv_bipush (v := 7) hx hb dX6_docketAt_13 (by decide) ?_
      refine lv_icmp_ge (tgt := 27) hx hb dX6_docketAt_15 (by decide) (fun c3 => ?_) (fun c3 => ?_)
      · have hf := (if_pos c3).symm.trans hf
        refine lv_iconst (v := -1) hx hb dX6_docketAt_27 (by decide) ?_
        have er := Option.some.inj hf
        subst er
        exact wr_iret X hw hr (Or.inl rfl) dX6_docketAt_28
      · have hf := (if_neg c3).symm.trans hf
        refine lv_aload_n hx hb dX6_docketAt_18 rfl (lv_at hl 0 rfl) ?_
        refine gX6_0 (b := (o0 + 1)) X hw (isSt.s0 ho0) (isSt.n0 ho0) (isSt.r0 ho0) fl_X6_9 dX6_docketAt_19 ?_
        refine lv_iload_n hx hb dX6_docketAt_22 rfl (lv_at hl 1 rfl) ?_
        obtain ⟨h4, hf⟩ := if_some hf
        refine wr_iald X hw (isSt.s1 ho0) (isSt.n1 ho0) h4 dX6_docketAt_23 ?_
        refine lv_goto (tgt := 28) hx hb dX6_docketAt_24 (by decide) ?_
        have er := Option.some.inj hf
        subst er
        exact wr_iret X hw hr (Or.inl rfl) dX6_docketAt_28

def f_X6_behindOf (σ : St) (o0 : Nat) (x1 : Int32) : Option (Int32) := Option.bind (f_X6_placeOf σ o0 x1) fun v2 => if v2 = (-1 : Int32) then (some (-1 : Int32)) else (Option.bind (f_X6_docketAt σ o0 (v2 + (1 : Int32))) fun v5 => some v5)
theorem hd_X6_behindOf : yX6_behindOf.cls = RX6 ∧ yX6_behindOf.cls ≠ "java/lang/invoke/MethodHandle" ∧ yX6_behindOf.cls ≠ "java/lang/invoke/VarHandle" ∧ (parseMethodDescriptor yX6_behindOf.desc).map (fun d => d.parameters.length) = some 1 := by decide +kernel
set_option maxRecDepth 100000 in
set_option maxHeartbeats 4000000 in
theorem k_X6_behindOf {l : Launch} {ad : Nat → Nat} {D : va_G} {cy : Nat → ClassId} {z : wStr} (hI : wI WC ad) {σ : St} {o0 : Nat} {x1 : Int32} (ho0 : isSt o0) {res : Int32} (hf : f_X6_behindOf σ o0 x1 = some res) : wC WC ad D cy z l yX6_behindOf (Cond.code yX6_behindOf cX6_behindOf 3 (Option.some Jvm.ClassFile.FieldType.int) :: aw) (2) (122) [.ref (ad o0), .int x1] σ (wQi WC ad D cy res σ) := by
  unfold f_X6_behindOf at hf
  refine wr_start (own := RX6) hI (by decide +kernel) rfl (Nat.le_of_ble_eq_true rfl) rfl ?_
  intro p e s m below meth c ls X hw hr hl
  have hx := X.hx
  have hb := X.hb
  obtain ⟨H, eH⟩ : ∃ H : Heap, H = s.heap := ⟨_, rfl⟩
  obtain ⟨locs, el⟩ : ∃ locs : List Loc, locs = [] := ⟨_, rfl⟩
  rw [← eH, ← el] at hw ⊢
  clear eH el
  replace hl : lv_has ls 3 [(0, .ref (ad o0)), (1, .int x1)] := hl
  refine lv_aload_n hx hb dX6_behindOf_0 rfl (lv_at hl 0 rfl) ?_
  refine lv_iload_n hx hb dX6_behindOf_1 rfl (lv_at hl 1 rfl) ?_
  obtain ⟨v2, hq1, hf⟩ := bind_some hf
  refine wr_cVi (r := v2) (σ' := σ) (av := [.int x1]) (rest := []) X hw hl.1 (isSt.s0 ho0) (isSt.n0 ho0) rfl (k_X6_placeOf hI ho0 hq1) rfl ml_X6_54 im_X6_placeOf se_X6_placeOf ini_X6 co_X6_placeOf hd_X6_placeOf ⟨Nat.le_of_ble_eq_true rfl, Nat.le_of_ble_eq_true rfl⟩ (Nat.le_of_ble_eq_true rfl) dX6_behindOf_2 rfl (fun H locs hw => ?_)
  refine lv_istore_n (lv' := [(2, .int v2), (0, .ref (ad o0)), (1, .int x1)]) hx hb dX6_behindOf_5 rfl hl (by decide) rfl (fun ls hl => ?_)
  refine lv_iload_n hx hb dX6_behindOf_6 rfl (lv_at hl 0 rfl) ?_
  refine lv_iconst (v := -1) hx hb dX6_behindOf_7 (by decide) ?_
  refine lv_icmp_ne (tgt := 15) hx hb dX6_behindOf_8 (by decide) (fun c3 => ?_) (fun c3 => ?_)
  · have hf := (if_neg c3).symm.trans hf
    refine lv_aload_n hx hb dX6_behindOf_15 rfl (lv_at hl 1 rfl) ?_
    refine lv_iload_n hx hb dX6_behindOf_16 rfl (lv_at hl 0 rfl) ?_
    refine lv_iconst (v := 1) hx hb dX6_behindOf_17 (by decide) ?_
    refine lv_iadd hx hb dX6_behindOf_18 ?_
    obtain ⟨v5, hq4, hf⟩ := bind_some hf
    refine wr_cVi (r := v5) (σ' := σ) (av := [.int (v2 + (1 : Int32))]) (rest := []) X hw hl.1 (isSt.s0 ho0) (isSt.n0 ho0) rfl (k_X6_docketAt hI ho0 hq4) rfl ml_X6_58 im_X6_docketAt se_X6_docketAt ini_X6 co_X6_docketAt hd_X6_docketAt ⟨Nat.le_of_ble_eq_true rfl, Nat.le_of_ble_eq_true rfl⟩ (Nat.le_of_ble_eq_true rfl) dX6_behindOf_19 rfl (fun H locs hw => ?_)
    have er := Option.some.inj hf
    subst er
    exact wr_iret X hw hr (Or.inl rfl) dX6_behindOf_22
  · have hf := (if_pos c3).symm.trans hf
    refine lv_iconst (v := -1) hx hb dX6_behindOf_11 (by decide) ?_
    refine lv_goto (tgt := 22) hx hb dX6_behindOf_12 (by decide) ?_
    have er := Option.some.inj hf
    subst er
    exact wr_iret X hw hr (Or.inl rfl) dX6_behindOf_22

def f_X6_aheadOf (σ : St) (o0 : Nat) (x1 : Int32) : Option (Int32) := Option.bind (f_X6_docketAt σ o0 (x1 - (1 : Int32))) fun v2 => some v2
theorem hd_X6_aheadOf : yX6_aheadOf.cls = RX6 ∧ yX6_aheadOf.cls ≠ "java/lang/invoke/MethodHandle" ∧ yX6_aheadOf.cls ≠ "java/lang/invoke/VarHandle" ∧ (parseMethodDescriptor yX6_aheadOf.desc).map (fun d => d.parameters.length) = some 1 := by decide +kernel
set_option maxRecDepth 100000 in
set_option maxHeartbeats 4000000 in
theorem k_X6_aheadOf {l : Launch} {ad : Nat → Nat} {D : va_G} {cy : Nat → ClassId} {z : wStr} (hI : wI WC ad) {σ : St} {o0 : Nat} {x1 : Int32} (ho0 : isSt o0) {res : Int32} (hf : f_X6_aheadOf σ o0 x1 = some res) : wC WC ad D cy z l yX6_aheadOf (Cond.code yX6_aheadOf cX6_aheadOf 2 (Option.some Jvm.ClassFile.FieldType.int) :: aw) (2) (121) [.ref (ad o0), .int x1] σ (wQi WC ad D cy res σ) := by
  unfold f_X6_aheadOf at hf
  refine wr_start (own := RX6) hI (by decide +kernel) rfl (Nat.le_of_ble_eq_true rfl) rfl ?_
  intro p e s m below meth c ls X hw hr hl
  have hx := X.hx
  have hb := X.hb
  obtain ⟨H, eH⟩ : ∃ H : Heap, H = s.heap := ⟨_, rfl⟩
  obtain ⟨locs, el⟩ : ∃ locs : List Loc, locs = [] := ⟨_, rfl⟩
  rw [← eH, ← el] at hw ⊢
  clear eH el
  replace hl : lv_has ls 2 [(0, .ref (ad o0)), (1, .int x1)] := hl
  refine lv_aload_n hx hb dX6_aheadOf_0 rfl (lv_at hl 0 rfl) ?_
  refine lv_iload_n hx hb dX6_aheadOf_1 rfl (lv_at hl 1 rfl) ?_
  refine lv_iconst (v := 1) hx hb dX6_aheadOf_2 (by decide) ?_
  refine lv_isub hx hb dX6_aheadOf_3 ?_
  obtain ⟨v2, hq1, hf⟩ := bind_some hf
  refine wr_cVi (r := v2) (σ' := σ) (av := [.int (x1 - (1 : Int32))]) (rest := []) X hw hl.1 (isSt.s0 ho0) (isSt.n0 ho0) rfl (k_X6_docketAt hI ho0 hq1) rfl ml_X6_58 im_X6_docketAt se_X6_docketAt ini_X6 co_X6_docketAt hd_X6_docketAt ⟨Nat.le_of_ble_eq_true rfl, Nat.le_of_ble_eq_true rfl⟩ (Nat.le_of_ble_eq_true rfl) dX6_aheadOf_4 rfl (fun H locs hw => ?_)
  have er := Option.some.inj hf
  subst er
  exact wr_iret X hw hr (Or.inl rfl) dX6_aheadOf_7

def f_X6_copyFrom (σ : St) (o0 : Nat) (o1 : Nat) : Option (St) := wlet (sci σ (o1 + 1) (o0 + 1) (Int32.toNatClampNeg (0 : Int32)) (Int32.toNatClampNeg (0 : Int32)) (Int32.toNatClampNeg (7 : Int32))) fun σ1 => wlet (sci σ1 (o1 + 2) (o0 + 2) (Int32.toNatClampNeg (0 : Int32)) (Int32.toNatClampNeg (0 : Int32)) (Int32.toNatClampNeg (7 : Int32))) fun σ2 => wlet (sci σ2 (o1 + 3) (o0 + 3) (Int32.toNatClampNeg (0 : Int32)) (Int32.toNatClampNeg (0 : Int32)) (Int32.toNatClampNeg (7 : Int32))) fun σ3 => wlet (si σ3 o0 3 (σ3.1 o1 3)) fun σ4 => wlet (si σ4 o0 4 (σ4.1 o1 4)) fun σ5 => wlet (si σ5 o0 5 (σ5.1 o1 5)) fun σ6 => wlet (si σ6 o0 6 (σ6.1 o1 6)) fun σ7 => wlet (si σ7 o0 7 (σ7.1 o1 7)) fun σ8 => some σ8
theorem hd_X6_copyFrom : yX6_copyFrom.cls = RX6 ∧ yX6_copyFrom.cls ≠ "java/lang/invoke/MethodHandle" ∧ yX6_copyFrom.cls ≠ "java/lang/invoke/VarHandle" ∧ (parseMethodDescriptor yX6_copyFrom.desc).map (fun d => d.parameters.length) = some 1 := by decide +kernel
set_option maxRecDepth 100000 in
set_option maxHeartbeats 4000000 in
theorem k_X6_copyFrom {l : Launch} {ad : Nat → Nat} {D : va_G} {cy : Nat → ClassId} {z : wStr} (hI : wI WC ad) {σ : St} {o0 : Nat} {o1 : Nat} (ho0 : isSt o0) (ho1 : isSt o1) {res : St} (hf : f_X6_copyFrom σ o0 o1 = some res) : wC WC ad D cy z l yX6_copyFrom (Cond.code yX6_copyFrom cX6_copyFrom 2 (none) :: aw) (1) (100) [.ref (ad o0), .ref (ad o1)] σ (wQv WC ad D cy res) := by
  unfold f_X6_copyFrom at hf
  refine wr_start (own := RX6) hI (by decide +kernel) rfl (Nat.le_of_ble_eq_true rfl) rfl ?_
  intro p e s m below meth c ls X hw hr hl
  have hx := X.hx
  have hb := X.hb
  obtain ⟨H, eH⟩ : ∃ H : Heap, H = s.heap := ⟨_, rfl⟩
  obtain ⟨locs, el⟩ : ∃ locs : List Loc, locs = [] := ⟨_, rfl⟩
  rw [← eH, ← el] at hw ⊢
  clear eH el
  replace hl : lv_has ls 2 [(0, .ref (ad o0)), (1, .ref (ad o1))] := hl
  refine lv_aload_n hx hb dX6_copyFrom_0 rfl (lv_at hl 1 rfl) ?_
  refine gX6_0 (b := (o1 + 1)) X hw (isSt.s0 ho1) (isSt.n0 ho1) (isSt.r0 ho1) fl_X6_9 dX6_copyFrom_1 ?_
  refine lv_iconst (v := 0) hx hb dX6_copyFrom_4 (by decide) ?_
  refine lv_aload_n hx hb dX6_copyFrom_5 rfl (lv_at hl 0 rfl) ?_
  refine gX6_0 (b := (o0 + 1)) X hw (isSt.s0 ho0) (isSt.n0 ho0) (isSt.r0 ho0) fl_X6_9 dX6_copyFrom_6 ?_
  refine lv_iconst (v := 0) hx hb dX6_copyFrom_9 (by decide) ?_
  refine lv_bipush (v := 7) hx hb dX6_copyFrom_10 (by decide) ?_
  obtain ⟨σ1, eσ1, hf⟩ := wlet_some hf
  refine wr_copyi X hw hl.1 (isSt.s1 ho1) (isSt.s1 ho0) (isSt.n1 ho1) (isSt.n1 ho0) ml_X6_48 (by decide) (by decide) (by decide) (by decide) (by decide) (Nat.le_of_ble_eq_true rfl) (Nat.le_of_ble_eq_true rfl) dX6_copyFrom_12 (fun H locs hw => ?_)
  replace hw := hw.to eσ1
  refine lv_aload_n hx hb dX6_copyFrom_15 rfl (lv_at hl 1 rfl) ?_
  refine gX6_1 (b := (o1 + 2)) X hw (isSt.s0 ho1) (isSt.n0 ho1) (isSt.r1 ho1) fl_X6_15 dX6_copyFrom_16 ?_
  refine lv_iconst (v := 0) hx hb dX6_copyFrom_19 (by decide) ?_
  refine lv_aload_n hx hb dX6_copyFrom_20 rfl (lv_at hl 0 rfl) ?_
  refine gX6_1 (b := (o0 + 2)) X hw (isSt.s0 ho0) (isSt.n0 ho0) (isSt.r1 ho0) fl_X6_15 dX6_copyFrom_21 ?_
  refine lv_iconst (v := 0) hx hb dX6_copyFrom_24 (by decide) ?_
  refine lv_bipush (v := 7) hx hb dX6_copyFrom_25 (by decide) ?_
  obtain ⟨σ2, eσ2, hf⟩ := wlet_some hf
  refine wr_copyi X hw hl.1 (isSt.s2 ho1) (isSt.s2 ho0) (isSt.n2 ho1) (isSt.n2 ho0) ml_X6_48 (by decide) (by decide) (by decide) (by decide) (by decide) (Nat.le_of_ble_eq_true rfl) (Nat.le_of_ble_eq_true rfl) dX6_copyFrom_27 (fun H locs hw => ?_)
  replace hw := hw.to eσ2
  refine lv_aload_n hx hb dX6_copyFrom_30 rfl (lv_at hl 1 rfl) ?_
  refine gX6_2 (b := (o1 + 3)) X hw (isSt.s0 ho1) (isSt.n0 ho1) (isSt.r2 ho1) fl_X6_18 dX6_copyFrom_31 ?_
  refine lv_iconst (v := 0) hx hb dX6_copyFrom_34 (by decide) ?_
  refine lv_aload_n hx hb dX6_copyFrom_35 rfl (lv_at hl 0 rfl) ?_
  refine gX6_2 (b := (o0 + 3)) X hw (isSt.s0 ho0) (isSt.n0 ho0) (isSt.r2 ho0) fl_X6_18 dX6_copyFrom_36 ?_
  refine lv_iconst (v := 0) hx hb dX6_copyFrom_39 (by decide) ?_
  refine lv_bipush (v := 7) hx hb dX6_copyFrom_40 (by decide) ?_
  obtain ⟨σ3, eσ3, hf⟩ := wlet_some hf
  refine wr_copyi X hw hl.1 (isSt.s3 ho1) (isSt.s3 ho0) (isSt.n3 ho1) (isSt.n3 ho0) ml_X6_48 (by decide) (by decide) (by decide) (by decide) (by decide) (Nat.le_of_ble_eq_true rfl) (Nat.le_of_ble_eq_true rfl) dX6_copyFrom_42 (fun H locs hw => ?_)
  replace hw := hw.to eσ3
  refine lv_aload_n hx hb dX6_copyFrom_45 rfl (lv_at hl 0 rfl) ?_
  refine lv_aload_n hx hb dX6_copyFrom_46 rfl (lv_at hl 1 rfl) ?_
  refine gX6_3 X hw (isSt.s0 ho1) (isSt.n0 ho1) fl_X6_32 dX6_copyFrom_47 ?_
  obtain ⟨σ4, eσ4, hf⟩ := wlet_some hf
  refine pX6_3 X hw (isSt.s0 ho0) (isSt.n0 ho0) fl_X6_32 dX6_copyFrom_50 (fun H locs hw => ?_)
  replace hw := hw.to eσ4
  refine lv_aload_n hx hb dX6_copyFrom_53 rfl (lv_at hl 0 rfl) ?_
  refine lv_aload_n hx hb dX6_copyFrom_54 rfl (lv_at hl 1 rfl) ?_
  refine gX6_4 X hw (isSt.s0 ho1) (isSt.n0 ho1) fl_X6_35 dX6_copyFrom_55 ?_
  obtain ⟨σ5, eσ5, hf⟩ := wlet_some hf
  refine pX6_4 X hw (isSt.s0 ho0) (isSt.n0 ho0) fl_X6_35 dX6_copyFrom_58 (fun H locs hw => ?_)
  replace hw := hw.to eσ5
  refine lv_aload_n hx hb dX6_copyFrom_61 rfl (lv_at hl 0 rfl) ?_
  refine lv_aload_n hx hb dX6_copyFrom_62 rfl (lv_at hl 1 rfl) ?_
  refine gX6_5 X hw (isSt.s0 ho1) (isSt.n0 ho1) fl_X6_41 dX6_copyFrom_63 ?_
  obtain ⟨σ6, eσ6, hf⟩ := wlet_some hf
  refine pX6_5 X hw (isSt.s0 ho0) (isSt.n0 ho0) fl_X6_41 dX6_copyFrom_66 (fun H locs hw => ?_)
  replace hw := hw.to eσ6
  refine lv_aload_n hx hb dX6_copyFrom_69 rfl (lv_at hl 0 rfl) ?_
  refine lv_aload_n hx hb dX6_copyFrom_70 rfl (lv_at hl 1 rfl) ?_
  refine gX6_6 X hw (isSt.s0 ho1) (isSt.n0 ho1) fl_X6_42 dX6_copyFrom_71 ?_
  obtain ⟨σ7, eσ7, hf⟩ := wlet_some hf
  refine pX6_6 X hw (isSt.s0 ho0) (isSt.n0 ho0) fl_X6_42 dX6_copyFrom_74 (fun H locs hw => ?_)
  replace hw := hw.to eσ7
  refine lv_aload_n hx hb dX6_copyFrom_77 rfl (lv_at hl 0 rfl) ?_
  refine lv_aload_n hx hb dX6_copyFrom_78 rfl (lv_at hl 1 rfl) ?_
  refine gX6_7 X hw (isSt.s0 ho1) (isSt.n0 ho1) fl_X6_45 dX6_copyFrom_79 ?_
  obtain ⟨σ8, eσ8, hf⟩ := wlet_some hf
  refine pX6_7 X hw (isSt.s0 ho0) (isSt.n0 ho0) fl_X6_45 dX6_copyFrom_82 (fun H locs hw => ?_)
  replace hw := hw.to eσ8
  have er := Option.some.inj hf
  subst er
  exact wr_vret X hw hr dX6_copyFrom_85

def f_X6_letPlead (σ : St) (o0 : Nat) (x1 : Int32) : Option (St) := if x1 < 0 then (some σ) else (if (7 : Int32) ≤ x1 then (some σ) else (wlet (si σ o0 4 ((σ.1 o0 4) ||| ((1 : Int32) <<< (x1 &&& 31)))) fun σ3 => some σ3))
theorem hd_X6_letPlead : yX6_letPlead.cls = RX6 ∧ yX6_letPlead.cls ≠ "java/lang/invoke/MethodHandle" ∧ yX6_letPlead.cls ≠ "java/lang/invoke/VarHandle" ∧ (parseMethodDescriptor yX6_letPlead.desc).map (fun d => d.parameters.length) = some 1 := by decide +kernel
set_option maxRecDepth 100000 in
set_option maxHeartbeats 4000000 in
theorem k_X6_letPlead {l : Launch} {ad : Nat → Nat} {D : va_G} {cy : Nat → ClassId} {z : wStr} (hI : wI WC ad) {σ : St} {o0 : Nat} {x1 : Int32} (ho0 : isSt o0) {res : St} (hf : f_X6_letPlead σ o0 x1 = some res) : wC WC ad D cy z l yX6_letPlead (Cond.code yX6_letPlead cX6_letPlead 2 (none) :: aw) (1) (100) [.ref (ad o0), .int x1] σ (wQv WC ad D cy res) := by
  unfold f_X6_letPlead at hf
  refine wr_start (own := RX6) hI (by decide +kernel) rfl (Nat.le_of_ble_eq_true rfl) rfl ?_
  intro p e s m below meth c ls X hw hr hl
  have hx := X.hx
  have hb := X.hb
  obtain ⟨H, eH⟩ : ∃ H : Heap, H = s.heap := ⟨_, rfl⟩
  obtain ⟨locs, el⟩ : ∃ locs : List Loc, locs = [] := ⟨_, rfl⟩
  rw [← eH, ← el] at hw ⊢
  clear eH el
  replace hl : lv_has ls 2 [(0, .ref (ad o0)), (1, .int x1)] := hl
  refine lv_iload_n hx hb dX6_letPlead_0 rfl (lv_at hl 1 rfl) ?_
  refine lv_if_lt (tgt := 22) hx hb dX6_letPlead_1 (by decide) (fun c1 => ?_) (fun c1 => ?_)
  · have hf := (if_pos c1).symm.trans hf
    have er := Option.some.inj hf
    subst er
    exact wr_vret X hw hr dX6_letPlead_22
  · have hf := (if_neg c1).symm.trans hf
    refine lv_iload_n hx hb dX6_letPlead_4 rfl (lv_at hl 1 rfl) ?_
    refine lv_bipush (v := 7) hx hb dX6_letPlead_5 (by decide) ?_
    refine lv_icmp_ge (tgt := 22) hx hb dX6_letPlead_7 (by decide) (fun c2 => ?_) (fun c2 => ?_)
    · have hf := (if_pos c2).symm.trans hf
      have er := Option.some.inj hf
      subst er
      exact wr_vret X hw hr dX6_letPlead_22
    · have hf := (if_neg c2).symm.trans hf
      refine lv_aload_n hx hb dX6_letPlead_10 rfl (lv_at hl 0 rfl) ?_
      refine lv_dup hx hb dX6_letPlead_11 rfl ?_
      refine gX6_4 X hw (isSt.s0 ho0) (isSt.n0 ho0) fl_X6_35 dX6_letPlead_12 ?_
      refine lv_iconst (v := 1) hx hb dX6_letPlead_15 (by decide) ?_
      refine lv_iload_n hx hb dX6_letPlead_16 rfl (lv_at hl 1 rfl) ?_
      refine lv_ishl hx hb dX6_letPlead_17 ?_
      refine lv_ior hx hb dX6_letPlead_18 ?_
      obtain ⟨σ3, eσ3, hf⟩ := wlet_some hf
      refine pX6_4 X hw (isSt.s0 ho0) (isSt.n0 ho0) fl_X6_35 dX6_letPlead_19 (fun H locs hw => ?_)
      replace hw := hw.to eσ3
      have er := Option.some.inj hf
      subst er
      exact wr_vret X hw hr dX6_letPlead_22

def f_X6_swap (σ : St) (o0 : Nat) (x1 : Int32) (x2 : Int32) : Option (St) := Option.bind (f_X6_placeOf σ o0 x1) fun v2 => Option.bind (f_X6_placeOf σ o0 x2) fun v4 => if v2 = (-1 : Int32) then (some σ) else (if v4 = (-1 : Int32) then (some σ) else (if ib v2 7 = true then wlet (si σ (o0 + 1) (Int32.toNatClampNeg v2) x2) fun σ8 => if ib v4 7 = true then wlet (si σ8 (o0 + 1) (Int32.toNatClampNeg v4) x1) fun σ10 => some σ10 else none else none))
theorem hd_X6_swap : yX6_swap.cls = RX6 ∧ yX6_swap.cls ≠ "java/lang/invoke/MethodHandle" ∧ yX6_swap.cls ≠ "java/lang/invoke/VarHandle" ∧ (parseMethodDescriptor yX6_swap.desc).map (fun d => d.parameters.length) = some 2 := by decide +kernel
set_option maxRecDepth 100000 in
set_option maxHeartbeats 4000000 in
theorem k_X6_swap {l : Launch} {ad : Nat → Nat} {D : va_G} {cy : Nat → ClassId} {z : wStr} (hI : wI WC ad) {σ : St} {o0 : Nat} {x1 : Int32} {x2 : Int32} (ho0 : isSt o0) {res : St} (hf : f_X6_swap σ o0 x1 x2 = some res) : wC WC ad D cy z l yX6_swap (Cond.code yX6_swap cX6_swap 5 (none) :: aw) (2) (122) [.ref (ad o0), .int x1, .int x2] σ (wQv WC ad D cy res) := by
  unfold f_X6_swap at hf
  refine wr_start (own := RX6) hI (by decide +kernel) rfl (Nat.le_of_ble_eq_true rfl) rfl ?_
  intro p e s m below meth c ls X hw hr hl
  have hx := X.hx
  have hb := X.hb
  obtain ⟨H, eH⟩ : ∃ H : Heap, H = s.heap := ⟨_, rfl⟩
  obtain ⟨locs, el⟩ : ∃ locs : List Loc, locs = [] := ⟨_, rfl⟩
  rw [← eH, ← el] at hw ⊢
  clear eH el
  replace hl : lv_has ls 5 [(0, .ref (ad o0)), (1, .int x1), (2, .int x2)] := hl
  refine lv_aload_n hx hb dX6_swap_0 rfl (lv_at hl 0 rfl) ?_
  refine lv_iload_n hx hb dX6_swap_1 rfl (lv_at hl 1 rfl) ?_
  obtain ⟨v2, hq1, hf⟩ := bind_some hf
  refine wr_cVi (r := v2) (σ' := σ) (av := [.int x1]) (rest := []) X hw hl.1 (isSt.s0 ho0) (isSt.n0 ho0) rfl (k_X6_placeOf hI ho0 hq1) rfl ml_X6_54 im_X6_placeOf se_X6_placeOf ini_X6 co_X6_placeOf hd_X6_placeOf ⟨Nat.le_of_ble_eq_true rfl, Nat.le_of_ble_eq_true rfl⟩ (Nat.le_of_ble_eq_true rfl) dX6_swap_2 rfl (fun H locs hw => ?_)
  refine lv_istore_n (lv' := [(3, .int v2), (0, .ref (ad o0)), (1, .int x1), (2, .int x2)]) hx hb dX6_swap_5 rfl hl (by decide) rfl (fun ls hl => ?_)
  refine lv_aload_n hx hb dX6_swap_6 rfl (lv_at hl 1 rfl) ?_
  refine lv_iload_n hx hb dX6_swap_7 rfl (lv_at hl 3 rfl) ?_
  obtain ⟨v4, hq3, hf⟩ := bind_some hf
  refine wr_cVi (r := v4) (σ' := σ) (av := [.int x2]) (rest := []) X hw hl.1 (isSt.s0 ho0) (isSt.n0 ho0) rfl (k_X6_placeOf hI ho0 hq3) rfl ml_X6_54 im_X6_placeOf se_X6_placeOf ini_X6 co_X6_placeOf hd_X6_placeOf ⟨Nat.le_of_ble_eq_true rfl, Nat.le_of_ble_eq_true rfl⟩ (Nat.le_of_ble_eq_true rfl) dX6_swap_8 rfl (fun H locs hw => ?_)
  refine lv_istore (lv' := [(4, .int v4), (3, .int v2), (0, .ref (ad o0)), (1, .int x1), (2, .int x2)]) hx hb dX6_swap_11 hl (by decide) rfl (fun ls hl => ?_)
  refine lv_iload_n hx hb dX6_swap_13 rfl (lv_at hl 1 rfl) ?_
  refine lv_iconst (v := -1) hx hb dX6_swap_14 (by decide) ?_
  refine lv_icmp_eq (tgt := 39) hx hb dX6_swap_15 (by decide) (fun c5 => ?_) (fun c5 => ?_)
  · have hf := (if_pos c5).symm.trans hf
    have er := Option.some.inj hf
    subst er
    exact wr_vret X hw hr dX6_swap_39
  · have hf := (if_neg c5).symm.trans hf
    refine lv_iload hx hb dX6_swap_18 (lv_at hl 0 rfl) ?_
    refine lv_iconst (v := -1) hx hb dX6_swap_20 (by decide) ?_
    refine lv_icmp_eq (tgt := 39) hx hb dX6_swap_21 (by decide) (fun c6 => ?_) (fun c6 => ?_)
    · have hf := (if_pos c6).symm.trans hf
      have er := Option.some.inj hf
      subst er
      exact wr_vret X hw hr dX6_swap_39
    · have hf := (if_neg c6).symm.trans hf
      refine lv_aload_n hx hb dX6_swap_24 rfl (lv_at hl 2 rfl) ?_
      refine gX6_0 (b := (o0 + 1)) X hw (isSt.s0 ho0) (isSt.n0 ho0) (isSt.r0 ho0) fl_X6_9 dX6_swap_25 ?_
      refine lv_iload_n hx hb dX6_swap_28 rfl (lv_at hl 1 rfl) ?_
      refine lv_iload_n hx hb dX6_swap_29 rfl (lv_at hl 4 rfl) ?_
      obtain ⟨h7, hf⟩ := if_some hf
      obtain ⟨σ8, eσ8, hf⟩ := wlet_some hf
      refine wr_iast X hw (isSt.s1 ho0) (isSt.n1 ho0) h7 dX6_swap_30 (fun H locs hw => ?_)
      replace hw := hw.to eσ8
      refine lv_aload_n hx hb dX6_swap_31 rfl (lv_at hl 2 rfl) ?_
      refine gX6_0 (b := (o0 + 1)) X hw (isSt.s0 ho0) (isSt.n0 ho0) (isSt.r0 ho0) fl_X6_9 dX6_swap_32 ?_
      refine lv_iload hx hb dX6_swap_35 (lv_at hl 0 rfl) ?_
      refine lv_iload_n hx hb dX6_swap_37 rfl (lv_at hl 3 rfl) ?_
      obtain ⟨h9, hf⟩ := if_some hf
      obtain ⟨σ10, eσ10, hf⟩ := wlet_some hf
      refine wr_iast X hw (isSt.s1 ho0) (isSt.n1 ho0) h9 dX6_swap_38 (fun H locs hw => ?_)
      replace hw := hw.to eσ10
      have er := Option.some.inj hf
      subst er
      exact wr_vret X hw hr dX6_swap_39

def f_X6_move (σ : St) (o0 : Nat) (x1 : Int32) (x2 : Int32) : Option (St) := Option.bind (f_X6_placeOf σ o0 x1) fun v2 => if v2 = (-1 : Int32) then (some σ) else (Option.bind (f_X6_docketAt σ o0 x2) fun v5 => if v5 = (-1 : Int32) then (some σ) else (if x2 ≤ v2 then (wlet (un3 (fun (σ36_8 : St) (x3_36_8 : Int32) (x5_36_8 : Int32) => if (7 : Int32) ≤ x5_36_8 then (some (.inr σ36_8)) else (if x3_36_8 = x2 then (some (.inr σ36_8)) else (Option.bind (f_X6_docketAt σ36_8 o0 (x3_36_8 + (-1 : Int32))) fun v14 => if ib x3_36_8 7 = true then wlet (si σ36_8 (o0 + 1) (Int32.toNatClampNeg x3_36_8) v14) fun σ16 => wlet (x3_36_8 + (-1 : Int32)) fun v17 => wlet (x5_36_8 + (1 : Int32)) fun v18 => some (.inl (σ16, v17, v18)) else none))) : St × Int32 × Int32 → Option ((St × Int32 × Int32) ⊕ (St))) fun st36_8 => Option.bind (lp st36_8 fuel (σ, v2, (0 : Int32))) ((fun (σe36_8 : St) => if ib x2 7 = true then wlet (si σe36_8 (o0 + 1) (Int32.toNatClampNeg x2) x1) fun σ10 => some σ10 else none))) else (wlet (un3 (fun (σ36_19 : St) (x3_36_19 : Int32) (x5_36_19 : Int32) => if (7 : Int32) ≤ x5_36_19 then (some (.inr σ36_19)) else (if x3_36_19 = x2 then (some (.inr σ36_19)) else (Option.bind (f_X6_docketAt σ36_19 o0 (x3_36_19 + (1 : Int32))) fun v25 => if ib x3_36_19 7 = true then wlet (si σ36_19 (o0 + 1) (Int32.toNatClampNeg x3_36_19) v25) fun σ27 => wlet (x3_36_19 + (1 : Int32)) fun v28 => wlet (x5_36_19 + (1 : Int32)) fun v29 => some (.inl (σ27, v28, v29)) else none))) : St × Int32 × Int32 → Option ((St × Int32 × Int32) ⊕ (St))) fun st36_19 => Option.bind (lp st36_19 fuel (σ, v2, (0 : Int32))) ((fun (σe36_19 : St) => if ib x2 7 = true then wlet (si σe36_19 (o0 + 1) (Int32.toNatClampNeg x2) x1) fun σ21 => some σ21 else none)))))
theorem hd_X6_move : yX6_move.cls = RX6 ∧ yX6_move.cls ≠ "java/lang/invoke/MethodHandle" ∧ yX6_move.cls ≠ "java/lang/invoke/VarHandle" ∧ (parseMethodDescriptor yX6_move.desc).map (fun d => d.parameters.length) = some 2 := by decide +kernel
set_option maxRecDepth 100000 in
set_option maxHeartbeats 4000000 in
theorem k_X6_move {l : Launch} {ad : Nat → Nat} {D : va_G} {cy : Nat → ClassId} {z : wStr} (hI : wI WC ad) {σ : St} {o0 : Nat} {x1 : Int32} {x2 : Int32} (ho0 : isSt o0) {res : St} (hf : f_X6_move σ o0 x1 x2 = some res) : wC WC ad D cy z l yX6_move (Cond.code yX6_move cX6_move 6 (none) :: aw) (2) (122) [.ref (ad o0), .int x1, .int x2] σ (wQv WC ad D cy res) := by
  unfold f_X6_move at hf
  refine wr_start (own := RX6) hI (by decide +kernel) rfl (Nat.le_of_ble_eq_true rfl) rfl ?_
  intro p e s m below meth c ls X hw hr hl
  have hx := X.hx
  have hb := X.hb
  obtain ⟨H, eH⟩ : ∃ H : Heap, H = s.heap := ⟨_, rfl⟩
  obtain ⟨locs, el⟩ : ∃ locs : List Loc, locs = [] := ⟨_, rfl⟩
  rw [← eH, ← el] at hw ⊢
  clear eH el
  replace hl : lv_has ls 6 [(0, .ref (ad o0)), (1, .int x1), (2, .int x2)] := hl
  refine lv_aload_n hx hb dX6_move_0 rfl (lv_at hl 0 rfl) ?_
  refine lv_iload_n hx hb dX6_move_1 rfl (lv_at hl 1 rfl) ?_
  obtain ⟨v2, hq1, hf⟩ := bind_some hf
  refine wr_cVi (r := v2) (σ' := σ) (av := [.int x1]) (rest := []) X hw hl.1 (isSt.s0 ho0) (isSt.n0 ho0) rfl (k_X6_placeOf hI ho0 hq1) rfl ml_X6_54 im_X6_placeOf se_X6_placeOf ini_X6 co_X6_placeOf hd_X6_placeOf ⟨Nat.le_of_ble_eq_true rfl, Nat.le_of_ble_eq_true rfl⟩ (Nat.le_of_ble_eq_true rfl) dX6_move_2 rfl (fun H locs hw => ?_)
  refine lv_istore_n (lv' := [(3, .int v2), (0, .ref (ad o0)), (1, .int x1), (2, .int x2)]) hx hb dX6_move_5 rfl hl (by decide) rfl (fun ls hl => ?_)
  refine lv_iload_n hx hb dX6_move_6 rfl (lv_at hl 0 rfl) ?_
  refine lv_iconst (v := -1) hx hb dX6_move_7 (by decide) ?_
  refine lv_icmp_eq (tgt := 20) hx hb dX6_move_8 (by decide) (fun c3 => ?_) (fun c3 => ?_)
  · have hf := (if_pos c3).symm.trans hf
    have er := Option.some.inj hf
    subst er
    exact wr_vret X hw hr dX6_move_20
  · have hf := (if_neg c3).symm.trans hf
    refine lv_aload_n hx hb dX6_move_11 rfl (lv_at hl 1 rfl) ?_
    refine lv_iload_n hx hb dX6_move_12 rfl (lv_at hl 3 rfl) ?_
    obtain ⟨v5, hq4, hf⟩ := bind_some hf
    refine wr_cVi (r := v5) (σ' := σ) (av := [.int x2]) (rest := []) X hw hl.1 (isSt.s0 ho0) (isSt.n0 ho0) rfl (k_X6_docketAt hI ho0 hq4) rfl ml_X6_58 im_X6_docketAt se_X6_docketAt ini_X6 co_X6_docketAt hd_X6_docketAt ⟨Nat.le_of_ble_eq_true rfl, Nat.le_of_ble_eq_true rfl⟩ (Nat.le_of_ble_eq_true rfl) dX6_move_13 rfl (fun H locs hw => ?_)
    refine lv_iconst (v := -1) hx hb dX6_move_16 (by decide) ?_
    refine lv_icmp_ne (tgt := 21) hx hb dX6_move_17 (by decide) (fun c6 => ?_) (fun c6 => ?_)
    · have hf := (if_neg c6).symm.trans hf
      refine lv_iload_n hx hb dX6_move_21 rfl (lv_at hl 0 rfl) ?_
      refine lv_iload_n hx hb dX6_move_22 rfl (lv_at hl 3 rfl) ?_
      refine lv_icmp_ge (tgt := 30) hx hb dX6_move_23 (by decide) (fun c7 => ?_) (fun c7 => ?_)
      · have hf := (if_pos c7).symm.trans hf
        refine lv_iconst (v := -1) hx hb dX6_move_30 (by decide) ?_
        refine lv_istore (lv' := [(4, .int (-1 : Int32)), (3, .int v2), (0, .ref (ad o0)), (1, .int x1), (2, .int x2)]) hx hb dX6_move_31 hl (by decide) rfl (fun ls hl => ?_)
        refine lv_iconst (v := 0) hx hb dX6_move_33 (by decide) ?_
        refine lv_istore (lv' := [(5, .int (0 : Int32)), (4, .int (-1 : Int32)), (3, .int v2), (0, .ref (ad o0)), (1, .int x1), (2, .int x2)]) hx hb dX6_move_34 hl (by decide) rfl (fun ls hl => ?_)
        obtain ⟨st36_8, est36_8, hf⟩ := wlet_some hf
        obtain ⟨E36_8, hq36_8, hE36_8⟩ := bind_some hf
        have hx36_8 : ∀ (σe36_8 : St) (_ : σe36_8 = E36_8) (ls : Array Slot) (H : Heap) (locs : List Loc), lv_has ls 6 [(0, .ref (ad o0)), (1, .int x1), (2, .int x2)] → wH WC ad D cy s σe36_8 H locs → W p l e { frames := 2, cells := 0, slots := 0, locals := 122 } s m [.ref (ad o0), .int x1, .int x2].toArray below meth c H locs 0 0 (MQ below (wQv WC ad D cy res) [.ref (ad o0), .int x1, .int x2].toArray s 0 0 (wA WC ad)) (F0 m 73 ls []) := by
          intro σe36_8 e0 ls H locs hl hw
          subst e0
          have hf := hE36_8
          refine lv_aload_n hx hb dX6_move_73 rfl (lv_at hl 0 rfl) ?_
          refine gX6_0 (b := (o0 + 1)) X hw (isSt.s0 ho0) (isSt.n0 ho0) (isSt.r0 ho0) fl_X6_9 dX6_move_74 ?_
          refine lv_iload_n hx hb dX6_move_77 rfl (lv_at hl 2 rfl) ?_
          refine lv_iload_n hx hb dX6_move_78 rfl (lv_at hl 1 rfl) ?_
          obtain ⟨h9, hf⟩ := if_some hf
          obtain ⟨σ10, eσ10, hf⟩ := wlet_some hf
          refine wr_iast X hw (isSt.s1 ho0) (isSt.n1 ho0) h9 dX6_move_79 (fun H locs hw => ?_)
          replace hw := hw.to eσ10
          have er := Option.some.inj hf
          subst er
          exact wr_vret X hw hr dX6_move_80
        have lo36_8 : ∀ (n : Nat) (σ36_8 : St) (x3_36_8 : Int32) (x5_36_8 : Int32) (_ : lp st36_8 n (σ36_8, x3_36_8, x5_36_8) = some E36_8) (ls : Array Slot) (H : Heap) (locs : List Loc), lv_has ls 6 [(0, .ref (ad o0)), (1, .int x1), (2, .int x2), (3, .int x3_36_8), (4, .int (-1 : Int32)), (5, .int x5_36_8)] → wH WC ad D cy s σ36_8 H locs → W p l e { frames := 2, cells := 0, slots := 0, locals := 122 } s m [.ref (ad o0), .int x1, .int x2].toArray below meth c H locs 0 0 (MQ below (wQv WC ad D cy res) [.ref (ad o0), .int x1, .int x2].toArray s 0 0 (wA WC ad)) (F0 m 36 ls []) := by
          intro n
          induction n with
          | zero =>
            intro σ36_8 x3_36_8 x5_36_8 hf ls H locs hl hw
            exact (lp_zero hf).elim
          | succ n ih36_8 =>
            intro σ36_8 x3_36_8 x5_36_8 hf ls H locs hl hw
            obtain ⟨q36_8, hf, hz36_8⟩ := lp_succ hf
            rw [est36_8] at hf
            replace hf := un3_some hf
            refine lv_iload hx hb dX6_move_36 (lv_at hl 5 rfl) ?_
            refine lv_bipush (v := 7) hx hb dX6_move_38 (by decide) ?_
            refine lv_icmp_ge (tgt := 73) hx hb dX6_move_40 (by decide) (fun c11 => ?_) (fun c11 => ?_)
            · have hf := (if_pos c11).symm.trans hf
              exact hx36_8 σ36_8 (lpK_inr (lp_leaf hf hz36_8)) ls H locs (lv_sub hl [0, 1, 2] rfl) hw
            · have hf := (if_neg c11).symm.trans hf
              refine lv_iload_n hx hb dX6_move_43 rfl (lv_at hl 3 rfl) ?_
              refine lv_iload_n hx hb dX6_move_44 rfl (lv_at hl 2 rfl) ?_
              refine lv_icmp_eq (tgt := 73) hx hb dX6_move_45 (by decide) (fun c12 => ?_) (fun c12 => ?_)
              · have hf := (if_pos c12).symm.trans hf
                exact hx36_8 σ36_8 (lpK_inr (lp_leaf hf hz36_8)) ls H locs (lv_sub hl [0, 1, 2] rfl) hw
              · have hf := (if_neg c12).symm.trans hf
                refine lv_aload_n hx hb dX6_move_48 rfl (lv_at hl 0 rfl) ?_
                refine gX6_0 (b := (o0 + 1)) X hw (isSt.s0 ho0) (isSt.n0 ho0) (isSt.r0 ho0) fl_X6_9 dX6_move_49 ?_
                refine lv_iload_n hx hb dX6_move_52 rfl (lv_at hl 3 rfl) ?_
                refine lv_aload_n hx hb dX6_move_53 rfl (lv_at hl 0 rfl) ?_
                refine lv_iload_n hx hb dX6_move_54 rfl (lv_at hl 3 rfl) ?_
                refine lv_iload hx hb dX6_move_55 (lv_at hl 4 rfl) ?_
                refine lv_iadd hx hb dX6_move_57 ?_
                obtain ⟨v14, hq13, hf⟩ := bind_some hf
                refine wr_cVi (r := v14) (σ' := σ36_8) (av := [.int (x3_36_8 + (-1 : Int32))]) (rest := [.int x3_36_8, .ref (ad (o0 + 1))]) X hw hl.1 (isSt.s0 ho0) (isSt.n0 ho0) rfl (k_X6_docketAt hI ho0 hq13) rfl ml_X6_58 im_X6_docketAt se_X6_docketAt ini_X6 co_X6_docketAt hd_X6_docketAt ⟨Nat.le_of_ble_eq_true rfl, Nat.le_of_ble_eq_true rfl⟩ (Nat.le_of_ble_eq_true rfl) dX6_move_58 rfl (fun H locs hw => ?_)
                obtain ⟨h15, hf⟩ := if_some hf
                obtain ⟨σ16, eσ16, hf⟩ := wlet_some hf
                refine wr_iast X hw (isSt.s1 ho0) (isSt.n1 ho0) h15 dX6_move_61 (fun H locs hw => ?_)
                replace hw := hw.to eσ16
                refine lv_iload_n hx hb dX6_move_62 rfl (lv_at hl 3 rfl) ?_
                refine lv_iload hx hb dX6_move_63 (lv_at hl 4 rfl) ?_
                refine lv_iadd hx hb dX6_move_65 ?_
                obtain ⟨v17, ev17, hf⟩ := wlet_some hf
                refine wr_top ev17 ?_
                refine lv_istore_n (lv' := [(3, .int v17), (0, .ref (ad o0)), (1, .int x1), (2, .int x2), (4, .int (-1 : Int32)), (5, .int x5_36_8)]) hx hb dX6_move_66 rfl hl (by decide) rfl (fun ls hl => ?_)
                obtain ⟨v18, ev18, hf⟩ := wlet_some hf
                refine lv_iinc (v := v18) (lv' := [(5, .int v18), (3, .int v17), (0, .ref (ad o0)), (1, .int x1), (2, .int x2), (4, .int (-1 : Int32))]) hx hb dX6_move_67 hl (k := 5) rfl (by rw [ev18]; rfl) (by decide) rfl (fun ls hl => ?_)
                refine lv_goto (tgt := 36) hx hb dX6_move_70 (by decide) ?_
                exact ih36_8 σ16 v17 v18 (lp_leaf hf hz36_8) ls H locs (lv_sub hl [2, 3, 4, 1, 5, 0] rfl) hw
        exact lo36_8 fuel σ v2 (0 : Int32) hq36_8 ls H locs (lv_sub hl [3, 4, 5, 2, 1, 0] rfl) hw
      · have hf := (if_neg c7).symm.trans hf
        refine lv_iconst (v := 1) hx hb dX6_move_26 (by decide) ?_
        refine lv_goto (tgt := 31) hx hb dX6_move_27 (by decide) ?_
        refine lv_istore (lv' := [(4, .int (1 : Int32)), (3, .int v2), (0, .ref (ad o0)), (1, .int x1), (2, .int x2)]) hx hb dX6_move_31 hl (by decide) rfl (fun ls hl => ?_)
        refine lv_iconst (v := 0) hx hb dX6_move_33 (by decide) ?_
        refine lv_istore (lv' := [(5, .int (0 : Int32)), (4, .int (1 : Int32)), (3, .int v2), (0, .ref (ad o0)), (1, .int x1), (2, .int x2)]) hx hb dX6_move_34 hl (by decide) rfl (fun ls hl => ?_)
        obtain ⟨st36_19, est36_19, hf⟩ := wlet_some hf
        obtain ⟨E36_19, hq36_19, hE36_19⟩ := bind_some hf
        have hx36_19 : ∀ (σe36_19 : St) (_ : σe36_19 = E36_19) (ls : Array Slot) (H : Heap) (locs : List Loc), lv_has ls 6 [(0, .ref (ad o0)), (1, .int x1), (2, .int x2)] → wH WC ad D cy s σe36_19 H locs → W p l e { frames := 2, cells := 0, slots := 0, locals := 122 } s m [.ref (ad o0), .int x1, .int x2].toArray below meth c H locs 0 0 (MQ below (wQv WC ad D cy res) [.ref (ad o0), .int x1, .int x2].toArray s 0 0 (wA WC ad)) (F0 m 73 ls []) := by
          intro σe36_19 e0 ls H locs hl hw
          subst e0
          have hf := hE36_19
          refine lv_aload_n hx hb dX6_move_73 rfl (lv_at hl 0 rfl) ?_
          refine gX6_0 (b := (o0 + 1)) X hw (isSt.s0 ho0) (isSt.n0 ho0) (isSt.r0 ho0) fl_X6_9 dX6_move_74 ?_
          refine lv_iload_n hx hb dX6_move_77 rfl (lv_at hl 2 rfl) ?_
          refine lv_iload_n hx hb dX6_move_78 rfl (lv_at hl 1 rfl) ?_
          obtain ⟨h20, hf⟩ := if_some hf
          obtain ⟨σ21, eσ21, hf⟩ := wlet_some hf
          refine wr_iast X hw (isSt.s1 ho0) (isSt.n1 ho0) h20 dX6_move_79 (fun H locs hw => ?_)
          replace hw := hw.to eσ21
          have er := Option.some.inj hf
          subst er
          exact wr_vret X hw hr dX6_move_80
        have lo36_19 : ∀ (n : Nat) (σ36_19 : St) (x3_36_19 : Int32) (x5_36_19 : Int32) (_ : lp st36_19 n (σ36_19, x3_36_19, x5_36_19) = some E36_19) (ls : Array Slot) (H : Heap) (locs : List Loc), lv_has ls 6 [(0, .ref (ad o0)), (1, .int x1), (2, .int x2), (3, .int x3_36_19), (4, .int (1 : Int32)), (5, .int x5_36_19)] → wH WC ad D cy s σ36_19 H locs → W p l e { frames := 2, cells := 0, slots := 0, locals := 122 } s m [.ref (ad o0), .int x1, .int x2].toArray below meth c H locs 0 0 (MQ below (wQv WC ad D cy res) [.ref (ad o0), .int x1, .int x2].toArray s 0 0 (wA WC ad)) (F0 m 36 ls []) := by
          intro n
          induction n with
          | zero =>
            intro σ36_19 x3_36_19 x5_36_19 hf ls H locs hl hw
            exact (lp_zero hf).elim
          | succ n ih36_19 =>
            intro σ36_19 x3_36_19 x5_36_19 hf ls H locs hl hw
            obtain ⟨q36_19, hf, hz36_19⟩ := lp_succ hf
            rw [est36_19] at hf
            replace hf := un3_some hf
            refine lv_iload hx hb dX6_move_36 (lv_at hl 5 rfl) ?_
            refine lv_bipush (v := 7) hx hb dX6_move_38 (by decide) ?_
            refine lv_icmp_ge (tgt := 73) hx hb dX6_move_40 (by decide) (fun c22 => ?_) (fun c22 => ?_)
            · have hf := (if_pos c22).symm.trans hf
              exact hx36_19 σ36_19 (lpK_inr (lp_leaf hf hz36_19)) ls H locs (lv_sub hl [0, 1, 2] rfl) hw
            · have hf := (if_neg c22).symm.trans hf
              refine lv_iload_n hx hb dX6_move_43 rfl (lv_at hl 3 rfl) ?_
              refine lv_iload_n hx hb dX6_move_44 rfl (lv_at hl 2 rfl) ?_
              refine lv_icmp_eq (tgt := 73) hx hb dX6_move_45 (by decide) (fun c23 => ?_) (fun c23 => ?_)
              · have hf := (if_pos c23).symm.trans hf
                exact hx36_19 σ36_19 (lpK_inr (lp_leaf hf hz36_19)) ls H locs (lv_sub hl [0, 1, 2] rfl) hw
              · have hf := (if_neg c23).symm.trans hf
                refine lv_aload_n hx hb dX6_move_48 rfl (lv_at hl 0 rfl) ?_
                refine gX6_0 (b := (o0 + 1)) X hw (isSt.s0 ho0) (isSt.n0 ho0) (isSt.r0 ho0) fl_X6_9 dX6_move_49 ?_
                refine lv_iload_n hx hb dX6_move_52 rfl (lv_at hl 3 rfl) ?_
                refine lv_aload_n hx hb dX6_move_53 rfl (lv_at hl 0 rfl) ?_
                refine lv_iload_n hx hb dX6_move_54 rfl (lv_at hl 3 rfl) ?_
                refine lv_iload hx hb dX6_move_55 (lv_at hl 4 rfl) ?_
                refine lv_iadd hx hb dX6_move_57 ?_
                obtain ⟨v25, hq24, hf⟩ := bind_some hf
                refine wr_cVi (r := v25) (σ' := σ36_19) (av := [.int (x3_36_19 + (1 : Int32))]) (rest := [.int x3_36_19, .ref (ad (o0 + 1))]) X hw hl.1 (isSt.s0 ho0) (isSt.n0 ho0) rfl (k_X6_docketAt hI ho0 hq24) rfl ml_X6_58 im_X6_docketAt se_X6_docketAt ini_X6 co_X6_docketAt hd_X6_docketAt ⟨Nat.le_of_ble_eq_true rfl, Nat.le_of_ble_eq_true rfl⟩ (Nat.le_of_ble_eq_true rfl) dX6_move_58 rfl (fun H locs hw => ?_)
                obtain ⟨h26, hf⟩ := if_some hf
                obtain ⟨σ27, eσ27, hf⟩ := wlet_some hf
                refine wr_iast X hw (isSt.s1 ho0) (isSt.n1 ho0) h26 dX6_move_61 (fun H locs hw => ?_)
                replace hw := hw.to eσ27
                refine lv_iload_n hx hb dX6_move_62 rfl (lv_at hl 3 rfl) ?_
                refine lv_iload hx hb dX6_move_63 (lv_at hl 4 rfl) ?_
                refine lv_iadd hx hb dX6_move_65 ?_
                obtain ⟨v28, ev28, hf⟩ := wlet_some hf
                refine wr_top ev28 ?_
                refine lv_istore_n (lv' := [(3, .int v28), (0, .ref (ad o0)), (1, .int x1), (2, .int x2), (4, .int (1 : Int32)), (5, .int x5_36_19)]) hx hb dX6_move_66 rfl hl (by decide) rfl (fun ls hl => ?_)
                obtain ⟨v29, ev29, hf⟩ := wlet_some hf
                refine lv_iinc (v := v29) (lv' := [(5, .int v29), (3, .int v28), (0, .ref (ad o0)), (1, .int x1), (2, .int x2), (4, .int (1 : Int32))]) hx hb dX6_move_67 hl (k := 5) rfl (by rw [ev29]; rfl) (by decide) rfl (fun ls hl => ?_)
                refine lv_goto (tgt := 36) hx hb dX6_move_70 (by decide) ?_
                exact ih36_19 σ27 v28 v29 (lp_leaf hf hz36_19) ls H locs (lv_sub hl [2, 3, 4, 1, 5, 0] rfl) hw
        exact lo36_19 fuel σ v2 (0 : Int32) hq36_19 ls H locs (lv_sub hl [3, 4, 5, 2, 1, 0] rfl) hw
    · have hf := (if_pos c6).symm.trans hf
      have er := Option.some.inj hf
      subst er
      exact wr_vret X hw hr dX6_move_20

def f_X6_strike (σ : St) (o0 : Nat) (x1 : Int32) : Option (St) := Option.bind (f_X6_isListed σ o0 x1) fun v2 => if v2 = 0 then (some σ) else (Option.bind (f_X6_move σ o0 x1 ((σ.1 o0 3) - (1 : Int32))) fun σ5 => wlet (si σ5 o0 3 ((σ5.1 o0 3) - (1 : Int32))) fun σ6 => wlet (si σ6 o0 4 ((σ6.1 o0 4) &&& (((1 : Int32) <<< (x1 &&& 31)) ^^^ (-1 : Int32)))) fun σ7 => some σ7)
theorem hd_X6_strike : yX6_strike.cls = RX6 ∧ yX6_strike.cls ≠ "java/lang/invoke/MethodHandle" ∧ yX6_strike.cls ≠ "java/lang/invoke/VarHandle" ∧ (parseMethodDescriptor yX6_strike.desc).map (fun d => d.parameters.length) = some 1 := by decide +kernel
set_option maxRecDepth 100000 in
set_option maxHeartbeats 4000000 in
theorem k_X6_strike {l : Launch} {ad : Nat → Nat} {D : va_G} {cy : Nat → ClassId} {z : wStr} (hI : wI WC ad) {σ : St} {o0 : Nat} {x1 : Int32} (ho0 : isSt o0) {res : St} (hf : f_X6_strike σ o0 x1 = some res) : wC WC ad D cy z l yX6_strike (Cond.code yX6_strike cX6_strike 2 (none) :: aw) (3) (147) [.ref (ad o0), .int x1] σ (wQv WC ad D cy res) := by
  unfold f_X6_strike at hf
  refine wr_start (own := RX6) hI (by decide +kernel) rfl (Nat.le_of_ble_eq_true rfl) rfl ?_
  intro p e s m below meth c ls X hw hr hl
  have hx := X.hx
  have hb := X.hb
  obtain ⟨H, eH⟩ : ∃ H : Heap, H = s.heap := ⟨_, rfl⟩
  obtain ⟨locs, el⟩ : ∃ locs : List Loc, locs = [] := ⟨_, rfl⟩
  rw [← eH, ← el] at hw ⊢
  clear eH el
  replace hl : lv_has ls 2 [(0, .ref (ad o0)), (1, .int x1)] := hl
  refine lv_aload_n hx hb dX6_strike_0 rfl (lv_at hl 0 rfl) ?_
  refine lv_iload_n hx hb dX6_strike_1 rfl (lv_at hl 1 rfl) ?_
  obtain ⟨v2, hq1, hf⟩ := bind_some hf
  refine wr_cVi (r := v2) (σ' := σ) (av := [.int x1]) (rest := []) X hw hl.1 (isSt.s0 ho0) (isSt.n0 ho0) rfl (k_X6_isListed hI ho0 hq1) rfl ml_X6_61 im_X6_isListed se_X6_isListed ini_X6 co_X6_isListed hd_X6_isListed ⟨Nat.le_of_ble_eq_true rfl, Nat.le_of_ble_eq_true rfl⟩ (Nat.le_of_ble_eq_true rfl) dX6_strike_2 rfl (fun H locs hw => ?_)
  refine lv_if_eq (tgt := 43) hx hb dX6_strike_5 (by decide) (fun c3 => ?_) (fun c3 => ?_)
  · have hf := (if_pos c3).symm.trans hf
    have er := Option.some.inj hf
    subst er
    exact wr_vret X hw hr dX6_strike_43
  · have hf := (if_neg c3).symm.trans hf
    refine lv_aload_n hx hb dX6_strike_8 rfl (lv_at hl 0 rfl) ?_
    refine lv_iload_n hx hb dX6_strike_9 rfl (lv_at hl 1 rfl) ?_
    refine lv_aload_n hx hb dX6_strike_10 rfl (lv_at hl 0 rfl) ?_
    refine gX6_3 X hw (isSt.s0 ho0) (isSt.n0 ho0) fl_X6_32 dX6_strike_11 ?_
    refine lv_iconst (v := 1) hx hb dX6_strike_14 (by decide) ?_
    refine lv_isub hx hb dX6_strike_15 ?_
    obtain ⟨σ5, hq4, hf⟩ := bind_some hf
    refine wr_cVv (σ' := σ5) (av := [.int x1, .int ((σ.1 o0 3) - (1 : Int32))]) (rest := []) X hw hl.1 (isSt.s0 ho0) (isSt.n0 ho0) rfl (k_X6_move hI ho0 hq4) rfl ml_X6_64 im_X6_move se_X6_move ini_X6 co_X6_move hd_X6_move ⟨Nat.le_of_ble_eq_true rfl, Nat.le_of_ble_eq_true rfl⟩ (Nat.le_of_ble_eq_true rfl) dX6_strike_16 rfl (fun H locs hw => ?_)
    refine lv_aload_n hx hb dX6_strike_19 rfl (lv_at hl 0 rfl) ?_
    refine lv_dup hx hb dX6_strike_20 rfl ?_
    refine gX6_3 X hw (isSt.s0 ho0) (isSt.n0 ho0) fl_X6_32 dX6_strike_21 ?_
    refine lv_iconst (v := 1) hx hb dX6_strike_24 (by decide) ?_
    refine lv_isub hx hb dX6_strike_25 ?_
    obtain ⟨σ6, eσ6, hf⟩ := wlet_some hf
    refine pX6_3 X hw (isSt.s0 ho0) (isSt.n0 ho0) fl_X6_32 dX6_strike_26 (fun H locs hw => ?_)
    replace hw := hw.to eσ6
    refine lv_aload_n hx hb dX6_strike_29 rfl (lv_at hl 0 rfl) ?_
    refine lv_dup hx hb dX6_strike_30 rfl ?_
    refine gX6_4 X hw (isSt.s0 ho0) (isSt.n0 ho0) fl_X6_35 dX6_strike_31 ?_
    refine lv_iconst (v := 1) hx hb dX6_strike_34 (by decide) ?_
    refine lv_iload_n hx hb dX6_strike_35 rfl (lv_at hl 1 rfl) ?_
    refine lv_ishl hx hb dX6_strike_36 ?_
    refine lv_iconst (v := -1) hx hb dX6_strike_37 (by decide) ?_
    refine lv_ixor hx hb dX6_strike_38 ?_
    refine lv_iand hx hb dX6_strike_39 ?_
    obtain ⟨σ7, eσ7, hf⟩ := wlet_some hf
    refine pX6_4 X hw (isSt.s0 ho0) (isSt.n0 ho0) fl_X6_35 dX6_strike_40 (fun H locs hw => ?_)
    replace hw := hw.to eσ7
    have er := Option.some.inj hf
    subst er
    exact wr_vret X hw hr dX6_strike_43

def f_X6_append (σ : St) (o0 : Nat) (x1 : Int32) : Option (St) := if (σ.1 o0 3) < 0 then (some σ) else (if (7 : Int32) ≤ (σ.1 o0 3) then (some σ) else (if ib (σ.1 o0 3) 7 = true then wlet (si σ (o0 + 1) (Int32.toNatClampNeg (σ.1 o0 3)) x1) fun σ4 => wlet (si σ4 o0 3 ((σ4.1 o0 3) + (1 : Int32))) fun σ5 => some σ5 else none))
theorem hd_X6_append : yX6_append.cls = RX6 ∧ yX6_append.cls ≠ "java/lang/invoke/MethodHandle" ∧ yX6_append.cls ≠ "java/lang/invoke/VarHandle" ∧ (parseMethodDescriptor yX6_append.desc).map (fun d => d.parameters.length) = some 1 := by decide +kernel
set_option maxRecDepth 100000 in
set_option maxHeartbeats 4000000 in
theorem k_X6_append {l : Launch} {ad : Nat → Nat} {D : va_G} {cy : Nat → ClassId} {z : wStr} (hI : wI WC ad) {σ : St} {o0 : Nat} {x1 : Int32} (ho0 : isSt o0) {res : St} (hf : f_X6_append σ o0 x1 = some res) : wC WC ad D cy z l yX6_append (Cond.code yX6_append cX6_append 2 (none) :: aw) (1) (100) [.ref (ad o0), .int x1] σ (wQv WC ad D cy res) := by
  unfold f_X6_append at hf
  refine wr_start (own := RX6) hI (by decide +kernel) rfl (Nat.le_of_ble_eq_true rfl) rfl ?_
  intro p e s m below meth c ls X hw hr hl
  have hx := X.hx
  have hb := X.hb
  obtain ⟨H, eH⟩ : ∃ H : Heap, H = s.heap := ⟨_, rfl⟩
  obtain ⟨locs, el⟩ : ∃ locs : List Loc, locs = [] := ⟨_, rfl⟩
  rw [← eH, ← el] at hw ⊢
  clear eH el
  replace hl : lv_has ls 2 [(0, .ref (ad o0)), (1, .int x1)] := hl
  refine lv_aload_n hx hb dX6_append_0 rfl (lv_at hl 0 rfl) ?_
  refine gX6_3 X hw (isSt.s0 ho0) (isSt.n0 ho0) fl_X6_32 dX6_append_1 ?_
  refine lv_if_lt (tgt := 36) hx hb dX6_append_4 (by decide) (fun c1 => ?_) (fun c1 => ?_)
  · have hf := (if_pos c1).symm.trans hf
    have er := Option.some.inj hf
    subst er
    exact wr_vret X hw hr dX6_append_36
  · have hf := (if_neg c1).symm.trans hf
    refine lv_aload_n hx hb dX6_append_7 rfl (lv_at hl 0 rfl) ?_
    refine gX6_3 X hw (isSt.s0 ho0) (isSt.n0 ho0) fl_X6_32 dX6_append_8 ?_
    refine lv_bipush (v := 7) hx hb dX6_append_11 (by decide) ?_
    refine lv_icmp_ge (tgt := 36) hx hb dX6_append_13 (by decide) (fun c2 => ?_) (fun c2 => ?_)
    · have hf := (if_pos c2).symm.trans hf
      have er := Option.some.inj hf
      subst er
      exact wr_vret X hw hr dX6_append_36
    · have hf := (if_neg c2).symm.trans hf
      refine lv_aload_n hx hb dX6_append_16 rfl (lv_at hl 0 rfl) ?_
      refine gX6_0 (b := (o0 + 1)) X hw (isSt.s0 ho0) (isSt.n0 ho0) (isSt.r0 ho0) fl_X6_9 dX6_append_17 ?_
      refine lv_aload_n hx hb dX6_append_20 rfl (lv_at hl 0 rfl) ?_
      refine gX6_3 X hw (isSt.s0 ho0) (isSt.n0 ho0) fl_X6_32 dX6_append_21 ?_
      refine lv_iload_n hx hb dX6_append_24 rfl (lv_at hl 1 rfl) ?_
      obtain ⟨h3, hf⟩ := if_some hf
      obtain ⟨σ4, eσ4, hf⟩ := wlet_some hf
      refine wr_iast X hw (isSt.s1 ho0) (isSt.n1 ho0) h3 dX6_append_25 (fun H locs hw => ?_)
      replace hw := hw.to eσ4
      refine lv_aload_n hx hb dX6_append_26 rfl (lv_at hl 0 rfl) ?_
      refine lv_dup hx hb dX6_append_27 rfl ?_
      refine gX6_3 X hw (isSt.s0 ho0) (isSt.n0 ho0) fl_X6_32 dX6_append_28 ?_
      refine lv_iconst (v := 1) hx hb dX6_append_31 (by decide) ?_
      refine lv_iadd hx hb dX6_append_32 ?_
      obtain ⟨σ5, eσ5, hf⟩ := wlet_some hf
      refine pX6_3 X hw (isSt.s0 ho0) (isSt.n0 ho0) fl_X6_32 dX6_append_33 (fun H locs hw => ?_)
      replace hw := hw.to eσ5
      have er := Option.some.inj hf
      subst er
      exact wr_vret X hw hr dX6_append_36

def f_X6_begin (σ : St) (o0 : Nat) (o1 : Nat) : Option (St) := wlet (un2 (fun (σ2_1 : St) (x2_2_1 : Int32) => if (7 : Int32) ≤ x2_2_1 then (some (.inr σ2_1)) else (if ib x2_2_1 7 = true then wlet (si σ2_1 (o0 + 1) (Int32.toNatClampNeg x2_2_1) x2_2_1) fun σ9 => Option.bind (f_X8_has σ9 o1 x2_2_1) fun v11 => wlet (fun (s1_38_12 : Int32) (s2_38_12 : Int32) => (if ib s1_38_12 7 = true then wlet (si σ9 (o0 + 2) (Int32.toNatClampNeg s1_38_12) s2_38_12) fun σ14 => if ib x2_2_1 7 = true then wlet (si σ14 (o0 + 3) (Int32.toNatClampNeg x2_2_1) (0 : Int32)) fun σ16 => wlet (x2_2_1 + (1 : Int32)) fun v17 => some (.inl (σ16, v17)) else none else none : Option ((St × Int32) ⊕ (St)))) fun k38_12 => if v11 = 0 then (k38_12 x2_2_1 (0 : Int32)) else (if ib x2_2_1 7 = true then k38_12 x2_2_1 (σ9.1 (o1 + 4) (Int32.toNatClampNeg x2_2_1)) else none) else none)) : St × Int32 → Option ((St × Int32) ⊕ (St))) fun st2_1 => Option.bind (lp st2_1 fuel (σ, (0 : Int32))) ((fun (σe2_1 : St) => wlet (si σe2_1 o0 3 (σe2_1.1 o1 6)) fun σ2 => wlet (si σ2 o0 4 (0 : Int32)) fun σ3 => wlet (si σ3 o0 5 (σ3.1 o1 7)) fun σ4 => wlet (si σ4 o0 6 (0 : Int32)) fun σ5 => wlet (si σ5 o0 7 (0 : Int32)) fun σ6 => some σ6))
theorem hd_X6_begin : yX6_begin.cls = RX6 ∧ yX6_begin.cls ≠ "java/lang/invoke/MethodHandle" ∧ yX6_begin.cls ≠ "java/lang/invoke/VarHandle" ∧ (parseMethodDescriptor yX6_begin.desc).map (fun d => d.parameters.length) = some 1 := by decide +kernel
set_option maxRecDepth 100000 in
set_option maxHeartbeats 4000000 in
theorem k_X6_begin {l : Launch} {ad : Nat → Nat} {D : va_G} {cy : Nat → ClassId} {z : wStr} (hI : wI WC ad) {σ : St} {o0 : Nat} {o1 : Nat} (ho0 : isSt o0) (ho1 : isTx WC o1) {res : St} (hf : f_X6_begin σ o0 o1 = some res) : wC WC ad D cy z l yX6_begin (Cond.code yX6_begin cX6_begin 3 (none) :: aw) (2) (121) [.ref (ad o0), .ref (ad o1)] σ (wQv WC ad D cy res) := by
  unfold f_X6_begin at hf
  refine wr_start (own := RX6) hI (by decide +kernel) rfl (Nat.le_of_ble_eq_true rfl) rfl ?_
  intro p e s m below meth c ls X hw hr hl
  have hx := X.hx
  have hb := X.hb
  obtain ⟨H, eH⟩ : ∃ H : Heap, H = s.heap := ⟨_, rfl⟩
  obtain ⟨locs, el⟩ : ∃ locs : List Loc, locs = [] := ⟨_, rfl⟩
  rw [← eH, ← el] at hw ⊢
  clear eH el
  replace hl : lv_has ls 3 [(0, .ref (ad o0)), (1, .ref (ad o1))] := hl
  refine lv_iconst (v := 0) hx hb dX6_begin_0 (by decide) ?_
  refine lv_istore_n (lv' := [(2, .int (0 : Int32)), (0, .ref (ad o0)), (1, .ref (ad o1))]) hx hb dX6_begin_1 rfl hl (by decide) rfl (fun ls hl => ?_)
  obtain ⟨st2_1, est2_1, hf⟩ := wlet_some hf
  obtain ⟨E2_1, hq2_1, hE2_1⟩ := bind_some hf
  have hx2_1 : ∀ (σe2_1 : St) (_ : σe2_1 = E2_1) (ls : Array Slot) (H : Heap) (locs : List Loc), lv_has ls 3 [(0, .ref (ad o0)), (1, .ref (ad o1))] → wH WC ad D cy s σe2_1 H locs → W p l e { frames := 2, cells := 0, slots := 0, locals := 121 } s m [.ref (ad o0), .ref (ad o1)].toArray below meth c H locs 0 0 (MQ below (wQv WC ad D cy res) [.ref (ad o0), .ref (ad o1)].toArray s 0 0 (wA WC ad)) (F0 m 52 ls []) := by
    intro σe2_1 e0 ls H locs hl hw
    subst e0
    have hf := hE2_1
    refine lv_aload_n hx hb dX6_begin_52 rfl (lv_at hl 0 rfl) ?_
    refine lv_aload_n hx hb dX6_begin_53 rfl (lv_at hl 1 rfl) ?_
    refine gnX8_6 X hw (isTx.s0 ho1) (isTx.n0 ho1) fn_X6_28 dX6_begin_54 ?_
    obtain ⟨σ2, eσ2, hf⟩ := wlet_some hf
    refine pX6_3 X hw (isSt.s0 ho0) (isSt.n0 ho0) fl_X6_32 dX6_begin_57 (fun H locs hw => ?_)
    replace hw := hw.to eσ2
    refine lv_aload_n hx hb dX6_begin_60 rfl (lv_at hl 0 rfl) ?_
    refine lv_iconst (v := 0) hx hb dX6_begin_61 (by decide) ?_
    obtain ⟨σ3, eσ3, hf⟩ := wlet_some hf
    refine pX6_4 X hw (isSt.s0 ho0) (isSt.n0 ho0) fl_X6_35 dX6_begin_62 (fun H locs hw => ?_)
    replace hw := hw.to eσ3
    refine lv_aload_n hx hb dX6_begin_65 rfl (lv_at hl 0 rfl) ?_
    refine lv_aload_n hx hb dX6_begin_66 rfl (lv_at hl 1 rfl) ?_
    refine gnX8_7 X hw (isTx.s0 ho1) (isTx.n0 ho1) fn_X6_38 dX6_begin_67 ?_
    obtain ⟨σ4, eσ4, hf⟩ := wlet_some hf
    refine pX6_5 X hw (isSt.s0 ho0) (isSt.n0 ho0) fl_X6_41 dX6_begin_70 (fun H locs hw => ?_)
    replace hw := hw.to eσ4
    refine lv_aload_n hx hb dX6_begin_73 rfl (lv_at hl 0 rfl) ?_
    refine lv_iconst (v := 0) hx hb dX6_begin_74 (by decide) ?_
    obtain ⟨σ5, eσ5, hf⟩ := wlet_some hf
    refine pX6_6 X hw (isSt.s0 ho0) (isSt.n0 ho0) fl_X6_42 dX6_begin_75 (fun H locs hw => ?_)
    replace hw := hw.to eσ5
    refine lv_aload_n hx hb dX6_begin_78 rfl (lv_at hl 0 rfl) ?_
    refine lv_iconst (v := 0) hx hb dX6_begin_79 (by decide) ?_
    obtain ⟨σ6, eσ6, hf⟩ := wlet_some hf
    refine pX6_7 X hw (isSt.s0 ho0) (isSt.n0 ho0) fl_X6_45 dX6_begin_80 (fun H locs hw => ?_)
    replace hw := hw.to eσ6
    have er := Option.some.inj hf
    subst er
    exact wr_vret X hw hr dX6_begin_83
  have lo2_1 : ∀ (n : Nat) (σ2_1 : St) (x2_2_1 : Int32) (_ : lp st2_1 n (σ2_1, x2_2_1) = some E2_1) (ls : Array Slot) (H : Heap) (locs : List Loc), lv_has ls 3 [(0, .ref (ad o0)), (1, .ref (ad o1)), (2, .int x2_2_1)] → wH WC ad D cy s σ2_1 H locs → W p l e { frames := 2, cells := 0, slots := 0, locals := 121 } s m [.ref (ad o0), .ref (ad o1)].toArray below meth c H locs 0 0 (MQ below (wQv WC ad D cy res) [.ref (ad o0), .ref (ad o1)].toArray s 0 0 (wA WC ad)) (F0 m 2 ls []) := by
    intro n
    induction n with
    | zero =>
      intro σ2_1 x2_2_1 hf ls H locs hl hw
      exact (lp_zero hf).elim
    | succ n ih2_1 =>
      intro σ2_1 x2_2_1 hf ls H locs hl hw
      obtain ⟨q2_1, hf, hz2_1⟩ := lp_succ hf
      rw [est2_1] at hf
      replace hf := un2_some hf
      refine lv_iload_n hx hb dX6_begin_2 rfl (lv_at hl 2 rfl) ?_
      refine lv_bipush (v := 7) hx hb dX6_begin_3 (by decide) ?_
      refine lv_icmp_ge (tgt := 52) hx hb dX6_begin_5 (by decide) (fun c7 => ?_) (fun c7 => ?_)
      · have hf := (if_pos c7).symm.trans hf
        exact hx2_1 σ2_1 (lpK_inr (lp_leaf hf hz2_1)) ls H locs (lv_sub hl [0, 1] rfl) hw
      · have hf := (if_neg c7).symm.trans hf
        refine lv_aload_n hx hb dX6_begin_8 rfl (lv_at hl 0 rfl) ?_
        refine gX6_0 (b := (o0 + 1)) X hw (isSt.s0 ho0) (isSt.n0 ho0) (isSt.r0 ho0) fl_X6_9 dX6_begin_9 ?_
        refine lv_iload_n hx hb dX6_begin_12 rfl (lv_at hl 2 rfl) ?_
        refine lv_iload_n hx hb dX6_begin_13 rfl (lv_at hl 2 rfl) ?_
        obtain ⟨h8, hf⟩ := if_some hf
        obtain ⟨σ9, eσ9, hf⟩ := wlet_some hf
        refine wr_iast X hw (isSt.s1 ho0) (isSt.n1 ho0) h8 dX6_begin_14 (fun H locs hw => ?_)
        replace hw := hw.to eσ9
        refine lv_aload_n hx hb dX6_begin_15 rfl (lv_at hl 0 rfl) ?_
        refine gX6_1 (b := (o0 + 2)) X hw (isSt.s0 ho0) (isSt.n0 ho0) (isSt.r1 ho0) fl_X6_15 dX6_begin_16 ?_
        refine lv_iload_n hx hb dX6_begin_19 rfl (lv_at hl 2 rfl) ?_
        refine lv_aload_n hx hb dX6_begin_20 rfl (lv_at hl 1 rfl) ?_
        refine lv_iload_n hx hb dX6_begin_21 rfl (lv_at hl 2 rfl) ?_
        obtain ⟨v11, hq10, hf⟩ := bind_some hf
        refine wr_cNi (r := v11) (σ' := σ9) (av := [.int x2_2_1]) (rest := [.int x2_2_1, .ref (ad (o0 + 2))]) X hw hl.1 (isTx.s0 ho1) (isTx.n0 ho1) rfl (k_X8_has hI ho1 hq10) rfl mn_X6_21 im_X8_has se_X8_has ini_X8 co_X8_has hd_X8_has ⟨Nat.le_of_ble_eq_true rfl, Nat.le_of_ble_eq_true rfl⟩ (Nat.le_of_ble_eq_true rfl) dX6_begin_22 rfl (fun H locs hw => ?_)
        obtain ⟨k38_12, ek38_12, hf0⟩ := wlet_some hf
        have j38_12 : ∀ (s1_38_12 : Int32) (s2_38_12 : Int32) (_ : k38_12 s1_38_12 s2_38_12 = some q2_1) (ls : Array Slot) (H : Heap) (locs : List Loc), lv_has ls 3 [(0, .ref (ad o0)), (1, .ref (ad o1)), (2, .int x2_2_1)] → wH WC ad D cy s σ9 H locs → W p l e { frames := 2, cells := 0, slots := 0, locals := 121 } s m [.ref (ad o0), .ref (ad o1)].toArray below meth c H locs 0 0 (MQ below (wQv WC ad D cy res) [.ref (ad o0), .ref (ad o1)].toArray s 0 0 (wA WC ad)) (F0 m 38 ls [.int s2_38_12, .int s1_38_12, .ref (ad (o0 + 2))]) := by
          intro s1_38_12 s2_38_12 hf ls H locs hl hw
          rw [ek38_12] at hf
          obtain ⟨h13, hf⟩ := if_some hf
          obtain ⟨σ14, eσ14, hf⟩ := wlet_some hf
          refine wr_iast X hw (isSt.s2 ho0) (isSt.n2 ho0) h13 dX6_begin_38 (fun H locs hw => ?_)
          replace hw := hw.to eσ14
          refine lv_aload_n hx hb dX6_begin_39 rfl (lv_at hl 0 rfl) ?_
          refine gX6_2 (b := (o0 + 3)) X hw (isSt.s0 ho0) (isSt.n0 ho0) (isSt.r2 ho0) fl_X6_18 dX6_begin_40 ?_
          refine lv_iload_n hx hb dX6_begin_43 rfl (lv_at hl 2 rfl) ?_
          refine lv_iconst (v := 0) hx hb dX6_begin_44 (by decide) ?_
          obtain ⟨h15, hf⟩ := if_some hf
          obtain ⟨σ16, eσ16, hf⟩ := wlet_some hf
          refine wr_iast X hw (isSt.s3 ho0) (isSt.n3 ho0) h15 dX6_begin_45 (fun H locs hw => ?_)
          replace hw := hw.to eσ16
          obtain ⟨v17, ev17, hf⟩ := wlet_some hf
          refine lv_iinc (v := v17) (lv' := [(2, .int v17), (0, .ref (ad o0)), (1, .ref (ad o1))]) hx hb dX6_begin_46 hl (k := 2) rfl (by rw [ev17]; rfl) (by decide) rfl (fun ls hl => ?_)
          refine lv_goto (tgt := 2) hx hb dX6_begin_49 (by decide) ?_
          exact ih2_1 σ16 v17 (lp_leaf hf hz2_1) ls H locs (lv_sub hl [1, 2, 0] rfl) hw
        replace hf := hf0
        refine lv_if_eq (tgt := 37) hx hb dX6_begin_25 (by decide) (fun c18 => ?_) (fun c18 => ?_)
        · have hf := (if_pos c18).symm.trans hf
          refine lv_iconst (v := 0) hx hb dX6_begin_37 (by decide) ?_
          exact j38_12 x2_2_1 (0 : Int32) hf ls H locs (lv_sub hl [0, 1, 2] rfl) hw
        · have hf := (if_neg c18).symm.trans hf
          refine lv_aload_n hx hb dX6_begin_28 rfl (lv_at hl 1 rfl) ?_
          refine gnX8_3 (b := (o1 + 4)) X hw (isTx.s0 ho1) (isTx.n0 ho1) (isTx.r3 ho1) fn_X6_27 dX6_begin_29 ?_
          refine lv_iload_n hx hb dX6_begin_32 rfl (lv_at hl 2 rfl) ?_
          obtain ⟨h19, hf⟩ := if_some hf
          refine wr_iald X hw (isTx.s4 ho1) (isTx.n4 ho1) h19 dX6_begin_33 ?_
          refine lv_goto (tgt := 38) hx hb dX6_begin_34 (by decide) ?_
          exact j38_12 x2_2_1 (σ9.1 (o1 + 4) (Int32.toNatClampNeg x2_2_1)) hf ls H locs (lv_sub hl [0, 1, 2] rfl) hw
  exact lo2_1 fuel σ (0 : Int32) hq2_1 ls H locs (lv_sub hl [1, 2, 0] rfl) hw
