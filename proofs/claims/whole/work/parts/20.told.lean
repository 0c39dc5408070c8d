def f_X9_placeToAsk (σ : St) (x1 : Int32) : Option (Int32) := wlet (un3 (fun (x2_8_1 : Int32) (x3_8_1 : Int32) (x4_8_1 : Int32) => if x1 ≤ x4_8_1 then (some (.inr x2_8_1)) else (if (7 : Int32) ≤ x4_8_1 then (some (.inr x2_8_1)) else (if ib x4_8_1 7 = true then if ib x4_8_1 7 = true then wlet (mx (σ.1 35 (Int32.toNatClampNeg x4_8_1)) ((σ.1 31 5) - (σ.1 35 (Int32.toNatClampNeg x4_8_1)))) fun v6 => if x2_8_1 = (-2 : Int32) then (wlet (x4_8_1 + (1 : Int32)) fun v8 => some (.inl (x4_8_1, v6, v8))) else (if x3_8_1 ≤ v6 then (wlet (x4_8_1 + (1 : Int32)) fun v10 => some (.inl (x2_8_1, x3_8_1, v10))) else (wlet (x4_8_1 + (1 : Int32)) fun v11 => some (.inl (x4_8_1, v6, v11)))) else none else none))) : Int32 × Int32 × Int32 → Option ((Int32 × Int32 × Int32) ⊕ (Int32))) fun st8_1 => Option.bind (lp st8_1 fuel ((-2 : Int32), (0 : Int32), (0 : Int32))) ((fun (x2_e8_1 : Int32) => some x2_e8_1))
theorem hd_X9_placeToAsk : yX9_placeToAsk.cls = RX9 ∧ yX9_placeToAsk.cls ≠ "java/lang/invoke/MethodHandle" ∧ yX9_placeToAsk.cls ≠ "java/lang/invoke/VarHandle" ∧ (parseMethodDescriptor yX9_placeToAsk.desc).map (fun d => d.parameters.length) = some 1 := by decide +kernel
set_option maxRecDepth 100000 in
set_option maxHeartbeats 4000000 in
theorem k_X9_placeToAsk {l : Launch} {ad : Nat → Nat} {D : va_G} {cy : Nat → ClassId} {z : wStr} (hI : wI WC ad) {σ : St} {x1 : Int32}  {res : Int32} (hf : f_X9_placeToAsk σ x1 = some res) : wC WC ad D cy z l yX9_placeToAsk (Cond.code yX9_placeToAsk cX9_placeToAsk 6 (Option.some Jvm.ClassFile.FieldType.int) :: aw) (1) (100) [.ref (ad 31), .int x1] σ (wQi WC ad D cy res σ) := by
  unfold f_X9_placeToAsk at hf
  refine wr_start (own := RX9) hI (by decide +kernel) rfl (Nat.le_of_ble_eq_true rfl) rfl ?_
  intro p e s m below meth c ls X hw hr hl
  have hx := X.hx
  have hb := X.hb
  obtain ⟨H, eH⟩ : ∃ H : Heap, H = s.heap := ⟨_, rfl⟩
  obtain ⟨locs, el⟩ : ∃ locs : List Loc, locs = [] := ⟨_, rfl⟩
  rw [← eH, ← el] at hw ⊢
  clear eH el
  replace hl : lv_has ls 6 [(0, .ref (ad 31)), (1, .int x1)] := hl
  refine lv_bipush (v := -2) hx hb dX9_placeToAsk_0 (by decide) ?_
  refine lv_istore_n (lv' := [(2, .int (-2 : Int32)), (0, .ref (ad 31)), (1, .int x1)]) hx hb dX9_placeToAsk_2 rfl hl (by decide) rfl (fun ls hl => ?_)
  refine lv_iconst (v := 0) hx hb dX9_placeToAsk_3 (by decide) ?_
  refine lv_istore_n (lv' := [(3, .int (0 : Int32)), (2, .int (-2 : Int32)), (0, .ref (ad 31)), (1, .int x1)]) hx hb dX9_placeToAsk_4 rfl hl (by decide) rfl (fun ls hl => ?_)
  refine lv_iconst (v := 0) hx hb dX9_placeToAsk_5 (by decide) ?_
  refine lv_istore (lv' := [(4, .int (0 : Int32)), (3, .int (0 : Int32)), (2, .int (-2 : Int32)), (0, .ref (ad 31)), (1, .int x1)]) hx hb dX9_placeToAsk_6 hl (by decide) rfl (fun ls hl => ?_)
  obtain ⟨st8_1, est8_1, hf⟩ := wlet_some hf
  obtain ⟨E8_1, hq8_1, hE8_1⟩ := bind_some hf
  have hx8_1 : ∀ (x2_e8_1 : Int32) (_ : x2_e8_1 = E8_1) (ls : Array Slot) (H : Heap) (locs : List Loc), lv_has ls 6 [(2, .int x2_e8_1)] → wH WC ad D cy s σ H locs → W p l e { frames := 1, cells := 0, slots := 0, locals := 100 } s m [.ref (ad 31), .int x1].toArray below meth c H locs 0 0 (MQ below (wQi WC ad D cy res σ) [.ref (ad 31), .int x1].toArray s 0 0 (wA WC ad)) (F0 m 69 ls []) := by
    intro x2_e8_1 e0 ls H locs hl hw
    subst e0
    have hf := hE8_1
    refine lv_iload_n hx hb dX9_placeToAsk_69 rfl (lv_at hl 0 rfl) ?_
    have er := Option.some.inj hf
    subst er
    exact wr_iret X hw hr (Or.inl rfl) dX9_placeToAsk_70
  have lo8_1 : ∀ (n : Nat) (x2_8_1 : Int32) (x3_8_1 : Int32) (x4_8_1 : Int32) (_ : lp st8_1 n (x2_8_1, x3_8_1, x4_8_1) = some E8_1) (ls : Array Slot) (H : Heap) (locs : List Loc), lv_has ls 6 [(0, .ref (ad 31)), (1, .int x1), (2, .int x2_8_1), (3, .int x3_8_1), (4, .int x4_8_1)] → wH WC ad D cy s σ H locs → W p l e { frames := 1, cells := 0, slots := 0, locals := 100 } s m [.ref (ad 31), .int x1].toArray below meth c H locs 0 0 (MQ below (wQi WC ad D cy res σ) [.ref (ad 31), .int x1].toArray s 0 0 (wA WC ad)) (F0 m 8 ls []) := by
    intro n
    induction n with
    | zero =>
      intro x2_8_1 x3_8_1 x4_8_1 hf ls H locs hl hw
      exact (lp_zero hf).elim
    | succ n ih8_1 =>
      intro x2_8_1 x3_8_1 x4_8_1 hf ls H locs hl hw
      obtain ⟨q8_1, hf, hz8_1⟩ := lp_succ hf
      rw [est8_1] at hf
      replace hf := un3_some hf
      refine lv_iload hx hb dX9_placeToAsk_8 (lv_at hl 4 rfl) ?_
      refine lv_iload_n hx hb dX9_placeToAsk_10 rfl (lv_at hl 1 rfl) ?_
      refine lv_icmp_ge (tgt := 69) hx hb dX9_placeToAsk_11 (by decide) (fun c2 => ?_) (fun c2 => ?_)
      · have hf := (if_pos c2).symm.trans hf
        exact hx8_1 x2_8_1 (lpK_inr (lp_leaf hf hz8_1)) ls H locs (lv_sub hl [2] rfl) hw
      · have hf := (if_neg c2).symm.trans hf
        refine lv_iload hx hb dX9_placeToAsk_14 (lv_at hl 4 rfl) ?_
        refine lv_bipush (v := 7) hx hb dX9_placeToAsk_16 (by decide) ?_
        refine lv_icmp_ge (tgt := 69) hx hb dX9_placeToAsk_18 (by decide) (fun c3 => ?_) (fun c3 => ?_)
        · have hf := (if_pos c3).symm.trans hf
          exact hx8_1 x2_8_1 (lpK_inr (lp_leaf hf hz8_1)) ls H locs (lv_sub hl [2] rfl) hw
        · have hf := (if_neg c3).symm.trans hf
          refine lv_aload_n hx hb dX9_placeToAsk_21 rfl (lv_at hl 0 rfl) ?_
          refine gX9_3 (b := 35) X hw sC31 nC31 rfl fl_X9_22 dX9_placeToAsk_22 ?_
          refine lv_iload hx hb dX9_placeToAsk_25 (lv_at hl 4 rfl) ?_
          obtain ⟨h4, hf⟩ := if_some hf
          refine wr_iald X hw sC35 nC35 h4 dX9_placeToAsk_27 ?_
          refine lv_aload_n hx hb dX9_placeToAsk_28 rfl (lv_at hl 0 rfl) ?_
          refine gX9_5 X hw sC31 nC31 fl_X9_29 dX9_placeToAsk_29 ?_
          refine lv_aload_n hx hb dX9_placeToAsk_32 rfl (lv_at hl 0 rfl) ?_
          refine gX9_3 (b := 35) X hw sC31 nC31 rfl fl_X9_22 dX9_placeToAsk_33 ?_
          refine lv_iload hx hb dX9_placeToAsk_36 (lv_at hl 4 rfl) ?_
          obtain ⟨h5, hf⟩ := if_some hf
          refine wr_iald X hw sC35 nC35 h5 dX9_placeToAsk_38 ?_
          refine lv_isub hx hb dX9_placeToAsk_39 ?_
          refine wr_max X hl.1 ml_X9_58 (Nat.le_of_ble_eq_true rfl) (Nat.le_of_ble_eq_true rfl) dX9_placeToAsk_40 ?_
          obtain ⟨v6, ev6, hf⟩ := wlet_some hf
          refine wr_top ev6 ?_
          refine lv_istore (lv' := [(5, .int v6), (0, .ref (ad 31)), (1, .int x1), (2, .int x2_8_1), (3, .int x3_8_1), (4, .int x4_8_1)]) hx hb dX9_placeToAsk_43 hl (by decide) rfl (fun ls hl => ?_)
          refine lv_iload_n hx hb dX9_placeToAsk_45 rfl (lv_at hl 3 rfl) ?_
          refine lv_bipush (v := -2) hx hb dX9_placeToAsk_46 (by decide) ?_
          refine lv_icmp_eq (tgt := 57) hx hb dX9_placeToAsk_48 (by decide) (fun c7 => ?_) (fun c7 => ?_)
          · have hf := (if_pos c7).symm.trans hf
            refine lv_iload hx hb dX9_placeToAsk_57 (lv_at hl 5 rfl) ?_
            refine lv_istore_n (lv' := [(2, .int x4_8_1), (5, .int v6), (0, .ref (ad 31)), (1, .int x1), (3, .int x3_8_1), (4, .int x4_8_1)]) hx hb dX9_placeToAsk_59 rfl hl (by decide) rfl (fun ls hl => ?_)
            refine lv_iload hx hb dX9_placeToAsk_60 (lv_at hl 1 rfl) ?_
            refine lv_istore_n (lv' := [(3, .int v6), (2, .int x4_8_1), (5, .int v6), (0, .ref (ad 31)), (1, .int x1), (4, .int x4_8_1)]) hx hb dX9_placeToAsk_62 rfl hl (by decide) rfl (fun ls hl => ?_)
            obtain ⟨v8, ev8, hf⟩ := wlet_some hf
            refine lv_iinc (v := v8) (lv' := [(4, .int v8), (3, .int v6), (2, .int x4_8_1), (5, .int v6), (0, .ref (ad 31)), (1, .int x1)]) hx hb dX9_placeToAsk_63 hl (k := 5) rfl (by rw [ev8]; rfl) (by decide) rfl (fun ls hl => ?_)
            refine lv_goto (tgt := 8) hx hb dX9_placeToAsk_66 (by decide) ?_
            exact ih8_1 x4_8_1 v6 v8 (lp_leaf hf hz8_1) ls H locs (lv_sub hl [4, 5, 2, 1, 0] rfl) hw
          · have hf := (if_neg c7).symm.trans hf
            refine lv_iload hx hb dX9_placeToAsk_51 (lv_at hl 0 rfl) ?_
            refine lv_iload_n hx hb dX9_placeToAsk_53 rfl (lv_at hl 4 rfl) ?_
            refine lv_icmp_ge (tgt := 63) hx hb dX9_placeToAsk_54 (by decide) (fun c9 => ?_) (fun c9 => ?_)
            · have hf := (if_pos c9).symm.trans hf
              obtain ⟨v10, ev10, hf⟩ := wlet_some hf
              refine lv_iinc (v := v10) (lv' := [(4, .int v10), (5, .int v6), (0, .ref (ad 31)), (1, .int x1), (2, .int x2_8_1), (3, .int x3_8_1)]) hx hb dX9_placeToAsk_63 hl (k := 5) rfl (by rw [ev10]; rfl) (by decide) rfl (fun ls hl => ?_)
              refine lv_goto (tgt := 8) hx hb dX9_placeToAsk_66 (by decide) ?_
              exact ih8_1 x2_8_1 x3_8_1 v10 (lp_leaf hf hz8_1) ls H locs (lv_sub hl [2, 3, 4, 5, 0] rfl) hw
            · have hf := (if_neg c9).symm.trans hf
              refine lv_iload hx hb dX9_placeToAsk_57 (lv_at hl 5 rfl) ?_
              refine lv_istore_n (lv' := [(2, .int x4_8_1), (5, .int v6), (0, .ref (ad 31)), (1, .int x1), (3, .int x3_8_1), (4, .int x4_8_1)]) hx hb dX9_placeToAsk_59 rfl hl (by decide) rfl (fun ls hl => ?_)
              refine lv_iload hx hb dX9_placeToAsk_60 (lv_at hl 1 rfl) ?_
              refine lv_istore_n (lv' := [(3, .int v6), (2, .int x4_8_1), (5, .int v6), (0, .ref (ad 31)), (1, .int x1), (4, .int x4_8_1)]) hx hb dX9_placeToAsk_62 rfl hl (by decide) rfl (fun ls hl => ?_)
              obtain ⟨v11, ev11, hf⟩ := wlet_some hf
              refine lv_iinc (v := v11) (lv' := [(4, .int v11), (3, .int v6), (2, .int x4_8_1), (5, .int v6), (0, .ref (ad 31)), (1, .int x1)]) hx hb dX9_placeToAsk_63 hl (k := 5) rfl (by rw [ev11]; rfl) (by decide) rfl (fun ls hl => ?_)
              refine lv_goto (tgt := 8) hx hb dX9_placeToAsk_66 (by decide) ?_
              exact ih8_1 x4_8_1 v6 v11 (lp_leaf hf hz8_1) ls H locs (lv_sub hl [4, 5, 2, 1, 0] rfl) hw
  exact lo8_1 fuel (-2 : Int32) (0 : Int32) (0 : Int32) hq8_1 ls H locs (lv_sub hl [3, 4, 2, 1, 0] rfl) hw

def f_X9_addReaching (σ : St) (x2 : Int32) : Option (St) := wlet (un2 (fun (σ2_1 : St) (x3_2_1 : Int32) => if (σ2_1.1 25 5) ≤ x3_2_1 then (some (.inr σ2_1)) else (if (7 : Int32) ≤ x3_2_1 then (some (.inr σ2_1)) else (Option.bind (f_X2_sufferingAt σ2_1 x3_2_1) fun v5 => if v5 < x2 then (wlet (x3_2_1 + (1 : Int32)) fun v7 => some (.inl (σ2_1, v7))) else (if ib x3_2_1 7 = true then if ib x3_2_1 7 = true then wlet (si σ2_1 35 (Int32.toNatClampNeg x3_2_1) ((σ2_1.1 35 (Int32.toNatClampNeg x3_2_1)) + (1 : Int32))) fun σ10 => wlet (x3_2_1 + (1 : Int32)) fun v11 => some (.inl (σ10, v11)) else none else none)))) : St × Int32 → Option ((St × Int32) ⊕ (St))) fun st2_1 => Option.bind (lp st2_1 fuel (σ, (0 : Int32))) ((fun (σe2_1 : St) => some σe2_1))
theorem hd_X9_addReaching : yX9_addReaching.cls = RX9 ∧ yX9_addReaching.cls ≠ "java/lang/invoke/MethodHandle" ∧ yX9_addReaching.cls ≠ "java/lang/invoke/VarHandle" ∧ (parseMethodDescriptor yX9_addReaching.desc).map (fun d => d.parameters.length) = some 2 := by decide +kernel
set_option maxRecDepth 100000 in
set_option maxHeartbeats 4000000 in
theorem k_X9_addReaching {l : Launch} {ad : Nat → Nat} {D : va_G} {cy : Nat → ClassId} {z : wStr} (hI : wI WC ad) {σ : St} {x2 : Int32}  {res : St} (hf : f_X9_addReaching σ x2 = some res) : wC WC ad D cy z l yX9_addReaching (Cond.code yX9_addReaching cX9_addReaching 4 (none) :: aw) (4) (164) [.ref (ad 31), .ref (ad 25), .int x2] σ (wQv WC ad D cy res) := by
  unfold f_X9_addReaching at hf
  refine wr_start (own := RX9) hI (by decide +kernel) rfl (Nat.le_of_ble_eq_true rfl) rfl ?_
  intro p e s m below meth c ls X hw hr hl
  have hx := X.hx
  have hb := X.hb
  obtain ⟨H, eH⟩ : ∃ H : Heap, H = s.heap := ⟨_, rfl⟩
  obtain ⟨locs, el⟩ : ∃ locs : List Loc, locs = [] := ⟨_, rfl⟩
  rw [← eH, ← el] at hw ⊢
  clear eH el
  replace hl : lv_has ls 4 [(0, .ref (ad 31)), (1, .ref (ad 25)), (2, .int x2)] := hl
  refine lv_iconst (v := 0) hx hb dX9_addReaching_0 (by decide) ?_
  refine lv_istore_n (lv' := [(3, .int (0 : Int32)), (0, .ref (ad 31)), (1, .ref (ad 25)), (2, .int x2)]) hx hb dX9_addReaching_1 rfl hl (by decide) rfl (fun ls hl => ?_)
  obtain ⟨st2_1, est2_1, hf⟩ := wlet_some hf
  obtain ⟨E2_1, hq2_1, hE2_1⟩ := bind_some hf
  have hx2_1 : ∀ (σe2_1 : St) (_ : σe2_1 = E2_1) (ls : Array Slot) (H : Heap) (locs : List Loc), lv_has ls 4 [] → wH WC ad D cy s σe2_1 H locs → W p l e { frames := 4, cells := 0, slots := 0, locals := 164 } s m [.ref (ad 31), .ref (ad 25), .int x2].toArray below meth c H locs 0 0 (MQ below (wQv WC ad D cy res) [.ref (ad 31), .ref (ad 25), .int x2].toArray s 0 0 (wA WC ad)) (F0 m 41 ls []) := by
    intro σe2_1 e0 ls H locs hl hw
    subst e0
    have hf := hE2_1
    have er := Option.some.inj hf
    subst er
    exact wr_vret X hw hr dX9_addReaching_41
  have lo2_1 : ∀ (n : Nat) (σ2_1 : St) (x3_2_1 : Int32) (_ : lp st2_1 n (σ2_1, x3_2_1) = some E2_1) (ls : Array Slot) (H : Heap) (locs : List Loc), lv_has ls 4 [(0, .ref (ad 31)), (1, .ref (ad 25)), (2, .int x2), (3, .int x3_2_1)] → wH WC ad D cy s σ2_1 H locs → W p l e { frames := 4, cells := 0, slots := 0, locals := 164 } s m [.ref (ad 31), .ref (ad 25), .int x2].toArray below meth c H locs 0 0 (MQ below (wQv WC ad D cy res) [.ref (ad 31), .ref (ad 25), .int x2].toArray s 0 0 (wA WC ad)) (F0 m 2 ls []) := by
    intro n
    induction n with
    | zero =>
      intro σ2_1 x3_2_1 hf ls H locs hl hw
      exact (lp_zero hf).elim
    | succ n ih2_1 =>
      intro σ2_1 x3_2_1 hf ls H locs hl hw
      obtain ⟨q2_1, hf, hz2_1⟩ := lp_succ hf
      rw [est2_1] at hf
      replace hf := un2_some hf
      refine lv_iload_n hx hb dX9_addReaching_2 rfl (lv_at hl 3 rfl) ?_
      refine lv_aload_n hx hb dX9_addReaching_3 rfl (lv_at hl 1 rfl) ?_
      refine gnX2_5 X hw sC25 nC25 fn_X9_53 dX9_addReaching_4 ?_
      refine lv_icmp_ge (tgt := 41) hx hb dX9_addReaching_7 (by decide) (fun c2 => ?_) (fun c2 => ?_)
      · have hf := (if_pos c2).symm.trans hf
        exact hx2_1 σ2_1 (lpK_inr (lp_leaf hf hz2_1)) ls H locs (lv_sub hl [] rfl) hw
      · have hf := (if_neg c2).symm.trans hf
        refine lv_iload_n hx hb dX9_addReaching_10 rfl (lv_at hl 3 rfl) ?_
        refine lv_bipush (v := 7) hx hb dX9_addReaching_11 (by decide) ?_
        refine lv_icmp_ge (tgt := 41) hx hb dX9_addReaching_13 (by decide) (fun c3 => ?_) (fun c3 => ?_)
        · have hf := (if_pos c3).symm.trans hf
          exact hx2_1 σ2_1 (lpK_inr (lp_leaf hf hz2_1)) ls H locs (lv_sub hl [] rfl) hw
        · have hf := (if_neg c3).symm.trans hf
          refine lv_aload_n hx hb dX9_addReaching_16 rfl (lv_at hl 1 rfl) ?_
          refine lv_iload_n hx hb dX9_addReaching_17 rfl (lv_at hl 3 rfl) ?_
          obtain ⟨v5, hq4, hf⟩ := bind_some hf
          refine wr_cNi (r := v5) (σ' := σ2_1) (av := [.int x3_2_1]) (rest := []) X hw hl.1 sC25 nC25 rfl (k_X2_sufferingAt hI hq4) rfl mn_X9_54 im_X2_sufferingAt se_X2_sufferingAt ini_X2 co_X2_sufferingAt hd_X2_sufferingAt ⟨Nat.le_of_ble_eq_true rfl, Nat.le_of_ble_eq_true rfl⟩ (Nat.le_of_ble_eq_true rfl) dX9_addReaching_18 rfl (fun H locs hw => ?_)
          refine lv_iload_n hx hb dX9_addReaching_21 rfl (lv_at hl 2 rfl) ?_
          refine lv_icmp_lt (tgt := 35) hx hb dX9_addReaching_22 (by decide) (fun c6 => ?_) (fun c6 => ?_)
          · have hf := (if_pos c6).symm.trans hf
            obtain ⟨v7, ev7, hf⟩ := wlet_some hf
            refine lv_iinc (v := v7) (lv' := [(3, .int v7), (0, .ref (ad 31)), (1, .ref (ad 25)), (2, .int x2)]) hx hb dX9_addReaching_35 hl (k := 3) rfl (by rw [ev7]; rfl) (by decide) rfl (fun ls hl => ?_)
            refine lv_goto (tgt := 2) hx hb dX9_addReaching_38 (by decide) ?_
            exact ih2_1 σ2_1 v7 (lp_leaf hf hz2_1) ls H locs (lv_sub hl [1, 2, 3, 0] rfl) hw
          · have hf := (if_neg c6).symm.trans hf
            refine lv_aload_n hx hb dX9_addReaching_25 rfl (lv_at hl 0 rfl) ?_
            refine gX9_3 (b := 35) X hw sC31 nC31 rfl fl_X9_22 dX9_addReaching_26 ?_
            refine lv_iload_n hx hb dX9_addReaching_29 rfl (lv_at hl 3 rfl) ?_
            refine lv_dup2_11 hx hb dX9_addReaching_30 rfl rfl ?_
            obtain ⟨h8, hf⟩ := if_some hf
            refine wr_iald X hw sC35 nC35 h8 dX9_addReaching_31 ?_
            refine lv_iconst (v := 1) hx hb dX9_addReaching_32 (by decide) ?_
            refine lv_iadd hx hb dX9_addReaching_33 ?_
            obtain ⟨h9, hf⟩ := if_some hf
            obtain ⟨σ10, eσ10, hf⟩ := wlet_some hf
            refine wr_iast X hw sC35 nC35 h9 dX9_addReaching_34 (fun H locs hw => ?_)
            replace hw := hw.to eσ10
            obtain ⟨v11, ev11, hf⟩ := wlet_some hf
            refine lv_iinc (v := v11) (lv' := [(3, .int v11), (0, .ref (ad 31)), (1, .ref (ad 25)), (2, .int x2)]) hx hb dX9_addReaching_35 hl (k := 3) rfl (by rw [ev11]; rfl) (by decide) rfl (fun ls hl => ?_)
            refine lv_goto (tgt := 2) hx hb dX9_addReaching_38 (by decide) ?_
            exact ih2_1 σ10 v11 (lp_leaf hf hz2_1) ls H locs (lv_sub hl [1, 2, 3, 0] rfl) hw
  exact lo2_1 fuel σ (0 : Int32) hq2_1 ls H locs (lv_sub hl [1, 2, 3, 0] rfl) hw

def f_X9_isFitting (σ : St) (x2 : Int32) : Option (Int32) := wlet (fun (x3_2_1 : Int32) => if x2 ≤ x3_2_1 then (some (.inr (.inl ()))) else (if (σ.1 31 4) ≤ x3_2_1 then (some (.inr (.inl ()))) else (if (20 : Int32) ≤ x3_2_1 then (some (.inr (.inl ()))) else (if ib x3_2_1 20 = true then wlet (fun (s0_39_6 : Int32) => (if s0_39_6 = 0 then (some (.inr (.inr (0 : Int32)))) else (if ib x3_2_1 20 = true then Option.bind (f_X2_sufferingAt σ (σ.1 32 (Int32.toNatClampNeg x3_2_1))) fun v10 => if ib x3_2_1 20 = true then wlet (fun (s0_70_12 : Int32) => (if ib x3_2_1 20 = true then if s0_70_12 = (σ.1 34 (Int32.toNatClampNeg x3_2_1)) then (wlet (x3_2_1 + (1 : Int32)) fun v15 => some (.inl v15)) else (some (.inr (.inr (0 : Int32)))) else none : Option ((Int32) ⊕ ((Unit) ⊕ (Int32))))) fun k70_12 => if v10 < (σ.1 33 (Int32.toNatClampNeg x3_2_1)) then (k70_12 (0 : Int32)) else (k70_12 (1 : Int32)) else none else none) : Option ((Int32) ⊕ ((Unit) ⊕ (Int32))))) fun k39_6 => if (σ.1 25 5) ≤ (σ.1 32 (Int32.toNatClampNeg x3_2_1)) then (k39_6 (0 : Int32)) else (k39_6 (1 : Int32)) else none))) : Int32 → Option ((Int32) ⊕ ((Unit) ⊕ (Int32)))) fun st2_1 => Option.bind (lp st2_1 fuel (0 : Int32)) (sumk (fun (_ : Unit) => some (1 : Int32)) (fun m => some m))
theorem hd_X9_isFitting : yX9_isFitting.cls = RX9 ∧ yX9_isFitting.cls ≠ "java/lang/invoke/MethodHandle" ∧ yX9_isFitting.cls ≠ "java/lang/invoke/VarHandle" ∧ (parseMethodDescriptor yX9_isFitting.desc).map (fun d => d.parameters.length) = some 2 := by decide +kernel
set_option maxRecDepth 100000 in
set_option maxHeartbeats 4000000 in
theorem k_X9_isFitting {l : Launch} {ad : Nat → Nat} {D : va_G} {cy : Nat → ClassId} {z : wStr} (hI : wI WC ad) {σ : St} {x2 : Int32}  {res : Int32} (hf : f_X9_isFitting σ x2 = some res) : wC WC ad D cy z l yX9_isFitting (Cond.code yX9_isFitting cX9_isFitting 5 (Option.some Jvm.ClassFile.FieldType.boolean) :: aw) (4) (164) [.ref (ad 31), .ref (ad 25), .int x2] σ (wQi WC ad D cy res σ) := by
  unfold f_X9_isFitting at hf
  refine wr_start (own := RX9) hI (by decide +kernel) rfl (Nat.le_of_ble_eq_true rfl) rfl ?_
  intro p e s m below meth c ls X hw hr hl
  have hx := X.hx
  have hb := X.hb
  obtain ⟨H, eH⟩ : ∃ H : Heap, H = s.heap := ⟨_, rfl⟩
  obtain ⟨locs, el⟩ : ∃ locs : List Loc, locs = [] := ⟨_, rfl⟩
  rw [← eH, ← el] at hw ⊢
  clear eH el
  replace hl : lv_has ls 5 [(0, .ref (ad 31)), (1, .ref (ad 25)), (2, .int x2)] := hl
  refine lv_iconst (v := 0) hx hb dX9_isFitting_0 (by decide) ?_
  refine lv_istore_n (lv' := [(3, .int (0 : Int32)), (0, .ref (ad 31)), (1, .ref (ad 25)), (2, .int x2)]) hx hb dX9_isFitting_1 rfl hl (by decide) rfl (fun ls hl => ?_)
  obtain ⟨st2_1, est2_1, hf⟩ := wlet_some hf
  obtain ⟨E2_1, hq2_1, hE2_1⟩ := bind_some hf
  have hx2_1 : ∀ (_ : Sum.inl () = E2_1) (ls : Array Slot) (H : Heap) (locs : List Loc), lv_has ls 5 [] → wH WC ad D cy s σ H locs → W p l e { frames := 4, cells := 0, slots := 0, locals := 164 } s m [.ref (ad 31), .ref (ad 25), .int x2].toArray below meth c H locs 0 0 (MQ below (wQi WC ad D cy res σ) [.ref (ad 31), .ref (ad 25), .int x2].toArray s 0 0 (wA WC ad)) (F0 m 87 ls []) := by
    intro  e0 ls H locs hl hw
    have hf := sumk_l hE2_1 e0
    refine lv_iconst (v := 1) hx hb dX9_isFitting_87 (by decide) ?_
    have er := Option.some.inj hf
    subst er
    exact wr_iret X hw hr (Or.inr ⟨rfl, (show bz (1 : Int32) = true from rfl)⟩) dX9_isFitting_88
  have lo2_1 : ∀ (n : Nat) (x3_2_1 : Int32) (_ : lp st2_1 n x3_2_1 = some E2_1) (ls : Array Slot) (H : Heap) (locs : List Loc), lv_has ls 5 [(0, .ref (ad 31)), (1, .ref (ad 25)), (2, .int x2), (3, .int x3_2_1)] → wH WC ad D cy s σ H locs → W p l e { frames := 4, cells := 0, slots := 0, locals := 164 } s m [.ref (ad 31), .ref (ad 25), .int x2].toArray below meth c H locs 0 0 (MQ below (wQi WC ad D cy res σ) [.ref (ad 31), .ref (ad 25), .int x2].toArray s 0 0 (wA WC ad)) (F0 m 2 ls []) := by
    intro n
    induction n with
    | zero =>
      intro x3_2_1 hf ls H locs hl hw
      exact (lp_zero hf).elim
    | succ n ih2_1 =>
      intro x3_2_1 hf ls H locs hl hw
      obtain ⟨q2_1, hf, hz2_1⟩ := lp_succ hf
      rw [est2_1] at hf
      refine lv_iload_n hx hb dX9_isFitting_2 rfl (lv_at hl 3 rfl) ?_
      refine lv_iload_n hx hb dX9_isFitting_3 rfl (lv_at hl 2 rfl) ?_
      refine lv_icmp_ge (tgt := 87) hx hb dX9_isFitting_4 (by decide) (fun c2 => ?_) (fun c2 => ?_)
      · have hf := (if_pos c2).symm.trans hf
        exact hx2_1  (lpK_inr (lp_leaf hf hz2_1)) ls H locs (lv_sub hl [] rfl) hw
      · have hf := (if_neg c2).symm.trans hf
        refine lv_iload_n hx hb dX9_isFitting_7 rfl (lv_at hl 3 rfl) ?_
        refine lv_aload_n hx hb dX9_isFitting_8 rfl (lv_at hl 0 rfl) ?_
        refine gX9_4 X hw sC31 nC31 fl_X9_25 dX9_isFitting_9 ?_
        refine lv_icmp_ge (tgt := 87) hx hb dX9_isFitting_12 (by decide) (fun c3 => ?_) (fun c3 => ?_)
        · have hf := (if_pos c3).symm.trans hf
          exact hx2_1  (lpK_inr (lp_leaf hf hz2_1)) ls H locs (lv_sub hl [] rfl) hw
        · have hf := (if_neg c3).symm.trans hf
          refine lv_iload_n hx hb dX9_isFitting_15 rfl (lv_at hl 3 rfl) ?_
          refine lv_bipush (v := 20) hx hb dX9_isFitting_16 (by decide) ?_
          refine lv_icmp_ge (tgt := 87) hx hb dX9_isFitting_18 (by decide) (fun c4 => ?_) (fun c4 => ?_)
          · have hf := (if_pos c4).symm.trans hf
            exact hx2_1  (lpK_inr (lp_leaf hf hz2_1)) ls H locs (lv_sub hl [] rfl) hw
          · have hf := (if_neg c4).symm.trans hf
            refine lv_aload_n hx hb dX9_isFitting_21 rfl (lv_at hl 0 rfl) ?_
            refine gX9_0 (b := 32) X hw sC31 nC31 rfl fl_X9_9 dX9_isFitting_22 ?_
            refine lv_iload_n hx hb dX9_isFitting_25 rfl (lv_at hl 3 rfl) ?_
            obtain ⟨h5, hf⟩ := if_some hf
            refine wr_iald X hw sC32 nC32 h5 dX9_isFitting_26 ?_
            refine lv_aload_n hx hb dX9_isFitting_27 rfl (lv_at hl 1 rfl) ?_
            refine gnX2_5 X hw sC25 nC25 fn_X9_53 dX9_isFitting_28 ?_
            obtain ⟨k39_6, ek39_6, hf0⟩ := wlet_some hf
            have j39_6 : ∀ (s0_39_6 : Int32) (_ : k39_6 s0_39_6 = some q2_1) (ls : Array Slot) (H : Heap) (locs : List Loc), lv_has ls 5 [(0, .ref (ad 31)), (1, .ref (ad 25)), (2, .int x2), (3, .int x3_2_1)] → wH WC ad D cy s σ H locs → W p l e { frames := 4, cells := 0, slots := 0, locals := 164 } s m [.ref (ad 31), .ref (ad 25), .int x2].toArray below meth c H locs 0 0 (MQ below (wQi WC ad D cy res σ) [.ref (ad 31), .ref (ad 25), .int x2].toArray s 0 0 (wA WC ad)) (F0 m 39 ls [.int s0_39_6]) := by
              intro s0_39_6 hf ls H locs hl hw
              rw [ek39_6] at hf
              refine lv_istore (lv' := [(4, .int s0_39_6), (0, .ref (ad 31)), (1, .ref (ad 25)), (2, .int x2), (3, .int x3_2_1)]) hx hb dX9_isFitting_39 hl (by decide) rfl (fun ls hl => ?_)
              refine lv_iload hx hb dX9_isFitting_41 (lv_at hl 0 rfl) ?_
              refine lv_if_eq (tgt := 79) hx hb dX9_isFitting_43 (by decide) (fun c7 => ?_) (fun c7 => ?_)
              · have hf := (if_pos c7).symm.trans hf
                refine lv_iconst (v := 0) hx hb dX9_isFitting_79 (by decide) ?_
                have e2_1 := lpK_inr (lp_leaf hf hz2_1)
                have hf := sumk_r hE2_1 e2_1
                have er := Option.some.inj hf
                subst er
                exact wr_iret X hw hr (Or.inr ⟨rfl, (show bz (0 : Int32) = true from rfl)⟩) dX9_isFitting_80
              · have hf := (if_neg c7).symm.trans hf
                refine lv_aload_n hx hb dX9_isFitting_46 rfl (lv_at hl 2 rfl) ?_
                refine lv_aload_n hx hb dX9_isFitting_47 rfl (lv_at hl 1 rfl) ?_
                refine gX9_0 (b := 32) X hw sC31 nC31 rfl fl_X9_9 dX9_isFitting_48 ?_
                refine lv_iload_n hx hb dX9_isFitting_51 rfl (lv_at hl 4 rfl) ?_
                obtain ⟨h8, hf⟩ := if_some hf
                refine wr_iald X hw sC32 nC32 h8 dX9_isFitting_52 ?_
                obtain ⟨v10, hq9, hf⟩ := bind_some hf
                refine wr_cNi (r := v10) (σ' := σ) (av := [.int (σ.1 32 (Int32.toNatClampNeg x3_2_1))]) (rest := []) X hw hl.1 sC25 nC25 rfl (k_X2_sufferingAt hI hq9) rfl mn_X9_54 im_X2_sufferingAt se_X2_sufferingAt ini_X2 co_X2_sufferingAt hd_X2_sufferingAt ⟨Nat.le_of_ble_eq_true rfl, Nat.le_of_ble_eq_true rfl⟩ (Nat.le_of_ble_eq_true rfl) dX9_isFitting_53 rfl (fun H locs hw => ?_)
                refine lv_aload_n hx hb dX9_isFitting_56 rfl (lv_at hl 1 rfl) ?_
                refine gX9_1 (b := 33) X hw sC31 nC31 rfl fl_X9_15 dX9_isFitting_57 ?_
                refine lv_iload_n hx hb dX9_isFitting_60 rfl (lv_at hl 4 rfl) ?_
                obtain ⟨h11, hf⟩ := if_some hf
                refine wr_iald X hw sC33 nC33 h11 dX9_isFitting_61 ?_
                obtain ⟨k70_12, ek70_12, hf0⟩ := wlet_some hf
                have j70_12 : ∀ (s0_70_12 : Int32) (_ : k70_12 s0_70_12 = some q2_1) (ls : Array Slot) (H : Heap) (locs : List Loc), lv_has ls 5 [(0, .ref (ad 31)), (1, .ref (ad 25)), (2, .int x2), (3, .int x3_2_1)] → wH WC ad D cy s σ H locs → W p l e { frames := 4, cells := 0, slots := 0, locals := 164 } s m [.ref (ad 31), .ref (ad 25), .int x2].toArray below meth c H locs 0 0 (MQ below (wQi WC ad D cy res σ) [.ref (ad 31), .ref (ad 25), .int x2].toArray s 0 0 (wA WC ad)) (F0 m 70 ls [.int s0_70_12]) := by
                  intro s0_70_12 hf ls H locs hl hw
                  rw [ek70_12] at hf
                  refine lv_aload_n hx hb dX9_isFitting_70 rfl (lv_at hl 0 rfl) ?_
                  refine gX9_2 (b := 34) X hw sC31 nC31 rfl fl_X9_18 dX9_isFitting_71 ?_
                  refine lv_iload_n hx hb dX9_isFitting_74 rfl (lv_at hl 3 rfl) ?_
                  obtain ⟨h13, hf⟩ := if_some hf
                  refine wr_zald X hw sC34 nC34 h13 dX9_isFitting_75 ?_
                  refine lv_icmp_eq (tgt := 81) hx hb dX9_isFitting_76 (by decide) (fun c14 => ?_) (fun c14 => ?_)
                  · have hf := (if_pos c14).symm.trans hf
                    obtain ⟨v15, ev15, hf⟩ := wlet_some hf
                    refine lv_iinc (v := v15) (lv' := [(3, .int v15), (0, .ref (ad 31)), (1, .ref (ad 25)), (2, .int x2)]) hx hb dX9_isFitting_81 hl (k := 3) rfl (by rw [ev15]; rfl) (by decide) rfl (fun ls hl => ?_)
                    refine lv_goto (tgt := 2) hx hb dX9_isFitting_84 (by decide) ?_
                    exact ih2_1 v15 (lp_leaf hf hz2_1) ls H locs (lv_sub hl [1, 2, 3, 0] rfl) hw
                  · have hf := (if_neg c14).symm.trans hf
                    refine lv_iconst (v := 0) hx hb dX9_isFitting_79 (by decide) ?_
                    have e2_1 := lpK_inr (lp_leaf hf hz2_1)
                    have hf := sumk_r hE2_1 e2_1
                    have er := Option.some.inj hf
                    subst er
                    exact wr_iret X hw hr (Or.inr ⟨rfl, (show bz (0 : Int32) = true from rfl)⟩) dX9_isFitting_80
                replace hf := hf0
                refine lv_icmp_lt (tgt := 69) hx hb dX9_isFitting_62 (by decide) (fun c16 => ?_) (fun c16 => ?_)
                · have hf := (if_pos c16).symm.trans hf
                  refine lv_iconst (v := 0) hx hb dX9_isFitting_69 (by decide) ?_
                  exact j70_12 (0 : Int32) hf ls H locs (lv_sub hl [1, 2, 3, 4] rfl) hw
                · have hf := (if_neg c16).symm.trans hf
                  refine lv_iconst (v := 1) hx hb dX9_isFitting_65 (by decide) ?_
                  refine lv_goto (tgt := 70) hx hb dX9_isFitting_66 (by decide) ?_
                  exact j70_12 (1 : Int32) hf ls H locs (lv_sub hl [1, 2, 3, 4] rfl) hw
            replace hf := hf0
            refine lv_icmp_ge (tgt := 38) hx hb dX9_isFitting_31 (by decide) (fun c17 => ?_) (fun c17 => ?_)
            · have hf := (if_pos c17).symm.trans hf
              refine lv_iconst (v := 0) hx hb dX9_isFitting_38 (by decide) ?_
              exact j39_6 (0 : Int32) hf ls H locs (lv_sub hl [0, 1, 2, 3] rfl) hw
            · have hf := (if_neg c17).symm.trans hf
              refine lv_iconst (v := 1) hx hb dX9_isFitting_34 (by decide) ?_
              refine lv_goto (tgt := 39) hx hb dX9_isFitting_35 (by decide) ?_
              exact j39_6 (1 : Int32) hf ls H locs (lv_sub hl [0, 1, 2, 3] rfl) hw
  exact lo2_1 fuel (0 : Int32) hq2_1 ls H locs (lv_sub hl [1, 2, 3, 0] rfl) hw

def f_X9_seekFitting (σ : St) (x2 : Int32) (x3 : Int32) : Option (St) := wlet (si σ 31 5 (0 : Int32)) fun σ1 => wlet (si σ1 31 6 (0 : Int32)) fun σ2 => wlet (un2 (fun (σ13_3 : St) (x4_13_3 : Int32) => if (7 : Int32) ≤ x4_13_3 then (some (.inr σ13_3)) else (if ib x4_13_3 7 = true then wlet (si σ13_3 35 (Int32.toNatClampNeg x4_13_3) (0 : Int32)) fun σ25 => wlet (x4_13_3 + (1 : Int32)) fun v26 => some (.inl (σ25, v26)) else none)) : St × Int32 → Option ((St × Int32) ⊕ (St))) fun st13_3 => Option.bind (lp st13_3 fuel (σ2, (0 : Int32))) ((fun (σe13_3 : St) => wlet (un3 (fun (σ40_4 : St) (x4_40_4 : Int32) (x5_40_4 : Int32) => if (5040 : Int32) ≤ x5_40_4 then (some (.inr σ40_4)) else (if x4_40_4 = 0 then (some (.inr σ40_4)) else (Option.bind (f_X9_isFitting σ40_4 x2) fun v8 => wlet (fun (σ_100_9 : St) => (bnd2 (f_X2_stepOn σ_100_9) fun v11 σ12 => wlet (x5_40_4 + (1 : Int32)) fun v13 => some (.inl (σ12, v11, v13)) : Option ((St × Int32 × Int32) ⊕ (St)))) fun k100_9 => if v8 = 0 then (k100_9 σ40_4) else (wlet (fun (s1_81_15 : Int32) => (wlet (si σ40_4 31 6 s1_81_15) fun σ16 => wlet (si σ16 31 5 ((σ16.1 31 5) + (1 : Int32))) fun σ17 => Option.bind (f_X9_addReaching σ17 x3) fun σ19 => k100_9 σ19 : Option ((St × Int32 × Int32) ⊕ (St)))) fun k81_15 => if (σ40_4.1 31 5) = 0 then (Option.bind (f_X2_rowNumber σ40_4) fun v22 => k81_15 v22) else (k81_15 (σ40_4.1 31 6)))))) : St × Int32 × Int32 → Option ((St × Int32 × Int32) ⊕ (St))) fun st40_4 => Option.bind (lp st40_4 fuel (σe13_3, (1 : Int32), (0 : Int32))) ((fun (σe40_4 : St) => some σe40_4))))
theorem hd_X9_seekFitting : yX9_seekFitting.cls = RX9 ∧ yX9_seekFitting.cls ≠ "java/lang/invoke/MethodHandle" ∧ yX9_seekFitting.cls ≠ "java/lang/invoke/VarHandle" ∧ (parseMethodDescriptor yX9_seekFitting.desc).map (fun d => d.parameters.length) = some 3 := by decide +kernel
set_option maxRecDepth 100000 in
set_option maxHeartbeats 4000000 in
theorem k_X9_seekFitting {l : Launch} {ad : Nat → Nat} {D : va_G} {cy : Nat → ClassId} {z : wStr} (hI : wI WC ad) {σ : St} {x2 : Int32} {x3 : Int32}  {res : St} (hf : f_X9_seekFitting σ x2 x3 = some res) : wC WC ad D cy z l yX9_seekFitting (Cond.code yX9_seekFitting cX9_seekFitting 6 (none) :: aw) (5) (188) [.ref (ad 31), .ref (ad 25), .int x2, .int x3] σ (wQv WC ad D cy res) := by
  unfold f_X9_seekFitting at hf
  refine wr_start (own := RX9) hI (by decide +kernel) rfl (Nat.le_of_ble_eq_true rfl) rfl ?_
  intro p e s m below meth c ls X hw hr hl
  have hx := X.hx
  have hb := X.hb
  obtain ⟨H, eH⟩ : ∃ H : Heap, H = s.heap := ⟨_, rfl⟩
  obtain ⟨locs, el⟩ : ∃ locs : List Loc, locs = [] := ⟨_, rfl⟩
  rw [← eH, ← el] at hw ⊢
  clear eH el
  replace hl : lv_has ls 6 [(0, .ref (ad 31)), (1, .ref (ad 25)), (2, .int x2), (3, .int x3)] := hl
  refine lv_aload_n hx hb dX9_seekFitting_0 rfl (lv_at hl 0 rfl) ?_
  refine lv_iconst (v := 0) hx hb dX9_seekFitting_1 (by decide) ?_
  obtain ⟨σ1, eσ1, hf⟩ := wlet_some hf
  refine pX9_5 X hw sC31 nC31 fl_X9_29 dX9_seekFitting_2 (fun H locs hw => ?_)
  replace hw := hw.to eσ1
  refine lv_aload_n hx hb dX9_seekFitting_5 rfl (lv_at hl 0 rfl) ?_
  refine lv_iconst (v := 0) hx hb dX9_seekFitting_6 (by decide) ?_
  obtain ⟨σ2, eσ2, hf⟩ := wlet_some hf
  refine pX9_6 X hw sC31 nC31 fl_X9_32 dX9_seekFitting_7 (fun H locs hw => ?_)
  replace hw := hw.to eσ2
  refine lv_iconst (v := 0) hx hb dX9_seekFitting_10 (by decide) ?_
  refine lv_istore (lv' := [(4, .int (0 : Int32)), (0, .ref (ad 31)), (1, .ref (ad 25)), (2, .int x2), (3, .int x3)]) hx hb dX9_seekFitting_11 hl (by decide) rfl (fun ls hl => ?_)
  obtain ⟨st13_3, est13_3, hf⟩ := wlet_some hf
  obtain ⟨E13_3, hq13_3, hE13_3⟩ := bind_some hf
  have hx13_3 : ∀ (σe13_3 : St) (_ : σe13_3 = E13_3) (ls : Array Slot) (H : Heap) (locs : List Loc), lv_has ls 6 [(0, .ref (ad 31)), (1, .ref (ad 25)), (2, .int x2), (3, .int x3)] → wH WC ad D cy s σe13_3 H locs → W p l e { frames := 5, cells := 0, slots := 0, locals := 188 } s m [.ref (ad 31), .ref (ad 25), .int x2, .int x3].toArray below meth c H locs 0 0 (MQ below (wQv WC ad D cy res) [.ref (ad 31), .ref (ad 25), .int x2, .int x3].toArray s 0 0 (wA WC ad)) (F0 m 34 ls []) := by
    intro σe13_3 e0 ls H locs hl hw
    subst e0
    have hf := hE13_3
    refine lv_iconst (v := 1) hx hb dX9_seekFitting_34 (by decide) ?_
    refine lv_istore (lv' := [(4, .int (1 : Int32)), (0, .ref (ad 31)), (1, .ref (ad 25)), (2, .int x2), (3, .int x3)]) hx hb dX9_seekFitting_35 hl (by decide) rfl (fun ls hl => ?_)
    refine lv_iconst (v := 0) hx hb dX9_seekFitting_37 (by decide) ?_
    refine lv_istore (lv' := [(5, .int (0 : Int32)), (4, .int (1 : Int32)), (0, .ref (ad 31)), (1, .ref (ad 25)), (2, .int x2), (3, .int x3)]) hx hb dX9_seekFitting_38 hl (by decide) rfl (fun ls hl => ?_)
    obtain ⟨st40_4, est40_4, hf⟩ := wlet_some hf
    obtain ⟨E40_4, hq40_4, hE40_4⟩ := bind_some hf
    have hx40_4 : ∀ (σe40_4 : St) (_ : σe40_4 = E40_4) (ls : Array Slot) (H : Heap) (locs : List Loc), lv_has ls 6 [] → wH WC ad D cy s σe40_4 H locs → W p l e { frames := 5, cells := 0, slots := 0, locals := 188 } s m [.ref (ad 31), .ref (ad 25), .int x2, .int x3].toArray below meth c H locs 0 0 (MQ below (wQv WC ad D cy res) [.ref (ad 31), .ref (ad 25), .int x2, .int x3].toArray s 0 0 (wA WC ad)) (F0 m 112 ls []) := by
      intro σe40_4 e0 ls H locs hl hw
      subst e0
      have hf := hE40_4
      have er := Option.some.inj hf
      subst er
      exact wr_vret X hw hr dX9_seekFitting_112
    have lo40_4 : ∀ (n : Nat) (σ40_4 : St) (x4_40_4 : Int32) (x5_40_4 : Int32) (_ : lp st40_4 n (σ40_4, x4_40_4, x5_40_4) = some E40_4) (ls : Array Slot) (H : Heap) (locs : List Loc), lv_has ls 6 [(0, .ref (ad 31)), (1, .ref (ad 25)), (2, .int x2), (3, .int x3), (4, .int x4_40_4), (5, .int x5_40_4)] → wH WC ad D cy s σ40_4 H locs → W p l e { frames := 5, cells := 0, slots := 0, locals := 188 } s m [.ref (ad 31), .ref (ad 25), .int x2, .int x3].toArray below meth c H locs 0 0 (MQ below (wQv WC ad D cy res) [.ref (ad 31), .ref (ad 25), .int x2, .int x3].toArray s 0 0 (wA WC ad)) (F0 m 40 ls []) := by
      intro n
      induction n with
      | zero =>
        intro σ40_4 x4_40_4 x5_40_4 hf ls H locs hl hw
        exact (lp_zero hf).elim
      | succ n ih40_4 =>
        intro σ40_4 x4_40_4 x5_40_4 hf ls H locs hl hw
        obtain ⟨q40_4, hf, hz40_4⟩ := lp_succ hf
        rw [est40_4] at hf
        replace hf := un3_some hf
        refine lv_iload hx hb dX9_seekFitting_40 (lv_at hl 5 rfl) ?_
        refine lv_sipush (v := 5040) hx hb dX9_seekFitting_42 (by decide) ?_
        refine lv_icmp_ge (tgt := 112) hx hb dX9_seekFitting_45 (by decide) (fun c5 => ?_) (fun c5 => ?_)
        · have hf := (if_pos c5).symm.trans hf
          exact hx40_4 σ40_4 (lpK_inr (lp_leaf hf hz40_4)) ls H locs (lv_sub hl [] rfl) hw
        · have hf := (if_neg c5).symm.trans hf
          refine lv_iload hx hb dX9_seekFitting_48 (lv_at hl 4 rfl) ?_
          refine lv_if_eq (tgt := 112) hx hb dX9_seekFitting_50 (by decide) (fun c6 => ?_) (fun c6 => ?_)
          · have hf := (if_pos c6).symm.trans hf
            exact hx40_4 σ40_4 (lpK_inr (lp_leaf hf hz40_4)) ls H locs (lv_sub hl [] rfl) hw
          · have hf := (if_neg c6).symm.trans hf
            refine lv_aload_n hx hb dX9_seekFitting_53 rfl (lv_at hl 0 rfl) ?_
            refine lv_aload_n hx hb dX9_seekFitting_54 rfl (lv_at hl 1 rfl) ?_
            refine lv_iload_n hx hb dX9_seekFitting_55 rfl (lv_at hl 2 rfl) ?_
            obtain ⟨v8, hq7, hf⟩ := bind_some hf
            refine wr_cVi (r := v8) (σ' := σ40_4) (av := [.ref (ad 25), .int x2]) (rest := []) X hw hl.1 sC31 nC31 rfl (k_X9_isFitting hI hq7) rfl ml_X9_35 im_X9_isFitting se_X9_isFitting ini_X9 co_X9_isFitting hd_X9_isFitting ⟨Nat.le_of_ble_eq_true rfl, Nat.le_of_ble_eq_true rfl⟩ (Nat.le_of_ble_eq_true rfl) dX9_seekFitting_56 rfl (fun H locs hw => ?_)
            obtain ⟨k100_9, ek100_9, hf0⟩ := wlet_some hf
            have j100_9 : ∀ (σ_100_9 : St) (_ : k100_9 σ_100_9 = some q40_4) (ls : Array Slot) (H : Heap) (locs : List Loc), lv_has ls 6 [(0, .ref (ad 31)), (1, .ref (ad 25)), (2, .int x2), (3, .int x3), (5, .int x5_40_4)] → wH WC ad D cy s σ_100_9 H locs → W p l e { frames := 5, cells := 0, slots := 0, locals := 188 } s m [.ref (ad 31), .ref (ad 25), .int x2, .int x3].toArray below meth c H locs 0 0 (MQ below (wQv WC ad D cy res) [.ref (ad 31), .ref (ad 25), .int x2, .int x3].toArray s 0 0 (wA WC ad)) (F0 m 100 ls []) := by
              intro σ_100_9 hf ls H locs hl hw
              rw [ek100_9] at hf
              refine lv_aload_n hx hb dX9_seekFitting_100 rfl (lv_at hl 1 rfl) ?_
              obtain ⟨v11, σ12, hq10, hf⟩ := bnd2_some hf
              refine wr_cNi (r := v11) (σ' := σ12) (av := []) (rest := []) X hw hl.1 sC25 nC25 rfl (k_X2_stepOn hI hq10) rfl mn_X9_49 im_X2_stepOn se_X2_stepOn ini_X2 co_X2_stepOn hd_X2_stepOn ⟨Nat.le_of_ble_eq_true rfl, Nat.le_of_ble_eq_true rfl⟩ (Nat.le_of_ble_eq_true rfl) dX9_seekFitting_101 rfl (fun H locs hw => ?_)
              refine lv_istore (lv' := [(4, .int v11), (0, .ref (ad 31)), (1, .ref (ad 25)), (2, .int x2), (3, .int x3), (5, .int x5_40_4)]) hx hb dX9_seekFitting_104 hl (by decide) rfl (fun ls hl => ?_)
              obtain ⟨v13, ev13, hf⟩ := wlet_some hf
              refine lv_iinc (v := v13) (lv' := [(5, .int v13), (4, .int v11), (0, .ref (ad 31)), (1, .ref (ad 25)), (2, .int x2), (3, .int x3)]) hx hb dX9_seekFitting_106 hl (k := 5) rfl (by rw [ev13]; rfl) (by decide) rfl (fun ls hl => ?_)
              refine lv_goto (tgt := 40) hx hb dX9_seekFitting_109 (by decide) ?_
              exact ih40_4 σ12 v11 v13 (lp_leaf hf hz40_4) ls H locs (lv_sub hl [2, 3, 4, 5, 1, 0] rfl) hw
            replace hf := hf0
            refine lv_if_eq (tgt := 100) hx hb dX9_seekFitting_59 (by decide) (fun c14 => ?_) (fun c14 => ?_)
            · have hf := (if_pos c14).symm.trans hf
              exact j100_9 σ40_4 hf ls H locs (lv_sub hl [0, 1, 2, 3, 5] rfl) hw
            · have hf := (if_neg c14).symm.trans hf
              refine lv_aload_n hx hb dX9_seekFitting_62 rfl (lv_at hl 0 rfl) ?_
              refine lv_aload_n hx hb dX9_seekFitting_63 rfl (lv_at hl 0 rfl) ?_
              refine gX9_5 X hw sC31 nC31 fl_X9_29 dX9_seekFitting_64 ?_
              obtain ⟨k81_15, ek81_15, hf0⟩ := wlet_some hf
              have j81_15 : ∀ (s1_81_15 : Int32) (_ : k81_15 s1_81_15 = some q40_4) (ls : Array Slot) (H : Heap) (locs : List Loc), lv_has ls 6 [(0, .ref (ad 31)), (1, .ref (ad 25)), (2, .int x2), (3, .int x3), (5, .int x5_40_4)] → wH WC ad D cy s σ40_4 H locs → W p l e { frames := 5, cells := 0, slots := 0, locals := 188 } s m [.ref (ad 31), .ref (ad 25), .int x2, .int x3].toArray below meth c H locs 0 0 (MQ below (wQv WC ad D cy res) [.ref (ad 31), .ref (ad 25), .int x2, .int x3].toArray s 0 0 (wA WC ad)) (F0 m 81 ls [.int s1_81_15, .ref (ad 31)]) := by
                intro s1_81_15 hf ls H locs hl hw
                rw [ek81_15] at hf
                obtain ⟨σ16, eσ16, hf⟩ := wlet_some hf
                refine pX9_6 X hw sC31 nC31 fl_X9_32 dX9_seekFitting_81 (fun H locs hw => ?_)
                replace hw := hw.to eσ16
                refine lv_aload_n hx hb dX9_seekFitting_84 rfl (lv_at hl 0 rfl) ?_
                refine lv_dup hx hb dX9_seekFitting_85 rfl ?_
                refine gX9_5 X hw sC31 nC31 fl_X9_29 dX9_seekFitting_86 ?_
                refine lv_iconst (v := 1) hx hb dX9_seekFitting_89 (by decide) ?_
                refine lv_iadd hx hb dX9_seekFitting_90 ?_
                obtain ⟨σ17, eσ17, hf⟩ := wlet_some hf
                refine pX9_5 X hw sC31 nC31 fl_X9_29 dX9_seekFitting_91 (fun H locs hw => ?_)
                replace hw := hw.to eσ17
                refine lv_aload_n hx hb dX9_seekFitting_94 rfl (lv_at hl 0 rfl) ?_
                refine lv_aload_n hx hb dX9_seekFitting_95 rfl (lv_at hl 1 rfl) ?_
                refine lv_iload_n hx hb dX9_seekFitting_96 rfl (lv_at hl 3 rfl) ?_
                obtain ⟨σ19, hq18, hf⟩ := bind_some hf
                refine wr_cVv (σ' := σ19) (av := [.ref (ad 25), .int x3]) (rest := []) X hw hl.1 sC31 nC31 rfl (k_X9_addReaching hI hq18) rfl ml_X9_45 im_X9_addReaching se_X9_addReaching ini_X9 co_X9_addReaching hd_X9_addReaching ⟨Nat.le_of_ble_eq_true rfl, Nat.le_of_ble_eq_true rfl⟩ (Nat.le_of_ble_eq_true rfl) dX9_seekFitting_97 rfl (fun H locs hw => ?_)
                exact j100_9 σ19 hf ls H locs (lv_sub hl [0, 1, 2, 3, 4] rfl) hw
              replace hf := hf0
              refine lv_if_ne (tgt := 77) hx hb dX9_seekFitting_67 (by decide) (fun c20 => ?_) (fun c20 => ?_)
              · have hf := (if_neg c20).symm.trans hf
                refine lv_aload_n hx hb dX9_seekFitting_77 rfl (lv_at hl 0 rfl) ?_
                refine gX9_6 X hw sC31 nC31 fl_X9_32 dX9_seekFitting_78 ?_
                exact j81_15 (σ40_4.1 31 6) hf ls H locs (lv_sub hl [0, 1, 2, 3, 5] rfl) hw
              · have hf := (if_pos c20).symm.trans hf
                refine lv_aload_n hx hb dX9_seekFitting_70 rfl (lv_at hl 1 rfl) ?_
                obtain ⟨v22, hq21, hf⟩ := bind_some hf
                refine wr_cNi (r := v22) (σ' := σ40_4) (av := []) (rest := [.ref (ad 31)]) X hw hl.1 sC25 nC25 rfl (k_X2_rowNumber hI hq21) rfl mn_X9_39 im_X2_rowNumber se_X2_rowNumber ini_X2 co_X2_rowNumber hd_X2_rowNumber ⟨Nat.le_of_ble_eq_true rfl, Nat.le_of_ble_eq_true rfl⟩ (Nat.le_of_ble_eq_true rfl) dX9_seekFitting_71 rfl (fun H locs hw => ?_)
                refine lv_goto (tgt := 81) hx hb dX9_seekFitting_74 (by decide) ?_
                exact j81_15 v22 hf ls H locs (lv_sub hl [0, 1, 2, 3, 5] rfl) hw
    exact lo40_4 fuel σe13_3 (1 : Int32) (0 : Int32) hq40_4 ls H locs (lv_sub hl [2, 3, 4, 5, 1, 0] rfl) hw
  have lo13_3 : ∀ (n : Nat) (σ13_3 : St) (x4_13_3 : Int32) (_ : lp st13_3 n (σ13_3, x4_13_3) = some E13_3) (ls : Array Slot) (H : Heap) (locs : List Loc), lv_has ls 6 [(0, .ref (ad 31)), (1, .ref (ad 25)), (2, .int x2), (3, .int x3), (4, .int x4_13_3)] → wH WC ad D cy s σ13_3 H locs → W p l e { frames := 5, cells := 0, slots := 0, locals := 188 } s m [.ref (ad 31), .ref (ad 25), .int x2, .int x3].toArray below meth c H locs 0 0 (MQ below (wQv WC ad D cy res) [.ref (ad 31), .ref (ad 25), .int x2, .int x3].toArray s 0 0 (wA WC ad)) (F0 m 13 ls []) := by
    intro n
    induction n with
    | zero =>
      intro σ13_3 x4_13_3 hf ls H locs hl hw
      exact (lp_zero hf).elim
    | succ n ih13_3 =>
      intro σ13_3 x4_13_3 hf ls H locs hl hw
      obtain ⟨q13_3, hf, hz13_3⟩ := lp_succ hf
      rw [est13_3] at hf
      replace hf := un2_some hf
      refine lv_iload hx hb dX9_seekFitting_13 (lv_at hl 4 rfl) ?_
      refine lv_bipush (v := 7) hx hb dX9_seekFitting_15 (by decide) ?_
      refine lv_icmp_ge (tgt := 34) hx hb dX9_seekFitting_17 (by decide) (fun c23 => ?_) (fun c23 => ?_)
      · have hf := (if_pos c23).symm.trans hf
        exact hx13_3 σ13_3 (lpK_inr (lp_leaf hf hz13_3)) ls H locs (lv_sub hl [0, 1, 2, 3] rfl) hw
      · have hf := (if_neg c23).symm.trans hf
        refine lv_aload_n hx hb dX9_seekFitting_20 rfl (lv_at hl 0 rfl) ?_
        refine gX9_3 (b := 35) X hw sC31 nC31 rfl fl_X9_22 dX9_seekFitting_21 ?_
        refine lv_iload hx hb dX9_seekFitting_24 (lv_at hl 4 rfl) ?_
        refine lv_iconst (v := 0) hx hb dX9_seekFitting_26 (by decide) ?_
        obtain ⟨h24, hf⟩ := if_some hf
        obtain ⟨σ25, eσ25, hf⟩ := wlet_some hf
        refine wr_iast X hw sC35 nC35 h24 dX9_seekFitting_27 (fun H locs hw => ?_)
        replace hw := hw.to eσ25
        obtain ⟨v26, ev26, hf⟩ := wlet_some hf
        refine lv_iinc (v := v26) (lv' := [(4, .int v26), (0, .ref (ad 31)), (1, .ref (ad 25)), (2, .int x2), (3, .int x3)]) hx hb dX9_seekFitting_28 hl (k := 4) rfl (by rw [ev26]; rfl) (by decide) rfl (fun ls hl => ?_)
        refine lv_goto (tgt := 13) hx hb dX9_seekFitting_31 (by decide) ?_
        exact ih13_3 σ25 v26 (lp_leaf hf hz13_3) ls H locs (lv_sub hl [1, 2, 3, 4, 0] rfl) hw
  exact lo13_3 fuel σ2 (0 : Int32) hq13_3 ls H locs (lv_sub hl [1, 2, 3, 4, 0] rfl) hw

def f_X9_add (σ : St) (x1 : Int32) (x2 : Int32) (x3 : Int32) : Option (Int32 × St) := if (σ.1 31 4) < 0 then (some ((-1 : Int32), σ)) else (if (σ.1 31 4) < (20 : Int32) then (if ib (σ.1 31 4) 20 = true then wlet (si σ 32 (Int32.toNatClampNeg (σ.1 31 4)) x1) fun σ4 => if ib (σ4.1 31 4) 20 = true then wlet (si σ4 33 (Int32.toNatClampNeg (σ4.1 31 4)) x2) fun σ6 => if ib (σ6.1 31 4) 20 = true then wlet (si σ6 34 (Int32.toNatClampNeg (σ6.1 31 4)) (vp_nar .boolean x3)) fun σ8 => wlet (si σ8 31 4 ((σ8.1 31 4) + (1 : Int32))) fun σ9 => some (((σ9.1 31 4) - (1 : Int32)), σ9) else none else none else none) else (some ((-1 : Int32), σ)))
theorem hd_X9_add : yX9_add.cls = RX9 ∧ yX9_add.cls ≠ "java/lang/invoke/MethodHandle" ∧ yX9_add.cls ≠ "java/lang/invoke/VarHandle" ∧ (parseMethodDescriptor yX9_add.desc).map (fun d => d.parameters.length) = some 3 := by decide +kernel
set_option maxRecDepth 100000 in
set_option maxHeartbeats 4000000 in
theorem k_X9_add {l : Launch} {ad : Nat → Nat} {D : va_G} {cy : Nat → ClassId} {z : wStr} (hI : wI WC ad) {σ : St} {x1 : Int32} {x2 : Int32} {x3 : Int32}  {res : Int32 × St} (hf : f_X9_add σ x1 x2 x3 = some res) : wC WC ad D cy z l yX9_add (Cond.code yX9_add cX9_add 4 (Option.some Jvm.ClassFile.FieldType.int) :: aw) (1) (100) [.ref (ad 31), .int x1, .int x2, .int x3] σ (wQi WC ad D cy res.1 res.2) := by
  unfold f_X9_add at hf
  refine wr_start (own := RX9) hI (by decide +kernel) rfl (Nat.le_of_ble_eq_true rfl) rfl ?_
  intro p e s m below meth c ls X hw hr hl
  have hx := X.hx
  have hb := X.hb
  obtain ⟨H, eH⟩ : ∃ H : Heap, H = s.heap := ⟨_, rfl⟩
  obtain ⟨locs, el⟩ : ∃ locs : List Loc, locs = [] := ⟨_, rfl⟩
  rw [← eH, ← el] at hw ⊢
  clear eH el
  replace hl : lv_has ls 4 [(0, .ref (ad 31)), (1, .int x1), (2, .int x2), (3, .int x3)] := hl
  refine lv_aload_n hx hb dX9_add_0 rfl (lv_at hl 0 rfl) ?_
  refine gX9_4 X hw sC31 nC31 fl_X9_25 dX9_add_1 ?_
  refine lv_if_lt (tgt := 16) hx hb dX9_add_4 (by decide) (fun c1 => ?_) (fun c1 => ?_)
  · have hf := (if_pos c1).symm.trans hf
    refine lv_iconst (v := -1) hx hb dX9_add_16 (by decide) ?_
    have er := Option.some.inj hf
    subst er
    exact wr_iret X hw hr (Or.inl rfl) dX9_add_17
  · have hf := (if_neg c1).symm.trans hf
    refine lv_aload_n hx hb dX9_add_7 rfl (lv_at hl 0 rfl) ?_
    refine gX9_4 X hw sC31 nC31 fl_X9_25 dX9_add_8 ?_
    refine lv_bipush (v := 20) hx hb dX9_add_11 (by decide) ?_
    refine lv_icmp_lt (tgt := 18) hx hb dX9_add_13 (by decide) (fun c2 => ?_) (fun c2 => ?_)
    · have hf := (if_pos c2).symm.trans hf
      refine lv_aload_n hx hb dX9_add_18 rfl (lv_at hl 0 rfl) ?_
      refine gX9_0 (b := 32) X hw sC31 nC31 rfl fl_X9_9 dX9_add_19 ?_
      refine lv_aload_n hx hb dX9_add_22 rfl (lv_at hl 0 rfl) ?_
      refine gX9_4 X hw sC31 nC31 fl_X9_25 dX9_add_23 ?_
      refine lv_iload_n hx hb dX9_add_26 rfl (lv_at hl 1 rfl) ?_
      obtain ⟨h3, hf⟩ := if_some hf
      obtain ⟨σ4, eσ4, hf⟩ := wlet_some hf
      refine wr_iast X hw sC32 nC32 h3 dX9_add_27 (fun H locs hw => ?_)
      replace hw := hw.to eσ4
      refine lv_aload_n hx hb dX9_add_28 rfl (lv_at hl 0 rfl) ?_
      refine gX9_1 (b := 33) X hw sC31 nC31 rfl fl_X9_15 dX9_add_29 ?_
      refine lv_aload_n hx hb dX9_add_32 rfl (lv_at hl 0 rfl) ?_
      refine gX9_4 X hw sC31 nC31 fl_X9_25 dX9_add_33 ?_
      refine lv_iload_n hx hb dX9_add_36 rfl (lv_at hl 2 rfl) ?_
      obtain ⟨h5, hf⟩ := if_some hf
      obtain ⟨σ6, eσ6, hf⟩ := wlet_some hf
      refine wr_iast X hw sC33 nC33 h5 dX9_add_37 (fun H locs hw => ?_)
      replace hw := hw.to eσ6
      refine lv_aload_n hx hb dX9_add_38 rfl (lv_at hl 0 rfl) ?_
      refine gX9_2 (b := 34) X hw sC31 nC31 rfl fl_X9_18 dX9_add_39 ?_
      refine lv_aload_n hx hb dX9_add_42 rfl (lv_at hl 0 rfl) ?_
      refine gX9_4 X hw sC31 nC31 fl_X9_25 dX9_add_43 ?_
      refine lv_iload_n hx hb dX9_add_46 rfl (lv_at hl 3 rfl) ?_
      obtain ⟨h7, hf⟩ := if_some hf
      obtain ⟨σ8, eσ8, hf⟩ := wlet_some hf
      refine wr_zast X hw sC34 nC34 h7 dX9_add_47 (fun H locs hw => ?_)
      replace hw := hw.to eσ8
      refine lv_aload_n hx hb dX9_add_48 rfl (lv_at hl 0 rfl) ?_
      refine lv_dup hx hb dX9_add_49 rfl ?_
      refine gX9_4 X hw sC31 nC31 fl_X9_25 dX9_add_50 ?_
      refine lv_iconst (v := 1) hx hb dX9_add_53 (by decide) ?_
      refine lv_iadd hx hb dX9_add_54 ?_
      obtain ⟨σ9, eσ9, hf⟩ := wlet_some hf
      refine pX9_4 X hw sC31 nC31 fl_X9_25 dX9_add_55 (fun H locs hw => ?_)
      replace hw := hw.to eσ9
      refine lv_aload_n hx hb dX9_add_58 rfl (lv_at hl 0 rfl) ?_
      refine gX9_4 X hw sC31 nC31 fl_X9_25 dX9_add_59 ?_
      refine lv_iconst (v := 1) hx hb dX9_add_62 (by decide) ?_
      refine lv_isub hx hb dX9_add_63 ?_
      have er := Option.some.inj hf
      subst er
      exact wr_iret X hw hr (Or.inl rfl) dX9_add_64
    · have hf := (if_neg c2).symm.trans hf
      refine lv_iconst (v := -1) hx hb dX9_add_16 (by decide) ?_
      have er := Option.some.inj hf
      subst er
      exact wr_iret X hw hr (Or.inl rfl) dX9_add_17
