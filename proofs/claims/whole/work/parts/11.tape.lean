def f_X7_putWord (σ : St) (x1 : Int32) : Option (St) := wlet (un2 (fun (σ3_1 : St) (x2_3_1 : Int32) => if x2_3_1 < 0 then (some (.inr σ3_1)) else (if (σ3_1.1 2 1) < 0 then (wlet (x2_3_1 + (-8 : Int32)) fun v4 => some (.inl (σ3_1, v4))) else (if (2000 : Int32) ≤ (σ3_1.1 2 1) then (wlet (x2_3_1 + (-8 : Int32)) fun v6 => some (.inl (σ3_1, v6))) else (if ib (σ3_1.1 2 1) 2000 = true then wlet (si σ3_1 3 (Int32.toNatClampNeg (σ3_1.1 2 1)) (vp_nar .byte (i2b (x1 >>> (x2_3_1 &&& 31))))) fun σ8 => wlet (si σ8 2 1 ((σ8.1 2 1) + (1 : Int32))) fun σ9 => wlet (x2_3_1 + (-8 : Int32)) fun v10 => some (.inl (σ9, v10)) else none)))) : St × Int32 → Option ((St × Int32) ⊕ (St))) fun st3_1 => Option.bind (lp st3_1 fuel (σ, (24 : Int32))) ((fun (σe3_1 : St) => some σe3_1))
theorem hd_X7_putWord : yX7_putWord.cls = RX7 ∧ yX7_putWord.cls ≠ "java/lang/invoke/MethodHandle" ∧ yX7_putWord.cls ≠ "java/lang/invoke/VarHandle" ∧ (parseMethodDescriptor yX7_putWord.desc).map (fun d => d.parameters.length) = some 1 := by decide +kernel
set_option maxRecDepth 100000 in
set_option maxHeartbeats 4000000 in
theorem k_X7_putWord {l : Launch} {ad : Nat → Nat} {D : va_G} {cy : Nat → ClassId} {z : wStr} (hI : wI WC ad) {σ : St} {x1 : Int32}  {res : St} (hf : f_X7_putWord σ x1 = some res) : wC WC ad D cy z l yX7_putWord (Cond.code yX7_putWord cX7_putWord 3 (none) :: aw) (1) (100) [.ref (ad 2), .int x1] σ (wQv WC ad D cy res) := by
  unfold f_X7_putWord at hf
  refine wr_start (own := RX7) hI (by decide +kernel) rfl (Nat.le_of_ble_eq_true rfl) rfl ?_
  intro p e s m below meth c ls X hw hr hl
  have hx := X.hx
  have hb := X.hb
  obtain ⟨H, eH⟩ : ∃ H : Heap, H = s.heap := ⟨_, rfl⟩
  obtain ⟨locs, el⟩ : ∃ locs : List Loc, locs = [] := ⟨_, rfl⟩
  rw [← eH, ← el] at hw ⊢
  clear eH el
  replace hl : lv_has ls 3 [(0, .ref (ad 2)), (1, .int x1)] := hl
  refine lv_bipush (v := 24) hx hb dX7_putWord_0 (by decide) ?_
  refine lv_istore_n (lv' := [(2, .int (24 : Int32)), (0, .ref (ad 2)), (1, .int x1)]) hx hb dX7_putWord_2 rfl hl (by decide) rfl (fun ls hl => ?_)
  obtain ⟨st3_1, est3_1, hf⟩ := wlet_some hf
  obtain ⟨E3_1, hq3_1, hE3_1⟩ := bind_some hf
  have hx3_1 : ∀ (σe3_1 : St) (_ : σe3_1 = E3_1) (ls : Array Slot) (H : Heap) (locs : List Loc), lv_has ls 3 [] → wH WC ad D cy s σe3_1 H locs → W p l e { frames := 1, cells := 0, slots := 0, locals := 100 } s m [.ref (ad 2), .int x1].toArray below meth c H locs 0 0 (MQ below (wQv WC ad D cy res) [.ref (ad 2), .int x1].toArray s 0 0 (wA WC ad)) (F0 m 55 ls []) := by
    intro σe3_1 e0 ls H locs hl hw
    subst e0
    have hf := hE3_1
    have er := Option.some.inj hf
    subst er
    exact wr_vret X hw hr dX7_putWord_55
  have lo3_1 : ∀ (n : Nat) (σ3_1 : St) (x2_3_1 : Int32) (_ : lp st3_1 n (σ3_1, x2_3_1) = some E3_1) (ls : Array Slot) (H : Heap) (locs : List Loc), lv_has ls 3 [(0, .ref (ad 2)), (1, .int x1), (2, .int x2_3_1)] → wH WC ad D cy s σ3_1 H locs → W p l e { frames := 1, cells := 0, slots := 0, locals := 100 } s m [.ref (ad 2), .int x1].toArray below meth c H locs 0 0 (MQ below (wQv WC ad D cy res) [.ref (ad 2), .int x1].toArray s 0 0 (wA WC ad)) (F0 m 3 ls []) := by
    intro n
    induction n with
    | zero =>
      intro σ3_1 x2_3_1 hf ls H locs hl hw
      exact (lp_zero hf).elim
    | succ n ih3_1 =>
      intro σ3_1 x2_3_1 hf ls H locs hl hw
      obtain ⟨q3_1, hf, hz3_1⟩ := lp_succ hf
      rw [est3_1] at hf
      replace hf := un2_some hf
      refine lv_iload_n hx hb dX7_putWord_3 rfl (lv_at hl 2 rfl) ?_
      refine lv_if_lt (tgt := 55) hx hb dX7_putWord_4 (by decide) (fun c2 => ?_) (fun c2 => ?_)
      · have hf := (if_pos c2).symm.trans hf
        exact hx3_1 σ3_1 (lpK_inr (lp_leaf hf hz3_1)) ls H locs (lv_sub hl [] rfl) hw
      · have hf := (if_neg c2).symm.trans hf
        refine lv_aload_n hx hb dX7_putWord_7 rfl (lv_at hl 0 rfl) ?_
        refine gX7_1 X hw sC2 nC2 fl_X7_15 dX7_putWord_8 ?_
        refine lv_if_lt (tgt := 49) hx hb dX7_putWord_11 (by decide) (fun c3 => ?_) (fun c3 => ?_)
        · have hf := (if_pos c3).symm.trans hf
          obtain ⟨v4, ev4, hf⟩ := wlet_some hf
          refine lv_iinc (v := v4) (lv' := [(2, .int v4), (0, .ref (ad 2)), (1, .int x1)]) hx hb dX7_putWord_49 hl (k := 2) rfl (by rw [ev4]; rfl) (by decide) rfl (fun ls hl => ?_)
          refine lv_goto (tgt := 3) hx hb dX7_putWord_52 (by decide) ?_
          exact ih3_1 σ3_1 v4 (lp_leaf hf hz3_1) ls H locs (lv_sub hl [1, 2, 0] rfl) hw
        · have hf := (if_neg c3).symm.trans hf
          refine lv_aload_n hx hb dX7_putWord_14 rfl (lv_at hl 0 rfl) ?_
          refine gX7_1 X hw sC2 nC2 fl_X7_15 dX7_putWord_15 ?_
          refine lv_aload_n hx hb dX7_putWord_18 rfl (lv_at hl 0 rfl) ?_
          refine gX7_0 (b := 3) X hw sC2 nC2 rfl fl_X7_9 dX7_putWord_19 ?_
          refine wr_alen X hw (t := 2) sC3 nC3 (by decide) (v := 2000) (by decide) dX7_putWord_22 ?_
          refine lv_icmp_ge (tgt := 49) hx hb dX7_putWord_23 (by decide) (fun c5 => ?_) (fun c5 => ?_)
          · have hf := (if_pos c5).symm.trans hf
            obtain ⟨v6, ev6, hf⟩ := wlet_some hf
            refine lv_iinc (v := v6) (lv' := [(2, .int v6), (0, .ref (ad 2)), (1, .int x1)]) hx hb dX7_putWord_49 hl (k := 2) rfl (by rw [ev6]; rfl) (by decide) rfl (fun ls hl => ?_)
            refine lv_goto (tgt := 3) hx hb dX7_putWord_52 (by decide) ?_
            exact ih3_1 σ3_1 v6 (lp_leaf hf hz3_1) ls H locs (lv_sub hl [1, 2, 0] rfl) hw
          · have hf := (if_neg c5).symm.trans hf
            refine lv_aload_n hx hb dX7_putWord_26 rfl (lv_at hl 0 rfl) ?_
            refine gX7_0 (b := 3) X hw sC2 nC2 rfl fl_X7_9 dX7_putWord_27 ?_
            refine lv_aload_n hx hb dX7_putWord_30 rfl (lv_at hl 0 rfl) ?_
            refine gX7_1 X hw sC2 nC2 fl_X7_15 dX7_putWord_31 ?_
            refine lv_iload_n hx hb dX7_putWord_34 rfl (lv_at hl 1 rfl) ?_
            refine lv_iload_n hx hb dX7_putWord_35 rfl (lv_at hl 2 rfl) ?_
            refine lv_ishr hx hb dX7_putWord_36 ?_
            refine lv_i2b hx hb dX7_putWord_37 rfl ?_
            obtain ⟨h7, hf⟩ := if_some hf
            obtain ⟨σ8, eσ8, hf⟩ := wlet_some hf
            refine wr_bast X hw sC3 nC3 h7 dX7_putWord_38 (fun H locs hw => ?_)
            replace hw := hw.to eσ8
            refine lv_aload_n hx hb dX7_putWord_39 rfl (lv_at hl 0 rfl) ?_
            refine lv_dup hx hb dX7_putWord_40 rfl ?_
            refine gX7_1 X hw sC2 nC2 fl_X7_15 dX7_putWord_41 ?_
            refine lv_iconst (v := 1) hx hb dX7_putWord_44 (by decide) ?_
            refine lv_iadd hx hb dX7_putWord_45 ?_
            obtain ⟨σ9, eσ9, hf⟩ := wlet_some hf
            refine pX7_1 X hw sC2 nC2 fl_X7_15 dX7_putWord_46 (fun H locs hw => ?_)
            replace hw := hw.to eσ9
            obtain ⟨v10, ev10, hf⟩ := wlet_some hf
            refine lv_iinc (v := v10) (lv' := [(2, .int v10), (0, .ref (ad 2)), (1, .int x1)]) hx hb dX7_putWord_49 hl (k := 2) rfl (by rw [ev10]; rfl) (by decide) rfl (fun ls hl => ?_)
            refine lv_goto (tgt := 3) hx hb dX7_putWord_52 (by decide) ?_
            exact ih3_1 σ9 v10 (lp_leaf hf hz3_1) ls H locs (lv_sub hl [1, 2, 0] rfl) hw
  exact lo3_1 fuel σ (24 : Int32) hq3_1 ls H locs (lv_sub hl [1, 2, 0] rfl) hw

def f_X7_byteAt (σ : St) (x1 : Int32) : Option (Int32) := if x1 < 0 then (some (-1 : Int32)) else (if (σ.1 2 1) ≤ x1 then (some (-1 : Int32)) else (if (2000 : Int32) ≤ x1 then (some (-1 : Int32)) else (if ib x1 2000 = true then some ((σ.1 3 (Int32.toNatClampNeg x1)) &&& (255 : Int32)) else none)))
theorem hd_X7_byteAt : yX7_byteAt.cls = RX7 ∧ yX7_byteAt.cls ≠ "java/lang/invoke/MethodHandle" ∧ yX7_byteAt.cls ≠ "java/lang/invoke/VarHandle" ∧ (parseMethodDescriptor yX7_byteAt.desc).map (fun d => d.parameters.length) = some 1 := by decide +kernel
set_option maxRecDepth 100000 in
set_option maxHeartbeats 4000000 in
theorem k_X7_byteAt {l : Launch} {ad : Nat → Nat} {D : va_G} {cy : Nat → ClassId} {z : wStr} (hI : wI WC ad) {σ : St} {x1 : Int32}  {res : Int32} (hf : f_X7_byteAt σ x1 = some res) : wC WC ad D cy z l yX7_byteAt (Cond.code yX7_byteAt cX7_byteAt 2 (Option.some Jvm.ClassFile.FieldType.int) :: aw) (1) (100) [.ref (ad 2), .int x1] σ (wQi WC ad D cy res σ) := by
  unfold f_X7_byteAt at hf
  refine wr_start (own := RX7) hI (by decide +kernel) rfl (Nat.le_of_ble_eq_true rfl) rfl ?_
  intro p e s m below meth c ls X hw hr hl
  have hx := X.hx
  have hb := X.hb
  obtain ⟨H, eH⟩ : ∃ H : Heap, H = s.heap := ⟨_, rfl⟩
  obtain ⟨locs, el⟩ : ∃ locs : List Loc, locs = [] := ⟨_, rfl⟩
  rw [← eH, ← el] at hw ⊢
  clear eH el
  replace hl : lv_has ls 2 [(0, .ref (ad 2)), (1, .int x1)] := hl
  refine lv_iload_n hx hb dX7_byteAt_0 rfl (lv_at hl 1 rfl) ?_
  refine lv_if_lt (tgt := 34) hx hb dX7_byteAt_1 (by decide) (fun c1 => ?_) (fun c1 => ?_)
  · have hf := (if_pos c1).symm.trans hf
    refine lv_iconst (v := -1) hx hb dX7_byteAt_34 (by decide) ?_
    have er := Option.some.inj hf
    subst er
    exact wr_iret X hw hr (Or.inl rfl) dX7_byteAt_35
  · have hf := (if_neg c1).symm.trans hf
    refine lv_iload_n hx hb dX7_byteAt_4 rfl (lv_at hl 1 rfl) ?_
    refine lv_aload_n hx hb dX7_byteAt_5 rfl (lv_at hl 0 rfl) ?_
    refine gX7_1 X hw sC2 nC2 fl_X7_15 dX7_byteAt_6 ?_
    refine lv_icmp_ge (tgt := 34) hx hb dX7_byteAt_9 (by decide) (fun c2 => ?_) (fun c2 => ?_)
    · have hf := (if_pos c2).symm.trans hf
      refine lv_iconst (v := -1) hx hb dX7_byteAt_34 (by decide) ?_
      have er := Option.some.inj hf
      subst er
      exact wr_iret X hw hr (Or.inl rfl) dX7_byteAt_35
    · have hf := (if_neg c2).symm.trans hf
      refine lv_iload_n hx hb dX7_byteAt_12 rfl (lv_at hl 1 rfl) ?_
      refine lv_aload_n hx hb dX7_byteAt_13 rfl (lv_at hl 0 rfl) ?_
      refine gX7_0 (b := 3) X hw sC2 nC2 rfl fl_X7_9 dX7_byteAt_14 ?_
      refine wr_alen X hw (t := 2) sC3 nC3 (by decide) (v := 2000) (by decide) dX7_byteAt_17 ?_
      refine lv_icmp_ge (tgt := 34) hx hb dX7_byteAt_18 (by decide) (fun c3 => ?_) (fun c3 => ?_)
      · have hf := (if_pos c3).symm.trans hf
        refine lv_iconst (v := -1) hx hb dX7_byteAt_34 (by decide) ?_
        have er := Option.some.inj hf
        subst er
        exact wr_iret X hw hr (Or.inl rfl) dX7_byteAt_35
      · have hf := (if_neg c3).symm.trans hf
        refine lv_aload_n hx hb dX7_byteAt_21 rfl (lv_at hl 0 rfl) ?_
        refine gX7_0 (b := 3) X hw sC2 nC2 rfl fl_X7_9 dX7_byteAt_22 ?_
        refine lv_iload_n hx hb dX7_byteAt_25 rfl (lv_at hl 1 rfl) ?_
        obtain ⟨h4, hf⟩ := if_some hf
        refine wr_bald X hw sC3 nC3 h4 dX7_byteAt_26 ?_
        refine lv_sipush (v := 255) hx hb dX7_byteAt_27 (by decide) ?_
        refine lv_iand hx hb dX7_byteAt_30 ?_
        refine lv_goto (tgt := 35) hx hb dX7_byteAt_31 (by decide) ?_
        have er := Option.some.inj hf
        subst er
        exact wr_iret X hw hr (Or.inl rfl) dX7_byteAt_35
