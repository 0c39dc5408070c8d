def f_X11_appends (x0 : Int64) (x2 : Int32) : Option (Int64) := if x2 = 0 then (some x0) else (some (((27 : Int64) * x0) + (Int32.toInt64 ((x2 - (97 : Int32)) + (1 : Int32)))))
theorem hd_X11_appends : yX11_appends.cls ≠ "java/lang/invoke/MethodHandle" ∧ yX11_appends.cls ≠ "java/lang/invoke/VarHandle" ∧ (parseMethodDescriptor yX11_appends.desc).map (fun d => d.parameters.length) = some 2 := by decide +kernel
set_option maxRecDepth 100000 in
set_option maxHeartbeats 4000000 in
theorem k_X11_appends {l : Launch} {ad : Nat → Nat} {D : va_G} {cy : Nat → ClassId} {z : wStr} (hI : wI WM ad) {σ : St} {x0 : Int64} {x2 : Int32}  {res : Int64} (hf : f_X11_appends x0 x2 = some res) : wC WM ad D cy z l yX11_appends (Cond.code yX11_appends cX11_appends 3 (Option.some Jvm.ClassFile.FieldType.long) :: aw) (1) (100) [.long x0, .int x2] σ (wQl WM ad D cy res σ) := by
  unfold f_X11_appends at hf
  refine wr_start (own := RX11) hI (by decide +kernel) rfl (Nat.le_of_ble_eq_true rfl) rfl ?_
  intro p e s m below meth c ls X hw hr hl
  have hx := X.hx
  have hb := X.hb
  obtain ⟨H, eH⟩ : ∃ H : Heap, H = s.heap := ⟨_, rfl⟩
  obtain ⟨locs, el⟩ : ∃ locs : List Loc, locs = [] := ⟨_, rfl⟩
  rw [← eH, ← el] at hw ⊢
  clear eH el
  replace hl : lv_has ls 3 [(0, .long x0), (2, .int x2)] := hl
  refine lv_iload_n hx hb dX11_appends_0 rfl (lv_at hl 1 rfl) ?_
  refine lv_if_ne (tgt := 8) hx hb dX11_appends_1 (by decide) (fun c1 => ?_) (fun c1 => ?_)
  · have hf := (if_neg c1).symm.trans hf
    refine lv_ldc2 (v := 27) hx hb X.ow (X.tw kl_X11_158) dX11_appends_8 ?_
    refine lv_lload_n hx hb dX11_appends_11 rfl (lv_at hl 0 rfl) ?_
    refine lv_lmul hx hb dX11_appends_12 ?_
    refine lv_iload_n hx hb dX11_appends_13 rfl (lv_at hl 1 rfl) ?_
    refine lv_bipush (v := 97) hx hb dX11_appends_14 (by decide) ?_
    refine lv_isub hx hb dX11_appends_16 ?_
    refine lv_iconst (v := 1) hx hb dX11_appends_17 (by decide) ?_
    refine lv_iadd hx hb dX11_appends_18 ?_
    refine lv_i2l hx hb dX11_appends_19 rfl ?_
    refine lv_ladd hx hb dX11_appends_20 ?_
    have er := Option.some.inj hf
    subst er
    exact wr_lret X hw hr dX11_appends_21
  · have hf := (if_pos c1).symm.trans hf
    refine lv_lload_n hx hb dX11_appends_4 rfl (lv_at hl 0 rfl) ?_
    refine lv_goto (tgt := 21) hx hb dX11_appends_5 (by decide) ?_
    have er := Option.some.inj hf
    subst er
    exact wr_lret X hw hr dX11_appends_21

def f_X11_begins (σ : St)  : Option (St) := wlet (un2 (fun (σ2_1 : St) (x1_2_1 : Int32) => if (26 : Int32) ≤ x1_2_1 then (some (.inr σ2_1)) else (if ib x1_2_1 26 = true then wlet (si σ2_1 27 (Int32.toNatClampNeg x1_2_1) (0 : Int32)) fun σ21 => wlet (x1_2_1 + (1 : Int32)) fun v22 => some (.inl (σ21, v22)) else none)) : St × Int32 → Option ((St × Int32) ⊕ (St))) fun st2_1 => Option.bind (lp st2_1 fuel (σ, (0 : Int32))) ((fun (σe2_1 : St) => if ib (σe2_1.1 0 18) 2 = true then if ib (7 : Int32) 26 = true then wlet (si σe2_1 27 (Int32.toNatClampNeg (7 : Int32)) (σe2_1.1 9 (Int32.toNatClampNeg (σe2_1.1 0 18)))) fun σ4 => wlet (un2 (fun (σ39_5 : St) (x1_39_5 : Int32) => if ib (σ39_5.1 0 18) 2 = true then if (σ39_5.1 9 (Int32.toNatClampNeg (σ39_5.1 0 18))) ≤ x1_39_5 then (some (.inr σ39_5)) else (if ib x1_39_5 26 = true then wlet (si σ39_5 27 (Int32.toNatClampNeg x1_39_5) x1_39_5) fun σ14 => if ib (((7 : Int32) * (σ14.1 0 18)) + x1_39_5) 14 = true then if ib ((10 : Int32) + x1_39_5) 26 = true then wlet (si σ14 27 (Int32.toNatClampNeg ((10 : Int32) + x1_39_5)) (σ14.1 11 (Int32.toNatClampNeg (((7 : Int32) * (σ14.1 0 18)) + x1_39_5)))) fun σ17 => wlet (x1_39_5 + (1 : Int32)) fun v18 => some (.inl (σ17, v18)) else none else none else none) else none) : St × Int32 → Option ((St × Int32) ⊕ (St))) fun st39_5 => Option.bind (lp st39_5 fuel (σ4, (0 : Int32))) ((fun (σe39_5 : St) => if ib (σe39_5.1 0 18) 2 = true then if ib (9 : Int32) 26 = true then wlet (si σe39_5 27 (Int32.toNatClampNeg (9 : Int32)) (σe39_5.1 12 (Int32.toNatClampNeg (σe39_5.1 0 18)))) fun σ8 => if ib (σ8.1 0 18) 2 = true then wlet (si σ8 0 45 (σ8.1 13 (Int32.toNatClampNeg (σ8.1 0 18)))) fun σ10 => some σ10 else none else none else none)) else none else none))
theorem hd_X11_begins : yX11_begins.cls = RX11 ∧ yX11_begins.cls ≠ "java/lang/invoke/MethodHandle" ∧ yX11_begins.cls ≠ "java/lang/invoke/VarHandle" ∧ (parseMethodDescriptor yX11_begins.desc).map (fun d => d.parameters.length) = some 0 := by decide +kernel
set_option maxRecDepth 100000 in
set_option maxHeartbeats 4000000 in
theorem k_X11_begins {l : Launch} {ad : Nat → Nat} {D : va_G} {cy : Nat → ClassId} {z : wStr} (hI : wI WM ad) {σ : St}   {res : St} (hf : f_X11_begins σ  = some res) : wC WM ad D cy z l yX11_begins (Cond.code yX11_begins cX11_begins 2 (none) :: aw) (1) (100) [.ref (ad 0)] σ (wQv WM ad D cy res) := by
  unfold f_X11_begins at hf
  refine wr_start (own := RX11) hI (by decide +kernel) rfl (Nat.le_of_ble_eq_true rfl) rfl ?_
  intro p e s m below meth c ls X hw hr hl
  have hx := X.hx
  have hb := X.hb
  obtain ⟨H, eH⟩ : ∃ H : Heap, H = s.heap := ⟨_, rfl⟩
  obtain ⟨locs, el⟩ : ∃ locs : List Loc, locs = [] := ⟨_, rfl⟩
  rw [← eH, ← el] at hw ⊢
  clear eH el
  replace hl : lv_has ls 2 [(0, .ref (ad 0))] := hl
  refine lv_iconst (v := 0) hx hb dX11_begins_0 (by decide) ?_
  refine lv_istore_n (lv' := [(1, .int (0 : Int32)), (0, .ref (ad 0))]) hx hb dX11_begins_1 rfl hl (by decide) rfl (fun ls hl => ?_)
  obtain ⟨st2_1, est2_1, hf⟩ := wlet_some hf
  obtain ⟨E2_1, hq2_1, hE2_1⟩ := bind_some hf
  have hx2_1 : ∀ (σe2_1 : St) (_ : σe2_1 = E2_1) (ls : Array Slot) (H : Heap) (locs : List Loc), lv_has ls 2 [(0, .ref (ad 0))] → wH WM ad D cy s σe2_1 H locs → W p l e { frames := 1, cells := 0, slots := 0, locals := 100 } s m [.ref (ad 0)].toArray below meth c H locs 0 0 (MQ below (wQv WM ad D cy res) [.ref (ad 0)].toArray s 0 0 (wA WM ad)) (F0 m 21 ls []) := by
    intro σe2_1 e0 ls H locs hl hw
    subst e0
    have hf := hE2_1
    refine lv_aload_n hx hb dX11_begins_21 rfl (lv_at hl 0 rfl) ?_
    refine gX11_44 (b := 27) X hw sM0 nM0 rfl fl_X11_98 dX11_begins_22 ?_
    refine lv_bipush (v := 7) hx hb dX11_begins_25 (by decide) ?_
    refine lv_aload_n hx hb dX11_begins_27 rfl (lv_at hl 0 rfl) ?_
    refine gX11_22 (b := 9) X hw sM0 nM0 rfl fl_X11_43 dX11_begins_28 ?_
    refine lv_aload_n hx hb dX11_begins_31 rfl (lv_at hl 0 rfl) ?_
    refine gX11_18 X hw sM0 nM0 fl_X11_212 dX11_begins_32 ?_
    obtain ⟨h2, hf⟩ := if_some hf
    refine wr_iald X hw sM9 nM9 h2 dX11_begins_35 ?_
    obtain ⟨h3, hf⟩ := if_some hf
    obtain ⟨σ4, eσ4, hf⟩ := wlet_some hf
    refine wr_iast X hw sM27 nM27 h3 dX11_begins_36 (fun H locs hw => ?_)
    replace hw := hw.to eσ4
    refine lv_iconst (v := 0) hx hb dX11_begins_37 (by decide) ?_
    refine lv_istore_n (lv' := [(1, .int (0 : Int32)), (0, .ref (ad 0))]) hx hb dX11_begins_38 rfl hl (by decide) rfl (fun ls hl => ?_)
    obtain ⟨st39_5, est39_5, hf⟩ := wlet_some hf
    obtain ⟨E39_5, hq39_5, hE39_5⟩ := bind_some hf
    have hx39_5 : ∀ (σe39_5 : St) (_ : σe39_5 = E39_5) (ls : Array Slot) (H : Heap) (locs : List Loc), lv_has ls 2 [(0, .ref (ad 0))] → wH WM ad D cy s σe39_5 H locs → W p l e { frames := 1, cells := 0, slots := 0, locals := 100 } s m [.ref (ad 0)].toArray below meth c H locs 0 0 (MQ below (wQv WM ad D cy res) [.ref (ad 0)].toArray s 0 0 (wA WM ad)) (F0 m 88 ls []) := by
      intro σe39_5 e0 ls H locs hl hw
      subst e0
      have hf := hE39_5
      refine lv_aload_n hx hb dX11_begins_88 rfl (lv_at hl 0 rfl) ?_
      refine gX11_44 (b := 27) X hw sM0 nM0 rfl fl_X11_98 dX11_begins_89 ?_
      refine lv_bipush (v := 9) hx hb dX11_begins_92 (by decide) ?_
      refine lv_aload_n hx hb dX11_begins_94 rfl (lv_at hl 0 rfl) ?_
      refine gX11_25 (b := 12) X hw sM0 nM0 rfl fl_X11_52 dX11_begins_95 ?_
      refine lv_aload_n hx hb dX11_begins_98 rfl (lv_at hl 0 rfl) ?_
      refine gX11_18 X hw sM0 nM0 fl_X11_212 dX11_begins_99 ?_
      obtain ⟨h6, hf⟩ := if_some hf
      refine wr_iald X hw sM12 nM12 h6 dX11_begins_102 ?_
      obtain ⟨h7, hf⟩ := if_some hf
      obtain ⟨σ8, eσ8, hf⟩ := wlet_some hf
      refine wr_iast X hw sM27 nM27 h7 dX11_begins_103 (fun H locs hw => ?_)
      replace hw := hw.to eσ8
      refine lv_aload_n hx hb dX11_begins_104 rfl (lv_at hl 0 rfl) ?_
      refine lv_aload_n hx hb dX11_begins_105 rfl (lv_at hl 0 rfl) ?_
      refine gX11_26 (b := 13) X hw sM0 nM0 rfl fl_X11_55 dX11_begins_106 ?_
      refine lv_aload_n hx hb dX11_begins_109 rfl (lv_at hl 0 rfl) ?_
      refine gX11_18 X hw sM0 nM0 fl_X11_212 dX11_begins_110 ?_
      obtain ⟨h9, hf⟩ := if_some hf
      refine wr_iald X hw sM13 nM13 h9 dX11_begins_113 ?_
      obtain ⟨σ10, eσ10, hf⟩ := wlet_some hf
      refine pX11_45 X hw sM0 nM0 fl_X11_286 dX11_begins_114 (fun H locs hw => ?_)
      replace hw := hw.to eσ10
      have er := Option.some.inj hf
      subst er
      exact wr_vret X hw hr dX11_begins_117
    have lo39_5 : ∀ (n : Nat) (σ39_5 : St) (x1_39_5 : Int32) (_ : lp st39_5 n (σ39_5, x1_39_5) = some E39_5) (ls : Array Slot) (H : Heap) (locs : List Loc), lv_has ls 2 [(0, .ref (ad 0)), (1, .int x1_39_5)] → wH WM ad D cy s σ39_5 H locs → W p l e { frames := 1, cells := 0, slots := 0, locals := 100 } s m [.ref (ad 0)].toArray below meth c H locs 0 0 (MQ below (wQv WM ad D cy res) [.ref (ad 0)].toArray s 0 0 (wA WM ad)) (F0 m 39 ls []) := by
      intro n
      induction n with
      | zero =>
        intro σ39_5 x1_39_5 hf ls H locs hl hw
        exact (lp_zero hf).elim
      | succ n ih39_5 =>
        intro σ39_5 x1_39_5 hf ls H locs hl hw
        obtain ⟨q39_5, hf, hz39_5⟩ := lp_succ hf
        rw [est39_5] at hf
        replace hf := un2_some hf
        refine lv_iload_n hx hb dX11_begins_39 rfl (lv_at hl 1 rfl) ?_
        refine lv_aload_n hx hb dX11_begins_40 rfl (lv_at hl 0 rfl) ?_
        refine gX11_22 (b := 9) X hw sM0 nM0 rfl fl_X11_43 dX11_begins_41 ?_
        refine lv_aload_n hx hb dX11_begins_44 rfl (lv_at hl 0 rfl) ?_
        refine gX11_18 X hw sM0 nM0 fl_X11_212 dX11_begins_45 ?_
        obtain ⟨h11, hf⟩ := if_some hf
        refine wr_iald X hw sM9 nM9 h11 dX11_begins_48 ?_
        refine lv_icmp_ge (tgt := 88) hx hb dX11_begins_49 (by decide) (fun c12 => ?_) (fun c12 => ?_)
        · have hf := (if_pos c12).symm.trans hf
          exact hx39_5 σ39_5 (lpK_inr (lp_leaf hf hz39_5)) ls H locs (lv_sub hl [0] rfl) hw
        · have hf := (if_neg c12).symm.trans hf
          refine lv_aload_n hx hb dX11_begins_52 rfl (lv_at hl 0 rfl) ?_
          refine gX11_44 (b := 27) X hw sM0 nM0 rfl fl_X11_98 dX11_begins_53 ?_
          refine lv_iload_n hx hb dX11_begins_56 rfl (lv_at hl 1 rfl) ?_
          refine lv_iload_n hx hb dX11_begins_57 rfl (lv_at hl 1 rfl) ?_
          obtain ⟨h13, hf⟩ := if_some hf
          obtain ⟨σ14, eσ14, hf⟩ := wlet_some hf
          refine wr_iast X hw sM27 nM27 h13 dX11_begins_58 (fun H locs hw => ?_)
          replace hw := hw.to eσ14
          refine lv_aload_n hx hb dX11_begins_59 rfl (lv_at hl 0 rfl) ?_
          refine gX11_44 (b := 27) X hw sM0 nM0 rfl fl_X11_98 dX11_begins_60 ?_
          refine lv_bipush (v := 10) hx hb dX11_begins_63 (by decide) ?_
          refine lv_iload_n hx hb dX11_begins_65 rfl (lv_at hl 1 rfl) ?_
          refine lv_iadd hx hb dX11_begins_66 ?_
          refine lv_aload_n hx hb dX11_begins_67 rfl (lv_at hl 0 rfl) ?_
          refine gX11_24 (b := 11) X hw sM0 nM0 rfl fl_X11_49 dX11_begins_68 ?_
          refine lv_bipush (v := 7) hx hb dX11_begins_71 (by decide) ?_
          refine lv_aload_n hx hb dX11_begins_73 rfl (lv_at hl 0 rfl) ?_
          refine gX11_18 X hw sM0 nM0 fl_X11_212 dX11_begins_74 ?_
          refine lv_imul hx hb dX11_begins_77 ?_
          refine lv_iload_n hx hb dX11_begins_78 rfl (lv_at hl 1 rfl) ?_
          refine lv_iadd hx hb dX11_begins_79 ?_
          obtain ⟨h15, hf⟩ := if_some hf
          refine wr_iald X hw sM11 nM11 h15 dX11_begins_80 ?_
          obtain ⟨h16, hf⟩ := if_some hf
          obtain ⟨σ17, eσ17, hf⟩ := wlet_some hf
          refine wr_iast X hw sM27 nM27 h16 dX11_begins_81 (fun H locs hw => ?_)
          replace hw := hw.to eσ17
          obtain ⟨v18, ev18, hf⟩ := wlet_some hf
          refine lv_iinc (v := v18) (lv' := [(1, .int v18), (0, .ref (ad 0))]) hx hb dX11_begins_82 hl (k := 1) rfl (by rw [ev18]; rfl) (by decide) rfl (fun ls hl => ?_)
          refine lv_goto (tgt := 39) hx hb dX11_begins_85 (by decide) ?_
          exact ih39_5 σ17 v18 (lp_leaf hf hz39_5) ls H locs (lv_sub hl [1, 0] rfl) hw
    exact lo39_5 fuel σ4 (0 : Int32) hq39_5 ls H locs (lv_sub hl [1, 0] rfl) hw
  have lo2_1 : ∀ (n : Nat) (σ2_1 : St) (x1_2_1 : Int32) (_ : lp st2_1 n (σ2_1, x1_2_1) = some E2_1) (ls : Array Slot) (H : Heap) (locs : List Loc), lv_has ls 2 [(0, .ref (ad 0)), (1, .int x1_2_1)] → wH WM ad D cy s σ2_1 H locs → W p l e { frames := 1, cells := 0, slots := 0, locals := 100 } s m [.ref (ad 0)].toArray below meth c H locs 0 0 (MQ below (wQv WM ad D cy res) [.ref (ad 0)].toArray s 0 0 (wA WM ad)) (F0 m 2 ls []) := by
    intro n
    induction n with
    | zero =>
      intro σ2_1 x1_2_1 hf ls H locs hl hw
      exact (lp_zero hf).elim
    | succ n ih2_1 =>
      intro σ2_1 x1_2_1 hf ls H locs hl hw
      obtain ⟨q2_1, hf, hz2_1⟩ := lp_succ hf
      rw [est2_1] at hf
      replace hf := un2_some hf
      refine lv_iload_n hx hb dX11_begins_2 rfl (lv_at hl 1 rfl) ?_
      refine lv_bipush (v := 26) hx hb dX11_begins_3 (by decide) ?_
      refine lv_icmp_ge (tgt := 21) hx hb dX11_begins_5 (by decide) (fun c19 => ?_) (fun c19 => ?_)
      · have hf := (if_pos c19).symm.trans hf
        exact hx2_1 σ2_1 (lpK_inr (lp_leaf hf hz2_1)) ls H locs (lv_sub hl [0] rfl) hw
      · have hf := (if_neg c19).symm.trans hf
        refine lv_aload_n hx hb dX11_begins_8 rfl (lv_at hl 0 rfl) ?_
        refine gX11_44 (b := 27) X hw sM0 nM0 rfl fl_X11_98 dX11_begins_9 ?_
        refine lv_iload_n hx hb dX11_begins_12 rfl (lv_at hl 1 rfl) ?_
        refine lv_iconst (v := 0) hx hb dX11_begins_13 (by decide) ?_
        obtain ⟨h20, hf⟩ := if_some hf
        obtain ⟨σ21, eσ21, hf⟩ := wlet_some hf
        refine wr_iast X hw sM27 nM27 h20 dX11_begins_14 (fun H locs hw => ?_)
        replace hw := hw.to eσ21
        obtain ⟨v22, ev22, hf⟩ := wlet_some hf
        refine lv_iinc (v := v22) (lv' := [(1, .int v22), (0, .ref (ad 0))]) hx hb dX11_begins_15 hl (k := 1) rfl (by rw [ev22]; rfl) (by decide) rfl (fun ls hl => ?_)
        refine lv_goto (tgt := 2) hx hb dX11_begins_18 (by decide) ?_
        exact ih2_1 σ21 v22 (lp_leaf hf hz2_1) ls H locs (lv_sub hl [1, 0] rfl) hw
  exact lo2_1 fuel σ (0 : Int32) hq2_1 ls H locs (lv_sub hl [1, 0] rfl) hw

def f_X11_keepsRow (σ : St)  : Option (St) := wlet (un2 (fun (σ2_1 : St) (x1_2_1 : Int32) => if (26 : Int32) ≤ x1_2_1 then (some (.inr σ2_1)) else (if ib x1_2_1 26 = true then if ib x1_2_1 26 = true then wlet (si σ2_1 26 (Int32.toNatClampNeg x1_2_1) (σ2_1.1 27 (Int32.toNatClampNeg x1_2_1))) fun σ5 => wlet (x1_2_1 + (1 : Int32)) fun v6 => some (.inl (σ5, v6)) else none else none)) : St × Int32 → Option ((St × Int32) ⊕ (St))) fun st2_1 => Option.bind (lp st2_1 fuel (σ, (0 : Int32))) ((fun (σe2_1 : St) => some σe2_1))
theorem hd_X11_keepsRow : yX11_keepsRow.cls = RX11 ∧ yX11_keepsRow.cls ≠ "java/lang/invoke/MethodHandle" ∧ yX11_keepsRow.cls ≠ "java/lang/invoke/VarHandle" ∧ (parseMethodDescriptor yX11_keepsRow.desc).map (fun d => d.parameters.length) = some 0 := by decide +kernel
set_option maxRecDepth 100000 in
set_option maxHeartbeats 4000000 in
theorem k_X11_keepsRow {l : Launch} {ad : Nat → Nat} {D : va_G} {cy : Nat → ClassId} {z : wStr} (hI : wI WM ad) {σ : St}   {res : St} (hf : f_X11_keepsRow σ  = some res) : wC WM ad D cy z l yX11_keepsRow (Cond.code yX11_keepsRow cX11_keepsRow 2 (none) :: aw) (1) (100) [.ref (ad 0)] σ (wQv WM ad D cy res) := by
  unfold f_X11_keepsRow at hf
  refine wr_start (own := RX11) hI (by decide +kernel) rfl (Nat.le_of_ble_eq_true rfl) rfl ?_
  intro p e s m below meth c ls X hw hr hl
  have hx := X.hx
  have hb := X.hb
  obtain ⟨H, eH⟩ : ∃ H : Heap, H = s.heap := ⟨_, rfl⟩
  obtain ⟨locs, el⟩ : ∃ locs : List Loc, locs = [] := ⟨_, rfl⟩
  rw [← eH, ← el] at hw ⊢
  clear eH el
  replace hl : lv_has ls 2 [(0, .ref (ad 0))] := hl
  refine lv_iconst (v := 0) hx hb dX11_keepsRow_0 (by decide) ?_
  refine lv_istore_n (lv' := [(1, .int (0 : Int32)), (0, .ref (ad 0))]) hx hb dX11_keepsRow_1 rfl hl (by decide) rfl (fun ls hl => ?_)
  obtain ⟨st2_1, est2_1, hf⟩ := wlet_some hf
  obtain ⟨E2_1, hq2_1, hE2_1⟩ := bind_some hf
  have hx2_1 : ∀ (σe2_1 : St) (_ : σe2_1 = E2_1) (ls : Array Slot) (H : Heap) (locs : List Loc), lv_has ls 2 [] → wH WM ad D cy s σe2_1 H locs → W p l e { frames := 1, cells := 0, slots := 0, locals := 100 } s m [.ref (ad 0)].toArray below meth c H locs 0 0 (MQ below (wQv WM ad D cy res) [.ref (ad 0)].toArray s 0 0 (wA WM ad)) (F0 m 26 ls []) := by
    intro σe2_1 e0 ls H locs hl hw
    subst e0
    have hf := hE2_1
    have er := Option.some.inj hf
    subst er
    exact wr_vret X hw hr dX11_keepsRow_26
  have lo2_1 : ∀ (n : Nat) (σ2_1 : St) (x1_2_1 : Int32) (_ : lp st2_1 n (σ2_1, x1_2_1) = some E2_1) (ls : Array Slot) (H : Heap) (locs : List Loc), lv_has ls 2 [(0, .ref (ad 0)), (1, .int x1_2_1)] → wH WM ad D cy s σ2_1 H locs → W p l e { frames := 1, cells := 0, slots := 0, locals := 100 } s m [.ref (ad 0)].toArray below meth c H locs 0 0 (MQ below (wQv WM ad D cy res) [.ref (ad 0)].toArray s 0 0 (wA WM ad)) (F0 m 2 ls []) := by
    intro n
    induction n with
    | zero =>
      intro σ2_1 x1_2_1 hf ls H locs hl hw
      exact (lp_zero hf).elim
    | succ n ih2_1 =>
      intro σ2_1 x1_2_1 hf ls H locs hl hw
      obtain ⟨q2_1, hf, hz2_1⟩ := lp_succ hf
      rw [est2_1] at hf
      replace hf := un2_some hf
      refine lv_iload_n hx hb dX11_keepsRow_2 rfl (lv_at hl 1 rfl) ?_
      refine lv_bipush (v := 26) hx hb dX11_keepsRow_3 (by decide) ?_
      refine lv_icmp_ge (tgt := 26) hx hb dX11_keepsRow_5 (by decide) (fun c2 => ?_) (fun c2 => ?_)
      · have hf := (if_pos c2).symm.trans hf
        exact hx2_1 σ2_1 (lpK_inr (lp_leaf hf hz2_1)) ls H locs (lv_sub hl [] rfl) hw
      · have hf := (if_neg c2).symm.trans hf
        refine lv_aload_n hx hb dX11_keepsRow_8 rfl (lv_at hl 0 rfl) ?_
        refine gX11_43 (b := 26) X hw sM0 nM0 rfl fl_X11_95 dX11_keepsRow_9 ?_
        refine lv_iload_n hx hb dX11_keepsRow_12 rfl (lv_at hl 1 rfl) ?_
        refine lv_aload_n hx hb dX11_keepsRow_13 rfl (lv_at hl 0 rfl) ?_
        refine gX11_44 (b := 27) X hw sM0 nM0 rfl fl_X11_98 dX11_keepsRow_14 ?_
        refine lv_iload_n hx hb dX11_keepsRow_17 rfl (lv_at hl 1 rfl) ?_
        obtain ⟨h3, hf⟩ := if_some hf
        refine wr_iald X hw sM27 nM27 h3 dX11_keepsRow_18 ?_
        obtain ⟨h4, hf⟩ := if_some hf
        obtain ⟨σ5, eσ5, hf⟩ := wlet_some hf
        refine wr_iast X hw sM26 nM26 h4 dX11_keepsRow_19 (fun H locs hw => ?_)
        replace hw := hw.to eσ5
        obtain ⟨v6, ev6, hf⟩ := wlet_some hf
        refine lv_iinc (v := v6) (lv' := [(1, .int v6), (0, .ref (ad 0))]) hx hb dX11_keepsRow_20 hl (k := 1) rfl (by rw [ev6]; rfl) (by decide) rfl (fun ls hl => ?_)
        refine lv_goto (tgt := 2) hx hb dX11_keepsRow_23 (by decide) ?_
        exact ih2_1 σ5 v6 (lp_leaf hf hz2_1) ls H locs (lv_sub hl [1, 0] rfl) hw
  exact lo2_1 fuel σ (0 : Int32) hq2_1 ls H locs (lv_sub hl [1, 0] rfl) hw

def f_X11_letters (x0 : Int32) (x1 : Int32) (x2 : Int32) (x3 : Int32) (x4 : Int32) (x5 : Int32) (x6 : Int32) : Option (Int64) := Option.bind (f_X11_appends (0 : Int64) x0) fun v2 => Option.bind (f_X11_appends v2 x1) fun v4 => Option.bind (f_X11_appends v4 x2) fun v6 => Option.bind (f_X11_appends v6 x3) fun v8 => Option.bind (f_X11_appends v8 x4) fun v10 => Option.bind (f_X11_appends v10 x5) fun v12 => Option.bind (f_X11_appends v12 x6) fun v14 => some v14
theorem hd_X11_letters : yX11_letters.cls ≠ "java/lang/invoke/MethodHandle" ∧ yX11_letters.cls ≠ "java/lang/invoke/VarHandle" ∧ (parseMethodDescriptor yX11_letters.desc).map (fun d => d.parameters.length) = some 7 := by decide +kernel
set_option maxRecDepth 100000 in
set_option maxHeartbeats 4000000 in
theorem k_X11_letters {l : Launch} {ad : Nat → Nat} {D : va_G} {cy : Nat → ClassId} {z : wStr} (hI : wI WM ad) {σ : St} {x0 : Int32} {x1 : Int32} {x2 : Int32} {x3 : Int32} {x4 : Int32} {x5 : Int32} {x6 : Int32}  {res : Int64} (hf : f_X11_letters x0 x1 x2 x3 x4 x5 x6 = some res) : wC WM ad D cy z l yX11_letters (Cond.code yX11_letters cX11_letters 7 (Option.some Jvm.ClassFile.FieldType.long) :: aw) (2) (122) [.int x0, .int x1, .int x2, .int x3, .int x4, .int x5, .int x6] σ (wQl WM ad D cy res σ) := by
  unfold f_X11_letters at hf
  refine wr_start (own := RX11) hI (by decide +kernel) rfl (Nat.le_of_ble_eq_true rfl) rfl ?_
  intro p e s m below meth c ls X hw hr hl
  have hx := X.hx
  have hb := X.hb
  obtain ⟨H, eH⟩ : ∃ H : Heap, H = s.heap := ⟨_, rfl⟩
  obtain ⟨locs, el⟩ : ∃ locs : List Loc, locs = [] := ⟨_, rfl⟩
  rw [← eH, ← el] at hw ⊢
  clear eH el
  replace hl : lv_has ls 7 [(0, .int x0), (1, .int x1), (2, .int x2), (3, .int x3), (4, .int x4), (5, .int x5), (6, .int x6)] := hl
  refine lv_lconst (v := 0) hx hb dX11_letters_0 (by decide) ?_
  refine lv_iload_n hx hb dX11_letters_1 rfl (lv_at hl 0 rfl) ?_
  obtain ⟨v2, hq1, hf⟩ := bind_some hf
  refine wr_cSl (r := v2) (σ' := σ) (av := [.long (0 : Int64), .int x0]) (rest := []) X hw hl.1 (k_X11_appends hI hq1) rfl ml_X11_139 st_X11_appends ini_X11 co_X11_appends hd_X11_appends ⟨Nat.le_of_ble_eq_true rfl, Nat.le_of_ble_eq_true rfl⟩ (Nat.le_of_ble_eq_true rfl) dX11_letters_2 rfl (fun H locs hw => ?_)
  refine lv_iload_n hx hb dX11_letters_5 rfl (lv_at hl 1 rfl) ?_
  obtain ⟨v4, hq3, hf⟩ := bind_some hf
  refine wr_cSl (r := v4) (σ' := σ) (av := [.long v2, .int x1]) (rest := []) X hw hl.1 (k_X11_appends hI hq3) rfl ml_X11_139 st_X11_appends ini_X11 co_X11_appends hd_X11_appends ⟨Nat.le_of_ble_eq_true rfl, Nat.le_of_ble_eq_true rfl⟩ (Nat.le_of_ble_eq_true rfl) dX11_letters_6 rfl (fun H locs hw => ?_)
  refine lv_iload_n hx hb dX11_letters_9 rfl (lv_at hl 2 rfl) ?_
  obtain ⟨v6, hq5, hf⟩ := bind_some hf
  refine wr_cSl (r := v6) (σ' := σ) (av := [.long v4, .int x2]) (rest := []) X hw hl.1 (k_X11_appends hI hq5) rfl ml_X11_139 st_X11_appends ini_X11 co_X11_appends hd_X11_appends ⟨Nat.le_of_ble_eq_true rfl, Nat.le_of_ble_eq_true rfl⟩ (Nat.le_of_ble_eq_true rfl) dX11_letters_10 rfl (fun H locs hw => ?_)
  refine lv_iload_n hx hb dX11_letters_13 rfl (lv_at hl 3 rfl) ?_
  obtain ⟨v8, hq7, hf⟩ := bind_some hf
  refine wr_cSl (r := v8) (σ' := σ) (av := [.long v6, .int x3]) (rest := []) X hw hl.1 (k_X11_appends hI hq7) rfl ml_X11_139 st_X11_appends ini_X11 co_X11_appends hd_X11_appends ⟨Nat.le_of_ble_eq_true rfl, Nat.le_of_ble_eq_true rfl⟩ (Nat.le_of_ble_eq_true rfl) dX11_letters_14 rfl (fun H locs hw => ?_)
  refine lv_iload hx hb dX11_letters_17 (lv_at hl 4 rfl) ?_
  obtain ⟨v10, hq9, hf⟩ := bind_some hf
  refine wr_cSl (r := v10) (σ' := σ) (av := [.long v8, .int x4]) (rest := []) X hw hl.1 (k_X11_appends hI hq9) rfl ml_X11_139 st_X11_appends ini_X11 co_X11_appends hd_X11_appends ⟨Nat.le_of_ble_eq_true rfl, Nat.le_of_ble_eq_true rfl⟩ (Nat.le_of_ble_eq_true rfl) dX11_letters_19 rfl (fun H locs hw => ?_)
  refine lv_iload hx hb dX11_letters_22 (lv_at hl 5 rfl) ?_
  obtain ⟨v12, hq11, hf⟩ := bind_some hf
  refine wr_cSl (r := v12) (σ' := σ) (av := [.long v10, .int x5]) (rest := []) X hw hl.1 (k_X11_appends hI hq11) rfl ml_X11_139 st_X11_appends ini_X11 co_X11_appends hd_X11_appends ⟨Nat.le_of_ble_eq_true rfl, Nat.le_of_ble_eq_true rfl⟩ (Nat.le_of_ble_eq_true rfl) dX11_letters_24 rfl (fun H locs hw => ?_)
  refine lv_iload hx hb dX11_letters_27 (lv_at hl 6 rfl) ?_
  obtain ⟨v14, hq13, hf⟩ := bind_some hf
  refine wr_cSl (r := v14) (σ' := σ) (av := [.long v12, .int x6]) (rest := []) X hw hl.1 (k_X11_appends hI hq13) rfl ml_X11_139 st_X11_appends ini_X11 co_X11_appends hd_X11_appends ⟨Nat.le_of_ble_eq_true rfl, Nat.le_of_ble_eq_true rfl⟩ (Nat.le_of_ble_eq_true rfl) dX11_letters_29 rfl (fun H locs hw => ?_)
  have er := Option.some.inj hf
  subst er
  exact wr_lret X hw hr dX11_letters_32

def f_X11_plain (σ : St) (x1 : Int32) : Option (St) := if ib x1 2 = true then wlet (si σ 9 (Int32.toNatClampNeg x1) (0 : Int32)) fun σ2 => if ib x1 2 = true then wlet (si σ2 12 (Int32.toNatClampNeg x1) (0 : Int32)) fun σ4 => if ib x1 2 = true then wlet (si σ4 13 (Int32.toNatClampNeg x1) (0 : Int32)) fun σ6 => wlet (un2 (fun (σ23_7 : St) (x2_23_7 : Int32) => if (4 : Int32) ≤ x2_23_7 then (some (.inr σ23_7)) else (if ib (((4 : Int32) * x1) + x2_23_7) 8 = true then wlet (si σ23_7 14 (Int32.toNatClampNeg (((4 : Int32) * x1) + x2_23_7)) (0 : Int32)) fun σ10 => if ib (((4 : Int32) * x1) + x2_23_7) 8 = true then wlet (si σ10 15 (Int32.toNatClampNeg (((4 : Int32) * x1) + x2_23_7)) (0 : Int32)) fun σ12 => wlet (x2_23_7 + (1 : Int32)) fun v13 => some (.inl (σ12, v13)) else none else none)) : St × Int32 → Option ((St × Int32) ⊕ (St))) fun st23_7 => Option.bind (lp st23_7 fuel (σ6, (0 : Int32))) ((fun (σe23_7 : St) => some σe23_7)) else none else none else none
theorem hd_X11_plain : yX11_plain.cls = RX11 ∧ yX11_plain.cls ≠ "java/lang/invoke/MethodHandle" ∧ yX11_plain.cls ≠ "java/lang/invoke/VarHandle" ∧ (parseMethodDescriptor yX11_plain.desc).map (fun d => d.parameters.length) = some 1 := by decide +kernel
set_option maxRecDepth 100000 in
set_option maxHeartbeats 4000000 in
theorem k_X11_plain {l : Launch} {ad : Nat → Nat} {D : va_G} {cy : Nat → ClassId} {z : wStr} (hI : wI WM ad) {σ : St} {x1 : Int32}  {res : St} (hf : f_X11_plain σ x1 = some res) : wC WM ad D cy z l yX11_plain (Cond.code yX11_plain cX11_plain 3 (none) :: aw) (1) (100) [.ref (ad 0), .int x1] σ (wQv WM ad D cy res) := by
  unfold f_X11_plain at hf
  refine wr_start (own := RX11) hI (by decide +kernel) rfl (Nat.le_of_ble_eq_true rfl) rfl ?_
  intro p e s m below meth c ls X hw hr hl
  have hx := X.hx
  have hb := X.hb
  obtain ⟨H, eH⟩ : ∃ H : Heap, H = s.heap := ⟨_, rfl⟩
  obtain ⟨locs, el⟩ : ∃ locs : List Loc, locs = [] := ⟨_, rfl⟩
  rw [← eH, ← el] at hw ⊢
  clear eH el
  replace hl : lv_has ls 3 [(0, .ref (ad 0)), (1, .int x1)] := hl
  refine lv_aload_n hx hb dX11_plain_0 rfl (lv_at hl 0 rfl) ?_
  refine gX11_22 (b := 9) X hw sM0 nM0 rfl fl_X11_43 dX11_plain_1 ?_
  refine lv_iload_n hx hb dX11_plain_4 rfl (lv_at hl 1 rfl) ?_
  refine lv_iconst (v := 0) hx hb dX11_plain_5 (by decide) ?_
  obtain ⟨h1, hf⟩ := if_some hf
  obtain ⟨σ2, eσ2, hf⟩ := wlet_some hf
  refine wr_iast X hw sM9 nM9 h1 dX11_plain_6 (fun H locs hw => ?_)
  replace hw := hw.to eσ2
  refine lv_aload_n hx hb dX11_plain_7 rfl (lv_at hl 0 rfl) ?_
  refine gX11_25 (b := 12) X hw sM0 nM0 rfl fl_X11_52 dX11_plain_8 ?_
  refine lv_iload_n hx hb dX11_plain_11 rfl (lv_at hl 1 rfl) ?_
  refine lv_iconst (v := 0) hx hb dX11_plain_12 (by decide) ?_
  obtain ⟨h3, hf⟩ := if_some hf
  obtain ⟨σ4, eσ4, hf⟩ := wlet_some hf
  refine wr_iast X hw sM12 nM12 h3 dX11_plain_13 (fun H locs hw => ?_)
  replace hw := hw.to eσ4
  refine lv_aload_n hx hb dX11_plain_14 rfl (lv_at hl 0 rfl) ?_
  refine gX11_26 (b := 13) X hw sM0 nM0 rfl fl_X11_55 dX11_plain_15 ?_
  refine lv_iload_n hx hb dX11_plain_18 rfl (lv_at hl 1 rfl) ?_
  refine lv_iconst (v := 0) hx hb dX11_plain_19 (by decide) ?_
  obtain ⟨h5, hf⟩ := if_some hf
  obtain ⟨σ6, eσ6, hf⟩ := wlet_some hf
  refine wr_iast X hw sM13 nM13 h5 dX11_plain_20 (fun H locs hw => ?_)
  replace hw := hw.to eσ6
  refine lv_iconst (v := 0) hx hb dX11_plain_21 (by decide) ?_
  refine lv_istore_n (lv' := [(2, .int (0 : Int32)), (0, .ref (ad 0)), (1, .int x1)]) hx hb dX11_plain_22 rfl hl (by decide) rfl (fun ls hl => ?_)
  obtain ⟨st23_7, est23_7, hf⟩ := wlet_some hf
  obtain ⟨E23_7, hq23_7, hE23_7⟩ := bind_some hf
  have hx23_7 : ∀ (σe23_7 : St) (_ : σe23_7 = E23_7) (ls : Array Slot) (H : Heap) (locs : List Loc), lv_has ls 3 [] → wH WM ad D cy s σe23_7 H locs → W p l e { frames := 1, cells := 0, slots := 0, locals := 100 } s m [.ref (ad 0), .int x1].toArray below meth c H locs 0 0 (MQ below (wQv WM ad D cy res) [.ref (ad 0), .int x1].toArray s 0 0 (wA WM ad)) (F0 m 56 ls []) := by
    intro σe23_7 e0 ls H locs hl hw
    subst e0
    have hf := hE23_7
    have er := Option.some.inj hf
    subst er
    exact wr_vret X hw hr dX11_plain_56
  have lo23_7 : ∀ (n : Nat) (σ23_7 : St) (x2_23_7 : Int32) (_ : lp st23_7 n (σ23_7, x2_23_7) = some E23_7) (ls : Array Slot) (H : Heap) (locs : List Loc), lv_has ls 3 [(0, .ref (ad 0)), (1, .int x1), (2, .int x2_23_7)] → wH WM ad D cy s σ23_7 H locs → W p l e { frames := 1, cells := 0, slots := 0, locals := 100 } s m [.ref (ad 0), .int x1].toArray below meth c H locs 0 0 (MQ below (wQv WM ad D cy res) [.ref (ad 0), .int x1].toArray s 0 0 (wA WM ad)) (F0 m 23 ls []) := by
    intro n
    induction n with
    | zero =>
      intro σ23_7 x2_23_7 hf ls H locs hl hw
      exact (lp_zero hf).elim
    | succ n ih23_7 =>
      intro σ23_7 x2_23_7 hf ls H locs hl hw
      obtain ⟨q23_7, hf, hz23_7⟩ := lp_succ hf
      rw [est23_7] at hf
      replace hf := un2_some hf
      refine lv_iload_n hx hb dX11_plain_23 rfl (lv_at hl 2 rfl) ?_
      refine lv_iconst (v := 4) hx hb dX11_plain_24 (by decide) ?_
      refine lv_icmp_ge (tgt := 56) hx hb dX11_plain_25 (by decide) (fun c8 => ?_) (fun c8 => ?_)
      · have hf := (if_pos c8).symm.trans hf
        exact hx23_7 σ23_7 (lpK_inr (lp_leaf hf hz23_7)) ls H locs (lv_sub hl [] rfl) hw
      · have hf := (if_neg c8).symm.trans hf
        refine lv_aload_n hx hb dX11_plain_28 rfl (lv_at hl 0 rfl) ?_
        refine gX11_27 (b := 14) X hw sM0 nM0 rfl fl_X11_58 dX11_plain_29 ?_
        refine lv_iconst (v := 4) hx hb dX11_plain_32 (by decide) ?_
        refine lv_iload_n hx hb dX11_plain_33 rfl (lv_at hl 1 rfl) ?_
        refine lv_imul hx hb dX11_plain_34 ?_
        refine lv_iload_n hx hb dX11_plain_35 rfl (lv_at hl 2 rfl) ?_
        refine lv_iadd hx hb dX11_plain_36 ?_
        refine lv_iconst (v := 0) hx hb dX11_plain_37 (by decide) ?_
        obtain ⟨h9, hf⟩ := if_some hf
        obtain ⟨σ10, eσ10, hf⟩ := wlet_some hf
        refine wr_iast X hw sM14 nM14 h9 dX11_plain_38 (fun H locs hw => ?_)
        replace hw := hw.to eσ10
        refine lv_aload_n hx hb dX11_plain_39 rfl (lv_at hl 0 rfl) ?_
        refine gX11_28 (b := 15) X hw sM0 nM0 rfl fl_X11_61 dX11_plain_40 ?_
        refine lv_iconst (v := 4) hx hb dX11_plain_43 (by decide) ?_
        refine lv_iload_n hx hb dX11_plain_44 rfl (lv_at hl 1 rfl) ?_
        refine lv_imul hx hb dX11_plain_45 ?_
        refine lv_iload_n hx hb dX11_plain_46 rfl (lv_at hl 2 rfl) ?_
        refine lv_iadd hx hb dX11_plain_47 ?_
        refine lv_iconst (v := 0) hx hb dX11_plain_48 (by decide) ?_
        obtain ⟨h11, hf⟩ := if_some hf
        obtain ⟨σ12, eσ12, hf⟩ := wlet_some hf
        refine wr_iast X hw sM15 nM15 h11 dX11_plain_49 (fun H locs hw => ?_)
        replace hw := hw.to eσ12
        obtain ⟨v13, ev13, hf⟩ := wlet_some hf
        refine lv_iinc (v := v13) (lv' := [(2, .int v13), (0, .ref (ad 0)), (1, .int x1)]) hx hb dX11_plain_50 hl (k := 2) rfl (by rw [ev13]; rfl) (by decide) rfl (fun ls hl => ?_)
        refine lv_goto (tgt := 23) hx hb dX11_plain_53 (by decide) ?_
        exact ih23_7 σ12 v13 (lp_leaf hf hz23_7) ls H locs (lv_sub hl [1, 2, 0] rfl) hw
  exact lo23_7 fuel σ6 (0 : Int32) hq23_7 ls H locs (lv_sub hl [1, 2, 0] rfl) hw

def f_X11_deedAt (σ : St) (x1 : Int32) : Option (Int32) := if ib (((7 : Int32) * (σ.1 0 18)) + x1) 14 = true then some (σ.1 10 (Int32.toNatClampNeg (((7 : Int32) * (σ.1 0 18)) + x1))) else none
theorem hd_X11_deedAt : yX11_deedAt.cls = RX11 ∧ yX11_deedAt.cls ≠ "java/lang/invoke/MethodHandle" ∧ yX11_deedAt.cls ≠ "java/lang/invoke/VarHandle" ∧ (parseMethodDescriptor yX11_deedAt.desc).map (fun d => d.parameters.length) = some 1 := by decide +kernel
set_option maxRecDepth 100000 in
set_option maxHeartbeats 4000000 in
theorem k_X11_deedAt {l : Launch} {ad : Nat → Nat} {D : va_G} {cy : Nat → ClassId} {z : wStr} (hI : wI WM ad) {σ : St} {x1 : Int32}  {res : Int32} (hf : f_X11_deedAt σ x1 = some res) : wC WM ad D cy z l yX11_deedAt (Cond.code yX11_deedAt cX11_deedAt 2 (Option.some Jvm.ClassFile.FieldType.int) :: aw) (1) (100) [.ref (ad 0), .int x1] σ (wQi WM ad D cy res σ) := by
  unfold f_X11_deedAt at hf
  refine wr_start (own := RX11) hI (by decide +kernel) rfl (Nat.le_of_ble_eq_true rfl) rfl ?_
  intro p e s m below meth c ls X hw hr hl
  have hx := X.hx
  have hb := X.hb
  obtain ⟨H, eH⟩ : ∃ H : Heap, H = s.heap := ⟨_, rfl⟩
  obtain ⟨locs, el⟩ : ∃ locs : List Loc, locs = [] := ⟨_, rfl⟩
  rw [← eH, ← el] at hw ⊢
  clear eH el
  replace hl : lv_has ls 2 [(0, .ref (ad 0)), (1, .int x1)] := hl
  refine lv_aload_n hx hb dX11_deedAt_0 rfl (lv_at hl 0 rfl) ?_
  refine gX11_23 (b := 10) X hw sM0 nM0 rfl fl_X11_46 dX11_deedAt_1 ?_
  refine lv_bipush (v := 7) hx hb dX11_deedAt_4 (by decide) ?_
  refine lv_aload_n hx hb dX11_deedAt_6 rfl (lv_at hl 0 rfl) ?_
  refine gX11_18 X hw sM0 nM0 fl_X11_212 dX11_deedAt_7 ?_
  refine lv_imul hx hb dX11_deedAt_10 ?_
  refine lv_iload_n hx hb dX11_deedAt_11 rfl (lv_at hl 1 rfl) ?_
  refine lv_iadd hx hb dX11_deedAt_12 ?_
  obtain ⟨h1, hf⟩ := if_some hf
  refine wr_iald X hw sM10 nM10 h1 dX11_deedAt_13 ?_
  have er := Option.some.inj hf
  subst er
  exact wr_iret X hw hr (Or.inl rfl) dX11_deedAt_14

def f_X11_termOf (σ : St) (x1 : Int32) (x2 : Int32) : Option (Int32 × St) := wlet (un3 (fun (σ5_1 : St) (x3_5_1 : Int32) (x4_5_1 : Int32) => if x2 ≤ x4_5_1 then (some (.inr (.inl σ5_1))) else (if ib x4_5_1 840 = true then wlet (σ5_1.1 21 (Int32.toNatClampNeg x4_5_1)) fun v5 => if (2 : Int32) ≤ v5 then (wlet (x3_5_1 + (-1 : Int32)) fun v7 => if ib (v7 - (1 : Int32)) 400 = true then wlet (σ5_1.1 25 (Int32.toNatClampNeg (v7 - (1 : Int32)))) fun v9 => if ib v7 400 = true then wlet (σ5_1.1 25 (Int32.toNatClampNeg v7)) fun v11 => wlet (fun (_ : Unit) => (if v5 = (2 : Int32) then (if ib (v7 - (1 : Int32)) 400 = true then wlet (si σ5_1 25 (Int32.toNatClampNeg (v7 - (1 : Int32))) (v9 + v11)) fun σ27 => wlet (x4_5_1 + (1 : Int32)) fun v28 => some (.inl (σ27, v7, v28)) else none) else (if v5 = (3 : Int32) then (if ib (v7 - (1 : Int32)) 400 = true then wlet (si σ5_1 25 (Int32.toNatClampNeg (v7 - (1 : Int32))) (v9 - v11)) fun σ24 => wlet (x4_5_1 + (1 : Int32)) fun v25 => some (.inl (σ24, v7, v25)) else none) else (if v5 = (4 : Int32) then (if ib (v7 - (1 : Int32)) 400 = true then wlet (si σ5_1 25 (Int32.toNatClampNeg (v7 - (1 : Int32))) (v9 * v11)) fun σ21 => wlet (x4_5_1 + (1 : Int32)) fun v22 => some (.inl (σ21, v7, v22)) else none) else (if v11 = 0 then none else (if ib (v7 - (1 : Int32)) 400 = true then wlet (si σ5_1 25 (Int32.toNatClampNeg (v7 - (1 : Int32))) (v9 / v11)) fun σ18 => wlet (x4_5_1 + (1 : Int32)) fun v19 => some (.inl (σ18, v7, v19)) else none)))) : Option ((St × Int32 × Int32) ⊕ ((St) ⊕ (Int32 × St))))) fun k104_12 => if v5 = (5 : Int32) then (if v11 = 0 then (wlet (si σ5_1 0 42 (1 : Int32)) fun σ31 => some (.inr (.inr ((0 : Int32), σ31)))) else (k104_12 ())) else (k104_12 ()) else none else none) else (if v5 = 0 then (if ib x4_5_1 840 = true then if ib x3_5_1 400 = true then wlet (si σ5_1 25 (Int32.toNatClampNeg x3_5_1) (σ5_1.1 22 (Int32.toNatClampNeg x4_5_1))) fun σ41 => wlet (x3_5_1 + (1 : Int32)) fun v42 => wlet (x4_5_1 + (1 : Int32)) fun v43 => some (.inl (σ41, v42, v43)) else none else none) else (if ib x4_5_1 840 = true then if ib (σ5_1.1 22 (Int32.toNatClampNeg x4_5_1)) 9 = true then if ib x3_5_1 400 = true then wlet (si σ5_1 25 (Int32.toNatClampNeg x3_5_1) (σ5_1.1 24 (Int32.toNatClampNeg (σ5_1.1 22 (Int32.toNatClampNeg x4_5_1))))) fun σ36 => wlet (x3_5_1 + (1 : Int32)) fun v37 => wlet (x4_5_1 + (1 : Int32)) fun v38 => some (.inl (σ36, v37, v38)) else none else none else none)) else none)) : St × Int32 × Int32 → Option ((St × Int32 × Int32) ⊕ ((St) ⊕ (Int32 × St)))) fun st5_1 => Option.bind (lp st5_1 fuel (σ, (0 : Int32), x1)) (sumk (fun (σe5_1 : St) => if ib (0 : Int32) 400 = true then some ((σe5_1.1 25 (Int32.toNatClampNeg (0 : Int32))), σe5_1) else none) (fun m => some m))
theorem hd_X11_termOf : yX11_termOf.cls = RX11 ∧ yX11_termOf.cls ≠ "java/lang/invoke/MethodHandle" ∧ yX11_termOf.cls ≠ "java/lang/invoke/VarHandle" ∧ (parseMethodDescriptor yX11_termOf.desc).map (fun d => d.parameters.length) = some 2 := by decide +kernel
set_option maxRecDepth 100000 in
set_option maxHeartbeats 4000000 in
theorem k_X11_termOf {l : Launch} {ad : Nat → Nat} {D : va_G} {cy : Nat → ClassId} {z : wStr} (hI : wI WM ad) {σ : St} {x1 : Int32} {x2 : Int32}  {res : Int32 × St} (hf : f_X11_termOf σ x1 x2 = some res) : wC WM ad D cy z l yX11_termOf (Cond.code yX11_termOf cX11_termOf 8 (Option.some Jvm.ClassFile.FieldType.int) :: aw) (1) (100) [.ref (ad 0), .int x1, .int x2] σ (wQi WM ad D cy res.1 res.2) := by
  unfold f_X11_termOf at hf
  refine wr_start (own := RX11) hI (by decide +kernel) rfl (Nat.le_of_ble_eq_true rfl) rfl ?_
  intro p e s m below meth c ls X hw hr hl
  have hx := X.hx
  have hb := X.hb
  obtain ⟨H, eH⟩ : ∃ H : Heap, H = s.heap := ⟨_, rfl⟩
  obtain ⟨locs, el⟩ : ∃ locs : List Loc, locs = [] := ⟨_, rfl⟩
  rw [← eH, ← el] at hw ⊢
  clear eH el
  replace hl : lv_has ls 8 [(0, .ref (ad 0)), (1, .int x1), (2, .int x2)] := hl
  refine lv_iconst (v := 0) hx hb dX11_termOf_0 (by decide) ?_
  refine lv_istore_n (lv' := [(3, .int (0 : Int32)), (0, .ref (ad 0)), (1, .int x1), (2, .int x2)]) hx hb dX11_termOf_1 rfl hl (by decide) rfl (fun ls hl => ?_)
  refine lv_iload_n hx hb dX11_termOf_2 rfl (lv_at hl 2 rfl) ?_
  refine lv_istore (lv' := [(4, .int x1), (3, .int (0 : Int32)), (0, .ref (ad 0)), (1, .int x1), (2, .int x2)]) hx hb dX11_termOf_3 hl (by decide) rfl (fun ls hl => ?_)
  obtain ⟨st5_1, est5_1, hf⟩ := wlet_some hf
  obtain ⟨E5_1, hq5_1, hE5_1⟩ := bind_some hf
  have hx5_1 : ∀ (σe5_1 : St) (_ : Sum.inl σe5_1 = E5_1) (ls : Array Slot) (H : Heap) (locs : List Loc), lv_has ls 8 [(0, .ref (ad 0))] → wH WM ad D cy s σe5_1 H locs → W p l e { frames := 1, cells := 0, slots := 0, locals := 100 } s m [.ref (ad 0), .int x1, .int x2].toArray below meth c H locs 0 0 (MQ below (wQi WM ad D cy res.1 res.2) [.ref (ad 0), .int x1, .int x2].toArray s 0 0 (wA WM ad)) (F0 m 165 ls []) := by
    intro σe5_1 e0 ls H locs hl hw
    have hf := sumk_l hE5_1 e0
    refine lv_aload_n hx hb dX11_termOf_165 rfl (lv_at hl 0 rfl) ?_
    refine gX11_41 (b := 25) X hw sM0 nM0 rfl fl_X11_92 dX11_termOf_166 ?_
    refine lv_iconst (v := 0) hx hb dX11_termOf_169 (by decide) ?_
    obtain ⟨h2, hf⟩ := if_some hf
    refine wr_iald X hw sM25 nM25 h2 dX11_termOf_170 ?_
    have er := Option.some.inj hf
    subst er
    exact wr_iret X hw hr (Or.inl rfl) dX11_termOf_171
  have lo5_1 : ∀ (n : Nat) (σ5_1 : St) (x3_5_1 : Int32) (x4_5_1 : Int32) (_ : lp st5_1 n (σ5_1, x3_5_1, x4_5_1) = some E5_1) (ls : Array Slot) (H : Heap) (locs : List Loc), lv_has ls 8 [(0, .ref (ad 0)), (2, .int x2), (3, .int x3_5_1), (4, .int x4_5_1)] → wH WM ad D cy s σ5_1 H locs → W p l e { frames := 1, cells := 0, slots := 0, locals := 100 } s m [.ref (ad 0), .int x1, .int x2].toArray below meth c H locs 0 0 (MQ below (wQi WM ad D cy res.1 res.2) [.ref (ad 0), .int x1, .int x2].toArray s 0 0 (wA WM ad)) (F0 m 5 ls []) := by
    intro n
    induction n with
    | zero =>
      intro σ5_1 x3_5_1 x4_5_1 hf ls H locs hl hw
      exact (lp_zero hf).elim
    | succ n ih5_1 =>
      intro σ5_1 x3_5_1 x4_5_1 hf ls H locs hl hw
      obtain ⟨q5_1, hf, hz5_1⟩ := lp_succ hf
      rw [est5_1] at hf
      replace hf := un3_some hf
      refine lv_iload hx hb dX11_termOf_5 (lv_at hl 3 rfl) ?_
      refine lv_iload_n hx hb dX11_termOf_7 rfl (lv_at hl 1 rfl) ?_
      refine lv_icmp_ge (tgt := 165) hx hb dX11_termOf_8 (by decide) (fun c3 => ?_) (fun c3 => ?_)
      · have hf := (if_pos c3).symm.trans hf
        exact hx5_1 σ5_1 (lpK_inr (lp_leaf hf hz5_1)) ls H locs (lv_sub hl [0] rfl) hw
      · have hf := (if_neg c3).symm.trans hf
        refine lv_aload_n hx hb dX11_termOf_11 rfl (lv_at hl 0 rfl) ?_
        refine gX11_36 (b := 21) X hw sM0 nM0 rfl fl_X11_80 dX11_termOf_12 ?_
        refine lv_iload hx hb dX11_termOf_15 (lv_at hl 3 rfl) ?_
        obtain ⟨h4, hf⟩ := if_some hf
        refine wr_iald X hw sM21 nM21 h4 dX11_termOf_17 ?_
        obtain ⟨v5, ev5, hf⟩ := wlet_some hf
        refine wr_top ev5 ?_
        refine lv_istore (lv' := [(5, .int v5), (0, .ref (ad 0)), (2, .int x2), (3, .int x3_5_1), (4, .int x4_5_1)]) hx hb dX11_termOf_18 hl (by decide) rfl (fun ls hl => ?_)
        refine lv_iload hx hb dX11_termOf_20 (lv_at hl 0 rfl) ?_
        refine lv_iconst (v := 2) hx hb dX11_termOf_22 (by decide) ?_
        refine lv_icmp_ge (tgt := 65) hx hb dX11_termOf_23 (by decide) (fun c6 => ?_) (fun c6 => ?_)
        · have hf := (if_pos c6).symm.trans hf
          obtain ⟨v7, ev7, hf⟩ := wlet_some hf
          refine lv_iinc (v := v7) (lv' := [(3, .int v7), (5, .int v5), (0, .ref (ad 0)), (2, .int x2), (4, .int x4_5_1)]) hx hb dX11_termOf_65 hl (k := 3) rfl (by rw [ev7]; rfl) (by decide) rfl (fun ls hl => ?_)
          refine lv_aload_n hx hb dX11_termOf_68 rfl (lv_at hl 2 rfl) ?_
          refine gX11_41 (b := 25) X hw sM0 nM0 rfl fl_X11_92 dX11_termOf_69 ?_
          refine lv_iload_n hx hb dX11_termOf_72 rfl (lv_at hl 0 rfl) ?_
          refine lv_iconst (v := 1) hx hb dX11_termOf_73 (by decide) ?_
          refine lv_isub hx hb dX11_termOf_74 ?_
          obtain ⟨h8, hf⟩ := if_some hf
          refine wr_iald X hw sM25 nM25 h8 dX11_termOf_75 ?_
          obtain ⟨v9, ev9, hf⟩ := wlet_some hf
          refine wr_top ev9 ?_
          refine lv_istore (lv' := [(6, .int v9), (3, .int v7), (5, .int v5), (0, .ref (ad 0)), (2, .int x2), (4, .int x4_5_1)]) hx hb dX11_termOf_76 hl (by decide) rfl (fun ls hl => ?_)
          refine lv_aload_n hx hb dX11_termOf_78 rfl (lv_at hl 3 rfl) ?_
          refine gX11_41 (b := 25) X hw sM0 nM0 rfl fl_X11_92 dX11_termOf_79 ?_
          refine lv_iload_n hx hb dX11_termOf_82 rfl (lv_at hl 1 rfl) ?_
          obtain ⟨h10, hf⟩ := if_some hf
          refine wr_iald X hw sM25 nM25 h10 dX11_termOf_83 ?_
          obtain ⟨v11, ev11, hf⟩ := wlet_some hf
          refine wr_top ev11 ?_
          refine lv_istore (lv' := [(7, .int v11), (6, .int v9), (3, .int v7), (5, .int v5), (0, .ref (ad 0)), (2, .int x2), (4, .int x4_5_1)]) hx hb dX11_termOf_84 hl (by decide) rfl (fun ls hl => ?_)
          refine lv_iload hx hb dX11_termOf_86 (lv_at hl 3 rfl) ?_
          refine lv_iconst (v := 5) hx hb dX11_termOf_88 (by decide) ?_
          obtain ⟨k104_12, ek104_12, hf0⟩ := wlet_some hf
          have j104_12 : ∀ (_ : k104_12 () = some q5_1) (ls : Array Slot) (H : Heap) (locs : List Loc), lv_has ls 8 [(0, .ref (ad 0)), (2, .int x2), (3, .int v7), (4, .int x4_5_1), (5, .int v5), (6, .int v9), (7, .int v11)] → wH WM ad D cy s σ5_1 H locs → W p l e { frames := 1, cells := 0, slots := 0, locals := 100 } s m [.ref (ad 0), .int x1, .int x2].toArray below meth c H locs 0 0 (MQ below (wQi WM ad D cy res.1 res.2) [.ref (ad 0), .int x1, .int x2].toArray s 0 0 (wA WM ad)) (F0 m 104 ls []) := by
            intro  hf ls H locs hl hw
            rw [ek104_12] at hf
            refine lv_aload_n hx hb dX11_termOf_104 rfl (lv_at hl 0 rfl) ?_
            refine gX11_41 (b := 25) X hw sM0 nM0 rfl fl_X11_92 dX11_termOf_105 ?_
            refine lv_iload_n hx hb dX11_termOf_108 rfl (lv_at hl 2 rfl) ?_
            refine lv_iconst (v := 1) hx hb dX11_termOf_109 (by decide) ?_
            refine lv_isub hx hb dX11_termOf_110 ?_
            refine lv_iload hx hb dX11_termOf_111 (lv_at hl 4 rfl) ?_
            refine lv_iconst (v := 2) hx hb dX11_termOf_113 (by decide) ?_
            refine lv_icmp_ne (tgt := 125) hx hb dX11_termOf_114 (by decide) (fun c13 => ?_) (fun c13 => ?_)
            · have hf := (if_neg c13).symm.trans hf
              refine lv_iload hx hb dX11_termOf_125 (lv_at hl 4 rfl) ?_
              refine lv_iconst (v := 3) hx hb dX11_termOf_127 (by decide) ?_
              refine lv_icmp_ne (tgt := 139) hx hb dX11_termOf_128 (by decide) (fun c14 => ?_) (fun c14 => ?_)
              · have hf := (if_neg c14).symm.trans hf
                refine lv_iload hx hb dX11_termOf_139 (lv_at hl 4 rfl) ?_
                refine lv_iconst (v := 4) hx hb dX11_termOf_141 (by decide) ?_
                refine lv_icmp_ne (tgt := 153) hx hb dX11_termOf_142 (by decide) (fun c15 => ?_) (fun c15 => ?_)
                · have hf := (if_neg c15).symm.trans hf
                  refine lv_iload hx hb dX11_termOf_153 (lv_at hl 5 rfl) ?_
                  refine lv_iload hx hb dX11_termOf_155 (lv_at hl 6 rfl) ?_
                  obtain ⟨h16, hf⟩ := ifn_some hf
                  refine lv_idiv hx hb dX11_termOf_157 h16 ?_
                  obtain ⟨h17, hf⟩ := if_some hf
                  obtain ⟨σ18, eσ18, hf⟩ := wlet_some hf
                  refine wr_iast X hw sM25 nM25 h17 dX11_termOf_158 (fun H locs hw => ?_)
                  replace hw := hw.to eσ18
                  obtain ⟨v19, ev19, hf⟩ := wlet_some hf
                  refine lv_iinc (v := v19) (lv' := [(4, .int v19), (0, .ref (ad 0)), (2, .int x2), (3, .int v7), (5, .int v5), (6, .int v9), (7, .int v11)]) hx hb dX11_termOf_159 hl (k := 3) rfl (by rw [ev19]; rfl) (by decide) rfl (fun ls hl => ?_)
                  refine lv_goto (tgt := 5) hx hb dX11_termOf_162 (by decide) ?_
                  exact ih5_1 σ18 v7 v19 (lp_leaf hf hz5_1) ls H locs (lv_sub hl [1, 2, 3, 0] rfl) hw
                · have hf := (if_pos c15).symm.trans hf
                  refine lv_iload hx hb dX11_termOf_145 (lv_at hl 5 rfl) ?_
                  refine lv_iload hx hb dX11_termOf_147 (lv_at hl 6 rfl) ?_
                  refine lv_imul hx hb dX11_termOf_149 ?_
                  refine lv_goto (tgt := 158) hx hb dX11_termOf_150 (by decide) ?_
                  obtain ⟨h20, hf⟩ := if_some hf
                  obtain ⟨σ21, eσ21, hf⟩ := wlet_some hf
                  refine wr_iast X hw sM25 nM25 h20 dX11_termOf_158 (fun H locs hw => ?_)
                  replace hw := hw.to eσ21
                  obtain ⟨v22, ev22, hf⟩ := wlet_some hf
                  refine lv_iinc (v := v22) (lv' := [(4, .int v22), (0, .ref (ad 0)), (2, .int x2), (3, .int v7), (5, .int v5), (6, .int v9), (7, .int v11)]) hx hb dX11_termOf_159 hl (k := 3) rfl (by rw [ev22]; rfl) (by decide) rfl (fun ls hl => ?_)
                  refine lv_goto (tgt := 5) hx hb dX11_termOf_162 (by decide) ?_
                  exact ih5_1 σ21 v7 v22 (lp_leaf hf hz5_1) ls H locs (lv_sub hl [1, 2, 3, 0] rfl) hw
              · have hf := (if_pos c14).symm.trans hf
                refine lv_iload hx hb dX11_termOf_131 (lv_at hl 5 rfl) ?_
                refine lv_iload hx hb dX11_termOf_133 (lv_at hl 6 rfl) ?_
                refine lv_isub hx hb dX11_termOf_135 ?_
                refine lv_goto (tgt := 158) hx hb dX11_termOf_136 (by decide) ?_
                obtain ⟨h23, hf⟩ := if_some hf
                obtain ⟨σ24, eσ24, hf⟩ := wlet_some hf
                refine wr_iast X hw sM25 nM25 h23 dX11_termOf_158 (fun H locs hw => ?_)
                replace hw := hw.to eσ24
                obtain ⟨v25, ev25, hf⟩ := wlet_some hf
                refine lv_iinc (v := v25) (lv' := [(4, .int v25), (0, .ref (ad 0)), (2, .int x2), (3, .int v7), (5, .int v5), (6, .int v9), (7, .int v11)]) hx hb dX11_termOf_159 hl (k := 3) rfl (by rw [ev25]; rfl) (by decide) rfl (fun ls hl => ?_)
                refine lv_goto (tgt := 5) hx hb dX11_termOf_162 (by decide) ?_
                exact ih5_1 σ24 v7 v25 (lp_leaf hf hz5_1) ls H locs (lv_sub hl [1, 2, 3, 0] rfl) hw
            · have hf := (if_pos c13).symm.trans hf
              refine lv_iload hx hb dX11_termOf_117 (lv_at hl 5 rfl) ?_
              refine lv_iload hx hb dX11_termOf_119 (lv_at hl 6 rfl) ?_
              refine lv_iadd hx hb dX11_termOf_121 ?_
              refine lv_goto (tgt := 158) hx hb dX11_termOf_122 (by decide) ?_
              obtain ⟨h26, hf⟩ := if_some hf
              obtain ⟨σ27, eσ27, hf⟩ := wlet_some hf
              refine wr_iast X hw sM25 nM25 h26 dX11_termOf_158 (fun H locs hw => ?_)
              replace hw := hw.to eσ27
              obtain ⟨v28, ev28, hf⟩ := wlet_some hf
              refine lv_iinc (v := v28) (lv' := [(4, .int v28), (0, .ref (ad 0)), (2, .int x2), (3, .int v7), (5, .int v5), (6, .int v9), (7, .int v11)]) hx hb dX11_termOf_159 hl (k := 3) rfl (by rw [ev28]; rfl) (by decide) rfl (fun ls hl => ?_)
              refine lv_goto (tgt := 5) hx hb dX11_termOf_162 (by decide) ?_
              exact ih5_1 σ27 v7 v28 (lp_leaf hf hz5_1) ls H locs (lv_sub hl [1, 2, 3, 0] rfl) hw
          replace hf := hf0
          refine lv_icmp_ne (tgt := 104) hx hb dX11_termOf_89 (by decide) (fun c29 => ?_) (fun c29 => ?_)
          · have hf := (if_neg c29).symm.trans hf
            exact j104_12 hf ls H locs (lv_sub hl [4, 5, 2, 6, 3, 1, 0] rfl) hw
          · have hf := (if_pos c29).symm.trans hf
            refine lv_iload hx hb dX11_termOf_92 (lv_at hl 0 rfl) ?_
            refine lv_if_ne (tgt := 104) hx hb dX11_termOf_94 (by decide) (fun c30 => ?_) (fun c30 => ?_)
            · have hf := (if_neg c30).symm.trans hf
              exact j104_12 hf ls H locs (lv_sub hl [4, 5, 2, 6, 3, 1, 0] rfl) hw
            · have hf := (if_pos c30).symm.trans hf
              refine lv_aload_n hx hb dX11_termOf_97 rfl (lv_at hl 4 rfl) ?_
              refine lv_iconst (v := 1) hx hb dX11_termOf_98 (by decide) ?_
              obtain ⟨σ31, eσ31, hf⟩ := wlet_some hf
              refine pX11_42 X hw sM0 nM0 (show bz (1 : Int32) = true from rfl) fl_X11_278 dX11_termOf_99 (fun H locs hw => ?_)
              replace hw := hw.to eσ31
              refine lv_iconst (v := 0) hx hb dX11_termOf_102 (by decide) ?_
              have e5_1 := lpK_inr (lp_leaf hf hz5_1)
              have hf := sumk_r hE5_1 e5_1
              have er := Option.some.inj hf
              subst er
              exact wr_iret X hw hr (Or.inl rfl) dX11_termOf_103
        · have hf := (if_neg c6).symm.trans hf
          refine lv_aload_n hx hb dX11_termOf_26 rfl (lv_at hl 1 rfl) ?_
          refine gX11_41 (b := 25) X hw sM0 nM0 rfl fl_X11_92 dX11_termOf_27 ?_
          refine lv_iload_n hx hb dX11_termOf_30 rfl (lv_at hl 3 rfl) ?_
          refine lv_iload hx hb dX11_termOf_31 (lv_at hl 0 rfl) ?_
          refine lv_if_ne (tgt := 46) hx hb dX11_termOf_33 (by decide) (fun c32 => ?_) (fun c32 => ?_)
          · have hf := (if_neg c32).symm.trans hf
            refine lv_aload_n hx hb dX11_termOf_46 rfl (lv_at hl 1 rfl) ?_
            refine gX11_40 (b := 24) X hw sM0 nM0 rfl fl_X11_89 dX11_termOf_47 ?_
            refine lv_aload_n hx hb dX11_termOf_50 rfl (lv_at hl 1 rfl) ?_
            refine gX11_37 (b := 22) X hw sM0 nM0 rfl fl_X11_83 dX11_termOf_51 ?_
            refine lv_iload hx hb dX11_termOf_54 (lv_at hl 4 rfl) ?_
            obtain ⟨h33, hf⟩ := if_some hf
            refine wr_iald X hw sM22 nM22 h33 dX11_termOf_56 ?_
            obtain ⟨h34, hf⟩ := if_some hf
            refine wr_iald X hw sM24 nM24 h34 dX11_termOf_57 ?_
            obtain ⟨h35, hf⟩ := if_some hf
            obtain ⟨σ36, eσ36, hf⟩ := wlet_some hf
            refine wr_iast X hw sM25 nM25 h35 dX11_termOf_58 (fun H locs hw => ?_)
            replace hw := hw.to eσ36
            obtain ⟨v37, ev37, hf⟩ := wlet_some hf
            refine lv_iinc (v := v37) (lv' := [(3, .int v37), (5, .int v5), (0, .ref (ad 0)), (2, .int x2), (4, .int x4_5_1)]) hx hb dX11_termOf_59 hl (k := 3) rfl (by rw [ev37]; rfl) (by decide) rfl (fun ls hl => ?_)
            refine lv_goto (tgt := 159) hx hb dX11_termOf_62 (by decide) ?_
            obtain ⟨v38, ev38, hf⟩ := wlet_some hf
            refine lv_iinc (v := v38) (lv' := [(4, .int v38), (3, .int v37), (5, .int v5), (0, .ref (ad 0)), (2, .int x2)]) hx hb dX11_termOf_159 hl (k := 4) rfl (by rw [ev38]; rfl) (by decide) rfl (fun ls hl => ?_)
            refine lv_goto (tgt := 5) hx hb dX11_termOf_162 (by decide) ?_
            exact ih5_1 σ36 v37 v38 (lp_leaf hf hz5_1) ls H locs (lv_sub hl [3, 4, 1, 0] rfl) hw
          · have hf := (if_pos c32).symm.trans hf
            refine lv_aload_n hx hb dX11_termOf_36 rfl (lv_at hl 1 rfl) ?_
            refine gX11_37 (b := 22) X hw sM0 nM0 rfl fl_X11_83 dX11_termOf_37 ?_
            refine lv_iload hx hb dX11_termOf_40 (lv_at hl 4 rfl) ?_
            obtain ⟨h39, hf⟩ := if_some hf
            refine wr_iald X hw sM22 nM22 h39 dX11_termOf_42 ?_
            refine lv_goto (tgt := 58) hx hb dX11_termOf_43 (by decide) ?_
            obtain ⟨h40, hf⟩ := if_some hf
            obtain ⟨σ41, eσ41, hf⟩ := wlet_some hf
            refine wr_iast X hw sM25 nM25 h40 dX11_termOf_58 (fun H locs hw => ?_)
            replace hw := hw.to eσ41
            obtain ⟨v42, ev42, hf⟩ := wlet_some hf
            refine lv_iinc (v := v42) (lv' := [(3, .int v42), (5, .int v5), (0, .ref (ad 0)), (2, .int x2), (4, .int x4_5_1)]) hx hb dX11_termOf_59 hl (k := 3) rfl (by rw [ev42]; rfl) (by decide) rfl (fun ls hl => ?_)
            refine lv_goto (tgt := 159) hx hb dX11_termOf_62 (by decide) ?_
            obtain ⟨v43, ev43, hf⟩ := wlet_some hf
            refine lv_iinc (v := v43) (lv' := [(4, .int v43), (3, .int v42), (5, .int v5), (0, .ref (ad 0)), (2, .int x2)]) hx hb dX11_termOf_159 hl (k := 4) rfl (by rw [ev43]; rfl) (by decide) rfl (fun ls hl => ?_)
            refine lv_goto (tgt := 5) hx hb dX11_termOf_162 (by decide) ?_
            exact ih5_1 σ41 v42 v43 (lp_leaf hf hz5_1) ls H locs (lv_sub hl [3, 4, 1, 0] rfl) hw
  exact lo5_1 fuel σ (0 : Int32) x1 hq5_1 ls H locs (lv_sub hl [2, 4, 1, 0] rfl) hw

def f_X11_lawTells (σ : St) (x1 : Int32) (x2 : Int32) : Option (Int32 × St) := wlet (((4 : Int32) * (σ.1 0 18)) + x1) fun v1 => if ib v1 8 = true then if ib v1 8 = true then if (σ.1 14 (Int32.toNatClampNeg v1)) = (σ.1 15 (Int32.toNatClampNeg v1)) then (some (x2, σ)) else (wlet (si σ 0 42 (0 : Int32)) fun σ5 => if ib v1 8 = true then wlet (σ5.1 14 (Int32.toNatClampNeg v1)) fun v7 => wlet (un2 (fun (σ39_8 : St) (x4_39_8 : Int32) => if ib v1 8 = true then if (σ39_8.1 15 (Int32.toNatClampNeg v1)) ≤ x4_39_8 then (some (.inr (.inl σ39_8))) else (if ib x4_39_8 260 = true then wlet (fun (σ_119_12 : St) => (if ib x4_39_8 260 = true then if ib x4_39_8 260 = true then bnd2 (f_X11_termOf σ_119_12 (σ_119_12.1 19 (Int32.toNatClampNeg x4_39_8)) (σ_119_12.1 20 (Int32.toNatClampNeg x4_39_8))) fun v16 σ17 => if (σ17.1 0 42) = 0 then (some (.inr (.inr (v16, σ17)))) else (some (.inr (.inr ((0 : Int32), σ17)))) else none else none : Option ((St × Int32) ⊕ ((St) ⊕ (Int32 × St))))) fun k119_12 => if (σ39_8.1 16 (Int32.toNatClampNeg x4_39_8)) = 0 then (k119_12 σ39_8) else (if ib x4_39_8 260 = true then if ib x4_39_8 260 = true then bnd2 (f_X11_termOf σ39_8 (σ39_8.1 17 (Int32.toNatClampNeg x4_39_8)) (σ39_8.1 18 (Int32.toNatClampNeg x4_39_8))) fun v23 σ24 => if ib x4_39_8 260 = true then if ib x4_39_8 260 = true then bnd2 (f_X11_termOf σ24 (σ24.1 18 (Int32.toNatClampNeg x4_39_8)) (σ24.1 19 (Int32.toNatClampNeg x4_39_8))) fun v28 σ29 => if (σ29.1 0 42) = 0 then (if v23 < v28 then (k119_12 σ29) else (wlet (x4_39_8 + (1 : Int32)) fun v32 => some (.inl (σ29, v32)))) else (some (.inr (.inr ((0 : Int32), σ29)))) else none else none else none else none) else none) else none) : St × Int32 → Option ((St × Int32) ⊕ ((St) ⊕ (Int32 × St)))) fun st39_8 => Option.bind (lp st39_8 fuel (σ5, v7)) (sumk (fun (σe39_8 : St) => some ((0 : Int32), σe39_8)) (fun m => some m)) else none) else none else none
theorem hd_X11_lawTells : yX11_lawTells.cls = RX11 ∧ yX11_lawTells.cls ≠ "java/lang/invoke/MethodHandle" ∧ yX11_lawTells.cls ≠ "java/lang/invoke/VarHandle" ∧ (parseMethodDescriptor yX11_lawTells.desc).map (fun d => d.parameters.length) = some 2 := by decide +kernel
set_option maxRecDepth 100000 in
set_option maxHeartbeats 4000000 in
theorem k_X11_lawTells {l : Launch} {ad : Nat → Nat} {D : va_G} {cy : Nat → ClassId} {z : wStr} (hI : wI WM ad) {σ : St} {x1 : Int32} {x2 : Int32}  {res : Int32 × St} (hf : f_X11_lawTells σ x1 x2 = some res) : wC WM ad D cy z l yX11_lawTells (Cond.code yX11_lawTells cX11_lawTells 7 (Option.some Jvm.ClassFile.FieldType.int) :: aw) (2) (127) [.ref (ad 0), .int x1, .int x2] σ (wQi WM ad D cy res.1 res.2) := by
  unfold f_X11_lawTells at hf
  refine wr_start (own := RX11) hI (by decide +kernel) rfl (Nat.le_of_ble_eq_true rfl) rfl ?_
  intro p e s m below meth c ls X hw hr hl
  have hx := X.hx
  have hb := X.hb
  obtain ⟨H, eH⟩ : ∃ H : Heap, H = s.heap := ⟨_, rfl⟩
  obtain ⟨locs, el⟩ : ∃ locs : List Loc, locs = [] := ⟨_, rfl⟩
  rw [← eH, ← el] at hw ⊢
  clear eH el
  replace hl : lv_has ls 7 [(0, .ref (ad 0)), (1, .int x1), (2, .int x2)] := hl
  refine lv_iconst (v := 4) hx hb dX11_lawTells_0 (by decide) ?_
  refine lv_aload_n hx hb dX11_lawTells_1 rfl (lv_at hl 0 rfl) ?_
  refine gX11_18 X hw sM0 nM0 fl_X11_212 dX11_lawTells_2 ?_
  refine lv_imul hx hb dX11_lawTells_5 ?_
  refine lv_iload_n hx hb dX11_lawTells_6 rfl (lv_at hl 1 rfl) ?_
  refine lv_iadd hx hb dX11_lawTells_7 ?_
  obtain ⟨v1, ev1, hf⟩ := wlet_some hf
  refine wr_top ev1 ?_
  refine lv_istore_n (lv' := [(3, .int v1), (0, .ref (ad 0)), (1, .int x1), (2, .int x2)]) hx hb dX11_lawTells_8 rfl hl (by decide) rfl (fun ls hl => ?_)
  refine lv_aload_n hx hb dX11_lawTells_9 rfl (lv_at hl 1 rfl) ?_
  refine gX11_27 (b := 14) X hw sM0 nM0 rfl fl_X11_58 dX11_lawTells_10 ?_
  refine lv_iload_n hx hb dX11_lawTells_13 rfl (lv_at hl 0 rfl) ?_
  obtain ⟨h2, hf⟩ := if_some hf
  refine wr_iald X hw sM14 nM14 h2 dX11_lawTells_14 ?_
  refine lv_aload_n hx hb dX11_lawTells_15 rfl (lv_at hl 1 rfl) ?_
  refine gX11_28 (b := 15) X hw sM0 nM0 rfl fl_X11_61 dX11_lawTells_16 ?_
  refine lv_iload_n hx hb dX11_lawTells_19 rfl (lv_at hl 0 rfl) ?_
  obtain ⟨h3, hf⟩ := if_some hf
  refine wr_iald X hw sM15 nM15 h3 dX11_lawTells_20 ?_
  refine lv_icmp_ne (tgt := 26) hx hb dX11_lawTells_21 (by decide) (fun c4 => ?_) (fun c4 => ?_)
  · have hf := (if_neg c4).symm.trans hf
    refine lv_aload_n hx hb dX11_lawTells_26 rfl (lv_at hl 1 rfl) ?_
    refine lv_iconst (v := 0) hx hb dX11_lawTells_27 (by decide) ?_
    obtain ⟨σ5, eσ5, hf⟩ := wlet_some hf
    refine pX11_42 X hw sM0 nM0 (show bz (0 : Int32) = true from rfl) fl_X11_278 dX11_lawTells_28 (fun H locs hw => ?_)
    replace hw := hw.to eσ5
    refine lv_aload_n hx hb dX11_lawTells_31 rfl (lv_at hl 1 rfl) ?_
    refine gX11_27 (b := 14) X hw sM0 nM0 rfl fl_X11_58 dX11_lawTells_32 ?_
    refine lv_iload_n hx hb dX11_lawTells_35 rfl (lv_at hl 0 rfl) ?_
    obtain ⟨h6, hf⟩ := if_some hf
    refine wr_iald X hw sM14 nM14 h6 dX11_lawTells_36 ?_
    obtain ⟨v7, ev7, hf⟩ := wlet_some hf
    refine wr_top ev7 ?_
    refine lv_istore (lv' := [(4, .int v7), (3, .int v1), (0, .ref (ad 0)), (1, .int x1), (2, .int x2)]) hx hb dX11_lawTells_37 hl (by decide) rfl (fun ls hl => ?_)
    obtain ⟨st39_8, est39_8, hf⟩ := wlet_some hf
    obtain ⟨E39_8, hq39_8, hE39_8⟩ := bind_some hf
    have hx39_8 : ∀ (σe39_8 : St) (_ : Sum.inl σe39_8 = E39_8) (ls : Array Slot) (H : Heap) (locs : List Loc), lv_has ls 7 [] → wH WM ad D cy s σe39_8 H locs → W p l e { frames := 2, cells := 0, slots := 0, locals := 127 } s m [.ref (ad 0), .int x1, .int x2].toArray below meth c H locs 0 0 (MQ below (wQi WM ad D cy res.1 res.2) [.ref (ad 0), .int x1, .int x2].toArray s 0 0 (wA WM ad)) (F0 m 159 ls []) := by
      intro σe39_8 e0 ls H locs hl hw
      have hf := sumk_l hE39_8 e0
      refine lv_iconst (v := 0) hx hb dX11_lawTells_159 (by decide) ?_
      have er := Option.some.inj hf
      subst er
      exact wr_iret X hw hr (Or.inl rfl) dX11_lawTells_160
    have lo39_8 : ∀ (n : Nat) (σ39_8 : St) (x4_39_8 : Int32) (_ : lp st39_8 n (σ39_8, x4_39_8) = some E39_8) (ls : Array Slot) (H : Heap) (locs : List Loc), lv_has ls 7 [(0, .ref (ad 0)), (3, .int v1), (4, .int x4_39_8)] → wH WM ad D cy s σ39_8 H locs → W p l e { frames := 2, cells := 0, slots := 0, locals := 127 } s m [.ref (ad 0), .int x1, .int x2].toArray below meth c H locs 0 0 (MQ below (wQi WM ad D cy res.1 res.2) [.ref (ad 0), .int x1, .int x2].toArray s 0 0 (wA WM ad)) (F0 m 39 ls []) := by
      intro n
      induction n with
      | zero =>
        intro σ39_8 x4_39_8 hf ls H locs hl hw
        exact (lp_zero hf).elim
      | succ n ih39_8 =>
        intro σ39_8 x4_39_8 hf ls H locs hl hw
        obtain ⟨q39_8, hf, hz39_8⟩ := lp_succ hf
        rw [est39_8] at hf
        replace hf := un2_some hf
        refine lv_iload hx hb dX11_lawTells_39 (lv_at hl 2 rfl) ?_
        refine lv_aload_n hx hb dX11_lawTells_41 rfl (lv_at hl 0 rfl) ?_
        refine gX11_28 (b := 15) X hw sM0 nM0 rfl fl_X11_61 dX11_lawTells_42 ?_
        refine lv_iload_n hx hb dX11_lawTells_45 rfl (lv_at hl 1 rfl) ?_
        obtain ⟨h9, hf⟩ := if_some hf
        refine wr_iald X hw sM15 nM15 h9 dX11_lawTells_46 ?_
        refine lv_icmp_ge (tgt := 159) hx hb dX11_lawTells_47 (by decide) (fun c10 => ?_) (fun c10 => ?_)
        · have hf := (if_pos c10).symm.trans hf
          exact hx39_8 σ39_8 (lpK_inr (lp_leaf hf hz39_8)) ls H locs (lv_sub hl [] rfl) hw
        · have hf := (if_neg c10).symm.trans hf
          refine lv_aload_n hx hb dX11_lawTells_50 rfl (lv_at hl 0 rfl) ?_
          refine gX11_30 (b := 16) X hw sM0 nM0 rfl fl_X11_64 dX11_lawTells_51 ?_
          refine lv_iload hx hb dX11_lawTells_54 (lv_at hl 2 rfl) ?_
          obtain ⟨h11, hf⟩ := if_some hf
          refine wr_zald X hw sM16 nM16 h11 dX11_lawTells_56 ?_
          obtain ⟨k119_12, ek119_12, hf0⟩ := wlet_some hf
          have j119_12 : ∀ (σ_119_12 : St) (_ : k119_12 σ_119_12 = some q39_8) (ls : Array Slot) (H : Heap) (locs : List Loc), lv_has ls 7 [(0, .ref (ad 0)), (4, .int x4_39_8)] → wH WM ad D cy s σ_119_12 H locs → W p l e { frames := 2, cells := 0, slots := 0, locals := 127 } s m [.ref (ad 0), .int x1, .int x2].toArray below meth c H locs 0 0 (MQ below (wQi WM ad D cy res.1 res.2) [.ref (ad 0), .int x1, .int x2].toArray s 0 0 (wA WM ad)) (F0 m 119 ls []) := by
            intro σ_119_12 hf ls H locs hl hw
            rw [ek119_12] at hf
            refine lv_aload_n hx hb dX11_lawTells_119 rfl (lv_at hl 0 rfl) ?_
            refine lv_aload_n hx hb dX11_lawTells_120 rfl (lv_at hl 0 rfl) ?_
            refine gX11_33 (b := 19) X hw sM0 nM0 rfl fl_X11_74 dX11_lawTells_121 ?_
            refine lv_iload hx hb dX11_lawTells_124 (lv_at hl 1 rfl) ?_
            obtain ⟨h13, hf⟩ := if_some hf
            refine wr_iald X hw sM19 nM19 h13 dX11_lawTells_126 ?_
            refine lv_aload_n hx hb dX11_lawTells_127 rfl (lv_at hl 0 rfl) ?_
            refine gX11_34 (b := 20) X hw sM0 nM0 rfl fl_X11_77 dX11_lawTells_128 ?_
            refine lv_iload hx hb dX11_lawTells_131 (lv_at hl 1 rfl) ?_
            obtain ⟨h14, hf⟩ := if_some hf
            refine wr_iald X hw sM20 nM20 h14 dX11_lawTells_133 ?_
            obtain ⟨v16, σ17, hq15, hf⟩ := bnd2_some hf
            refine wr_cVi (r := v16) (σ' := σ17) (av := [.int (σ_119_12.1 19 (Int32.toNatClampNeg x4_39_8)), .int (σ_119_12.1 20 (Int32.toNatClampNeg x4_39_8))]) (rest := []) X hw hl.1 sM0 nM0 rfl (k_X11_termOf hI hq15) rfl ml_X11_296 im_X11_termOf se_X11_termOf ini_X11 co_X11_termOf hd_X11_termOf ⟨Nat.le_of_ble_eq_true rfl, Nat.le_of_ble_eq_true rfl⟩ (Nat.le_of_ble_eq_true rfl) dX11_lawTells_134 rfl (fun H locs hw => ?_)
            refine lv_istore (lv' := [(5, .int v16), (0, .ref (ad 0)), (4, .int x4_39_8)]) hx hb dX11_lawTells_137 hl (by decide) rfl (fun ls hl => ?_)
            refine lv_aload_n hx hb dX11_lawTells_139 rfl (lv_at hl 1 rfl) ?_
            refine gX11_42 X hw sM0 nM0 fl_X11_278 dX11_lawTells_140 ?_
            refine lv_if_eq (tgt := 150) hx hb dX11_lawTells_143 (by decide) (fun c18 => ?_) (fun c18 => ?_)
            · have hf := (if_pos c18).symm.trans hf
              refine lv_iload hx hb dX11_lawTells_150 (lv_at hl 0 rfl) ?_
              have e39_8 := lpK_inr (lp_leaf hf hz39_8)
              have hf := sumk_r hE39_8 e39_8
              have er := Option.some.inj hf
              subst er
              exact wr_iret X hw hr (Or.inl rfl) dX11_lawTells_152
            · have hf := (if_neg c18).symm.trans hf
              refine lv_iconst (v := 0) hx hb dX11_lawTells_146 (by decide) ?_
              refine lv_goto (tgt := 152) hx hb dX11_lawTells_147 (by decide) ?_
              have e39_8 := lpK_inr (lp_leaf hf hz39_8)
              have hf := sumk_r hE39_8 e39_8
              have er := Option.some.inj hf
              subst er
              exact wr_iret X hw hr (Or.inl rfl) dX11_lawTells_152
          replace hf := hf0
          refine lv_if_eq (tgt := 119) hx hb dX11_lawTells_57 (by decide) (fun c19 => ?_) (fun c19 => ?_)
          · have hf := (if_pos c19).symm.trans hf
            exact j119_12 σ39_8 hf ls H locs (lv_sub hl [0, 2] rfl) hw
          · have hf := (if_neg c19).symm.trans hf
            refine lv_aload_n hx hb dX11_lawTells_60 rfl (lv_at hl 0 rfl) ?_
            refine lv_aload_n hx hb dX11_lawTells_61 rfl (lv_at hl 0 rfl) ?_
            refine gX11_31 (b := 17) X hw sM0 nM0 rfl fl_X11_68 dX11_lawTells_62 ?_
            refine lv_iload hx hb dX11_lawTells_65 (lv_at hl 2 rfl) ?_
            obtain ⟨h20, hf⟩ := if_some hf
            refine wr_iald X hw sM17 nM17 h20 dX11_lawTells_67 ?_
            refine lv_aload_n hx hb dX11_lawTells_68 rfl (lv_at hl 0 rfl) ?_
            refine gX11_32 (b := 18) X hw sM0 nM0 rfl fl_X11_71 dX11_lawTells_69 ?_
            refine lv_iload hx hb dX11_lawTells_72 (lv_at hl 2 rfl) ?_
            obtain ⟨h21, hf⟩ := if_some hf
            refine wr_iald X hw sM18 nM18 h21 dX11_lawTells_74 ?_
            obtain ⟨v23, σ24, hq22, hf⟩ := bnd2_some hf
            refine wr_cVi (r := v23) (σ' := σ24) (av := [.int (σ39_8.1 17 (Int32.toNatClampNeg x4_39_8)), .int (σ39_8.1 18 (Int32.toNatClampNeg x4_39_8))]) (rest := []) X hw hl.1 sM0 nM0 rfl (k_X11_termOf hI hq22) rfl ml_X11_296 im_X11_termOf se_X11_termOf ini_X11 co_X11_termOf hd_X11_termOf ⟨Nat.le_of_ble_eq_true rfl, Nat.le_of_ble_eq_true rfl⟩ (Nat.le_of_ble_eq_true rfl) dX11_lawTells_75 rfl (fun H locs hw => ?_)
            refine lv_istore (lv' := [(5, .int v23), (0, .ref (ad 0)), (3, .int v1), (4, .int x4_39_8)]) hx hb dX11_lawTells_78 hl (by decide) rfl (fun ls hl => ?_)
            refine lv_aload_n hx hb dX11_lawTells_80 rfl (lv_at hl 1 rfl) ?_
            refine lv_aload_n hx hb dX11_lawTells_81 rfl (lv_at hl 1 rfl) ?_
            refine gX11_32 (b := 18) X hw sM0 nM0 rfl fl_X11_71 dX11_lawTells_82 ?_
            refine lv_iload hx hb dX11_lawTells_85 (lv_at hl 3 rfl) ?_
            obtain ⟨h25, hf⟩ := if_some hf
            refine wr_iald X hw sM18 nM18 h25 dX11_lawTells_87 ?_
            refine lv_aload_n hx hb dX11_lawTells_88 rfl (lv_at hl 1 rfl) ?_
            refine gX11_33 (b := 19) X hw sM0 nM0 rfl fl_X11_74 dX11_lawTells_89 ?_
            refine lv_iload hx hb dX11_lawTells_92 (lv_at hl 3 rfl) ?_
            obtain ⟨h26, hf⟩ := if_some hf
            refine wr_iald X hw sM19 nM19 h26 dX11_lawTells_94 ?_
            obtain ⟨v28, σ29, hq27, hf⟩ := bnd2_some hf
            refine wr_cVi (r := v28) (σ' := σ29) (av := [.int (σ24.1 18 (Int32.toNatClampNeg x4_39_8)), .int (σ24.1 19 (Int32.toNatClampNeg x4_39_8))]) (rest := []) X hw hl.1 sM0 nM0 rfl (k_X11_termOf hI hq27) rfl ml_X11_296 im_X11_termOf se_X11_termOf ini_X11 co_X11_termOf hd_X11_termOf ⟨Nat.le_of_ble_eq_true rfl, Nat.le_of_ble_eq_true rfl⟩ (Nat.le_of_ble_eq_true rfl) dX11_lawTells_95 rfl (fun H locs hw => ?_)
            refine lv_istore (lv' := [(6, .int v28), (5, .int v23), (0, .ref (ad 0)), (3, .int v1), (4, .int x4_39_8)]) hx hb dX11_lawTells_98 hl (by decide) rfl (fun ls hl => ?_)
            refine lv_aload_n hx hb dX11_lawTells_100 rfl (lv_at hl 2 rfl) ?_
            refine gX11_42 X hw sM0 nM0 fl_X11_278 dX11_lawTells_101 ?_
            refine lv_if_eq (tgt := 109) hx hb dX11_lawTells_104 (by decide) (fun c30 => ?_) (fun c30 => ?_)
            · have hf := (if_pos c30).symm.trans hf
              refine lv_iload hx hb dX11_lawTells_109 (lv_at hl 1 rfl) ?_
              refine lv_iload hx hb dX11_lawTells_111 (lv_at hl 0 rfl) ?_
              refine lv_icmp_lt (tgt := 119) hx hb dX11_lawTells_113 (by decide) (fun c31 => ?_) (fun c31 => ?_)
              · have hf := (if_pos c31).symm.trans hf
                exact j119_12 σ29 hf ls H locs (lv_sub hl [2, 4] rfl) hw
              · have hf := (if_neg c31).symm.trans hf
                refine lv_goto (tgt := 153) hx hb dX11_lawTells_116 (by decide) ?_
                obtain ⟨v32, ev32, hf⟩ := wlet_some hf
                refine lv_iinc (v := v32) (lv' := [(4, .int v32), (6, .int v28), (5, .int v23), (0, .ref (ad 0)), (3, .int v1)]) hx hb dX11_lawTells_153 hl (k := 4) rfl (by rw [ev32]; rfl) (by decide) rfl (fun ls hl => ?_)
                refine lv_goto (tgt := 39) hx hb dX11_lawTells_156 (by decide) ?_
                exact ih39_8 σ29 v32 (lp_leaf hf hz39_8) ls H locs (lv_sub hl [3, 4, 0] rfl) hw
            · have hf := (if_neg c30).symm.trans hf
              refine lv_iconst (v := 0) hx hb dX11_lawTells_107 (by decide) ?_
              have e39_8 := lpK_inr (lp_leaf hf hz39_8)
              have hf := sumk_r hE39_8 e39_8
              have er := Option.some.inj hf
              subst er
              exact wr_iret X hw hr (Or.inl rfl) dX11_lawTells_108
    exact lo39_8 fuel σ5 v7 hq39_8 ls H locs (lv_sub hl [2, 1, 0] rfl) hw
  · have hf := (if_pos c4).symm.trans hf
    refine lv_iload_n hx hb dX11_lawTells_24 rfl (lv_at hl 3 rfl) ?_
    have er := Option.some.inj hf
    subst er
    exact wr_iret X hw hr (Or.inl rfl) dX11_lawTells_25

def f_X11_doesPlead (σ : St) (x1 : Int32) : Option (Int32) := if ib (24 : Int32) 26 = true then if (((σ.1 27 (Int32.toNatClampNeg (24 : Int32))) >>> (x1 &&& 31)) &&& (1 : Int32)) = (1 : Int32) then (some (1 : Int32)) else (some (0 : Int32)) else none
theorem hd_X11_doesPlead : yX11_doesPlead.cls = RX11 ∧ yX11_doesPlead.cls ≠ "java/lang/invoke/MethodHandle" ∧ yX11_doesPlead.cls ≠ "java/lang/invoke/VarHandle" ∧ (parseMethodDescriptor yX11_doesPlead.desc).map (fun d => d.parameters.length) = some 1 := by decide +kernel
set_option maxRecDepth 100000 in
set_option maxHeartbeats 4000000 in
theorem k_X11_doesPlead {l : Launch} {ad : Nat → Nat} {D : va_G} {cy : Nat → ClassId} {z : wStr} (hI : wI WM ad) {σ : St} {x1 : Int32}  {res : Int32} (hf : f_X11_doesPlead σ x1 = some res) : wC WM ad D cy z l yX11_doesPlead (Cond.code yX11_doesPlead cX11_doesPlead 2 (Option.some Jvm.ClassFile.FieldType.boolean) :: aw) (1) (100) [.ref (ad 0), .int x1] σ (wQi WM ad D cy res σ) := by
  unfold f_X11_doesPlead at hf
  refine wr_start (own := RX11) hI (by decide +kernel) rfl (Nat.le_of_ble_eq_true rfl) rfl ?_
  intro p e s m below meth c ls X hw hr hl
  have hx := X.hx
  have hb := X.hb
  obtain ⟨H, eH⟩ : ∃ H : Heap, H = s.heap := ⟨_, rfl⟩
  obtain ⟨locs, el⟩ : ∃ locs : List Loc, locs = [] := ⟨_, rfl⟩
  rw [← eH, ← el] at hw ⊢
  clear eH el
  replace hl : lv_has ls 2 [(0, .ref (ad 0)), (1, .int x1)] := hl
  refine lv_aload_n hx hb dX11_doesPlead_0 rfl (lv_at hl 0 rfl) ?_
  refine gX11_44 (b := 27) X hw sM0 nM0 rfl fl_X11_98 dX11_doesPlead_1 ?_
  refine lv_bipush (v := 24) hx hb dX11_doesPlead_4 (by decide) ?_
  obtain ⟨h1, hf⟩ := if_some hf
  refine wr_iald X hw sM27 nM27 h1 dX11_doesPlead_6 ?_
  refine lv_iload_n hx hb dX11_doesPlead_7 rfl (lv_at hl 1 rfl) ?_
  refine lv_ishr hx hb dX11_doesPlead_8 ?_
  refine lv_iconst (v := 1) hx hb dX11_doesPlead_9 (by decide) ?_
  refine lv_iand hx hb dX11_doesPlead_10 ?_
  refine lv_iconst (v := 1) hx hb dX11_doesPlead_11 (by decide) ?_
  refine lv_icmp_ne (tgt := 19) hx hb dX11_doesPlead_12 (by decide) (fun c2 => ?_) (fun c2 => ?_)
  · have hf := (if_neg c2).symm.trans hf
    refine lv_iconst (v := 0) hx hb dX11_doesPlead_19 (by decide) ?_
    have er := Option.some.inj hf
    subst er
    exact wr_iret X hw hr (Or.inr ⟨rfl, (show bz (0 : Int32) = true from rfl)⟩) dX11_doesPlead_20
  · have hf := (if_pos c2).symm.trans hf
    refine lv_iconst (v := 1) hx hb dX11_doesPlead_15 (by decide) ?_
    refine lv_goto (tgt := 20) hx hb dX11_doesPlead_16 (by decide) ?_
    have er := Option.some.inj hf
    subst er
    exact wr_iret X hw hr (Or.inr ⟨rfl, (show bz (1 : Int32) = true from rfl)⟩) dX11_doesPlead_20

def f_X11_views (σ : St) (x1 : Int32) (x2 : Int32) (x3 : Int32) : Option (St) := if ib (0 : Int32) 9 = true then wlet (si σ 24 (Int32.toNatClampNeg (0 : Int32)) x3) fun σ2 => Option.bind (f_X11_deedAt σ2 x1) fun v4 => if ib (1 : Int32) 9 = true then wlet (si σ2 24 (Int32.toNatClampNeg (1 : Int32)) v4) fun σ6 => if ib ((10 : Int32) + x1) 26 = true then if ib (2 : Int32) 9 = true then wlet (si σ6 24 (Int32.toNatClampNeg (2 : Int32)) (σ6.1 27 (Int32.toNatClampNeg ((10 : Int32) + x1)))) fun σ9 => wlet (fun (s1_53_10 : Int32) (s2_53_10 : Int32) => (if ib s1_53_10 9 = true then wlet (si σ9 24 (Int32.toNatClampNeg s1_53_10) s2_53_10) fun σ12 => if ib (8 : Int32) 26 = true then if ib (4 : Int32) 9 = true then wlet (si σ12 24 (Int32.toNatClampNeg (4 : Int32)) (σ12.1 27 (Int32.toNatClampNeg (8 : Int32)))) fun σ15 => if ib (5 : Int32) 9 = true then wlet (si σ15 24 (Int32.toNatClampNeg (5 : Int32)) x1) fun σ17 => if ib (7 : Int32) 26 = true then if ib (6 : Int32) 9 = true then wlet (si σ17 24 (Int32.toNatClampNeg (6 : Int32)) (σ17.1 27 (Int32.toNatClampNeg (7 : Int32)))) fun σ20 => wlet (fun (s1_118_21 : Int32) (s2_118_21 : Int32) => (if ib s1_118_21 9 = true then wlet (si σ20 24 (Int32.toNatClampNeg s1_118_21) s2_118_21) fun σ23 => if ib (25 : Int32) 26 = true then if ib (8 : Int32) 9 = true then wlet (si σ23 24 (Int32.toNatClampNeg (8 : Int32)) (σ23.1 27 (Int32.toNatClampNeg (25 : Int32)))) fun σ26 => some σ26 else none else none else none : Option (St))) fun k118_21 => wlet (fun (s1_117_27 : Int32) => (k118_21 s1_117_27 (0 : Int32) : Option (St))) fun k117_27 => if x2 ≤ 0 then (k117_27 (7 : Int32)) else (if ib (x2 - (1 : Int32)) 26 = true then Option.bind (f_X11_doesPlead σ20 (σ20.1 27 (Int32.toNatClampNeg (x2 - (1 : Int32))))) fun v31 => if v31 = 0 then (k117_27 (7 : Int32)) else (k118_21 (7 : Int32) (1 : Int32)) else none) else none else none else none else none else none else none : Option (St))) fun k53_10 => if 0 ≤ x2 then (k53_10 (3 : Int32) x2) else (if ib (7 : Int32) 26 = true then k53_10 (3 : Int32) (σ9.1 27 (Int32.toNatClampNeg (7 : Int32))) else none) else none else none else none else none
theorem hd_X11_views : yX11_views.cls = RX11 ∧ yX11_views.cls ≠ "java/lang/invoke/MethodHandle" ∧ yX11_views.cls ≠ "java/lang/invoke/VarHandle" ∧ (parseMethodDescriptor yX11_views.desc).map (fun d => d.parameters.length) = some 3 := by decide +kernel
set_option maxRecDepth 100000 in
set_option maxHeartbeats 4000000 in
theorem k_X11_views {l : Launch} {ad : Nat → Nat} {D : va_G} {cy : Nat → ClassId} {z : wStr} (hI : wI WM ad) {σ : St} {x1 : Int32} {x2 : Int32} {x3 : Int32}  {res : St} (hf : f_X11_views σ x1 x2 x3 = some res) : wC WM ad D cy z l yX11_views (Cond.code yX11_views cX11_views 4 (none) :: aw) (2) (121) [.ref (ad 0), .int x1, .int x2, .int x3] σ (wQv WM ad D cy res) := by
  unfold f_X11_views at hf
  refine wr_start (own := RX11) hI (by decide +kernel) rfl (Nat.le_of_ble_eq_true rfl) rfl ?_
  intro p e s m below meth c ls X hw hr hl
  have hx := X.hx
  have hb := X.hb
  obtain ⟨H, eH⟩ : ∃ H : Heap, H = s.heap := ⟨_, rfl⟩
  obtain ⟨locs, el⟩ : ∃ locs : List Loc, locs = [] := ⟨_, rfl⟩
  rw [← eH, ← el] at hw ⊢
  clear eH el
  replace hl : lv_has ls 4 [(0, .ref (ad 0)), (1, .int x1), (2, .int x2), (3, .int x3)] := hl
  refine lv_aload_n hx hb dX11_views_0 rfl (lv_at hl 0 rfl) ?_
  refine gX11_40 (b := 24) X hw sM0 nM0 rfl fl_X11_89 dX11_views_1 ?_
  refine lv_iconst (v := 0) hx hb dX11_views_4 (by decide) ?_
  refine lv_iload_n hx hb dX11_views_5 rfl (lv_at hl 3 rfl) ?_
  obtain ⟨h1, hf⟩ := if_some hf
  obtain ⟨σ2, eσ2, hf⟩ := wlet_some hf
  refine wr_iast X hw sM24 nM24 h1 dX11_views_6 (fun H locs hw => ?_)
  replace hw := hw.to eσ2
  refine lv_aload_n hx hb dX11_views_7 rfl (lv_at hl 0 rfl) ?_
  refine gX11_40 (b := 24) X hw sM0 nM0 rfl fl_X11_89 dX11_views_8 ?_
  refine lv_iconst (v := 1) hx hb dX11_views_11 (by decide) ?_
  refine lv_aload_n hx hb dX11_views_12 rfl (lv_at hl 0 rfl) ?_
  refine lv_iload_n hx hb dX11_views_13 rfl (lv_at hl 1 rfl) ?_
  obtain ⟨v4, hq3, hf⟩ := bind_some hf
  refine wr_cVi (r := v4) (σ' := σ2) (av := [.int x1]) (rest := [.int (1 : Int32), .ref (ad 24)]) X hw hl.1 sM0 nM0 rfl (k_X11_deedAt hI hq3) rfl ml_X11_299 im_X11_deedAt se_X11_deedAt ini_X11 co_X11_deedAt hd_X11_deedAt ⟨Nat.le_of_ble_eq_true rfl, Nat.le_of_ble_eq_true rfl⟩ (Nat.le_of_ble_eq_true rfl) dX11_views_14 rfl (fun H locs hw => ?_)
  obtain ⟨h5, hf⟩ := if_some hf
  obtain ⟨σ6, eσ6, hf⟩ := wlet_some hf
  refine wr_iast X hw sM24 nM24 h5 dX11_views_17 (fun H locs hw => ?_)
  replace hw := hw.to eσ6
  refine lv_aload_n hx hb dX11_views_18 rfl (lv_at hl 0 rfl) ?_
  refine gX11_40 (b := 24) X hw sM0 nM0 rfl fl_X11_89 dX11_views_19 ?_
  refine lv_iconst (v := 2) hx hb dX11_views_22 (by decide) ?_
  refine lv_aload_n hx hb dX11_views_23 rfl (lv_at hl 0 rfl) ?_
  refine gX11_44 (b := 27) X hw sM0 nM0 rfl fl_X11_98 dX11_views_24 ?_
  refine lv_bipush (v := 10) hx hb dX11_views_27 (by decide) ?_
  refine lv_iload_n hx hb dX11_views_29 rfl (lv_at hl 1 rfl) ?_
  refine lv_iadd hx hb dX11_views_30 ?_
  obtain ⟨h7, hf⟩ := if_some hf
  refine wr_iald X hw sM27 nM27 h7 dX11_views_31 ?_
  obtain ⟨h8, hf⟩ := if_some hf
  obtain ⟨σ9, eσ9, hf⟩ := wlet_some hf
  refine wr_iast X hw sM24 nM24 h8 dX11_views_32 (fun H locs hw => ?_)
  replace hw := hw.to eσ9
  refine lv_aload_n hx hb dX11_views_33 rfl (lv_at hl 0 rfl) ?_
  refine gX11_40 (b := 24) X hw sM0 nM0 rfl fl_X11_89 dX11_views_34 ?_
  refine lv_iconst (v := 3) hx hb dX11_views_37 (by decide) ?_
  refine lv_iload_n hx hb dX11_views_38 rfl (lv_at hl 2 rfl) ?_
  obtain ⟨k53_10, ek53_10, hf0⟩ := wlet_some hf
  have j53_10 : ∀ (s1_53_10 : Int32) (s2_53_10 : Int32) (_ : k53_10 s1_53_10 s2_53_10 = some res) (ls : Array Slot) (H : Heap) (locs : List Loc), lv_has ls 4 [(0, .ref (ad 0)), (1, .int x1), (2, .int x2)] → wH WM ad D cy s σ9 H locs → W p l e { frames := 2, cells := 0, slots := 0, locals := 121 } s m [.ref (ad 0), .int x1, .int x2, .int x3].toArray below meth c H locs 0 0 (MQ below (wQv WM ad D cy res) [.ref (ad 0), .int x1, .int x2, .int x3].toArray s 0 0 (wA WM ad)) (F0 m 53 ls [.int s2_53_10, .int s1_53_10, .ref (ad 24)]) := by
    intro s1_53_10 s2_53_10 hf ls H locs hl hw
    rw [ek53_10] at hf
    obtain ⟨h11, hf⟩ := if_some hf
    obtain ⟨σ12, eσ12, hf⟩ := wlet_some hf
    refine wr_iast X hw sM24 nM24 h11 dX11_views_53 (fun H locs hw => ?_)
    replace hw := hw.to eσ12
    refine lv_aload_n hx hb dX11_views_54 rfl (lv_at hl 0 rfl) ?_
    refine gX11_40 (b := 24) X hw sM0 nM0 rfl fl_X11_89 dX11_views_55 ?_
    refine lv_iconst (v := 4) hx hb dX11_views_58 (by decide) ?_
    refine lv_aload_n hx hb dX11_views_59 rfl (lv_at hl 0 rfl) ?_
    refine gX11_44 (b := 27) X hw sM0 nM0 rfl fl_X11_98 dX11_views_60 ?_
    refine lv_bipush (v := 8) hx hb dX11_views_63 (by decide) ?_
    obtain ⟨h13, hf⟩ := if_some hf
    refine wr_iald X hw sM27 nM27 h13 dX11_views_65 ?_
    obtain ⟨h14, hf⟩ := if_some hf
    obtain ⟨σ15, eσ15, hf⟩ := wlet_some hf
    refine wr_iast X hw sM24 nM24 h14 dX11_views_66 (fun H locs hw => ?_)
    replace hw := hw.to eσ15
    refine lv_aload_n hx hb dX11_views_67 rfl (lv_at hl 0 rfl) ?_
    refine gX11_40 (b := 24) X hw sM0 nM0 rfl fl_X11_89 dX11_views_68 ?_
    refine lv_iconst (v := 5) hx hb dX11_views_71 (by decide) ?_
    refine lv_iload_n hx hb dX11_views_72 rfl (lv_at hl 1 rfl) ?_
    obtain ⟨h16, hf⟩ := if_some hf
    obtain ⟨σ17, eσ17, hf⟩ := wlet_some hf
    refine wr_iast X hw sM24 nM24 h16 dX11_views_73 (fun H locs hw => ?_)
    replace hw := hw.to eσ17
    refine lv_aload_n hx hb dX11_views_74 rfl (lv_at hl 0 rfl) ?_
    refine gX11_40 (b := 24) X hw sM0 nM0 rfl fl_X11_89 dX11_views_75 ?_
    refine lv_bipush (v := 6) hx hb dX11_views_78 (by decide) ?_
    refine lv_aload_n hx hb dX11_views_80 rfl (lv_at hl 0 rfl) ?_
    refine gX11_44 (b := 27) X hw sM0 nM0 rfl fl_X11_98 dX11_views_81 ?_
    refine lv_bipush (v := 7) hx hb dX11_views_84 (by decide) ?_
    obtain ⟨h18, hf⟩ := if_some hf
    refine wr_iald X hw sM27 nM27 h18 dX11_views_86 ?_
    obtain ⟨h19, hf⟩ := if_some hf
    obtain ⟨σ20, eσ20, hf⟩ := wlet_some hf
    refine wr_iast X hw sM24 nM24 h19 dX11_views_87 (fun H locs hw => ?_)
    replace hw := hw.to eσ20
    refine lv_aload_n hx hb dX11_views_88 rfl (lv_at hl 0 rfl) ?_
    refine gX11_40 (b := 24) X hw sM0 nM0 rfl fl_X11_89 dX11_views_89 ?_
    refine lv_bipush (v := 7) hx hb dX11_views_92 (by decide) ?_
    refine lv_iload_n hx hb dX11_views_94 rfl (lv_at hl 2 rfl) ?_
    obtain ⟨k118_21, ek118_21, hf0⟩ := wlet_some hf
    have j118_21 : ∀ (s1_118_21 : Int32) (s2_118_21 : Int32) (_ : k118_21 s1_118_21 s2_118_21 = some res) (ls : Array Slot) (H : Heap) (locs : List Loc), lv_has ls 4 [(0, .ref (ad 0))] → wH WM ad D cy s σ20 H locs → W p l e { frames := 2, cells := 0, slots := 0, locals := 121 } s m [.ref (ad 0), .int x1, .int x2, .int x3].toArray below meth c H locs 0 0 (MQ below (wQv WM ad D cy res) [.ref (ad 0), .int x1, .int x2, .int x3].toArray s 0 0 (wA WM ad)) (F0 m 118 ls [.int s2_118_21, .int s1_118_21, .ref (ad 24)]) := by
      intro s1_118_21 s2_118_21 hf ls H locs hl hw
      rw [ek118_21] at hf
      obtain ⟨h22, hf⟩ := if_some hf
      obtain ⟨σ23, eσ23, hf⟩ := wlet_some hf
      refine wr_iast X hw sM24 nM24 h22 dX11_views_118 (fun H locs hw => ?_)
      replace hw := hw.to eσ23
      refine lv_aload_n hx hb dX11_views_119 rfl (lv_at hl 0 rfl) ?_
      refine gX11_40 (b := 24) X hw sM0 nM0 rfl fl_X11_89 dX11_views_120 ?_
      refine lv_bipush (v := 8) hx hb dX11_views_123 (by decide) ?_
      refine lv_aload_n hx hb dX11_views_125 rfl (lv_at hl 0 rfl) ?_
      refine gX11_44 (b := 27) X hw sM0 nM0 rfl fl_X11_98 dX11_views_126 ?_
      refine lv_bipush (v := 25) hx hb dX11_views_129 (by decide) ?_
      obtain ⟨h24, hf⟩ := if_some hf
      refine wr_iald X hw sM27 nM27 h24 dX11_views_131 ?_
      obtain ⟨h25, hf⟩ := if_some hf
      obtain ⟨σ26, eσ26, hf⟩ := wlet_some hf
      refine wr_iast X hw sM24 nM24 h25 dX11_views_132 (fun H locs hw => ?_)
      replace hw := hw.to eσ26
      have er := Option.some.inj hf
      subst er
      exact wr_vret X hw hr dX11_views_133
    replace hf := hf0
    obtain ⟨k117_27, ek117_27, hf0⟩ := wlet_some hf
    have j117_27 : ∀ (s1_117_27 : Int32) (_ : k117_27 s1_117_27 = some res) (ls : Array Slot) (H : Heap) (locs : List Loc), lv_has ls 4 [(0, .ref (ad 0))] → wH WM ad D cy s σ20 H locs → W p l e { frames := 2, cells := 0, slots := 0, locals := 121 } s m [.ref (ad 0), .int x1, .int x2, .int x3].toArray below meth c H locs 0 0 (MQ below (wQv WM ad D cy res) [.ref (ad 0), .int x1, .int x2, .int x3].toArray s 0 0 (wA WM ad)) (F0 m 117 ls [.int s1_117_27, .ref (ad 24)]) := by
      intro s1_117_27 hf ls H locs hl hw
      rw [ek117_27] at hf
      refine lv_iconst (v := 0) hx hb dX11_views_117 (by decide) ?_
      exact j118_21 s1_117_27 (0 : Int32) hf ls H locs (lv_sub hl [0] rfl) hw
    replace hf := hf0
    refine lv_if_le (tgt := 117) hx hb dX11_views_95 (by decide) (fun c28 => ?_) (fun c28 => ?_)
    · have hf := (if_pos c28).symm.trans hf
      exact j117_27 (7 : Int32) hf ls H locs (lv_sub hl [0] rfl) hw
    · have hf := (if_neg c28).symm.trans hf
      refine lv_aload_n hx hb dX11_views_98 rfl (lv_at hl 0 rfl) ?_
      refine lv_aload_n hx hb dX11_views_99 rfl (lv_at hl 0 rfl) ?_
      refine gX11_44 (b := 27) X hw sM0 nM0 rfl fl_X11_98 dX11_views_100 ?_
      refine lv_iload_n hx hb dX11_views_103 rfl (lv_at hl 2 rfl) ?_
      refine lv_iconst (v := 1) hx hb dX11_views_104 (by decide) ?_
      refine lv_isub hx hb dX11_views_105 ?_
      obtain ⟨h29, hf⟩ := if_some hf
      refine wr_iald X hw sM27 nM27 h29 dX11_views_106 ?_
      obtain ⟨v31, hq30, hf⟩ := bind_some hf
      refine wr_cVi (r := v31) (σ' := σ20) (av := [.int (σ20.1 27 (Int32.toNatClampNeg (x2 - (1 : Int32))))]) (rest := [.int (7 : Int32), .ref (ad 24)]) X hw hl.1 sM0 nM0 rfl (k_X11_doesPlead hI hq30) rfl ml_X11_302 im_X11_doesPlead se_X11_doesPlead ini_X11 co_X11_doesPlead hd_X11_doesPlead ⟨Nat.le_of_ble_eq_true rfl, Nat.le_of_ble_eq_true rfl⟩ (Nat.le_of_ble_eq_true rfl) dX11_views_107 rfl (fun H locs hw => ?_)
      refine lv_if_eq (tgt := 117) hx hb dX11_views_110 (by decide) (fun c32 => ?_) (fun c32 => ?_)
      · have hf := (if_pos c32).symm.trans hf
        exact j117_27 (7 : Int32) hf ls H locs (lv_sub hl [0] rfl) hw
      · have hf := (if_neg c32).symm.trans hf
        refine lv_iconst (v := 1) hx hb dX11_views_113 (by decide) ?_
        refine lv_goto (tgt := 118) hx hb dX11_views_114 (by decide) ?_
        exact j118_21 (7 : Int32) (1 : Int32) hf ls H locs (lv_sub hl [0] rfl) hw
  replace hf := hf0
  refine lv_if_ge (tgt := 52) hx hb dX11_views_39 (by decide) (fun c33 => ?_) (fun c33 => ?_)
  · have hf := (if_pos c33).symm.trans hf
    refine lv_iload_n hx hb dX11_views_52 rfl (lv_at hl 2 rfl) ?_
    exact j53_10 (3 : Int32) x2 hf ls H locs (lv_sub hl [0, 1, 2] rfl) hw
  · have hf := (if_neg c33).symm.trans hf
    refine lv_aload_n hx hb dX11_views_42 rfl (lv_at hl 0 rfl) ?_
    refine gX11_44 (b := 27) X hw sM0 nM0 rfl fl_X11_98 dX11_views_43 ?_
    refine lv_bipush (v := 7) hx hb dX11_views_46 (by decide) ?_
    obtain ⟨h34, hf⟩ := if_some hf
    refine wr_iald X hw sM27 nM27 h34 dX11_views_48 ?_
    refine lv_goto (tgt := 53) hx hb dX11_views_49 (by decide) ?_
    exact j53_10 (3 : Int32) (σ9.1 27 (Int32.toNatClampNeg (7 : Int32))) hf ls H locs (lv_sub hl [0, 1, 2] rfl) hw

def f_X11_within (x0 : Int32) (x1 : Int32) (x2 : Int32) : Option (Int32) := if x1 ≤ x0 then (if x0 ≤ x2 then (some x0) else (some x2)) else (some x1)
theorem hd_X11_within : yX11_within.cls ≠ "java/lang/invoke/MethodHandle" ∧ yX11_within.cls ≠ "java/lang/invoke/VarHandle" ∧ (parseMethodDescriptor yX11_within.desc).map (fun d => d.parameters.length) = some 3 := by decide +kernel
set_option maxRecDepth 100000 in
set_option maxHeartbeats 4000000 in
theorem k_X11_within {l : Launch} {ad : Nat → Nat} {D : va_G} {cy : Nat → ClassId} {z : wStr} (hI : wI WM ad) {σ : St} {x0 : Int32} {x1 : Int32} {x2 : Int32}  {res : Int32} (hf : f_X11_within x0 x1 x2 = some res) : wC WM ad D cy z l yX11_within (Cond.code yX11_within cX11_within 3 (Option.some Jvm.ClassFile.FieldType.int) :: aw) (1) (100) [.int x0, .int x1, .int x2] σ (wQi WM ad D cy res σ) := by
  unfold f_X11_within at hf
  refine wr_start (own := RX11) hI (by decide +kernel) rfl (Nat.le_of_ble_eq_true rfl) rfl ?_
  intro p e s m below meth c ls X hw hr hl
  have hx := X.hx
  have hb := X.hb
  obtain ⟨H, eH⟩ : ∃ H : Heap, H = s.heap := ⟨_, rfl⟩
  obtain ⟨locs, el⟩ : ∃ locs : List Loc, locs = [] := ⟨_, rfl⟩
  rw [← eH, ← el] at hw ⊢
  clear eH el
  replace hl : lv_has ls 3 [(0, .int x0), (1, .int x1), (2, .int x2)] := hl
  refine lv_iload_n hx hb dX11_within_0 rfl (lv_at hl 0 rfl) ?_
  refine lv_iload_n hx hb dX11_within_1 rfl (lv_at hl 1 rfl) ?_
  refine lv_icmp_ge (tgt := 9) hx hb dX11_within_2 (by decide) (fun c1 => ?_) (fun c1 => ?_)
  · have hf := (if_pos c1).symm.trans hf
    refine lv_iload_n hx hb dX11_within_9 rfl (lv_at hl 0 rfl) ?_
    refine lv_iload_n hx hb dX11_within_10 rfl (lv_at hl 2 rfl) ?_
    refine lv_icmp_le (tgt := 18) hx hb dX11_within_11 (by decide) (fun c2 => ?_) (fun c2 => ?_)
    · have hf := (if_pos c2).symm.trans hf
      refine lv_iload_n hx hb dX11_within_18 rfl (lv_at hl 0 rfl) ?_
      have er := Option.some.inj hf
      subst er
      exact wr_iret X hw hr (Or.inl rfl) dX11_within_19
    · have hf := (if_neg c2).symm.trans hf
      refine lv_iload_n hx hb dX11_within_14 rfl (lv_at hl 2 rfl) ?_
      refine lv_goto (tgt := 19) hx hb dX11_within_15 (by decide) ?_
      have er := Option.some.inj hf
      subst er
      exact wr_iret X hw hr (Or.inl rfl) dX11_within_19
  · have hf := (if_neg c1).symm.trans hf
    refine lv_iload_n hx hb dX11_within_5 rfl (lv_at hl 1 rfl) ?_
    refine lv_goto (tgt := 19) hx hb dX11_within_6 (by decide) ?_
    have er := Option.some.inj hf
    subst er
    exact wr_iret X hw hr (Or.inl rfl) dX11_within_19

def f_X11_adjournsOf (σ : St) (x1 : Int32) (x2 : Int32) : Option (Int32 × St) := Option.bind (f_X11_deedAt σ x1) fun v2 => Option.bind (f_X11_views σ x1 x2 v2) fun σ4 => bnd2 (f_X11_lawTells σ4 (3 : Int32) (0 : Int32)) fun v6 σ7 => Option.bind (f_X11_within v6 (0 : Int32) (100 : Int32)) fun v9 => some (v9, σ7)
theorem hd_X11_adjournsOf : yX11_adjournsOf.cls = RX11 ∧ yX11_adjournsOf.cls ≠ "java/lang/invoke/MethodHandle" ∧ yX11_adjournsOf.cls ≠ "java/lang/invoke/VarHandle" ∧ (parseMethodDescriptor yX11_adjournsOf.desc).map (fun d => d.parameters.length) = some 2 := by decide +kernel
set_option maxRecDepth 100000 in
set_option maxHeartbeats 4000000 in
theorem k_X11_adjournsOf {l : Launch} {ad : Nat → Nat} {D : va_G} {cy : Nat → ClassId} {z : wStr} (hI : wI WM ad) {σ : St} {x1 : Int32} {x2 : Int32}  {res : Int32 × St} (hf : f_X11_adjournsOf σ x1 x2 = some res) : wC WM ad D cy z l yX11_adjournsOf (Cond.code yX11_adjournsOf cX11_adjournsOf 3 (Option.some Jvm.ClassFile.FieldType.int) :: aw) (3) (153) [.ref (ad 0), .int x1, .int x2] σ (wQi WM ad D cy res.1 res.2) := by
  unfold f_X11_adjournsOf at hf
  refine wr_start (own := RX11) hI (by decide +kernel) rfl (Nat.le_of_ble_eq_true rfl) rfl ?_
  intro p e s m below meth c ls X hw hr hl
  have hx := X.hx
  have hb := X.hb
  obtain ⟨H, eH⟩ : ∃ H : Heap, H = s.heap := ⟨_, rfl⟩
  obtain ⟨locs, el⟩ : ∃ locs : List Loc, locs = [] := ⟨_, rfl⟩
  rw [← eH, ← el] at hw ⊢
  clear eH el
  replace hl : lv_has ls 3 [(0, .ref (ad 0)), (1, .int x1), (2, .int x2)] := hl
  refine lv_aload_n hx hb dX11_adjournsOf_0 rfl (lv_at hl 0 rfl) ?_
  refine lv_iload_n hx hb dX11_adjournsOf_1 rfl (lv_at hl 1 rfl) ?_
  refine lv_iload_n hx hb dX11_adjournsOf_2 rfl (lv_at hl 2 rfl) ?_
  refine lv_aload_n hx hb dX11_adjournsOf_3 rfl (lv_at hl 0 rfl) ?_
  refine lv_iload_n hx hb dX11_adjournsOf_4 rfl (lv_at hl 1 rfl) ?_
  obtain ⟨v2, hq1, hf⟩ := bind_some hf
  refine wr_cVi (r := v2) (σ' := σ) (av := [.int x1]) (rest := [.int x2, .int x1, .ref (ad 0)]) X hw hl.1 sM0 nM0 rfl (k_X11_deedAt hI hq1) rfl ml_X11_299 im_X11_deedAt se_X11_deedAt ini_X11 co_X11_deedAt hd_X11_deedAt ⟨Nat.le_of_ble_eq_true rfl, Nat.le_of_ble_eq_true rfl⟩ (Nat.le_of_ble_eq_true rfl) dX11_adjournsOf_5 rfl (fun H locs hw => ?_)
  obtain ⟨σ4, hq3, hf⟩ := bind_some hf
  refine wr_cVv (σ' := σ4) (av := [.int x1, .int x2, .int v2]) (rest := []) X hw hl.1 sM0 nM0 rfl (k_X11_views hI hq3) rfl ml_X11_305 im_X11_views se_X11_views ini_X11 co_X11_views hd_X11_views ⟨Nat.le_of_ble_eq_true rfl, Nat.le_of_ble_eq_true rfl⟩ (Nat.le_of_ble_eq_true rfl) dX11_adjournsOf_8 rfl (fun H locs hw => ?_)
  refine lv_aload_n hx hb dX11_adjournsOf_11 rfl (lv_at hl 0 rfl) ?_
  refine lv_iconst (v := 3) hx hb dX11_adjournsOf_12 (by decide) ?_
  refine lv_iconst (v := 0) hx hb dX11_adjournsOf_13 (by decide) ?_
  obtain ⟨v6, σ7, hq5, hf⟩ := bnd2_some hf
  refine wr_cVi (r := v6) (σ' := σ7) (av := [.int (3 : Int32), .int (0 : Int32)]) (rest := []) X hw hl.1 sM0 nM0 rfl (k_X11_lawTells hI hq5) rfl ml_X11_309 im_X11_lawTells se_X11_lawTells ini_X11 co_X11_lawTells hd_X11_lawTells ⟨Nat.le_of_ble_eq_true rfl, Nat.le_of_ble_eq_true rfl⟩ (Nat.le_of_ble_eq_true rfl) dX11_adjournsOf_14 rfl (fun H locs hw => ?_)
  refine lv_iconst (v := 0) hx hb dX11_adjournsOf_17 (by decide) ?_
  refine lv_bipush (v := 100) hx hb dX11_adjournsOf_18 (by decide) ?_
  obtain ⟨v9, hq8, hf⟩ := bind_some hf
  refine wr_cSi (r := v9) (σ' := σ7) (av := [.int v6, .int (0 : Int32), .int (100 : Int32)]) (rest := []) X hw hl.1 (k_X11_within hI hq8) rfl ml_X11_312 st_X11_within ini_X11 co_X11_within hd_X11_within ⟨Nat.le_of_ble_eq_true rfl, Nat.le_of_ble_eq_true rfl⟩ (Nat.le_of_ble_eq_true rfl) dX11_adjournsOf_20 rfl (fun H locs hw => ?_)
  have er := Option.some.inj hf
  subst er
  exact wr_iret X hw hr (Or.inl rfl) dX11_adjournsOf_23

def f_X11_in (x0 : Int32) (x1 : Int32) (x2 : Int32) : Option (Int32) := if x0 < x1 then (some (0 : Int32)) else (if x2 < x0 then (some (0 : Int32)) else (some (1 : Int32)))
theorem hd_X11_in : yX11_in.cls ≠ "java/lang/invoke/MethodHandle" ∧ yX11_in.cls ≠ "java/lang/invoke/VarHandle" ∧ (parseMethodDescriptor yX11_in.desc).map (fun d => d.parameters.length) = some 3 := by decide +kernel
set_option maxRecDepth 100000 in
set_option maxHeartbeats 4000000 in
theorem k_X11_in {l : Launch} {ad : Nat → Nat} {D : va_G} {cy : Nat → ClassId} {z : wStr} (hI : wI WM ad) {σ : St} {x0 : Int32} {x1 : Int32} {x2 : Int32}  {res : Int32} (hf : f_X11_in x0 x1 x2 = some res) : wC WM ad D cy z l yX11_in (Cond.code yX11_in cX11_in 3 (Option.some Jvm.ClassFile.FieldType.boolean) :: aw) (1) (100) [.int x0, .int x1, .int x2] σ (wQi WM ad D cy res σ) := by
  unfold f_X11_in at hf
  refine wr_start (own := RX11) hI (by decide +kernel) rfl (Nat.le_of_ble_eq_true rfl) rfl ?_
  intro p e s m below meth c ls X hw hr hl
  have hx := X.hx
  have hb := X.hb
  obtain ⟨H, eH⟩ : ∃ H : Heap, H = s.heap := ⟨_, rfl⟩
  obtain ⟨locs, el⟩ : ∃ locs : List Loc, locs = [] := ⟨_, rfl⟩
  rw [← eH, ← el] at hw ⊢
  clear eH el
  replace hl : lv_has ls 3 [(0, .int x0), (1, .int x1), (2, .int x2)] := hl
  refine lv_iload_n hx hb dX11_in_0 rfl (lv_at hl 0 rfl) ?_
  refine lv_iload_n hx hb dX11_in_1 rfl (lv_at hl 1 rfl) ?_
  refine lv_icmp_lt (tgt := 14) hx hb dX11_in_2 (by decide) (fun c1 => ?_) (fun c1 => ?_)
  · have hf := (if_pos c1).symm.trans hf
    refine lv_iconst (v := 0) hx hb dX11_in_14 (by decide) ?_
    have er := Option.some.inj hf
    subst er
    exact wr_iret X hw hr (Or.inr ⟨rfl, (show bz (0 : Int32) = true from rfl)⟩) dX11_in_15
  · have hf := (if_neg c1).symm.trans hf
    refine lv_iload_n hx hb dX11_in_5 rfl (lv_at hl 0 rfl) ?_
    refine lv_iload_n hx hb dX11_in_6 rfl (lv_at hl 2 rfl) ?_
    refine lv_icmp_gt (tgt := 14) hx hb dX11_in_7 (by decide) (fun c2 => ?_) (fun c2 => ?_)
    · have hf := (if_pos c2).symm.trans hf
      refine lv_iconst (v := 0) hx hb dX11_in_14 (by decide) ?_
      have er := Option.some.inj hf
      subst er
      exact wr_iret X hw hr (Or.inr ⟨rfl, (show bz (0 : Int32) = true from rfl)⟩) dX11_in_15
    · have hf := (if_neg c2).symm.trans hf
      refine lv_iconst (v := 1) hx hb dX11_in_10 (by decide) ?_
      refine lv_goto (tgt := 15) hx hb dX11_in_11 (by decide) ?_
      have er := Option.some.inj hf
      subst er
      exact wr_iret X hw hr (Or.inr ⟨rfl, (show bz (1 : Int32) = true from rfl)⟩) dX11_in_15

def f_X11_isCase (σ : St) (x1 : Int32) : Option (Int32) := if ib (σ.1 0 18) 2 = true then Option.bind (f_X11_in x1 (0 : Int32) ((σ.1 9 (Int32.toNatClampNeg (σ.1 0 18))) - (1 : Int32))) fun v3 => if bz v3 = true then some v3 else none else none
theorem hd_X11_isCase : yX11_isCase.cls = RX11 ∧ yX11_isCase.cls ≠ "java/lang/invoke/MethodHandle" ∧ yX11_isCase.cls ≠ "java/lang/invoke/VarHandle" ∧ (parseMethodDescriptor yX11_isCase.desc).map (fun d => d.parameters.length) = some 1 := by decide +kernel
set_option maxRecDepth 100000 in
set_option maxHeartbeats 4000000 in
theorem k_X11_isCase {l : Launch} {ad : Nat → Nat} {D : va_G} {cy : Nat → ClassId} {z : wStr} (hI : wI WM ad) {σ : St} {x1 : Int32}  {res : Int32} (hf : f_X11_isCase σ x1 = some res) : wC WM ad D cy z l yX11_isCase (Cond.code yX11_isCase cX11_isCase 2 (Option.some Jvm.ClassFile.FieldType.boolean) :: aw) (2) (122) [.ref (ad 0), .int x1] σ (wQi WM ad D cy res σ) := by
  unfold f_X11_isCase at hf
  refine wr_start (own := RX11) hI (by decide +kernel) rfl (Nat.le_of_ble_eq_true rfl) rfl ?_
  intro p e s m below meth c ls X hw hr hl
  have hx := X.hx
  have hb := X.hb
  obtain ⟨H, eH⟩ : ∃ H : Heap, H = s.heap := ⟨_, rfl⟩
  obtain ⟨locs, el⟩ : ∃ locs : List Loc, locs = [] := ⟨_, rfl⟩
  rw [← eH, ← el] at hw ⊢
  clear eH el
  replace hl : lv_has ls 2 [(0, .ref (ad 0)), (1, .int x1)] := hl
  refine lv_iload_n hx hb dX11_isCase_0 rfl (lv_at hl 1 rfl) ?_
  refine lv_iconst (v := 0) hx hb dX11_isCase_1 (by decide) ?_
  refine lv_aload_n hx hb dX11_isCase_2 rfl (lv_at hl 0 rfl) ?_
  refine gX11_22 (b := 9) X hw sM0 nM0 rfl fl_X11_43 dX11_isCase_3 ?_
  refine lv_aload_n hx hb dX11_isCase_6 rfl (lv_at hl 0 rfl) ?_
  refine gX11_18 X hw sM0 nM0 fl_X11_212 dX11_isCase_7 ?_
  obtain ⟨h1, hf⟩ := if_some hf
  refine wr_iald X hw sM9 nM9 h1 dX11_isCase_10 ?_
  refine lv_iconst (v := 1) hx hb dX11_isCase_11 (by decide) ?_
  refine lv_isub hx hb dX11_isCase_12 ?_
  obtain ⟨v3, hq2, hf⟩ := bind_some hf
  refine wr_cSi (r := v3) (σ' := σ) (av := [.int x1, .int (0 : Int32), .int ((σ.1 9 (Int32.toNatClampNeg (σ.1 0 18))) - (1 : Int32))]) (rest := []) X hw hl.1 (k_X11_in hI hq2) rfl ml_X11_282 st_X11_in ini_X11 co_X11_in hd_X11_in ⟨Nat.le_of_ble_eq_true rfl, Nat.le_of_ble_eq_true rfl⟩ (Nat.le_of_ble_eq_true rfl) dX11_isCase_13 rfl (fun H locs hw => ?_)
  obtain ⟨hz, hf⟩ := if_some hf
  have er := Option.some.inj hf
  subst er
  exact wr_iret X hw hr (Or.inr ⟨rfl, hz⟩) dX11_isCase_16

def f_X11_placeOf (σ : St) (x1 : Int32) : Option (Int32) := wlet (fun (x2_2_1 : Int32) => if ib (7 : Int32) 26 = true then if (σ.1 27 (Int32.toNatClampNeg (7 : Int32))) ≤ x2_2_1 then (some (.inr (.inl ()))) else (if ib x2_2_1 26 = true then if (σ.1 27 (Int32.toNatClampNeg x2_2_1)) = x1 then (some (.inr (.inr x2_2_1))) else (wlet (x2_2_1 + (1 : Int32)) fun v6 => some (.inl v6)) else none) else none : Int32 → Option ((Int32) ⊕ ((Unit) ⊕ (Int32)))) fun st2_1 => Option.bind (lp st2_1 fuel (0 : Int32)) (sumk (fun (_ : Unit) => some (-1 : Int32)) (fun m => some m))
theorem hd_X11_placeOf : yX11_placeOf.cls = RX11 ∧ yX11_placeOf.cls ≠ "java/lang/invoke/MethodHandle" ∧ yX11_placeOf.cls ≠ "java/lang/invoke/VarHandle" ∧ (parseMethodDescriptor yX11_placeOf.desc).map (fun d => d.parameters.length) = some 1 := by decide +kernel
set_option maxRecDepth 100000 in
set_option maxHeartbeats 4000000 in
theorem k_X11_placeOf {l : Launch} {ad : Nat → Nat} {D : va_G} {cy : Nat → ClassId} {z : wStr} (hI : wI WM ad) {σ : St} {x1 : Int32}  {res : Int32} (hf : f_X11_placeOf σ x1 = some res) : wC WM ad D cy z l yX11_placeOf (Cond.code yX11_placeOf cX11_placeOf 3 (Option.some Jvm.ClassFile.FieldType.int) :: aw) (1) (100) [.ref (ad 0), .int x1] σ (wQi WM ad D cy res σ) := by
  unfold f_X11_placeOf at hf
  refine wr_start (own := RX11) hI (by decide +kernel) rfl (Nat.le_of_ble_eq_true rfl) rfl ?_
  intro p e s m below meth c ls X hw hr hl
  have hx := X.hx
  have hb := X.hb
  obtain ⟨H, eH⟩ : ∃ H : Heap, H = s.heap := ⟨_, rfl⟩
  obtain ⟨locs, el⟩ : ∃ locs : List Loc, locs = [] := ⟨_, rfl⟩
  rw [← eH, ← el] at hw ⊢
  clear eH el
  replace hl : lv_has ls 3 [(0, .ref (ad 0)), (1, .int x1)] := hl
  refine lv_iconst (v := 0) hx hb dX11_placeOf_0 (by decide) ?_
  refine lv_istore_n (lv' := [(2, .int (0 : Int32)), (0, .ref (ad 0)), (1, .int x1)]) hx hb dX11_placeOf_1 rfl hl (by decide) rfl (fun ls hl => ?_)
  obtain ⟨st2_1, est2_1, hf⟩ := wlet_some hf
  obtain ⟨E2_1, hq2_1, hE2_1⟩ := bind_some hf
  have hx2_1 : ∀ (_ : Sum.inl () = E2_1) (ls : Array Slot) (H : Heap) (locs : List Loc), lv_has ls 3 [] → wH WM ad D cy s σ H locs → W p l e { frames := 1, cells := 0, slots := 0, locals := 100 } s m [.ref (ad 0), .int x1].toArray below meth c H locs 0 0 (MQ below (wQi WM ad D cy res σ) [.ref (ad 0), .int x1].toArray s 0 0 (wA WM ad)) (F0 m 31 ls []) := by
    intro  e0 ls H locs hl hw
    have hf := sumk_l hE2_1 e0
    refine lv_iconst (v := -1) hx hb dX11_placeOf_31 (by decide) ?_
    have er := Option.some.inj hf
    subst er
    exact wr_iret X hw hr (Or.inl rfl) dX11_placeOf_32
  have lo2_1 : ∀ (n : Nat) (x2_2_1 : Int32) (_ : lp st2_1 n x2_2_1 = some E2_1) (ls : Array Slot) (H : Heap) (locs : List Loc), lv_has ls 3 [(0, .ref (ad 0)), (1, .int x1), (2, .int x2_2_1)] → wH WM ad D cy s σ H locs → W p l e { frames := 1, cells := 0, slots := 0, locals := 100 } s m [.ref (ad 0), .int x1].toArray below meth c H locs 0 0 (MQ below (wQi WM ad D cy res σ) [.ref (ad 0), .int x1].toArray s 0 0 (wA WM ad)) (F0 m 2 ls []) := by
    intro n
    induction n with
    | zero =>
      intro x2_2_1 hf ls H locs hl hw
      exact (lp_zero hf).elim
    | succ n ih2_1 =>
      intro x2_2_1 hf ls H locs hl hw
      obtain ⟨q2_1, hf, hz2_1⟩ := lp_succ hf
      rw [est2_1] at hf
      refine lv_iload_n hx hb dX11_placeOf_2 rfl (lv_at hl 2 rfl) ?_
      refine lv_aload_n hx hb dX11_placeOf_3 rfl (lv_at hl 0 rfl) ?_
      refine gX11_44 (b := 27) X hw sM0 nM0 rfl fl_X11_98 dX11_placeOf_4 ?_
      refine lv_bipush (v := 7) hx hb dX11_placeOf_7 (by decide) ?_
      obtain ⟨h2, hf⟩ := if_some hf
      refine wr_iald X hw sM27 nM27 h2 dX11_placeOf_9 ?_
      refine lv_icmp_ge (tgt := 31) hx hb dX11_placeOf_10 (by decide) (fun c3 => ?_) (fun c3 => ?_)
      · have hf := (if_pos c3).symm.trans hf
        exact hx2_1  (lpK_inr (lp_leaf hf hz2_1)) ls H locs (lv_sub hl [] rfl) hw
      · have hf := (if_neg c3).symm.trans hf
        refine lv_aload_n hx hb dX11_placeOf_13 rfl (lv_at hl 0 rfl) ?_
        refine gX11_44 (b := 27) X hw sM0 nM0 rfl fl_X11_98 dX11_placeOf_14 ?_
        refine lv_iload_n hx hb dX11_placeOf_17 rfl (lv_at hl 2 rfl) ?_
        obtain ⟨h4, hf⟩ := if_some hf
        refine wr_iald X hw sM27 nM27 h4 dX11_placeOf_18 ?_
        refine lv_iload_n hx hb dX11_placeOf_19 rfl (lv_at hl 1 rfl) ?_
        refine lv_icmp_ne (tgt := 25) hx hb dX11_placeOf_20 (by decide) (fun c5 => ?_) (fun c5 => ?_)
        · have hf := (if_neg c5).symm.trans hf
          obtain ⟨v6, ev6, hf⟩ := wlet_some hf
          refine lv_iinc (v := v6) (lv' := [(2, .int v6), (0, .ref (ad 0)), (1, .int x1)]) hx hb dX11_placeOf_25 hl (k := 2) rfl (by rw [ev6]; rfl) (by decide) rfl (fun ls hl => ?_)
          refine lv_goto (tgt := 2) hx hb dX11_placeOf_28 (by decide) ?_
          exact ih2_1 v6 (lp_leaf hf hz2_1) ls H locs (lv_sub hl [1, 2, 0] rfl) hw
        · have hf := (if_pos c5).symm.trans hf
          refine lv_iload_n hx hb dX11_placeOf_23 rfl (lv_at hl 2 rfl) ?_
          have e2_1 := lpK_inr (lp_leaf hf hz2_1)
          have hf := sumk_r hE2_1 e2_1
          have er := Option.some.inj hf
          subst er
          exact wr_iret X hw hr (Or.inl rfl) dX11_placeOf_24
  exact lo2_1 fuel (0 : Int32) hq2_1 ls H locs (lv_sub hl [1, 2, 0] rfl) hw

def f_X11_isOn (σ : St) (x1 : Int32) : Option (Int32) := Option.bind (f_X11_placeOf σ x1) fun v2 => if v2 < 0 then (some (0 : Int32)) else (some (1 : Int32))
theorem hd_X11_isOn : yX11_isOn.cls = RX11 ∧ yX11_isOn.cls ≠ "java/lang/invoke/MethodHandle" ∧ yX11_isOn.cls ≠ "java/lang/invoke/VarHandle" ∧ (parseMethodDescriptor yX11_isOn.desc).map (fun d => d.parameters.length) = some 1 := by decide +kernel
set_option maxRecDepth 100000 in
set_option maxHeartbeats 4000000 in
theorem k_X11_isOn {l : Launch} {ad : Nat → Nat} {D : va_G} {cy : Nat → ClassId} {z : wStr} (hI : wI WM ad) {σ : St} {x1 : Int32}  {res : Int32} (hf : f_X11_isOn σ x1 = some res) : wC WM ad D cy z l yX11_isOn (Cond.code yX11_isOn cX11_isOn 2 (Option.some Jvm.ClassFile.FieldType.boolean) :: aw) (2) (122) [.ref (ad 0), .int x1] σ (wQi WM ad D cy res σ) := by
  unfold f_X11_isOn at hf
  refine wr_start (own := RX11) hI (by decide +kernel) rfl (Nat.le_of_ble_eq_true rfl) rfl ?_
  intro p e s m below meth c ls X hw hr hl
  have hx := X.hx
  have hb := X.hb
  obtain ⟨H, eH⟩ : ∃ H : Heap, H = s.heap := ⟨_, rfl⟩
  obtain ⟨locs, el⟩ : ∃ locs : List Loc, locs = [] := ⟨_, rfl⟩
  rw [← eH, ← el] at hw ⊢
  clear eH el
  replace hl : lv_has ls 2 [(0, .ref (ad 0)), (1, .int x1)] := hl
  refine lv_aload_n hx hb dX11_isOn_0 rfl (lv_at hl 0 rfl) ?_
  refine lv_iload_n hx hb dX11_isOn_1 rfl (lv_at hl 1 rfl) ?_
  obtain ⟨v2, hq1, hf⟩ := bind_some hf
  refine wr_cVi (r := v2) (σ' := σ) (av := [.int x1]) (rest := []) X hw hl.1 sM0 nM0 rfl (k_X11_placeOf hI hq1) rfl ml_X11_293 im_X11_placeOf se_X11_placeOf ini_X11 co_X11_placeOf hd_X11_placeOf ⟨Nat.le_of_ble_eq_true rfl, Nat.le_of_ble_eq_true rfl⟩ (Nat.le_of_ble_eq_true rfl) dX11_isOn_2 rfl (fun H locs hw => ?_)
  refine lv_if_lt (tgt := 12) hx hb dX11_isOn_5 (by decide) (fun c3 => ?_) (fun c3 => ?_)
  · have hf := (if_pos c3).symm.trans hf
    refine lv_iconst (v := 0) hx hb dX11_isOn_12 (by decide) ?_
    have er := Option.some.inj hf
    subst er
    exact wr_iret X hw hr (Or.inr ⟨rfl, (show bz (0 : Int32) = true from rfl)⟩) dX11_isOn_13
  · have hf := (if_neg c3).symm.trans hf
    refine lv_iconst (v := 1) hx hb dX11_isOn_8 (by decide) ?_
    refine lv_goto (tgt := 13) hx hb dX11_isOn_9 (by decide) ?_
    have er := Option.some.inj hf
    subst er
    exact wr_iret X hw hr (Or.inr ⟨rfl, (show bz (1 : Int32) = true from rfl)⟩) dX11_isOn_13

def f_X11_areTwo (σ : St) (x1 : Int32) (x2 : Int32) : Option (Int32) := Option.bind (f_X11_isCase σ x1) fun v2 => if v2 = 0 then (some (0 : Int32)) else (Option.bind (f_X11_isCase σ x2) fun v5 => if v5 = 0 then (some (0 : Int32)) else (if x1 = x2 then (some (0 : Int32)) else (Option.bind (f_X11_isOn σ x1) fun v9 => if v9 = 0 then (some (0 : Int32)) else (Option.bind (f_X11_isOn σ x2) fun v12 => if v12 = 0 then (some (0 : Int32)) else (some (1 : Int32))))))
theorem hd_X11_areTwo : yX11_areTwo.cls = RX11 ∧ yX11_areTwo.cls ≠ "java/lang/invoke/MethodHandle" ∧ yX11_areTwo.cls ≠ "java/lang/invoke/VarHandle" ∧ (parseMethodDescriptor yX11_areTwo.desc).map (fun d => d.parameters.length) = some 2 := by decide +kernel
set_option maxRecDepth 100000 in
set_option maxHeartbeats 4000000 in
theorem k_X11_areTwo {l : Launch} {ad : Nat → Nat} {D : va_G} {cy : Nat → ClassId} {z : wStr} (hI : wI WM ad) {σ : St} {x1 : Int32} {x2 : Int32}  {res : Int32} (hf : f_X11_areTwo σ x1 x2 = some res) : wC WM ad D cy z l yX11_areTwo (Cond.code yX11_areTwo cX11_areTwo 3 (Option.some Jvm.ClassFile.FieldType.boolean) :: aw) (3) (143) [.ref (ad 0), .int x1, .int x2] σ (wQi WM ad D cy res σ) := by
  unfold f_X11_areTwo at hf
  refine wr_start (own := RX11) hI (by decide +kernel) rfl (Nat.le_of_ble_eq_true rfl) rfl ?_
  intro p e s m below meth c ls X hw hr hl
  have hx := X.hx
  have hb := X.hb
  obtain ⟨H, eH⟩ : ∃ H : Heap, H = s.heap := ⟨_, rfl⟩
  obtain ⟨locs, el⟩ : ∃ locs : List Loc, locs = [] := ⟨_, rfl⟩
  rw [← eH, ← el] at hw ⊢
  clear eH el
  replace hl : lv_has ls 3 [(0, .ref (ad 0)), (1, .int x1), (2, .int x2)] := hl
  refine lv_aload_n hx hb dX11_areTwo_0 rfl (lv_at hl 0 rfl) ?_
  refine lv_iload_n hx hb dX11_areTwo_1 rfl (lv_at hl 1 rfl) ?_
  obtain ⟨v2, hq1, hf⟩ := bind_some hf
  refine wr_cVi (r := v2) (σ' := σ) (av := [.int x1]) (rest := []) X hw hl.1 sM0 nM0 rfl (k_X11_isCase hI hq1) rfl ml_X11_342 im_X11_isCase se_X11_isCase ini_X11 co_X11_isCase hd_X11_isCase ⟨Nat.le_of_ble_eq_true rfl, Nat.le_of_ble_eq_true rfl⟩ (Nat.le_of_ble_eq_true rfl) dX11_areTwo_2 rfl (fun H locs hw => ?_)
  refine lv_if_eq (tgt := 41) hx hb dX11_areTwo_5 (by decide) (fun c3 => ?_) (fun c3 => ?_)
  · have hf := (if_pos c3).symm.trans hf
    refine lv_iconst (v := 0) hx hb dX11_areTwo_41 (by decide) ?_
    have er := Option.some.inj hf
    subst er
    exact wr_iret X hw hr (Or.inr ⟨rfl, (show bz (0 : Int32) = true from rfl)⟩) dX11_areTwo_42
  · have hf := (if_neg c3).symm.trans hf
    refine lv_aload_n hx hb dX11_areTwo_8 rfl (lv_at hl 0 rfl) ?_
    refine lv_iload_n hx hb dX11_areTwo_9 rfl (lv_at hl 2 rfl) ?_
    obtain ⟨v5, hq4, hf⟩ := bind_some hf
    refine wr_cVi (r := v5) (σ' := σ) (av := [.int x2]) (rest := []) X hw hl.1 sM0 nM0 rfl (k_X11_isCase hI hq4) rfl ml_X11_342 im_X11_isCase se_X11_isCase ini_X11 co_X11_isCase hd_X11_isCase ⟨Nat.le_of_ble_eq_true rfl, Nat.le_of_ble_eq_true rfl⟩ (Nat.le_of_ble_eq_true rfl) dX11_areTwo_10 rfl (fun H locs hw => ?_)
    refine lv_if_eq (tgt := 41) hx hb dX11_areTwo_13 (by decide) (fun c6 => ?_) (fun c6 => ?_)
    · have hf := (if_pos c6).symm.trans hf
      refine lv_iconst (v := 0) hx hb dX11_areTwo_41 (by decide) ?_
      have er := Option.some.inj hf
      subst er
      exact wr_iret X hw hr (Or.inr ⟨rfl, (show bz (0 : Int32) = true from rfl)⟩) dX11_areTwo_42
    · have hf := (if_neg c6).symm.trans hf
      refine lv_iload_n hx hb dX11_areTwo_16 rfl (lv_at hl 1 rfl) ?_
      refine lv_iload_n hx hb dX11_areTwo_17 rfl (lv_at hl 2 rfl) ?_
      refine lv_icmp_eq (tgt := 41) hx hb dX11_areTwo_18 (by decide) (fun c7 => ?_) (fun c7 => ?_)
      · have hf := (if_pos c7).symm.trans hf
        refine lv_iconst (v := 0) hx hb dX11_areTwo_41 (by decide) ?_
        have er := Option.some.inj hf
        subst er
        exact wr_iret X hw hr (Or.inr ⟨rfl, (show bz (0 : Int32) = true from rfl)⟩) dX11_areTwo_42
      · have hf := (if_neg c7).symm.trans hf
        refine lv_aload_n hx hb dX11_areTwo_21 rfl (lv_at hl 0 rfl) ?_
        refine lv_iload_n hx hb dX11_areTwo_22 rfl (lv_at hl 1 rfl) ?_
        obtain ⟨v9, hq8, hf⟩ := bind_some hf
        refine wr_cVi (r := v9) (σ' := σ) (av := [.int x1]) (rest := []) X hw hl.1 sM0 nM0 rfl (k_X11_isOn hI hq8) rfl ml_X11_348 im_X11_isOn se_X11_isOn ini_X11 co_X11_isOn hd_X11_isOn ⟨Nat.le_of_ble_eq_true rfl, Nat.le_of_ble_eq_true rfl⟩ (Nat.le_of_ble_eq_true rfl) dX11_areTwo_23 rfl (fun H locs hw => ?_)
        refine lv_if_eq (tgt := 41) hx hb dX11_areTwo_26 (by decide) (fun c10 => ?_) (fun c10 => ?_)
        · have hf := (if_pos c10).symm.trans hf
          refine lv_iconst (v := 0) hx hb dX11_areTwo_41 (by decide) ?_
          have er := Option.some.inj hf
          subst er
          exact wr_iret X hw hr (Or.inr ⟨rfl, (show bz (0 : Int32) = true from rfl)⟩) dX11_areTwo_42
        · have hf := (if_neg c10).symm.trans hf
          refine lv_aload_n hx hb dX11_areTwo_29 rfl (lv_at hl 0 rfl) ?_
          refine lv_iload_n hx hb dX11_areTwo_30 rfl (lv_at hl 2 rfl) ?_
          obtain ⟨v12, hq11, hf⟩ := bind_some hf
          refine wr_cVi (r := v12) (σ' := σ) (av := [.int x2]) (rest := []) X hw hl.1 sM0 nM0 rfl (k_X11_isOn hI hq11) rfl ml_X11_348 im_X11_isOn se_X11_isOn ini_X11 co_X11_isOn hd_X11_isOn ⟨Nat.le_of_ble_eq_true rfl, Nat.le_of_ble_eq_true rfl⟩ (Nat.le_of_ble_eq_true rfl) dX11_areTwo_31 rfl (fun H locs hw => ?_)
          refine lv_if_eq (tgt := 41) hx hb dX11_areTwo_34 (by decide) (fun c13 => ?_) (fun c13 => ?_)
          · have hf := (if_pos c13).symm.trans hf
            refine lv_iconst (v := 0) hx hb dX11_areTwo_41 (by decide) ?_
            have er := Option.some.inj hf
            subst er
            exact wr_iret X hw hr (Or.inr ⟨rfl, (show bz (0 : Int32) = true from rfl)⟩) dX11_areTwo_42
          · have hf := (if_neg c13).symm.trans hf
            refine lv_iconst (v := 1) hx hb dX11_areTwo_37 (by decide) ?_
            refine lv_goto (tgt := 42) hx hb dX11_areTwo_38 (by decide) ?_
            have er := Option.some.inj hf
            subst er
            exact wr_iret X hw hr (Or.inr ⟨rfl, (show bz (1 : Int32) = true from rfl)⟩) dX11_areTwo_42

def f_X11_copies (σ : St)  : Option (St) := wlet (un2 (fun (σ2_1 : St) (x1_2_1 : Int32) => if (26 : Int32) ≤ x1_2_1 then (some (.inr σ2_1)) else (if ib x1_2_1 26 = true then if ib x1_2_1 26 = true then wlet (si σ2_1 27 (Int32.toNatClampNeg x1_2_1) (σ2_1.1 26 (Int32.toNatClampNeg x1_2_1))) fun σ7 => wlet (x1_2_1 + (1 : Int32)) fun v8 => some (.inl (σ7, v8)) else none else none)) : St × Int32 → Option ((St × Int32) ⊕ (St))) fun st2_1 => Option.bind (lp st2_1 fuel (σ, (0 : Int32))) ((fun (σe2_1 : St) => if ib (σe2_1.1 0 18) 2 = true then wlet (si σe2_1 0 45 (σe2_1.1 13 (Int32.toNatClampNeg (σe2_1.1 0 18)))) fun σ3 => some σ3 else none))
theorem hd_X11_copies : yX11_copies.cls = RX11 ∧ yX11_copies.cls ≠ "java/lang/invoke/MethodHandle" ∧ yX11_copies.cls ≠ "java/lang/invoke/VarHandle" ∧ (parseMethodDescriptor yX11_copies.desc).map (fun d => d.parameters.length) = some 0 := by decide +kernel
set_option maxRecDepth 100000 in
set_option maxHeartbeats 4000000 in
theorem k_X11_copies {l : Launch} {ad : Nat → Nat} {D : va_G} {cy : Nat → ClassId} {z : wStr} (hI : wI WM ad) {σ : St}   {res : St} (hf : f_X11_copies σ  = some res) : wC WM ad D cy z l yX11_copies (Cond.code yX11_copies cX11_copies 2 (none) :: aw) (1) (100) [.ref (ad 0)] σ (wQv WM ad D cy res) := by
  unfold f_X11_copies at hf
  refine wr_start (own := RX11) hI (by decide +kernel) rfl (Nat.le_of_ble_eq_true rfl) rfl ?_
  intro p e s m below meth c ls X hw hr hl
  have hx := X.hx
  have hb := X.hb
  obtain ⟨H, eH⟩ : ∃ H : Heap, H = s.heap := ⟨_, rfl⟩
  obtain ⟨locs, el⟩ : ∃ locs : List Loc, locs = [] := ⟨_, rfl⟩
  rw [← eH, ← el] at hw ⊢
  clear eH el
  replace hl : lv_has ls 2 [(0, .ref (ad 0))] := hl
  refine lv_iconst (v := 0) hx hb dX11_copies_0 (by decide) ?_
  refine lv_istore_n (lv' := [(1, .int (0 : Int32)), (0, .ref (ad 0))]) hx hb dX11_copies_1 rfl hl (by decide) rfl (fun ls hl => ?_)
  obtain ⟨st2_1, est2_1, hf⟩ := wlet_some hf
  obtain ⟨E2_1, hq2_1, hE2_1⟩ := bind_some hf
  have hx2_1 : ∀ (σe2_1 : St) (_ : σe2_1 = E2_1) (ls : Array Slot) (H : Heap) (locs : List Loc), lv_has ls 2 [(0, .ref (ad 0))] → wH WM ad D cy s σe2_1 H locs → W p l e { frames := 1, cells := 0, slots := 0, locals := 100 } s m [.ref (ad 0)].toArray below meth c H locs 0 0 (MQ below (wQv WM ad D cy res) [.ref (ad 0)].toArray s 0 0 (wA WM ad)) (F0 m 26 ls []) := by
    intro σe2_1 e0 ls H locs hl hw
    subst e0
    have hf := hE2_1
    refine lv_aload_n hx hb dX11_copies_26 rfl (lv_at hl 0 rfl) ?_
    refine lv_aload_n hx hb dX11_copies_27 rfl (lv_at hl 0 rfl) ?_
    refine gX11_26 (b := 13) X hw sM0 nM0 rfl fl_X11_55 dX11_copies_28 ?_
    refine lv_aload_n hx hb dX11_copies_31 rfl (lv_at hl 0 rfl) ?_
    refine gX11_18 X hw sM0 nM0 fl_X11_212 dX11_copies_32 ?_
    obtain ⟨h2, hf⟩ := if_some hf
    refine wr_iald X hw sM13 nM13 h2 dX11_copies_35 ?_
    obtain ⟨σ3, eσ3, hf⟩ := wlet_some hf
    refine pX11_45 X hw sM0 nM0 fl_X11_286 dX11_copies_36 (fun H locs hw => ?_)
    replace hw := hw.to eσ3
    have er := Option.some.inj hf
    subst er
    exact wr_vret X hw hr dX11_copies_39
  have lo2_1 : ∀ (n : Nat) (σ2_1 : St) (x1_2_1 : Int32) (_ : lp st2_1 n (σ2_1, x1_2_1) = some E2_1) (ls : Array Slot) (H : Heap) (locs : List Loc), lv_has ls 2 [(0, .ref (ad 0)), (1, .int x1_2_1)] → wH WM ad D cy s σ2_1 H locs → W p l e { frames := 1, cells := 0, slots := 0, locals := 100 } s m [.ref (ad 0)].toArray below meth c H locs 0 0 (MQ below (wQv WM ad D cy res) [.ref (ad 0)].toArray s 0 0 (wA WM ad)) (F0 m 2 ls []) := by
    intro n
    induction n with
    | zero =>
      intro σ2_1 x1_2_1 hf ls H locs hl hw
      exact (lp_zero hf).elim
    | succ n ih2_1 =>
      intro σ2_1 x1_2_1 hf ls H locs hl hw
      obtain ⟨q2_1, hf, hz2_1⟩ := lp_succ hf
      rw [est2_1] at hf
      replace hf := un2_some hf
      refine lv_iload_n hx hb dX11_copies_2 rfl (lv_at hl 1 rfl) ?_
      refine lv_bipush (v := 26) hx hb dX11_copies_3 (by decide) ?_
      refine lv_icmp_ge (tgt := 26) hx hb dX11_copies_5 (by decide) (fun c4 => ?_) (fun c4 => ?_)
      · have hf := (if_pos c4).symm.trans hf
        exact hx2_1 σ2_1 (lpK_inr (lp_leaf hf hz2_1)) ls H locs (lv_sub hl [0] rfl) hw
      · have hf := (if_neg c4).symm.trans hf
        refine lv_aload_n hx hb dX11_copies_8 rfl (lv_at hl 0 rfl) ?_
        refine gX11_44 (b := 27) X hw sM0 nM0 rfl fl_X11_98 dX11_copies_9 ?_
        refine lv_iload_n hx hb dX11_copies_12 rfl (lv_at hl 1 rfl) ?_
        refine lv_aload_n hx hb dX11_copies_13 rfl (lv_at hl 0 rfl) ?_
        refine gX11_43 (b := 26) X hw sM0 nM0 rfl fl_X11_95 dX11_copies_14 ?_
        refine lv_iload_n hx hb dX11_copies_17 rfl (lv_at hl 1 rfl) ?_
        obtain ⟨h5, hf⟩ := if_some hf
        refine wr_iald X hw sM26 nM26 h5 dX11_copies_18 ?_
        obtain ⟨h6, hf⟩ := if_some hf
        obtain ⟨σ7, eσ7, hf⟩ := wlet_some hf
        refine wr_iast X hw sM27 nM27 h6 dX11_copies_19 (fun H locs hw => ?_)
        replace hw := hw.to eσ7
        obtain ⟨v8, ev8, hf⟩ := wlet_some hf
        refine lv_iinc (v := v8) (lv' := [(1, .int v8), (0, .ref (ad 0))]) hx hb dX11_copies_20 hl (k := 1) rfl (by rw [ev8]; rfl) (by decide) rfl (fun ls hl => ?_)
        refine lv_goto (tgt := 2) hx hb dX11_copies_23 (by decide) ?_
        exact ih2_1 σ7 v8 (lp_leaf hf hz2_1) ls H locs (lv_sub hl [1, 0] rfl) hw
  exact lo2_1 fuel σ (0 : Int32) hq2_1 ls H locs (lv_sub hl [1, 0] rfl) hw

def f_X11_doomOf (σ : St) (x1 : Int32) (x2 : Int32) (x3 : Int32) : Option (Int32 × St) := Option.bind (f_X11_views σ x1 x2 x3) fun σ2 => bnd2 (f_X11_lawTells σ2 (0 : Int32) x3) fun v4 σ5 => Option.bind (f_X11_within v4 (0 : Int32) (99 : Int32)) fun v7 => some (v7, σ5)
theorem hd_X11_doomOf : yX11_doomOf.cls = RX11 ∧ yX11_doomOf.cls ≠ "java/lang/invoke/MethodHandle" ∧ yX11_doomOf.cls ≠ "java/lang/invoke/VarHandle" ∧ (parseMethodDescriptor yX11_doomOf.desc).map (fun d => d.parameters.length) = some 3 := by decide +kernel
set_option maxRecDepth 100000 in
set_option maxHeartbeats 4000000 in
theorem k_X11_doomOf {l : Launch} {ad : Nat → Nat} {D : va_G} {cy : Nat → ClassId} {z : wStr} (hI : wI WM ad) {σ : St} {x1 : Int32} {x2 : Int32} {x3 : Int32}  {res : Int32 × St} (hf : f_X11_doomOf σ x1 x2 x3 = some res) : wC WM ad D cy z l yX11_doomOf (Cond.code yX11_doomOf cX11_doomOf 4 (Option.some Jvm.ClassFile.FieldType.int) :: aw) (3) (153) [.ref (ad 0), .int x1, .int x2, .int x3] σ (wQi WM ad D cy res.1 res.2) := by
  unfold f_X11_doomOf at hf
  refine wr_start (own := RX11) hI (by decide +kernel) rfl (Nat.le_of_ble_eq_true rfl) rfl ?_
  intro p e s m below meth c ls X hw hr hl
  have hx := X.hx
  have hb := X.hb
  obtain ⟨H, eH⟩ : ∃ H : Heap, H = s.heap := ⟨_, rfl⟩
  obtain ⟨locs, el⟩ : ∃ locs : List Loc, locs = [] := ⟨_, rfl⟩
  rw [← eH, ← el] at hw ⊢
  clear eH el
  replace hl : lv_has ls 4 [(0, .ref (ad 0)), (1, .int x1), (2, .int x2), (3, .int x3)] := hl
  refine lv_aload_n hx hb dX11_doomOf_0 rfl (lv_at hl 0 rfl) ?_
  refine lv_iload_n hx hb dX11_doomOf_1 rfl (lv_at hl 1 rfl) ?_
  refine lv_iload_n hx hb dX11_doomOf_2 rfl (lv_at hl 2 rfl) ?_
  refine lv_iload_n hx hb dX11_doomOf_3 rfl (lv_at hl 3 rfl) ?_
  obtain ⟨σ2, hq1, hf⟩ := bind_some hf
  refine wr_cVv (σ' := σ2) (av := [.int x1, .int x2, .int x3]) (rest := []) X hw hl.1 sM0 nM0 rfl (k_X11_views hI hq1) rfl ml_X11_305 im_X11_views se_X11_views ini_X11 co_X11_views hd_X11_views ⟨Nat.le_of_ble_eq_true rfl, Nat.le_of_ble_eq_true rfl⟩ (Nat.le_of_ble_eq_true rfl) dX11_doomOf_4 rfl (fun H locs hw => ?_)
  refine lv_aload_n hx hb dX11_doomOf_7 rfl (lv_at hl 0 rfl) ?_
  refine lv_iconst (v := 0) hx hb dX11_doomOf_8 (by decide) ?_
  refine lv_iload_n hx hb dX11_doomOf_9 rfl (lv_at hl 3 rfl) ?_
  obtain ⟨v4, σ5, hq3, hf⟩ := bnd2_some hf
  refine wr_cVi (r := v4) (σ' := σ5) (av := [.int (0 : Int32), .int x3]) (rest := []) X hw hl.1 sM0 nM0 rfl (k_X11_lawTells hI hq3) rfl ml_X11_309 im_X11_lawTells se_X11_lawTells ini_X11 co_X11_lawTells hd_X11_lawTells ⟨Nat.le_of_ble_eq_true rfl, Nat.le_of_ble_eq_true rfl⟩ (Nat.le_of_ble_eq_true rfl) dX11_doomOf_10 rfl (fun H locs hw => ?_)
  refine lv_iconst (v := 0) hx hb dX11_doomOf_13 (by decide) ?_
  refine lv_bipush (v := 99) hx hb dX11_doomOf_14 (by decide) ?_
  obtain ⟨v7, hq6, hf⟩ := bind_some hf
  refine wr_cSi (r := v7) (σ' := σ5) (av := [.int v4, .int (0 : Int32), .int (99 : Int32)]) (rest := []) X hw hl.1 (k_X11_within hI hq6) rfl ml_X11_312 st_X11_within ini_X11 co_X11_within hd_X11_within ⟨Nat.le_of_ble_eq_true rfl, Nat.le_of_ble_eq_true rfl⟩ (Nat.le_of_ble_eq_true rfl) dX11_doomOf_16 rfl (fun H locs hw => ?_)
  have er := Option.some.inj hf
  subst er
  exact wr_iret X hw hr (Or.inl rfl) dX11_doomOf_19

def f_X11_kindAt (σ : St) (x1 : Int32) : Option (Int32) := if x1 = 0 then (some (0 : Int32)) else (if ib (x1 - (1 : Int32)) 26 = true then Option.bind (f_X11_deedAt σ (σ.1 27 (Int32.toNatClampNeg (x1 - (1 : Int32))))) fun v4 => if v4 = 0 then (some (1 : Int32)) else (if ib x1 26 = true then Option.bind (f_X11_deedAt σ (σ.1 27 (Int32.toNatClampNeg x1))) fun v8 => if v8 ≤ v4 then (if ib (7 : Int32) 26 = true then if x1 = ((σ.1 27 (Int32.toNatClampNeg (7 : Int32))) - (1 : Int32)) then (some (3 : Int32)) else (some (4 : Int32)) else none) else (some (2 : Int32)) else none) else none)
theorem hd_X11_kindAt : yX11_kindAt.cls = RX11 ∧ yX11_kindAt.cls ≠ "java/lang/invoke/MethodHandle" ∧ yX11_kindAt.cls ≠ "java/lang/invoke/VarHandle" ∧ (parseMethodDescriptor yX11_kindAt.desc).map (fun d => d.parameters.length) = some 1 := by decide +kernel
set_option maxRecDepth 100000 in
set_option maxHeartbeats 4000000 in
theorem k_X11_kindAt {l : Launch} {ad : Nat → Nat} {D : va_G} {cy : Nat → ClassId} {z : wStr} (hI : wI WM ad) {σ : St} {x1 : Int32}  {res : Int32} (hf : f_X11_kindAt σ x1 = some res) : wC WM ad D cy z l yX11_kindAt (Cond.code yX11_kindAt cX11_kindAt 3 (Option.some Jvm.ClassFile.FieldType.int) :: aw) (2) (121) [.ref (ad 0), .int x1] σ (wQi WM ad D cy res σ) := by
  unfold f_X11_kindAt at hf
  refine wr_start (own := RX11) hI (by decide +kernel) rfl (Nat.le_of_ble_eq_true rfl) rfl ?_
  intro p e s m below meth c ls X hw hr hl
  have hx := X.hx
  have hb := X.hb
  obtain ⟨H, eH⟩ : ∃ H : Heap, H = s.heap := ⟨_, rfl⟩
  obtain ⟨locs, el⟩ : ∃ locs : List Loc, locs = [] := ⟨_, rfl⟩
  rw [← eH, ← el] at hw ⊢
  clear eH el
  replace hl : lv_has ls 3 [(0, .ref (ad 0)), (1, .int x1)] := hl
  refine lv_iload_n hx hb dX11_kindAt_0 rfl (lv_at hl 1 rfl) ?_
  refine lv_if_ne (tgt := 6) hx hb dX11_kindAt_1 (by decide) (fun c1 => ?_) (fun c1 => ?_)
  · have hf := (if_neg c1).symm.trans hf
    refine lv_aload_n hx hb dX11_kindAt_6 rfl (lv_at hl 0 rfl) ?_
    refine lv_aload_n hx hb dX11_kindAt_7 rfl (lv_at hl 0 rfl) ?_
    refine gX11_44 (b := 27) X hw sM0 nM0 rfl fl_X11_98 dX11_kindAt_8 ?_
    refine lv_iload_n hx hb dX11_kindAt_11 rfl (lv_at hl 1 rfl) ?_
    refine lv_iconst (v := 1) hx hb dX11_kindAt_12 (by decide) ?_
    refine lv_isub hx hb dX11_kindAt_13 ?_
    obtain ⟨h2, hf⟩ := if_some hf
    refine wr_iald X hw sM27 nM27 h2 dX11_kindAt_14 ?_
    obtain ⟨v4, hq3, hf⟩ := bind_some hf
    refine wr_cVi (r := v4) (σ' := σ) (av := [.int (σ.1 27 (Int32.toNatClampNeg (x1 - (1 : Int32))))]) (rest := []) X hw hl.1 sM0 nM0 rfl (k_X11_deedAt hI hq3) rfl ml_X11_299 im_X11_deedAt se_X11_deedAt ini_X11 co_X11_deedAt hd_X11_deedAt ⟨Nat.le_of_ble_eq_true rfl, Nat.le_of_ble_eq_true rfl⟩ (Nat.le_of_ble_eq_true rfl) dX11_kindAt_15 rfl (fun H locs hw => ?_)
    refine lv_istore_n (lv' := [(2, .int v4), (0, .ref (ad 0)), (1, .int x1)]) hx hb dX11_kindAt_18 rfl hl (by decide) rfl (fun ls hl => ?_)
    refine lv_iload_n hx hb dX11_kindAt_19 rfl (lv_at hl 0 rfl) ?_
    refine lv_if_ne (tgt := 25) hx hb dX11_kindAt_20 (by decide) (fun c5 => ?_) (fun c5 => ?_)
    · have hf := (if_neg c5).symm.trans hf
      refine lv_iload_n hx hb dX11_kindAt_25 rfl (lv_at hl 0 rfl) ?_
      refine lv_aload_n hx hb dX11_kindAt_26 rfl (lv_at hl 1 rfl) ?_
      refine lv_aload_n hx hb dX11_kindAt_27 rfl (lv_at hl 1 rfl) ?_
      refine gX11_44 (b := 27) X hw sM0 nM0 rfl fl_X11_98 dX11_kindAt_28 ?_
      refine lv_iload_n hx hb dX11_kindAt_31 rfl (lv_at hl 2 rfl) ?_
      obtain ⟨h6, hf⟩ := if_some hf
      refine wr_iald X hw sM27 nM27 h6 dX11_kindAt_32 ?_
      obtain ⟨v8, hq7, hf⟩ := bind_some hf
      refine wr_cVi (r := v8) (σ' := σ) (av := [.int (σ.1 27 (Int32.toNatClampNeg x1))]) (rest := [.int v4]) X hw hl.1 sM0 nM0 rfl (k_X11_deedAt hI hq7) rfl ml_X11_299 im_X11_deedAt se_X11_deedAt ini_X11 co_X11_deedAt hd_X11_deedAt ⟨Nat.le_of_ble_eq_true rfl, Nat.le_of_ble_eq_true rfl⟩ (Nat.le_of_ble_eq_true rfl) dX11_kindAt_33 rfl (fun H locs hw => ?_)
      refine lv_icmp_ge (tgt := 41) hx hb dX11_kindAt_36 (by decide) (fun c9 => ?_) (fun c9 => ?_)
      · have hf := (if_pos c9).symm.trans hf
        refine lv_iload_n hx hb dX11_kindAt_41 rfl (lv_at hl 2 rfl) ?_
        refine lv_aload_n hx hb dX11_kindAt_42 rfl (lv_at hl 1 rfl) ?_
        refine gX11_44 (b := 27) X hw sM0 nM0 rfl fl_X11_98 dX11_kindAt_43 ?_
        refine lv_bipush (v := 7) hx hb dX11_kindAt_46 (by decide) ?_
        obtain ⟨h10, hf⟩ := if_some hf
        refine wr_iald X hw sM27 nM27 h10 dX11_kindAt_48 ?_
        refine lv_iconst (v := 1) hx hb dX11_kindAt_49 (by decide) ?_
        refine lv_isub hx hb dX11_kindAt_50 ?_
        refine lv_icmp_ne (tgt := 58) hx hb dX11_kindAt_51 (by decide) (fun c11 => ?_) (fun c11 => ?_)
        · have hf := (if_neg c11).symm.trans hf
          refine lv_iconst (v := 4) hx hb dX11_kindAt_58 (by decide) ?_
          have er := Option.some.inj hf
          subst er
          exact wr_iret X hw hr (Or.inl rfl) dX11_kindAt_59
        · have hf := (if_pos c11).symm.trans hf
          refine lv_iconst (v := 3) hx hb dX11_kindAt_54 (by decide) ?_
          refine lv_goto (tgt := 59) hx hb dX11_kindAt_55 (by decide) ?_
          have er := Option.some.inj hf
          subst er
          exact wr_iret X hw hr (Or.inl rfl) dX11_kindAt_59
      · have hf := (if_neg c9).symm.trans hf
        refine lv_iconst (v := 2) hx hb dX11_kindAt_39 (by decide) ?_
        have er := Option.some.inj hf
        subst er
        exact wr_iret X hw hr (Or.inl rfl) dX11_kindAt_40
    · have hf := (if_pos c5).symm.trans hf
      refine lv_iconst (v := 1) hx hb dX11_kindAt_23 (by decide) ?_
      have er := Option.some.inj hf
      subst er
      exact wr_iret X hw hr (Or.inl rfl) dX11_kindAt_24
  · have hf := (if_pos c1).symm.trans hf
    refine lv_iconst (v := 0) hx hb dX11_kindAt_4 (by decide) ?_
    have er := Option.some.inj hf
    subst er
    exact wr_iret X hw hr (Or.inl rfl) dX11_kindAt_5

def f_X11_pleaOf (σ : St) (x1 : Int32) (x2 : Int32) (x3 : Int32) : Option (Int32 × St) := Option.bind (f_X11_views σ x1 x2 x3) fun σ2 => bnd2 (f_X11_lawTells σ2 (1 : Int32) (x3 / (2 : Int32))) fun v4 σ5 => Option.bind (f_X11_within v4 (0 : Int32) (99 : Int32)) fun v7 => some (v7, σ5)
theorem hd_X11_pleaOf : yX11_pleaOf.cls = RX11 ∧ yX11_pleaOf.cls ≠ "java/lang/invoke/MethodHandle" ∧ yX11_pleaOf.cls ≠ "java/lang/invoke/VarHandle" ∧ (parseMethodDescriptor yX11_pleaOf.desc).map (fun d => d.parameters.length) = some 3 := by decide +kernel
set_option maxRecDepth 100000 in
set_option maxHeartbeats 4000000 in
theorem k_X11_pleaOf {l : Launch} {ad : Nat → Nat} {D : va_G} {cy : Nat → ClassId} {z : wStr} (hI : wI WM ad) {σ : St} {x1 : Int32} {x2 : Int32} {x3 : Int32}  {res : Int32 × St} (hf : f_X11_pleaOf σ x1 x2 x3 = some res) : wC WM ad D cy z l yX11_pleaOf (Cond.code yX11_pleaOf cX11_pleaOf 4 (Option.some Jvm.ClassFile.FieldType.int) :: aw) (3) (153) [.ref (ad 0), .int x1, .int x2, .int x3] σ (wQi WM ad D cy res.1 res.2) := by
  unfold f_X11_pleaOf at hf
  refine wr_start (own := RX11) hI (by decide +kernel) rfl (Nat.le_of_ble_eq_true rfl) rfl ?_
  intro p e s m below meth c ls X hw hr hl
  have hx := X.hx
  have hb := X.hb
  obtain ⟨H, eH⟩ : ∃ H : Heap, H = s.heap := ⟨_, rfl⟩
  obtain ⟨locs, el⟩ : ∃ locs : List Loc, locs = [] := ⟨_, rfl⟩
  rw [← eH, ← el] at hw ⊢
  clear eH el
  replace hl : lv_has ls 4 [(0, .ref (ad 0)), (1, .int x1), (2, .int x2), (3, .int x3)] := hl
  refine lv_aload_n hx hb dX11_pleaOf_0 rfl (lv_at hl 0 rfl) ?_
  refine lv_iload_n hx hb dX11_pleaOf_1 rfl (lv_at hl 1 rfl) ?_
  refine lv_iload_n hx hb dX11_pleaOf_2 rfl (lv_at hl 2 rfl) ?_
  refine lv_iload_n hx hb dX11_pleaOf_3 rfl (lv_at hl 3 rfl) ?_
  obtain ⟨σ2, hq1, hf⟩ := bind_some hf
  refine wr_cVv (σ' := σ2) (av := [.int x1, .int x2, .int x3]) (rest := []) X hw hl.1 sM0 nM0 rfl (k_X11_views hI hq1) rfl ml_X11_305 im_X11_views se_X11_views ini_X11 co_X11_views hd_X11_views ⟨Nat.le_of_ble_eq_true rfl, Nat.le_of_ble_eq_true rfl⟩ (Nat.le_of_ble_eq_true rfl) dX11_pleaOf_4 rfl (fun H locs hw => ?_)
  refine lv_aload_n hx hb dX11_pleaOf_7 rfl (lv_at hl 0 rfl) ?_
  refine lv_iconst (v := 1) hx hb dX11_pleaOf_8 (by decide) ?_
  refine lv_iload_n hx hb dX11_pleaOf_9 rfl (lv_at hl 3 rfl) ?_
  refine lv_iconst (v := 2) hx hb dX11_pleaOf_10 (by decide) ?_
  refine lv_idiv hx hb dX11_pleaOf_11 (by decide) ?_
  obtain ⟨v4, σ5, hq3, hf⟩ := bnd2_some hf
  refine wr_cVi (r := v4) (σ' := σ5) (av := [.int (1 : Int32), .int (x3 / (2 : Int32))]) (rest := []) X hw hl.1 sM0 nM0 rfl (k_X11_lawTells hI hq3) rfl ml_X11_309 im_X11_lawTells se_X11_lawTells ini_X11 co_X11_lawTells hd_X11_lawTells ⟨Nat.le_of_ble_eq_true rfl, Nat.le_of_ble_eq_true rfl⟩ (Nat.le_of_ble_eq_true rfl) dX11_pleaOf_12 rfl (fun H locs hw => ?_)
  refine lv_iconst (v := 0) hx hb dX11_pleaOf_15 (by decide) ?_
  refine lv_bipush (v := 99) hx hb dX11_pleaOf_16 (by decide) ?_
  obtain ⟨v7, hq6, hf⟩ := bind_some hf
  refine wr_cSi (r := v7) (σ' := σ5) (av := [.int v4, .int (0 : Int32), .int (99 : Int32)]) (rest := []) X hw hl.1 (k_X11_within hI hq6) rfl ml_X11_312 st_X11_within ini_X11 co_X11_within hd_X11_within ⟨Nat.le_of_ble_eq_true rfl, Nat.le_of_ble_eq_true rfl⟩ (Nat.le_of_ble_eq_true rfl) dX11_pleaOf_18 rfl (fun H locs hw => ?_)
  have er := Option.some.inj hf
  subst er
  exact wr_iret X hw hr (Or.inl rfl) dX11_pleaOf_21

def f_X11_sufferAt (σ : St) (x1 : Int32) : Option (Int32 × St) := if ib x1 26 = true then wlet (σ.1 27 (Int32.toNatClampNeg x1)) fun v2 => Option.bind (f_X11_kindAt σ x1) fun v4 => if v4 = 0 then (if ib (9 : Int32) 26 = true then bnd2 (f_X11_doomOf σ v2 (0 : Int32) (σ.1 27 (Int32.toNatClampNeg (9 : Int32)))) fun v29 σ30 => some (v29, σ30) else none) else (if v4 = (1 : Int32) then (some ((0 : Int32), σ)) else (if ib (x1 - (1 : Int32)) 26 = true then Option.bind (f_X11_deedAt σ (σ.1 27 (Int32.toNatClampNeg (x1 - (1 : Int32))))) fun v9 => bnd2 (f_X11_doomOf σ v2 x1 v9) fun v11 σ12 => if ib (x1 - (1 : Int32)) 26 = true then Option.bind (f_X11_doesPlead σ12 (σ12.1 27 (Int32.toNatClampNeg (x1 - (1 : Int32))))) fun v15 => wlet (fun (σ_96_16 : St) (x5_96_16 : Int32) => (if v4 = (2 : Int32) then (some ((x5_96_16 / (2 : Int32)), σ_96_16)) else (if v4 = (3 : Int32) then (Option.bind (f_X11_deedAt σ_96_16 v2) fun v20 => some ((x5_96_16 + (v20 / (4 : Int32))), σ_96_16)) else (some (x5_96_16, σ_96_16))) : Option (Int32 × St))) fun k96_16 => if v15 = 0 then (k96_16 σ12 v11) else (bnd2 (f_X11_pleaOf σ12 v2 x1 v9) fun v23 σ24 => Option.bind (f_X11_within (v11 - v23) (0 : Int32) (99 : Int32)) fun v26 => k96_16 σ24 v26) else none else none)) else none
theorem hd_X11_sufferAt : yX11_sufferAt.cls = RX11 ∧ yX11_sufferAt.cls ≠ "java/lang/invoke/MethodHandle" ∧ yX11_sufferAt.cls ≠ "java/lang/invoke/VarHandle" ∧ (parseMethodDescriptor yX11_sufferAt.desc).map (fun d => d.parameters.length) = some 1 := by decide +kernel
set_option maxRecDepth 100000 in
set_option maxHeartbeats 4000000 in
theorem k_X11_sufferAt {l : Launch} {ad : Nat → Nat} {D : va_G} {cy : Nat → ClassId} {z : wStr} (hI : wI WM ad) {σ : St} {x1 : Int32}  {res : Int32 × St} (hf : f_X11_sufferAt σ x1 = some res) : wC WM ad D cy z l yX11_sufferAt (Cond.code yX11_sufferAt cX11_sufferAt 6 (Option.some Jvm.ClassFile.FieldType.int) :: aw) (4) (176) [.ref (ad 0), .int x1] σ (wQi WM ad D cy res.1 res.2) := by
  unfold f_X11_sufferAt at hf
  refine wr_start (own := RX11) hI (by decide +kernel) rfl (Nat.le_of_ble_eq_true rfl) rfl ?_
  intro p e s m below meth c ls X hw hr hl
  have hx := X.hx
  have hb := X.hb
  obtain ⟨H, eH⟩ : ∃ H : Heap, H = s.heap := ⟨_, rfl⟩
  obtain ⟨locs, el⟩ : ∃ locs : List Loc, locs = [] := ⟨_, rfl⟩
  rw [← eH, ← el] at hw ⊢
  clear eH el
  replace hl : lv_has ls 6 [(0, .ref (ad 0)), (1, .int x1)] := hl
  refine lv_aload_n hx hb dX11_sufferAt_0 rfl (lv_at hl 0 rfl) ?_
  refine gX11_44 (b := 27) X hw sM0 nM0 rfl fl_X11_98 dX11_sufferAt_1 ?_
  refine lv_iload_n hx hb dX11_sufferAt_4 rfl (lv_at hl 1 rfl) ?_
  obtain ⟨h1, hf⟩ := if_some hf
  refine wr_iald X hw sM27 nM27 h1 dX11_sufferAt_5 ?_
  obtain ⟨v2, ev2, hf⟩ := wlet_some hf
  refine wr_top ev2 ?_
  refine lv_istore_n (lv' := [(2, .int v2), (0, .ref (ad 0)), (1, .int x1)]) hx hb dX11_sufferAt_6 rfl hl (by decide) rfl (fun ls hl => ?_)
  refine lv_aload_n hx hb dX11_sufferAt_7 rfl (lv_at hl 1 rfl) ?_
  refine lv_iload_n hx hb dX11_sufferAt_8 rfl (lv_at hl 2 rfl) ?_
  obtain ⟨v4, hq3, hf⟩ := bind_some hf
  refine wr_cVi (r := v4) (σ' := σ) (av := [.int x1]) (rest := []) X hw hl.1 sM0 nM0 rfl (k_X11_kindAt hI hq3) rfl ml_X11_315 im_X11_kindAt se_X11_kindAt ini_X11 co_X11_kindAt hd_X11_kindAt ⟨Nat.le_of_ble_eq_true rfl, Nat.le_of_ble_eq_true rfl⟩ (Nat.le_of_ble_eq_true rfl) dX11_sufferAt_9 rfl (fun H locs hw => ?_)
  refine lv_istore_n (lv' := [(3, .int v4), (2, .int v2), (0, .ref (ad 0)), (1, .int x1)]) hx hb dX11_sufferAt_12 rfl hl (by decide) rfl (fun ls hl => ?_)
  refine lv_iload_n hx hb dX11_sufferAt_13 rfl (lv_at hl 0 rfl) ?_
  refine lv_if_ne (tgt := 31) hx hb dX11_sufferAt_14 (by decide) (fun c5 => ?_) (fun c5 => ?_)
  · have hf := (if_neg c5).symm.trans hf
    refine lv_iload_n hx hb dX11_sufferAt_31 rfl (lv_at hl 0 rfl) ?_
    refine lv_iconst (v := 1) hx hb dX11_sufferAt_32 (by decide) ?_
    refine lv_icmp_ne (tgt := 38) hx hb dX11_sufferAt_33 (by decide) (fun c6 => ?_) (fun c6 => ?_)
    · have hf := (if_neg c6).symm.trans hf
      refine lv_aload_n hx hb dX11_sufferAt_38 rfl (lv_at hl 2 rfl) ?_
      refine lv_aload_n hx hb dX11_sufferAt_39 rfl (lv_at hl 2 rfl) ?_
      refine gX11_44 (b := 27) X hw sM0 nM0 rfl fl_X11_98 dX11_sufferAt_40 ?_
      refine lv_iload_n hx hb dX11_sufferAt_43 rfl (lv_at hl 3 rfl) ?_
      refine lv_iconst (v := 1) hx hb dX11_sufferAt_44 (by decide) ?_
      refine lv_isub hx hb dX11_sufferAt_45 ?_
      obtain ⟨h7, hf⟩ := if_some hf
      refine wr_iald X hw sM27 nM27 h7 dX11_sufferAt_46 ?_
      obtain ⟨v9, hq8, hf⟩ := bind_some hf
      refine wr_cVi (r := v9) (σ' := σ) (av := [.int (σ.1 27 (Int32.toNatClampNeg (x1 - (1 : Int32))))]) (rest := []) X hw hl.1 sM0 nM0 rfl (k_X11_deedAt hI hq8) rfl ml_X11_299 im_X11_deedAt se_X11_deedAt ini_X11 co_X11_deedAt hd_X11_deedAt ⟨Nat.le_of_ble_eq_true rfl, Nat.le_of_ble_eq_true rfl⟩ (Nat.le_of_ble_eq_true rfl) dX11_sufferAt_47 rfl (fun H locs hw => ?_)
      refine lv_istore (lv' := [(4, .int v9), (3, .int v4), (2, .int v2), (0, .ref (ad 0)), (1, .int x1)]) hx hb dX11_sufferAt_50 hl (by decide) rfl (fun ls hl => ?_)
      refine lv_aload_n hx hb dX11_sufferAt_52 rfl (lv_at hl 3 rfl) ?_
      refine lv_iload_n hx hb dX11_sufferAt_53 rfl (lv_at hl 2 rfl) ?_
      refine lv_iload_n hx hb dX11_sufferAt_54 rfl (lv_at hl 4 rfl) ?_
      refine lv_iload hx hb dX11_sufferAt_55 (lv_at hl 0 rfl) ?_
      obtain ⟨v11, σ12, hq10, hf⟩ := bnd2_some hf
      refine wr_cVi (r := v11) (σ' := σ12) (av := [.int v2, .int x1, .int v9]) (rest := []) X hw hl.1 sM0 nM0 rfl (k_X11_doomOf hI hq10) rfl ml_X11_318 im_X11_doomOf se_X11_doomOf ini_X11 co_X11_doomOf hd_X11_doomOf ⟨Nat.le_of_ble_eq_true rfl, Nat.le_of_ble_eq_true rfl⟩ (Nat.le_of_ble_eq_true rfl) dX11_sufferAt_57 rfl (fun H locs hw => ?_)
      refine lv_istore (lv' := [(5, .int v11), (4, .int v9), (3, .int v4), (2, .int v2), (0, .ref (ad 0)), (1, .int x1)]) hx hb dX11_sufferAt_60 hl (by decide) rfl (fun ls hl => ?_)
      refine lv_aload_n hx hb dX11_sufferAt_62 rfl (lv_at hl 4 rfl) ?_
      refine lv_aload_n hx hb dX11_sufferAt_63 rfl (lv_at hl 4 rfl) ?_
      refine gX11_44 (b := 27) X hw sM0 nM0 rfl fl_X11_98 dX11_sufferAt_64 ?_
      refine lv_iload_n hx hb dX11_sufferAt_67 rfl (lv_at hl 5 rfl) ?_
      refine lv_iconst (v := 1) hx hb dX11_sufferAt_68 (by decide) ?_
      refine lv_isub hx hb dX11_sufferAt_69 ?_
      obtain ⟨h13, hf⟩ := if_some hf
      refine wr_iald X hw sM27 nM27 h13 dX11_sufferAt_70 ?_
      obtain ⟨v15, hq14, hf⟩ := bind_some hf
      refine wr_cVi (r := v15) (σ' := σ12) (av := [.int (σ12.1 27 (Int32.toNatClampNeg (x1 - (1 : Int32))))]) (rest := []) X hw hl.1 sM0 nM0 rfl (k_X11_doesPlead hI hq14) rfl ml_X11_302 im_X11_doesPlead se_X11_doesPlead ini_X11 co_X11_doesPlead hd_X11_doesPlead ⟨Nat.le_of_ble_eq_true rfl, Nat.le_of_ble_eq_true rfl⟩ (Nat.le_of_ble_eq_true rfl) dX11_sufferAt_71 rfl (fun H locs hw => ?_)
      obtain ⟨k96_16, ek96_16, hf0⟩ := wlet_some hf
      have j96_16 : ∀ (σ_96_16 : St) (x5_96_16 : Int32) (_ : k96_16 σ_96_16 x5_96_16 = some res) (ls : Array Slot) (H : Heap) (locs : List Loc), lv_has ls 6 [(0, .ref (ad 0)), (2, .int v2), (3, .int v4), (5, .int x5_96_16)] → wH WM ad D cy s σ_96_16 H locs → W p l e { frames := 4, cells := 0, slots := 0, locals := 176 } s m [.ref (ad 0), .int x1].toArray below meth c H locs 0 0 (MQ below (wQi WM ad D cy res.1 res.2) [.ref (ad 0), .int x1].toArray s 0 0 (wA WM ad)) (F0 m 96 ls []) := by
        intro σ_96_16 x5_96_16 hf ls H locs hl hw
        rw [ek96_16] at hf
        refine lv_iload_n hx hb dX11_sufferAt_96 rfl (lv_at hl 2 rfl) ?_
        refine lv_iconst (v := 2) hx hb dX11_sufferAt_97 (by decide) ?_
        refine lv_icmp_ne (tgt := 108) hx hb dX11_sufferAt_98 (by decide) (fun c17 => ?_) (fun c17 => ?_)
        · have hf := (if_neg c17).symm.trans hf
          refine lv_iload_n hx hb dX11_sufferAt_108 rfl (lv_at hl 2 rfl) ?_
          refine lv_iconst (v := 3) hx hb dX11_sufferAt_109 (by decide) ?_
          refine lv_icmp_ne (tgt := 126) hx hb dX11_sufferAt_110 (by decide) (fun c18 => ?_) (fun c18 => ?_)
          · have hf := (if_neg c18).symm.trans hf
            refine lv_iload hx hb dX11_sufferAt_126 (lv_at hl 3 rfl) ?_
            have er := Option.some.inj hf
            subst er
            exact wr_iret X hw hr (Or.inl rfl) dX11_sufferAt_128
          · have hf := (if_pos c18).symm.trans hf
            refine lv_iload hx hb dX11_sufferAt_113 (lv_at hl 3 rfl) ?_
            refine lv_aload_n hx hb dX11_sufferAt_115 rfl (lv_at hl 0 rfl) ?_
            refine lv_iload_n hx hb dX11_sufferAt_116 rfl (lv_at hl 1 rfl) ?_
            obtain ⟨v20, hq19, hf⟩ := bind_some hf
            refine wr_cVi (r := v20) (σ' := σ_96_16) (av := [.int v2]) (rest := [.int x5_96_16]) X hw hl.1 sM0 nM0 rfl (k_X11_deedAt hI hq19) rfl ml_X11_299 im_X11_deedAt se_X11_deedAt ini_X11 co_X11_deedAt hd_X11_deedAt ⟨Nat.le_of_ble_eq_true rfl, Nat.le_of_ble_eq_true rfl⟩ (Nat.le_of_ble_eq_true rfl) dX11_sufferAt_117 rfl (fun H locs hw => ?_)
            refine lv_iconst (v := 4) hx hb dX11_sufferAt_120 (by decide) ?_
            refine lv_idiv hx hb dX11_sufferAt_121 (by decide) ?_
            refine lv_iadd hx hb dX11_sufferAt_122 ?_
            refine lv_goto (tgt := 128) hx hb dX11_sufferAt_123 (by decide) ?_
            have er := Option.some.inj hf
            subst er
            exact wr_iret X hw hr (Or.inl rfl) dX11_sufferAt_128
        · have hf := (if_pos c17).symm.trans hf
          refine lv_iload hx hb dX11_sufferAt_101 (lv_at hl 3 rfl) ?_
          refine lv_iconst (v := 2) hx hb dX11_sufferAt_103 (by decide) ?_
          refine lv_idiv hx hb dX11_sufferAt_104 (by decide) ?_
          refine lv_goto (tgt := 128) hx hb dX11_sufferAt_105 (by decide) ?_
          have er := Option.some.inj hf
          subst er
          exact wr_iret X hw hr (Or.inl rfl) dX11_sufferAt_128
      replace hf := hf0
      refine lv_if_eq (tgt := 96) hx hb dX11_sufferAt_74 (by decide) (fun c21 => ?_) (fun c21 => ?_)
      · have hf := (if_pos c21).symm.trans hf
        exact j96_16 σ12 v11 hf ls H locs (lv_sub hl [4, 3, 2, 0] rfl) hw
      · have hf := (if_neg c21).symm.trans hf
        refine lv_iload hx hb dX11_sufferAt_77 (lv_at hl 0 rfl) ?_
        refine lv_aload_n hx hb dX11_sufferAt_79 rfl (lv_at hl 4 rfl) ?_
        refine lv_iload_n hx hb dX11_sufferAt_80 rfl (lv_at hl 3 rfl) ?_
        refine lv_iload_n hx hb dX11_sufferAt_81 rfl (lv_at hl 5 rfl) ?_
        refine lv_iload hx hb dX11_sufferAt_82 (lv_at hl 1 rfl) ?_
        obtain ⟨v23, σ24, hq22, hf⟩ := bnd2_some hf
        refine wr_cVi (r := v23) (σ' := σ24) (av := [.int v2, .int x1, .int v9]) (rest := [.int v11]) X hw hl.1 sM0 nM0 rfl (k_X11_pleaOf hI hq22) rfl ml_X11_321 im_X11_pleaOf se_X11_pleaOf ini_X11 co_X11_pleaOf hd_X11_pleaOf ⟨Nat.le_of_ble_eq_true rfl, Nat.le_of_ble_eq_true rfl⟩ (Nat.le_of_ble_eq_true rfl) dX11_sufferAt_84 rfl (fun H locs hw => ?_)
        refine lv_isub hx hb dX11_sufferAt_87 ?_
        refine lv_iconst (v := 0) hx hb dX11_sufferAt_88 (by decide) ?_
        refine lv_bipush (v := 99) hx hb dX11_sufferAt_89 (by decide) ?_
        obtain ⟨v26, hq25, hf⟩ := bind_some hf
        refine wr_cSi (r := v26) (σ' := σ24) (av := [.int (v11 - v23), .int (0 : Int32), .int (99 : Int32)]) (rest := []) X hw hl.1 (k_X11_within hI hq25) rfl ml_X11_312 st_X11_within ini_X11 co_X11_within hd_X11_within ⟨Nat.le_of_ble_eq_true rfl, Nat.le_of_ble_eq_true rfl⟩ (Nat.le_of_ble_eq_true rfl) dX11_sufferAt_91 rfl (fun H locs hw => ?_)
        refine lv_istore (lv' := [(5, .int v26), (4, .int v9), (3, .int v4), (2, .int v2), (0, .ref (ad 0)), (1, .int x1)]) hx hb dX11_sufferAt_94 hl (by decide) rfl (fun ls hl => ?_)
        exact j96_16 σ24 v26 hf ls H locs (lv_sub hl [4, 3, 2, 0] rfl) hw
    · have hf := (if_pos c6).symm.trans hf
      refine lv_iconst (v := 0) hx hb dX11_sufferAt_36 (by decide) ?_
      have er := Option.some.inj hf
      subst er
      exact wr_iret X hw hr (Or.inl rfl) dX11_sufferAt_37
  · have hf := (if_pos c5).symm.trans hf
    refine lv_aload_n hx hb dX11_sufferAt_17 rfl (lv_at hl 2 rfl) ?_
    refine lv_iload_n hx hb dX11_sufferAt_18 rfl (lv_at hl 1 rfl) ?_
    refine lv_iconst (v := 0) hx hb dX11_sufferAt_19 (by decide) ?_
    refine lv_aload_n hx hb dX11_sufferAt_20 rfl (lv_at hl 2 rfl) ?_
    refine gX11_44 (b := 27) X hw sM0 nM0 rfl fl_X11_98 dX11_sufferAt_21 ?_
    refine lv_bipush (v := 9) hx hb dX11_sufferAt_24 (by decide) ?_
    obtain ⟨h27, hf⟩ := if_some hf
    refine wr_iald X hw sM27 nM27 h27 dX11_sufferAt_26 ?_
    obtain ⟨v29, σ30, hq28, hf⟩ := bnd2_some hf
    refine wr_cVi (r := v29) (σ' := σ30) (av := [.int v2, .int (0 : Int32), .int (σ.1 27 (Int32.toNatClampNeg (9 : Int32)))]) (rest := []) X hw hl.1 sM0 nM0 rfl (k_X11_doomOf hI hq28) rfl ml_X11_318 im_X11_doomOf se_X11_doomOf ini_X11 co_X11_doomOf hd_X11_doomOf ⟨Nat.le_of_ble_eq_true rfl, Nat.le_of_ble_eq_true rfl⟩ (Nat.le_of_ble_eq_true rfl) dX11_sufferAt_27 rfl (fun H locs hw => ?_)
    have er := Option.some.inj hf
    subst er
    exact wr_iret X hw hr (Or.inl rfl) dX11_sufferAt_30

def f_X11_doesFit (σ : St) (x1 : Int32) : Option (Int32 × St) := wlet (un2 (fun (σ2_1 : St) (x2_2_1 : Int32) => if ib (7 : Int32) 26 = true then if (σ2_1.1 27 (Int32.toNatClampNeg (7 : Int32))) ≤ x2_2_1 then (some (.inr σ2_1)) else (bnd2 (f_X11_sufferAt σ2_1 x2_2_1) fun v18 σ19 => if ib x2_2_1 7 = true then wlet (si σ19 34 (Int32.toNatClampNeg x2_2_1) v18) fun σ21 => wlet (x2_2_1 + (1 : Int32)) fun v22 => some (.inl (σ21, v22)) else none) else none) : St × Int32 → Option ((St × Int32) ⊕ (St))) fun st2_1 => Option.bind (lp st2_1 fuel (σ, (0 : Int32))) ((fun (σe2_1 : St) => wlet (fun (x2_32_2 : Int32) => if x1 ≤ x2_32_2 then (some (.inr (.inl ()))) else (if ib x2_32_2 20 = true then if ib (7 : Int32) 26 = true then if (σe2_1.1 27 (Int32.toNatClampNeg (7 : Int32))) ≤ (σe2_1.1 31 (Int32.toNatClampNeg x2_32_2)) then (some (.inr (.inr ((0 : Int32), σe2_1)))) else (if ib x2_32_2 20 = true then if ib (σe2_1.1 31 (Int32.toNatClampNeg x2_32_2)) 7 = true then if ib x2_32_2 20 = true then wlet (fun (s0_78_10 : Int32) => (if ib x2_32_2 20 = true then if s0_78_10 = (σe2_1.1 33 (Int32.toNatClampNeg x2_32_2)) then (wlet (x2_32_2 + (1 : Int32)) fun v13 => some (.inl v13)) else (some (.inr (.inr ((0 : Int32), σe2_1)))) else none : Option ((Int32) ⊕ ((Unit) ⊕ (Int32 × St))))) fun k78_10 => if (σe2_1.1 34 (Int32.toNatClampNeg (σe2_1.1 31 (Int32.toNatClampNeg x2_32_2)))) < (σe2_1.1 32 (Int32.toNatClampNeg x2_32_2)) then (k78_10 (0 : Int32)) else (k78_10 (1 : Int32)) else none else none else none) else none else none) : Int32 → Option ((Int32) ⊕ ((Unit) ⊕ (Int32 × St)))) fun st32_2 => Option.bind (lp st32_2 fuel (0 : Int32)) (sumk (fun (_ : Unit) => some ((1 : Int32), σe2_1)) (fun m => some m))))
theorem hd_X11_doesFit : yX11_doesFit.cls = RX11 ∧ yX11_doesFit.cls ≠ "java/lang/invoke/MethodHandle" ∧ yX11_doesFit.cls ≠ "java/lang/invoke/VarHandle" ∧ (parseMethodDescriptor yX11_doesFit.desc).map (fun d => d.parameters.length) = some 1 := by decide +kernel
set_option maxRecDepth 100000 in
set_option maxHeartbeats 4000000 in
theorem k_X11_doesFit {l : Launch} {ad : Nat → Nat} {D : va_G} {cy : Nat → ClassId} {z : wStr} (hI : wI WM ad) {σ : St} {x1 : Int32}  {res : Int32 × St} (hf : f_X11_doesFit σ x1 = some res) : wC WM ad D cy z l yX11_doesFit (Cond.code yX11_doesFit cX11_doesFit 3 (Option.some Jvm.ClassFile.FieldType.boolean) :: aw) (5) (201) [.ref (ad 0), .int x1] σ (wQi WM ad D cy res.1 res.2) := by
  unfold f_X11_doesFit at hf
  refine wr_start (own := RX11) hI (by decide +kernel) rfl (Nat.le_of_ble_eq_true rfl) rfl ?_
  intro p e s m below meth c ls X hw hr hl
  have hx := X.hx
  have hb := X.hb
  obtain ⟨H, eH⟩ : ∃ H : Heap, H = s.heap := ⟨_, rfl⟩
  obtain ⟨locs, el⟩ : ∃ locs : List Loc, locs = [] := ⟨_, rfl⟩
  rw [← eH, ← el] at hw ⊢
  clear eH el
  replace hl : lv_has ls 3 [(0, .ref (ad 0)), (1, .int x1)] := hl
  refine lv_iconst (v := 0) hx hb dX11_doesFit_0 (by decide) ?_
  refine lv_istore_n (lv' := [(2, .int (0 : Int32)), (0, .ref (ad 0)), (1, .int x1)]) hx hb dX11_doesFit_1 rfl hl (by decide) rfl (fun ls hl => ?_)
  obtain ⟨st2_1, est2_1, hf⟩ := wlet_some hf
  obtain ⟨E2_1, hq2_1, hE2_1⟩ := bind_some hf
  have hx2_1 : ∀ (σe2_1 : St) (_ : σe2_1 = E2_1) (ls : Array Slot) (H : Heap) (locs : List Loc), lv_has ls 3 [(0, .ref (ad 0)), (1, .int x1)] → wH WM ad D cy s σe2_1 H locs → W p l e { frames := 5, cells := 0, slots := 0, locals := 201 } s m [.ref (ad 0), .int x1].toArray below meth c H locs 0 0 (MQ below (wQi WM ad D cy res.1 res.2) [.ref (ad 0), .int x1].toArray s 0 0 (wA WM ad)) (F0 m 30 ls []) := by
    intro σe2_1 e0 ls H locs hl hw
    subst e0
    have hf := hE2_1
    refine lv_iconst (v := 0) hx hb dX11_doesFit_30 (by decide) ?_
    refine lv_istore_n (lv' := [(2, .int (0 : Int32)), (0, .ref (ad 0)), (1, .int x1)]) hx hb dX11_doesFit_31 rfl hl (by decide) rfl (fun ls hl => ?_)
    obtain ⟨st32_2, est32_2, hf⟩ := wlet_some hf
    obtain ⟨E32_2, hq32_2, hE32_2⟩ := bind_some hf
    have hx32_2 : ∀ (_ : Sum.inl () = E32_2) (ls : Array Slot) (H : Heap) (locs : List Loc), lv_has ls 3 [] → wH WM ad D cy s σe2_1 H locs → W p l e { frames := 5, cells := 0, slots := 0, locals := 201 } s m [.ref (ad 0), .int x1].toArray below meth c H locs 0 0 (MQ below (wQi WM ad D cy res.1 res.2) [.ref (ad 0), .int x1].toArray s 0 0 (wA WM ad)) (F0 m 95 ls []) := by
      intro  e0 ls H locs hl hw
      have hf := sumk_l hE32_2 e0
      refine lv_iconst (v := 1) hx hb dX11_doesFit_95 (by decide) ?_
      have er := Option.some.inj hf
      subst er
      exact wr_iret X hw hr (Or.inr ⟨rfl, (show bz (1 : Int32) = true from rfl)⟩) dX11_doesFit_96
    have lo32_2 : ∀ (n : Nat) (x2_32_2 : Int32) (_ : lp st32_2 n x2_32_2 = some E32_2) (ls : Array Slot) (H : Heap) (locs : List Loc), lv_has ls 3 [(0, .ref (ad 0)), (1, .int x1), (2, .int x2_32_2)] → wH WM ad D cy s σe2_1 H locs → W p l e { frames := 5, cells := 0, slots := 0, locals := 201 } s m [.ref (ad 0), .int x1].toArray below meth c H locs 0 0 (MQ below (wQi WM ad D cy res.1 res.2) [.ref (ad 0), .int x1].toArray s 0 0 (wA WM ad)) (F0 m 32 ls []) := by
      intro n
      induction n with
      | zero =>
        intro x2_32_2 hf ls H locs hl hw
        exact (lp_zero hf).elim
      | succ n ih32_2 =>
        intro x2_32_2 hf ls H locs hl hw
        obtain ⟨q32_2, hf, hz32_2⟩ := lp_succ hf
        rw [est32_2] at hf
        refine lv_iload_n hx hb dX11_doesFit_32 rfl (lv_at hl 2 rfl) ?_
        refine lv_iload_n hx hb dX11_doesFit_33 rfl (lv_at hl 1 rfl) ?_
        refine lv_icmp_ge (tgt := 95) hx hb dX11_doesFit_34 (by decide) (fun c3 => ?_) (fun c3 => ?_)
        · have hf := (if_pos c3).symm.trans hf
          exact hx32_2  (lpK_inr (lp_leaf hf hz32_2)) ls H locs (lv_sub hl [] rfl) hw
        · have hf := (if_neg c3).symm.trans hf
          refine lv_aload_n hx hb dX11_doesFit_37 rfl (lv_at hl 0 rfl) ?_
          refine gX11_52 (b := 31) X hw sM0 nM0 rfl fl_X11_110 dX11_doesFit_38 ?_
          refine lv_iload_n hx hb dX11_doesFit_41 rfl (lv_at hl 2 rfl) ?_
          obtain ⟨h4, hf⟩ := if_some hf
          refine wr_iald X hw sM31 nM31 h4 dX11_doesFit_42 ?_
          refine lv_aload_n hx hb dX11_doesFit_43 rfl (lv_at hl 0 rfl) ?_
          refine gX11_44 (b := 27) X hw sM0 nM0 rfl fl_X11_98 dX11_doesFit_44 ?_
          refine lv_bipush (v := 7) hx hb dX11_doesFit_47 (by decide) ?_
          obtain ⟨h5, hf⟩ := if_some hf
          refine wr_iald X hw sM27 nM27 h5 dX11_doesFit_49 ?_
          refine lv_icmp_ge (tgt := 87) hx hb dX11_doesFit_50 (by decide) (fun c6 => ?_) (fun c6 => ?_)
          · have hf := (if_pos c6).symm.trans hf
            refine lv_iconst (v := 0) hx hb dX11_doesFit_87 (by decide) ?_
            have e32_2 := lpK_inr (lp_leaf hf hz32_2)
            have hf := sumk_r hE32_2 e32_2
            have er := Option.some.inj hf
            subst er
            exact wr_iret X hw hr (Or.inr ⟨rfl, (show bz (0 : Int32) = true from rfl)⟩) dX11_doesFit_88
          · have hf := (if_neg c6).symm.trans hf
            refine lv_aload_n hx hb dX11_doesFit_53 rfl (lv_at hl 0 rfl) ?_
            refine gX11_55 (b := 34) X hw sM0 nM0 rfl fl_X11_119 dX11_doesFit_54 ?_
            refine lv_aload_n hx hb dX11_doesFit_57 rfl (lv_at hl 0 rfl) ?_
            refine gX11_52 (b := 31) X hw sM0 nM0 rfl fl_X11_110 dX11_doesFit_58 ?_
            refine lv_iload_n hx hb dX11_doesFit_61 rfl (lv_at hl 2 rfl) ?_
            obtain ⟨h7, hf⟩ := if_some hf
            refine wr_iald X hw sM31 nM31 h7 dX11_doesFit_62 ?_
            obtain ⟨h8, hf⟩ := if_some hf
            refine wr_iald X hw sM34 nM34 h8 dX11_doesFit_63 ?_
            refine lv_aload_n hx hb dX11_doesFit_64 rfl (lv_at hl 0 rfl) ?_
            refine gX11_53 (b := 32) X hw sM0 nM0 rfl fl_X11_113 dX11_doesFit_65 ?_
            refine lv_iload_n hx hb dX11_doesFit_68 rfl (lv_at hl 2 rfl) ?_
            obtain ⟨h9, hf⟩ := if_some hf
            refine wr_iald X hw sM32 nM32 h9 dX11_doesFit_69 ?_
            obtain ⟨k78_10, ek78_10, hf0⟩ := wlet_some hf
            have j78_10 : ∀ (s0_78_10 : Int32) (_ : k78_10 s0_78_10 = some q32_2) (ls : Array Slot) (H : Heap) (locs : List Loc), lv_has ls 3 [(0, .ref (ad 0)), (1, .int x1), (2, .int x2_32_2)] → wH WM ad D cy s σe2_1 H locs → W p l e { frames := 5, cells := 0, slots := 0, locals := 201 } s m [.ref (ad 0), .int x1].toArray below meth c H locs 0 0 (MQ below (wQi WM ad D cy res.1 res.2) [.ref (ad 0), .int x1].toArray s 0 0 (wA WM ad)) (F0 m 78 ls [.int s0_78_10]) := by
              intro s0_78_10 hf ls H locs hl hw
              rw [ek78_10] at hf
              refine lv_aload_n hx hb dX11_doesFit_78 rfl (lv_at hl 0 rfl) ?_
              refine gX11_54 (b := 33) X hw sM0 nM0 rfl fl_X11_116 dX11_doesFit_79 ?_
              refine lv_iload_n hx hb dX11_doesFit_82 rfl (lv_at hl 2 rfl) ?_
              obtain ⟨h11, hf⟩ := if_some hf
              refine wr_zald X hw sM33 nM33 h11 dX11_doesFit_83 ?_
              refine lv_icmp_eq (tgt := 89) hx hb dX11_doesFit_84 (by decide) (fun c12 => ?_) (fun c12 => ?_)
              · have hf := (if_pos c12).symm.trans hf
                obtain ⟨v13, ev13, hf⟩ := wlet_some hf
                refine lv_iinc (v := v13) (lv' := [(2, .int v13), (0, .ref (ad 0)), (1, .int x1)]) hx hb dX11_doesFit_89 hl (k := 2) rfl (by rw [ev13]; rfl) (by decide) rfl (fun ls hl => ?_)
                refine lv_goto (tgt := 32) hx hb dX11_doesFit_92 (by decide) ?_
                exact ih32_2 v13 (lp_leaf hf hz32_2) ls H locs (lv_sub hl [1, 2, 0] rfl) hw
              · have hf := (if_neg c12).symm.trans hf
                refine lv_iconst (v := 0) hx hb dX11_doesFit_87 (by decide) ?_
                have e32_2 := lpK_inr (lp_leaf hf hz32_2)
                have hf := sumk_r hE32_2 e32_2
                have er := Option.some.inj hf
                subst er
                exact wr_iret X hw hr (Or.inr ⟨rfl, (show bz (0 : Int32) = true from rfl)⟩) dX11_doesFit_88
            replace hf := hf0
            refine lv_icmp_lt (tgt := 77) hx hb dX11_doesFit_70 (by decide) (fun c14 => ?_) (fun c14 => ?_)
            · have hf := (if_pos c14).symm.trans hf
              refine lv_iconst (v := 0) hx hb dX11_doesFit_77 (by decide) ?_
              exact j78_10 (0 : Int32) hf ls H locs (lv_sub hl [0, 1, 2] rfl) hw
            · have hf := (if_neg c14).symm.trans hf
              refine lv_iconst (v := 1) hx hb dX11_doesFit_73 (by decide) ?_
              refine lv_goto (tgt := 78) hx hb dX11_doesFit_74 (by decide) ?_
              exact j78_10 (1 : Int32) hf ls H locs (lv_sub hl [0, 1, 2] rfl) hw
    exact lo32_2 fuel (0 : Int32) hq32_2 ls H locs (lv_sub hl [1, 2, 0] rfl) hw
  have lo2_1 : ∀ (n : Nat) (σ2_1 : St) (x2_2_1 : Int32) (_ : lp st2_1 n (σ2_1, x2_2_1) = some E2_1) (ls : Array Slot) (H : Heap) (locs : List Loc), lv_has ls 3 [(0, .ref (ad 0)), (1, .int x1), (2, .int x2_2_1)] → wH WM ad D cy s σ2_1 H locs → W p l e { frames := 5, cells := 0, slots := 0, locals := 201 } s m [.ref (ad 0), .int x1].toArray below meth c H locs 0 0 (MQ below (wQi WM ad D cy res.1 res.2) [.ref (ad 0), .int x1].toArray s 0 0 (wA WM ad)) (F0 m 2 ls []) := by
    intro n
    induction n with
    | zero =>
      intro σ2_1 x2_2_1 hf ls H locs hl hw
      exact (lp_zero hf).elim
    | succ n ih2_1 =>
      intro σ2_1 x2_2_1 hf ls H locs hl hw
      obtain ⟨q2_1, hf, hz2_1⟩ := lp_succ hf
      rw [est2_1] at hf
      replace hf := un2_some hf
      refine lv_iload_n hx hb dX11_doesFit_2 rfl (lv_at hl 2 rfl) ?_
      refine lv_aload_n hx hb dX11_doesFit_3 rfl (lv_at hl 0 rfl) ?_
      refine gX11_44 (b := 27) X hw sM0 nM0 rfl fl_X11_98 dX11_doesFit_4 ?_
      refine lv_bipush (v := 7) hx hb dX11_doesFit_7 (by decide) ?_
      obtain ⟨h15, hf⟩ := if_some hf
      refine wr_iald X hw sM27 nM27 h15 dX11_doesFit_9 ?_
      refine lv_icmp_ge (tgt := 30) hx hb dX11_doesFit_10 (by decide) (fun c16 => ?_) (fun c16 => ?_)
      · have hf := (if_pos c16).symm.trans hf
        exact hx2_1 σ2_1 (lpK_inr (lp_leaf hf hz2_1)) ls H locs (lv_sub hl [0, 1] rfl) hw
      · have hf := (if_neg c16).symm.trans hf
        refine lv_aload_n hx hb dX11_doesFit_13 rfl (lv_at hl 0 rfl) ?_
        refine gX11_55 (b := 34) X hw sM0 nM0 rfl fl_X11_119 dX11_doesFit_14 ?_
        refine lv_iload_n hx hb dX11_doesFit_17 rfl (lv_at hl 2 rfl) ?_
        refine lv_aload_n hx hb dX11_doesFit_18 rfl (lv_at hl 0 rfl) ?_
        refine lv_iload_n hx hb dX11_doesFit_19 rfl (lv_at hl 2 rfl) ?_
        obtain ⟨v18, σ19, hq17, hf⟩ := bnd2_some hf
        refine wr_cVi (r := v18) (σ' := σ19) (av := [.int x2_2_1]) (rest := [.int x2_2_1, .ref (ad 34)]) X hw hl.1 sM0 nM0 rfl (k_X11_sufferAt hI hq17) rfl ml_X11_324 im_X11_sufferAt se_X11_sufferAt ini_X11 co_X11_sufferAt hd_X11_sufferAt ⟨Nat.le_of_ble_eq_true rfl, Nat.le_of_ble_eq_true rfl⟩ (Nat.le_of_ble_eq_true rfl) dX11_doesFit_20 rfl (fun H locs hw => ?_)
        obtain ⟨h20, hf⟩ := if_some hf
        obtain ⟨σ21, eσ21, hf⟩ := wlet_some hf
        refine wr_iast X hw sM34 nM34 h20 dX11_doesFit_23 (fun H locs hw => ?_)
        replace hw := hw.to eσ21
        obtain ⟨v22, ev22, hf⟩ := wlet_some hf
        refine lv_iinc (v := v22) (lv' := [(2, .int v22), (0, .ref (ad 0)), (1, .int x1)]) hx hb dX11_doesFit_24 hl (k := 2) rfl (by rw [ev22]; rfl) (by decide) rfl (fun ls hl => ?_)
        refine lv_goto (tgt := 2) hx hb dX11_doesFit_27 (by decide) ?_
        exact ih2_1 σ21 v22 (lp_leaf hf hz2_1) ls H locs (lv_sub hl [1, 2, 0] rfl) hw
  exact lo2_1 fuel σ (0 : Int32) hq2_1 ls H locs (lv_sub hl [1, 2, 0] rfl) hw

def f_X11_firstOrder (σ : St)  : Option (St) := wlet (un2 (fun (σ2_1 : St) (x1_2_1 : Int32) => if ib (7 : Int32) 26 = true then if (σ2_1.1 27 (Int32.toNatClampNeg (7 : Int32))) ≤ x1_2_1 then (some (.inr σ2_1)) else (if ib x1_2_1 26 = true then wlet (σ2_1.1 27 (Int32.toNatClampNeg x1_2_1)) fun v5 => wlet (un2 (fun (σ22_6 : St) (x3_22_6 : Int32) => if x3_22_6 ≤ 0 then (some (.inr (σ22_6, x3_22_6))) else (if ib (x3_22_6 - (1 : Int32)) 26 = true then if (σ22_6.1 27 (Int32.toNatClampNeg (x3_22_6 - (1 : Int32)))) ≤ v5 then (some (.inr (σ22_6, x3_22_6))) else (if ib (x3_22_6 - (1 : Int32)) 26 = true then if ib x3_22_6 26 = true then wlet (si σ22_6 27 (Int32.toNatClampNeg x3_22_6) (σ22_6.1 27 (Int32.toNatClampNeg (x3_22_6 - (1 : Int32))))) fun σ15 => wlet (x3_22_6 + (-1 : Int32)) fun v16 => some (.inl (σ15, v16)) else none else none) else none)) : St × Int32 → Option ((St × Int32) ⊕ (St × Int32))) fun st22_6 => Option.bind (lp st22_6 fuel (σ2_1, x1_2_1)) ((un2 (fun (σe22_6 : St) (x3_e22_6 : Int32) => if ib x3_e22_6 26 = true then wlet (si σe22_6 27 (Int32.toNatClampNeg x3_e22_6) v5) fun σ8 => wlet (x1_2_1 + (1 : Int32)) fun v9 => some (.inl (σ8, v9)) else none))) else none) else none) : St × Int32 → Option ((St × Int32) ⊕ (St))) fun st2_1 => Option.bind (lp st2_1 fuel (σ, (1 : Int32))) ((fun (σe2_1 : St) => some σe2_1))
theorem hd_X11_firstOrder : yX11_firstOrder.cls = RX11 ∧ yX11_firstOrder.cls ≠ "java/lang/invoke/MethodHandle" ∧ yX11_firstOrder.cls ≠ "java/lang/invoke/VarHandle" ∧ (parseMethodDescriptor yX11_firstOrder.desc).map (fun d => d.parameters.length) = some 0 := by decide +kernel
set_option maxRecDepth 100000 in
set_option maxHeartbeats 4000000 in
theorem k_X11_firstOrder {l : Launch} {ad : Nat → Nat} {D : va_G} {cy : Nat → ClassId} {z : wStr} (hI : wI WM ad) {σ : St}   {res : St} (hf : f_X11_firstOrder σ  = some res) : wC WM ad D cy z l yX11_firstOrder (Cond.code yX11_firstOrder cX11_firstOrder 4 (none) :: aw) (1) (100) [.ref (ad 0)] σ (wQv WM ad D cy res) := by
  unfold f_X11_firstOrder at hf
  refine wr_start (own := RX11) hI (by decide +kernel) rfl (Nat.le_of_ble_eq_true rfl) rfl ?_
  intro p e s m below meth c ls X hw hr hl
  have hx := X.hx
  have hb := X.hb
  obtain ⟨H, eH⟩ : ∃ H : Heap, H = s.heap := ⟨_, rfl⟩
  obtain ⟨locs, el⟩ : ∃ locs : List Loc, locs = [] := ⟨_, rfl⟩
  rw [← eH, ← el] at hw ⊢
  clear eH el
  replace hl : lv_has ls 4 [(0, .ref (ad 0))] := hl
  refine lv_iconst (v := 1) hx hb dX11_firstOrder_0 (by decide) ?_
  refine lv_istore_n (lv' := [(1, .int (1 : Int32)), (0, .ref (ad 0))]) hx hb dX11_firstOrder_1 rfl hl (by decide) rfl (fun ls hl => ?_)
  obtain ⟨st2_1, est2_1, hf⟩ := wlet_some hf
  obtain ⟨E2_1, hq2_1, hE2_1⟩ := bind_some hf
  have hx2_1 : ∀ (σe2_1 : St) (_ : σe2_1 = E2_1) (ls : Array Slot) (H : Heap) (locs : List Loc), lv_has ls 4 [] → wH WM ad D cy s σe2_1 H locs → W p l e { frames := 1, cells := 0, slots := 0, locals := 100 } s m [.ref (ad 0)].toArray below meth c H locs 0 0 (MQ below (wQv WM ad D cy res) [.ref (ad 0)].toArray s 0 0 (wA WM ad)) (F0 m 71 ls []) := by
    intro σe2_1 e0 ls H locs hl hw
    subst e0
    have hf := hE2_1
    have er := Option.some.inj hf
    subst er
    exact wr_vret X hw hr dX11_firstOrder_71
  have lo2_1 : ∀ (n : Nat) (σ2_1 : St) (x1_2_1 : Int32) (_ : lp st2_1 n (σ2_1, x1_2_1) = some E2_1) (ls : Array Slot) (H : Heap) (locs : List Loc), lv_has ls 4 [(0, .ref (ad 0)), (1, .int x1_2_1)] → wH WM ad D cy s σ2_1 H locs → W p l e { frames := 1, cells := 0, slots := 0, locals := 100 } s m [.ref (ad 0)].toArray below meth c H locs 0 0 (MQ below (wQv WM ad D cy res) [.ref (ad 0)].toArray s 0 0 (wA WM ad)) (F0 m 2 ls []) := by
    intro n
    induction n with
    | zero =>
      intro σ2_1 x1_2_1 hf ls H locs hl hw
      exact (lp_zero hf).elim
    | succ n ih2_1 =>
      intro σ2_1 x1_2_1 hf ls H locs hl hw
      obtain ⟨q2_1, hf, hz2_1⟩ := lp_succ hf
      rw [est2_1] at hf
      replace hf := un2_some hf
      refine lv_iload_n hx hb dX11_firstOrder_2 rfl (lv_at hl 1 rfl) ?_
      refine lv_aload_n hx hb dX11_firstOrder_3 rfl (lv_at hl 0 rfl) ?_
      refine gX11_44 (b := 27) X hw sM0 nM0 rfl fl_X11_98 dX11_firstOrder_4 ?_
      refine lv_bipush (v := 7) hx hb dX11_firstOrder_7 (by decide) ?_
      obtain ⟨h2, hf⟩ := if_some hf
      refine wr_iald X hw sM27 nM27 h2 dX11_firstOrder_9 ?_
      refine lv_icmp_ge (tgt := 71) hx hb dX11_firstOrder_10 (by decide) (fun c3 => ?_) (fun c3 => ?_)
      · have hf := (if_pos c3).symm.trans hf
        exact hx2_1 σ2_1 (lpK_inr (lp_leaf hf hz2_1)) ls H locs (lv_sub hl [] rfl) hw
      · have hf := (if_neg c3).symm.trans hf
        refine lv_aload_n hx hb dX11_firstOrder_13 rfl (lv_at hl 0 rfl) ?_
        refine gX11_44 (b := 27) X hw sM0 nM0 rfl fl_X11_98 dX11_firstOrder_14 ?_
        refine lv_iload_n hx hb dX11_firstOrder_17 rfl (lv_at hl 1 rfl) ?_
        obtain ⟨h4, hf⟩ := if_some hf
        refine wr_iald X hw sM27 nM27 h4 dX11_firstOrder_18 ?_
        obtain ⟨v5, ev5, hf⟩ := wlet_some hf
        refine wr_top ev5 ?_
        refine lv_istore_n (lv' := [(2, .int v5), (0, .ref (ad 0)), (1, .int x1_2_1)]) hx hb dX11_firstOrder_19 rfl hl (by decide) rfl (fun ls hl => ?_)
        refine lv_iload_n hx hb dX11_firstOrder_20 rfl (lv_at hl 2 rfl) ?_
        refine lv_istore_n (lv' := [(3, .int x1_2_1), (2, .int v5), (0, .ref (ad 0)), (1, .int x1_2_1)]) hx hb dX11_firstOrder_21 rfl hl (by decide) rfl (fun ls hl => ?_)
        obtain ⟨st22_6, est22_6, hf⟩ := wlet_some hf
        obtain ⟨E22_6, hq22_6, hE22_6⟩ := bind_some hf
        have hx22_6 : ∀ (σe22_6 : St) (x3_e22_6 : Int32) (_ : (σe22_6, x3_e22_6) = E22_6) (ls : Array Slot) (H : Heap) (locs : List Loc), lv_has ls 4 [(0, .ref (ad 0)), (1, .int x1_2_1), (2, .int v5), (3, .int x3_e22_6)] → wH WM ad D cy s σe22_6 H locs → W p l e { frames := 1, cells := 0, slots := 0, locals := 100 } s m [.ref (ad 0)].toArray below meth c H locs 0 0 (MQ below (wQv WM ad D cy res) [.ref (ad 0)].toArray s 0 0 (wA WM ad)) (F0 m 58 ls []) := by
          intro σe22_6 x3_e22_6 e0 ls H locs hl hw
          subst e0
          have hf := hE22_6
          replace hf := un2_some hf
          refine lv_aload_n hx hb dX11_firstOrder_58 rfl (lv_at hl 0 rfl) ?_
          refine gX11_44 (b := 27) X hw sM0 nM0 rfl fl_X11_98 dX11_firstOrder_59 ?_
          refine lv_iload_n hx hb dX11_firstOrder_62 rfl (lv_at hl 3 rfl) ?_
          refine lv_iload_n hx hb dX11_firstOrder_63 rfl (lv_at hl 2 rfl) ?_
          obtain ⟨h7, hf⟩ := if_some hf
          obtain ⟨σ8, eσ8, hf⟩ := wlet_some hf
          refine wr_iast X hw sM27 nM27 h7 dX11_firstOrder_64 (fun H locs hw => ?_)
          replace hw := hw.to eσ8
          obtain ⟨v9, ev9, hf⟩ := wlet_some hf
          refine lv_iinc (v := v9) (lv' := [(1, .int v9), (0, .ref (ad 0)), (2, .int v5), (3, .int x3_e22_6)]) hx hb dX11_firstOrder_65 hl (k := 1) rfl (by rw [ev9]; rfl) (by decide) rfl (fun ls hl => ?_)
          refine lv_goto (tgt := 2) hx hb dX11_firstOrder_68 (by decide) ?_
          exact ih2_1 σ8 v9 (lp_leaf hf hz2_1) ls H locs (lv_sub hl [1, 0] rfl) hw
        have lo22_6 : ∀ (n : Nat) (σ22_6 : St) (x3_22_6 : Int32) (_ : lp st22_6 n (σ22_6, x3_22_6) = some E22_6) (ls : Array Slot) (H : Heap) (locs : List Loc), lv_has ls 4 [(0, .ref (ad 0)), (1, .int x1_2_1), (2, .int v5), (3, .int x3_22_6)] → wH WM ad D cy s σ22_6 H locs → W p l e { frames := 1, cells := 0, slots := 0, locals := 100 } s m [.ref (ad 0)].toArray below meth c H locs 0 0 (MQ below (wQv WM ad D cy res) [.ref (ad 0)].toArray s 0 0 (wA WM ad)) (F0 m 22 ls []) := by
          intro n
          induction n with
          | zero =>
            intro σ22_6 x3_22_6 hf ls H locs hl hw
            exact (lp_zero hf).elim
          | succ n ih22_6 =>
            intro σ22_6 x3_22_6 hf ls H locs hl hw
            obtain ⟨q22_6, hf, hz22_6⟩ := lp_succ hf
            rw [est22_6] at hf
            replace hf := un2_some hf
            refine lv_iload_n hx hb dX11_firstOrder_22 rfl (lv_at hl 3 rfl) ?_
            refine lv_if_le (tgt := 58) hx hb dX11_firstOrder_23 (by decide) (fun c10 => ?_) (fun c10 => ?_)
            · have hf := (if_pos c10).symm.trans hf
              exact hx22_6 σ22_6 x3_22_6 (lpK_inr (lp_leaf hf hz22_6)) ls H locs (lv_sub hl [0, 1, 2, 3] rfl) hw
            · have hf := (if_neg c10).symm.trans hf
              refine lv_aload_n hx hb dX11_firstOrder_26 rfl (lv_at hl 0 rfl) ?_
              refine gX11_44 (b := 27) X hw sM0 nM0 rfl fl_X11_98 dX11_firstOrder_27 ?_
              refine lv_iload_n hx hb dX11_firstOrder_30 rfl (lv_at hl 3 rfl) ?_
              refine lv_iconst (v := 1) hx hb dX11_firstOrder_31 (by decide) ?_
              refine lv_isub hx hb dX11_firstOrder_32 ?_
              obtain ⟨h11, hf⟩ := if_some hf
              refine wr_iald X hw sM27 nM27 h11 dX11_firstOrder_33 ?_
              refine lv_iload_n hx hb dX11_firstOrder_34 rfl (lv_at hl 2 rfl) ?_
              refine lv_icmp_le (tgt := 58) hx hb dX11_firstOrder_35 (by decide) (fun c12 => ?_) (fun c12 => ?_)
              · have hf := (if_pos c12).symm.trans hf
                exact hx22_6 σ22_6 x3_22_6 (lpK_inr (lp_leaf hf hz22_6)) ls H locs (lv_sub hl [0, 1, 2, 3] rfl) hw
              · have hf := (if_neg c12).symm.trans hf
                refine lv_aload_n hx hb dX11_firstOrder_38 rfl (lv_at hl 0 rfl) ?_
                refine gX11_44 (b := 27) X hw sM0 nM0 rfl fl_X11_98 dX11_firstOrder_39 ?_
                refine lv_iload_n hx hb dX11_firstOrder_42 rfl (lv_at hl 3 rfl) ?_
                refine lv_aload_n hx hb dX11_firstOrder_43 rfl (lv_at hl 0 rfl) ?_
                refine gX11_44 (b := 27) X hw sM0 nM0 rfl fl_X11_98 dX11_firstOrder_44 ?_
                refine lv_iload_n hx hb dX11_firstOrder_47 rfl (lv_at hl 3 rfl) ?_
                refine lv_iconst (v := 1) hx hb dX11_firstOrder_48 (by decide) ?_
                refine lv_isub hx hb dX11_firstOrder_49 ?_
                obtain ⟨h13, hf⟩ := if_some hf
                refine wr_iald X hw sM27 nM27 h13 dX11_firstOrder_50 ?_
                obtain ⟨h14, hf⟩ := if_some hf
                obtain ⟨σ15, eσ15, hf⟩ := wlet_some hf
                refine wr_iast X hw sM27 nM27 h14 dX11_firstOrder_51 (fun H locs hw => ?_)
                replace hw := hw.to eσ15
                obtain ⟨v16, ev16, hf⟩ := wlet_some hf
                refine lv_iinc (v := v16) (lv' := [(3, .int v16), (0, .ref (ad 0)), (1, .int x1_2_1), (2, .int v5)]) hx hb dX11_firstOrder_52 hl (k := 3) rfl (by rw [ev16]; rfl) (by decide) rfl (fun ls hl => ?_)
                refine lv_goto (tgt := 22) hx hb dX11_firstOrder_55 (by decide) ?_
                exact ih22_6 σ15 v16 (lp_leaf hf hz22_6) ls H locs (lv_sub hl [1, 2, 3, 0] rfl) hw
        exact lo22_6 fuel σ2_1 x1_2_1 hq22_6 ls H locs (lv_sub hl [2, 3, 1, 0] rfl) hw
  exact lo2_1 fuel σ (1 : Int32) hq2_1 ls H locs (lv_sub hl [1, 0] rfl) hw

def f_X11_isMark (x0 : Int32) : Option (Int32) := Option.bind (f_X11_in x0 (0 : Int32) (999 : Int32)) fun v2 => if bz v2 = true then some v2 else none
theorem hd_X11_isMark : yX11_isMark.cls ≠ "java/lang/invoke/MethodHandle" ∧ yX11_isMark.cls ≠ "java/lang/invoke/VarHandle" ∧ (parseMethodDescriptor yX11_isMark.desc).map (fun d => d.parameters.length) = some 1 := by decide +kernel
set_option maxRecDepth 100000 in
set_option maxHeartbeats 4000000 in
theorem k_X11_isMark {l : Launch} {ad : Nat → Nat} {D : va_G} {cy : Nat → ClassId} {z : wStr} (hI : wI WM ad) {σ : St} {x0 : Int32}  {res : Int32} (hf : f_X11_isMark x0 = some res) : wC WM ad D cy z l yX11_isMark (Cond.code yX11_isMark cX11_isMark 1 (Option.some Jvm.ClassFile.FieldType.boolean) :: aw) (2) (122) [.int x0] σ (wQi WM ad D cy res σ) := by
  unfold f_X11_isMark at hf
  refine wr_start (own := RX11) hI (by decide +kernel) rfl (Nat.le_of_ble_eq_true rfl) rfl ?_
  intro p e s m below meth c ls X hw hr hl
  have hx := X.hx
  have hb := X.hb
  obtain ⟨H, eH⟩ : ∃ H : Heap, H = s.heap := ⟨_, rfl⟩
  obtain ⟨locs, el⟩ : ∃ locs : List Loc, locs = [] := ⟨_, rfl⟩
  rw [← eH, ← el] at hw ⊢
  clear eH el
  replace hl : lv_has ls 1 [(0, .int x0)] := hl
  refine lv_iload_n hx hb dX11_isMark_0 rfl (lv_at hl 0 rfl) ?_
  refine lv_iconst (v := 0) hx hb dX11_isMark_1 (by decide) ?_
  refine lv_sipush (v := 999) hx hb dX11_isMark_2 (by decide) ?_
  obtain ⟨v2, hq1, hf⟩ := bind_some hf
  refine wr_cSi (r := v2) (σ' := σ) (av := [.int x0, .int (0 : Int32), .int (999 : Int32)]) (rest := []) X hw hl.1 (k_X11_in hI hq1) rfl ml_X11_282 st_X11_in ini_X11 co_X11_in hd_X11_in ⟨Nat.le_of_ble_eq_true rfl, Nat.le_of_ble_eq_true rfl⟩ (Nat.le_of_ble_eq_true rfl) dX11_isMark_5 rfl (fun H locs hw => ?_)
  obtain ⟨hz, hf⟩ := if_some hf
  have er := Option.some.inj hf
  subst er
  exact wr_iret X hw hr (Or.inr ⟨rfl, hz⟩) dX11_isMark_8

def f_X11_changes (σ : St) (x1 : Int32) (x2 : Int32) : Option (St) := if ib x1 26 = true then wlet (σ.1 27 (Int32.toNatClampNeg x1)) fun v2 => if ib x2 26 = true then if ib x1 26 = true then wlet (si σ 27 (Int32.toNatClampNeg x1) (σ.1 27 (Int32.toNatClampNeg x2))) fun σ5 => if ib x2 26 = true then wlet (si σ5 27 (Int32.toNatClampNeg x2) v2) fun σ7 => some σ7 else none else none else none else none
theorem hd_X11_changes : yX11_changes.cls = RX11 ∧ yX11_changes.cls ≠ "java/lang/invoke/MethodHandle" ∧ yX11_changes.cls ≠ "java/lang/invoke/VarHandle" ∧ (parseMethodDescriptor yX11_changes.desc).map (fun d => d.parameters.length) = some 2 := by decide +kernel
set_option maxRecDepth 100000 in
set_option maxHeartbeats 4000000 in
theorem k_X11_changes {l : Launch} {ad : Nat → Nat} {D : va_G} {cy : Nat → ClassId} {z : wStr} (hI : wI WM ad) {σ : St} {x1 : Int32} {x2 : Int32}  {res : St} (hf : f_X11_changes σ x1 x2 = some res) : wC WM ad D cy z l yX11_changes (Cond.code yX11_changes cX11_changes 4 (none) :: aw) (1) (100) [.ref (ad 0), .int x1, .int x2] σ (wQv WM ad D cy res) := by
  unfold f_X11_changes at hf
  refine wr_start (own := RX11) hI (by decide +kernel) rfl (Nat.le_of_ble_eq_true rfl) rfl ?_
  intro p e s m below meth c ls X hw hr hl
  have hx := X.hx
  have hb := X.hb
  obtain ⟨H, eH⟩ : ∃ H : Heap, H = s.heap := ⟨_, rfl⟩
  obtain ⟨locs, el⟩ : ∃ locs : List Loc, locs = [] := ⟨_, rfl⟩
  rw [← eH, ← el] at hw ⊢
  clear eH el
  replace hl : lv_has ls 4 [(0, .ref (ad 0)), (1, .int x1), (2, .int x2)] := hl
  refine lv_aload_n hx hb dX11_changes_0 rfl (lv_at hl 0 rfl) ?_
  refine gX11_44 (b := 27) X hw sM0 nM0 rfl fl_X11_98 dX11_changes_1 ?_
  refine lv_iload_n hx hb dX11_changes_4 rfl (lv_at hl 1 rfl) ?_
  obtain ⟨h1, hf⟩ := if_some hf
  refine wr_iald X hw sM27 nM27 h1 dX11_changes_5 ?_
  obtain ⟨v2, ev2, hf⟩ := wlet_some hf
  refine wr_top ev2 ?_
  refine lv_istore_n (lv' := [(3, .int v2), (0, .ref (ad 0)), (1, .int x1), (2, .int x2)]) hx hb dX11_changes_6 rfl hl (by decide) rfl (fun ls hl => ?_)
  refine lv_aload_n hx hb dX11_changes_7 rfl (lv_at hl 1 rfl) ?_
  refine gX11_44 (b := 27) X hw sM0 nM0 rfl fl_X11_98 dX11_changes_8 ?_
  refine lv_iload_n hx hb dX11_changes_11 rfl (lv_at hl 2 rfl) ?_
  refine lv_aload_n hx hb dX11_changes_12 rfl (lv_at hl 1 rfl) ?_
  refine gX11_44 (b := 27) X hw sM0 nM0 rfl fl_X11_98 dX11_changes_13 ?_
  refine lv_iload_n hx hb dX11_changes_16 rfl (lv_at hl 3 rfl) ?_
  obtain ⟨h3, hf⟩ := if_some hf
  refine wr_iald X hw sM27 nM27 h3 dX11_changes_17 ?_
  obtain ⟨h4, hf⟩ := if_some hf
  obtain ⟨σ5, eσ5, hf⟩ := wlet_some hf
  refine wr_iast X hw sM27 nM27 h4 dX11_changes_18 (fun H locs hw => ?_)
  replace hw := hw.to eσ5
  refine lv_aload_n hx hb dX11_changes_19 rfl (lv_at hl 1 rfl) ?_
  refine gX11_44 (b := 27) X hw sM0 nM0 rfl fl_X11_98 dX11_changes_20 ?_
  refine lv_iload_n hx hb dX11_changes_23 rfl (lv_at hl 3 rfl) ?_
  refine lv_iload_n hx hb dX11_changes_24 rfl (lv_at hl 0 rfl) ?_
  obtain ⟨h6, hf⟩ := if_some hf
  obtain ⟨σ7, eσ7, hf⟩ := wlet_some hf
  refine wr_iast X hw sM27 nM27 h6 dX11_changes_25 (fun H locs hw => ?_)
  replace hw := hw.to eσ7
  have er := Option.some.inj hf
  subst er
  exact wr_vret X hw hr dX11_changes_26

def f_X11_nextOrder (σ : St)  : Option (Int32 × St) := if ib (7 : Int32) 26 = true then wlet ((σ.1 27 (Int32.toNatClampNeg (7 : Int32))) - (2 : Int32)) fun v2 => wlet (fun (x1_10_3 : Int32) => if x1_10_3 < 0 then (some (.inr x1_10_3)) else (if ib x1_10_3 26 = true then if ib (x1_10_3 + (1 : Int32)) 26 = true then if (σ.1 27 (Int32.toNatClampNeg x1_10_3)) ≤ (σ.1 27 (Int32.toNatClampNeg (x1_10_3 + (1 : Int32)))) then (some (.inr x1_10_3)) else (wlet (x1_10_3 + (-1 : Int32)) fun v27 => some (.inl v27)) else none else none) : Int32 → Option ((Int32) ⊕ (Int32))) fun st10_3 => Option.bind (lp st10_3 fuel v2) ((fun (x1_e10_3 : Int32) => if 0 ≤ x1_e10_3 then (if ib (7 : Int32) 26 = true then wlet ((σ.1 27 (Int32.toNatClampNeg (7 : Int32))) - (1 : Int32)) fun v6 => wlet (fun (x2_53_7 : Int32) => if ib x2_53_7 26 = true then if ib x1_e10_3 26 = true then if (σ.1 27 (Int32.toNatClampNeg x1_e10_3)) ≤ (σ.1 27 (Int32.toNatClampNeg x2_53_7)) then (some (.inr x2_53_7)) else (wlet (x2_53_7 + (-1 : Int32)) fun v22 => some (.inl v22)) else none else none : Int32 → Option ((Int32) ⊕ (Int32))) fun st53_7 => Option.bind (lp st53_7 fuel v6) ((fun (x2_e53_7 : Int32) => Option.bind (f_X11_changes σ x1_e10_3 x2_e53_7) fun σ9 => wlet (x1_e10_3 + (1 : Int32)) fun v10 => if ib (7 : Int32) 26 = true then wlet ((σ9.1 27 (Int32.toNatClampNeg (7 : Int32))) - (1 : Int32)) fun v12 => wlet (un3 (fun (σ95_13 : St) (x3_95_13 : Int32) (x4_95_13 : Int32) => if x4_95_13 ≤ x3_95_13 then (some (.inr σ95_13)) else (Option.bind (f_X11_changes σ95_13 x3_95_13 x4_95_13) fun σ16 => wlet (x3_95_13 + (1 : Int32)) fun v17 => wlet (x4_95_13 + (-1 : Int32)) fun v18 => some (.inl (σ16, v17, v18)))) : St × Int32 × Int32 → Option ((St × Int32 × Int32) ⊕ (St))) fun st95_13 => Option.bind (lp st95_13 fuel (σ9, v10, v12)) ((fun (σe95_13 : St) => some ((1 : Int32), σe95_13))) else none)) else none) else (some ((0 : Int32), σ)))) else none
theorem hd_X11_nextOrder : yX11_nextOrder.cls = RX11 ∧ yX11_nextOrder.cls ≠ "java/lang/invoke/MethodHandle" ∧ yX11_nextOrder.cls ≠ "java/lang/invoke/VarHandle" ∧ (parseMethodDescriptor yX11_nextOrder.desc).map (fun d => d.parameters.length) = some 0 := by decide +kernel
set_option maxRecDepth 100000 in
set_option maxHeartbeats 4000000 in
theorem k_X11_nextOrder {l : Launch} {ad : Nat → Nat} {D : va_G} {cy : Nat → ClassId} {z : wStr} (hI : wI WM ad) {σ : St}   {res : Int32 × St} (hf : f_X11_nextOrder σ  = some res) : wC WM ad D cy z l yX11_nextOrder (Cond.code yX11_nextOrder cX11_nextOrder 5 (Option.some Jvm.ClassFile.FieldType.boolean) :: aw) (2) (123) [.ref (ad 0)] σ (wQi WM ad D cy res.1 res.2) := by
  unfold f_X11_nextOrder at hf
  refine wr_start (own := RX11) hI (by decide +kernel) rfl (Nat.le_of_ble_eq_true rfl) rfl ?_
  intro p e s m below meth c ls X hw hr hl
  have hx := X.hx
  have hb := X.hb
  obtain ⟨H, eH⟩ : ∃ H : Heap, H = s.heap := ⟨_, rfl⟩
  obtain ⟨locs, el⟩ : ∃ locs : List Loc, locs = [] := ⟨_, rfl⟩
  rw [← eH, ← el] at hw ⊢
  clear eH el
  replace hl : lv_has ls 5 [(0, .ref (ad 0))] := hl
  refine lv_aload_n hx hb dX11_nextOrder_0 rfl (lv_at hl 0 rfl) ?_
  refine gX11_44 (b := 27) X hw sM0 nM0 rfl fl_X11_98 dX11_nextOrder_1 ?_
  refine lv_bipush (v := 7) hx hb dX11_nextOrder_4 (by decide) ?_
  obtain ⟨h1, hf⟩ := if_some hf
  refine wr_iald X hw sM27 nM27 h1 dX11_nextOrder_6 ?_
  refine lv_iconst (v := 2) hx hb dX11_nextOrder_7 (by decide) ?_
  refine lv_isub hx hb dX11_nextOrder_8 ?_
  obtain ⟨v2, ev2, hf⟩ := wlet_some hf
  refine wr_top ev2 ?_
  refine lv_istore_n (lv' := [(1, .int v2), (0, .ref (ad 0))]) hx hb dX11_nextOrder_9 rfl hl (by decide) rfl (fun ls hl => ?_)
  obtain ⟨st10_3, est10_3, hf⟩ := wlet_some hf
  obtain ⟨E10_3, hq10_3, hE10_3⟩ := bind_some hf
  have hx10_3 : ∀ (x1_e10_3 : Int32) (_ : x1_e10_3 = E10_3) (ls : Array Slot) (H : Heap) (locs : List Loc), lv_has ls 5 [(0, .ref (ad 0)), (1, .int x1_e10_3)] → wH WM ad D cy s σ H locs → W p l e { frames := 2, cells := 0, slots := 0, locals := 123 } s m [.ref (ad 0)].toArray below meth c H locs 0 0 (MQ below (wQi WM ad D cy res.1 res.2) [.ref (ad 0)].toArray s 0 0 (wA WM ad)) (F0 m 37 ls []) := by
    intro x1_e10_3 e0 ls H locs hl hw
    subst e0
    have hf := hE10_3
    refine lv_iload_n hx hb dX11_nextOrder_37 rfl (lv_at hl 1 rfl) ?_
    refine lv_if_ge (tgt := 43) hx hb dX11_nextOrder_38 (by decide) (fun c4 => ?_) (fun c4 => ?_)
    · have hf := (if_pos c4).symm.trans hf
      refine lv_aload_n hx hb dX11_nextOrder_43 rfl (lv_at hl 0 rfl) ?_
      refine gX11_44 (b := 27) X hw sM0 nM0 rfl fl_X11_98 dX11_nextOrder_44 ?_
      refine lv_bipush (v := 7) hx hb dX11_nextOrder_47 (by decide) ?_
      obtain ⟨h5, hf⟩ := if_some hf
      refine wr_iald X hw sM27 nM27 h5 dX11_nextOrder_49 ?_
      refine lv_iconst (v := 1) hx hb dX11_nextOrder_50 (by decide) ?_
      refine lv_isub hx hb dX11_nextOrder_51 ?_
      obtain ⟨v6, ev6, hf⟩ := wlet_some hf
      refine wr_top ev6 ?_
      refine lv_istore_n (lv' := [(2, .int v6), (0, .ref (ad 0)), (1, .int x1_e10_3)]) hx hb dX11_nextOrder_52 rfl hl (by decide) rfl (fun ls hl => ?_)
      obtain ⟨st53_7, est53_7, hf⟩ := wlet_some hf
      obtain ⟨E53_7, hq53_7, hE53_7⟩ := bind_some hf
      have hx53_7 : ∀ (x2_e53_7 : Int32) (_ : x2_e53_7 = E53_7) (ls : Array Slot) (H : Heap) (locs : List Loc), lv_has ls 5 [(0, .ref (ad 0)), (1, .int x1_e10_3), (2, .int x2_e53_7)] → wH WM ad D cy s σ H locs → W p l e { frames := 2, cells := 0, slots := 0, locals := 123 } s m [.ref (ad 0)].toArray below meth c H locs 0 0 (MQ below (wQi WM ad D cy res.1 res.2) [.ref (ad 0)].toArray s 0 0 (wA WM ad)) (F0 m 74 ls []) := by
        intro x2_e53_7 e0 ls H locs hl hw
        subst e0
        have hf := hE53_7
        refine lv_aload_n hx hb dX11_nextOrder_74 rfl (lv_at hl 0 rfl) ?_
        refine lv_iload_n hx hb dX11_nextOrder_75 rfl (lv_at hl 1 rfl) ?_
        refine lv_iload_n hx hb dX11_nextOrder_76 rfl (lv_at hl 2 rfl) ?_
        obtain ⟨σ9, hq8, hf⟩ := bind_some hf
        refine wr_cVv (σ' := σ9) (av := [.int x1_e10_3, .int x2_e53_7]) (rest := []) X hw hl.1 sM0 nM0 rfl (k_X11_changes hI hq8) rfl ml_X11_358 im_X11_changes se_X11_changes ini_X11 co_X11_changes hd_X11_changes ⟨Nat.le_of_ble_eq_true rfl, Nat.le_of_ble_eq_true rfl⟩ (Nat.le_of_ble_eq_true rfl) dX11_nextOrder_77 rfl (fun H locs hw => ?_)
        refine lv_iload_n hx hb dX11_nextOrder_80 rfl (lv_at hl 1 rfl) ?_
        refine lv_iconst (v := 1) hx hb dX11_nextOrder_81 (by decide) ?_
        refine lv_iadd hx hb dX11_nextOrder_82 ?_
        obtain ⟨v10, ev10, hf⟩ := wlet_some hf
        refine wr_top ev10 ?_
        refine lv_istore_n (lv' := [(3, .int v10), (0, .ref (ad 0)), (1, .int x1_e10_3), (2, .int x2_e53_7)]) hx hb dX11_nextOrder_83 rfl hl (by decide) rfl (fun ls hl => ?_)
        refine lv_aload_n hx hb dX11_nextOrder_84 rfl (lv_at hl 1 rfl) ?_
        refine gX11_44 (b := 27) X hw sM0 nM0 rfl fl_X11_98 dX11_nextOrder_85 ?_
        refine lv_bipush (v := 7) hx hb dX11_nextOrder_88 (by decide) ?_
        obtain ⟨h11, hf⟩ := if_some hf
        refine wr_iald X hw sM27 nM27 h11 dX11_nextOrder_90 ?_
        refine lv_iconst (v := 1) hx hb dX11_nextOrder_91 (by decide) ?_
        refine lv_isub hx hb dX11_nextOrder_92 ?_
        obtain ⟨v12, ev12, hf⟩ := wlet_some hf
        refine wr_top ev12 ?_
        refine lv_istore (lv' := [(4, .int v12), (3, .int v10), (0, .ref (ad 0)), (1, .int x1_e10_3), (2, .int x2_e53_7)]) hx hb dX11_nextOrder_93 hl (by decide) rfl (fun ls hl => ?_)
        obtain ⟨st95_13, est95_13, hf⟩ := wlet_some hf
        obtain ⟨E95_13, hq95_13, hE95_13⟩ := bind_some hf
        have hx95_13 : ∀ (σe95_13 : St) (_ : σe95_13 = E95_13) (ls : Array Slot) (H : Heap) (locs : List Loc), lv_has ls 5 [] → wH WM ad D cy s σe95_13 H locs → W p l e { frames := 2, cells := 0, slots := 0, locals := 123 } s m [.ref (ad 0)].toArray below meth c H locs 0 0 (MQ below (wQi WM ad D cy res.1 res.2) [.ref (ad 0)].toArray s 0 0 (wA WM ad)) (F0 m 117 ls []) := by
          intro σe95_13 e0 ls H locs hl hw
          subst e0
          have hf := hE95_13
          refine lv_iconst (v := 1) hx hb dX11_nextOrder_117 (by decide) ?_
          have er := Option.some.inj hf
          subst er
          exact wr_iret X hw hr (Or.inr ⟨rfl, (show bz (1 : Int32) = true from rfl)⟩) dX11_nextOrder_118
        have lo95_13 : ∀ (n : Nat) (σ95_13 : St) (x3_95_13 : Int32) (x4_95_13 : Int32) (_ : lp st95_13 n (σ95_13, x3_95_13, x4_95_13) = some E95_13) (ls : Array Slot) (H : Heap) (locs : List Loc), lv_has ls 5 [(0, .ref (ad 0)), (3, .int x3_95_13), (4, .int x4_95_13)] → wH WM ad D cy s σ95_13 H locs → W p l e { frames := 2, cells := 0, slots := 0, locals := 123 } s m [.ref (ad 0)].toArray below meth c H locs 0 0 (MQ below (wQi WM ad D cy res.1 res.2) [.ref (ad 0)].toArray s 0 0 (wA WM ad)) (F0 m 95 ls []) := by
          intro n
          induction n with
          | zero =>
            intro σ95_13 x3_95_13 x4_95_13 hf ls H locs hl hw
            exact (lp_zero hf).elim
          | succ n ih95_13 =>
            intro σ95_13 x3_95_13 x4_95_13 hf ls H locs hl hw
            obtain ⟨q95_13, hf, hz95_13⟩ := lp_succ hf
            rw [est95_13] at hf
            replace hf := un3_some hf
            refine lv_iload_n hx hb dX11_nextOrder_95 rfl (lv_at hl 1 rfl) ?_
            refine lv_iload hx hb dX11_nextOrder_96 (lv_at hl 2 rfl) ?_
            refine lv_icmp_ge (tgt := 117) hx hb dX11_nextOrder_98 (by decide) (fun c14 => ?_) (fun c14 => ?_)
            · have hf := (if_pos c14).symm.trans hf
              exact hx95_13 σ95_13 (lpK_inr (lp_leaf hf hz95_13)) ls H locs (lv_sub hl [] rfl) hw
            · have hf := (if_neg c14).symm.trans hf
              refine lv_aload_n hx hb dX11_nextOrder_101 rfl (lv_at hl 0 rfl) ?_
              refine lv_iload_n hx hb dX11_nextOrder_102 rfl (lv_at hl 1 rfl) ?_
              refine lv_iload hx hb dX11_nextOrder_103 (lv_at hl 2 rfl) ?_
              obtain ⟨σ16, hq15, hf⟩ := bind_some hf
              refine wr_cVv (σ' := σ16) (av := [.int x3_95_13, .int x4_95_13]) (rest := []) X hw hl.1 sM0 nM0 rfl (k_X11_changes hI hq15) rfl ml_X11_358 im_X11_changes se_X11_changes ini_X11 co_X11_changes hd_X11_changes ⟨Nat.le_of_ble_eq_true rfl, Nat.le_of_ble_eq_true rfl⟩ (Nat.le_of_ble_eq_true rfl) dX11_nextOrder_105 rfl (fun H locs hw => ?_)
              obtain ⟨v17, ev17, hf⟩ := wlet_some hf
              refine lv_iinc (v := v17) (lv' := [(3, .int v17), (0, .ref (ad 0)), (4, .int x4_95_13)]) hx hb dX11_nextOrder_108 hl (k := 1) rfl (by rw [ev17]; rfl) (by decide) rfl (fun ls hl => ?_)
              obtain ⟨v18, ev18, hf⟩ := wlet_some hf
              refine lv_iinc (v := v18) (lv' := [(4, .int v18), (3, .int v17), (0, .ref (ad 0))]) hx hb dX11_nextOrder_111 hl (k := 2) rfl (by rw [ev18]; rfl) (by decide) rfl (fun ls hl => ?_)
              refine lv_goto (tgt := 95) hx hb dX11_nextOrder_114 (by decide) ?_
              exact ih95_13 σ16 v17 v18 (lp_leaf hf hz95_13) ls H locs (lv_sub hl [2, 1, 0] rfl) hw
        exact lo95_13 fuel σ9 v10 v12 hq95_13 ls H locs (lv_sub hl [2, 1, 0] rfl) hw
      have lo53_7 : ∀ (n : Nat) (x2_53_7 : Int32) (_ : lp st53_7 n x2_53_7 = some E53_7) (ls : Array Slot) (H : Heap) (locs : List Loc), lv_has ls 5 [(0, .ref (ad 0)), (1, .int x1_e10_3), (2, .int x2_53_7)] → wH WM ad D cy s σ H locs → W p l e { frames := 2, cells := 0, slots := 0, locals := 123 } s m [.ref (ad 0)].toArray below meth c H locs 0 0 (MQ below (wQi WM ad D cy res.1 res.2) [.ref (ad 0)].toArray s 0 0 (wA WM ad)) (F0 m 53 ls []) := by
        intro n
        induction n with
        | zero =>
          intro x2_53_7 hf ls H locs hl hw
          exact (lp_zero hf).elim
        | succ n ih53_7 =>
          intro x2_53_7 hf ls H locs hl hw
          obtain ⟨q53_7, hf, hz53_7⟩ := lp_succ hf
          rw [est53_7] at hf
          refine lv_aload_n hx hb dX11_nextOrder_53 rfl (lv_at hl 0 rfl) ?_
          refine gX11_44 (b := 27) X hw sM0 nM0 rfl fl_X11_98 dX11_nextOrder_54 ?_
          refine lv_iload_n hx hb dX11_nextOrder_57 rfl (lv_at hl 2 rfl) ?_
          obtain ⟨h19, hf⟩ := if_some hf
          refine wr_iald X hw sM27 nM27 h19 dX11_nextOrder_58 ?_
          refine lv_aload_n hx hb dX11_nextOrder_59 rfl (lv_at hl 0 rfl) ?_
          refine gX11_44 (b := 27) X hw sM0 nM0 rfl fl_X11_98 dX11_nextOrder_60 ?_
          refine lv_iload_n hx hb dX11_nextOrder_63 rfl (lv_at hl 1 rfl) ?_
          obtain ⟨h20, hf⟩ := if_some hf
          refine wr_iald X hw sM27 nM27 h20 dX11_nextOrder_64 ?_
          refine lv_icmp_ge (tgt := 74) hx hb dX11_nextOrder_65 (by decide) (fun c21 => ?_) (fun c21 => ?_)
          · have hf := (if_pos c21).symm.trans hf
            exact hx53_7 x2_53_7 (lpK_inr (lp_leaf hf hz53_7)) ls H locs (lv_sub hl [0, 1, 2] rfl) hw
          · have hf := (if_neg c21).symm.trans hf
            obtain ⟨v22, ev22, hf⟩ := wlet_some hf
            refine lv_iinc (v := v22) (lv' := [(2, .int v22), (0, .ref (ad 0)), (1, .int x1_e10_3)]) hx hb dX11_nextOrder_68 hl (k := 2) rfl (by rw [ev22]; rfl) (by decide) rfl (fun ls hl => ?_)
            refine lv_goto (tgt := 53) hx hb dX11_nextOrder_71 (by decide) ?_
            exact ih53_7 v22 (lp_leaf hf hz53_7) ls H locs (lv_sub hl [1, 2, 0] rfl) hw
      exact lo53_7 fuel v6 hq53_7 ls H locs (lv_sub hl [1, 2, 0] rfl) hw
    · have hf := (if_neg c4).symm.trans hf
      refine lv_iconst (v := 0) hx hb dX11_nextOrder_41 (by decide) ?_
      have er := Option.some.inj hf
      subst er
      exact wr_iret X hw hr (Or.inr ⟨rfl, (show bz (0 : Int32) = true from rfl)⟩) dX11_nextOrder_42
  have lo10_3 : ∀ (n : Nat) (x1_10_3 : Int32) (_ : lp st10_3 n x1_10_3 = some E10_3) (ls : Array Slot) (H : Heap) (locs : List Loc), lv_has ls 5 [(0, .ref (ad 0)), (1, .int x1_10_3)] → wH WM ad D cy s σ H locs → W p l e { frames := 2, cells := 0, slots := 0, locals := 123 } s m [.ref (ad 0)].toArray below meth c H locs 0 0 (MQ below (wQi WM ad D cy res.1 res.2) [.ref (ad 0)].toArray s 0 0 (wA WM ad)) (F0 m 10 ls []) := by
    intro n
    induction n with
    | zero =>
      intro x1_10_3 hf ls H locs hl hw
      exact (lp_zero hf).elim
    | succ n ih10_3 =>
      intro x1_10_3 hf ls H locs hl hw
      obtain ⟨q10_3, hf, hz10_3⟩ := lp_succ hf
      rw [est10_3] at hf
      refine lv_iload_n hx hb dX11_nextOrder_10 rfl (lv_at hl 1 rfl) ?_
      refine lv_if_lt (tgt := 37) hx hb dX11_nextOrder_11 (by decide) (fun c23 => ?_) (fun c23 => ?_)
      · have hf := (if_pos c23).symm.trans hf
        exact hx10_3 x1_10_3 (lpK_inr (lp_leaf hf hz10_3)) ls H locs (lv_sub hl [0, 1] rfl) hw
      · have hf := (if_neg c23).symm.trans hf
        refine lv_aload_n hx hb dX11_nextOrder_14 rfl (lv_at hl 0 rfl) ?_
        refine gX11_44 (b := 27) X hw sM0 nM0 rfl fl_X11_98 dX11_nextOrder_15 ?_
        refine lv_iload_n hx hb dX11_nextOrder_18 rfl (lv_at hl 1 rfl) ?_
        obtain ⟨h24, hf⟩ := if_some hf
        refine wr_iald X hw sM27 nM27 h24 dX11_nextOrder_19 ?_
        refine lv_aload_n hx hb dX11_nextOrder_20 rfl (lv_at hl 0 rfl) ?_
        refine gX11_44 (b := 27) X hw sM0 nM0 rfl fl_X11_98 dX11_nextOrder_21 ?_
        refine lv_iload_n hx hb dX11_nextOrder_24 rfl (lv_at hl 1 rfl) ?_
        refine lv_iconst (v := 1) hx hb dX11_nextOrder_25 (by decide) ?_
        refine lv_iadd hx hb dX11_nextOrder_26 ?_
        obtain ⟨h25, hf⟩ := if_some hf
        refine wr_iald X hw sM27 nM27 h25 dX11_nextOrder_27 ?_
        refine lv_icmp_le (tgt := 37) hx hb dX11_nextOrder_28 (by decide) (fun c26 => ?_) (fun c26 => ?_)
        · have hf := (if_pos c26).symm.trans hf
          exact hx10_3 x1_10_3 (lpK_inr (lp_leaf hf hz10_3)) ls H locs (lv_sub hl [0, 1] rfl) hw
        · have hf := (if_neg c26).symm.trans hf
          obtain ⟨v27, ev27, hf⟩ := wlet_some hf
          refine lv_iinc (v := v27) (lv' := [(1, .int v27), (0, .ref (ad 0))]) hx hb dX11_nextOrder_31 hl (k := 1) rfl (by rw [ev27]; rfl) (by decide) rfl (fun ls hl => ?_)
          refine lv_goto (tgt := 10) hx hb dX11_nextOrder_34 (by decide) ?_
          exact ih10_3 v27 (lp_leaf hf hz10_3) ls H locs (lv_sub hl [1, 0] rfl) hw
  exact lo10_3 fuel v2 hq10_3 ls H locs (lv_sub hl [1, 0] rfl) hw

def f_X11_ask (σ : St) (x1 : Int32) (x2 : Int32) : Option (Int32 × St) := Option.bind (f_X11_in x1 (0 : Int32) (σ.1 0 51)) fun v2 => if v2 = 0 then (some ((-1 : Int32), σ)) else (Option.bind (f_X11_isMark x2) fun v5 => if v5 = 0 then (some ((-1 : Int32), σ)) else (Option.bind (f_X11_copies σ) fun σ8 => Option.bind (f_X11_firstOrder σ8) fun σ10 => wlet (un2 (fun (σ31_11 : St) (x3_31_11 : Int32) => if (7 : Int32) ≤ x3_31_11 then (some (.inr σ31_11)) else (if ib x3_31_11 7 = true then wlet (si σ31_11 35 (Int32.toNatClampNeg x3_31_11) (0 : Int32)) fun σ50 => wlet (x3_31_11 + (1 : Int32)) fun v51 => some (.inl (σ50, v51)) else none)) : St × Int32 → Option ((St × Int32) ⊕ (St))) fun st31_11 => Option.bind (lp st31_11 fuel (σ10, (0 : Int32))) ((fun (σe31_11 : St) => wlet (un3 (fun (σ55_12 : St) (x3_55_12 : Int32) (x4_55_12 : Int32) => if x4_55_12 = 0 then (some (.inr (σ55_12, x3_55_12))) else (bnd2 (f_X11_doesFit σ55_12 x1) fun v30 σ31 => wlet (fun (σ_114_32 : St) (x3_114_32 : Int32) => (bnd2 (f_X11_nextOrder σ_114_32) fun v34 σ35 => some (.inl (σ35, x3_114_32, v34)) : Option ((St × Int32 × Int32) ⊕ (St × Int32)))) fun k114_32 => if v30 = 0 then (k114_32 σ31 x3_55_12) else (wlet (x3_55_12 + (1 : Int32)) fun v37 => wlet (un2 (fun (σ74_38 : St) (x5_74_38 : Int32) => if ib (7 : Int32) 26 = true then if (σ74_38.1 27 (Int32.toNatClampNeg (7 : Int32))) ≤ x5_74_38 then (some (.inr σ74_38)) else (if ib x5_74_38 7 = true then if (σ74_38.1 34 (Int32.toNatClampNeg x5_74_38)) < x2 then (wlet (x5_74_38 + (1 : Int32)) fun v43 => some (.inl (σ74_38, v43))) else (if ib x5_74_38 7 = true then if ib x5_74_38 7 = true then wlet (si σ74_38 35 (Int32.toNatClampNeg x5_74_38) ((σ74_38.1 35 (Int32.toNatClampNeg x5_74_38)) + (1 : Int32))) fun σ46 => wlet (x5_74_38 + (1 : Int32)) fun v47 => some (.inl (σ46, v47)) else none else none) else none) else none) : St × Int32 → Option ((St × Int32) ⊕ (St))) fun st74_38 => Option.bind (lp st74_38 fuel (σ31, (0 : Int32))) ((fun (σe74_38 : St) => k114_32 σe74_38 v37))))) : St × Int32 × Int32 → Option ((St × Int32 × Int32) ⊕ (St × Int32))) fun st55_12 => Option.bind (lp st55_12 fuel (σe31_11, (0 : Int32), (1 : Int32))) ((un2 (fun (σe55_12 : St) (x3_e55_12 : Int32) => wlet (un3 (fun (x5_133_13 : Int32) (x6_133_13 : Int32) (x7_133_13 : Int32) => if ib (7 : Int32) 26 = true then if (σe55_12.1 27 (Int32.toNatClampNeg (7 : Int32))) ≤ x7_133_13 then (some (.inr x5_133_13)) else (if x3_e55_12 ≤ 0 then (some (.inr x5_133_13)) else (if ib x7_133_13 7 = true then if ib x7_133_13 7 = true then wlet (fun (s0_187_19 : Int32) => (if x5_133_13 < 0 then (wlet (x7_133_13 + (1 : Int32)) fun v21 => some (.inl (x7_133_13, s0_187_19, v21))) else (if s0_187_19 < x6_133_13 then (wlet (x7_133_13 + (1 : Int32)) fun v23 => some (.inl (x7_133_13, s0_187_19, v23))) else (wlet (x7_133_13 + (1 : Int32)) fun v24 => some (.inl (x5_133_13, x6_133_13, v24)))) : Option ((Int32 × Int32 × Int32) ⊕ (Int32)))) fun k187_19 => if (σe55_12.1 35 (Int32.toNatClampNeg x7_133_13)) ≤ (x3_e55_12 - (σe55_12.1 35 (Int32.toNatClampNeg x7_133_13))) then (if ib x7_133_13 7 = true then k187_19 (x3_e55_12 - (σe55_12.1 35 (Int32.toNatClampNeg x7_133_13))) else none) else (if ib x7_133_13 7 = true then k187_19 (σe55_12.1 35 (Int32.toNatClampNeg x7_133_13)) else none) else none else none)) else none) : Int32 × Int32 × Int32 → Option ((Int32 × Int32 × Int32) ⊕ (Int32))) fun st133_13 => Option.bind (lp st133_13 fuel ((-2 : Int32), (0 : Int32), (0 : Int32))) ((fun (x5_e133_13 : Int32) => some (x5_e133_13, σe55_12))))))))))
theorem hd_X11_ask : yX11_ask.cls = RX11 ∧ yX11_ask.cls ≠ "java/lang/invoke/MethodHandle" ∧ yX11_ask.cls ≠ "java/lang/invoke/VarHandle" ∧ (parseMethodDescriptor yX11_ask.desc).map (fun d => d.parameters.length) = some 2 := by decide +kernel
set_option maxRecDepth 100000 in
set_option maxHeartbeats 4000000 in
theorem k_X11_ask {l : Launch} {ad : Nat → Nat} {D : va_G} {cy : Nat → ClassId} {z : wStr} (hI : wI WM ad) {σ : St} {x1 : Int32} {x2 : Int32}  {res : Int32 × St} (hf : f_X11_ask σ x1 x2 = some res) : wC WM ad D cy z l yX11_ask (Cond.code yX11_ask cX11_ask 9 (Option.some Jvm.ClassFile.FieldType.int) :: aw) (6) (223) [.ref (ad 0), .int x1, .int x2] σ (wQi WM ad D cy res.1 res.2) := by
  unfold f_X11_ask at hf
  refine wr_start (own := RX11) hI (by decide +kernel) rfl (Nat.le_of_ble_eq_true rfl) rfl ?_
  intro p e s m below meth c ls X hw hr hl
  have hx := X.hx
  have hb := X.hb
  obtain ⟨H, eH⟩ : ∃ H : Heap, H = s.heap := ⟨_, rfl⟩
  obtain ⟨locs, el⟩ : ∃ locs : List Loc, locs = [] := ⟨_, rfl⟩
  rw [← eH, ← el] at hw ⊢
  clear eH el
  replace hl : lv_has ls 9 [(0, .ref (ad 0)), (1, .int x1), (2, .int x2)] := hl
  refine lv_iload_n hx hb dX11_ask_0 rfl (lv_at hl 1 rfl) ?_
  refine lv_iconst (v := 0) hx hb dX11_ask_1 (by decide) ?_
  refine lv_aload_n hx hb dX11_ask_2 rfl (lv_at hl 0 rfl) ?_
  refine gX11_51 X hw sM0 nM0 fl_X11_233 dX11_ask_3 ?_
  obtain ⟨v2, hq1, hf⟩ := bind_some hf
  refine wr_cSi (r := v2) (σ' := σ) (av := [.int x1, .int (0 : Int32), .int (σ.1 0 51)]) (rest := []) X hw hl.1 (k_X11_in hI hq1) rfl ml_X11_282 st_X11_in ini_X11 co_X11_in hd_X11_in ⟨Nat.le_of_ble_eq_true rfl, Nat.le_of_ble_eq_true rfl⟩ (Nat.le_of_ble_eq_true rfl) dX11_ask_6 rfl (fun H locs hw => ?_)
  refine lv_if_eq (tgt := 19) hx hb dX11_ask_9 (by decide) (fun c3 => ?_) (fun c3 => ?_)
  · have hf := (if_pos c3).symm.trans hf
    refine lv_iconst (v := -1) hx hb dX11_ask_19 (by decide) ?_
    have er := Option.some.inj hf
    subst er
    exact wr_iret X hw hr (Or.inl rfl) dX11_ask_20
  · have hf := (if_neg c3).symm.trans hf
    refine lv_iload_n hx hb dX11_ask_12 rfl (lv_at hl 2 rfl) ?_
    obtain ⟨v5, hq4, hf⟩ := bind_some hf
    refine wr_cSi (r := v5) (σ' := σ) (av := [.int x2]) (rest := []) X hw hl.1 (k_X11_isMark hI hq4) rfl ml_X11_427 st_X11_isMark ini_X11 co_X11_isMark hd_X11_isMark ⟨Nat.le_of_ble_eq_true rfl, Nat.le_of_ble_eq_true rfl⟩ (Nat.le_of_ble_eq_true rfl) dX11_ask_13 rfl (fun H locs hw => ?_)
    refine lv_if_ne (tgt := 21) hx hb dX11_ask_16 (by decide) (fun c6 => ?_) (fun c6 => ?_)
    · have hf := (if_neg c6).symm.trans hf
      refine lv_aload_n hx hb dX11_ask_21 rfl (lv_at hl 0 rfl) ?_
      obtain ⟨σ8, hq7, hf⟩ := bind_some hf
      refine wr_cVv (σ' := σ8) (av := []) (rest := []) X hw hl.1 sM0 nM0 rfl (k_X11_copies hI hq7) rfl ml_X11_345 im_X11_copies se_X11_copies ini_X11 co_X11_copies hd_X11_copies ⟨Nat.le_of_ble_eq_true rfl, Nat.le_of_ble_eq_true rfl⟩ (Nat.le_of_ble_eq_true rfl) dX11_ask_22 rfl (fun H locs hw => ?_)
      refine lv_aload_n hx hb dX11_ask_25 rfl (lv_at hl 0 rfl) ?_
      obtain ⟨σ10, hq9, hf⟩ := bind_some hf
      refine wr_cVv (σ' := σ10) (av := []) (rest := []) X hw hl.1 sM0 nM0 rfl (k_X11_firstOrder hI hq9) rfl ml_X11_384 im_X11_firstOrder se_X11_firstOrder ini_X11 co_X11_firstOrder hd_X11_firstOrder ⟨Nat.le_of_ble_eq_true rfl, Nat.le_of_ble_eq_true rfl⟩ (Nat.le_of_ble_eq_true rfl) dX11_ask_26 rfl (fun H locs hw => ?_)
      refine lv_iconst (v := 0) hx hb dX11_ask_29 (by decide) ?_
      refine lv_istore_n (lv' := [(3, .int (0 : Int32)), (0, .ref (ad 0)), (1, .int x1), (2, .int x2)]) hx hb dX11_ask_30 rfl hl (by decide) rfl (fun ls hl => ?_)
      obtain ⟨st31_11, est31_11, hf⟩ := wlet_some hf
      obtain ⟨E31_11, hq31_11, hE31_11⟩ := bind_some hf
      have hx31_11 : ∀ (σe31_11 : St) (_ : σe31_11 = E31_11) (ls : Array Slot) (H : Heap) (locs : List Loc), lv_has ls 9 [(0, .ref (ad 0)), (1, .int x1), (2, .int x2)] → wH WM ad D cy s σe31_11 H locs → W p l e { frames := 6, cells := 0, slots := 0, locals := 223 } s m [.ref (ad 0), .int x1, .int x2].toArray below meth c H locs 0 0 (MQ below (wQi WM ad D cy res.1 res.2) [.ref (ad 0), .int x1, .int x2].toArray s 0 0 (wA WM ad)) (F0 m 50 ls []) := by
        intro σe31_11 e0 ls H locs hl hw
        subst e0
        have hf := hE31_11
        refine lv_iconst (v := 0) hx hb dX11_ask_50 (by decide) ?_
        refine lv_istore_n (lv' := [(3, .int (0 : Int32)), (0, .ref (ad 0)), (1, .int x1), (2, .int x2)]) hx hb dX11_ask_51 rfl hl (by decide) rfl (fun ls hl => ?_)
        refine lv_iconst (v := 1) hx hb dX11_ask_52 (by decide) ?_
        refine lv_istore (lv' := [(4, .int (1 : Int32)), (3, .int (0 : Int32)), (0, .ref (ad 0)), (1, .int x1), (2, .int x2)]) hx hb dX11_ask_53 hl (by decide) rfl (fun ls hl => ?_)
        obtain ⟨st55_12, est55_12, hf⟩ := wlet_some hf
        obtain ⟨E55_12, hq55_12, hE55_12⟩ := bind_some hf
        have hx55_12 : ∀ (σe55_12 : St) (x3_e55_12 : Int32) (_ : (σe55_12, x3_e55_12) = E55_12) (ls : Array Slot) (H : Heap) (locs : List Loc), lv_has ls 9 [(0, .ref (ad 0)), (3, .int x3_e55_12)] → wH WM ad D cy s σe55_12 H locs → W p l e { frames := 6, cells := 0, slots := 0, locals := 223 } s m [.ref (ad 0), .int x1, .int x2].toArray below meth c H locs 0 0 (MQ below (wQi WM ad D cy res.1 res.2) [.ref (ad 0), .int x1, .int x2].toArray s 0 0 (wA WM ad)) (F0 m 123 ls []) := by
          intro σe55_12 x3_e55_12 e0 ls H locs hl hw
          subst e0
          have hf := hE55_12
          replace hf := un2_some hf
          refine lv_bipush (v := -2) hx hb dX11_ask_123 (by decide) ?_
          refine lv_istore (lv' := [(5, .int (-2 : Int32)), (0, .ref (ad 0)), (3, .int x3_e55_12)]) hx hb dX11_ask_125 hl (by decide) rfl (fun ls hl => ?_)
          refine lv_iconst (v := 0) hx hb dX11_ask_127 (by decide) ?_
          refine lv_istore (lv' := [(6, .int (0 : Int32)), (5, .int (-2 : Int32)), (0, .ref (ad 0)), (3, .int x3_e55_12)]) hx hb dX11_ask_128 hl (by decide) rfl (fun ls hl => ?_)
          refine lv_iconst (v := 0) hx hb dX11_ask_130 (by decide) ?_
          refine lv_istore (lv' := [(7, .int (0 : Int32)), (6, .int (0 : Int32)), (5, .int (-2 : Int32)), (0, .ref (ad 0)), (3, .int x3_e55_12)]) hx hb dX11_ask_131 hl (by decide) rfl (fun ls hl => ?_)
          obtain ⟨st133_13, est133_13, hf⟩ := wlet_some hf
          obtain ⟨E133_13, hq133_13, hE133_13⟩ := bind_some hf
          have hx133_13 : ∀ (x5_e133_13 : Int32) (_ : x5_e133_13 = E133_13) (ls : Array Slot) (H : Heap) (locs : List Loc), lv_has ls 9 [(5, .int x5_e133_13)] → wH WM ad D cy s σe55_12 H locs → W p l e { frames := 6, cells := 0, slots := 0, locals := 223 } s m [.ref (ad 0), .int x1, .int x2].toArray below meth c H locs 0 0 (MQ below (wQi WM ad D cy res.1 res.2) [.ref (ad 0), .int x1, .int x2].toArray s 0 0 (wA WM ad)) (F0 m 218 ls []) := by
            intro x5_e133_13 e0 ls H locs hl hw
            subst e0
            have hf := hE133_13
            refine lv_iload hx hb dX11_ask_218 (lv_at hl 0 rfl) ?_
            have er := Option.some.inj hf
            subst er
            exact wr_iret X hw hr (Or.inl rfl) dX11_ask_220
          have lo133_13 : ∀ (n : Nat) (x5_133_13 : Int32) (x6_133_13 : Int32) (x7_133_13 : Int32) (_ : lp st133_13 n (x5_133_13, x6_133_13, x7_133_13) = some E133_13) (ls : Array Slot) (H : Heap) (locs : List Loc), lv_has ls 9 [(0, .ref (ad 0)), (3, .int x3_e55_12), (5, .int x5_133_13), (6, .int x6_133_13), (7, .int x7_133_13)] → wH WM ad D cy s σe55_12 H locs → W p l e { frames := 6, cells := 0, slots := 0, locals := 223 } s m [.ref (ad 0), .int x1, .int x2].toArray below meth c H locs 0 0 (MQ below (wQi WM ad D cy res.1 res.2) [.ref (ad 0), .int x1, .int x2].toArray s 0 0 (wA WM ad)) (F0 m 133 ls []) := by
            intro n
            induction n with
            | zero =>
              intro x5_133_13 x6_133_13 x7_133_13 hf ls H locs hl hw
              exact (lp_zero hf).elim
            | succ n ih133_13 =>
              intro x5_133_13 x6_133_13 x7_133_13 hf ls H locs hl hw
              obtain ⟨q133_13, hf, hz133_13⟩ := lp_succ hf
              rw [est133_13] at hf
              replace hf := un3_some hf
              refine lv_iload hx hb dX11_ask_133 (lv_at hl 4 rfl) ?_
              refine lv_aload_n hx hb dX11_ask_135 rfl (lv_at hl 0 rfl) ?_
              refine gX11_44 (b := 27) X hw sM0 nM0 rfl fl_X11_98 dX11_ask_136 ?_
              refine lv_bipush (v := 7) hx hb dX11_ask_139 (by decide) ?_
              obtain ⟨h14, hf⟩ := if_some hf
              refine wr_iald X hw sM27 nM27 h14 dX11_ask_141 ?_
              refine lv_icmp_ge (tgt := 218) hx hb dX11_ask_142 (by decide) (fun c15 => ?_) (fun c15 => ?_)
              · have hf := (if_pos c15).symm.trans hf
                exact hx133_13 x5_133_13 (lpK_inr (lp_leaf hf hz133_13)) ls H locs (lv_sub hl [2] rfl) hw
              · have hf := (if_neg c15).symm.trans hf
                refine lv_iload_n hx hb dX11_ask_145 rfl (lv_at hl 1 rfl) ?_
                refine lv_if_le (tgt := 218) hx hb dX11_ask_146 (by decide) (fun c16 => ?_) (fun c16 => ?_)
                · have hf := (if_pos c16).symm.trans hf
                  exact hx133_13 x5_133_13 (lpK_inr (lp_leaf hf hz133_13)) ls H locs (lv_sub hl [2] rfl) hw
                · have hf := (if_neg c16).symm.trans hf
                  refine lv_aload_n hx hb dX11_ask_149 rfl (lv_at hl 0 rfl) ?_
                  refine gX11_56 (b := 35) X hw sM0 nM0 rfl fl_X11_122 dX11_ask_150 ?_
                  refine lv_iload hx hb dX11_ask_153 (lv_at hl 4 rfl) ?_
                  obtain ⟨h17, hf⟩ := if_some hf
                  refine wr_iald X hw sM35 nM35 h17 dX11_ask_155 ?_
                  refine lv_iload_n hx hb dX11_ask_156 rfl (lv_at hl 1 rfl) ?_
                  refine lv_aload_n hx hb dX11_ask_157 rfl (lv_at hl 0 rfl) ?_
                  refine gX11_56 (b := 35) X hw sM0 nM0 rfl fl_X11_122 dX11_ask_158 ?_
                  refine lv_iload hx hb dX11_ask_161 (lv_at hl 4 rfl) ?_
                  obtain ⟨h18, hf⟩ := if_some hf
                  refine wr_iald X hw sM35 nM35 h18 dX11_ask_163 ?_
                  refine lv_isub hx hb dX11_ask_164 ?_
                  obtain ⟨k187_19, ek187_19, hf0⟩ := wlet_some hf
                  have j187_19 : ∀ (s0_187_19 : Int32) (_ : k187_19 s0_187_19 = some q133_13) (ls : Array Slot) (H : Heap) (locs : List Loc), lv_has ls 9 [(0, .ref (ad 0)), (3, .int x3_e55_12), (5, .int x5_133_13), (6, .int x6_133_13), (7, .int x7_133_13)] → wH WM ad D cy s σe55_12 H locs → W p l e { frames := 6, cells := 0, slots := 0, locals := 223 } s m [.ref (ad 0), .int x1, .int x2].toArray below meth c H locs 0 0 (MQ below (wQi WM ad D cy res.1 res.2) [.ref (ad 0), .int x1, .int x2].toArray s 0 0 (wA WM ad)) (F0 m 187 ls [.int s0_187_19]) := by
                    intro s0_187_19 hf ls H locs hl hw
                    rw [ek187_19] at hf
                    refine lv_istore (lv' := [(8, .int s0_187_19), (0, .ref (ad 0)), (3, .int x3_e55_12), (5, .int x5_133_13), (6, .int x6_133_13), (7, .int x7_133_13)]) hx hb dX11_ask_187 hl (by decide) rfl (fun ls hl => ?_)
                    refine lv_iload hx hb dX11_ask_189 (lv_at hl 3 rfl) ?_
                    refine lv_if_lt (tgt := 204) hx hb dX11_ask_191 (by decide) (fun c20 => ?_) (fun c20 => ?_)
                    · have hf := (if_pos c20).symm.trans hf
                      refine lv_iload hx hb dX11_ask_204 (lv_at hl 5 rfl) ?_
                      refine lv_istore (lv' := [(5, .int x7_133_13), (8, .int s0_187_19), (0, .ref (ad 0)), (3, .int x3_e55_12), (6, .int x6_133_13), (7, .int x7_133_13)]) hx hb dX11_ask_206 hl (by decide) rfl (fun ls hl => ?_)
                      refine lv_iload hx hb dX11_ask_208 (lv_at hl 1 rfl) ?_
                      refine lv_istore (lv' := [(6, .int s0_187_19), (5, .int x7_133_13), (8, .int s0_187_19), (0, .ref (ad 0)), (3, .int x3_e55_12), (7, .int x7_133_13)]) hx hb dX11_ask_210 hl (by decide) rfl (fun ls hl => ?_)
                      obtain ⟨v21, ev21, hf⟩ := wlet_some hf
                      refine lv_iinc (v := v21) (lv' := [(7, .int v21), (6, .int s0_187_19), (5, .int x7_133_13), (8, .int s0_187_19), (0, .ref (ad 0)), (3, .int x3_e55_12)]) hx hb dX11_ask_212 hl (k := 5) rfl (by rw [ev21]; rfl) (by decide) rfl (fun ls hl => ?_)
                      refine lv_goto (tgt := 133) hx hb dX11_ask_215 (by decide) ?_
                      exact ih133_13 x7_133_13 s0_187_19 v21 (lp_leaf hf hz133_13) ls H locs (lv_sub hl [4, 5, 2, 1, 0] rfl) hw
                    · have hf := (if_neg c20).symm.trans hf
                      refine lv_iload hx hb dX11_ask_194 (lv_at hl 0 rfl) ?_
                      refine lv_iload hx hb dX11_ask_196 (lv_at hl 4 rfl) ?_
                      refine lv_icmp_lt (tgt := 204) hx hb dX11_ask_198 (by decide) (fun c22 => ?_) (fun c22 => ?_)
                      · have hf := (if_pos c22).symm.trans hf
                        refine lv_iload hx hb dX11_ask_204 (lv_at hl 5 rfl) ?_
                        refine lv_istore (lv' := [(5, .int x7_133_13), (8, .int s0_187_19), (0, .ref (ad 0)), (3, .int x3_e55_12), (6, .int x6_133_13), (7, .int x7_133_13)]) hx hb dX11_ask_206 hl (by decide) rfl (fun ls hl => ?_)
                        refine lv_iload hx hb dX11_ask_208 (lv_at hl 1 rfl) ?_
                        refine lv_istore (lv' := [(6, .int s0_187_19), (5, .int x7_133_13), (8, .int s0_187_19), (0, .ref (ad 0)), (3, .int x3_e55_12), (7, .int x7_133_13)]) hx hb dX11_ask_210 hl (by decide) rfl (fun ls hl => ?_)
                        obtain ⟨v23, ev23, hf⟩ := wlet_some hf
                        refine lv_iinc (v := v23) (lv' := [(7, .int v23), (6, .int s0_187_19), (5, .int x7_133_13), (8, .int s0_187_19), (0, .ref (ad 0)), (3, .int x3_e55_12)]) hx hb dX11_ask_212 hl (k := 5) rfl (by rw [ev23]; rfl) (by decide) rfl (fun ls hl => ?_)
                        refine lv_goto (tgt := 133) hx hb dX11_ask_215 (by decide) ?_
                        exact ih133_13 x7_133_13 s0_187_19 v23 (lp_leaf hf hz133_13) ls H locs (lv_sub hl [4, 5, 2, 1, 0] rfl) hw
                      · have hf := (if_neg c22).symm.trans hf
                        refine lv_goto (tgt := 212) hx hb dX11_ask_201 (by decide) ?_
                        obtain ⟨v24, ev24, hf⟩ := wlet_some hf
                        refine lv_iinc (v := v24) (lv' := [(7, .int v24), (8, .int s0_187_19), (0, .ref (ad 0)), (3, .int x3_e55_12), (5, .int x5_133_13), (6, .int x6_133_13)]) hx hb dX11_ask_212 hl (k := 5) rfl (by rw [ev24]; rfl) (by decide) rfl (fun ls hl => ?_)
                        refine lv_goto (tgt := 133) hx hb dX11_ask_215 (by decide) ?_
                        exact ih133_13 x5_133_13 x6_133_13 v24 (lp_leaf hf hz133_13) ls H locs (lv_sub hl [2, 3, 4, 5, 0] rfl) hw
                  replace hf := hf0
                  refine lv_icmp_le (tgt := 178) hx hb dX11_ask_165 (by decide) (fun c25 => ?_) (fun c25 => ?_)
                  · have hf := (if_pos c25).symm.trans hf
                    refine lv_iload_n hx hb dX11_ask_178 rfl (lv_at hl 1 rfl) ?_
                    refine lv_aload_n hx hb dX11_ask_179 rfl (lv_at hl 0 rfl) ?_
                    refine gX11_56 (b := 35) X hw sM0 nM0 rfl fl_X11_122 dX11_ask_180 ?_
                    refine lv_iload hx hb dX11_ask_183 (lv_at hl 4 rfl) ?_
                    obtain ⟨h26, hf⟩ := if_some hf
                    refine wr_iald X hw sM35 nM35 h26 dX11_ask_185 ?_
                    refine lv_isub hx hb dX11_ask_186 ?_
                    exact j187_19 (x3_e55_12 - (σe55_12.1 35 (Int32.toNatClampNeg x7_133_13))) hf ls H locs (lv_sub hl [0, 1, 2, 3, 4] rfl) hw
                  · have hf := (if_neg c25).symm.trans hf
                    refine lv_aload_n hx hb dX11_ask_168 rfl (lv_at hl 0 rfl) ?_
                    refine gX11_56 (b := 35) X hw sM0 nM0 rfl fl_X11_122 dX11_ask_169 ?_
                    refine lv_iload hx hb dX11_ask_172 (lv_at hl 4 rfl) ?_
                    obtain ⟨h27, hf⟩ := if_some hf
                    refine wr_iald X hw sM35 nM35 h27 dX11_ask_174 ?_
                    refine lv_goto (tgt := 187) hx hb dX11_ask_175 (by decide) ?_
                    exact j187_19 (σe55_12.1 35 (Int32.toNatClampNeg x7_133_13)) hf ls H locs (lv_sub hl [0, 1, 2, 3, 4] rfl) hw
          exact lo133_13 fuel (-2 : Int32) (0 : Int32) (0 : Int32) hq133_13 ls H locs (lv_sub hl [3, 4, 2, 1, 0] rfl) hw
        have lo55_12 : ∀ (n : Nat) (σ55_12 : St) (x3_55_12 : Int32) (x4_55_12 : Int32) (_ : lp st55_12 n (σ55_12, x3_55_12, x4_55_12) = some E55_12) (ls : Array Slot) (H : Heap) (locs : List Loc), lv_has ls 9 [(0, .ref (ad 0)), (1, .int x1), (2, .int x2), (3, .int x3_55_12), (4, .int x4_55_12)] → wH WM ad D cy s σ55_12 H locs → W p l e { frames := 6, cells := 0, slots := 0, locals := 223 } s m [.ref (ad 0), .int x1, .int x2].toArray below meth c H locs 0 0 (MQ below (wQi WM ad D cy res.1 res.2) [.ref (ad 0), .int x1, .int x2].toArray s 0 0 (wA WM ad)) (F0 m 55 ls []) := by
          intro n
          induction n with
          | zero =>
            intro σ55_12 x3_55_12 x4_55_12 hf ls H locs hl hw
            exact (lp_zero hf).elim
          | succ n ih55_12 =>
            intro σ55_12 x3_55_12 x4_55_12 hf ls H locs hl hw
            obtain ⟨q55_12, hf, hz55_12⟩ := lp_succ hf
            rw [est55_12] at hf
            replace hf := un3_some hf
            refine lv_iload hx hb dX11_ask_55 (lv_at hl 4 rfl) ?_
            refine lv_if_eq (tgt := 123) hx hb dX11_ask_57 (by decide) (fun c28 => ?_) (fun c28 => ?_)
            · have hf := (if_pos c28).symm.trans hf
              exact hx55_12 σ55_12 x3_55_12 (lpK_inr (lp_leaf hf hz55_12)) ls H locs (lv_sub hl [0, 3] rfl) hw
            · have hf := (if_neg c28).symm.trans hf
              refine lv_aload_n hx hb dX11_ask_60 rfl (lv_at hl 0 rfl) ?_
              refine lv_iload_n hx hb dX11_ask_61 rfl (lv_at hl 1 rfl) ?_
              obtain ⟨v30, σ31, hq29, hf⟩ := bnd2_some hf
              refine wr_cVi (r := v30) (σ' := σ31) (av := [.int x1]) (rest := []) X hw hl.1 sM0 nM0 rfl (k_X11_doesFit hI hq29) rfl ml_X11_430 im_X11_doesFit se_X11_doesFit ini_X11 co_X11_doesFit hd_X11_doesFit ⟨Nat.le_of_ble_eq_true rfl, Nat.le_of_ble_eq_true rfl⟩ (Nat.le_of_ble_eq_true rfl) dX11_ask_62 rfl (fun H locs hw => ?_)
              obtain ⟨k114_32, ek114_32, hf0⟩ := wlet_some hf
              have j114_32 : ∀ (σ_114_32 : St) (x3_114_32 : Int32) (_ : k114_32 σ_114_32 x3_114_32 = some q55_12) (ls : Array Slot) (H : Heap) (locs : List Loc), lv_has ls 9 [(0, .ref (ad 0)), (1, .int x1), (2, .int x2), (3, .int x3_114_32)] → wH WM ad D cy s σ_114_32 H locs → W p l e { frames := 6, cells := 0, slots := 0, locals := 223 } s m [.ref (ad 0), .int x1, .int x2].toArray below meth c H locs 0 0 (MQ below (wQi WM ad D cy res.1 res.2) [.ref (ad 0), .int x1, .int x2].toArray s 0 0 (wA WM ad)) (F0 m 114 ls []) := by
                intro σ_114_32 x3_114_32 hf ls H locs hl hw
                rw [ek114_32] at hf
                refine lv_aload_n hx hb dX11_ask_114 rfl (lv_at hl 0 rfl) ?_
                obtain ⟨v34, σ35, hq33, hf⟩ := bnd2_some hf
                refine wr_cVi (r := v34) (σ' := σ35) (av := []) (rest := []) X hw hl.1 sM0 nM0 rfl (k_X11_nextOrder hI hq33) rfl ml_X11_393 im_X11_nextOrder se_X11_nextOrder ini_X11 co_X11_nextOrder hd_X11_nextOrder ⟨Nat.le_of_ble_eq_true rfl, Nat.le_of_ble_eq_true rfl⟩ (Nat.le_of_ble_eq_true rfl) dX11_ask_115 rfl (fun H locs hw => ?_)
                refine lv_istore (lv' := [(4, .int v34), (0, .ref (ad 0)), (1, .int x1), (2, .int x2), (3, .int x3_114_32)]) hx hb dX11_ask_118 hl (by decide) rfl (fun ls hl => ?_)
                refine lv_goto (tgt := 55) hx hb dX11_ask_120 (by decide) ?_
                exact ih55_12 σ35 x3_114_32 v34 (lp_leaf hf hz55_12) ls H locs (lv_sub hl [1, 2, 3, 4, 0] rfl) hw
              replace hf := hf0
              refine lv_if_eq (tgt := 114) hx hb dX11_ask_65 (by decide) (fun c36 => ?_) (fun c36 => ?_)
              · have hf := (if_pos c36).symm.trans hf
                exact j114_32 σ31 x3_55_12 hf ls H locs (lv_sub hl [0, 1, 2, 3] rfl) hw
              · have hf := (if_neg c36).symm.trans hf
                obtain ⟨v37, ev37, hf⟩ := wlet_some hf
                refine lv_iinc (v := v37) (lv' := [(3, .int v37), (0, .ref (ad 0)), (1, .int x1), (2, .int x2), (4, .int x4_55_12)]) hx hb dX11_ask_68 hl (k := 3) rfl (by rw [ev37]; rfl) (by decide) rfl (fun ls hl => ?_)
                refine lv_iconst (v := 0) hx hb dX11_ask_71 (by decide) ?_
                refine lv_istore (lv' := [(5, .int (0 : Int32)), (3, .int v37), (0, .ref (ad 0)), (1, .int x1), (2, .int x2), (4, .int x4_55_12)]) hx hb dX11_ask_72 hl (by decide) rfl (fun ls hl => ?_)
                obtain ⟨st74_38, est74_38, hf⟩ := wlet_some hf
                obtain ⟨E74_38, hq74_38, hE74_38⟩ := bind_some hf
                have hx74_38 : ∀ (σe74_38 : St) (_ : σe74_38 = E74_38) (ls : Array Slot) (H : Heap) (locs : List Loc), lv_has ls 9 [(0, .ref (ad 0)), (1, .int x1), (2, .int x2), (3, .int v37)] → wH WM ad D cy s σe74_38 H locs → W p l e { frames := 6, cells := 0, slots := 0, locals := 223 } s m [.ref (ad 0), .int x1, .int x2].toArray below meth c H locs 0 0 (MQ below (wQi WM ad D cy res.1 res.2) [.ref (ad 0), .int x1, .int x2].toArray s 0 0 (wA WM ad)) (F0 m 114 ls []) := by
                  intro σe74_38 e0 ls H locs hl hw
                  subst e0
                  have hf := hE74_38
                  exact j114_32 σe74_38 v37 hf ls H locs (lv_sub hl [0, 1, 2, 3] rfl) hw
                have lo74_38 : ∀ (n : Nat) (σ74_38 : St) (x5_74_38 : Int32) (_ : lp st74_38 n (σ74_38, x5_74_38) = some E74_38) (ls : Array Slot) (H : Heap) (locs : List Loc), lv_has ls 9 [(0, .ref (ad 0)), (1, .int x1), (2, .int x2), (3, .int v37), (5, .int x5_74_38)] → wH WM ad D cy s σ74_38 H locs → W p l e { frames := 6, cells := 0, slots := 0, locals := 223 } s m [.ref (ad 0), .int x1, .int x2].toArray below meth c H locs 0 0 (MQ below (wQi WM ad D cy res.1 res.2) [.ref (ad 0), .int x1, .int x2].toArray s 0 0 (wA WM ad)) (F0 m 74 ls []) := by
                  intro n
                  induction n with
                  | zero =>
                    intro σ74_38 x5_74_38 hf ls H locs hl hw
                    exact (lp_zero hf).elim
                  | succ n ih74_38 =>
                    intro σ74_38 x5_74_38 hf ls H locs hl hw
                    obtain ⟨q74_38, hf, hz74_38⟩ := lp_succ hf
                    rw [est74_38] at hf
                    replace hf := un2_some hf
                    refine lv_iload hx hb dX11_ask_74 (lv_at hl 4 rfl) ?_
                    refine lv_aload_n hx hb dX11_ask_76 rfl (lv_at hl 0 rfl) ?_
                    refine gX11_44 (b := 27) X hw sM0 nM0 rfl fl_X11_98 dX11_ask_77 ?_
                    refine lv_bipush (v := 7) hx hb dX11_ask_80 (by decide) ?_
                    obtain ⟨h39, hf⟩ := if_some hf
                    refine wr_iald X hw sM27 nM27 h39 dX11_ask_82 ?_
                    refine lv_icmp_ge (tgt := 114) hx hb dX11_ask_83 (by decide) (fun c40 => ?_) (fun c40 => ?_)
                    · have hf := (if_pos c40).symm.trans hf
                      exact hx74_38 σ74_38 (lpK_inr (lp_leaf hf hz74_38)) ls H locs (lv_sub hl [0, 1, 2, 3] rfl) hw
                    · have hf := (if_neg c40).symm.trans hf
                      refine lv_aload_n hx hb dX11_ask_86 rfl (lv_at hl 0 rfl) ?_
                      refine gX11_55 (b := 34) X hw sM0 nM0 rfl fl_X11_119 dX11_ask_87 ?_
                      refine lv_iload hx hb dX11_ask_90 (lv_at hl 4 rfl) ?_
                      obtain ⟨h41, hf⟩ := if_some hf
                      refine wr_iald X hw sM34 nM34 h41 dX11_ask_92 ?_
                      refine lv_iload_n hx hb dX11_ask_93 rfl (lv_at hl 2 rfl) ?_
                      refine lv_icmp_lt (tgt := 108) hx hb dX11_ask_94 (by decide) (fun c42 => ?_) (fun c42 => ?_)
                      · have hf := (if_pos c42).symm.trans hf
                        obtain ⟨v43, ev43, hf⟩ := wlet_some hf
                        refine lv_iinc (v := v43) (lv' := [(5, .int v43), (0, .ref (ad 0)), (1, .int x1), (2, .int x2), (3, .int v37)]) hx hb dX11_ask_108 hl (k := 4) rfl (by rw [ev43]; rfl) (by decide) rfl (fun ls hl => ?_)
                        refine lv_goto (tgt := 74) hx hb dX11_ask_111 (by decide) ?_
                        exact ih74_38 σ74_38 v43 (lp_leaf hf hz74_38) ls H locs (lv_sub hl [1, 2, 3, 4, 0] rfl) hw
                      · have hf := (if_neg c42).symm.trans hf
                        refine lv_aload_n hx hb dX11_ask_97 rfl (lv_at hl 0 rfl) ?_
                        refine gX11_56 (b := 35) X hw sM0 nM0 rfl fl_X11_122 dX11_ask_98 ?_
                        refine lv_iload hx hb dX11_ask_101 (lv_at hl 4 rfl) ?_
                        refine lv_dup2_11 hx hb dX11_ask_103 rfl rfl ?_
                        obtain ⟨h44, hf⟩ := if_some hf
                        refine wr_iald X hw sM35 nM35 h44 dX11_ask_104 ?_
                        refine lv_iconst (v := 1) hx hb dX11_ask_105 (by decide) ?_
                        refine lv_iadd hx hb dX11_ask_106 ?_
                        obtain ⟨h45, hf⟩ := if_some hf
                        obtain ⟨σ46, eσ46, hf⟩ := wlet_some hf
                        refine wr_iast X hw sM35 nM35 h45 dX11_ask_107 (fun H locs hw => ?_)
                        replace hw := hw.to eσ46
                        obtain ⟨v47, ev47, hf⟩ := wlet_some hf
                        refine lv_iinc (v := v47) (lv' := [(5, .int v47), (0, .ref (ad 0)), (1, .int x1), (2, .int x2), (3, .int v37)]) hx hb dX11_ask_108 hl (k := 4) rfl (by rw [ev47]; rfl) (by decide) rfl (fun ls hl => ?_)
                        refine lv_goto (tgt := 74) hx hb dX11_ask_111 (by decide) ?_
                        exact ih74_38 σ46 v47 (lp_leaf hf hz74_38) ls H locs (lv_sub hl [1, 2, 3, 4, 0] rfl) hw
                exact lo74_38 fuel σ31 (0 : Int32) hq74_38 ls H locs (lv_sub hl [2, 3, 4, 1, 0] rfl) hw
        exact lo55_12 fuel σe31_11 (0 : Int32) (1 : Int32) hq55_12 ls H locs (lv_sub hl [2, 3, 4, 1, 0] rfl) hw
      have lo31_11 : ∀ (n : Nat) (σ31_11 : St) (x3_31_11 : Int32) (_ : lp st31_11 n (σ31_11, x3_31_11) = some E31_11) (ls : Array Slot) (H : Heap) (locs : List Loc), lv_has ls 9 [(0, .ref (ad 0)), (1, .int x1), (2, .int x2), (3, .int x3_31_11)] → wH WM ad D cy s σ31_11 H locs → W p l e { frames := 6, cells := 0, slots := 0, locals := 223 } s m [.ref (ad 0), .int x1, .int x2].toArray below meth c H locs 0 0 (MQ below (wQi WM ad D cy res.1 res.2) [.ref (ad 0), .int x1, .int x2].toArray s 0 0 (wA WM ad)) (F0 m 31 ls []) := by
        intro n
        induction n with
        | zero =>
          intro σ31_11 x3_31_11 hf ls H locs hl hw
          exact (lp_zero hf).elim
        | succ n ih31_11 =>
          intro σ31_11 x3_31_11 hf ls H locs hl hw
          obtain ⟨q31_11, hf, hz31_11⟩ := lp_succ hf
          rw [est31_11] at hf
          replace hf := un2_some hf
          refine lv_iload_n hx hb dX11_ask_31 rfl (lv_at hl 3 rfl) ?_
          refine lv_bipush (v := 7) hx hb dX11_ask_32 (by decide) ?_
          refine lv_icmp_ge (tgt := 50) hx hb dX11_ask_34 (by decide) (fun c48 => ?_) (fun c48 => ?_)
          · have hf := (if_pos c48).symm.trans hf
            exact hx31_11 σ31_11 (lpK_inr (lp_leaf hf hz31_11)) ls H locs (lv_sub hl [0, 1, 2] rfl) hw
          · have hf := (if_neg c48).symm.trans hf
            refine lv_aload_n hx hb dX11_ask_37 rfl (lv_at hl 0 rfl) ?_
            refine gX11_56 (b := 35) X hw sM0 nM0 rfl fl_X11_122 dX11_ask_38 ?_
            refine lv_iload_n hx hb dX11_ask_41 rfl (lv_at hl 3 rfl) ?_
            refine lv_iconst (v := 0) hx hb dX11_ask_42 (by decide) ?_
            obtain ⟨h49, hf⟩ := if_some hf
            obtain ⟨σ50, eσ50, hf⟩ := wlet_some hf
            refine wr_iast X hw sM35 nM35 h49 dX11_ask_43 (fun H locs hw => ?_)
            replace hw := hw.to eσ50
            obtain ⟨v51, ev51, hf⟩ := wlet_some hf
            refine lv_iinc (v := v51) (lv' := [(3, .int v51), (0, .ref (ad 0)), (1, .int x1), (2, .int x2)]) hx hb dX11_ask_44 hl (k := 3) rfl (by rw [ev51]; rfl) (by decide) rfl (fun ls hl => ?_)
            refine lv_goto (tgt := 31) hx hb dX11_ask_47 (by decide) ?_
            exact ih31_11 σ50 v51 (lp_leaf hf hz31_11) ls H locs (lv_sub hl [1, 2, 3, 0] rfl) hw
      exact lo31_11 fuel σ10 (0 : Int32) hq31_11 ls H locs (lv_sub hl [1, 2, 3, 0] rfl) hw
    · have hf := (if_pos c6).symm.trans hf
      refine lv_iconst (v := -1) hx hb dX11_ask_19 (by decide) ?_
      have er := Option.some.inj hf
      subst er
      exact wr_iret X hw hr (Or.inl rfl) dX11_ask_20

def f_X11_at (σ : St) (x1 : Int32) : Option (Int32) := if ib (7 : Int32) 26 = true then Option.bind (f_X11_in x1 (0 : Int32) ((σ.1 26 (Int32.toNatClampNeg (7 : Int32))) - (1 : Int32))) fun v3 => if v3 = 0 then (some (-1 : Int32)) else (if ib x1 26 = true then some (σ.1 26 (Int32.toNatClampNeg x1)) else none) else none
theorem hd_X11_at : yX11_at.cls = RX11 ∧ yX11_at.cls ≠ "java/lang/invoke/MethodHandle" ∧ yX11_at.cls ≠ "java/lang/invoke/VarHandle" ∧ (parseMethodDescriptor yX11_at.desc).map (fun d => d.parameters.length) = some 1 := by decide +kernel
set_option maxRecDepth 100000 in
set_option maxHeartbeats 4000000 in
theorem k_X11_at {l : Launch} {ad : Nat → Nat} {D : va_G} {cy : Nat → ClassId} {z : wStr} (hI : wI WM ad) {σ : St} {x1 : Int32}  {res : Int32} (hf : f_X11_at σ x1 = some res) : wC WM ad D cy z l yX11_at (Cond.code yX11_at cX11_at 2 (Option.some Jvm.ClassFile.FieldType.int) :: aw) (2) (122) [.ref (ad 0), .int x1] σ (wQi WM ad D cy res σ) := by
  unfold f_X11_at at hf
  refine wr_start (own := RX11) hI (by decide +kernel) rfl (Nat.le_of_ble_eq_true rfl) rfl ?_
  intro p e s m below meth c ls X hw hr hl
  have hx := X.hx
  have hb := X.hb
  obtain ⟨H, eH⟩ : ∃ H : Heap, H = s.heap := ⟨_, rfl⟩
  obtain ⟨locs, el⟩ : ∃ locs : List Loc, locs = [] := ⟨_, rfl⟩
  rw [← eH, ← el] at hw ⊢
  clear eH el
  replace hl : lv_has ls 2 [(0, .ref (ad 0)), (1, .int x1)] := hl
  refine lv_iload_n hx hb dX11_at_0 rfl (lv_at hl 1 rfl) ?_
  refine lv_iconst (v := 0) hx hb dX11_at_1 (by decide) ?_
  refine lv_aload_n hx hb dX11_at_2 rfl (lv_at hl 0 rfl) ?_
  refine gX11_43 (b := 26) X hw sM0 nM0 rfl fl_X11_95 dX11_at_3 ?_
  refine lv_bipush (v := 7) hx hb dX11_at_6 (by decide) ?_
  obtain ⟨h1, hf⟩ := if_some hf
  refine wr_iald X hw sM26 nM26 h1 dX11_at_8 ?_
  refine lv_iconst (v := 1) hx hb dX11_at_9 (by decide) ?_
  refine lv_isub hx hb dX11_at_10 ?_
  obtain ⟨v3, hq2, hf⟩ := bind_some hf
  refine wr_cSi (r := v3) (σ' := σ) (av := [.int x1, .int (0 : Int32), .int ((σ.1 26 (Int32.toNatClampNeg (7 : Int32))) - (1 : Int32))]) (rest := []) X hw hl.1 (k_X11_in hI hq2) rfl ml_X11_282 st_X11_in ini_X11 co_X11_in hd_X11_in ⟨Nat.le_of_ble_eq_true rfl, Nat.le_of_ble_eq_true rfl⟩ (Nat.le_of_ble_eq_true rfl) dX11_at_11 rfl (fun H locs hw => ?_)
  refine lv_if_eq (tgt := 26) hx hb dX11_at_14 (by decide) (fun c4 => ?_) (fun c4 => ?_)
  · have hf := (if_pos c4).symm.trans hf
    refine lv_iconst (v := -1) hx hb dX11_at_26 (by decide) ?_
    have er := Option.some.inj hf
    subst er
    exact wr_iret X hw hr (Or.inl rfl) dX11_at_27
  · have hf := (if_neg c4).symm.trans hf
    refine lv_aload_n hx hb dX11_at_17 rfl (lv_at hl 0 rfl) ?_
    refine gX11_43 (b := 26) X hw sM0 nM0 rfl fl_X11_95 dX11_at_18 ?_
    refine lv_iload_n hx hb dX11_at_21 rfl (lv_at hl 1 rfl) ?_
    obtain ⟨h5, hf⟩ := if_some hf
    refine wr_iald X hw sM26 nM26 h5 dX11_at_22 ?_
    refine lv_goto (tgt := 27) hx hb dX11_at_23 (by decide) ?_
    have er := Option.some.inj hf
    subst er
    exact wr_iret X hw hr (Or.inl rfl) dX11_at_27

def f_X11_back (σ : St) (x1 : Int32) : Option (Int32 × St) := if x1 < 0 then (some ((-1 : Int32), σ)) else (if x1 ≤ (σ.1 0 2) then (wlet (si σ 0 2 ((σ.1 0 2) - x1)) fun σ3 => some ((σ3.1 0 2), σ3)) else (some ((-1 : Int32), σ)))
theorem hd_X11_back : yX11_back.cls = RX11 ∧ yX11_back.cls ≠ "java/lang/invoke/MethodHandle" ∧ yX11_back.cls ≠ "java/lang/invoke/VarHandle" ∧ (parseMethodDescriptor yX11_back.desc).map (fun d => d.parameters.length) = some 1 := by decide +kernel
set_option maxRecDepth 100000 in
set_option maxHeartbeats 4000000 in
theorem k_X11_back {l : Launch} {ad : Nat → Nat} {D : va_G} {cy : Nat → ClassId} {z : wStr} (hI : wI WM ad) {σ : St} {x1 : Int32}  {res : Int32 × St} (hf : f_X11_back σ x1 = some res) : wC WM ad D cy z l yX11_back (Cond.code yX11_back cX11_back 2 (Option.some Jvm.ClassFile.FieldType.int) :: aw) (1) (100) [.ref (ad 0), .int x1] σ (wQi WM ad D cy res.1 res.2) := by
  unfold f_X11_back at hf
  refine wr_start (own := RX11) hI (by decide +kernel) rfl (Nat.le_of_ble_eq_true rfl) rfl ?_
  intro p e s m below meth c ls X hw hr hl
  have hx := X.hx
  have hb := X.hb
  obtain ⟨H, eH⟩ : ∃ H : Heap, H = s.heap := ⟨_, rfl⟩
  obtain ⟨locs, el⟩ : ∃ locs : List Loc, locs = [] := ⟨_, rfl⟩
  rw [← eH, ← el] at hw ⊢
  clear eH el
  replace hl : lv_has ls 2 [(0, .ref (ad 0)), (1, .int x1)] := hl
  refine lv_iload_n hx hb dX11_back_0 rfl (lv_at hl 1 rfl) ?_
  refine lv_if_lt (tgt := 12) hx hb dX11_back_1 (by decide) (fun c1 => ?_) (fun c1 => ?_)
  · have hf := (if_pos c1).symm.trans hf
    refine lv_iconst (v := -1) hx hb dX11_back_12 (by decide) ?_
    have er := Option.some.inj hf
    subst er
    exact wr_iret X hw hr (Or.inl rfl) dX11_back_13
  · have hf := (if_neg c1).symm.trans hf
    refine lv_iload_n hx hb dX11_back_4 rfl (lv_at hl 1 rfl) ?_
    refine lv_aload_n hx hb dX11_back_5 rfl (lv_at hl 0 rfl) ?_
    refine gX11_2 X hw sM0 nM0 fl_X11_149 dX11_back_6 ?_
    refine lv_icmp_le (tgt := 14) hx hb dX11_back_9 (by decide) (fun c2 => ?_) (fun c2 => ?_)
    · have hf := (if_pos c2).symm.trans hf
      refine lv_aload_n hx hb dX11_back_14 rfl (lv_at hl 0 rfl) ?_
      refine lv_dup hx hb dX11_back_15 rfl ?_
      refine gX11_2 X hw sM0 nM0 fl_X11_149 dX11_back_16 ?_
      refine lv_iload_n hx hb dX11_back_19 rfl (lv_at hl 1 rfl) ?_
      refine lv_isub hx hb dX11_back_20 ?_
      obtain ⟨σ3, eσ3, hf⟩ := wlet_some hf
      refine pX11_2 X hw sM0 nM0 fl_X11_149 dX11_back_21 (fun H locs hw => ?_)
      replace hw := hw.to eσ3
      refine lv_aload_n hx hb dX11_back_24 rfl (lv_at hl 0 rfl) ?_
      refine gX11_2 X hw sM0 nM0 fl_X11_149 dX11_back_25 ?_
      have er := Option.some.inj hf
      subst er
      exact wr_iret X hw hr (Or.inl rfl) dX11_back_28
    · have hf := (if_neg c2).symm.trans hf
      refine lv_iconst (v := -1) hx hb dX11_back_12 (by decide) ?_
      have er := Option.some.inj hf
      subst er
      exact wr_iret X hw hr (Or.inl rfl) dX11_back_13

def f_X11_behind (σ : St) (x1 : Int32) : Option (Int32 × St) := Option.bind (f_X11_copies σ) fun σ2 => Option.bind (f_X11_isCase σ2 x1) fun v4 => if v4 = 0 then (some ((-1 : Int32), σ2)) else (Option.bind (f_X11_isOn σ2 x1) fun v7 => if v7 = 0 then (some ((-1 : Int32), σ2)) else (Option.bind (f_X11_placeOf σ2 x1) fun v10 => if ib (7 : Int32) 26 = true then if (σ2.1 27 (Int32.toNatClampNeg (7 : Int32))) ≤ (v10 + (1 : Int32)) then (some ((-2 : Int32), σ2)) else (Option.bind (f_X11_placeOf σ2 x1) fun v14 => if ib (v14 + (1 : Int32)) 26 = true then some ((σ2.1 27 (Int32.toNatClampNeg (v14 + (1 : Int32)))), σ2) else none) else none))
theorem hd_X11_behind : yX11_behind.cls = RX11 ∧ yX11_behind.cls ≠ "java/lang/invoke/MethodHandle" ∧ yX11_behind.cls ≠ "java/lang/invoke/VarHandle" ∧ (parseMethodDescriptor yX11_behind.desc).map (fun d => d.parameters.length) = some 1 := by decide +kernel
set_option maxRecDepth 100000 in
set_option maxHeartbeats 4000000 in
theorem k_X11_behind {l : Launch} {ad : Nat → Nat} {D : va_G} {cy : Nat → ClassId} {z : wStr} (hI : wI WM ad) {σ : St} {x1 : Int32}  {res : Int32 × St} (hf : f_X11_behind σ x1 = some res) : wC WM ad D cy z l yX11_behind (Cond.code yX11_behind cX11_behind 2 (Option.some Jvm.ClassFile.FieldType.int) :: aw) (3) (143) [.ref (ad 0), .int x1] σ (wQi WM ad D cy res.1 res.2) := by
  unfold f_X11_behind at hf
  refine wr_start (own := RX11) hI (by decide +kernel) rfl (Nat.le_of_ble_eq_true rfl) rfl ?_
  intro p e s m below meth c ls X hw hr hl
  have hx := X.hx
  have hb := X.hb
  obtain ⟨H, eH⟩ : ∃ H : Heap, H = s.heap := ⟨_, rfl⟩
  obtain ⟨locs, el⟩ : ∃ locs : List Loc, locs = [] := ⟨_, rfl⟩
  rw [← eH, ← el] at hw ⊢
  clear eH el
  replace hl : lv_has ls 2 [(0, .ref (ad 0)), (1, .int x1)] := hl
  refine lv_aload_n hx hb dX11_behind_0 rfl (lv_at hl 0 rfl) ?_
  obtain ⟨σ2, hq1, hf⟩ := bind_some hf
  refine wr_cVv (σ' := σ2) (av := []) (rest := []) X hw hl.1 sM0 nM0 rfl (k_X11_copies hI hq1) rfl ml_X11_345 im_X11_copies se_X11_copies ini_X11 co_X11_copies hd_X11_copies ⟨Nat.le_of_ble_eq_true rfl, Nat.le_of_ble_eq_true rfl⟩ (Nat.le_of_ble_eq_true rfl) dX11_behind_1 rfl (fun H locs hw => ?_)
  refine lv_aload_n hx hb dX11_behind_4 rfl (lv_at hl 0 rfl) ?_
  refine lv_iload_n hx hb dX11_behind_5 rfl (lv_at hl 1 rfl) ?_
  obtain ⟨v4, hq3, hf⟩ := bind_some hf
  refine wr_cVi (r := v4) (σ' := σ2) (av := [.int x1]) (rest := []) X hw hl.1 sM0 nM0 rfl (k_X11_isCase hI hq3) rfl ml_X11_342 im_X11_isCase se_X11_isCase ini_X11 co_X11_isCase hd_X11_isCase ⟨Nat.le_of_ble_eq_true rfl, Nat.le_of_ble_eq_true rfl⟩ (Nat.le_of_ble_eq_true rfl) dX11_behind_6 rfl (fun H locs hw => ?_)
  refine lv_if_eq (tgt := 20) hx hb dX11_behind_9 (by decide) (fun c5 => ?_) (fun c5 => ?_)
  · have hf := (if_pos c5).symm.trans hf
    refine lv_iconst (v := -1) hx hb dX11_behind_20 (by decide) ?_
    have er := Option.some.inj hf
    subst er
    exact wr_iret X hw hr (Or.inl rfl) dX11_behind_21
  · have hf := (if_neg c5).symm.trans hf
    refine lv_aload_n hx hb dX11_behind_12 rfl (lv_at hl 0 rfl) ?_
    refine lv_iload_n hx hb dX11_behind_13 rfl (lv_at hl 1 rfl) ?_
    obtain ⟨v7, hq6, hf⟩ := bind_some hf
    refine wr_cVi (r := v7) (σ' := σ2) (av := [.int x1]) (rest := []) X hw hl.1 sM0 nM0 rfl (k_X11_isOn hI hq6) rfl ml_X11_348 im_X11_isOn se_X11_isOn ini_X11 co_X11_isOn hd_X11_isOn ⟨Nat.le_of_ble_eq_true rfl, Nat.le_of_ble_eq_true rfl⟩ (Nat.le_of_ble_eq_true rfl) dX11_behind_14 rfl (fun H locs hw => ?_)
    refine lv_if_ne (tgt := 22) hx hb dX11_behind_17 (by decide) (fun c8 => ?_) (fun c8 => ?_)
    · have hf := (if_neg c8).symm.trans hf
      refine lv_aload_n hx hb dX11_behind_22 rfl (lv_at hl 0 rfl) ?_
      refine lv_iload_n hx hb dX11_behind_23 rfl (lv_at hl 1 rfl) ?_
      obtain ⟨v10, hq9, hf⟩ := bind_some hf
      refine wr_cVi (r := v10) (σ' := σ2) (av := [.int x1]) (rest := []) X hw hl.1 sM0 nM0 rfl (k_X11_placeOf hI hq9) rfl ml_X11_293 im_X11_placeOf se_X11_placeOf ini_X11 co_X11_placeOf hd_X11_placeOf ⟨Nat.le_of_ble_eq_true rfl, Nat.le_of_ble_eq_true rfl⟩ (Nat.le_of_ble_eq_true rfl) dX11_behind_24 rfl (fun H locs hw => ?_)
      refine lv_iconst (v := 1) hx hb dX11_behind_27 (by decide) ?_
      refine lv_iadd hx hb dX11_behind_28 ?_
      refine lv_aload_n hx hb dX11_behind_29 rfl (lv_at hl 0 rfl) ?_
      refine gX11_44 (b := 27) X hw sM0 nM0 rfl fl_X11_98 dX11_behind_30 ?_
      refine lv_bipush (v := 7) hx hb dX11_behind_33 (by decide) ?_
      obtain ⟨h11, hf⟩ := if_some hf
      refine wr_iald X hw sM27 nM27 h11 dX11_behind_35 ?_
      refine lv_icmp_ge (tgt := 54) hx hb dX11_behind_36 (by decide) (fun c12 => ?_) (fun c12 => ?_)
      · have hf := (if_pos c12).symm.trans hf
        refine lv_bipush (v := -2) hx hb dX11_behind_54 (by decide) ?_
        have er := Option.some.inj hf
        subst er
        exact wr_iret X hw hr (Or.inl rfl) dX11_behind_56
      · have hf := (if_neg c12).symm.trans hf
        refine lv_aload_n hx hb dX11_behind_39 rfl (lv_at hl 0 rfl) ?_
        refine gX11_44 (b := 27) X hw sM0 nM0 rfl fl_X11_98 dX11_behind_40 ?_
        refine lv_aload_n hx hb dX11_behind_43 rfl (lv_at hl 0 rfl) ?_
        refine lv_iload_n hx hb dX11_behind_44 rfl (lv_at hl 1 rfl) ?_
        obtain ⟨v14, hq13, hf⟩ := bind_some hf
        refine wr_cVi (r := v14) (σ' := σ2) (av := [.int x1]) (rest := [.ref (ad 27)]) X hw hl.1 sM0 nM0 rfl (k_X11_placeOf hI hq13) rfl ml_X11_293 im_X11_placeOf se_X11_placeOf ini_X11 co_X11_placeOf hd_X11_placeOf ⟨Nat.le_of_ble_eq_true rfl, Nat.le_of_ble_eq_true rfl⟩ (Nat.le_of_ble_eq_true rfl) dX11_behind_45 rfl (fun H locs hw => ?_)
        refine lv_iconst (v := 1) hx hb dX11_behind_48 (by decide) ?_
        refine lv_iadd hx hb dX11_behind_49 ?_
        obtain ⟨h15, hf⟩ := if_some hf
        refine wr_iald X hw sM27 nM27 h15 dX11_behind_50 ?_
        refine lv_goto (tgt := 56) hx hb dX11_behind_51 (by decide) ?_
        have er := Option.some.inj hf
        subst er
        exact wr_iret X hw hr (Or.inl rfl) dX11_behind_56
    · have hf := (if_pos c8).symm.trans hf
      refine lv_iconst (v := -1) hx hb dX11_behind_20 (by decide) ?_
      have er := Option.some.inj hf
      subst er
      exact wr_iret X hw hr (Or.inl rfl) dX11_behind_21

def f_X11_dueAt (σ : St) (x1 : Int32) : Option (Int32 × St) := if ib x1 26 = true then if ib x1 26 = true then Option.bind (f_X11_deedAt σ (σ.1 27 (Int32.toNatClampNeg x1))) fun v4 => bnd2 (f_X11_doomOf σ (σ.1 27 (Int32.toNatClampNeg x1)) x1 v4) fun v6 σ7 => some (v6, σ7) else none else none
theorem hd_X11_dueAt : yX11_dueAt.cls = RX11 ∧ yX11_dueAt.cls ≠ "java/lang/invoke/MethodHandle" ∧ yX11_dueAt.cls ≠ "java/lang/invoke/VarHandle" ∧ (parseMethodDescriptor yX11_dueAt.desc).map (fun d => d.parameters.length) = some 1 := by decide +kernel
set_option maxRecDepth 100000 in
set_option maxHeartbeats 4000000 in
theorem k_X11_dueAt {l : Launch} {ad : Nat → Nat} {D : va_G} {cy : Nat → ClassId} {z : wStr} (hI : wI WM ad) {σ : St} {x1 : Int32}  {res : Int32 × St} (hf : f_X11_dueAt σ x1 = some res) : wC WM ad D cy z l yX11_dueAt (Cond.code yX11_dueAt cX11_dueAt 2 (Option.some Jvm.ClassFile.FieldType.int) :: aw) (4) (176) [.ref (ad 0), .int x1] σ (wQi WM ad D cy res.1 res.2) := by
  unfold f_X11_dueAt at hf
  refine wr_start (own := RX11) hI (by decide +kernel) rfl (Nat.le_of_ble_eq_true rfl) rfl ?_
  intro p e s m below meth c ls X hw hr hl
  have hx := X.hx
  have hb := X.hb
  obtain ⟨H, eH⟩ : ∃ H : Heap, H = s.heap := ⟨_, rfl⟩
  obtain ⟨locs, el⟩ : ∃ locs : List Loc, locs = [] := ⟨_, rfl⟩
  rw [← eH, ← el] at hw ⊢
  clear eH el
  replace hl : lv_has ls 2 [(0, .ref (ad 0)), (1, .int x1)] := hl
  refine lv_aload_n hx hb dX11_dueAt_0 rfl (lv_at hl 0 rfl) ?_
  refine lv_aload_n hx hb dX11_dueAt_1 rfl (lv_at hl 0 rfl) ?_
  refine gX11_44 (b := 27) X hw sM0 nM0 rfl fl_X11_98 dX11_dueAt_2 ?_
  refine lv_iload_n hx hb dX11_dueAt_5 rfl (lv_at hl 1 rfl) ?_
  obtain ⟨h1, hf⟩ := if_some hf
  refine wr_iald X hw sM27 nM27 h1 dX11_dueAt_6 ?_
  refine lv_iload_n hx hb dX11_dueAt_7 rfl (lv_at hl 1 rfl) ?_
  refine lv_aload_n hx hb dX11_dueAt_8 rfl (lv_at hl 0 rfl) ?_
  refine lv_aload_n hx hb dX11_dueAt_9 rfl (lv_at hl 0 rfl) ?_
  refine gX11_44 (b := 27) X hw sM0 nM0 rfl fl_X11_98 dX11_dueAt_10 ?_
  refine lv_iload_n hx hb dX11_dueAt_13 rfl (lv_at hl 1 rfl) ?_
  obtain ⟨h2, hf⟩ := if_some hf
  refine wr_iald X hw sM27 nM27 h2 dX11_dueAt_14 ?_
  obtain ⟨v4, hq3, hf⟩ := bind_some hf
  refine wr_cVi (r := v4) (σ' := σ) (av := [.int (σ.1 27 (Int32.toNatClampNeg x1))]) (rest := [.int x1, .int (σ.1 27 (Int32.toNatClampNeg x1)), .ref (ad 0)]) X hw hl.1 sM0 nM0 rfl (k_X11_deedAt hI hq3) rfl ml_X11_299 im_X11_deedAt se_X11_deedAt ini_X11 co_X11_deedAt hd_X11_deedAt ⟨Nat.le_of_ble_eq_true rfl, Nat.le_of_ble_eq_true rfl⟩ (Nat.le_of_ble_eq_true rfl) dX11_dueAt_15 rfl (fun H locs hw => ?_)
  obtain ⟨v6, σ7, hq5, hf⟩ := bnd2_some hf
  refine wr_cVi (r := v6) (σ' := σ7) (av := [.int (σ.1 27 (Int32.toNatClampNeg x1)), .int x1, .int v4]) (rest := []) X hw hl.1 sM0 nM0 rfl (k_X11_doomOf hI hq5) rfl ml_X11_318 im_X11_doomOf se_X11_doomOf ini_X11 co_X11_doomOf hd_X11_doomOf ⟨Nat.le_of_ble_eq_true rfl, Nat.le_of_ble_eq_true rfl⟩ (Nat.le_of_ble_eq_true rfl) dX11_dueAt_18 rfl (fun H locs hw => ?_)
  have er := Option.some.inj hf
  subst er
  exact wr_iret X hw hr (Or.inl rfl) dX11_dueAt_21
