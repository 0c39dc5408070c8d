def f_X5_isBlank (x0 : Int32) : Option (Int32) := if x0 = (9 : Int32) then (some (1 : Int32)) else (if x0 = (10 : Int32) then (some (1 : Int32)) else (if x0 = (13 : Int32) then (some (1 : Int32)) else (if x0 = (32 : Int32) then (some (1 : Int32)) else (some (0 : Int32)))))
theorem hd_X5_isBlank : yX5_isBlank.cls ≠ "java/lang/invoke/MethodHandle" ∧ yX5_isBlank.cls ≠ "java/lang/invoke/VarHandle" ∧ (parseMethodDescriptor yX5_isBlank.desc).map (fun d => d.parameters.length) = some 1 := by decide +kernel
set_option maxRecDepth 100000 in
set_option maxHeartbeats 4000000 in
theorem k_X5_isBlank {l : Launch} {ad : Nat → Nat} {D : va_G} {cy : Nat → ClassId} {z : wStr} (hI : wI WC ad) {σ : St} {x0 : Int32}  {res : Int32} (hf : f_X5_isBlank x0 = some res) : wC WC ad D cy z l yX5_isBlank (Cond.code yX5_isBlank cX5_isBlank 1 (Option.some Jvm.ClassFile.FieldType.boolean) :: aw) (1) (100) [.int x0] σ (wQi WC ad D cy res σ) := by
  unfold f_X5_isBlank at hf
  refine wr_start (own := RX5) hI (by decide +kernel) rfl (Nat.le_of_ble_eq_true rfl) rfl ?_
  intro p e s m below meth c ls X hw hr hl
  have hx := X.hx
  have hb := X.hb
  obtain ⟨H, eH⟩ : ∃ H : Heap, H = s.heap := ⟨_, rfl⟩
  obtain ⟨locs, el⟩ : ∃ locs : List Loc, locs = [] := ⟨_, rfl⟩
  rw [← eH, ← el] at hw ⊢
  clear eH el
  replace hl : lv_has ls 1 [(0, .int x0)] := hl
  refine lv_iload_n hx hb dX5_isBlank_0 rfl (lv_at hl 0 rfl) ?_
  refine lv_bipush (v := 9) hx hb dX5_isBlank_1 (by decide) ?_
  refine lv_icmp_eq (tgt := 24) hx hb dX5_isBlank_3 (by decide) (fun c1 => ?_) (fun c1 => ?_)
  · have hf := (if_pos c1).symm.trans hf
    refine lv_iconst (v := 1) hx hb dX5_isBlank_24 (by decide) ?_
    refine lv_goto (tgt := 29) hx hb dX5_isBlank_25 (by decide) ?_
    have er := Option.some.inj hf
    subst er
    exact wr_iret X hw hr (Or.inr ⟨rfl, (show bz (1 : Int32) = true from rfl)⟩) dX5_isBlank_29
  · have hf := (if_neg c1).symm.trans hf
    refine lv_iload_n hx hb dX5_isBlank_6 rfl (lv_at hl 0 rfl) ?_
    refine lv_bipush (v := 10) hx hb dX5_isBlank_7 (by decide) ?_
    refine lv_icmp_eq (tgt := 24) hx hb dX5_isBlank_9 (by decide) (fun c2 => ?_) (fun c2 => ?_)
    · have hf := (if_pos c2).symm.trans hf
      refine lv_iconst (v := 1) hx hb dX5_isBlank_24 (by decide) ?_
      refine lv_goto (tgt := 29) hx hb dX5_isBlank_25 (by decide) ?_
      have er := Option.some.inj hf
      subst er
      exact wr_iret X hw hr (Or.inr ⟨rfl, (show bz (1 : Int32) = true from rfl)⟩) dX5_isBlank_29
    · have hf := (if_neg c2).symm.trans hf
      refine lv_iload_n hx hb dX5_isBlank_12 rfl (lv_at hl 0 rfl) ?_
      refine lv_bipush (v := 13) hx hb dX5_isBlank_13 (by decide) ?_
      refine lv_icmp_eq (tgt := 24) hx hb dX5_isBlank_15 (by decide) (fun c3 => ?_) (fun c3 => ?_)
      · have hf := (if_pos c3).symm.trans hf
        refine lv_iconst (v := 1) hx hb dX5_isBlank_24 (by decide) ?_
        refine lv_goto (tgt := 29) hx hb dX5_isBlank_25 (by decide) ?_
        have er := Option.some.inj hf
        subst er
        exact wr_iret X hw hr (Or.inr ⟨rfl, (show bz (1 : Int32) = true from rfl)⟩) dX5_isBlank_29
      · have hf := (if_neg c3).symm.trans hf
        refine lv_iload_n hx hb dX5_isBlank_18 rfl (lv_at hl 0 rfl) ?_
        refine lv_bipush (v := 32) hx hb dX5_isBlank_19 (by decide) ?_
        refine lv_icmp_ne (tgt := 28) hx hb dX5_isBlank_21 (by decide) (fun c4 => ?_) (fun c4 => ?_)
        · have hf := (if_neg c4).symm.trans hf
          refine lv_iconst (v := 0) hx hb dX5_isBlank_28 (by decide) ?_
          have er := Option.some.inj hf
          subst er
          exact wr_iret X hw hr (Or.inr ⟨rfl, (show bz (0 : Int32) = true from rfl)⟩) dX5_isBlank_29
        · have hf := (if_pos c4).symm.trans hf
          refine lv_iconst (v := 1) hx hb dX5_isBlank_24 (by decide) ?_
          refine lv_goto (tgt := 29) hx hb dX5_isBlank_25 (by decide) ?_
          have er := Option.some.inj hf
          subst er
          exact wr_iret X hw hr (Or.inr ⟨rfl, (show bz (1 : Int32) = true from rfl)⟩) dX5_isBlank_29

def f_X5_passBlanks (σ : St)  : Option (St) := wlet (fun (σ0_1 : St) => if (σ0_1.1 2 1) ≤ (σ0_1.1 11 4) then (some (.inr σ0_1)) else (Option.bind (f_X7_byteAt σ0_1 (σ0_1.1 11 4)) fun v4 => Option.bind (f_X5_isBlank v4) fun v6 => if v6 = 0 then (some (.inr σ0_1)) else (wlet (si σ0_1 11 4 ((σ0_1.1 11 4) + (1 : Int32))) fun σ8 => some (.inl σ8))) : St → Option ((St) ⊕ (St))) fun st0_1 => Option.bind (lp st0_1 fuel σ) ((fun (σe0_1 : St) => some σe0_1))
theorem hd_X5_passBlanks : yX5_passBlanks.cls = RX5 ∧ yX5_passBlanks.cls ≠ "java/lang/invoke/MethodHandle" ∧ yX5_passBlanks.cls ≠ "java/lang/invoke/VarHandle" ∧ (parseMethodDescriptor yX5_passBlanks.desc).map (fun d => d.parameters.length) = some 0 := by decide +kernel
set_option maxRecDepth 100000 in
set_option maxHeartbeats 4000000 in
theorem k_X5_passBlanks {l : Launch} {ad : Nat → Nat} {D : va_G} {cy : Nat → ClassId} {z : wStr} (hI : wI WC ad) {σ : St}   {res : St} (hf : f_X5_passBlanks σ  = some res) : wC WC ad D cy z l yX5_passBlanks (Cond.code yX5_passBlanks cX5_passBlanks 1 (none) :: aw) (2) (121) [.ref (ad 11)] σ (wQv WC ad D cy res) := by
  unfold f_X5_passBlanks at hf
  refine wr_start (own := RX5) hI (by decide +kernel) rfl (Nat.le_of_ble_eq_true rfl) rfl ?_
  intro p e s m below meth c ls X hw hr hl
  have hx := X.hx
  have hb := X.hb
  obtain ⟨H, eH⟩ : ∃ H : Heap, H = s.heap := ⟨_, rfl⟩
  obtain ⟨locs, el⟩ : ∃ locs : List Loc, locs = [] := ⟨_, rfl⟩
  rw [← eH, ← el] at hw ⊢
  clear eH el
  replace hl : lv_has ls 1 [(0, .ref (ad 11))] := hl
  obtain ⟨st0_1, est0_1, hf⟩ := wlet_some hf
  obtain ⟨E0_1, hq0_1, hE0_1⟩ := bind_some hf
  have hx0_1 : ∀ (σe0_1 : St) (_ : σe0_1 = E0_1) (ls : Array Slot) (H : Heap) (locs : List Loc), lv_has ls 1 [] → wH WC ad D cy s σe0_1 H locs → W p l e { frames := 2, cells := 0, slots := 0, locals := 121 } s m [.ref (ad 11)].toArray below meth c H locs 0 0 (MQ below (wQv WC ad D cy res) [.ref (ad 11)].toArray s 0 0 (wA WC ad)) (F0 m 44 ls []) := by
    intro σe0_1 e0 ls H locs hl hw
    subst e0
    have hf := hE0_1
    have er := Option.some.inj hf
    subst er
    exact wr_vret X hw hr dX5_passBlanks_44
  have lo0_1 : ∀ (n : Nat) (σ0_1 : St) (_ : lp st0_1 n σ0_1 = some E0_1) (ls : Array Slot) (H : Heap) (locs : List Loc), lv_has ls 1 [(0, .ref (ad 11))] → wH WC ad D cy s σ0_1 H locs → W p l e { frames := 2, cells := 0, slots := 0, locals := 121 } s m [.ref (ad 11)].toArray below meth c H locs 0 0 (MQ below (wQv WC ad D cy res) [.ref (ad 11)].toArray s 0 0 (wA WC ad)) (F0 m 0 ls []) := by
    intro n
    induction n with
    | zero =>
      intro σ0_1 hf ls H locs hl hw
      exact (lp_zero hf).elim
    | succ n ih0_1 =>
      intro σ0_1 hf ls H locs hl hw
      obtain ⟨q0_1, hf, hz0_1⟩ := lp_succ hf
      rw [est0_1] at hf
      refine lv_aload_n hx hb dX5_passBlanks_0 rfl (lv_at hl 0 rfl) ?_
      refine gX5_4 X hw sC11 nC11 fl_X5_26 dX5_passBlanks_1 ?_
      refine lv_aload_n hx hb dX5_passBlanks_4 rfl (lv_at hl 0 rfl) ?_
      refine gX5_0 (b := 2) X hw sC11 nC11 rfl fl_X5_22 dX5_passBlanks_5 ?_
      refine gnX7_1 X hw sC2 nC2 fn_X5_41 dX5_passBlanks_8 ?_
      refine lv_icmp_ge (tgt := 44) hx hb dX5_passBlanks_11 (by decide) (fun c2 => ?_) (fun c2 => ?_)
      · have hf := (if_pos c2).symm.trans hf
        exact hx0_1 σ0_1 (lpK_inr (lp_leaf hf hz0_1)) ls H locs (lv_sub hl [] rfl) hw
      · have hf := (if_neg c2).symm.trans hf
        refine lv_aload_n hx hb dX5_passBlanks_14 rfl (lv_at hl 0 rfl) ?_
        refine gX5_0 (b := 2) X hw sC11 nC11 rfl fl_X5_22 dX5_passBlanks_15 ?_
        refine lv_aload_n hx hb dX5_passBlanks_18 rfl (lv_at hl 0 rfl) ?_
        refine gX5_4 X hw sC11 nC11 fl_X5_26 dX5_passBlanks_19 ?_
        obtain ⟨v4, hq3, hf⟩ := bind_some hf
        refine wr_cNi (r := v4) (σ' := σ0_1) (av := [.int (σ0_1.1 11 4)]) (rest := []) X hw hl.1 sC2 nC2 rfl (k_X7_byteAt hI hq3) rfl mn_X5_46 im_X7_byteAt se_X7_byteAt ini_X7 co_X7_byteAt hd_X7_byteAt ⟨Nat.le_of_ble_eq_true rfl, Nat.le_of_ble_eq_true rfl⟩ (Nat.le_of_ble_eq_true rfl) dX5_passBlanks_22 rfl (fun H locs hw => ?_)
        obtain ⟨v6, hq5, hf⟩ := bind_some hf
        refine wr_cSi (r := v6) (σ' := σ0_1) (av := [.int v4]) (rest := []) X hw hl.1 (k_X5_isBlank hI hq5) rfl ml_X5_50 st_X5_isBlank ini_X5 co_X5_isBlank hd_X5_isBlank ⟨Nat.le_of_ble_eq_true rfl, Nat.le_of_ble_eq_true rfl⟩ (Nat.le_of_ble_eq_true rfl) dX5_passBlanks_25 rfl (fun H locs hw => ?_)
        refine lv_if_eq (tgt := 44) hx hb dX5_passBlanks_28 (by decide) (fun c7 => ?_) (fun c7 => ?_)
        · have hf := (if_pos c7).symm.trans hf
          exact hx0_1 σ0_1 (lpK_inr (lp_leaf hf hz0_1)) ls H locs (lv_sub hl [] rfl) hw
        · have hf := (if_neg c7).symm.trans hf
          refine lv_aload_n hx hb dX5_passBlanks_31 rfl (lv_at hl 0 rfl) ?_
          refine lv_dup hx hb dX5_passBlanks_32 rfl ?_
          refine gX5_4 X hw sC11 nC11 fl_X5_26 dX5_passBlanks_33 ?_
          refine lv_iconst (v := 1) hx hb dX5_passBlanks_36 (by decide) ?_
          refine lv_iadd hx hb dX5_passBlanks_37 ?_
          obtain ⟨σ8, eσ8, hf⟩ := wlet_some hf
          refine pX5_4 X hw sC11 nC11 fl_X5_26 dX5_passBlanks_38 (fun H locs hw => ?_)
          replace hw := hw.to eσ8
          refine lv_goto (tgt := 0) hx hb dX5_passBlanks_41 (by decide) ?_
          exact ih0_1 σ8 (lp_leaf hf hz0_1) ls H locs (lv_sub hl [0] rfl) hw
  exact lo0_1 fuel σ hq0_1 ls H locs (lv_sub hl [0] rfl) hw

def f_X5_isDigit (x0 : Int32) : Option (Int32) := if x0 < (48 : Int32) then (some (0 : Int32)) else (if (57 : Int32) < x0 then (some (0 : Int32)) else (some (1 : Int32)))
theorem hd_X5_isDigit : yX5_isDigit.cls ≠ "java/lang/invoke/MethodHandle" ∧ yX5_isDigit.cls ≠ "java/lang/invoke/VarHandle" ∧ (parseMethodDescriptor yX5_isDigit.desc).map (fun d => d.parameters.length) = some 1 := by decide +kernel
set_option maxRecDepth 100000 in
set_option maxHeartbeats 4000000 in
theorem k_X5_isDigit {l : Launch} {ad : Nat → Nat} {D : va_G} {cy : Nat → ClassId} {z : wStr} (hI : wI WC ad) {σ : St} {x0 : Int32}  {res : Int32} (hf : f_X5_isDigit x0 = some res) : wC WC ad D cy z l yX5_isDigit (Cond.code yX5_isDigit cX5_isDigit 1 (Option.some Jvm.ClassFile.FieldType.boolean) :: aw) (1) (100) [.int x0] σ (wQi WC ad D cy res σ) := by
  unfold f_X5_isDigit at hf
  refine wr_start (own := RX5) hI (by decide +kernel) rfl (Nat.le_of_ble_eq_true rfl) rfl ?_
  intro p e s m below meth c ls X hw hr hl
  have hx := X.hx
  have hb := X.hb
  obtain ⟨H, eH⟩ : ∃ H : Heap, H = s.heap := ⟨_, rfl⟩
  obtain ⟨locs, el⟩ : ∃ locs : List Loc, locs = [] := ⟨_, rfl⟩
  rw [← eH, ← el] at hw ⊢
  clear eH el
  replace hl : lv_has ls 1 [(0, .int x0)] := hl
  refine lv_iload_n hx hb dX5_isDigit_0 rfl (lv_at hl 0 rfl) ?_
  refine lv_bipush (v := 48) hx hb dX5_isDigit_1 (by decide) ?_
  refine lv_icmp_lt (tgt := 16) hx hb dX5_isDigit_3 (by decide) (fun c1 => ?_) (fun c1 => ?_)
  · have hf := (if_pos c1).symm.trans hf
    refine lv_iconst (v := 0) hx hb dX5_isDigit_16 (by decide) ?_
    have er := Option.some.inj hf
    subst er
    exact wr_iret X hw hr (Or.inr ⟨rfl, (show bz (0 : Int32) = true from rfl)⟩) dX5_isDigit_17
  · have hf := (if_neg c1).symm.trans hf
    refine lv_iload_n hx hb dX5_isDigit_6 rfl (lv_at hl 0 rfl) ?_
    refine lv_bipush (v := 57) hx hb dX5_isDigit_7 (by decide) ?_
    refine lv_icmp_gt (tgt := 16) hx hb dX5_isDigit_9 (by decide) (fun c2 => ?_) (fun c2 => ?_)
    · have hf := (if_pos c2).symm.trans hf
      refine lv_iconst (v := 0) hx hb dX5_isDigit_16 (by decide) ?_
      have er := Option.some.inj hf
      subst er
      exact wr_iret X hw hr (Or.inr ⟨rfl, (show bz (0 : Int32) = true from rfl)⟩) dX5_isDigit_17
    · have hf := (if_neg c2).symm.trans hf
      refine lv_iconst (v := 1) hx hb dX5_isDigit_12 (by decide) ?_
      refine lv_goto (tgt := 17) hx hb dX5_isDigit_13 (by decide) ?_
      have er := Option.some.inj hf
      subst er
      exact wr_iret X hw hr (Or.inr ⟨rfl, (show bz (1 : Int32) = true from rfl)⟩) dX5_isDigit_17

def f_X5_isLetter (x0 : Int32) : Option (Int32) := if x0 < (97 : Int32) then (some (0 : Int32)) else (if (122 : Int32) < x0 then (some (0 : Int32)) else (some (1 : Int32)))
theorem hd_X5_isLetter : yX5_isLetter.cls ≠ "java/lang/invoke/MethodHandle" ∧ yX5_isLetter.cls ≠ "java/lang/invoke/VarHandle" ∧ (parseMethodDescriptor yX5_isLetter.desc).map (fun d => d.parameters.length) = some 1 := by decide +kernel
set_option maxRecDepth 100000 in
set_option maxHeartbeats 4000000 in
theorem k_X5_isLetter {l : Launch} {ad : Nat → Nat} {D : va_G} {cy : Nat → ClassId} {z : wStr} (hI : wI WC ad) {σ : St} {x0 : Int32}  {res : Int32} (hf : f_X5_isLetter x0 = some res) : wC WC ad D cy z l yX5_isLetter (Cond.code yX5_isLetter cX5_isLetter 1 (Option.some Jvm.ClassFile.FieldType.boolean) :: aw) (1) (100) [.int x0] σ (wQi WC ad D cy res σ) := by
  unfold f_X5_isLetter at hf
  refine wr_start (own := RX5) hI (by decide +kernel) rfl (Nat.le_of_ble_eq_true rfl) rfl ?_
  intro p e s m below meth c ls X hw hr hl
  have hx := X.hx
  have hb := X.hb
  obtain ⟨H, eH⟩ : ∃ H : Heap, H = s.heap := ⟨_, rfl⟩
  obtain ⟨locs, el⟩ : ∃ locs : List Loc, locs = [] := ⟨_, rfl⟩
  rw [← eH, ← el] at hw ⊢
  clear eH el
  replace hl : lv_has ls 1 [(0, .int x0)] := hl
  refine lv_iload_n hx hb dX5_isLetter_0 rfl (lv_at hl 0 rfl) ?_
  refine lv_bipush (v := 97) hx hb dX5_isLetter_1 (by decide) ?_
  refine lv_icmp_lt (tgt := 16) hx hb dX5_isLetter_3 (by decide) (fun c1 => ?_) (fun c1 => ?_)
  · have hf := (if_pos c1).symm.trans hf
    refine lv_iconst (v := 0) hx hb dX5_isLetter_16 (by decide) ?_
    have er := Option.some.inj hf
    subst er
    exact wr_iret X hw hr (Or.inr ⟨rfl, (show bz (0 : Int32) = true from rfl)⟩) dX5_isLetter_17
  · have hf := (if_neg c1).symm.trans hf
    refine lv_iload_n hx hb dX5_isLetter_6 rfl (lv_at hl 0 rfl) ?_
    refine lv_bipush (v := 122) hx hb dX5_isLetter_7 (by decide) ?_
    refine lv_icmp_gt (tgt := 16) hx hb dX5_isLetter_9 (by decide) (fun c2 => ?_) (fun c2 => ?_)
    · have hf := (if_pos c2).symm.trans hf
      refine lv_iconst (v := 0) hx hb dX5_isLetter_16 (by decide) ?_
      have er := Option.some.inj hf
      subst er
      exact wr_iret X hw hr (Or.inr ⟨rfl, (show bz (0 : Int32) = true from rfl)⟩) dX5_isLetter_17
    · have hf := (if_neg c2).symm.trans hf
      refine lv_iconst (v := 1) hx hb dX5_isLetter_12 (by decide) ?_
      refine lv_goto (tgt := 17) hx hb dX5_isLetter_13 (by decide) ?_
      have er := Option.some.inj hf
      subst er
      exact wr_iret X hw hr (Or.inr ⟨rfl, (show bz (1 : Int32) = true from rfl)⟩) dX5_isLetter_17

def f_X5_scanDigits (σ : St)  : Option (Int32 × St) := wlet (σ.1 11 4) fun v1 => wlet (fun (σ5_2 : St) => if (σ5_2.1 2 1) ≤ (σ5_2.1 11 4) then (some (.inr σ5_2)) else (Option.bind (f_X7_byteAt σ5_2 (σ5_2.1 11 4)) fun v6 => Option.bind (f_X5_isDigit v6) fun v8 => if v8 = 0 then (some (.inr σ5_2)) else (Option.bind (f_X7_byteAt σ5_2 (σ5_2.1 11 4)) fun v11 => wlet (sj σ5_2 11 5 (((σ5_2.2 11 5) * (10 : Int64)) + (Int32.toInt64 (v11 - (48 : Int32))))) fun σ12 => wlet (si σ12 11 4 ((σ12.1 11 4) + (1 : Int32))) fun σ13 => some (.inl σ13))) : St → Option ((St) ⊕ (St))) fun st5_2 => Option.bind (lp st5_2 fuel σ) ((fun (σe5_2 : St) => if ((σe5_2.1 11 4) - v1) ≤ (4 : Int32) then (some ((3 : Int32), σe5_2)) else (some ((1 : Int32), σe5_2))))
theorem hd_X5_scanDigits : yX5_scanDigits.cls = RX5 ∧ yX5_scanDigits.cls ≠ "java/lang/invoke/MethodHandle" ∧ yX5_scanDigits.cls ≠ "java/lang/invoke/VarHandle" ∧ (parseMethodDescriptor yX5_scanDigits.desc).map (fun d => d.parameters.length) = some 0 := by decide +kernel
set_option maxRecDepth 100000 in
set_option maxHeartbeats 4000000 in
theorem k_X5_scanDigits {l : Launch} {ad : Nat → Nat} {D : va_G} {cy : Nat → ClassId} {z : wStr} (hI : wI WC ad) {σ : St}   {res : Int32 × St} (hf : f_X5_scanDigits σ  = some res) : wC WC ad D cy z l yX5_scanDigits (Cond.code yX5_scanDigits cX5_scanDigits 2 (Option.some Jvm.ClassFile.FieldType.int) :: aw) (2) (121) [.ref (ad 11)] σ (wQi WC ad D cy res.1 res.2) := by
  unfold f_X5_scanDigits at hf
  refine wr_start (own := RX5) hI (by decide +kernel) rfl (Nat.le_of_ble_eq_true rfl) rfl ?_
  intro p e s m below meth c ls X hw hr hl
  have hx := X.hx
  have hb := X.hb
  obtain ⟨H, eH⟩ : ∃ H : Heap, H = s.heap := ⟨_, rfl⟩
  obtain ⟨locs, el⟩ : ∃ locs : List Loc, locs = [] := ⟨_, rfl⟩
  rw [← eH, ← el] at hw ⊢
  clear eH el
  replace hl : lv_has ls 2 [(0, .ref (ad 11))] := hl
  refine lv_aload_n hx hb dX5_scanDigits_0 rfl (lv_at hl 0 rfl) ?_
  refine gX5_4 X hw sC11 nC11 fl_X5_26 dX5_scanDigits_1 ?_
  obtain ⟨v1, ev1, hf⟩ := wlet_some hf
  refine wr_top ev1 ?_
  refine lv_istore_n (lv' := [(1, .int v1), (0, .ref (ad 11))]) hx hb dX5_scanDigits_4 rfl hl (by decide) rfl (fun ls hl => ?_)
  obtain ⟨st5_2, est5_2, hf⟩ := wlet_some hf
  obtain ⟨E5_2, hq5_2, hE5_2⟩ := bind_some hf
  have hx5_2 : ∀ (σe5_2 : St) (_ : σe5_2 = E5_2) (ls : Array Slot) (H : Heap) (locs : List Loc), lv_has ls 2 [(0, .ref (ad 11)), (1, .int v1)] → wH WC ad D cy s σe5_2 H locs → W p l e { frames := 2, cells := 0, slots := 0, locals := 121 } s m [.ref (ad 11)].toArray below meth c H locs 0 0 (MQ below (wQi WC ad D cy res.1 res.2) [.ref (ad 11)].toArray s 0 0 (wA WC ad)) (F0 m 77 ls []) := by
    intro σe5_2 e0 ls H locs hl hw
    subst e0
    have hf := hE5_2
    refine lv_aload_n hx hb dX5_scanDigits_77 rfl (lv_at hl 0 rfl) ?_
    refine gX5_4 X hw sC11 nC11 fl_X5_26 dX5_scanDigits_78 ?_
    refine lv_iload_n hx hb dX5_scanDigits_81 rfl (lv_at hl 1 rfl) ?_
    refine lv_isub hx hb dX5_scanDigits_82 ?_
    refine lv_iconst (v := 4) hx hb dX5_scanDigits_83 (by decide) ?_
    refine lv_icmp_le (tgt := 91) hx hb dX5_scanDigits_84 (by decide) (fun c3 => ?_) (fun c3 => ?_)
    · have hf := (if_pos c3).symm.trans hf
      refine lv_iconst (v := 3) hx hb dX5_scanDigits_91 (by decide) ?_
      have er := Option.some.inj hf
      subst er
      exact wr_iret X hw hr (Or.inl rfl) dX5_scanDigits_92
    · have hf := (if_neg c3).symm.trans hf
      refine lv_iconst (v := 1) hx hb dX5_scanDigits_87 (by decide) ?_
      refine lv_goto (tgt := 92) hx hb dX5_scanDigits_88 (by decide) ?_
      have er := Option.some.inj hf
      subst er
      exact wr_iret X hw hr (Or.inl rfl) dX5_scanDigits_92
  have lo5_2 : ∀ (n : Nat) (σ5_2 : St) (_ : lp st5_2 n σ5_2 = some E5_2) (ls : Array Slot) (H : Heap) (locs : List Loc), lv_has ls 2 [(0, .ref (ad 11)), (1, .int v1)] → wH WC ad D cy s σ5_2 H locs → W p l e { frames := 2, cells := 0, slots := 0, locals := 121 } s m [.ref (ad 11)].toArray below meth c H locs 0 0 (MQ below (wQi WC ad D cy res.1 res.2) [.ref (ad 11)].toArray s 0 0 (wA WC ad)) (F0 m 5 ls []) := by
    intro n
    induction n with
    | zero =>
      intro σ5_2 hf ls H locs hl hw
      exact (lp_zero hf).elim
    | succ n ih5_2 =>
      intro σ5_2 hf ls H locs hl hw
      obtain ⟨q5_2, hf, hz5_2⟩ := lp_succ hf
      rw [est5_2] at hf
      refine lv_aload_n hx hb dX5_scanDigits_5 rfl (lv_at hl 0 rfl) ?_
      refine gX5_4 X hw sC11 nC11 fl_X5_26 dX5_scanDigits_6 ?_
      refine lv_aload_n hx hb dX5_scanDigits_9 rfl (lv_at hl 0 rfl) ?_
      refine gX5_0 (b := 2) X hw sC11 nC11 rfl fl_X5_22 dX5_scanDigits_10 ?_
      refine gnX7_1 X hw sC2 nC2 fn_X5_41 dX5_scanDigits_13 ?_
      refine lv_icmp_ge (tgt := 77) hx hb dX5_scanDigits_16 (by decide) (fun c4 => ?_) (fun c4 => ?_)
      · have hf := (if_pos c4).symm.trans hf
        exact hx5_2 σ5_2 (lpK_inr (lp_leaf hf hz5_2)) ls H locs (lv_sub hl [0, 1] rfl) hw
      · have hf := (if_neg c4).symm.trans hf
        refine lv_aload_n hx hb dX5_scanDigits_19 rfl (lv_at hl 0 rfl) ?_
        refine gX5_0 (b := 2) X hw sC11 nC11 rfl fl_X5_22 dX5_scanDigits_20 ?_
        refine lv_aload_n hx hb dX5_scanDigits_23 rfl (lv_at hl 0 rfl) ?_
        refine gX5_4 X hw sC11 nC11 fl_X5_26 dX5_scanDigits_24 ?_
        obtain ⟨v6, hq5, hf⟩ := bind_some hf
        refine wr_cNi (r := v6) (σ' := σ5_2) (av := [.int (σ5_2.1 11 4)]) (rest := []) X hw hl.1 sC2 nC2 rfl (k_X7_byteAt hI hq5) rfl mn_X5_46 im_X7_byteAt se_X7_byteAt ini_X7 co_X7_byteAt hd_X7_byteAt ⟨Nat.le_of_ble_eq_true rfl, Nat.le_of_ble_eq_true rfl⟩ (Nat.le_of_ble_eq_true rfl) dX5_scanDigits_27 rfl (fun H locs hw => ?_)
        obtain ⟨v8, hq7, hf⟩ := bind_some hf
        refine wr_cSi (r := v8) (σ' := σ5_2) (av := [.int v6]) (rest := []) X hw hl.1 (k_X5_isDigit hI hq7) rfl ml_X5_60 st_X5_isDigit ini_X5 co_X5_isDigit hd_X5_isDigit ⟨Nat.le_of_ble_eq_true rfl, Nat.le_of_ble_eq_true rfl⟩ (Nat.le_of_ble_eq_true rfl) dX5_scanDigits_30 rfl (fun H locs hw => ?_)
        refine lv_if_eq (tgt := 77) hx hb dX5_scanDigits_33 (by decide) (fun c9 => ?_) (fun c9 => ?_)
        · have hf := (if_pos c9).symm.trans hf
          exact hx5_2 σ5_2 (lpK_inr (lp_leaf hf hz5_2)) ls H locs (lv_sub hl [0, 1] rfl) hw
        · have hf := (if_neg c9).symm.trans hf
          refine lv_aload_n hx hb dX5_scanDigits_36 rfl (lv_at hl 0 rfl) ?_
          refine lv_aload_n hx hb dX5_scanDigits_37 rfl (lv_at hl 0 rfl) ?_
          refine gX5_5 X hw sC11 nC11 fl_X5_33 dX5_scanDigits_38 ?_
          refine lv_ldc2 (v := 10) hx hb X.ow (X.tw kl_X5_78) dX5_scanDigits_41 ?_
          refine lv_lmul hx hb dX5_scanDigits_44 ?_
          refine lv_aload_n hx hb dX5_scanDigits_45 rfl (lv_at hl 0 rfl) ?_
          refine gX5_0 (b := 2) X hw sC11 nC11 rfl fl_X5_22 dX5_scanDigits_46 ?_
          refine lv_aload_n hx hb dX5_scanDigits_49 rfl (lv_at hl 0 rfl) ?_
          refine gX5_4 X hw sC11 nC11 fl_X5_26 dX5_scanDigits_50 ?_
          obtain ⟨v11, hq10, hf⟩ := bind_some hf
          refine wr_cNi (r := v11) (σ' := σ5_2) (av := [.int (σ5_2.1 11 4)]) (rest := [.long ((σ5_2.2 11 5) * (10 : Int64)), .ref (ad 11)]) X hw hl.1 sC2 nC2 rfl (k_X7_byteAt hI hq10) rfl mn_X5_46 im_X7_byteAt se_X7_byteAt ini_X7 co_X7_byteAt hd_X7_byteAt ⟨Nat.le_of_ble_eq_true rfl, Nat.le_of_ble_eq_true rfl⟩ (Nat.le_of_ble_eq_true rfl) dX5_scanDigits_53 rfl (fun H locs hw => ?_)
          refine lv_bipush (v := 48) hx hb dX5_scanDigits_56 (by decide) ?_
          refine lv_isub hx hb dX5_scanDigits_58 ?_
          refine lv_i2l hx hb dX5_scanDigits_59 rfl ?_
          refine lv_ladd hx hb dX5_scanDigits_60 ?_
          obtain ⟨σ12, eσ12, hf⟩ := wlet_some hf
          refine pX5_5 X hw sC11 nC11 fl_X5_33 dX5_scanDigits_61 (fun H locs hw => ?_)
          replace hw := hw.to eσ12
          refine lv_aload_n hx hb dX5_scanDigits_64 rfl (lv_at hl 0 rfl) ?_
          refine lv_dup hx hb dX5_scanDigits_65 rfl ?_
          refine gX5_4 X hw sC11 nC11 fl_X5_26 dX5_scanDigits_66 ?_
          refine lv_iconst (v := 1) hx hb dX5_scanDigits_69 (by decide) ?_
          refine lv_iadd hx hb dX5_scanDigits_70 ?_
          obtain ⟨σ13, eσ13, hf⟩ := wlet_some hf
          refine pX5_4 X hw sC11 nC11 fl_X5_26 dX5_scanDigits_71 (fun H locs hw => ?_)
          replace hw := hw.to eσ13
          refine lv_goto (tgt := 5) hx hb dX5_scanDigits_74 (by decide) ?_
          exact ih5_2 σ13 (lp_leaf hf hz5_2) ls H locs (lv_sub hl [0, 1] rfl) hw
  exact lo5_2 fuel σ hq5_2 ls H locs (lv_sub hl [1, 0] rfl) hw

def f_X5_isWord (σ : St) (x1 : Int32) (x2 : Int32) : Option (Int32) := wlet (fun (x3_2_1 : Int32) => if (8 : Int32) ≤ x3_2_1 then (some (.inr (.inl ()))) else (wlet (fun (s0_33_3 : Int32) => (if x2 < 0 then (some (.inr (.inr (0 : Int32)))) else (if (152 : Int32) ≤ (x2 + x3_2_1) then (some (.inr (.inr (0 : Int32)))) else (Option.bind (sch 1 (x2 + x3_2_1)) fun v6 => if v6 = s0_33_3 then (wlet (x3_2_1 + (1 : Int32)) fun v9 => some (.inl v9)) else (some (.inr (.inr (0 : Int32)))))) : Option ((Int32) ⊕ ((Unit) ⊕ (Int32))))) fun k33_3 => if (σ.1 11 4) ≤ (x1 + x3_2_1) then (k33_3 (32 : Int32)) else (Option.bind (f_X7_byteAt σ (x1 + x3_2_1)) fun v12 => k33_3 v12)) : Int32 → Option ((Int32) ⊕ ((Unit) ⊕ (Int32)))) fun st2_1 => Option.bind (lp st2_1 fuel (0 : Int32)) (sumk (fun (_ : Unit) => some (1 : Int32)) (fun m => some m))
theorem hd_X5_isWord : yX5_isWord.cls = RX5 ∧ yX5_isWord.cls ≠ "java/lang/invoke/MethodHandle" ∧ yX5_isWord.cls ≠ "java/lang/invoke/VarHandle" ∧ (parseMethodDescriptor yX5_isWord.desc).map (fun d => d.parameters.length) = some 2 := by decide +kernel
set_option maxRecDepth 100000 in
set_option maxHeartbeats 4000000 in
theorem k_X5_isWord {l : Launch} {ad : Nat → Nat} {D : va_G} {cy : Nat → ClassId} {z : wStr} (hI : wI WC ad) {σ : St} {x1 : Int32} {x2 : Int32}  {res : Int32} (hf : f_X5_isWord σ x1 x2 = some res) : wC WC ad D cy z l yX5_isWord (Cond.code yX5_isWord cX5_isWord 5 (Option.some Jvm.ClassFile.FieldType.boolean) :: aw) (10) (700) [.ref (ad 11), .int x1, .int x2] σ (wQi WC ad D cy res σ) := by
  unfold f_X5_isWord at hf
  refine wr_start (own := RX5) hI (by decide +kernel) rfl (Nat.le_of_ble_eq_true rfl) rfl ?_
  intro p e s m below meth c ls X hw hr hl
  have hx := X.hx
  have hb := X.hb
  obtain ⟨H, eH⟩ : ∃ H : Heap, H = s.heap := ⟨_, rfl⟩
  obtain ⟨locs, el⟩ : ∃ locs : List Loc, locs = [] := ⟨_, rfl⟩
  rw [← eH, ← el] at hw ⊢
  clear eH el
  replace hl : lv_has ls 5 [(0, .ref (ad 11)), (1, .int x1), (2, .int x2)] := hl
  refine lv_iconst (v := 0) hx hb dX5_isWord_0 (by decide) ?_
  refine lv_istore_n (lv' := [(3, .int (0 : Int32)), (0, .ref (ad 11)), (1, .int x1), (2, .int x2)]) hx hb dX5_isWord_1 rfl hl (by decide) rfl (fun ls hl => ?_)
  obtain ⟨st2_1, est2_1, hf⟩ := wlet_some hf
  obtain ⟨E2_1, hq2_1, hE2_1⟩ := bind_some hf
  have hx2_1 : ∀ (_ : Sum.inl () = E2_1) (ls : Array Slot) (H : Heap) (locs : List Loc), lv_has ls 5 [] → wH WC ad D cy s σ H locs → W p l e { frames := 10, cells := 0, slots := 0, locals := 700 } s m [.ref (ad 11), .int x1, .int x2].toArray below meth c H locs 0 0 (MQ below (wQi WC ad D cy res σ) [.ref (ad 11), .int x1, .int x2].toArray s 0 0 (wA WC ad)) (F0 m 71 ls []) := by
    intro  e0 ls H locs hl hw
    have hf := sumk_l hE2_1 e0
    refine lv_iconst (v := 1) hx hb dX5_isWord_71 (by decide) ?_
    have er := Option.some.inj hf
    subst er
    exact wr_iret X hw hr (Or.inr ⟨rfl, (show bz (1 : Int32) = true from rfl)⟩) dX5_isWord_72
  have lo2_1 : ∀ (n : Nat) (x3_2_1 : Int32) (_ : lp st2_1 n x3_2_1 = some E2_1) (ls : Array Slot) (H : Heap) (locs : List Loc), lv_has ls 5 [(0, .ref (ad 11)), (1, .int x1), (2, .int x2), (3, .int x3_2_1)] → wH WC ad D cy s σ H locs → W p l e { frames := 10, cells := 0, slots := 0, locals := 700 } s m [.ref (ad 11), .int x1, .int x2].toArray below meth c H locs 0 0 (MQ below (wQi WC ad D cy res σ) [.ref (ad 11), .int x1, .int x2].toArray s 0 0 (wA WC ad)) (F0 m 2 ls []) := by
    intro n
    induction n with
    | zero =>
      intro x3_2_1 hf ls H locs hl hw
      exact (lp_zero hf).elim
    | succ n ih2_1 =>
      intro x3_2_1 hf ls H locs hl hw
      obtain ⟨q2_1, hf, hz2_1⟩ := lp_succ hf
      rw [est2_1] at hf
      refine lv_iload_n hx hb dX5_isWord_2 rfl (lv_at hl 3 rfl) ?_
      refine lv_bipush (v := 8) hx hb dX5_isWord_3 (by decide) ?_
      refine lv_icmp_ge (tgt := 71) hx hb dX5_isWord_5 (by decide) (fun c2 => ?_) (fun c2 => ?_)
      · have hf := (if_pos c2).symm.trans hf
        exact hx2_1  (lpK_inr (lp_leaf hf hz2_1)) ls H locs (lv_sub hl [] rfl) hw
      · have hf := (if_neg c2).symm.trans hf
        refine lv_iload_n hx hb dX5_isWord_8 rfl (lv_at hl 1 rfl) ?_
        refine lv_iload_n hx hb dX5_isWord_9 rfl (lv_at hl 3 rfl) ?_
        refine lv_iadd hx hb dX5_isWord_10 ?_
        refine lv_aload_n hx hb dX5_isWord_11 rfl (lv_at hl 0 rfl) ?_
        refine gX5_4 X hw sC11 nC11 fl_X5_26 dX5_isWord_12 ?_
        obtain ⟨k33_3, ek33_3, hf0⟩ := wlet_some hf
        have j33_3 : ∀ (s0_33_3 : Int32) (_ : k33_3 s0_33_3 = some q2_1) (ls : Array Slot) (H : Heap) (locs : List Loc), lv_has ls 5 [(0, .ref (ad 11)), (1, .int x1), (2, .int x2), (3, .int x3_2_1)] → wH WC ad D cy s σ H locs → W p l e { frames := 10, cells := 0, slots := 0, locals := 700 } s m [.ref (ad 11), .int x1, .int x2].toArray below meth c H locs 0 0 (MQ below (wQi WC ad D cy res σ) [.ref (ad 11), .int x1, .int x2].toArray s 0 0 (wA WC ad)) (F0 m 33 ls [.int s0_33_3]) := by
          intro s0_33_3 hf ls H locs hl hw
          rw [ek33_3] at hf
          refine lv_istore (lv' := [(4, .int s0_33_3), (0, .ref (ad 11)), (1, .int x1), (2, .int x2), (3, .int x3_2_1)]) hx hb dX5_isWord_33 hl (by decide) rfl (fun ls hl => ?_)
          refine lv_iload_n hx hb dX5_isWord_35 rfl (lv_at hl 3 rfl) ?_
          refine lv_if_lt (tgt := 63) hx hb dX5_isWord_36 (by decide) (fun c4 => ?_) (fun c4 => ?_)
          · have hf := (if_pos c4).symm.trans hf
            refine lv_iconst (v := 0) hx hb dX5_isWord_63 (by decide) ?_
            have e2_1 := lpK_inr (lp_leaf hf hz2_1)
            have hf := sumk_r hE2_1 e2_1
            have er := Option.some.inj hf
            subst er
            exact wr_iret X hw hr (Or.inr ⟨rfl, (show bz (0 : Int32) = true from rfl)⟩) dX5_isWord_64
          · have hf := (if_neg c4).symm.trans hf
            refine lv_iload_n hx hb dX5_isWord_39 rfl (lv_at hl 3 rfl) ?_
            refine lv_iload_n hx hb dX5_isWord_40 rfl (lv_at hl 4 rfl) ?_
            refine lv_iadd hx hb dX5_isWord_41 ?_
            refine wr_ldcS1 X dX5_isWord_42 ?_
            refine wr_slen1 X hw hl.1 (Nat.le_of_ble_eq_true rfl) (Nat.le_of_ble_eq_true rfl) (Nat.le_of_ble_eq_true rfl) ml_X5_86 dX5_isWord_44 (fun H locs hw => ?_)
            refine lv_icmp_ge (tgt := 63) hx hb dX5_isWord_47 (by decide) (fun c5 => ?_) (fun c5 => ?_)
            · have hf := (if_pos c5).symm.trans hf
              refine lv_iconst (v := 0) hx hb dX5_isWord_63 (by decide) ?_
              have e2_1 := lpK_inr (lp_leaf hf hz2_1)
              have hf := sumk_r hE2_1 e2_1
              have er := Option.some.inj hf
              subst er
              exact wr_iret X hw hr (Or.inr ⟨rfl, (show bz (0 : Int32) = true from rfl)⟩) dX5_isWord_64
            · have hf := (if_neg c5).symm.trans hf
              refine wr_ldcS1 X dX5_isWord_50 ?_
              refine lv_iload_n hx hb dX5_isWord_52 rfl (lv_at hl 3 rfl) ?_
              refine lv_iload_n hx hb dX5_isWord_53 rfl (lv_at hl 4 rfl) ?_
              refine lv_iadd hx hb dX5_isWord_54 ?_
              obtain ⟨v6, hq7, hf⟩ := bind_some hf
              refine wr_sch1 X hw hl.1 (Nat.le_of_ble_eq_true rfl) (Nat.le_of_ble_eq_true rfl) (Nat.le_of_ble_eq_true rfl) ml_X5_88 hq7 dX5_isWord_55 (fun H locs hw => ?_)
              refine lv_iload hx hb dX5_isWord_58 (lv_at hl 0 rfl) ?_
              refine lv_icmp_eq (tgt := 65) hx hb dX5_isWord_60 (by decide) (fun c8 => ?_) (fun c8 => ?_)
              · have hf := (if_pos c8).symm.trans hf
                obtain ⟨v9, ev9, hf⟩ := wlet_some hf
                refine lv_iinc (v := v9) (lv' := [(3, .int v9), (4, .int s0_33_3), (0, .ref (ad 11)), (1, .int x1), (2, .int x2)]) hx hb dX5_isWord_65 hl (k := 4) rfl (by rw [ev9]; rfl) (by decide) rfl (fun ls hl => ?_)
                refine lv_goto (tgt := 2) hx hb dX5_isWord_68 (by decide) ?_
                exact ih2_1 v9 (lp_leaf hf hz2_1) ls H locs (lv_sub hl [2, 3, 4, 0] rfl) hw
              · have hf := (if_neg c8).symm.trans hf
                refine lv_iconst (v := 0) hx hb dX5_isWord_63 (by decide) ?_
                have e2_1 := lpK_inr (lp_leaf hf hz2_1)
                have hf := sumk_r hE2_1 e2_1
                have er := Option.some.inj hf
                subst er
                exact wr_iret X hw hr (Or.inr ⟨rfl, (show bz (0 : Int32) = true from rfl)⟩) dX5_isWord_64
        replace hf := hf0
        refine lv_icmp_ge (tgt := 31) hx hb dX5_isWord_15 (by decide) (fun c10 => ?_) (fun c10 => ?_)
        · have hf := (if_pos c10).symm.trans hf
          refine lv_bipush (v := 32) hx hb dX5_isWord_31 (by decide) ?_
          exact j33_3 (32 : Int32) hf ls H locs (lv_sub hl [0, 1, 2, 3] rfl) hw
        · have hf := (if_neg c10).symm.trans hf
          refine lv_aload_n hx hb dX5_isWord_18 rfl (lv_at hl 0 rfl) ?_
          refine gX5_0 (b := 2) X hw sC11 nC11 rfl fl_X5_22 dX5_isWord_19 ?_
          refine lv_iload_n hx hb dX5_isWord_22 rfl (lv_at hl 1 rfl) ?_
          refine lv_iload_n hx hb dX5_isWord_23 rfl (lv_at hl 3 rfl) ?_
          refine lv_iadd hx hb dX5_isWord_24 ?_
          obtain ⟨v12, hq11, hf⟩ := bind_some hf
          refine wr_cNi (r := v12) (σ' := σ) (av := [.int (x1 + x3_2_1)]) (rest := []) X hw hl.1 sC2 nC2 rfl (k_X7_byteAt hI hq11) rfl mn_X5_46 im_X7_byteAt se_X7_byteAt ini_X7 co_X7_byteAt hd_X7_byteAt ⟨Nat.le_of_ble_eq_true rfl, Nat.le_of_ble_eq_true rfl⟩ (Nat.le_of_ble_eq_true rfl) dX5_isWord_25 rfl (fun H locs hw => ?_)
          refine lv_goto (tgt := 33) hx hb dX5_isWord_28 (by decide) ?_
          exact j33_3 v12 hf ls H locs (lv_sub hl [0, 1, 2, 3] rfl) hw
  exact lo2_1 fuel (0 : Int32) hq2_1 ls H locs (lv_sub hl [1, 2, 3, 0] rfl) hw

def f_X5_kindOfWord (σ : St) (x1 : Int32) : Option (Int32) := wlet (fun (x2_3_1 : Int32) => if (31 : Int32) < x2_3_1 then (some (.inr (.inl ()))) else (Option.bind (f_X5_isWord σ x1 ((x2_3_1 - (13 : Int32)) * (8 : Int32))) fun v4 => if v4 = 0 then (wlet (x2_3_1 + (1 : Int32)) fun v6 => some (.inl v6)) else (some (.inr (.inr x2_3_1)))) : Int32 → Option ((Int32) ⊕ ((Unit) ⊕ (Int32)))) fun st3_1 => Option.bind (lp st3_1 fuel (13 : Int32)) (sumk (fun (_ : Unit) => some (2 : Int32)) (fun m => some m))
theorem hd_X5_kindOfWord : yX5_kindOfWord.cls = RX5 ∧ yX5_kindOfWord.cls ≠ "java/lang/invoke/MethodHandle" ∧ yX5_kindOfWord.cls ≠ "java/lang/invoke/VarHandle" ∧ (parseMethodDescriptor yX5_kindOfWord.desc).map (fun d => d.parameters.length) = some 1 := by decide +kernel
set_option maxRecDepth 100000 in
set_option maxHeartbeats 4000000 in
theorem k_X5_kindOfWord {l : Launch} {ad : Nat → Nat} {D : va_G} {cy : Nat → ClassId} {z : wStr} (hI : wI WC ad) {σ : St} {x1 : Int32}  {res : Int32} (hf : f_X5_kindOfWord σ x1 = some res) : wC WC ad D cy z l yX5_kindOfWord (Cond.code yX5_kindOfWord cX5_kindOfWord 3 (Option.some Jvm.ClassFile.FieldType.int) :: aw) (11) (724) [.ref (ad 11), .int x1] σ (wQi WC ad D cy res σ) := by
  unfold f_X5_kindOfWord at hf
  refine wr_start (own := RX5) hI (by decide +kernel) rfl (Nat.le_of_ble_eq_true rfl) rfl ?_
  intro p e s m below meth c ls X hw hr hl
  have hx := X.hx
  have hb := X.hb
  obtain ⟨H, eH⟩ : ∃ H : Heap, H = s.heap := ⟨_, rfl⟩
  obtain ⟨locs, el⟩ : ∃ locs : List Loc, locs = [] := ⟨_, rfl⟩
  rw [← eH, ← el] at hw ⊢
  clear eH el
  replace hl : lv_has ls 3 [(0, .ref (ad 11)), (1, .int x1)] := hl
  refine lv_bipush (v := 13) hx hb dX5_kindOfWord_0 (by decide) ?_
  refine lv_istore_n (lv' := [(2, .int (13 : Int32)), (0, .ref (ad 11)), (1, .int x1)]) hx hb dX5_kindOfWord_2 rfl hl (by decide) rfl (fun ls hl => ?_)
  obtain ⟨st3_1, est3_1, hf⟩ := wlet_some hf
  obtain ⟨E3_1, hq3_1, hE3_1⟩ := bind_some hf
  have hx3_1 : ∀ (_ : Sum.inl () = E3_1) (ls : Array Slot) (H : Heap) (locs : List Loc), lv_has ls 3 [] → wH WC ad D cy s σ H locs → W p l e { frames := 11, cells := 0, slots := 0, locals := 724 } s m [.ref (ad 11), .int x1].toArray below meth c H locs 0 0 (MQ below (wQi WC ad D cy res σ) [.ref (ad 11), .int x1].toArray s 0 0 (wA WC ad)) (F0 m 32 ls []) := by
    intro  e0 ls H locs hl hw
    have hf := sumk_l hE3_1 e0
    refine lv_iconst (v := 2) hx hb dX5_kindOfWord_32 (by decide) ?_
    have er := Option.some.inj hf
    subst er
    exact wr_iret X hw hr (Or.inl rfl) dX5_kindOfWord_33
  have lo3_1 : ∀ (n : Nat) (x2_3_1 : Int32) (_ : lp st3_1 n x2_3_1 = some E3_1) (ls : Array Slot) (H : Heap) (locs : List Loc), lv_has ls 3 [(0, .ref (ad 11)), (1, .int x1), (2, .int x2_3_1)] → wH WC ad D cy s σ H locs → W p l e { frames := 11, cells := 0, slots := 0, locals := 724 } s m [.ref (ad 11), .int x1].toArray below meth c H locs 0 0 (MQ below (wQi WC ad D cy res σ) [.ref (ad 11), .int x1].toArray s 0 0 (wA WC ad)) (F0 m 3 ls []) := by
    intro n
    induction n with
    | zero =>
      intro x2_3_1 hf ls H locs hl hw
      exact (lp_zero hf).elim
    | succ n ih3_1 =>
      intro x2_3_1 hf ls H locs hl hw
      obtain ⟨q3_1, hf, hz3_1⟩ := lp_succ hf
      rw [est3_1] at hf
      refine lv_iload_n hx hb dX5_kindOfWord_3 rfl (lv_at hl 2 rfl) ?_
      refine lv_bipush (v := 31) hx hb dX5_kindOfWord_4 (by decide) ?_
      refine lv_icmp_gt (tgt := 32) hx hb dX5_kindOfWord_6 (by decide) (fun c2 => ?_) (fun c2 => ?_)
      · have hf := (if_pos c2).symm.trans hf
        exact hx3_1  (lpK_inr (lp_leaf hf hz3_1)) ls H locs (lv_sub hl [] rfl) hw
      · have hf := (if_neg c2).symm.trans hf
        refine lv_aload_n hx hb dX5_kindOfWord_9 rfl (lv_at hl 0 rfl) ?_
        refine lv_iload_n hx hb dX5_kindOfWord_10 rfl (lv_at hl 1 rfl) ?_
        refine lv_iload_n hx hb dX5_kindOfWord_11 rfl (lv_at hl 2 rfl) ?_
        refine lv_bipush (v := 13) hx hb dX5_kindOfWord_12 (by decide) ?_
        refine lv_isub hx hb dX5_kindOfWord_14 ?_
        refine lv_bipush (v := 8) hx hb dX5_kindOfWord_15 (by decide) ?_
        refine lv_imul hx hb dX5_kindOfWord_17 ?_
        obtain ⟨v4, hq3, hf⟩ := bind_some hf
        refine wr_cVi (r := v4) (σ' := σ) (av := [.int x1, .int ((x2_3_1 - (13 : Int32)) * (8 : Int32))]) (rest := []) X hw hl.1 sC11 nC11 rfl (k_X5_isWord hI hq3) rfl ml_X5_80 im_X5_isWord se_X5_isWord ini_X5 co_X5_isWord hd_X5_isWord ⟨Nat.le_of_ble_eq_true rfl, Nat.le_of_ble_eq_true rfl⟩ (Nat.le_of_ble_eq_true rfl) dX5_kindOfWord_18 rfl (fun H locs hw => ?_)
        refine lv_if_eq (tgt := 26) hx hb dX5_kindOfWord_21 (by decide) (fun c5 => ?_) (fun c5 => ?_)
        · have hf := (if_pos c5).symm.trans hf
          obtain ⟨v6, ev6, hf⟩ := wlet_some hf
          refine lv_iinc (v := v6) (lv' := [(2, .int v6), (0, .ref (ad 11)), (1, .int x1)]) hx hb dX5_kindOfWord_26 hl (k := 2) rfl (by rw [ev6]; rfl) (by decide) rfl (fun ls hl => ?_)
          refine lv_goto (tgt := 3) hx hb dX5_kindOfWord_29 (by decide) ?_
          exact ih3_1 v6 (lp_leaf hf hz3_1) ls H locs (lv_sub hl [1, 2, 0] rfl) hw
        · have hf := (if_neg c5).symm.trans hf
          refine lv_iload_n hx hb dX5_kindOfWord_24 rfl (lv_at hl 2 rfl) ?_
          have e3_1 := lpK_inr (lp_leaf hf hz3_1)
          have hf := sumk_r hE3_1 e3_1
          have er := Option.some.inj hf
          subst er
          exact wr_iret X hw hr (Or.inl rfl) dX5_kindOfWord_25
  exact lo3_1 fuel (13 : Int32) hq3_1 ls H locs (lv_sub hl [1, 2, 0] rfl) hw

def f_X5_scanLetters (σ : St)  : Option (Int32 × St) := wlet (σ.1 11 4) fun v1 => wlet (fun (σ5_2 : St) => if (σ5_2.1 2 1) ≤ (σ5_2.1 11 4) then (some (.inr σ5_2)) else (Option.bind (f_X7_byteAt σ5_2 (σ5_2.1 11 4)) fun v8 => Option.bind (f_X5_isLetter v8) fun v10 => if v10 = 0 then (some (.inr σ5_2)) else (Option.bind (f_X7_byteAt σ5_2 (σ5_2.1 11 4)) fun v13 => wlet (sj σ5_2 11 5 (((σ5_2.2 11 5) * (32 : Int64)) + (Int32.toInt64 ((v13 - (97 : Int32)) + (1 : Int32))))) fun σ14 => wlet (si σ14 11 4 ((σ14.1 11 4) + (1 : Int32))) fun σ15 => some (.inl σ15))) : St → Option ((St) ⊕ (St))) fun st5_2 => Option.bind (lp st5_2 fuel σ) ((fun (σe5_2 : St) => if ((σe5_2.1 11 4) - v1) ≤ (8 : Int32) then (Option.bind (f_X5_kindOfWord σe5_2 v1) fun v5 => some (v5, σe5_2)) else (some ((1 : Int32), σe5_2))))
theorem hd_X5_scanLetters : yX5_scanLetters.cls = RX5 ∧ yX5_scanLetters.cls ≠ "java/lang/invoke/MethodHandle" ∧ yX5_scanLetters.cls ≠ "java/lang/invoke/VarHandle" ∧ (parseMethodDescriptor yX5_scanLetters.desc).map (fun d => d.parameters.length) = some 0 := by decide +kernel
set_option maxRecDepth 100000 in
set_option maxHeartbeats 4000000 in
theorem k_X5_scanLetters {l : Launch} {ad : Nat → Nat} {D : va_G} {cy : Nat → ClassId} {z : wStr} (hI : wI WC ad) {σ : St}   {res : Int32 × St} (hf : f_X5_scanLetters σ  = some res) : wC WC ad D cy z l yX5_scanLetters (Cond.code yX5_scanLetters cX5_scanLetters 2 (Option.some Jvm.ClassFile.FieldType.int) :: aw) (12) (746) [.ref (ad 11)] σ (wQi WC ad D cy res.1 res.2) := by
  unfold f_X5_scanLetters at hf
  refine wr_start (own := RX5) hI (by decide +kernel) rfl (Nat.le_of_ble_eq_true rfl) rfl ?_
  intro p e s m below meth c ls X hw hr hl
  have hx := X.hx
  have hb := X.hb
  obtain ⟨H, eH⟩ : ∃ H : Heap, H = s.heap := ⟨_, rfl⟩
  obtain ⟨locs, el⟩ : ∃ locs : List Loc, locs = [] := ⟨_, rfl⟩
  rw [← eH, ← el] at hw ⊢
  clear eH el
  replace hl : lv_has ls 2 [(0, .ref (ad 11))] := hl
  refine lv_aload_n hx hb dX5_scanLetters_0 rfl (lv_at hl 0 rfl) ?_
  refine gX5_4 X hw sC11 nC11 fl_X5_26 dX5_scanLetters_1 ?_
  obtain ⟨v1, ev1, hf⟩ := wlet_some hf
  refine wr_top ev1 ?_
  refine lv_istore_n (lv' := [(1, .int v1), (0, .ref (ad 11))]) hx hb dX5_scanLetters_4 rfl hl (by decide) rfl (fun ls hl => ?_)
  obtain ⟨st5_2, est5_2, hf⟩ := wlet_some hf
  obtain ⟨E5_2, hq5_2, hE5_2⟩ := bind_some hf
  have hx5_2 : ∀ (σe5_2 : St) (_ : σe5_2 = E5_2) (ls : Array Slot) (H : Heap) (locs : List Loc), lv_has ls 2 [(0, .ref (ad 11)), (1, .int v1)] → wH WC ad D cy s σe5_2 H locs → W p l e { frames := 12, cells := 0, slots := 0, locals := 746 } s m [.ref (ad 11)].toArray below meth c H locs 0 0 (MQ below (wQi WC ad D cy res.1 res.2) [.ref (ad 11)].toArray s 0 0 (wA WC ad)) (F0 m 79 ls []) := by
    intro σe5_2 e0 ls H locs hl hw
    subst e0
    have hf := hE5_2
    refine lv_aload_n hx hb dX5_scanLetters_79 rfl (lv_at hl 0 rfl) ?_
    refine gX5_4 X hw sC11 nC11 fl_X5_26 dX5_scanLetters_80 ?_
    refine lv_iload_n hx hb dX5_scanLetters_83 rfl (lv_at hl 1 rfl) ?_
    refine lv_isub hx hb dX5_scanLetters_84 ?_
    refine lv_bipush (v := 8) hx hb dX5_scanLetters_85 (by decide) ?_
    refine lv_icmp_le (tgt := 94) hx hb dX5_scanLetters_87 (by decide) (fun c3 => ?_) (fun c3 => ?_)
    · have hf := (if_pos c3).symm.trans hf
      refine lv_aload_n hx hb dX5_scanLetters_94 rfl (lv_at hl 0 rfl) ?_
      refine lv_iload_n hx hb dX5_scanLetters_95 rfl (lv_at hl 1 rfl) ?_
      obtain ⟨v5, hq4, hf⟩ := bind_some hf
      refine wr_cVi (r := v5) (σ' := σe5_2) (av := [.int v1]) (rest := []) X hw hl.1 sC11 nC11 rfl (k_X5_kindOfWord hI hq4) rfl ml_X5_75 im_X5_kindOfWord se_X5_kindOfWord ini_X5 co_X5_kindOfWord hd_X5_kindOfWord ⟨Nat.le_of_ble_eq_true rfl, Nat.le_of_ble_eq_true rfl⟩ (Nat.le_of_ble_eq_true rfl) dX5_scanLetters_96 rfl (fun H locs hw => ?_)
      have er := Option.some.inj hf
      subst er
      exact wr_iret X hw hr (Or.inl rfl) dX5_scanLetters_99
    · have hf := (if_neg c3).symm.trans hf
      refine lv_iconst (v := 1) hx hb dX5_scanLetters_90 (by decide) ?_
      refine lv_goto (tgt := 99) hx hb dX5_scanLetters_91 (by decide) ?_
      have er := Option.some.inj hf
      subst er
      exact wr_iret X hw hr (Or.inl rfl) dX5_scanLetters_99
  have lo5_2 : ∀ (n : Nat) (σ5_2 : St) (_ : lp st5_2 n σ5_2 = some E5_2) (ls : Array Slot) (H : Heap) (locs : List Loc), lv_has ls 2 [(0, .ref (ad 11)), (1, .int v1)] → wH WC ad D cy s σ5_2 H locs → W p l e { frames := 12, cells := 0, slots := 0, locals := 746 } s m [.ref (ad 11)].toArray below meth c H locs 0 0 (MQ below (wQi WC ad D cy res.1 res.2) [.ref (ad 11)].toArray s 0 0 (wA WC ad)) (F0 m 5 ls []) := by
    intro n
    induction n with
    | zero =>
      intro σ5_2 hf ls H locs hl hw
      exact (lp_zero hf).elim
    | succ n ih5_2 =>
      intro σ5_2 hf ls H locs hl hw
      obtain ⟨q5_2, hf, hz5_2⟩ := lp_succ hf
      rw [est5_2] at hf
      refine lv_aload_n hx hb dX5_scanLetters_5 rfl (lv_at hl 0 rfl) ?_
      refine gX5_4 X hw sC11 nC11 fl_X5_26 dX5_scanLetters_6 ?_
      refine lv_aload_n hx hb dX5_scanLetters_9 rfl (lv_at hl 0 rfl) ?_
      refine gX5_0 (b := 2) X hw sC11 nC11 rfl fl_X5_22 dX5_scanLetters_10 ?_
      refine gnX7_1 X hw sC2 nC2 fn_X5_41 dX5_scanLetters_13 ?_
      refine lv_icmp_ge (tgt := 79) hx hb dX5_scanLetters_16 (by decide) (fun c6 => ?_) (fun c6 => ?_)
      · have hf := (if_pos c6).symm.trans hf
        exact hx5_2 σ5_2 (lpK_inr (lp_leaf hf hz5_2)) ls H locs (lv_sub hl [0, 1] rfl) hw
      · have hf := (if_neg c6).symm.trans hf
        refine lv_aload_n hx hb dX5_scanLetters_19 rfl (lv_at hl 0 rfl) ?_
        refine gX5_0 (b := 2) X hw sC11 nC11 rfl fl_X5_22 dX5_scanLetters_20 ?_
        refine lv_aload_n hx hb dX5_scanLetters_23 rfl (lv_at hl 0 rfl) ?_
        refine gX5_4 X hw sC11 nC11 fl_X5_26 dX5_scanLetters_24 ?_
        obtain ⟨v8, hq7, hf⟩ := bind_some hf
        refine wr_cNi (r := v8) (σ' := σ5_2) (av := [.int (σ5_2.1 11 4)]) (rest := []) X hw hl.1 sC2 nC2 rfl (k_X7_byteAt hI hq7) rfl mn_X5_46 im_X7_byteAt se_X7_byteAt ini_X7 co_X7_byteAt hd_X7_byteAt ⟨Nat.le_of_ble_eq_true rfl, Nat.le_of_ble_eq_true rfl⟩ (Nat.le_of_ble_eq_true rfl) dX5_scanLetters_27 rfl (fun H locs hw => ?_)
        obtain ⟨v10, hq9, hf⟩ := bind_some hf
        refine wr_cSi (r := v10) (σ' := σ5_2) (av := [.int v8]) (rest := []) X hw hl.1 (k_X5_isLetter hI hq9) rfl ml_X5_54 st_X5_isLetter ini_X5 co_X5_isLetter hd_X5_isLetter ⟨Nat.le_of_ble_eq_true rfl, Nat.le_of_ble_eq_true rfl⟩ (Nat.le_of_ble_eq_true rfl) dX5_scanLetters_30 rfl (fun H locs hw => ?_)
        refine lv_if_eq (tgt := 79) hx hb dX5_scanLetters_33 (by decide) (fun c11 => ?_) (fun c11 => ?_)
        · have hf := (if_pos c11).symm.trans hf
          exact hx5_2 σ5_2 (lpK_inr (lp_leaf hf hz5_2)) ls H locs (lv_sub hl [0, 1] rfl) hw
        · have hf := (if_neg c11).symm.trans hf
          refine lv_aload_n hx hb dX5_scanLetters_36 rfl (lv_at hl 0 rfl) ?_
          refine lv_aload_n hx hb dX5_scanLetters_37 rfl (lv_at hl 0 rfl) ?_
          refine gX5_5 X hw sC11 nC11 fl_X5_33 dX5_scanLetters_38 ?_
          refine lv_ldc2 (v := 32) hx hb X.ow (X.tw kl_X5_73) dX5_scanLetters_41 ?_
          refine lv_lmul hx hb dX5_scanLetters_44 ?_
          refine lv_aload_n hx hb dX5_scanLetters_45 rfl (lv_at hl 0 rfl) ?_
          refine gX5_0 (b := 2) X hw sC11 nC11 rfl fl_X5_22 dX5_scanLetters_46 ?_
          refine lv_aload_n hx hb dX5_scanLetters_49 rfl (lv_at hl 0 rfl) ?_
          refine gX5_4 X hw sC11 nC11 fl_X5_26 dX5_scanLetters_50 ?_
          obtain ⟨v13, hq12, hf⟩ := bind_some hf
          refine wr_cNi (r := v13) (σ' := σ5_2) (av := [.int (σ5_2.1 11 4)]) (rest := [.long ((σ5_2.2 11 5) * (32 : Int64)), .ref (ad 11)]) X hw hl.1 sC2 nC2 rfl (k_X7_byteAt hI hq12) rfl mn_X5_46 im_X7_byteAt se_X7_byteAt ini_X7 co_X7_byteAt hd_X7_byteAt ⟨Nat.le_of_ble_eq_true rfl, Nat.le_of_ble_eq_true rfl⟩ (Nat.le_of_ble_eq_true rfl) dX5_scanLetters_53 rfl (fun H locs hw => ?_)
          refine lv_bipush (v := 97) hx hb dX5_scanLetters_56 (by decide) ?_
          refine lv_isub hx hb dX5_scanLetters_58 ?_
          refine lv_iconst (v := 1) hx hb dX5_scanLetters_59 (by decide) ?_
          refine lv_iadd hx hb dX5_scanLetters_60 ?_
          refine lv_i2l hx hb dX5_scanLetters_61 rfl ?_
          refine lv_ladd hx hb dX5_scanLetters_62 ?_
          obtain ⟨σ14, eσ14, hf⟩ := wlet_some hf
          refine pX5_5 X hw sC11 nC11 fl_X5_33 dX5_scanLetters_63 (fun H locs hw => ?_)
          replace hw := hw.to eσ14
          refine lv_aload_n hx hb dX5_scanLetters_66 rfl (lv_at hl 0 rfl) ?_
          refine lv_dup hx hb dX5_scanLetters_67 rfl ?_
          refine gX5_4 X hw sC11 nC11 fl_X5_26 dX5_scanLetters_68 ?_
          refine lv_iconst (v := 1) hx hb dX5_scanLetters_71 (by decide) ?_
          refine lv_iadd hx hb dX5_scanLetters_72 ?_
          obtain ⟨σ15, eσ15, hf⟩ := wlet_some hf
          refine pX5_4 X hw sC11 nC11 fl_X5_26 dX5_scanLetters_73 (fun H locs hw => ?_)
          replace hw := hw.to eσ15
          refine lv_goto (tgt := 5) hx hb dX5_scanLetters_76 (by decide) ?_
          exact ih5_2 σ15 (lp_leaf hf hz5_2) ls H locs (lv_sub hl [0, 1] rfl) hw
  exact lo5_2 fuel σ hq5_2 ls H locs (lv_sub hl [1, 0] rfl) hw

def f_X5_scanToken (σ : St)  : Option (Int32 × St) := Option.bind (f_X7_byteAt σ (σ.1 11 4)) fun v2 => if v2 = (-1 : Int32) then (some ((0 : Int32), σ)) else (Option.bind (f_X5_isLetter v2) fun v5 => if v5 = 0 then (Option.bind (f_X5_isDigit v2) fun v8 => if v8 = 0 then (wlet (si σ 11 4 ((σ.1 11 4) + (1 : Int32))) fun σ10 => Option.bind (six 0 (i2c v2)) fun v11 => if 0 ≤ v11 then (some (((4 : Int32) + v11), σ10)) else (some ((1 : Int32), σ10))) else (bnd2 (f_X5_scanDigits σ) fun v15 σ16 => some (v15, σ16))) else (bnd2 (f_X5_scanLetters σ) fun v18 σ19 => some (v18, σ19)))
theorem hd_X5_scanToken : yX5_scanToken.cls = RX5 ∧ yX5_scanToken.cls ≠ "java/lang/invoke/MethodHandle" ∧ yX5_scanToken.cls ≠ "java/lang/invoke/VarHandle" ∧ (parseMethodDescriptor yX5_scanToken.desc).map (fun d => d.parameters.length) = some 0 := by decide +kernel
set_option maxRecDepth 100000 in
set_option maxHeartbeats 4000000 in
theorem k_X5_scanToken {l : Launch} {ad : Nat → Nat} {D : va_G} {cy : Nat → ClassId} {z : wStr} (hI : wI WC ad) {σ : St}   {res : Int32 × St} (hf : f_X5_scanToken σ  = some res) : wC WC ad D cy z l yX5_scanToken (Cond.code yX5_scanToken cX5_scanToken 3 (Option.some Jvm.ClassFile.FieldType.int) :: aw) (13) (767) [.ref (ad 11)] σ (wQi WC ad D cy res.1 res.2) := by
  unfold f_X5_scanToken at hf
  refine wr_start (own := RX5) hI (by decide +kernel) rfl (Nat.le_of_ble_eq_true rfl) rfl ?_
  intro p e s m below meth c ls X hw hr hl
  have hx := X.hx
  have hb := X.hb
  obtain ⟨H, eH⟩ : ∃ H : Heap, H = s.heap := ⟨_, rfl⟩
  obtain ⟨locs, el⟩ : ∃ locs : List Loc, locs = [] := ⟨_, rfl⟩
  rw [← eH, ← el] at hw ⊢
  clear eH el
  replace hl : lv_has ls 3 [(0, .ref (ad 11))] := hl
  refine lv_aload_n hx hb dX5_scanToken_0 rfl (lv_at hl 0 rfl) ?_
  refine gX5_0 (b := 2) X hw sC11 nC11 rfl fl_X5_22 dX5_scanToken_1 ?_
  refine lv_aload_n hx hb dX5_scanToken_4 rfl (lv_at hl 0 rfl) ?_
  refine gX5_4 X hw sC11 nC11 fl_X5_26 dX5_scanToken_5 ?_
  obtain ⟨v2, hq1, hf⟩ := bind_some hf
  refine wr_cNi (r := v2) (σ' := σ) (av := [.int (σ.1 11 4)]) (rest := []) X hw hl.1 sC2 nC2 rfl (k_X7_byteAt hI hq1) rfl mn_X5_46 im_X7_byteAt se_X7_byteAt ini_X7 co_X7_byteAt hd_X7_byteAt ⟨Nat.le_of_ble_eq_true rfl, Nat.le_of_ble_eq_true rfl⟩ (Nat.le_of_ble_eq_true rfl) dX5_scanToken_8 rfl (fun H locs hw => ?_)
  refine lv_istore_n (lv' := [(1, .int v2), (0, .ref (ad 11))]) hx hb dX5_scanToken_11 rfl hl (by decide) rfl (fun ls hl => ?_)
  refine lv_iload_n hx hb dX5_scanToken_12 rfl (lv_at hl 0 rfl) ?_
  refine lv_iconst (v := -1) hx hb dX5_scanToken_13 (by decide) ?_
  refine lv_icmp_ne (tgt := 19) hx hb dX5_scanToken_14 (by decide) (fun c3 => ?_) (fun c3 => ?_)
  · have hf := (if_neg c3).symm.trans hf
    refine lv_iload_n hx hb dX5_scanToken_19 rfl (lv_at hl 0 rfl) ?_
    obtain ⟨v5, hq4, hf⟩ := bind_some hf
    refine wr_cSi (r := v5) (σ' := σ) (av := [.int v2]) (rest := []) X hw hl.1 (k_X5_isLetter hI hq4) rfl ml_X5_54 st_X5_isLetter ini_X5 co_X5_isLetter hd_X5_isLetter ⟨Nat.le_of_ble_eq_true rfl, Nat.le_of_ble_eq_true rfl⟩ (Nat.le_of_ble_eq_true rfl) dX5_scanToken_20 rfl (fun H locs hw => ?_)
    refine lv_if_eq (tgt := 31) hx hb dX5_scanToken_23 (by decide) (fun c6 => ?_) (fun c6 => ?_)
    · have hf := (if_pos c6).symm.trans hf
      refine lv_iload_n hx hb dX5_scanToken_31 rfl (lv_at hl 0 rfl) ?_
      obtain ⟨v8, hq7, hf⟩ := bind_some hf
      refine wr_cSi (r := v8) (σ' := σ) (av := [.int v2]) (rest := []) X hw hl.1 (k_X5_isDigit hI hq7) rfl ml_X5_60 st_X5_isDigit ini_X5 co_X5_isDigit hd_X5_isDigit ⟨Nat.le_of_ble_eq_true rfl, Nat.le_of_ble_eq_true rfl⟩ (Nat.le_of_ble_eq_true rfl) dX5_scanToken_32 rfl (fun H locs hw => ?_)
      refine lv_if_eq (tgt := 43) hx hb dX5_scanToken_35 (by decide) (fun c9 => ?_) (fun c9 => ?_)
      · have hf := (if_pos c9).symm.trans hf
        refine lv_aload_n hx hb dX5_scanToken_43 rfl (lv_at hl 1 rfl) ?_
        refine lv_dup hx hb dX5_scanToken_44 rfl ?_
        refine gX5_4 X hw sC11 nC11 fl_X5_26 dX5_scanToken_45 ?_
        refine lv_iconst (v := 1) hx hb dX5_scanToken_48 (by decide) ?_
        refine lv_iadd hx hb dX5_scanToken_49 ?_
        obtain ⟨σ10, eσ10, hf⟩ := wlet_some hf
        refine pX5_4 X hw sC11 nC11 fl_X5_26 dX5_scanToken_50 (fun H locs hw => ?_)
        replace hw := hw.to eσ10
        refine wr_ldcS0 X dX5_scanToken_53 ?_
        refine lv_iload_n hx hb dX5_scanToken_55 rfl (lv_at hl 0 rfl) ?_
        refine lv_i2c hx hb dX5_scanToken_56 rfl ?_
        obtain ⟨v11, hq12, hf⟩ := bind_some hf
        refine wr_six0 X hw hl.1 (Nat.le_of_ble_eq_true rfl) (Nat.le_of_ble_eq_true rfl) (Nat.le_of_ble_eq_true rfl) ml_X5_68 hq12 dX5_scanToken_57 (fun H locs hw => ?_)
        refine lv_istore_n (lv' := [(2, .int v11), (1, .int v2), (0, .ref (ad 11))]) hx hb dX5_scanToken_60 rfl hl (by decide) rfl (fun ls hl => ?_)
        refine lv_iload_n hx hb dX5_scanToken_61 rfl (lv_at hl 0 rfl) ?_
        refine lv_if_ge (tgt := 69) hx hb dX5_scanToken_62 (by decide) (fun c13 => ?_) (fun c13 => ?_)
        · have hf := (if_pos c13).symm.trans hf
          refine lv_iconst (v := 4) hx hb dX5_scanToken_69 (by decide) ?_
          refine lv_iload_n hx hb dX5_scanToken_70 rfl (lv_at hl 0 rfl) ?_
          refine lv_iadd hx hb dX5_scanToken_71 ?_
          have er := Option.some.inj hf
          subst er
          exact wr_iret X hw hr (Or.inl rfl) dX5_scanToken_72
        · have hf := (if_neg c13).symm.trans hf
          refine lv_iconst (v := 1) hx hb dX5_scanToken_65 (by decide) ?_
          refine lv_goto (tgt := 72) hx hb dX5_scanToken_66 (by decide) ?_
          have er := Option.some.inj hf
          subst er
          exact wr_iret X hw hr (Or.inl rfl) dX5_scanToken_72
      · have hf := (if_neg c9).symm.trans hf
        refine lv_aload_n hx hb dX5_scanToken_38 rfl (lv_at hl 1 rfl) ?_
        obtain ⟨v15, σ16, hq14, hf⟩ := bnd2_some hf
        refine wr_cVi (r := v15) (σ' := σ16) (av := []) (rest := []) X hw hl.1 sC11 nC11 rfl (k_X5_scanDigits hI hq14) rfl ml_X5_63 im_X5_scanDigits se_X5_scanDigits ini_X5 co_X5_scanDigits hd_X5_scanDigits ⟨Nat.le_of_ble_eq_true rfl, Nat.le_of_ble_eq_true rfl⟩ (Nat.le_of_ble_eq_true rfl) dX5_scanToken_39 rfl (fun H locs hw => ?_)
        have er := Option.some.inj hf
        subst er
        exact wr_iret X hw hr (Or.inl rfl) dX5_scanToken_42
    · have hf := (if_neg c6).symm.trans hf
      refine lv_aload_n hx hb dX5_scanToken_26 rfl (lv_at hl 1 rfl) ?_
      obtain ⟨v18, σ19, hq17, hf⟩ := bnd2_some hf
      refine wr_cVi (r := v18) (σ' := σ19) (av := []) (rest := []) X hw hl.1 sC11 nC11 rfl (k_X5_scanLetters hI hq17) rfl ml_X5_57 im_X5_scanLetters se_X5_scanLetters ini_X5 co_X5_scanLetters hd_X5_scanLetters ⟨Nat.le_of_ble_eq_true rfl, Nat.le_of_ble_eq_true rfl⟩ (Nat.le_of_ble_eq_true rfl) dX5_scanToken_27 rfl (fun H locs hw => ?_)
      have er := Option.some.inj hf
      subst er
      exact wr_iret X hw hr (Or.inl rfl) dX5_scanToken_30
  · have hf := (if_pos c3).symm.trans hf
    refine lv_iconst (v := 0) hx hb dX5_scanToken_17 (by decide) ?_
    have er := Option.some.inj hf
    subst er
    exact wr_iret X hw hr (Or.inl rfl) dX5_scanToken_18

def f_X5_scanTape (σ : St)  : Option (St) := wlet (si σ 11 4 (0 : Int32)) fun σ1 => wlet (un2 (fun (σ7_2 : St) (x1_7_2 : Int32) => if (402 : Int32) ≤ x1_7_2 then (some (.inr σ7_2)) else (Option.bind (f_X5_passBlanks σ7_2) fun σ5 => if ib x1_7_2 402 = true then wlet (si σ5 13 (Int32.toNatClampNeg x1_7_2) (σ5.1 11 4)) fun σ7 => wlet (sj σ7 11 5 (0 : Int64)) fun σ8 => wlet (fun (σ_55_9 : St) (s1_55_9 : Int32) (s2_55_9 : Int32) => (if ib s1_55_9 402 = true then wlet (si σ_55_9 12 (Int32.toNatClampNeg s1_55_9) s2_55_9) fun σ11 => if ib x1_7_2 402 = true then wlet (sj σ11 14 (Int32.toNatClampNeg x1_7_2) (σ11.2 11 5)) fun σ13 => wlet (x1_7_2 + (1 : Int32)) fun v14 => some (.inl (σ13, v14)) else none else none : Option ((St × Int32) ⊕ (St)))) fun k55_9 => if (400 : Int32) < x1_7_2 then (k55_9 σ8 x1_7_2 (0 : Int32)) else (bnd2 (f_X5_scanToken σ8) fun v17 σ18 => k55_9 σ18 x1_7_2 v17) else none)) : St × Int32 → Option ((St × Int32) ⊕ (St))) fun st7_2 => Option.bind (lp st7_2 fuel (σ1, (0 : Int32))) ((fun (σe7_2 : St) => some σe7_2))
theorem hd_X5_scanTape : yX5_scanTape.cls = RX5 ∧ yX5_scanTape.cls ≠ "java/lang/invoke/MethodHandle" ∧ yX5_scanTape.cls ≠ "java/lang/invoke/VarHandle" ∧ (parseMethodDescriptor yX5_scanTape.desc).map (fun d => d.parameters.length) = some 0 := by decide +kernel
set_option maxRecDepth 100000 in
set_option maxHeartbeats 4000000 in
theorem k_X5_scanTape {l : Launch} {ad : Nat → Nat} {D : va_G} {cy : Nat → ClassId} {z : wStr} (hI : wI WC ad) {σ : St}   {res : St} (hf : f_X5_scanTape σ  = some res) : wC WC ad D cy z l yX5_scanTape (Cond.code yX5_scanTape cX5_scanTape 2 (none) :: aw) (14) (789) [.ref (ad 11)] σ (wQv WC ad D cy res) := by
  unfold f_X5_scanTape at hf
  refine wr_start (own := RX5) hI (by decide +kernel) rfl (Nat.le_of_ble_eq_true rfl) rfl ?_
  intro p e s m below meth c ls X hw hr hl
  have hx := X.hx
  have hb := X.hb
  obtain ⟨H, eH⟩ : ∃ H : Heap, H = s.heap := ⟨_, rfl⟩
  obtain ⟨locs, el⟩ : ∃ locs : List Loc, locs = [] := ⟨_, rfl⟩
  rw [← eH, ← el] at hw ⊢
  clear eH el
  replace hl : lv_has ls 2 [(0, .ref (ad 11))] := hl
  refine lv_aload_n hx hb dX5_scanTape_0 rfl (lv_at hl 0 rfl) ?_
  refine lv_iconst (v := 0) hx hb dX5_scanTape_1 (by decide) ?_
  obtain ⟨σ1, eσ1, hf⟩ := wlet_some hf
  refine pX5_4 X hw sC11 nC11 fl_X5_26 dX5_scanTape_2 (fun H locs hw => ?_)
  replace hw := hw.to eσ1
  refine lv_iconst (v := 0) hx hb dX5_scanTape_5 (by decide) ?_
  refine lv_istore_n (lv' := [(1, .int (0 : Int32)), (0, .ref (ad 11))]) hx hb dX5_scanTape_6 rfl hl (by decide) rfl (fun ls hl => ?_)
  obtain ⟨st7_2, est7_2, hf⟩ := wlet_some hf
  obtain ⟨E7_2, hq7_2, hE7_2⟩ := bind_some hf
  have hx7_2 : ∀ (σe7_2 : St) (_ : σe7_2 = E7_2) (ls : Array Slot) (H : Heap) (locs : List Loc), lv_has ls 2 [] → wH WC ad D cy s σe7_2 H locs → W p l e { frames := 14, cells := 0, slots := 0, locals := 789 } s m [.ref (ad 11)].toArray below meth c H locs 0 0 (MQ below (wQv WC ad D cy res) [.ref (ad 11)].toArray s 0 0 (wA WC ad)) (F0 m 72 ls []) := by
    intro σe7_2 e0 ls H locs hl hw
    subst e0
    have hf := hE7_2
    have er := Option.some.inj hf
    subst er
    exact wr_vret X hw hr dX5_scanTape_72
  have lo7_2 : ∀ (n : Nat) (σ7_2 : St) (x1_7_2 : Int32) (_ : lp st7_2 n (σ7_2, x1_7_2) = some E7_2) (ls : Array Slot) (H : Heap) (locs : List Loc), lv_has ls 2 [(0, .ref (ad 11)), (1, .int x1_7_2)] → wH WC ad D cy s σ7_2 H locs → W p l e { frames := 14, cells := 0, slots := 0, locals := 789 } s m [.ref (ad 11)].toArray below meth c H locs 0 0 (MQ below (wQv WC ad D cy res) [.ref (ad 11)].toArray s 0 0 (wA WC ad)) (F0 m 7 ls []) := by
    intro n
    induction n with
    | zero =>
      intro σ7_2 x1_7_2 hf ls H locs hl hw
      exact (lp_zero hf).elim
    | succ n ih7_2 =>
      intro σ7_2 x1_7_2 hf ls H locs hl hw
      obtain ⟨q7_2, hf, hz7_2⟩ := lp_succ hf
      rw [est7_2] at hf
      replace hf := un2_some hf
      refine lv_iload_n hx hb dX5_scanTape_7 rfl (lv_at hl 1 rfl) ?_
      refine lv_aload_n hx hb dX5_scanTape_8 rfl (lv_at hl 0 rfl) ?_
      refine gX5_1 (b := 12) X hw sC11 nC11 rfl fl_X5_9 dX5_scanTape_9 ?_
      refine wr_alen X hw (t := 0) sC12 nC12 (by decide) (v := 402) (by decide) dX5_scanTape_12 ?_
      refine lv_icmp_ge (tgt := 72) hx hb dX5_scanTape_13 (by decide) (fun c3 => ?_) (fun c3 => ?_)
      · have hf := (if_pos c3).symm.trans hf
        exact hx7_2 σ7_2 (lpK_inr (lp_leaf hf hz7_2)) ls H locs (lv_sub hl [] rfl) hw
      · have hf := (if_neg c3).symm.trans hf
        refine lv_aload_n hx hb dX5_scanTape_16 rfl (lv_at hl 0 rfl) ?_
        obtain ⟨σ5, hq4, hf⟩ := bind_some hf
        refine wr_cVv (σ' := σ5) (av := []) (rest := []) X hw hl.1 sC11 nC11 rfl (k_X5_passBlanks hI hq4) rfl ml_X5_30 im_X5_passBlanks se_X5_passBlanks ini_X5 co_X5_passBlanks hd_X5_passBlanks ⟨Nat.le_of_ble_eq_true rfl, Nat.le_of_ble_eq_true rfl⟩ (Nat.le_of_ble_eq_true rfl) dX5_scanTape_17 rfl (fun H locs hw => ?_)
        refine lv_aload_n hx hb dX5_scanTape_20 rfl (lv_at hl 0 rfl) ?_
        refine gX5_2 (b := 13) X hw sC11 nC11 rfl fl_X5_15 dX5_scanTape_21 ?_
        refine lv_iload_n hx hb dX5_scanTape_24 rfl (lv_at hl 1 rfl) ?_
        refine lv_aload_n hx hb dX5_scanTape_25 rfl (lv_at hl 0 rfl) ?_
        refine gX5_4 X hw sC11 nC11 fl_X5_26 dX5_scanTape_26 ?_
        obtain ⟨h6, hf⟩ := if_some hf
        obtain ⟨σ7, eσ7, hf⟩ := wlet_some hf
        refine wr_iast X hw sC13 nC13 h6 dX5_scanTape_29 (fun H locs hw => ?_)
        replace hw := hw.to eσ7
        refine lv_aload_n hx hb dX5_scanTape_30 rfl (lv_at hl 0 rfl) ?_
        refine lv_lconst (v := 0) hx hb dX5_scanTape_31 (by decide) ?_
        obtain ⟨σ8, eσ8, hf⟩ := wlet_some hf
        refine pX5_5 X hw sC11 nC11 fl_X5_33 dX5_scanTape_32 (fun H locs hw => ?_)
        replace hw := hw.to eσ8
        refine lv_aload_n hx hb dX5_scanTape_35 rfl (lv_at hl 0 rfl) ?_
        refine gX5_1 (b := 12) X hw sC11 nC11 rfl fl_X5_9 dX5_scanTape_36 ?_
        refine lv_iload_n hx hb dX5_scanTape_39 rfl (lv_at hl 1 rfl) ?_
        refine lv_iload_n hx hb dX5_scanTape_40 rfl (lv_at hl 1 rfl) ?_
        refine lv_sipush (v := 400) hx hb dX5_scanTape_41 (by decide) ?_
        obtain ⟨k55_9, ek55_9, hf0⟩ := wlet_some hf
        have j55_9 : ∀ (σ_55_9 : St) (s1_55_9 : Int32) (s2_55_9 : Int32) (_ : k55_9 σ_55_9 s1_55_9 s2_55_9 = some q7_2) (ls : Array Slot) (H : Heap) (locs : List Loc), lv_has ls 2 [(0, .ref (ad 11)), (1, .int x1_7_2)] → wH WC ad D cy s σ_55_9 H locs → W p l e { frames := 14, cells := 0, slots := 0, locals := 789 } s m [.ref (ad 11)].toArray below meth c H locs 0 0 (MQ below (wQv WC ad D cy res) [.ref (ad 11)].toArray s 0 0 (wA WC ad)) (F0 m 55 ls [.int s2_55_9, .int s1_55_9, .ref (ad 12)]) := by
          intro σ_55_9 s1_55_9 s2_55_9 hf ls H locs hl hw
          rw [ek55_9] at hf
          obtain ⟨h10, hf⟩ := if_some hf
          obtain ⟨σ11, eσ11, hf⟩ := wlet_some hf
          refine wr_iast X hw sC12 nC12 h10 dX5_scanTape_55 (fun H locs hw => ?_)
          replace hw := hw.to eσ11
          refine lv_aload_n hx hb dX5_scanTape_56 rfl (lv_at hl 0 rfl) ?_
          refine gX5_3 (b := 14) X hw sC11 nC11 rfl fl_X5_18 dX5_scanTape_57 ?_
          refine lv_iload_n hx hb dX5_scanTape_60 rfl (lv_at hl 1 rfl) ?_
          refine lv_aload_n hx hb dX5_scanTape_61 rfl (lv_at hl 0 rfl) ?_
          refine gX5_5 X hw sC11 nC11 fl_X5_33 dX5_scanTape_62 ?_
          obtain ⟨h12, hf⟩ := if_some hf
          obtain ⟨σ13, eσ13, hf⟩ := wlet_some hf
          refine wr_last X hw sC14 nC14 h12 dX5_scanTape_65 (fun H locs hw => ?_)
          replace hw := hw.to eσ13
          obtain ⟨v14, ev14, hf⟩ := wlet_some hf
          refine lv_iinc (v := v14) (lv' := [(1, .int v14), (0, .ref (ad 11))]) hx hb dX5_scanTape_66 hl (k := 1) rfl (by rw [ev14]; rfl) (by decide) rfl (fun ls hl => ?_)
          refine lv_goto (tgt := 7) hx hb dX5_scanTape_69 (by decide) ?_
          exact ih7_2 σ13 v14 (lp_leaf hf hz7_2) ls H locs (lv_sub hl [1, 0] rfl) hw
        replace hf := hf0
        refine lv_icmp_gt (tgt := 54) hx hb dX5_scanTape_44 (by decide) (fun c15 => ?_) (fun c15 => ?_)
        · have hf := (if_pos c15).symm.trans hf
          refine lv_iconst (v := 0) hx hb dX5_scanTape_54 (by decide) ?_
          exact j55_9 σ8 x1_7_2 (0 : Int32) hf ls H locs (lv_sub hl [0, 1] rfl) hw
        · have hf := (if_neg c15).symm.trans hf
          refine lv_aload_n hx hb dX5_scanTape_47 rfl (lv_at hl 0 rfl) ?_
          obtain ⟨v17, σ18, hq16, hf⟩ := bnd2_some hf
          refine wr_cVi (r := v17) (σ' := σ18) (av := []) (rest := [.int x1_7_2, .ref (ad 12)]) X hw hl.1 sC11 nC11 rfl (k_X5_scanToken hI hq16) rfl ml_X5_37 im_X5_scanToken se_X5_scanToken ini_X5 co_X5_scanToken hd_X5_scanToken ⟨Nat.le_of_ble_eq_true rfl, Nat.le_of_ble_eq_true rfl⟩ (Nat.le_of_ble_eq_true rfl) dX5_scanTape_48 rfl (fun H locs hw => ?_)
          refine lv_goto (tgt := 55) hx hb dX5_scanTape_51 (by decide) ?_
          exact j55_9 σ18 x1_7_2 v17 hf ls H locs (lv_sub hl [0, 1] rfl) hw
  exact lo7_2 fuel σ1 (0 : Int32) hq7_2 ls H locs (lv_sub hl [1, 0] rfl) hw
