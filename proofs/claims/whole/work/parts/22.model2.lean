def f_X11_docket (σ : St) (x1 : Int32) (x2 : Int32) : Option (Int32 × St) := Option.bind (f_X11_isCase σ x1) fun v2 => if v2 = 0 then (some ((-1 : Int32), σ)) else (Option.bind (f_X11_copies σ) fun σ5 => Option.bind (f_X11_placeOf σ5 x1) fun v7 => if x2 = (0 : Int32) then (Option.bind (f_X11_deedAt σ5 x1) fun v10 => some (v10, σ5)) else if x2 = (1 : Int32) then (if ib ((10 : Int32) + x1) 26 = true then some ((σ5.1 27 (Int32.toNatClampNeg ((10 : Int32) + x1))), σ5) else none) else if x2 = (2 : Int32) then (if 0 ≤ v7 then (some (v7, σ5)) else (some ((-2 : Int32), σ5))) else if x2 = (3 : Int32) then (if ib ((17 : Int32) + x1) 26 = true then some ((σ5.1 27 (Int32.toNatClampNeg ((17 : Int32) + x1))), σ5) else none) else if x2 = (4 : Int32) then (Option.bind (f_X11_doesPlead σ5 x1) fun v19 => if v19 = 0 then (some ((0 : Int32), σ5)) else (some ((1 : Int32), σ5))) else if x2 = (5 : Int32) then (Option.bind (f_X11_deedAt σ5 x1) fun v23 => bnd2 (f_X11_doomOf σ5 x1 v7 v23) fun v25 σ26 => some (v25, σ26)) else if x2 = (6 : Int32) then (bnd2 (f_X11_adjournsOf σ5 x1 v7) fun v29 σ30 => some (v29, σ30)) else (some ((-1 : Int32), σ5)))
theorem hd_X11_docket : yX11_docket.cls = RX11 ∧ yX11_docket.cls ≠ "java/lang/invoke/MethodHandle" ∧ yX11_docket.cls ≠ "java/lang/invoke/VarHandle" ∧ (parseMethodDescriptor yX11_docket.desc).map (fun d => d.parameters.length) = some 2 := by decide +kernel
set_option maxRecDepth 100000 in
set_option maxHeartbeats 4000000 in
theorem k_X11_docket {l : Launch} {ad : Nat → Nat} {D : va_G} {cy : Nat → ClassId} {z : wStr} (hI : wI WM ad) {σ : St} {x1 : Int32} {x2 : Int32}  {res : Int32 × St} (hf : f_X11_docket σ x1 x2 = some res) : wC WM ad D cy z l yX11_docket (Cond.code yX11_docket cX11_docket 4 (Option.some Jvm.ClassFile.FieldType.int) :: aw) (4) (176) [.ref (ad 0), .int x1, .int x2] σ (wQi WM ad D cy res.1 res.2) := by
  unfold f_X11_docket at hf
  refine wr_start (own := RX11) hI (by decide +kernel) rfl (Nat.le_of_ble_eq_true rfl) rfl ?_
  intro p e s m below meth c ls X hw hr hl
  have hx := X.hx
  have hb := X.hb
  obtain ⟨H, eH⟩ : ∃ H : Heap, H = s.heap := ⟨_, rfl⟩
  obtain ⟨locs, el⟩ : ∃ locs : List Loc, locs = [] := ⟨_, rfl⟩
  rw [← eH, ← el] at hw ⊢
  clear eH el
  replace hl : lv_has ls 4 [(0, .ref (ad 0)), (1, .int x1), (2, .int x2)] := hl
  refine lv_aload_n hx hb dX11_docket_0 rfl (lv_at hl 0 rfl) ?_
  refine lv_iload_n hx hb dX11_docket_1 rfl (lv_at hl 1 rfl) ?_
  obtain ⟨v2, hq1, hf⟩ := bind_some hf
  refine wr_cVi (r := v2) (σ' := σ) (av := [.int x1]) (rest := []) X hw hl.1 sM0 nM0 rfl (k_X11_isCase hI hq1) rfl ml_X11_342 im_X11_isCase se_X11_isCase ini_X11 co_X11_isCase hd_X11_isCase ⟨Nat.le_of_ble_eq_true rfl, Nat.le_of_ble_eq_true rfl⟩ (Nat.le_of_ble_eq_true rfl) dX11_docket_2 rfl (fun H locs hw => ?_)
  refine lv_if_ne (tgt := 10) hx hb dX11_docket_5 (by decide) (fun c3 => ?_) (fun c3 => ?_)
  · have hf := (if_neg c3).symm.trans hf
    refine lv_aload_n hx hb dX11_docket_10 rfl (lv_at hl 0 rfl) ?_
    obtain ⟨σ5, hq4, hf⟩ := bind_some hf
    refine wr_cVv (σ' := σ5) (av := []) (rest := []) X hw hl.1 sM0 nM0 rfl (k_X11_copies hI hq4) rfl ml_X11_345 im_X11_copies se_X11_copies ini_X11 co_X11_copies hd_X11_copies ⟨Nat.le_of_ble_eq_true rfl, Nat.le_of_ble_eq_true rfl⟩ (Nat.le_of_ble_eq_true rfl) dX11_docket_11 rfl (fun H locs hw => ?_)
    refine lv_aload_n hx hb dX11_docket_14 rfl (lv_at hl 0 rfl) ?_
    refine lv_iload_n hx hb dX11_docket_15 rfl (lv_at hl 1 rfl) ?_
    obtain ⟨v7, hq6, hf⟩ := bind_some hf
    refine wr_cVi (r := v7) (σ' := σ5) (av := [.int x1]) (rest := []) X hw hl.1 sM0 nM0 rfl (k_X11_placeOf hI hq6) rfl ml_X11_293 im_X11_placeOf se_X11_placeOf ini_X11 co_X11_placeOf hd_X11_placeOf ⟨Nat.le_of_ble_eq_true rfl, Nat.le_of_ble_eq_true rfl⟩ (Nat.le_of_ble_eq_true rfl) dX11_docket_16 rfl (fun H locs hw => ?_)
    refine lv_istore_n (lv' := [(3, .int v7), (0, .ref (ad 0)), (1, .int x1), (2, .int x2)]) hx hb dX11_docket_19 rfl hl (by decide) rfl (fun ls hl => ?_)
    refine lv_iload_n hx hb dX11_docket_20 rfl (lv_at hl 3 rfl) ?_
    by_cases c8 : x2 = (0 : Int32)
    · have hf := (if_pos c8).symm.trans hf
      refine lv_tableIn (tgt := 64) (off := 43) hx hb dX11_docket_21 (by rw [c8]; decide) (by rw [c8]; decide) (by rw [c8]; rfl) (by decide) ?_
      refine lv_aload_n hx hb dX11_docket_64 rfl (lv_at hl 1 rfl) ?_
      refine lv_iload_n hx hb dX11_docket_65 rfl (lv_at hl 2 rfl) ?_
      obtain ⟨v10, hq9, hf⟩ := bind_some hf
      refine wr_cVi (r := v10) (σ' := σ5) (av := [.int x1]) (rest := []) X hw hl.1 sM0 nM0 rfl (k_X11_deedAt hI hq9) rfl ml_X11_299 im_X11_deedAt se_X11_deedAt ini_X11 co_X11_deedAt hd_X11_deedAt ⟨Nat.le_of_ble_eq_true rfl, Nat.le_of_ble_eq_true rfl⟩ (Nat.le_of_ble_eq_true rfl) dX11_docket_66 rfl (fun H locs hw => ?_)
      have er := Option.some.inj hf
      subst er
      exact wr_iret X hw hr (Or.inl rfl) dX11_docket_69
    have hf := (if_neg c8).symm.trans hf
    by_cases c11 : x2 = (1 : Int32)
    · have hf := (if_pos c11).symm.trans hf
      refine lv_tableIn (tgt := 70) (off := 49) hx hb dX11_docket_21 (by rw [c11]; decide) (by rw [c11]; decide) (by rw [c11]; rfl) (by decide) ?_
      refine lv_aload_n hx hb dX11_docket_70 rfl (lv_at hl 1 rfl) ?_
      refine gX11_44 (b := 27) X hw sM0 nM0 rfl fl_X11_98 dX11_docket_71 ?_
      refine lv_bipush (v := 10) hx hb dX11_docket_74 (by decide) ?_
      refine lv_iload_n hx hb dX11_docket_76 rfl (lv_at hl 2 rfl) ?_
      refine lv_iadd hx hb dX11_docket_77 ?_
      obtain ⟨h12, hf⟩ := if_some hf
      refine wr_iald X hw sM27 nM27 h12 dX11_docket_78 ?_
      have er := Option.some.inj hf
      subst er
      exact wr_iret X hw hr (Or.inl rfl) dX11_docket_79
    have hf := (if_neg c11).symm.trans hf
    by_cases c13 : x2 = (2 : Int32)
    · have hf := (if_pos c13).symm.trans hf
      refine lv_tableIn (tgt := 80) (off := 59) hx hb dX11_docket_21 (by rw [c13]; decide) (by rw [c13]; decide) (by rw [c13]; rfl) (by decide) ?_
      refine lv_iload_n hx hb dX11_docket_80 rfl (lv_at hl 0 rfl) ?_
      refine lv_if_ge (tgt := 89) hx hb dX11_docket_81 (by decide) (fun c14 => ?_) (fun c14 => ?_)
      · have hf := (if_pos c14).symm.trans hf
        refine lv_iload_n hx hb dX11_docket_89 rfl (lv_at hl 0 rfl) ?_
        have er := Option.some.inj hf
        subst er
        exact wr_iret X hw hr (Or.inl rfl) dX11_docket_90
      · have hf := (if_neg c14).symm.trans hf
        refine lv_bipush (v := -2) hx hb dX11_docket_84 (by decide) ?_
        refine lv_goto (tgt := 90) hx hb dX11_docket_86 (by decide) ?_
        have er := Option.some.inj hf
        subst er
        exact wr_iret X hw hr (Or.inl rfl) dX11_docket_90
    have hf := (if_neg c13).symm.trans hf
    by_cases c15 : x2 = (3 : Int32)
    · have hf := (if_pos c15).symm.trans hf
      refine lv_tableIn (tgt := 91) (off := 70) hx hb dX11_docket_21 (by rw [c15]; decide) (by rw [c15]; decide) (by rw [c15]; rfl) (by decide) ?_
      refine lv_aload_n hx hb dX11_docket_91 rfl (lv_at hl 1 rfl) ?_
      refine gX11_44 (b := 27) X hw sM0 nM0 rfl fl_X11_98 dX11_docket_92 ?_
      refine lv_bipush (v := 17) hx hb dX11_docket_95 (by decide) ?_
      refine lv_iload_n hx hb dX11_docket_97 rfl (lv_at hl 2 rfl) ?_
      refine lv_iadd hx hb dX11_docket_98 ?_
      obtain ⟨h16, hf⟩ := if_some hf
      refine wr_iald X hw sM27 nM27 h16 dX11_docket_99 ?_
      have er := Option.some.inj hf
      subst er
      exact wr_iret X hw hr (Or.inl rfl) dX11_docket_100
    have hf := (if_neg c15).symm.trans hf
    by_cases c17 : x2 = (4 : Int32)
    · have hf := (if_pos c17).symm.trans hf
      refine lv_tableIn (tgt := 101) (off := 80) hx hb dX11_docket_21 (by rw [c17]; decide) (by rw [c17]; decide) (by rw [c17]; rfl) (by decide) ?_
      refine lv_aload_n hx hb dX11_docket_101 rfl (lv_at hl 1 rfl) ?_
      refine lv_iload_n hx hb dX11_docket_102 rfl (lv_at hl 2 rfl) ?_
      obtain ⟨v19, hq18, hf⟩ := bind_some hf
      refine wr_cVi (r := v19) (σ' := σ5) (av := [.int x1]) (rest := []) X hw hl.1 sM0 nM0 rfl (k_X11_doesPlead hI hq18) rfl ml_X11_302 im_X11_doesPlead se_X11_doesPlead ini_X11 co_X11_doesPlead hd_X11_doesPlead ⟨Nat.le_of_ble_eq_true rfl, Nat.le_of_ble_eq_true rfl⟩ (Nat.le_of_ble_eq_true rfl) dX11_docket_103 rfl (fun H locs hw => ?_)
      refine lv_if_eq (tgt := 113) hx hb dX11_docket_106 (by decide) (fun c20 => ?_) (fun c20 => ?_)
      · have hf := (if_pos c20).symm.trans hf
        refine lv_iconst (v := 0) hx hb dX11_docket_113 (by decide) ?_
        have er := Option.some.inj hf
        subst er
        exact wr_iret X hw hr (Or.inl rfl) dX11_docket_114
      · have hf := (if_neg c20).symm.trans hf
        refine lv_iconst (v := 1) hx hb dX11_docket_109 (by decide) ?_
        refine lv_goto (tgt := 114) hx hb dX11_docket_110 (by decide) ?_
        have er := Option.some.inj hf
        subst er
        exact wr_iret X hw hr (Or.inl rfl) dX11_docket_114
    have hf := (if_neg c17).symm.trans hf
    by_cases c21 : x2 = (5 : Int32)
    · have hf := (if_pos c21).symm.trans hf
      refine lv_tableIn (tgt := 115) (off := 94) hx hb dX11_docket_21 (by rw [c21]; decide) (by rw [c21]; decide) (by rw [c21]; rfl) (by decide) ?_
      refine lv_aload_n hx hb dX11_docket_115 rfl (lv_at hl 1 rfl) ?_
      refine lv_iload_n hx hb dX11_docket_116 rfl (lv_at hl 2 rfl) ?_
      refine lv_iload_n hx hb dX11_docket_117 rfl (lv_at hl 0 rfl) ?_
      refine lv_aload_n hx hb dX11_docket_118 rfl (lv_at hl 1 rfl) ?_
      refine lv_iload_n hx hb dX11_docket_119 rfl (lv_at hl 2 rfl) ?_
      obtain ⟨v23, hq22, hf⟩ := bind_some hf
      refine wr_cVi (r := v23) (σ' := σ5) (av := [.int x1]) (rest := [.int v7, .int x1, .ref (ad 0)]) X hw hl.1 sM0 nM0 rfl (k_X11_deedAt hI hq22) rfl ml_X11_299 im_X11_deedAt se_X11_deedAt ini_X11 co_X11_deedAt hd_X11_deedAt ⟨Nat.le_of_ble_eq_true rfl, Nat.le_of_ble_eq_true rfl⟩ (Nat.le_of_ble_eq_true rfl) dX11_docket_120 rfl (fun H locs hw => ?_)
      obtain ⟨v25, σ26, hq24, hf⟩ := bnd2_some hf
      refine wr_cVi (r := v25) (σ' := σ26) (av := [.int x1, .int v7, .int v23]) (rest := []) X hw hl.1 sM0 nM0 rfl (k_X11_doomOf hI hq24) rfl ml_X11_318 im_X11_doomOf se_X11_doomOf ini_X11 co_X11_doomOf hd_X11_doomOf ⟨Nat.le_of_ble_eq_true rfl, Nat.le_of_ble_eq_true rfl⟩ (Nat.le_of_ble_eq_true rfl) dX11_docket_123 rfl (fun H locs hw => ?_)
      have er := Option.some.inj hf
      subst er
      exact wr_iret X hw hr (Or.inl rfl) dX11_docket_126
    have hf := (if_neg c21).symm.trans hf
    by_cases c27 : x2 = (6 : Int32)
    · have hf := (if_pos c27).symm.trans hf
      refine lv_tableIn (tgt := 127) (off := 106) hx hb dX11_docket_21 (by rw [c27]; decide) (by rw [c27]; decide) (by rw [c27]; rfl) (by decide) ?_
      refine lv_aload_n hx hb dX11_docket_127 rfl (lv_at hl 1 rfl) ?_
      refine lv_iload_n hx hb dX11_docket_128 rfl (lv_at hl 2 rfl) ?_
      refine lv_iload_n hx hb dX11_docket_129 rfl (lv_at hl 0 rfl) ?_
      obtain ⟨v29, σ30, hq28, hf⟩ := bnd2_some hf
      refine wr_cVi (r := v29) (σ' := σ30) (av := [.int x1, .int v7]) (rest := []) X hw hl.1 sM0 nM0 rfl (k_X11_adjournsOf hI hq28) rfl ml_X11_336 im_X11_adjournsOf se_X11_adjournsOf ini_X11 co_X11_adjournsOf hd_X11_adjournsOf ⟨Nat.le_of_ble_eq_true rfl, Nat.le_of_ble_eq_true rfl⟩ (Nat.le_of_ble_eq_true rfl) dX11_docket_130 rfl (fun H locs hw => ?_)
      have er := Option.some.inj hf
      subst er
      exact wr_iret X hw hr (Or.inl rfl) dX11_docket_133
    have hf := (if_neg c27).symm.trans hf
    refine lv_tableOut (tgt := 134) hx hb dX11_docket_21 (sw_out (by decide) (by decide) (fun k h1 h2 => ?_)) (by decide) ?_
    · have h3 : k = 0 ∨ k = 1 ∨ k = 2 ∨ k = 3 ∨ k = 4 ∨ k = 5 ∨ k = 6 := by omega
      rcases h3 with rfl | rfl | rfl | rfl | rfl | rfl | rfl
      · exact c8
      · exact c11
      · exact c13
      · exact c15
      · exact c17
      · exact c21
      · exact c27
    refine lv_iconst (v := -1) hx hb dX11_docket_134 (by decide) ?_
    have er := Option.some.inj hf
    subst er
    exact wr_iret X hw hr (Or.inl rfl) dX11_docket_135
  · have hf := (if_pos c3).symm.trans hf
    refine lv_iconst (v := -1) hx hb dX11_docket_8 (by decide) ?_
    have er := Option.some.inj hf
    subst er
    exact wr_iret X hw hr (Or.inl rfl) dX11_docket_9

def f_X11_dreadOf (σ : St) (x1 : Int32) : Option (Int32 × St) := wlet (un3 (fun (σ4_1 : St) (x2_4_1 : Int32) (x3_4_1 : Int32) => if ib (7 : Int32) 26 = true then if (σ4_1.1 27 (Int32.toNatClampNeg (7 : Int32))) ≤ x3_4_1 then (some (.inr (σ4_1, x2_4_1))) else (if ib x3_4_1 26 = true then if (σ4_1.1 27 (Int32.toNatClampNeg x3_4_1)) = x1 then (wlet (x3_4_1 + (1 : Int32)) fun v6 => some (.inl (σ4_1, x2_4_1, v6))) else (if ib x3_4_1 26 = true then Option.bind (f_X11_deedAt σ4_1 x1) fun v9 => bnd2 (f_X11_doomOf σ4_1 (σ4_1.1 27 (Int32.toNatClampNeg x3_4_1)) x3_4_1 v9) fun v11 σ12 => wlet (x2_4_1 + v11) fun v13 => wlet (x3_4_1 + (1 : Int32)) fun v14 => some (.inl (σ12, v13, v14)) else none) else none) else none) : St × Int32 × Int32 → Option ((St × Int32 × Int32) ⊕ (St × Int32))) fun st4_1 => Option.bind (lp st4_1 fuel (σ, (0 : Int32), (0 : Int32))) ((un2 (fun (σe4_1 : St) (x2_e4_1 : Int32) => some (x2_e4_1, σe4_1))))
theorem hd_X11_dreadOf : yX11_dreadOf.cls = RX11 ∧ yX11_dreadOf.cls ≠ "java/lang/invoke/MethodHandle" ∧ yX11_dreadOf.cls ≠ "java/lang/invoke/VarHandle" ∧ (parseMethodDescriptor yX11_dreadOf.desc).map (fun d => d.parameters.length) = some 1 := by decide +kernel
set_option maxRecDepth 100000 in
set_option maxHeartbeats 4000000 in
theorem k_X11_dreadOf {l : Launch} {ad : Nat → Nat} {D : va_G} {cy : Nat → ClassId} {z : wStr} (hI : wI WM ad) {σ : St} {x1 : Int32}  {res : Int32 × St} (hf : f_X11_dreadOf σ x1 = some res) : wC WM ad D cy z l yX11_dreadOf (Cond.code yX11_dreadOf cX11_dreadOf 4 (Option.some Jvm.ClassFile.FieldType.int) :: aw) (4) (176) [.ref (ad 0), .int x1] σ (wQi WM ad D cy res.1 res.2) := by
  unfold f_X11_dreadOf at hf
  refine wr_start (own := RX11) hI (by decide +kernel) rfl (Nat.le_of_ble_eq_true rfl) rfl ?_
  intro p e s m below meth c ls X hw hr hl
  have hx := X.hx
  have hb := X.hb
  obtain ⟨H, eH⟩ : ∃ H : Heap, H = s.heap := ⟨_, rfl⟩
  obtain ⟨locs, el⟩ : ∃ locs : List Loc, locs = [] := ⟨_, rfl⟩
  rw [← eH, ← el] at hw ⊢
  clear eH el
  replace hl : lv_has ls 4 [(0, .ref (ad 0)), (1, .int x1)] := hl
  refine lv_iconst (v := 0) hx hb dX11_dreadOf_0 (by decide) ?_
  refine lv_istore_n (lv' := [(2, .int (0 : Int32)), (0, .ref (ad 0)), (1, .int x1)]) hx hb dX11_dreadOf_1 rfl hl (by decide) rfl (fun ls hl => ?_)
  refine lv_iconst (v := 0) hx hb dX11_dreadOf_2 (by decide) ?_
  refine lv_istore_n (lv' := [(3, .int (0 : Int32)), (2, .int (0 : Int32)), (0, .ref (ad 0)), (1, .int x1)]) hx hb dX11_dreadOf_3 rfl hl (by decide) rfl (fun ls hl => ?_)
  obtain ⟨st4_1, est4_1, hf⟩ := wlet_some hf
  obtain ⟨E4_1, hq4_1, hE4_1⟩ := bind_some hf
  have hx4_1 : ∀ (σe4_1 : St) (x2_e4_1 : Int32) (_ : (σe4_1, x2_e4_1) = E4_1) (ls : Array Slot) (H : Heap) (locs : List Loc), lv_has ls 4 [(2, .int x2_e4_1)] → wH WM ad D cy s σe4_1 H locs → W p l e { frames := 4, cells := 0, slots := 0, locals := 176 } s m [.ref (ad 0), .int x1].toArray below meth c H locs 0 0 (MQ below (wQi WM ad D cy res.1 res.2) [.ref (ad 0), .int x1].toArray s 0 0 (wA WM ad)) (F0 m 50 ls []) := by
    intro σe4_1 x2_e4_1 e0 ls H locs hl hw
    subst e0
    have hf := hE4_1
    replace hf := un2_some hf
    refine lv_iload_n hx hb dX11_dreadOf_50 rfl (lv_at hl 0 rfl) ?_
    have er := Option.some.inj hf
    subst er
    exact wr_iret X hw hr (Or.inl rfl) dX11_dreadOf_51
  have lo4_1 : ∀ (n : Nat) (σ4_1 : St) (x2_4_1 : Int32) (x3_4_1 : Int32) (_ : lp st4_1 n (σ4_1, x2_4_1, x3_4_1) = some E4_1) (ls : Array Slot) (H : Heap) (locs : List Loc), lv_has ls 4 [(0, .ref (ad 0)), (1, .int x1), (2, .int x2_4_1), (3, .int x3_4_1)] → wH WM ad D cy s σ4_1 H locs → W p l e { frames := 4, cells := 0, slots := 0, locals := 176 } s m [.ref (ad 0), .int x1].toArray below meth c H locs 0 0 (MQ below (wQi WM ad D cy res.1 res.2) [.ref (ad 0), .int x1].toArray s 0 0 (wA WM ad)) (F0 m 4 ls []) := by
    intro n
    induction n with
    | zero =>
      intro σ4_1 x2_4_1 x3_4_1 hf ls H locs hl hw
      exact (lp_zero hf).elim
    | succ n ih4_1 =>
      intro σ4_1 x2_4_1 x3_4_1 hf ls H locs hl hw
      obtain ⟨q4_1, hf, hz4_1⟩ := lp_succ hf
      rw [est4_1] at hf
      replace hf := un3_some hf
      refine lv_iload_n hx hb dX11_dreadOf_4 rfl (lv_at hl 3 rfl) ?_
      refine lv_aload_n hx hb dX11_dreadOf_5 rfl (lv_at hl 0 rfl) ?_
      refine gX11_44 (b := 27) X hw sM0 nM0 rfl fl_X11_98 dX11_dreadOf_6 ?_
      refine lv_bipush (v := 7) hx hb dX11_dreadOf_9 (by decide) ?_
      obtain ⟨h2, hf⟩ := if_some hf
      refine wr_iald X hw sM27 nM27 h2 dX11_dreadOf_11 ?_
      refine lv_icmp_ge (tgt := 50) hx hb dX11_dreadOf_12 (by decide) (fun c3 => ?_) (fun c3 => ?_)
      · have hf := (if_pos c3).symm.trans hf
        exact hx4_1 σ4_1 x2_4_1 (lpK_inr (lp_leaf hf hz4_1)) ls H locs (lv_sub hl [2] rfl) hw
      · have hf := (if_neg c3).symm.trans hf
        refine lv_aload_n hx hb dX11_dreadOf_15 rfl (lv_at hl 0 rfl) ?_
        refine gX11_44 (b := 27) X hw sM0 nM0 rfl fl_X11_98 dX11_dreadOf_16 ?_
        refine lv_iload_n hx hb dX11_dreadOf_19 rfl (lv_at hl 3 rfl) ?_
        obtain ⟨h4, hf⟩ := if_some hf
        refine wr_iald X hw sM27 nM27 h4 dX11_dreadOf_20 ?_
        refine lv_iload_n hx hb dX11_dreadOf_21 rfl (lv_at hl 1 rfl) ?_
        refine lv_icmp_eq (tgt := 44) hx hb dX11_dreadOf_22 (by decide) (fun c5 => ?_) (fun c5 => ?_)
        · have hf := (if_pos c5).symm.trans hf
          obtain ⟨v6, ev6, hf⟩ := wlet_some hf
          refine lv_iinc (v := v6) (lv' := [(3, .int v6), (0, .ref (ad 0)), (1, .int x1), (2, .int x2_4_1)]) hx hb dX11_dreadOf_44 hl (k := 3) rfl (by rw [ev6]; rfl) (by decide) rfl (fun ls hl => ?_)
          refine lv_goto (tgt := 4) hx hb dX11_dreadOf_47 (by decide) ?_
          exact ih4_1 σ4_1 x2_4_1 v6 (lp_leaf hf hz4_1) ls H locs (lv_sub hl [1, 2, 3, 0] rfl) hw
        · have hf := (if_neg c5).symm.trans hf
          refine lv_iload_n hx hb dX11_dreadOf_25 rfl (lv_at hl 2 rfl) ?_
          refine lv_aload_n hx hb dX11_dreadOf_26 rfl (lv_at hl 0 rfl) ?_
          refine lv_aload_n hx hb dX11_dreadOf_27 rfl (lv_at hl 0 rfl) ?_
          refine gX11_44 (b := 27) X hw sM0 nM0 rfl fl_X11_98 dX11_dreadOf_28 ?_
          refine lv_iload_n hx hb dX11_dreadOf_31 rfl (lv_at hl 3 rfl) ?_
          obtain ⟨h7, hf⟩ := if_some hf
          refine wr_iald X hw sM27 nM27 h7 dX11_dreadOf_32 ?_
          refine lv_iload_n hx hb dX11_dreadOf_33 rfl (lv_at hl 3 rfl) ?_
          refine lv_aload_n hx hb dX11_dreadOf_34 rfl (lv_at hl 0 rfl) ?_
          refine lv_iload_n hx hb dX11_dreadOf_35 rfl (lv_at hl 1 rfl) ?_
          obtain ⟨v9, hq8, hf⟩ := bind_some hf
          refine wr_cVi (r := v9) (σ' := σ4_1) (av := [.int x1]) (rest := [.int x3_4_1, .int (σ4_1.1 27 (Int32.toNatClampNeg x3_4_1)), .ref (ad 0), .int x2_4_1]) X hw hl.1 sM0 nM0 rfl (k_X11_deedAt hI hq8) rfl ml_X11_299 im_X11_deedAt se_X11_deedAt ini_X11 co_X11_deedAt hd_X11_deedAt ⟨Nat.le_of_ble_eq_true rfl, Nat.le_of_ble_eq_true rfl⟩ (Nat.le_of_ble_eq_true rfl) dX11_dreadOf_36 rfl (fun H locs hw => ?_)
          obtain ⟨v11, σ12, hq10, hf⟩ := bnd2_some hf
          refine wr_cVi (r := v11) (σ' := σ12) (av := [.int (σ4_1.1 27 (Int32.toNatClampNeg x3_4_1)), .int x3_4_1, .int v9]) (rest := [.int x2_4_1]) X hw hl.1 sM0 nM0 rfl (k_X11_doomOf hI hq10) rfl ml_X11_318 im_X11_doomOf se_X11_doomOf ini_X11 co_X11_doomOf hd_X11_doomOf ⟨Nat.le_of_ble_eq_true rfl, Nat.le_of_ble_eq_true rfl⟩ (Nat.le_of_ble_eq_true rfl) dX11_dreadOf_39 rfl (fun H locs hw => ?_)
          refine lv_iadd hx hb dX11_dreadOf_42 ?_
          obtain ⟨v13, ev13, hf⟩ := wlet_some hf
          refine wr_top ev13 ?_
          refine lv_istore_n (lv' := [(2, .int v13), (0, .ref (ad 0)), (1, .int x1), (3, .int x3_4_1)]) hx hb dX11_dreadOf_43 rfl hl (by decide) rfl (fun ls hl => ?_)
          obtain ⟨v14, ev14, hf⟩ := wlet_some hf
          refine lv_iinc (v := v14) (lv' := [(3, .int v14), (2, .int v13), (0, .ref (ad 0)), (1, .int x1)]) hx hb dX11_dreadOf_44 hl (k := 3) rfl (by rw [ev14]; rfl) (by decide) rfl (fun ls hl => ?_)
          refine lv_goto (tgt := 4) hx hb dX11_dreadOf_47 (by decide) ?_
          exact ih4_1 σ12 v13 v14 (lp_leaf hf hz4_1) ls H locs (lv_sub hl [2, 3, 1, 0] rfl) hw
  exact lo4_1 fuel σ (0 : Int32) (0 : Int32) hq4_1 ls H locs (lv_sub hl [2, 3, 1, 0] rfl) hw

def f_X11_unit (σ : St)  : Option (St) := Option.bind (f_X11_is σ (2 : Int32)) fun v2 => if v2 = 0 then (wlet (fun (_ : Unit) => (Option.bind (f_X11_fail σ (1 : Int32)) fun σ6 => some σ6 : Option (St))) fun k88_4 => if (σ.1 0 13) = 0 then (if ib (σ.1 0 11) 403 = true then if (σ.1 3 (Int32.toNatClampNeg (σ.1 0 11))) < (30 : Int32) then (k88_4 ()) else (if ib (σ.1 0 11) 403 = true then if (38 : Int32) < (σ.1 3 (Int32.toNatClampNeg (σ.1 0 11))) then (k88_4 ()) else (if ib (σ.1 0 11) 403 = true then Option.bind (f_X11_emit σ (1 : Int32) ((σ.1 3 (Int32.toNatClampNeg (σ.1 0 11))) - (30 : Int32))) fun σ14 => Option.bind (f_X11_goesOn σ14) fun σ16 => some σ16 else none) else none) else none) else (k88_4 ())) else (if ib (σ.1 0 11) 403 = true then Option.bind (f_X11_emit σ (0 : Int32) (σ.1 5 (Int32.toNatClampNeg (σ.1 0 11)))) fun σ19 => Option.bind (f_X11_goesOn σ19) fun σ21 => some σ21 else none)
theorem hd_X11_unit : yX11_unit.cls = RX11 ∧ yX11_unit.cls ≠ "java/lang/invoke/MethodHandle" ∧ yX11_unit.cls ≠ "java/lang/invoke/VarHandle" ∧ (parseMethodDescriptor yX11_unit.desc).map (fun d => d.parameters.length) = some 0 := by decide +kernel
set_option maxRecDepth 100000 in
set_option maxHeartbeats 4000000 in
theorem k_X11_unit {l : Launch} {ad : Nat → Nat} {D : va_G} {cy : Nat → ClassId} {z : wStr} (hI : wI WM ad) {σ : St}   {res : St} (hf : f_X11_unit σ  = some res) : wC WM ad D cy z l yX11_unit (Cond.code yX11_unit cX11_unit 1 (none) :: aw) (3) (141) [.ref (ad 0)] σ (wQv WM ad D cy res) := by
  unfold f_X11_unit at hf
  refine wr_start (own := RX11) hI (by decide +kernel) rfl (Nat.le_of_ble_eq_true rfl) rfl ?_
  intro p e s m below meth c ls X hw hr hl
  have hx := X.hx
  have hb := X.hb
  obtain ⟨H, eH⟩ : ∃ H : Heap, H = s.heap := ⟨_, rfl⟩
  obtain ⟨locs, el⟩ : ∃ locs : List Loc, locs = [] := ⟨_, rfl⟩
  rw [← eH, ← el] at hw ⊢
  clear eH el
  replace hl : lv_has ls 1 [(0, .ref (ad 0))] := hl
  refine lv_aload_n hx hb dX11_unit_0 rfl (lv_at hl 0 rfl) ?_
  refine lv_iconst (v := 2) hx hb dX11_unit_1 (by decide) ?_
  obtain ⟨v2, hq1, hf⟩ := bind_some hf
  refine wr_cVi (r := v2) (σ' := σ) (av := [.int (2 : Int32)]) (rest := []) X hw hl.1 sM0 nM0 rfl (k_X11_is hI hq1) rfl ml_X11_200 im_X11_is se_X11_is ini_X11 co_X11_is hd_X11_is ⟨Nat.le_of_ble_eq_true rfl, Nat.le_of_ble_eq_true rfl⟩ (Nat.le_of_ble_eq_true rfl) dX11_unit_2 rfl (fun H locs hw => ?_)
  refine lv_if_eq (tgt := 29) hx hb dX11_unit_5 (by decide) (fun c3 => ?_) (fun c3 => ?_)
  · have hf := (if_pos c3).symm.trans hf
    refine lv_aload_n hx hb dX11_unit_29 rfl (lv_at hl 0 rfl) ?_
    refine gX11_13 X hw sM0 nM0 fl_X11_182 dX11_unit_30 ?_
    obtain ⟨k88_4, ek88_4, hf0⟩ := wlet_some hf
    have j88_4 : ∀ (_ : k88_4 () = some res) (ls : Array Slot) (H : Heap) (locs : List Loc), lv_has ls 1 [(0, .ref (ad 0))] → wH WM ad D cy s σ H locs → W p l e { frames := 3, cells := 0, slots := 0, locals := 141 } s m [.ref (ad 0)].toArray below meth c H locs 0 0 (MQ below (wQv WM ad D cy res) [.ref (ad 0)].toArray s 0 0 (wA WM ad)) (F0 m 88 ls []) := by
      intro  hf ls H locs hl hw
      rw [ek88_4] at hf
      refine lv_aload_n hx hb dX11_unit_88 rfl (lv_at hl 0 rfl) ?_
      refine lv_iconst (v := 1) hx hb dX11_unit_89 (by decide) ?_
      obtain ⟨σ6, hq5, hf⟩ := bind_some hf
      refine wr_cVv (σ' := σ6) (av := [.int (1 : Int32)]) (rest := []) X hw hl.1 sM0 nM0 rfl (k_X11_fail hI hq5) rfl ml_X11_197 im_X11_fail se_X11_fail ini_X11 co_X11_fail hd_X11_fail ⟨Nat.le_of_ble_eq_true rfl, Nat.le_of_ble_eq_true rfl⟩ (Nat.le_of_ble_eq_true rfl) dX11_unit_90 rfl (fun H locs hw => ?_)
      have er := Option.some.inj hf
      subst er
      exact wr_vret X hw hr dX11_unit_93
    replace hf := hf0
    refine lv_if_ne (tgt := 88) hx hb dX11_unit_33 (by decide) (fun c7 => ?_) (fun c7 => ?_)
    · have hf := (if_neg c7).symm.trans hf
      exact j88_4 hf ls H locs (lv_sub hl [0] rfl) hw
    · have hf := (if_pos c7).symm.trans hf
      refine lv_aload_n hx hb dX11_unit_36 rfl (lv_at hl 0 rfl) ?_
      refine gX11_5 (b := 3) X hw sM0 nM0 rfl fl_X11_20 dX11_unit_37 ?_
      refine lv_aload_n hx hb dX11_unit_40 rfl (lv_at hl 0 rfl) ?_
      refine gX11_11 X hw sM0 nM0 fl_X11_185 dX11_unit_41 ?_
      obtain ⟨h8, hf⟩ := if_some hf
      refine wr_iald X hw sM3 nM3 h8 dX11_unit_44 ?_
      refine lv_bipush (v := 30) hx hb dX11_unit_45 (by decide) ?_
      refine lv_icmp_lt (tgt := 88) hx hb dX11_unit_47 (by decide) (fun c9 => ?_) (fun c9 => ?_)
      · have hf := (if_pos c9).symm.trans hf
        exact j88_4 hf ls H locs (lv_sub hl [0] rfl) hw
      · have hf := (if_neg c9).symm.trans hf
        refine lv_aload_n hx hb dX11_unit_50 rfl (lv_at hl 0 rfl) ?_
        refine gX11_5 (b := 3) X hw sM0 nM0 rfl fl_X11_20 dX11_unit_51 ?_
        refine lv_aload_n hx hb dX11_unit_54 rfl (lv_at hl 0 rfl) ?_
        refine gX11_11 X hw sM0 nM0 fl_X11_185 dX11_unit_55 ?_
        obtain ⟨h10, hf⟩ := if_some hf
        refine wr_iald X hw sM3 nM3 h10 dX11_unit_58 ?_
        refine lv_bipush (v := 38) hx hb dX11_unit_59 (by decide) ?_
        refine lv_icmp_gt (tgt := 88) hx hb dX11_unit_61 (by decide) (fun c11 => ?_) (fun c11 => ?_)
        · have hf := (if_pos c11).symm.trans hf
          exact j88_4 hf ls H locs (lv_sub hl [0] rfl) hw
        · have hf := (if_neg c11).symm.trans hf
          refine lv_aload_n hx hb dX11_unit_64 rfl (lv_at hl 0 rfl) ?_
          refine lv_iconst (v := 1) hx hb dX11_unit_65 (by decide) ?_
          refine lv_aload_n hx hb dX11_unit_66 rfl (lv_at hl 0 rfl) ?_
          refine gX11_5 (b := 3) X hw sM0 nM0 rfl fl_X11_20 dX11_unit_67 ?_
          refine lv_aload_n hx hb dX11_unit_70 rfl (lv_at hl 0 rfl) ?_
          refine gX11_11 X hw sM0 nM0 fl_X11_185 dX11_unit_71 ?_
          obtain ⟨h12, hf⟩ := if_some hf
          refine wr_iald X hw sM3 nM3 h12 dX11_unit_74 ?_
          refine lv_bipush (v := 30) hx hb dX11_unit_75 (by decide) ?_
          refine lv_isub hx hb dX11_unit_77 ?_
          obtain ⟨σ14, hq13, hf⟩ := bind_some hf
          refine wr_cVv (σ' := σ14) (av := [.int (1 : Int32), .int ((σ.1 3 (Int32.toNatClampNeg (σ.1 0 11))) - (30 : Int32))]) (rest := []) X hw hl.1 sM0 nM0 rfl (k_X11_emit hI hq13) rfl ml_X11_268 im_X11_emit se_X11_emit ini_X11 co_X11_emit hd_X11_emit ⟨Nat.le_of_ble_eq_true rfl, Nat.le_of_ble_eq_true rfl⟩ (Nat.le_of_ble_eq_true rfl) dX11_unit_78 rfl (fun H locs hw => ?_)
          refine lv_aload_n hx hb dX11_unit_81 rfl (lv_at hl 0 rfl) ?_
          obtain ⟨σ16, hq15, hf⟩ := bind_some hf
          refine wr_cVv (σ' := σ16) (av := []) (rest := []) X hw hl.1 sM0 nM0 rfl (k_X11_goesOn hI hq15) rfl ml_X11_203 im_X11_goesOn se_X11_goesOn ini_X11 co_X11_goesOn hd_X11_goesOn ⟨Nat.le_of_ble_eq_true rfl, Nat.le_of_ble_eq_true rfl⟩ (Nat.le_of_ble_eq_true rfl) dX11_unit_82 rfl (fun H locs hw => ?_)
          refine lv_goto (tgt := 93) hx hb dX11_unit_85 (by decide) ?_
          have er := Option.some.inj hf
          subst er
          exact wr_vret X hw hr dX11_unit_93
  · have hf := (if_neg c3).symm.trans hf
    refine lv_aload_n hx hb dX11_unit_8 rfl (lv_at hl 0 rfl) ?_
    refine lv_iconst (v := 0) hx hb dX11_unit_9 (by decide) ?_
    refine lv_aload_n hx hb dX11_unit_10 rfl (lv_at hl 0 rfl) ?_
    refine gX11_7 (b := 5) X hw sM0 nM0 rfl fl_X11_27 dX11_unit_11 ?_
    refine lv_aload_n hx hb dX11_unit_14 rfl (lv_at hl 0 rfl) ?_
    refine gX11_11 X hw sM0 nM0 fl_X11_185 dX11_unit_15 ?_
    obtain ⟨h17, hf⟩ := if_some hf
    refine wr_iald X hw sM5 nM5 h17 dX11_unit_18 ?_
    obtain ⟨σ19, hq18, hf⟩ := bind_some hf
    refine wr_cVv (σ' := σ19) (av := [.int (0 : Int32), .int (σ.1 5 (Int32.toNatClampNeg (σ.1 0 11)))]) (rest := []) X hw hl.1 sM0 nM0 rfl (k_X11_emit hI hq18) rfl ml_X11_268 im_X11_emit se_X11_emit ini_X11 co_X11_emit hd_X11_emit ⟨Nat.le_of_ble_eq_true rfl, Nat.le_of_ble_eq_true rfl⟩ (Nat.le_of_ble_eq_true rfl) dX11_unit_19 rfl (fun H locs hw => ?_)
    refine lv_aload_n hx hb dX11_unit_22 rfl (lv_at hl 0 rfl) ?_
    obtain ⟨σ21, hq20, hf⟩ := bind_some hf
    refine wr_cVv (σ' := σ21) (av := []) (rest := []) X hw hl.1 sM0 nM0 rfl (k_X11_goesOn hI hq20) rfl ml_X11_203 im_X11_goesOn se_X11_goesOn ini_X11 co_X11_goesOn hd_X11_goesOn ⟨Nat.le_of_ble_eq_true rfl, Nat.le_of_ble_eq_true rfl⟩ (Nat.le_of_ble_eq_true rfl) dX11_unit_23 rfl (fun H locs hw => ?_)
    refine lv_goto (tgt := 93) hx hb dX11_unit_26 (by decide) ?_
    have er := Option.some.inj hf
    subst er
    exact wr_vret X hw hr dX11_unit_93

def f_X11_expression (σ : St)  : Option (St) := wlet (si σ 0 39 (0 : Int32)) fun σ1 => wlet (σ1.1 0 12) fun v2 => wlet (un2 (fun (σ12_3 : St) (x2_12_3 : Int32) => if x2_12_3 = 0 then (some (.inr (.inl σ12_3))) else (if (σ12_3.1 0 13) = 0 then (wlet (fun (σ23_6 : St) => Option.bind (f_X11_is σ23_6 (6 : Int32)) fun v59 => if v59 = 0 then (some (.inr σ23_6)) else (wlet (fun (σ_46_61 : St) => (wlet (si σ_46_61 0 12 ((σ_46_61.1 0 12) + (1 : Int32))) fun σ62 => Option.bind (f_X11_goesOn σ62) fun σ64 => if ib (σ64.1 0 39) 64 = true then wlet (si σ64 23 (Int32.toNatClampNeg (σ64.1 0 39)) (6 : Int32)) fun σ66 => wlet (si σ66 0 39 ((σ66.1 0 39) + (1 : Int32))) fun σ67 => some (.inl σ67) else none : Option ((St) ⊕ (St)))) fun k46_61 => if (σ23_6.1 0 12) = (6 : Int32) then (Option.bind (f_X11_fail σ23_6 (2 : Int32)) fun σ70 => k46_61 σ70) else (k46_61 σ23_6)) : St → Option ((St) ⊕ (St))) fun st23_6 => Option.bind (lp st23_6 fuel σ12_3) ((fun (σe23_6 : St) => Option.bind (f_X11_unit σe23_6) fun σ8 => if (σ8.1 0 13) ≤ 0 then (wlet (fun (σ96_10 : St) => Option.bind (f_X11_is σ96_10 (7 : Int32)) fun v49 => if v49 = 0 then (some (.inr σ96_10)) else (if (σ96_10.1 0 12) ≤ v2 then (some (.inr σ96_10)) else (Option.bind (f_X11_comesOut σ96_10 (0 : Int32)) fun σ53 => wlet (si σ53 0 39 ((σ53.1 0 39) - (1 : Int32))) fun σ54 => wlet (si σ54 0 12 ((σ54.1 0 12) - (1 : Int32))) fun σ55 => Option.bind (f_X11_goesOn σ55) fun σ57 => some (.inl σ57))) : St → Option ((St) ⊕ (St))) fun st96_10 => Option.bind (lp st96_10 fuel σ8) ((fun (σe96_10 : St) => Option.bind (f_X11_is σe96_10 (8 : Int32)) fun v12 => wlet (fun (s0_186_13 : Int32) => (if s0_186_13 = 0 then (wlet (fun (σ_204_31 : St) => (Option.bind (f_X11_comesOut σ_204_31 (0 : Int32)) fun σ33 => some (.inr (.inr σ33)) : Option ((St × Int32) ⊕ ((St) ⊕ (St))))) fun k204_31 => if (σe96_10.1 0 12) ≤ v2 then (k204_31 σe96_10) else (Option.bind (f_X11_fail σe96_10 (1 : Int32)) fun σ36 => k204_31 σ36)) else (Option.bind (f_X11_is σe96_10 (10 : Int32)) fun v16 => wlet (fun (s1_234_17 : Int32) => (Option.bind (f_X11_comesOut σe96_10 s1_234_17) fun σ19 => if ib (σ19.1 0 11) 403 = true then if ib (σ19.1 0 39) 64 = true then wlet (si σ19 23 (Int32.toNatClampNeg (σ19.1 0 39)) (σ19.1 3 (Int32.toNatClampNeg (σ19.1 0 11)))) fun σ22 => wlet (si σ22 0 39 ((σ22.1 0 39) + (1 : Int32))) fun σ23 => Option.bind (f_X11_goesOn σ23) fun σ25 => some (.inl (σ25, s0_186_13)) else none else none : Option ((St × Int32) ⊕ ((St) ⊕ (St))))) fun k234_17 => wlet (fun (_ : Unit) => (k234_17 (1 : Int32) : Option ((St × Int32) ⊕ ((St) ⊕ (St))))) fun k229_26 => if v16 = 0 then (Option.bind (f_X11_is σe96_10 (15 : Int32)) fun v29 => if v29 = 0 then (k234_17 (0 : Int32)) else (k229_26 ())) else (k229_26 ())) : Option ((St × Int32) ⊕ ((St) ⊕ (St))))) fun k186_13 => wlet (fun (_ : Unit) => (k186_13 (1 : Int32) : Option ((St × Int32) ⊕ ((St) ⊕ (St))))) fun k181_37 => if v12 = 0 then (Option.bind (f_X11_is σe96_10 (9 : Int32)) fun v40 => if v40 = 0 then (Option.bind (f_X11_is σe96_10 (10 : Int32)) fun v43 => if v43 = 0 then (Option.bind (f_X11_is σe96_10 (15 : Int32)) fun v46 => if v46 = 0 then (k186_13 (0 : Int32)) else (k181_37 ())) else (k181_37 ())) else (k181_37 ())) else (k181_37 ())))) else (some (.inr (.inr σ8)))))) else (some (.inr (.inl σ12_3))))) : St × Int32 → Option ((St × Int32) ⊕ ((St) ⊕ (St)))) fun st12_3 => Option.bind (lp st12_3 fuel (σ1, (1 : Int32))) (sumk (fun (σe12_3 : St) => some σe12_3) (fun m => some m))
theorem hd_X11_expression : yX11_expression.cls = RX11 ∧ yX11_expression.cls ≠ "java/lang/invoke/MethodHandle" ∧ yX11_expression.cls ≠ "java/lang/invoke/VarHandle" ∧ (parseMethodDescriptor yX11_expression.desc).map (fun d => d.parameters.length) = some 0 := by decide +kernel
set_option maxRecDepth 100000 in
set_option maxHeartbeats 4000000 in
theorem k_X11_expression {l : Launch} {ad : Nat → Nat} {D : va_G} {cy : Nat → ClassId} {z : wStr} (hI : wI WM ad) {σ : St}   {res : St} (hf : f_X11_expression σ  = some res) : wC WM ad D cy z l yX11_expression (Cond.code yX11_expression cX11_expression 3 (none) :: aw) (4) (161) [.ref (ad 0)] σ (wQv WM ad D cy res) := by
  unfold f_X11_expression at hf
  refine wr_start (own := RX11) hI (by decide +kernel) rfl (Nat.le_of_ble_eq_true rfl) rfl ?_
  intro p e s m below meth c ls X hw hr hl
  have hx := X.hx
  have hb := X.hb
  obtain ⟨H, eH⟩ : ∃ H : Heap, H = s.heap := ⟨_, rfl⟩
  obtain ⟨locs, el⟩ : ∃ locs : List Loc, locs = [] := ⟨_, rfl⟩
  rw [← eH, ← el] at hw ⊢
  clear eH el
  replace hl : lv_has ls 3 [(0, .ref (ad 0))] := hl
  refine lv_aload_n hx hb dX11_expression_0 rfl (lv_at hl 0 rfl) ?_
  refine lv_iconst (v := 0) hx hb dX11_expression_1 (by decide) ?_
  obtain ⟨σ1, eσ1, hf⟩ := wlet_some hf
  refine pX11_39 X hw sM0 nM0 fl_X11_265 dX11_expression_2 (fun H locs hw => ?_)
  replace hw := hw.to eσ1
  refine lv_aload_n hx hb dX11_expression_5 rfl (lv_at hl 0 rfl) ?_
  refine gX11_12 X hw sM0 nM0 fl_X11_209 dX11_expression_6 ?_
  obtain ⟨v2, ev2, hf⟩ := wlet_some hf
  refine wr_top ev2 ?_
  refine lv_istore_n (lv' := [(1, .int v2), (0, .ref (ad 0))]) hx hb dX11_expression_9 rfl hl (by decide) rfl (fun ls hl => ?_)
  refine lv_iconst (v := 1) hx hb dX11_expression_10 (by decide) ?_
  refine lv_istore_n (lv' := [(2, .int (1 : Int32)), (1, .int v2), (0, .ref (ad 0))]) hx hb dX11_expression_11 rfl hl (by decide) rfl (fun ls hl => ?_)
  obtain ⟨st12_3, est12_3, hf⟩ := wlet_some hf
  obtain ⟨E12_3, hq12_3, hE12_3⟩ := bind_some hf
  have hx12_3 : ∀ (σe12_3 : St) (_ : Sum.inl σe12_3 = E12_3) (ls : Array Slot) (H : Heap) (locs : List Loc), lv_has ls 3 [] → wH WM ad D cy s σe12_3 H locs → W p l e { frames := 4, cells := 0, slots := 0, locals := 161 } s m [.ref (ad 0)].toArray below meth c H locs 0 0 (MQ below (wQv WM ad D cy res) [.ref (ad 0)].toArray s 0 0 (wA WM ad)) (F0 m 272 ls []) := by
    intro σe12_3 e0 ls H locs hl hw
    have hf := sumk_l hE12_3 e0
    have er := Option.some.inj hf
    subst er
    exact wr_vret X hw hr dX11_expression_272
  have lo12_3 : ∀ (n : Nat) (σ12_3 : St) (x2_12_3 : Int32) (_ : lp st12_3 n (σ12_3, x2_12_3) = some E12_3) (ls : Array Slot) (H : Heap) (locs : List Loc), lv_has ls 3 [(0, .ref (ad 0)), (1, .int v2), (2, .int x2_12_3)] → wH WM ad D cy s σ12_3 H locs → W p l e { frames := 4, cells := 0, slots := 0, locals := 161 } s m [.ref (ad 0)].toArray below meth c H locs 0 0 (MQ below (wQv WM ad D cy res) [.ref (ad 0)].toArray s 0 0 (wA WM ad)) (F0 m 12 ls []) := by
    intro n
    induction n with
    | zero =>
      intro σ12_3 x2_12_3 hf ls H locs hl hw
      exact (lp_zero hf).elim
    | succ n ih12_3 =>
      intro σ12_3 x2_12_3 hf ls H locs hl hw
      obtain ⟨q12_3, hf, hz12_3⟩ := lp_succ hf
      rw [est12_3] at hf
      replace hf := un2_some hf
      refine lv_iload_n hx hb dX11_expression_12 rfl (lv_at hl 2 rfl) ?_
      refine lv_if_eq (tgt := 272) hx hb dX11_expression_13 (by decide) (fun c4 => ?_) (fun c4 => ?_)
      · have hf := (if_pos c4).symm.trans hf
        exact hx12_3 σ12_3 (lpK_inr (lp_leaf hf hz12_3)) ls H locs (lv_sub hl [] rfl) hw
      · have hf := (if_neg c4).symm.trans hf
        refine lv_aload_n hx hb dX11_expression_16 rfl (lv_at hl 0 rfl) ?_
        refine gX11_13 X hw sM0 nM0 fl_X11_182 dX11_expression_17 ?_
        refine lv_if_ne (tgt := 272) hx hb dX11_expression_20 (by decide) (fun c5 => ?_) (fun c5 => ?_)
        · have hf := (if_neg c5).symm.trans hf
          exact hx12_3 σ12_3 (lpK_inr (lp_leaf hf hz12_3)) ls H locs (lv_sub hl [] rfl) hw
        · have hf := (if_pos c5).symm.trans hf
          obtain ⟨st23_6, est23_6, hf⟩ := wlet_some hf
          obtain ⟨E23_6, hq23_6, hE23_6⟩ := bind_some hf
          have hx23_6 : ∀ (σe23_6 : St) (_ : σe23_6 = E23_6) (ls : Array Slot) (H : Heap) (locs : List Loc), lv_has ls 3 [(0, .ref (ad 0)), (1, .int v2)] → wH WM ad D cy s σe23_6 H locs → W p l e { frames := 4, cells := 0, slots := 0, locals := 161 } s m [.ref (ad 0)].toArray below meth c H locs 0 0 (MQ below (wQv WM ad D cy res) [.ref (ad 0)].toArray s 0 0 (wA WM ad)) (F0 m 84 ls []) := by
            intro σe23_6 e0 ls H locs hl hw
            subst e0
            have hf := hE23_6
            refine lv_aload_n hx hb dX11_expression_84 rfl (lv_at hl 0 rfl) ?_
            obtain ⟨σ8, hq7, hf⟩ := bind_some hf
            refine wr_cVv (σ' := σ8) (av := []) (rest := []) X hw hl.1 sM0 nM0 rfl (k_X11_unit hI hq7) rfl ml_X11_271 im_X11_unit se_X11_unit ini_X11 co_X11_unit hd_X11_unit ⟨Nat.le_of_ble_eq_true rfl, Nat.le_of_ble_eq_true rfl⟩ (Nat.le_of_ble_eq_true rfl) dX11_expression_85 rfl (fun H locs hw => ?_)
            refine lv_aload_n hx hb dX11_expression_88 rfl (lv_at hl 0 rfl) ?_
            refine gX11_13 X hw sM0 nM0 fl_X11_182 dX11_expression_89 ?_
            refine lv_if_le (tgt := 96) hx hb dX11_expression_92 (by decide) (fun c9 => ?_) (fun c9 => ?_)
            · have hf := (if_pos c9).symm.trans hf
              obtain ⟨st96_10, est96_10, hf⟩ := wlet_some hf
              obtain ⟨E96_10, hq96_10, hE96_10⟩ := bind_some hf
              have hx96_10 : ∀ (σe96_10 : St) (_ : σe96_10 = E96_10) (ls : Array Slot) (H : Heap) (locs : List Loc), lv_has ls 3 [(0, .ref (ad 0)), (1, .int v2)] → wH WM ad D cy s σe96_10 H locs → W p l e { frames := 4, cells := 0, slots := 0, locals := 161 } s m [.ref (ad 0)].toArray below meth c H locs 0 0 (MQ below (wQv WM ad D cy res) [.ref (ad 0)].toArray s 0 0 (wA WM ad)) (F0 m 145 ls []) := by
                intro σe96_10 e0 ls H locs hl hw
                subst e0
                have hf := hE96_10
                refine lv_aload_n hx hb dX11_expression_145 rfl (lv_at hl 0 rfl) ?_
                refine lv_bipush (v := 8) hx hb dX11_expression_146 (by decide) ?_
                obtain ⟨v12, hq11, hf⟩ := bind_some hf
                refine wr_cVi (r := v12) (σ' := σe96_10) (av := [.int (8 : Int32)]) (rest := []) X hw hl.1 sM0 nM0 rfl (k_X11_is hI hq11) rfl ml_X11_200 im_X11_is se_X11_is ini_X11 co_X11_is hd_X11_is ⟨Nat.le_of_ble_eq_true rfl, Nat.le_of_ble_eq_true rfl⟩ (Nat.le_of_ble_eq_true rfl) dX11_expression_148 rfl (fun H locs hw => ?_)
                obtain ⟨k186_13, ek186_13, hf0⟩ := wlet_some hf
                have j186_13 : ∀ (s0_186_13 : Int32) (_ : k186_13 s0_186_13 = some q12_3) (ls : Array Slot) (H : Heap) (locs : List Loc), lv_has ls 3 [(0, .ref (ad 0)), (1, .int v2)] → wH WM ad D cy s σe96_10 H locs → W p l e { frames := 4, cells := 0, slots := 0, locals := 161 } s m [.ref (ad 0)].toArray below meth c H locs 0 0 (MQ below (wQv WM ad D cy res) [.ref (ad 0)].toArray s 0 0 (wA WM ad)) (F0 m 186 ls [.int s0_186_13]) := by
                  intro s0_186_13 hf ls H locs hl hw
                  rw [ek186_13] at hf
                  refine lv_istore_n (lv' := [(2, .int s0_186_13), (0, .ref (ad 0)), (1, .int v2)]) hx hb dX11_expression_186 rfl hl (by decide) rfl (fun ls hl => ?_)
                  refine lv_iload_n hx hb dX11_expression_187 rfl (lv_at hl 0 rfl) ?_
                  refine lv_if_ne (tgt := 210) hx hb dX11_expression_188 (by decide) (fun c14 => ?_) (fun c14 => ?_)
                  · have hf := (if_neg c14).symm.trans hf
                    refine lv_aload_n hx hb dX11_expression_210 rfl (lv_at hl 1 rfl) ?_
                    refine lv_aload_n hx hb dX11_expression_211 rfl (lv_at hl 1 rfl) ?_
                    refine lv_bipush (v := 10) hx hb dX11_expression_212 (by decide) ?_
                    obtain ⟨v16, hq15, hf⟩ := bind_some hf
                    refine wr_cVi (r := v16) (σ' := σe96_10) (av := [.int (10 : Int32)]) (rest := [.ref (ad 0)]) X hw hl.1 sM0 nM0 rfl (k_X11_is hI hq15) rfl ml_X11_200 im_X11_is se_X11_is ini_X11 co_X11_is hd_X11_is ⟨Nat.le_of_ble_eq_true rfl, Nat.le_of_ble_eq_true rfl⟩ (Nat.le_of_ble_eq_true rfl) dX11_expression_214 rfl (fun H locs hw => ?_)
                    obtain ⟨k234_17, ek234_17, hf0⟩ := wlet_some hf
                    have j234_17 : ∀ (s1_234_17 : Int32) (_ : k234_17 s1_234_17 = some q12_3) (ls : Array Slot) (H : Heap) (locs : List Loc), lv_has ls 3 [(0, .ref (ad 0)), (1, .int v2), (2, .int s0_186_13)] → wH WM ad D cy s σe96_10 H locs → W p l e { frames := 4, cells := 0, slots := 0, locals := 161 } s m [.ref (ad 0)].toArray below meth c H locs 0 0 (MQ below (wQv WM ad D cy res) [.ref (ad 0)].toArray s 0 0 (wA WM ad)) (F0 m 234 ls [.int s1_234_17, .ref (ad 0)]) := by
                      intro s1_234_17 hf ls H locs hl hw
                      rw [ek234_17] at hf
                      obtain ⟨σ19, hq18, hf⟩ := bind_some hf
                      refine wr_cVv (σ' := σ19) (av := [.int s1_234_17]) (rest := []) X hw hl.1 sM0 nM0 rfl (k_X11_comesOut hI hq18) rfl ml_X11_274 im_X11_comesOut se_X11_comesOut ini_X11 co_X11_comesOut hd_X11_comesOut ⟨Nat.le_of_ble_eq_true rfl, Nat.le_of_ble_eq_true rfl⟩ (Nat.le_of_ble_eq_true rfl) dX11_expression_234 rfl (fun H locs hw => ?_)
                      refine lv_aload_n hx hb dX11_expression_237 rfl (lv_at hl 0 rfl) ?_
                      refine gX11_38 (b := 23) X hw sM0 nM0 rfl fl_X11_86 dX11_expression_238 ?_
                      refine lv_aload_n hx hb dX11_expression_241 rfl (lv_at hl 0 rfl) ?_
                      refine gX11_39 X hw sM0 nM0 fl_X11_265 dX11_expression_242 ?_
                      refine lv_aload_n hx hb dX11_expression_245 rfl (lv_at hl 0 rfl) ?_
                      refine gX11_5 (b := 3) X hw sM0 nM0 rfl fl_X11_20 dX11_expression_246 ?_
                      refine lv_aload_n hx hb dX11_expression_249 rfl (lv_at hl 0 rfl) ?_
                      refine gX11_11 X hw sM0 nM0 fl_X11_185 dX11_expression_250 ?_
                      obtain ⟨h20, hf⟩ := if_some hf
                      refine wr_iald X hw sM3 nM3 h20 dX11_expression_253 ?_
                      obtain ⟨h21, hf⟩ := if_some hf
                      obtain ⟨σ22, eσ22, hf⟩ := wlet_some hf
                      refine wr_iast X hw sM23 nM23 h21 dX11_expression_254 (fun H locs hw => ?_)
                      replace hw := hw.to eσ22
                      refine lv_aload_n hx hb dX11_expression_255 rfl (lv_at hl 0 rfl) ?_
                      refine lv_dup hx hb dX11_expression_256 rfl ?_
                      refine gX11_39 X hw sM0 nM0 fl_X11_265 dX11_expression_257 ?_
                      refine lv_iconst (v := 1) hx hb dX11_expression_260 (by decide) ?_
                      refine lv_iadd hx hb dX11_expression_261 ?_
                      obtain ⟨σ23, eσ23, hf⟩ := wlet_some hf
                      refine pX11_39 X hw sM0 nM0 fl_X11_265 dX11_expression_262 (fun H locs hw => ?_)
                      replace hw := hw.to eσ23
                      refine lv_aload_n hx hb dX11_expression_265 rfl (lv_at hl 0 rfl) ?_
                      obtain ⟨σ25, hq24, hf⟩ := bind_some hf
                      refine wr_cVv (σ' := σ25) (av := []) (rest := []) X hw hl.1 sM0 nM0 rfl (k_X11_goesOn hI hq24) rfl ml_X11_203 im_X11_goesOn se_X11_goesOn ini_X11 co_X11_goesOn hd_X11_goesOn ⟨Nat.le_of_ble_eq_true rfl, Nat.le_of_ble_eq_true rfl⟩ (Nat.le_of_ble_eq_true rfl) dX11_expression_266 rfl (fun H locs hw => ?_)
                      refine lv_goto (tgt := 12) hx hb dX11_expression_269 (by decide) ?_
                      exact ih12_3 σ25 s0_186_13 (lp_leaf hf hz12_3) ls H locs (lv_sub hl [0, 1, 2] rfl) hw
                    replace hf := hf0
                    obtain ⟨k229_26, ek229_26, hf0⟩ := wlet_some hf
                    have j229_26 : ∀ (_ : k229_26 () = some q12_3) (ls : Array Slot) (H : Heap) (locs : List Loc), lv_has ls 3 [(0, .ref (ad 0)), (1, .int v2), (2, .int s0_186_13)] → wH WM ad D cy s σe96_10 H locs → W p l e { frames := 4, cells := 0, slots := 0, locals := 161 } s m [.ref (ad 0)].toArray below meth c H locs 0 0 (MQ below (wQv WM ad D cy res) [.ref (ad 0)].toArray s 0 0 (wA WM ad)) (F0 m 229 ls [.ref (ad 0)]) := by
                      intro  hf ls H locs hl hw
                      rw [ek229_26] at hf
                      refine lv_iconst (v := 1) hx hb dX11_expression_229 (by decide) ?_
                      refine lv_goto (tgt := 234) hx hb dX11_expression_230 (by decide) ?_
                      exact j234_17 (1 : Int32) hf ls H locs (lv_sub hl [0, 1, 2] rfl) hw
                    replace hf := hf0
                    refine lv_if_ne (tgt := 229) hx hb dX11_expression_217 (by decide) (fun c27 => ?_) (fun c27 => ?_)
                    · have hf := (if_neg c27).symm.trans hf
                      exact j229_26 hf ls H locs (lv_sub hl [1, 2, 0] rfl) hw
                    · have hf := (if_pos c27).symm.trans hf
                      refine lv_aload_n hx hb dX11_expression_220 rfl (lv_at hl 1 rfl) ?_
                      refine lv_bipush (v := 15) hx hb dX11_expression_221 (by decide) ?_
                      obtain ⟨v29, hq28, hf⟩ := bind_some hf
                      refine wr_cVi (r := v29) (σ' := σe96_10) (av := [.int (15 : Int32)]) (rest := [.ref (ad 0)]) X hw hl.1 sM0 nM0 rfl (k_X11_is hI hq28) rfl ml_X11_200 im_X11_is se_X11_is ini_X11 co_X11_is hd_X11_is ⟨Nat.le_of_ble_eq_true rfl, Nat.le_of_ble_eq_true rfl⟩ (Nat.le_of_ble_eq_true rfl) dX11_expression_223 rfl (fun H locs hw => ?_)
                      refine lv_if_eq (tgt := 233) hx hb dX11_expression_226 (by decide) (fun c30 => ?_) (fun c30 => ?_)
                      · have hf := (if_pos c30).symm.trans hf
                        refine lv_iconst (v := 0) hx hb dX11_expression_233 (by decide) ?_
                        exact j234_17 (0 : Int32) hf ls H locs (lv_sub hl [1, 2, 0] rfl) hw
                      · have hf := (if_neg c30).symm.trans hf
                        exact j229_26 hf ls H locs (lv_sub hl [1, 2, 0] rfl) hw
                  · have hf := (if_pos c14).symm.trans hf
                    refine lv_aload_n hx hb dX11_expression_191 rfl (lv_at hl 1 rfl) ?_
                    refine gX11_12 X hw sM0 nM0 fl_X11_209 dX11_expression_192 ?_
                    refine lv_iload_n hx hb dX11_expression_195 rfl (lv_at hl 2 rfl) ?_
                    obtain ⟨k204_31, ek204_31, hf0⟩ := wlet_some hf
                    have j204_31 : ∀ (σ_204_31 : St) (_ : k204_31 σ_204_31 = some q12_3) (ls : Array Slot) (H : Heap) (locs : List Loc), lv_has ls 3 [(0, .ref (ad 0))] → wH WM ad D cy s σ_204_31 H locs → W p l e { frames := 4, cells := 0, slots := 0, locals := 161 } s m [.ref (ad 0)].toArray below meth c H locs 0 0 (MQ below (wQv WM ad D cy res) [.ref (ad 0)].toArray s 0 0 (wA WM ad)) (F0 m 204 ls []) := by
                      intro σ_204_31 hf ls H locs hl hw
                      rw [ek204_31] at hf
                      refine lv_aload_n hx hb dX11_expression_204 rfl (lv_at hl 0 rfl) ?_
                      refine lv_iconst (v := 0) hx hb dX11_expression_205 (by decide) ?_
                      obtain ⟨σ33, hq32, hf⟩ := bind_some hf
                      refine wr_cVv (σ' := σ33) (av := [.int (0 : Int32)]) (rest := []) X hw hl.1 sM0 nM0 rfl (k_X11_comesOut hI hq32) rfl ml_X11_274 im_X11_comesOut se_X11_comesOut ini_X11 co_X11_comesOut hd_X11_comesOut ⟨Nat.le_of_ble_eq_true rfl, Nat.le_of_ble_eq_true rfl⟩ (Nat.le_of_ble_eq_true rfl) dX11_expression_206 rfl (fun H locs hw => ?_)
                      have e12_3 := lpK_inr (lp_leaf hf hz12_3)
                      have hf := sumk_r hE12_3 e12_3
                      have er := Option.some.inj hf
                      subst er
                      exact wr_vret X hw hr dX11_expression_209
                    replace hf := hf0
                    refine lv_icmp_le (tgt := 204) hx hb dX11_expression_196 (by decide) (fun c34 => ?_) (fun c34 => ?_)
                    · have hf := (if_pos c34).symm.trans hf
                      exact j204_31 σe96_10 hf ls H locs (lv_sub hl [1] rfl) hw
                    · have hf := (if_neg c34).symm.trans hf
                      refine lv_aload_n hx hb dX11_expression_199 rfl (lv_at hl 1 rfl) ?_
                      refine lv_iconst (v := 1) hx hb dX11_expression_200 (by decide) ?_
                      obtain ⟨σ36, hq35, hf⟩ := bind_some hf
                      refine wr_cVv (σ' := σ36) (av := [.int (1 : Int32)]) (rest := []) X hw hl.1 sM0 nM0 rfl (k_X11_fail hI hq35) rfl ml_X11_197 im_X11_fail se_X11_fail ini_X11 co_X11_fail hd_X11_fail ⟨Nat.le_of_ble_eq_true rfl, Nat.le_of_ble_eq_true rfl⟩ (Nat.le_of_ble_eq_true rfl) dX11_expression_201 rfl (fun H locs hw => ?_)
                      exact j204_31 σ36 hf ls H locs (lv_sub hl [1] rfl) hw
                replace hf := hf0
                obtain ⟨k181_37, ek181_37, hf0⟩ := wlet_some hf
                have j181_37 : ∀ (_ : k181_37 () = some q12_3) (ls : Array Slot) (H : Heap) (locs : List Loc), lv_has ls 3 [(0, .ref (ad 0)), (1, .int v2)] → wH WM ad D cy s σe96_10 H locs → W p l e { frames := 4, cells := 0, slots := 0, locals := 161 } s m [.ref (ad 0)].toArray below meth c H locs 0 0 (MQ below (wQv WM ad D cy res) [.ref (ad 0)].toArray s 0 0 (wA WM ad)) (F0 m 181 ls []) := by
                  intro  hf ls H locs hl hw
                  rw [ek181_37] at hf
                  refine lv_iconst (v := 1) hx hb dX11_expression_181 (by decide) ?_
                  refine lv_goto (tgt := 186) hx hb dX11_expression_182 (by decide) ?_
                  exact j186_13 (1 : Int32) hf ls H locs (lv_sub hl [0, 1] rfl) hw
                replace hf := hf0
                refine lv_if_ne (tgt := 181) hx hb dX11_expression_151 (by decide) (fun c38 => ?_) (fun c38 => ?_)
                · have hf := (if_neg c38).symm.trans hf
                  exact j181_37 hf ls H locs (lv_sub hl [0, 1] rfl) hw
                · have hf := (if_pos c38).symm.trans hf
                  refine lv_aload_n hx hb dX11_expression_154 rfl (lv_at hl 0 rfl) ?_
                  refine lv_bipush (v := 9) hx hb dX11_expression_155 (by decide) ?_
                  obtain ⟨v40, hq39, hf⟩ := bind_some hf
                  refine wr_cVi (r := v40) (σ' := σe96_10) (av := [.int (9 : Int32)]) (rest := []) X hw hl.1 sM0 nM0 rfl (k_X11_is hI hq39) rfl ml_X11_200 im_X11_is se_X11_is ini_X11 co_X11_is hd_X11_is ⟨Nat.le_of_ble_eq_true rfl, Nat.le_of_ble_eq_true rfl⟩ (Nat.le_of_ble_eq_true rfl) dX11_expression_157 rfl (fun H locs hw => ?_)
                  refine lv_if_ne (tgt := 181) hx hb dX11_expression_160 (by decide) (fun c41 => ?_) (fun c41 => ?_)
                  · have hf := (if_neg c41).symm.trans hf
                    exact j181_37 hf ls H locs (lv_sub hl [0, 1] rfl) hw
                  · have hf := (if_pos c41).symm.trans hf
                    refine lv_aload_n hx hb dX11_expression_163 rfl (lv_at hl 0 rfl) ?_
                    refine lv_bipush (v := 10) hx hb dX11_expression_164 (by decide) ?_
                    obtain ⟨v43, hq42, hf⟩ := bind_some hf
                    refine wr_cVi (r := v43) (σ' := σe96_10) (av := [.int (10 : Int32)]) (rest := []) X hw hl.1 sM0 nM0 rfl (k_X11_is hI hq42) rfl ml_X11_200 im_X11_is se_X11_is ini_X11 co_X11_is hd_X11_is ⟨Nat.le_of_ble_eq_true rfl, Nat.le_of_ble_eq_true rfl⟩ (Nat.le_of_ble_eq_true rfl) dX11_expression_166 rfl (fun H locs hw => ?_)
                    refine lv_if_ne (tgt := 181) hx hb dX11_expression_169 (by decide) (fun c44 => ?_) (fun c44 => ?_)
                    · have hf := (if_neg c44).symm.trans hf
                      exact j181_37 hf ls H locs (lv_sub hl [0, 1] rfl) hw
                    · have hf := (if_pos c44).symm.trans hf
                      refine lv_aload_n hx hb dX11_expression_172 rfl (lv_at hl 0 rfl) ?_
                      refine lv_bipush (v := 15) hx hb dX11_expression_173 (by decide) ?_
                      obtain ⟨v46, hq45, hf⟩ := bind_some hf
                      refine wr_cVi (r := v46) (σ' := σe96_10) (av := [.int (15 : Int32)]) (rest := []) X hw hl.1 sM0 nM0 rfl (k_X11_is hI hq45) rfl ml_X11_200 im_X11_is se_X11_is ini_X11 co_X11_is hd_X11_is ⟨Nat.le_of_ble_eq_true rfl, Nat.le_of_ble_eq_true rfl⟩ (Nat.le_of_ble_eq_true rfl) dX11_expression_175 rfl (fun H locs hw => ?_)
                      refine lv_if_eq (tgt := 185) hx hb dX11_expression_178 (by decide) (fun c47 => ?_) (fun c47 => ?_)
                      · have hf := (if_pos c47).symm.trans hf
                        refine lv_iconst (v := 0) hx hb dX11_expression_185 (by decide) ?_
                        exact j186_13 (0 : Int32) hf ls H locs (lv_sub hl [0, 1] rfl) hw
                      · have hf := (if_neg c47).symm.trans hf
                        exact j181_37 hf ls H locs (lv_sub hl [0, 1] rfl) hw
              have lo96_10 : ∀ (n : Nat) (σ96_10 : St) (_ : lp st96_10 n σ96_10 = some E96_10) (ls : Array Slot) (H : Heap) (locs : List Loc), lv_has ls 3 [(0, .ref (ad 0)), (1, .int v2)] → wH WM ad D cy s σ96_10 H locs → W p l e { frames := 4, cells := 0, slots := 0, locals := 161 } s m [.ref (ad 0)].toArray below meth c H locs 0 0 (MQ below (wQv WM ad D cy res) [.ref (ad 0)].toArray s 0 0 (wA WM ad)) (F0 m 96 ls []) := by
                intro n
                induction n with
                | zero =>
                  intro σ96_10 hf ls H locs hl hw
                  exact (lp_zero hf).elim
                | succ n ih96_10 =>
                  intro σ96_10 hf ls H locs hl hw
                  obtain ⟨q96_10, hf, hz96_10⟩ := lp_succ hf
                  rw [est96_10] at hf
                  refine lv_aload_n hx hb dX11_expression_96 rfl (lv_at hl 0 rfl) ?_
                  refine lv_bipush (v := 7) hx hb dX11_expression_97 (by decide) ?_
                  obtain ⟨v49, hq48, hf⟩ := bind_some hf
                  refine wr_cVi (r := v49) (σ' := σ96_10) (av := [.int (7 : Int32)]) (rest := []) X hw hl.1 sM0 nM0 rfl (k_X11_is hI hq48) rfl ml_X11_200 im_X11_is se_X11_is ini_X11 co_X11_is hd_X11_is ⟨Nat.le_of_ble_eq_true rfl, Nat.le_of_ble_eq_true rfl⟩ (Nat.le_of_ble_eq_true rfl) dX11_expression_99 rfl (fun H locs hw => ?_)
                  refine lv_if_eq (tgt := 145) hx hb dX11_expression_102 (by decide) (fun c50 => ?_) (fun c50 => ?_)
                  · have hf := (if_pos c50).symm.trans hf
                    exact hx96_10 σ96_10 (lpK_inr (lp_leaf hf hz96_10)) ls H locs (lv_sub hl [0, 1] rfl) hw
                  · have hf := (if_neg c50).symm.trans hf
                    refine lv_aload_n hx hb dX11_expression_105 rfl (lv_at hl 0 rfl) ?_
                    refine gX11_12 X hw sM0 nM0 fl_X11_209 dX11_expression_106 ?_
                    refine lv_iload_n hx hb dX11_expression_109 rfl (lv_at hl 1 rfl) ?_
                    refine lv_icmp_le (tgt := 145) hx hb dX11_expression_110 (by decide) (fun c51 => ?_) (fun c51 => ?_)
                    · have hf := (if_pos c51).symm.trans hf
                      exact hx96_10 σ96_10 (lpK_inr (lp_leaf hf hz96_10)) ls H locs (lv_sub hl [0, 1] rfl) hw
                    · have hf := (if_neg c51).symm.trans hf
                      refine lv_aload_n hx hb dX11_expression_113 rfl (lv_at hl 0 rfl) ?_
                      refine lv_iconst (v := 0) hx hb dX11_expression_114 (by decide) ?_
                      obtain ⟨σ53, hq52, hf⟩ := bind_some hf
                      refine wr_cVv (σ' := σ53) (av := [.int (0 : Int32)]) (rest := []) X hw hl.1 sM0 nM0 rfl (k_X11_comesOut hI hq52) rfl ml_X11_274 im_X11_comesOut se_X11_comesOut ini_X11 co_X11_comesOut hd_X11_comesOut ⟨Nat.le_of_ble_eq_true rfl, Nat.le_of_ble_eq_true rfl⟩ (Nat.le_of_ble_eq_true rfl) dX11_expression_115 rfl (fun H locs hw => ?_)
                      refine lv_aload_n hx hb dX11_expression_118 rfl (lv_at hl 0 rfl) ?_
                      refine lv_dup hx hb dX11_expression_119 rfl ?_
                      refine gX11_39 X hw sM0 nM0 fl_X11_265 dX11_expression_120 ?_
                      refine lv_iconst (v := 1) hx hb dX11_expression_123 (by decide) ?_
                      refine lv_isub hx hb dX11_expression_124 ?_
                      obtain ⟨σ54, eσ54, hf⟩ := wlet_some hf
                      refine pX11_39 X hw sM0 nM0 fl_X11_265 dX11_expression_125 (fun H locs hw => ?_)
                      replace hw := hw.to eσ54
                      refine lv_aload_n hx hb dX11_expression_128 rfl (lv_at hl 0 rfl) ?_
                      refine lv_dup hx hb dX11_expression_129 rfl ?_
                      refine gX11_12 X hw sM0 nM0 fl_X11_209 dX11_expression_130 ?_
                      refine lv_iconst (v := 1) hx hb dX11_expression_133 (by decide) ?_
                      refine lv_isub hx hb dX11_expression_134 ?_
                      obtain ⟨σ55, eσ55, hf⟩ := wlet_some hf
                      refine pX11_12 X hw sM0 nM0 fl_X11_209 dX11_expression_135 (fun H locs hw => ?_)
                      replace hw := hw.to eσ55
                      refine lv_aload_n hx hb dX11_expression_138 rfl (lv_at hl 0 rfl) ?_
                      obtain ⟨σ57, hq56, hf⟩ := bind_some hf
                      refine wr_cVv (σ' := σ57) (av := []) (rest := []) X hw hl.1 sM0 nM0 rfl (k_X11_goesOn hI hq56) rfl ml_X11_203 im_X11_goesOn se_X11_goesOn ini_X11 co_X11_goesOn hd_X11_goesOn ⟨Nat.le_of_ble_eq_true rfl, Nat.le_of_ble_eq_true rfl⟩ (Nat.le_of_ble_eq_true rfl) dX11_expression_139 rfl (fun H locs hw => ?_)
                      refine lv_goto (tgt := 96) hx hb dX11_expression_142 (by decide) ?_
                      exact ih96_10 σ57 (lp_leaf hf hz96_10) ls H locs (lv_sub hl [0, 1] rfl) hw
              exact lo96_10 fuel σ8 hq96_10 ls H locs (lv_sub hl [0, 1] rfl) hw
            · have hf := (if_neg c9).symm.trans hf
              have e12_3 := lpK_inr (lp_leaf hf hz12_3)
              have hf := sumk_r hE12_3 e12_3
              have er := Option.some.inj hf
              subst er
              exact wr_vret X hw hr dX11_expression_95
          have lo23_6 : ∀ (n : Nat) (σ23_6 : St) (_ : lp st23_6 n σ23_6 = some E23_6) (ls : Array Slot) (H : Heap) (locs : List Loc), lv_has ls 3 [(0, .ref (ad 0)), (1, .int v2)] → wH WM ad D cy s σ23_6 H locs → W p l e { frames := 4, cells := 0, slots := 0, locals := 161 } s m [.ref (ad 0)].toArray below meth c H locs 0 0 (MQ below (wQv WM ad D cy res) [.ref (ad 0)].toArray s 0 0 (wA WM ad)) (F0 m 23 ls []) := by
            intro n
            induction n with
            | zero =>
              intro σ23_6 hf ls H locs hl hw
              exact (lp_zero hf).elim
            | succ n ih23_6 =>
              intro σ23_6 hf ls H locs hl hw
              obtain ⟨q23_6, hf, hz23_6⟩ := lp_succ hf
              rw [est23_6] at hf
              refine lv_aload_n hx hb dX11_expression_23 rfl (lv_at hl 0 rfl) ?_
              refine lv_bipush (v := 6) hx hb dX11_expression_24 (by decide) ?_
              obtain ⟨v59, hq58, hf⟩ := bind_some hf
              refine wr_cVi (r := v59) (σ' := σ23_6) (av := [.int (6 : Int32)]) (rest := []) X hw hl.1 sM0 nM0 rfl (k_X11_is hI hq58) rfl ml_X11_200 im_X11_is se_X11_is ini_X11 co_X11_is hd_X11_is ⟨Nat.le_of_ble_eq_true rfl, Nat.le_of_ble_eq_true rfl⟩ (Nat.le_of_ble_eq_true rfl) dX11_expression_26 rfl (fun H locs hw => ?_)
              refine lv_if_eq (tgt := 84) hx hb dX11_expression_29 (by decide) (fun c60 => ?_) (fun c60 => ?_)
              · have hf := (if_pos c60).symm.trans hf
                exact hx23_6 σ23_6 (lpK_inr (lp_leaf hf hz23_6)) ls H locs (lv_sub hl [0, 1] rfl) hw
              · have hf := (if_neg c60).symm.trans hf
                refine lv_aload_n hx hb dX11_expression_32 rfl (lv_at hl 0 rfl) ?_
                refine gX11_12 X hw sM0 nM0 fl_X11_209 dX11_expression_33 ?_
                refine lv_bipush (v := 6) hx hb dX11_expression_36 (by decide) ?_
                obtain ⟨k46_61, ek46_61, hf0⟩ := wlet_some hf
                have j46_61 : ∀ (σ_46_61 : St) (_ : k46_61 σ_46_61 = some q23_6) (ls : Array Slot) (H : Heap) (locs : List Loc), lv_has ls 3 [(0, .ref (ad 0)), (1, .int v2)] → wH WM ad D cy s σ_46_61 H locs → W p l e { frames := 4, cells := 0, slots := 0, locals := 161 } s m [.ref (ad 0)].toArray below meth c H locs 0 0 (MQ below (wQv WM ad D cy res) [.ref (ad 0)].toArray s 0 0 (wA WM ad)) (F0 m 46 ls []) := by
                  intro σ_46_61 hf ls H locs hl hw
                  rw [ek46_61] at hf
                  refine lv_aload_n hx hb dX11_expression_46 rfl (lv_at hl 0 rfl) ?_
                  refine lv_dup hx hb dX11_expression_47 rfl ?_
                  refine gX11_12 X hw sM0 nM0 fl_X11_209 dX11_expression_48 ?_
                  refine lv_iconst (v := 1) hx hb dX11_expression_51 (by decide) ?_
                  refine lv_iadd hx hb dX11_expression_52 ?_
                  obtain ⟨σ62, eσ62, hf⟩ := wlet_some hf
                  refine pX11_12 X hw sM0 nM0 fl_X11_209 dX11_expression_53 (fun H locs hw => ?_)
                  replace hw := hw.to eσ62
                  refine lv_aload_n hx hb dX11_expression_56 rfl (lv_at hl 0 rfl) ?_
                  obtain ⟨σ64, hq63, hf⟩ := bind_some hf
                  refine wr_cVv (σ' := σ64) (av := []) (rest := []) X hw hl.1 sM0 nM0 rfl (k_X11_goesOn hI hq63) rfl ml_X11_203 im_X11_goesOn se_X11_goesOn ini_X11 co_X11_goesOn hd_X11_goesOn ⟨Nat.le_of_ble_eq_true rfl, Nat.le_of_ble_eq_true rfl⟩ (Nat.le_of_ble_eq_true rfl) dX11_expression_57 rfl (fun H locs hw => ?_)
                  refine lv_aload_n hx hb dX11_expression_60 rfl (lv_at hl 0 rfl) ?_
                  refine gX11_38 (b := 23) X hw sM0 nM0 rfl fl_X11_86 dX11_expression_61 ?_
                  refine lv_aload_n hx hb dX11_expression_64 rfl (lv_at hl 0 rfl) ?_
                  refine gX11_39 X hw sM0 nM0 fl_X11_265 dX11_expression_65 ?_
                  refine lv_bipush (v := 6) hx hb dX11_expression_68 (by decide) ?_
                  obtain ⟨h65, hf⟩ := if_some hf
                  obtain ⟨σ66, eσ66, hf⟩ := wlet_some hf
                  refine wr_iast X hw sM23 nM23 h65 dX11_expression_70 (fun H locs hw => ?_)
                  replace hw := hw.to eσ66
                  refine lv_aload_n hx hb dX11_expression_71 rfl (lv_at hl 0 rfl) ?_
                  refine lv_dup hx hb dX11_expression_72 rfl ?_
                  refine gX11_39 X hw sM0 nM0 fl_X11_265 dX11_expression_73 ?_
                  refine lv_iconst (v := 1) hx hb dX11_expression_76 (by decide) ?_
                  refine lv_iadd hx hb dX11_expression_77 ?_
                  obtain ⟨σ67, eσ67, hf⟩ := wlet_some hf
                  refine pX11_39 X hw sM0 nM0 fl_X11_265 dX11_expression_78 (fun H locs hw => ?_)
                  replace hw := hw.to eσ67
                  refine lv_goto (tgt := 23) hx hb dX11_expression_81 (by decide) ?_
                  exact ih23_6 σ67 (lp_leaf hf hz23_6) ls H locs (lv_sub hl [0, 1] rfl) hw
                replace hf := hf0
                refine lv_icmp_ne (tgt := 46) hx hb dX11_expression_38 (by decide) (fun c68 => ?_) (fun c68 => ?_)
                · have hf := (if_neg c68).symm.trans hf
                  exact j46_61 σ23_6 hf ls H locs (lv_sub hl [0, 1] rfl) hw
                · have hf := (if_pos c68).symm.trans hf
                  refine lv_aload_n hx hb dX11_expression_41 rfl (lv_at hl 0 rfl) ?_
                  refine lv_iconst (v := 2) hx hb dX11_expression_42 (by decide) ?_
                  obtain ⟨σ70, hq69, hf⟩ := bind_some hf
                  refine wr_cVv (σ' := σ70) (av := [.int (2 : Int32)]) (rest := []) X hw hl.1 sM0 nM0 rfl (k_X11_fail hI hq69) rfl ml_X11_197 im_X11_fail se_X11_fail ini_X11 co_X11_fail hd_X11_fail ⟨Nat.le_of_ble_eq_true rfl, Nat.le_of_ble_eq_true rfl⟩ (Nat.le_of_ble_eq_true rfl) dX11_expression_43 rfl (fun H locs hw => ?_)
                  exact j46_61 σ70 hf ls H locs (lv_sub hl [0, 1] rfl) hw
          exact lo23_6 fuel σ12_3 hq23_6 ls H locs (lv_sub hl [0, 1] rfl) hw
  exact lo12_3 fuel σ1 (1 : Int32) hq12_3 ls H locs (lv_sub hl [2, 1, 0] rfl) hw

def f_X11_lays (σ : St) (x1 : Int32) : Option (St) := wlet (un2 (fun (σ3_1 : St) (x2_3_1 : Int32) => if x2_3_1 < 0 then (some (.inr σ3_1)) else (if ib (σ3_1.1 0 2) 2000 = true then wlet (si σ3_1 1 (Int32.toNatClampNeg (σ3_1.1 0 2)) (vp_nar .byte (i2b (x1 >>> (x2_3_1 &&& 31))))) fun σ4 => wlet (si σ4 0 2 ((σ4.1 0 2) + (1 : Int32))) fun σ5 => wlet (x2_3_1 + (-8 : Int32)) fun v6 => some (.inl (σ5, v6)) else none)) : St × Int32 → Option ((St × Int32) ⊕ (St))) fun st3_1 => Option.bind (lp st3_1 fuel (σ, (24 : Int32))) ((fun (σe3_1 : St) => some σe3_1))
theorem hd_X11_lays : yX11_lays.cls = RX11 ∧ yX11_lays.cls ≠ "java/lang/invoke/MethodHandle" ∧ yX11_lays.cls ≠ "java/lang/invoke/VarHandle" ∧ (parseMethodDescriptor yX11_lays.desc).map (fun d => d.parameters.length) = some 1 := by decide +kernel
set_option maxRecDepth 100000 in
set_option maxHeartbeats 4000000 in
theorem k_X11_lays {l : Launch} {ad : Nat → Nat} {D : va_G} {cy : Nat → ClassId} {z : wStr} (hI : wI WM ad) {σ : St} {x1 : Int32}  {res : St} (hf : f_X11_lays σ x1 = some res) : wC WM ad D cy z l yX11_lays (Cond.code yX11_lays cX11_lays 3 (none) :: aw) (1) (100) [.ref (ad 0), .int x1] σ (wQv WM ad D cy res) := by
  unfold f_X11_lays at hf
  refine wr_start (own := RX11) hI (by decide +kernel) rfl (Nat.le_of_ble_eq_true rfl) rfl ?_
  intro p e s m below meth c ls X hw hr hl
  have hx := X.hx
  have hb := X.hb
  obtain ⟨H, eH⟩ : ∃ H : Heap, H = s.heap := ⟨_, rfl⟩
  obtain ⟨locs, el⟩ : ∃ locs : List Loc, locs = [] := ⟨_, rfl⟩
  rw [← eH, ← el] at hw ⊢
  clear eH el
  replace hl : lv_has ls 3 [(0, .ref (ad 0)), (1, .int x1)] := hl
  refine lv_bipush (v := 24) hx hb dX11_lays_0 (by decide) ?_
  refine lv_istore_n (lv' := [(2, .int (24 : Int32)), (0, .ref (ad 0)), (1, .int x1)]) hx hb dX11_lays_2 rfl hl (by decide) rfl (fun ls hl => ?_)
  obtain ⟨st3_1, est3_1, hf⟩ := wlet_some hf
  obtain ⟨E3_1, hq3_1, hE3_1⟩ := bind_some hf
  have hx3_1 : ∀ (σe3_1 : St) (_ : σe3_1 = E3_1) (ls : Array Slot) (H : Heap) (locs : List Loc), lv_has ls 3 [] → wH WM ad D cy s σe3_1 H locs → W p l e { frames := 1, cells := 0, slots := 0, locals := 100 } s m [.ref (ad 0), .int x1].toArray below meth c H locs 0 0 (MQ below (wQv WM ad D cy res) [.ref (ad 0), .int x1].toArray s 0 0 (wA WM ad)) (F0 m 36 ls []) := by
    intro σe3_1 e0 ls H locs hl hw
    subst e0
    have hf := hE3_1
    have er := Option.some.inj hf
    subst er
    exact wr_vret X hw hr dX11_lays_36
  have lo3_1 : ∀ (n : Nat) (σ3_1 : St) (x2_3_1 : Int32) (_ : lp st3_1 n (σ3_1, x2_3_1) = some E3_1) (ls : Array Slot) (H : Heap) (locs : List Loc), lv_has ls 3 [(0, .ref (ad 0)), (1, .int x1), (2, .int x2_3_1)] → wH WM ad D cy s σ3_1 H locs → W p l e { frames := 1, cells := 0, slots := 0, locals := 100 } s m [.ref (ad 0), .int x1].toArray below meth c H locs 0 0 (MQ below (wQv WM ad D cy res) [.ref (ad 0), .int x1].toArray s 0 0 (wA WM ad)) (F0 m 3 ls []) := by
    intro n
    induction n with
    | zero =>
      intro σ3_1 x2_3_1 hf ls H locs hl hw
      exact (lp_zero hf).elim
    | succ n ih3_1 =>
      intro σ3_1 x2_3_1 hf ls H locs hl hw
      obtain ⟨q3_1, hf, hz3_1⟩ := lp_succ hf
      rw [est3_1] at hf
      replace hf := un2_some hf
      refine lv_iload_n hx hb dX11_lays_3 rfl (lv_at hl 2 rfl) ?_
      refine lv_if_lt (tgt := 36) hx hb dX11_lays_4 (by decide) (fun c2 => ?_) (fun c2 => ?_)
      · have hf := (if_pos c2).symm.trans hf
        exact hx3_1 σ3_1 (lpK_inr (lp_leaf hf hz3_1)) ls H locs (lv_sub hl [] rfl) hw
      · have hf := (if_neg c2).symm.trans hf
        refine lv_aload_n hx hb dX11_lays_7 rfl (lv_at hl 0 rfl) ?_
        refine gX11_1 (b := 1) X hw sM0 nM0 rfl fl_X11_13 dX11_lays_8 ?_
        refine lv_aload_n hx hb dX11_lays_11 rfl (lv_at hl 0 rfl) ?_
        refine gX11_2 X hw sM0 nM0 fl_X11_149 dX11_lays_12 ?_
        refine lv_iload_n hx hb dX11_lays_15 rfl (lv_at hl 1 rfl) ?_
        refine lv_iload_n hx hb dX11_lays_16 rfl (lv_at hl 2 rfl) ?_
        refine lv_ishr hx hb dX11_lays_17 ?_
        refine lv_i2b hx hb dX11_lays_18 rfl ?_
        obtain ⟨h3, hf⟩ := if_some hf
        obtain ⟨σ4, eσ4, hf⟩ := wlet_some hf
        refine wr_bast X hw sM1 nM1 h3 dX11_lays_19 (fun H locs hw => ?_)
        replace hw := hw.to eσ4
        refine lv_aload_n hx hb dX11_lays_20 rfl (lv_at hl 0 rfl) ?_
        refine lv_dup hx hb dX11_lays_21 rfl ?_
        refine gX11_2 X hw sM0 nM0 fl_X11_149 dX11_lays_22 ?_
        refine lv_iconst (v := 1) hx hb dX11_lays_25 (by decide) ?_
        refine lv_iadd hx hb dX11_lays_26 ?_
        obtain ⟨σ5, eσ5, hf⟩ := wlet_some hf
        refine pX11_2 X hw sM0 nM0 fl_X11_149 dX11_lays_27 (fun H locs hw => ?_)
        replace hw := hw.to eσ5
        obtain ⟨v6, ev6, hf⟩ := wlet_some hf
        refine lv_iinc (v := v6) (lv' := [(2, .int v6), (0, .ref (ad 0)), (1, .int x1)]) hx hb dX11_lays_30 hl (k := 2) rfl (by rw [ev6]; rfl) (by decide) rfl (fun ls hl => ?_)
        refine lv_goto (tgt := 3) hx hb dX11_lays_33 (by decide) ?_
        exact ih3_1 σ5 v6 (lp_leaf hf hz3_1) ls H locs (lv_sub hl [1, 2, 0] rfl) hw
  exact lo3_1 fuel σ (24 : Int32) hq3_1 ls H locs (lv_sub hl [1, 2, 0] rfl) hw

def f_X11_feed (σ : St) (x1 : Int32) (x2 : Int32) (x3 : Int32) (x4 : Int32) (x5 : Int32) : Option (Int32 × St) := if ((σ.1 0 2) + (20 : Int32)) ≤ (2000 : Int32) then (Option.bind (f_X11_lays σ x1) fun σ3 => Option.bind (f_X11_lays σ3 x2) fun σ5 => Option.bind (f_X11_lays σ5 x3) fun σ7 => Option.bind (f_X11_lays σ7 x4) fun σ9 => Option.bind (f_X11_lays σ9 x5) fun σ11 => some ((σ11.1 0 2), σ11)) else (some ((-1 : Int32), σ))
theorem hd_X11_feed : yX11_feed.cls = RX11 ∧ yX11_feed.cls ≠ "java/lang/invoke/MethodHandle" ∧ yX11_feed.cls ≠ "java/lang/invoke/VarHandle" ∧ (parseMethodDescriptor yX11_feed.desc).map (fun d => d.parameters.length) = some 5 := by decide +kernel
set_option maxRecDepth 100000 in
set_option maxHeartbeats 4000000 in
theorem k_X11_feed {l : Launch} {ad : Nat → Nat} {D : va_G} {cy : Nat → ClassId} {z : wStr} (hI : wI WM ad) {σ : St} {x1 : Int32} {x2 : Int32} {x3 : Int32} {x4 : Int32} {x5 : Int32}  {res : Int32 × St} (hf : f_X11_feed σ x1 x2 x3 x4 x5 = some res) : wC WM ad D cy z l yX11_feed (Cond.code yX11_feed cX11_feed 6 (Option.some Jvm.ClassFile.FieldType.int) :: aw) (2) (122) [.ref (ad 0), .int x1, .int x2, .int x3, .int x4, .int x5] σ (wQi WM ad D cy res.1 res.2) := by
  unfold f_X11_feed at hf
  refine wr_start (own := RX11) hI (by decide +kernel) rfl (Nat.le_of_ble_eq_true rfl) rfl ?_
  intro p e s m below meth c ls X hw hr hl
  have hx := X.hx
  have hb := X.hb
  obtain ⟨H, eH⟩ : ∃ H : Heap, H = s.heap := ⟨_, rfl⟩
  obtain ⟨locs, el⟩ : ∃ locs : List Loc, locs = [] := ⟨_, rfl⟩
  rw [← eH, ← el] at hw ⊢
  clear eH el
  replace hl : lv_has ls 6 [(0, .ref (ad 0)), (1, .int x1), (2, .int x2), (3, .int x3), (4, .int x4), (5, .int x5)] := hl
  refine lv_aload_n hx hb dX11_feed_0 rfl (lv_at hl 0 rfl) ?_
  refine gX11_2 X hw sM0 nM0 fl_X11_149 dX11_feed_1 ?_
  refine lv_bipush (v := 20) hx hb dX11_feed_4 (by decide) ?_
  refine lv_iadd hx hb dX11_feed_6 ?_
  refine lv_sipush (v := 2000) hx hb dX11_feed_7 (by decide) ?_
  refine lv_icmp_le (tgt := 15) hx hb dX11_feed_10 (by decide) (fun c1 => ?_) (fun c1 => ?_)
  · have hf := (if_pos c1).symm.trans hf
    refine lv_aload_n hx hb dX11_feed_15 rfl (lv_at hl 0 rfl) ?_
    refine lv_iload_n hx hb dX11_feed_16 rfl (lv_at hl 1 rfl) ?_
    obtain ⟨σ3, hq2, hf⟩ := bind_some hf
    refine wr_cVv (σ' := σ3) (av := [.int x1]) (rest := []) X hw hl.1 sM0 nM0 rfl (k_X11_lays hI hq2) rfl ml_X11_152 im_X11_lays se_X11_lays ini_X11 co_X11_lays hd_X11_lays ⟨Nat.le_of_ble_eq_true rfl, Nat.le_of_ble_eq_true rfl⟩ (Nat.le_of_ble_eq_true rfl) dX11_feed_17 rfl (fun H locs hw => ?_)
    refine lv_aload_n hx hb dX11_feed_20 rfl (lv_at hl 0 rfl) ?_
    refine lv_iload_n hx hb dX11_feed_21 rfl (lv_at hl 2 rfl) ?_
    obtain ⟨σ5, hq4, hf⟩ := bind_some hf
    refine wr_cVv (σ' := σ5) (av := [.int x2]) (rest := []) X hw hl.1 sM0 nM0 rfl (k_X11_lays hI hq4) rfl ml_X11_152 im_X11_lays se_X11_lays ini_X11 co_X11_lays hd_X11_lays ⟨Nat.le_of_ble_eq_true rfl, Nat.le_of_ble_eq_true rfl⟩ (Nat.le_of_ble_eq_true rfl) dX11_feed_22 rfl (fun H locs hw => ?_)
    refine lv_aload_n hx hb dX11_feed_25 rfl (lv_at hl 0 rfl) ?_
    refine lv_iload_n hx hb dX11_feed_26 rfl (lv_at hl 3 rfl) ?_
    obtain ⟨σ7, hq6, hf⟩ := bind_some hf
    refine wr_cVv (σ' := σ7) (av := [.int x3]) (rest := []) X hw hl.1 sM0 nM0 rfl (k_X11_lays hI hq6) rfl ml_X11_152 im_X11_lays se_X11_lays ini_X11 co_X11_lays hd_X11_lays ⟨Nat.le_of_ble_eq_true rfl, Nat.le_of_ble_eq_true rfl⟩ (Nat.le_of_ble_eq_true rfl) dX11_feed_27 rfl (fun H locs hw => ?_)
    refine lv_aload_n hx hb dX11_feed_30 rfl (lv_at hl 0 rfl) ?_
    refine lv_iload hx hb dX11_feed_31 (lv_at hl 4 rfl) ?_
    obtain ⟨σ9, hq8, hf⟩ := bind_some hf
    refine wr_cVv (σ' := σ9) (av := [.int x4]) (rest := []) X hw hl.1 sM0 nM0 rfl (k_X11_lays hI hq8) rfl ml_X11_152 im_X11_lays se_X11_lays ini_X11 co_X11_lays hd_X11_lays ⟨Nat.le_of_ble_eq_true rfl, Nat.le_of_ble_eq_true rfl⟩ (Nat.le_of_ble_eq_true rfl) dX11_feed_33 rfl (fun H locs hw => ?_)
    refine lv_aload_n hx hb dX11_feed_36 rfl (lv_at hl 0 rfl) ?_
    refine lv_iload hx hb dX11_feed_37 (lv_at hl 5 rfl) ?_
    obtain ⟨σ11, hq10, hf⟩ := bind_some hf
    refine wr_cVv (σ' := σ11) (av := [.int x5]) (rest := []) X hw hl.1 sM0 nM0 rfl (k_X11_lays hI hq10) rfl ml_X11_152 im_X11_lays se_X11_lays ini_X11 co_X11_lays hd_X11_lays ⟨Nat.le_of_ble_eq_true rfl, Nat.le_of_ble_eq_true rfl⟩ (Nat.le_of_ble_eq_true rfl) dX11_feed_39 rfl (fun H locs hw => ?_)
    refine lv_aload_n hx hb dX11_feed_42 rfl (lv_at hl 0 rfl) ?_
    refine gX11_2 X hw sM0 nM0 fl_X11_149 dX11_feed_43 ?_
    have er := Option.some.inj hf
    subst er
    exact wr_iret X hw hr (Or.inl rfl) dX11_feed_46
  · have hf := (if_neg c1).symm.trans hf
    refine lv_iconst (v := -1) hx hb dX11_feed_13 (by decide) ?_
    have er := Option.some.inj hf
    subst er
    exact wr_iret X hw hr (Or.inl rfl) dX11_feed_14

def f_X11_numberNow (σ : St)  : Option (Int32) := wlet (un2 (fun (x1_4_1 : Int32) (x2_4_1 : Int32) => if ib (7 : Int32) 26 = true then if (σ.1 27 (Int32.toNatClampNeg (7 : Int32))) ≤ x2_4_1 then (some (.inr x1_4_1)) else (if ib x2_4_1 26 = true then wlet (((8 : Int32) * x1_4_1) + (σ.1 27 (Int32.toNatClampNeg x2_4_1))) fun v5 => wlet (x2_4_1 + (1 : Int32)) fun v6 => some (.inl (v5, v6)) else none) else none) : Int32 × Int32 → Option ((Int32 × Int32) ⊕ (Int32))) fun st4_1 => Option.bind (lp st4_1 fuel ((0 : Int32), (0 : Int32))) ((fun (x1_e4_1 : Int32) => some x1_e4_1))
theorem hd_X11_numberNow : yX11_numberNow.cls = RX11 ∧ yX11_numberNow.cls ≠ "java/lang/invoke/MethodHandle" ∧ yX11_numberNow.cls ≠ "java/lang/invoke/VarHandle" ∧ (parseMethodDescriptor yX11_numberNow.desc).map (fun d => d.parameters.length) = some 0 := by decide +kernel
set_option maxRecDepth 100000 in
set_option maxHeartbeats 4000000 in
theorem k_X11_numberNow {l : Launch} {ad : Nat → Nat} {D : va_G} {cy : Nat → ClassId} {z : wStr} (hI : wI WM ad) {σ : St}   {res : Int32} (hf : f_X11_numberNow σ  = some res) : wC WM ad D cy z l yX11_numberNow (Cond.code yX11_numberNow cX11_numberNow 3 (Option.some Jvm.ClassFile.FieldType.int) :: aw) (1) (100) [.ref (ad 0)] σ (wQi WM ad D cy res σ) := by
  unfold f_X11_numberNow at hf
  refine wr_start (own := RX11) hI (by decide +kernel) rfl (Nat.le_of_ble_eq_true rfl) rfl ?_
  intro p e s m below meth c ls X hw hr hl
  have hx := X.hx
  have hb := X.hb
  obtain ⟨H, eH⟩ : ∃ H : Heap, H = s.heap := ⟨_, rfl⟩
  obtain ⟨locs, el⟩ : ∃ locs : List Loc, locs = [] := ⟨_, rfl⟩
  rw [← eH, ← el] at hw ⊢
  clear eH el
  replace hl : lv_has ls 3 [(0, .ref (ad 0))] := hl
  refine lv_iconst (v := 0) hx hb dX11_numberNow_0 (by decide) ?_
  refine lv_istore_n (lv' := [(1, .int (0 : Int32)), (0, .ref (ad 0))]) hx hb dX11_numberNow_1 rfl hl (by decide) rfl (fun ls hl => ?_)
  refine lv_iconst (v := 0) hx hb dX11_numberNow_2 (by decide) ?_
  refine lv_istore_n (lv' := [(2, .int (0 : Int32)), (1, .int (0 : Int32)), (0, .ref (ad 0))]) hx hb dX11_numberNow_3 rfl hl (by decide) rfl (fun ls hl => ?_)
  obtain ⟨st4_1, est4_1, hf⟩ := wlet_some hf
  obtain ⟨E4_1, hq4_1, hE4_1⟩ := bind_some hf
  have hx4_1 : ∀ (x1_e4_1 : Int32) (_ : x1_e4_1 = E4_1) (ls : Array Slot) (H : Heap) (locs : List Loc), lv_has ls 3 [(1, .int x1_e4_1)] → wH WM ad D cy s σ H locs → W p l e { frames := 1, cells := 0, slots := 0, locals := 100 } s m [.ref (ad 0)].toArray below meth c H locs 0 0 (MQ below (wQi WM ad D cy res σ) [.ref (ad 0)].toArray s 0 0 (wA WM ad)) (F0 m 33 ls []) := by
    intro x1_e4_1 e0 ls H locs hl hw
    subst e0
    have hf := hE4_1
    refine lv_iload_n hx hb dX11_numberNow_33 rfl (lv_at hl 0 rfl) ?_
    have er := Option.some.inj hf
    subst er
    exact wr_iret X hw hr (Or.inl rfl) dX11_numberNow_34
  have lo4_1 : ∀ (n : Nat) (x1_4_1 : Int32) (x2_4_1 : Int32) (_ : lp st4_1 n (x1_4_1, x2_4_1) = some E4_1) (ls : Array Slot) (H : Heap) (locs : List Loc), lv_has ls 3 [(0, .ref (ad 0)), (1, .int x1_4_1), (2, .int x2_4_1)] → wH WM ad D cy s σ H locs → W p l e { frames := 1, cells := 0, slots := 0, locals := 100 } s m [.ref (ad 0)].toArray below meth c H locs 0 0 (MQ below (wQi WM ad D cy res σ) [.ref (ad 0)].toArray s 0 0 (wA WM ad)) (F0 m 4 ls []) := by
    intro n
    induction n with
    | zero =>
      intro x1_4_1 x2_4_1 hf ls H locs hl hw
      exact (lp_zero hf).elim
    | succ n ih4_1 =>
      intro x1_4_1 x2_4_1 hf ls H locs hl hw
      obtain ⟨q4_1, hf, hz4_1⟩ := lp_succ hf
      rw [est4_1] at hf
      replace hf := un2_some hf
      refine lv_iload_n hx hb dX11_numberNow_4 rfl (lv_at hl 2 rfl) ?_
      refine lv_aload_n hx hb dX11_numberNow_5 rfl (lv_at hl 0 rfl) ?_
      refine gX11_44 (b := 27) X hw sM0 nM0 rfl fl_X11_98 dX11_numberNow_6 ?_
      refine lv_bipush (v := 7) hx hb dX11_numberNow_9 (by decide) ?_
      obtain ⟨h2, hf⟩ := if_some hf
      refine wr_iald X hw sM27 nM27 h2 dX11_numberNow_11 ?_
      refine lv_icmp_ge (tgt := 33) hx hb dX11_numberNow_12 (by decide) (fun c3 => ?_) (fun c3 => ?_)
      · have hf := (if_pos c3).symm.trans hf
        exact hx4_1 x1_4_1 (lpK_inr (lp_leaf hf hz4_1)) ls H locs (lv_sub hl [1] rfl) hw
      · have hf := (if_neg c3).symm.trans hf
        refine lv_bipush (v := 8) hx hb dX11_numberNow_15 (by decide) ?_
        refine lv_iload_n hx hb dX11_numberNow_17 rfl (lv_at hl 1 rfl) ?_
        refine lv_imul hx hb dX11_numberNow_18 ?_
        refine lv_aload_n hx hb dX11_numberNow_19 rfl (lv_at hl 0 rfl) ?_
        refine gX11_44 (b := 27) X hw sM0 nM0 rfl fl_X11_98 dX11_numberNow_20 ?_
        refine lv_iload_n hx hb dX11_numberNow_23 rfl (lv_at hl 2 rfl) ?_
        obtain ⟨h4, hf⟩ := if_some hf
        refine wr_iald X hw sM27 nM27 h4 dX11_numberNow_24 ?_
        refine lv_iadd hx hb dX11_numberNow_25 ?_
        obtain ⟨v5, ev5, hf⟩ := wlet_some hf
        refine wr_top ev5 ?_
        refine lv_istore_n (lv' := [(1, .int v5), (0, .ref (ad 0)), (2, .int x2_4_1)]) hx hb dX11_numberNow_26 rfl hl (by decide) rfl (fun ls hl => ?_)
        obtain ⟨v6, ev6, hf⟩ := wlet_some hf
        refine lv_iinc (v := v6) (lv' := [(2, .int v6), (1, .int v5), (0, .ref (ad 0))]) hx hb dX11_numberNow_27 hl (k := 2) rfl (by rw [ev6]; rfl) (by decide) rfl (fun ls hl => ?_)
        refine lv_goto (tgt := 4) hx hb dX11_numberNow_30 (by decide) ?_
        exact ih4_1 v5 v6 (lp_leaf hf hz4_1) ls H locs (lv_sub hl [2, 1, 0] rfl) hw
  exact lo4_1 fuel (0 : Int32) (0 : Int32) hq4_1 ls H locs (lv_sub hl [2, 1, 0] rfl) hw

def f_X11_fits (σ : St) (x1 : Int32) (x2 : Int32) : Option (Int32 × St) := Option.bind (f_X11_in x1 (0 : Int32) (σ.1 0 51)) fun v2 => if v2 = 0 then (some ((-1 : Int32), σ)) else (Option.bind (f_X11_in x2 (0 : Int32) (1 : Int32)) fun v5 => if v5 = 0 then (some ((-1 : Int32), σ)) else (Option.bind (f_X11_copies σ) fun σ8 => Option.bind (f_X11_firstOrder σ8) fun σ10 => wlet (un4 (fun (σ40_11 : St) (x3_40_11 : Int32) (x4_40_11 : Int32) (x5_40_11 : Int32) => if x5_40_11 = 0 then (some (.inr (σ40_11, x3_40_11, x4_40_11))) else (bnd2 (f_X11_doesFit σ40_11 x1) fun v15 σ16 => wlet (fun (x3_67_17 : Int32) (x4_67_17 : Int32) => (bnd2 (f_X11_nextOrder σ16) fun v19 σ20 => some (.inl (σ20, x3_67_17, x4_67_17, v19)) : Option ((St × Int32 × Int32 × Int32) ⊕ (St × Int32 × Int32)))) fun k67_17 => if v15 = 0 then (k67_17 x3_40_11 x4_40_11) else (wlet (x3_40_11 + (1 : Int32)) fun v22 => if 0 ≤ x4_40_11 then (k67_17 v22 x4_40_11) else (Option.bind (f_X11_numberNow σ16) fun v25 => k67_17 v22 v25)))) : St × Int32 × Int32 × Int32 → Option ((St × Int32 × Int32 × Int32) ⊕ (St × Int32 × Int32))) fun st40_11 => Option.bind (lp st40_11 fuel (σ10, (0 : Int32), (-2 : Int32), (1 : Int32))) ((un3 (fun (σe40_11 : St) (x3_e40_11 : Int32) (x4_e40_11 : Int32) => if x2 = 0 then (some (x3_e40_11, σe40_11)) else (some (x4_e40_11, σe40_11)))))))
theorem hd_X11_fits : yX11_fits.cls = RX11 ∧ yX11_fits.cls ≠ "java/lang/invoke/MethodHandle" ∧ yX11_fits.cls ≠ "java/lang/invoke/VarHandle" ∧ (parseMethodDescriptor yX11_fits.desc).map (fun d => d.parameters.length) = some 2 := by decide +kernel
set_option maxRecDepth 100000 in
set_option maxHeartbeats 4000000 in
theorem k_X11_fits {l : Launch} {ad : Nat → Nat} {D : va_G} {cy : Nat → ClassId} {z : wStr} (hI : wI WM ad) {σ : St} {x1 : Int32} {x2 : Int32}  {res : Int32 × St} (hf : f_X11_fits σ x1 x2 = some res) : wC WM ad D cy z l yX11_fits (Cond.code yX11_fits cX11_fits 6 (Option.some Jvm.ClassFile.FieldType.int) :: aw) (6) (223) [.ref (ad 0), .int x1, .int x2] σ (wQi WM ad D cy res.1 res.2) := by
  unfold f_X11_fits at hf
  refine wr_start (own := RX11) hI (by decide +kernel) rfl (Nat.le_of_ble_eq_true rfl) rfl ?_
  intro p e s m below meth c ls X hw hr hl
  have hx := X.hx
  have hb := X.hb
  obtain ⟨H, eH⟩ : ∃ H : Heap, H = s.heap := ⟨_, rfl⟩
  obtain ⟨locs, el⟩ : ∃ locs : List Loc, locs = [] := ⟨_, rfl⟩
  rw [← eH, ← el] at hw ⊢
  clear eH el
  replace hl : lv_has ls 6 [(0, .ref (ad 0)), (1, .int x1), (2, .int x2)] := hl
  refine lv_iload_n hx hb dX11_fits_0 rfl (lv_at hl 1 rfl) ?_
  refine lv_iconst (v := 0) hx hb dX11_fits_1 (by decide) ?_
  refine lv_aload_n hx hb dX11_fits_2 rfl (lv_at hl 0 rfl) ?_
  refine gX11_51 X hw sM0 nM0 fl_X11_233 dX11_fits_3 ?_
  obtain ⟨v2, hq1, hf⟩ := bind_some hf
  refine wr_cSi (r := v2) (σ' := σ) (av := [.int x1, .int (0 : Int32), .int (σ.1 0 51)]) (rest := []) X hw hl.1 (k_X11_in hI hq1) rfl ml_X11_282 st_X11_in ini_X11 co_X11_in hd_X11_in ⟨Nat.le_of_ble_eq_true rfl, Nat.le_of_ble_eq_true rfl⟩ (Nat.le_of_ble_eq_true rfl) dX11_fits_6 rfl (fun H locs hw => ?_)
  refine lv_if_eq (tgt := 21) hx hb dX11_fits_9 (by decide) (fun c3 => ?_) (fun c3 => ?_)
  · have hf := (if_pos c3).symm.trans hf
    refine lv_iconst (v := -1) hx hb dX11_fits_21 (by decide) ?_
    have er := Option.some.inj hf
    subst er
    exact wr_iret X hw hr (Or.inl rfl) dX11_fits_22
  · have hf := (if_neg c3).symm.trans hf
    refine lv_iload_n hx hb dX11_fits_12 rfl (lv_at hl 2 rfl) ?_
    refine lv_iconst (v := 0) hx hb dX11_fits_13 (by decide) ?_
    refine lv_iconst (v := 1) hx hb dX11_fits_14 (by decide) ?_
    obtain ⟨v5, hq4, hf⟩ := bind_some hf
    refine wr_cSi (r := v5) (σ' := σ) (av := [.int x2, .int (0 : Int32), .int (1 : Int32)]) (rest := []) X hw hl.1 (k_X11_in hI hq4) rfl ml_X11_282 st_X11_in ini_X11 co_X11_in hd_X11_in ⟨Nat.le_of_ble_eq_true rfl, Nat.le_of_ble_eq_true rfl⟩ (Nat.le_of_ble_eq_true rfl) dX11_fits_15 rfl (fun H locs hw => ?_)
    refine lv_if_ne (tgt := 23) hx hb dX11_fits_18 (by decide) (fun c6 => ?_) (fun c6 => ?_)
    · have hf := (if_neg c6).symm.trans hf
      refine lv_aload_n hx hb dX11_fits_23 rfl (lv_at hl 0 rfl) ?_
      obtain ⟨σ8, hq7, hf⟩ := bind_some hf
      refine wr_cVv (σ' := σ8) (av := []) (rest := []) X hw hl.1 sM0 nM0 rfl (k_X11_copies hI hq7) rfl ml_X11_345 im_X11_copies se_X11_copies ini_X11 co_X11_copies hd_X11_copies ⟨Nat.le_of_ble_eq_true rfl, Nat.le_of_ble_eq_true rfl⟩ (Nat.le_of_ble_eq_true rfl) dX11_fits_24 rfl (fun H locs hw => ?_)
      refine lv_aload_n hx hb dX11_fits_27 rfl (lv_at hl 0 rfl) ?_
      obtain ⟨σ10, hq9, hf⟩ := bind_some hf
      refine wr_cVv (σ' := σ10) (av := []) (rest := []) X hw hl.1 sM0 nM0 rfl (k_X11_firstOrder hI hq9) rfl ml_X11_384 im_X11_firstOrder se_X11_firstOrder ini_X11 co_X11_firstOrder hd_X11_firstOrder ⟨Nat.le_of_ble_eq_true rfl, Nat.le_of_ble_eq_true rfl⟩ (Nat.le_of_ble_eq_true rfl) dX11_fits_28 rfl (fun H locs hw => ?_)
      refine lv_iconst (v := 0) hx hb dX11_fits_31 (by decide) ?_
      refine lv_istore_n (lv' := [(3, .int (0 : Int32)), (0, .ref (ad 0)), (1, .int x1), (2, .int x2)]) hx hb dX11_fits_32 rfl hl (by decide) rfl (fun ls hl => ?_)
      refine lv_bipush (v := -2) hx hb dX11_fits_33 (by decide) ?_
      refine lv_istore (lv' := [(4, .int (-2 : Int32)), (3, .int (0 : Int32)), (0, .ref (ad 0)), (1, .int x1), (2, .int x2)]) hx hb dX11_fits_35 hl (by decide) rfl (fun ls hl => ?_)
      refine lv_iconst (v := 1) hx hb dX11_fits_37 (by decide) ?_
      refine lv_istore (lv' := [(5, .int (1 : Int32)), (4, .int (-2 : Int32)), (3, .int (0 : Int32)), (0, .ref (ad 0)), (1, .int x1), (2, .int x2)]) hx hb dX11_fits_38 hl (by decide) rfl (fun ls hl => ?_)
      obtain ⟨st40_11, est40_11, hf⟩ := wlet_some hf
      obtain ⟨E40_11, hq40_11, hE40_11⟩ := bind_some hf
      have hx40_11 : ∀ (σe40_11 : St) (x3_e40_11 : Int32) (x4_e40_11 : Int32) (_ : (σe40_11, x3_e40_11, x4_e40_11) = E40_11) (ls : Array Slot) (H : Heap) (locs : List Loc), lv_has ls 6 [(2, .int x2), (3, .int x3_e40_11), (4, .int x4_e40_11)] → wH WM ad D cy s σe40_11 H locs → W p l e { frames := 6, cells := 0, slots := 0, locals := 223 } s m [.ref (ad 0), .int x1, .int x2].toArray below meth c H locs 0 0 (MQ below (wQi WM ad D cy res.1 res.2) [.ref (ad 0), .int x1, .int x2].toArray s 0 0 (wA WM ad)) (F0 m 76 ls []) := by
        intro σe40_11 x3_e40_11 x4_e40_11 e0 ls H locs hl hw
        subst e0
        have hf := hE40_11
        replace hf := un3_some hf
        refine lv_iload_n hx hb dX11_fits_76 rfl (lv_at hl 0 rfl) ?_
        refine lv_if_ne (tgt := 84) hx hb dX11_fits_77 (by decide) (fun c12 => ?_) (fun c12 => ?_)
        · have hf := (if_neg c12).symm.trans hf
          refine lv_iload hx hb dX11_fits_84 (lv_at hl 2 rfl) ?_
          have er := Option.some.inj hf
          subst er
          exact wr_iret X hw hr (Or.inl rfl) dX11_fits_86
        · have hf := (if_pos c12).symm.trans hf
          refine lv_iload_n hx hb dX11_fits_80 rfl (lv_at hl 1 rfl) ?_
          refine lv_goto (tgt := 86) hx hb dX11_fits_81 (by decide) ?_
          have er := Option.some.inj hf
          subst er
          exact wr_iret X hw hr (Or.inl rfl) dX11_fits_86
      have lo40_11 : ∀ (n : Nat) (σ40_11 : St) (x3_40_11 : Int32) (x4_40_11 : Int32) (x5_40_11 : Int32) (_ : lp st40_11 n (σ40_11, x3_40_11, x4_40_11, x5_40_11) = some E40_11) (ls : Array Slot) (H : Heap) (locs : List Loc), lv_has ls 6 [(0, .ref (ad 0)), (1, .int x1), (2, .int x2), (3, .int x3_40_11), (4, .int x4_40_11), (5, .int x5_40_11)] → wH WM ad D cy s σ40_11 H locs → W p l e { frames := 6, cells := 0, slots := 0, locals := 223 } s m [.ref (ad 0), .int x1, .int x2].toArray below meth c H locs 0 0 (MQ below (wQi WM ad D cy res.1 res.2) [.ref (ad 0), .int x1, .int x2].toArray s 0 0 (wA WM ad)) (F0 m 40 ls []) := by
        intro n
        induction n with
        | zero =>
          intro σ40_11 x3_40_11 x4_40_11 x5_40_11 hf ls H locs hl hw
          exact (lp_zero hf).elim
        | succ n ih40_11 =>
          intro σ40_11 x3_40_11 x4_40_11 x5_40_11 hf ls H locs hl hw
          obtain ⟨q40_11, hf, hz40_11⟩ := lp_succ hf
          rw [est40_11] at hf
          replace hf := un4_some hf
          refine lv_iload hx hb dX11_fits_40 (lv_at hl 5 rfl) ?_
          refine lv_if_eq (tgt := 76) hx hb dX11_fits_42 (by decide) (fun c13 => ?_) (fun c13 => ?_)
          · have hf := (if_pos c13).symm.trans hf
            exact hx40_11 σ40_11 x3_40_11 x4_40_11 (lpK_inr (lp_leaf hf hz40_11)) ls H locs (lv_sub hl [2, 3, 4] rfl) hw
          · have hf := (if_neg c13).symm.trans hf
            refine lv_aload_n hx hb dX11_fits_45 rfl (lv_at hl 0 rfl) ?_
            refine lv_iload_n hx hb dX11_fits_46 rfl (lv_at hl 1 rfl) ?_
            obtain ⟨v15, σ16, hq14, hf⟩ := bnd2_some hf
            refine wr_cVi (r := v15) (σ' := σ16) (av := [.int x1]) (rest := []) X hw hl.1 sM0 nM0 rfl (k_X11_doesFit hI hq14) rfl ml_X11_430 im_X11_doesFit se_X11_doesFit ini_X11 co_X11_doesFit hd_X11_doesFit ⟨Nat.le_of_ble_eq_true rfl, Nat.le_of_ble_eq_true rfl⟩ (Nat.le_of_ble_eq_true rfl) dX11_fits_47 rfl (fun H locs hw => ?_)
            obtain ⟨k67_17, ek67_17, hf0⟩ := wlet_some hf
            have j67_17 : ∀ (x3_67_17 : Int32) (x4_67_17 : Int32) (_ : k67_17 x3_67_17 x4_67_17 = some q40_11) (ls : Array Slot) (H : Heap) (locs : List Loc), lv_has ls 6 [(0, .ref (ad 0)), (1, .int x1), (2, .int x2), (3, .int x3_67_17), (4, .int x4_67_17)] → wH WM ad D cy s σ16 H locs → W p l e { frames := 6, cells := 0, slots := 0, locals := 223 } s m [.ref (ad 0), .int x1, .int x2].toArray below meth c H locs 0 0 (MQ below (wQi WM ad D cy res.1 res.2) [.ref (ad 0), .int x1, .int x2].toArray s 0 0 (wA WM ad)) (F0 m 67 ls []) := by
              intro x3_67_17 x4_67_17 hf ls H locs hl hw
              rw [ek67_17] at hf
              refine lv_aload_n hx hb dX11_fits_67 rfl (lv_at hl 0 rfl) ?_
              obtain ⟨v19, σ20, hq18, hf⟩ := bnd2_some hf
              refine wr_cVi (r := v19) (σ' := σ20) (av := []) (rest := []) X hw hl.1 sM0 nM0 rfl (k_X11_nextOrder hI hq18) rfl ml_X11_393 im_X11_nextOrder se_X11_nextOrder ini_X11 co_X11_nextOrder hd_X11_nextOrder ⟨Nat.le_of_ble_eq_true rfl, Nat.le_of_ble_eq_true rfl⟩ (Nat.le_of_ble_eq_true rfl) dX11_fits_68 rfl (fun H locs hw => ?_)
              refine lv_istore (lv' := [(5, .int v19), (0, .ref (ad 0)), (1, .int x1), (2, .int x2), (3, .int x3_67_17), (4, .int x4_67_17)]) hx hb dX11_fits_71 hl (by decide) rfl (fun ls hl => ?_)
              refine lv_goto (tgt := 40) hx hb dX11_fits_73 (by decide) ?_
              exact ih40_11 σ20 x3_67_17 x4_67_17 v19 (lp_leaf hf hz40_11) ls H locs (lv_sub hl [1, 2, 3, 4, 5, 0] rfl) hw
            replace hf := hf0
            refine lv_if_eq (tgt := 67) hx hb dX11_fits_50 (by decide) (fun c21 => ?_) (fun c21 => ?_)
            · have hf := (if_pos c21).symm.trans hf
              exact j67_17 x3_40_11 x4_40_11 hf ls H locs (lv_sub hl [0, 1, 2, 3, 4] rfl) hw
            · have hf := (if_neg c21).symm.trans hf
              obtain ⟨v22, ev22, hf⟩ := wlet_some hf
              refine lv_iinc (v := v22) (lv' := [(3, .int v22), (0, .ref (ad 0)), (1, .int x1), (2, .int x2), (4, .int x4_40_11), (5, .int x5_40_11)]) hx hb dX11_fits_53 hl (k := 3) rfl (by rw [ev22]; rfl) (by decide) rfl (fun ls hl => ?_)
              refine lv_iload hx hb dX11_fits_56 (lv_at hl 4 rfl) ?_
              refine lv_if_ge (tgt := 67) hx hb dX11_fits_58 (by decide) (fun c23 => ?_) (fun c23 => ?_)
              · have hf := (if_pos c23).symm.trans hf
                exact j67_17 v22 x4_40_11 hf ls H locs (lv_sub hl [1, 2, 3, 0, 4] rfl) hw
              · have hf := (if_neg c23).symm.trans hf
                refine lv_aload_n hx hb dX11_fits_61 rfl (lv_at hl 1 rfl) ?_
                obtain ⟨v25, hq24, hf⟩ := bind_some hf
                refine wr_cVi (r := v25) (σ' := σ16) (av := []) (rest := []) X hw hl.1 sM0 nM0 rfl (k_X11_numberNow hI hq24) rfl ml_X11_433 im_X11_numberNow se_X11_numberNow ini_X11 co_X11_numberNow hd_X11_numberNow ⟨Nat.le_of_ble_eq_true rfl, Nat.le_of_ble_eq_true rfl⟩ (Nat.le_of_ble_eq_true rfl) dX11_fits_62 rfl (fun H locs hw => ?_)
                refine lv_istore (lv' := [(4, .int v25), (3, .int v22), (0, .ref (ad 0)), (1, .int x1), (2, .int x2), (5, .int x5_40_11)]) hx hb dX11_fits_65 hl (by decide) rfl (fun ls hl => ?_)
                exact j67_17 v22 v25 hf ls H locs (lv_sub hl [2, 3, 4, 1, 0] rfl) hw
      exact lo40_11 fuel σ10 (0 : Int32) (-2 : Int32) (1 : Int32) hq40_11 ls H locs (lv_sub hl [3, 4, 5, 2, 1, 0] rfl) hw
    · have hf := (if_pos c6).symm.trans hf
      refine lv_iconst (v := -1) hx hb dX11_fits_21 (by decide) ?_
      have er := Option.some.inj hf
      subst er
      exact wr_iret X hw hr (Or.inl rfl) dX11_fits_22

def f_X11_forget (σ : St)  : Option (Int32 × St) := wlet (σ.1 0 51) fun v1 => wlet (si σ 0 51 (0 : Int32)) fun σ2 => some (v1, σ2)
theorem hd_X11_forget : yX11_forget.cls = RX11 ∧ yX11_forget.cls ≠ "java/lang/invoke/MethodHandle" ∧ yX11_forget.cls ≠ "java/lang/invoke/VarHandle" ∧ (parseMethodDescriptor yX11_forget.desc).map (fun d => d.parameters.length) = some 0 := by decide +kernel
set_option maxRecDepth 100000 in
set_option maxHeartbeats 4000000 in
theorem k_X11_forget {l : Launch} {ad : Nat → Nat} {D : va_G} {cy : Nat → ClassId} {z : wStr} (hI : wI WM ad) {σ : St}   {res : Int32 × St} (hf : f_X11_forget σ  = some res) : wC WM ad D cy z l yX11_forget (Cond.code yX11_forget cX11_forget 2 (Option.some Jvm.ClassFile.FieldType.int) :: aw) (1) (100) [.ref (ad 0)] σ (wQi WM ad D cy res.1 res.2) := by
  unfold f_X11_forget at hf
  refine wr_start (own := RX11) hI (by decide +kernel) rfl (Nat.le_of_ble_eq_true rfl) rfl ?_
  intro p e s m below meth c ls X hw hr hl
  have hx := X.hx
  have hb := X.hb
  obtain ⟨H, eH⟩ : ∃ H : Heap, H = s.heap := ⟨_, rfl⟩
  obtain ⟨locs, el⟩ : ∃ locs : List Loc, locs = [] := ⟨_, rfl⟩
  rw [← eH, ← el] at hw ⊢
  clear eH el
  replace hl : lv_has ls 2 [(0, .ref (ad 0))] := hl
  refine lv_aload_n hx hb dX11_forget_0 rfl (lv_at hl 0 rfl) ?_
  refine gX11_51 X hw sM0 nM0 fl_X11_233 dX11_forget_1 ?_
  obtain ⟨v1, ev1, hf⟩ := wlet_some hf
  refine wr_top ev1 ?_
  refine lv_istore_n (lv' := [(1, .int v1), (0, .ref (ad 0))]) hx hb dX11_forget_4 rfl hl (by decide) rfl (fun ls hl => ?_)
  refine lv_aload_n hx hb dX11_forget_5 rfl (lv_at hl 1 rfl) ?_
  refine lv_iconst (v := 0) hx hb dX11_forget_6 (by decide) ?_
  obtain ⟨σ2, eσ2, hf⟩ := wlet_some hf
  refine pX11_51 X hw sM0 nM0 fl_X11_233 dX11_forget_7 (fun H locs hw => ?_)
  replace hw := hw.to eσ2
  refine lv_iload_n hx hb dX11_forget_10 rfl (lv_at hl 0 rfl) ?_
  have er := Option.some.inj hf
  subst er
  exact wr_iret X hw hr (Or.inl rfl) dX11_forget_11

def f_X11_moves (σ : St) (x1 : Int32) (x2 : Int32) : Option (St) := if ib x1 26 = true then wlet (σ.1 27 (Int32.toNatClampNeg x1)) fun v2 => wlet (un2 (fun (σ10_3 : St) (x4_10_3 : Int32) => if x2 ≤ x4_10_3 then (some (.inr σ10_3)) else (if ib (x4_10_3 + (1 : Int32)) 26 = true then if ib x4_10_3 26 = true then wlet (si σ10_3 27 (Int32.toNatClampNeg x4_10_3) (σ10_3.1 27 (Int32.toNatClampNeg (x4_10_3 + (1 : Int32))))) fun σ15 => wlet (x4_10_3 + (1 : Int32)) fun v16 => some (.inl (σ15, v16)) else none else none)) : St × Int32 → Option ((St × Int32) ⊕ (St))) fun st10_3 => Option.bind (lp st10_3 fuel (σ, x1)) ((fun (σe10_3 : St) => wlet (un2 (fun (σ41_4 : St) (x4_41_4 : Int32) => if x4_41_4 ≤ x2 then (some (.inr σ41_4)) else (if ib (x4_41_4 - (1 : Int32)) 26 = true then if ib x4_41_4 26 = true then wlet (si σ41_4 27 (Int32.toNatClampNeg x4_41_4) (σ41_4.1 27 (Int32.toNatClampNeg (x4_41_4 - (1 : Int32))))) fun σ10 => wlet (x4_41_4 + (-1 : Int32)) fun v11 => some (.inl (σ10, v11)) else none else none)) : St × Int32 → Option ((St × Int32) ⊕ (St))) fun st41_4 => Option.bind (lp st41_4 fuel (σe10_3, x1)) ((fun (σe41_4 : St) => if ib x2 26 = true then wlet (si σe41_4 27 (Int32.toNatClampNeg x2) v2) fun σ6 => some σ6 else none)))) else none
theorem hd_X11_moves : yX11_moves.cls = RX11 ∧ yX11_moves.cls ≠ "java/lang/invoke/MethodHandle" ∧ yX11_moves.cls ≠ "java/lang/invoke/VarHandle" ∧ (parseMethodDescriptor yX11_moves.desc).map (fun d => d.parameters.length) = some 2 := by decide +kernel
set_option maxRecDepth 100000 in
set_option maxHeartbeats 4000000 in
theorem k_X11_moves {l : Launch} {ad : Nat → Nat} {D : va_G} {cy : Nat → ClassId} {z : wStr} (hI : wI WM ad) {σ : St} {x1 : Int32} {x2 : Int32}  {res : St} (hf : f_X11_moves σ x1 x2 = some res) : wC WM ad D cy z l yX11_moves (Cond.code yX11_moves cX11_moves 5 (none) :: aw) (1) (100) [.ref (ad 0), .int x1, .int x2] σ (wQv WM ad D cy res) := by
  unfold f_X11_moves at hf
  refine wr_start (own := RX11) hI (by decide +kernel) rfl (Nat.le_of_ble_eq_true rfl) rfl ?_
  intro p e s m below meth c ls X hw hr hl
  have hx := X.hx
  have hb := X.hb
  obtain ⟨H, eH⟩ : ∃ H : Heap, H = s.heap := ⟨_, rfl⟩
  obtain ⟨locs, el⟩ : ∃ locs : List Loc, locs = [] := ⟨_, rfl⟩
  rw [← eH, ← el] at hw ⊢
  clear eH el
  replace hl : lv_has ls 5 [(0, .ref (ad 0)), (1, .int x1), (2, .int x2)] := hl
  refine lv_aload_n hx hb dX11_moves_0 rfl (lv_at hl 0 rfl) ?_
  refine gX11_44 (b := 27) X hw sM0 nM0 rfl fl_X11_98 dX11_moves_1 ?_
  refine lv_iload_n hx hb dX11_moves_4 rfl (lv_at hl 1 rfl) ?_
  obtain ⟨h1, hf⟩ := if_some hf
  refine wr_iald X hw sM27 nM27 h1 dX11_moves_5 ?_
  obtain ⟨v2, ev2, hf⟩ := wlet_some hf
  refine wr_top ev2 ?_
  refine lv_istore_n (lv' := [(3, .int v2), (0, .ref (ad 0)), (1, .int x1), (2, .int x2)]) hx hb dX11_moves_6 rfl hl (by decide) rfl (fun ls hl => ?_)
  refine lv_iload_n hx hb dX11_moves_7 rfl (lv_at hl 2 rfl) ?_
  refine lv_istore (lv' := [(4, .int x1), (3, .int v2), (0, .ref (ad 0)), (1, .int x1), (2, .int x2)]) hx hb dX11_moves_8 hl (by decide) rfl (fun ls hl => ?_)
  obtain ⟨st10_3, est10_3, hf⟩ := wlet_some hf
  obtain ⟨E10_3, hq10_3, hE10_3⟩ := bind_some hf
  have hx10_3 : ∀ (σe10_3 : St) (_ : σe10_3 = E10_3) (ls : Array Slot) (H : Heap) (locs : List Loc), lv_has ls 5 [(0, .ref (ad 0)), (1, .int x1), (2, .int x2), (3, .int v2)] → wH WM ad D cy s σe10_3 H locs → W p l e { frames := 1, cells := 0, slots := 0, locals := 100 } s m [.ref (ad 0), .int x1, .int x2].toArray below meth c H locs 0 0 (MQ below (wQv WM ad D cy res) [.ref (ad 0), .int x1, .int x2].toArray s 0 0 (wA WM ad)) (F0 m 38 ls []) := by
    intro σe10_3 e0 ls H locs hl hw
    subst e0
    have hf := hE10_3
    refine lv_iload_n hx hb dX11_moves_38 rfl (lv_at hl 1 rfl) ?_
    refine lv_istore (lv' := [(4, .int x1), (0, .ref (ad 0)), (1, .int x1), (2, .int x2), (3, .int v2)]) hx hb dX11_moves_39 hl (by decide) rfl (fun ls hl => ?_)
    obtain ⟨st41_4, est41_4, hf⟩ := wlet_some hf
    obtain ⟨E41_4, hq41_4, hE41_4⟩ := bind_some hf
    have hx41_4 : ∀ (σe41_4 : St) (_ : σe41_4 = E41_4) (ls : Array Slot) (H : Heap) (locs : List Loc), lv_has ls 5 [(0, .ref (ad 0)), (2, .int x2), (3, .int v2)] → wH WM ad D cy s σe41_4 H locs → W p l e { frames := 1, cells := 0, slots := 0, locals := 100 } s m [.ref (ad 0), .int x1, .int x2].toArray below meth c H locs 0 0 (MQ below (wQv WM ad D cy res) [.ref (ad 0), .int x1, .int x2].toArray s 0 0 (wA WM ad)) (F0 m 69 ls []) := by
      intro σe41_4 e0 ls H locs hl hw
      subst e0
      have hf := hE41_4
      refine lv_aload_n hx hb dX11_moves_69 rfl (lv_at hl 0 rfl) ?_
      refine gX11_44 (b := 27) X hw sM0 nM0 rfl fl_X11_98 dX11_moves_70 ?_
      refine lv_iload_n hx hb dX11_moves_73 rfl (lv_at hl 1 rfl) ?_
      refine lv_iload_n hx hb dX11_moves_74 rfl (lv_at hl 2 rfl) ?_
      obtain ⟨h5, hf⟩ := if_some hf
      obtain ⟨σ6, eσ6, hf⟩ := wlet_some hf
      refine wr_iast X hw sM27 nM27 h5 dX11_moves_75 (fun H locs hw => ?_)
      replace hw := hw.to eσ6
      have er := Option.some.inj hf
      subst er
      exact wr_vret X hw hr dX11_moves_76
    have lo41_4 : ∀ (n : Nat) (σ41_4 : St) (x4_41_4 : Int32) (_ : lp st41_4 n (σ41_4, x4_41_4) = some E41_4) (ls : Array Slot) (H : Heap) (locs : List Loc), lv_has ls 5 [(0, .ref (ad 0)), (2, .int x2), (3, .int v2), (4, .int x4_41_4)] → wH WM ad D cy s σ41_4 H locs → W p l e { frames := 1, cells := 0, slots := 0, locals := 100 } s m [.ref (ad 0), .int x1, .int x2].toArray below meth c H locs 0 0 (MQ below (wQv WM ad D cy res) [.ref (ad 0), .int x1, .int x2].toArray s 0 0 (wA WM ad)) (F0 m 41 ls []) := by
      intro n
      induction n with
      | zero =>
        intro σ41_4 x4_41_4 hf ls H locs hl hw
        exact (lp_zero hf).elim
      | succ n ih41_4 =>
        intro σ41_4 x4_41_4 hf ls H locs hl hw
        obtain ⟨q41_4, hf, hz41_4⟩ := lp_succ hf
        rw [est41_4] at hf
        replace hf := un2_some hf
        refine lv_iload hx hb dX11_moves_41 (lv_at hl 3 rfl) ?_
        refine lv_iload_n hx hb dX11_moves_43 rfl (lv_at hl 1 rfl) ?_
        refine lv_icmp_le (tgt := 69) hx hb dX11_moves_44 (by decide) (fun c7 => ?_) (fun c7 => ?_)
        · have hf := (if_pos c7).symm.trans hf
          exact hx41_4 σ41_4 (lpK_inr (lp_leaf hf hz41_4)) ls H locs (lv_sub hl [0, 1, 2] rfl) hw
        · have hf := (if_neg c7).symm.trans hf
          refine lv_aload_n hx hb dX11_moves_47 rfl (lv_at hl 0 rfl) ?_
          refine gX11_44 (b := 27) X hw sM0 nM0 rfl fl_X11_98 dX11_moves_48 ?_
          refine lv_iload hx hb dX11_moves_51 (lv_at hl 3 rfl) ?_
          refine lv_aload_n hx hb dX11_moves_53 rfl (lv_at hl 0 rfl) ?_
          refine gX11_44 (b := 27) X hw sM0 nM0 rfl fl_X11_98 dX11_moves_54 ?_
          refine lv_iload hx hb dX11_moves_57 (lv_at hl 3 rfl) ?_
          refine lv_iconst (v := 1) hx hb dX11_moves_59 (by decide) ?_
          refine lv_isub hx hb dX11_moves_60 ?_
          obtain ⟨h8, hf⟩ := if_some hf
          refine wr_iald X hw sM27 nM27 h8 dX11_moves_61 ?_
          obtain ⟨h9, hf⟩ := if_some hf
          obtain ⟨σ10, eσ10, hf⟩ := wlet_some hf
          refine wr_iast X hw sM27 nM27 h9 dX11_moves_62 (fun H locs hw => ?_)
          replace hw := hw.to eσ10
          obtain ⟨v11, ev11, hf⟩ := wlet_some hf
          refine lv_iinc (v := v11) (lv' := [(4, .int v11), (0, .ref (ad 0)), (2, .int x2), (3, .int v2)]) hx hb dX11_moves_63 hl (k := 3) rfl (by rw [ev11]; rfl) (by decide) rfl (fun ls hl => ?_)
          refine lv_goto (tgt := 41) hx hb dX11_moves_66 (by decide) ?_
          exact ih41_4 σ10 v11 (lp_leaf hf hz41_4) ls H locs (lv_sub hl [1, 2, 3, 0] rfl) hw
    exact lo41_4 fuel σe10_3 x1 hq41_4 ls H locs (lv_sub hl [1, 3, 4, 0] rfl) hw
  have lo10_3 : ∀ (n : Nat) (σ10_3 : St) (x4_10_3 : Int32) (_ : lp st10_3 n (σ10_3, x4_10_3) = some E10_3) (ls : Array Slot) (H : Heap) (locs : List Loc), lv_has ls 5 [(0, .ref (ad 0)), (1, .int x1), (2, .int x2), (3, .int v2), (4, .int x4_10_3)] → wH WM ad D cy s σ10_3 H locs → W p l e { frames := 1, cells := 0, slots := 0, locals := 100 } s m [.ref (ad 0), .int x1, .int x2].toArray below meth c H locs 0 0 (MQ below (wQv WM ad D cy res) [.ref (ad 0), .int x1, .int x2].toArray s 0 0 (wA WM ad)) (F0 m 10 ls []) := by
    intro n
    induction n with
    | zero =>
      intro σ10_3 x4_10_3 hf ls H locs hl hw
      exact (lp_zero hf).elim
    | succ n ih10_3 =>
      intro σ10_3 x4_10_3 hf ls H locs hl hw
      obtain ⟨q10_3, hf, hz10_3⟩ := lp_succ hf
      rw [est10_3] at hf
      replace hf := un2_some hf
      refine lv_iload hx hb dX11_moves_10 (lv_at hl 4 rfl) ?_
      refine lv_iload_n hx hb dX11_moves_12 rfl (lv_at hl 2 rfl) ?_
      refine lv_icmp_ge (tgt := 38) hx hb dX11_moves_13 (by decide) (fun c12 => ?_) (fun c12 => ?_)
      · have hf := (if_pos c12).symm.trans hf
        exact hx10_3 σ10_3 (lpK_inr (lp_leaf hf hz10_3)) ls H locs (lv_sub hl [0, 1, 2, 3] rfl) hw
      · have hf := (if_neg c12).symm.trans hf
        refine lv_aload_n hx hb dX11_moves_16 rfl (lv_at hl 0 rfl) ?_
        refine gX11_44 (b := 27) X hw sM0 nM0 rfl fl_X11_98 dX11_moves_17 ?_
        refine lv_iload hx hb dX11_moves_20 (lv_at hl 4 rfl) ?_
        refine lv_aload_n hx hb dX11_moves_22 rfl (lv_at hl 0 rfl) ?_
        refine gX11_44 (b := 27) X hw sM0 nM0 rfl fl_X11_98 dX11_moves_23 ?_
        refine lv_iload hx hb dX11_moves_26 (lv_at hl 4 rfl) ?_
        refine lv_iconst (v := 1) hx hb dX11_moves_28 (by decide) ?_
        refine lv_iadd hx hb dX11_moves_29 ?_
        obtain ⟨h13, hf⟩ := if_some hf
        refine wr_iald X hw sM27 nM27 h13 dX11_moves_30 ?_
        obtain ⟨h14, hf⟩ := if_some hf
        obtain ⟨σ15, eσ15, hf⟩ := wlet_some hf
        refine wr_iast X hw sM27 nM27 h14 dX11_moves_31 (fun H locs hw => ?_)
        replace hw := hw.to eσ15
        obtain ⟨v16, ev16, hf⟩ := wlet_some hf
        refine lv_iinc (v := v16) (lv' := [(4, .int v16), (0, .ref (ad 0)), (1, .int x1), (2, .int x2), (3, .int v2)]) hx hb dX11_moves_32 hl (k := 4) rfl (by rw [ev16]; rfl) (by decide) rfl (fun ls hl => ?_)
        refine lv_goto (tgt := 10) hx hb dX11_moves_35 (by decide) ?_
        exact ih10_3 σ15 v16 (lp_leaf hf hz10_3) ls H locs (lv_sub hl [1, 2, 3, 4, 0] rfl) hw
  exact lo10_3 fuel σ x1 hq10_3 ls H locs (lv_sub hl [2, 3, 4, 1, 0] rfl) hw

def f_X11_furthest (σ : St) (x1 : Int32) (x2 : Int32) : Option (Int32 × St) := Option.bind (f_X11_copies σ) fun σ2 => Option.bind (f_X11_isCase σ2 x1) fun v4 => if v4 = 0 then (some ((-1 : Int32), σ2)) else (Option.bind (f_X11_isOn σ2 x1) fun v7 => if v7 = 0 then (some ((-1 : Int32), σ2)) else (Option.bind (f_X11_in x2 (0 : Int32) (1 : Int32)) fun v10 => if v10 = 0 then (some ((-1 : Int32), σ2)) else (wlet (un4 (fun (σ41_12 : St) (x3_41_12 : Int32) (x4_41_12 : Int32) (x5_41_12 : Int32) => if ib (7 : Int32) 26 = true then if (σ41_12.1 26 (Int32.toNatClampNeg (7 : Int32))) ≤ x5_41_12 then (some (.inr (σ41_12, x3_41_12, x4_41_12))) else (Option.bind (f_X11_copies σ41_12) fun σ17 => Option.bind (f_X11_placeOf σ17 x1) fun v19 => Option.bind (f_X11_moves σ17 v19 x5_41_12) fun σ21 => bnd2 (f_X11_sufferAt σ21 x5_41_12) fun v23 σ24 => if x3_41_12 < 0 then (wlet (x5_41_12 + (1 : Int32)) fun v26 => some (.inl (σ24, x5_41_12, v23, v26))) else (if v23 < x4_41_12 then (wlet (x5_41_12 + (1 : Int32)) fun v28 => some (.inl (σ24, x5_41_12, v23, v28))) else (wlet (x5_41_12 + (1 : Int32)) fun v29 => some (.inl (σ24, x3_41_12, x4_41_12, v29))))) else none) : St × Int32 × Int32 × Int32 → Option ((St × Int32 × Int32 × Int32) ⊕ (St × Int32 × Int32))) fun st41_12 => Option.bind (lp st41_12 fuel (σ2, (-2 : Int32), (-2 : Int32), (0 : Int32))) ((un3 (fun (σe41_12 : St) (x3_e41_12 : Int32) (x4_e41_12 : Int32) => if x2 = 0 then (some (x3_e41_12, σe41_12)) else (some (x4_e41_12, σe41_12))))))))
theorem hd_X11_furthest : yX11_furthest.cls = RX11 ∧ yX11_furthest.cls ≠ "java/lang/invoke/MethodHandle" ∧ yX11_furthest.cls ≠ "java/lang/invoke/VarHandle" ∧ (parseMethodDescriptor yX11_furthest.desc).map (fun d => d.parameters.length) = some 2 := by decide +kernel
set_option maxRecDepth 100000 in
set_option maxHeartbeats 4000000 in
theorem k_X11_furthest {l : Launch} {ad : Nat → Nat} {D : va_G} {cy : Nat → ClassId} {z : wStr} (hI : wI WM ad) {σ : St} {x1 : Int32} {x2 : Int32}  {res : Int32 × St} (hf : f_X11_furthest σ x1 x2 = some res) : wC WM ad D cy z l yX11_furthest (Cond.code yX11_furthest cX11_furthest 7 (Option.some Jvm.ClassFile.FieldType.int) :: aw) (5) (201) [.ref (ad 0), .int x1, .int x2] σ (wQi WM ad D cy res.1 res.2) := by
  unfold f_X11_furthest at hf
  refine wr_start (own := RX11) hI (by decide +kernel) rfl (Nat.le_of_ble_eq_true rfl) rfl ?_
  intro p e s m below meth c ls X hw hr hl
  have hx := X.hx
  have hb := X.hb
  obtain ⟨H, eH⟩ : ∃ H : Heap, H = s.heap := ⟨_, rfl⟩
  obtain ⟨locs, el⟩ : ∃ locs : List Loc, locs = [] := ⟨_, rfl⟩
  rw [← eH, ← el] at hw ⊢
  clear eH el
  replace hl : lv_has ls 7 [(0, .ref (ad 0)), (1, .int x1), (2, .int x2)] := hl
  refine lv_aload_n hx hb dX11_furthest_0 rfl (lv_at hl 0 rfl) ?_
  obtain ⟨σ2, hq1, hf⟩ := bind_some hf
  refine wr_cVv (σ' := σ2) (av := []) (rest := []) X hw hl.1 sM0 nM0 rfl (k_X11_copies hI hq1) rfl ml_X11_345 im_X11_copies se_X11_copies ini_X11 co_X11_copies hd_X11_copies ⟨Nat.le_of_ble_eq_true rfl, Nat.le_of_ble_eq_true rfl⟩ (Nat.le_of_ble_eq_true rfl) dX11_furthest_1 rfl (fun H locs hw => ?_)
  refine lv_aload_n hx hb dX11_furthest_4 rfl (lv_at hl 0 rfl) ?_
  refine lv_iload_n hx hb dX11_furthest_5 rfl (lv_at hl 1 rfl) ?_
  obtain ⟨v4, hq3, hf⟩ := bind_some hf
  refine wr_cVi (r := v4) (σ' := σ2) (av := [.int x1]) (rest := []) X hw hl.1 sM0 nM0 rfl (k_X11_isCase hI hq3) rfl ml_X11_342 im_X11_isCase se_X11_isCase ini_X11 co_X11_isCase hd_X11_isCase ⟨Nat.le_of_ble_eq_true rfl, Nat.le_of_ble_eq_true rfl⟩ (Nat.le_of_ble_eq_true rfl) dX11_furthest_6 rfl (fun H locs hw => ?_)
  refine lv_if_eq (tgt := 29) hx hb dX11_furthest_9 (by decide) (fun c5 => ?_) (fun c5 => ?_)
  · have hf := (if_pos c5).symm.trans hf
    refine lv_iconst (v := -1) hx hb dX11_furthest_29 (by decide) ?_
    have er := Option.some.inj hf
    subst er
    exact wr_iret X hw hr (Or.inl rfl) dX11_furthest_30
  · have hf := (if_neg c5).symm.trans hf
    refine lv_aload_n hx hb dX11_furthest_12 rfl (lv_at hl 0 rfl) ?_
    refine lv_iload_n hx hb dX11_furthest_13 rfl (lv_at hl 1 rfl) ?_
    obtain ⟨v7, hq6, hf⟩ := bind_some hf
    refine wr_cVi (r := v7) (σ' := σ2) (av := [.int x1]) (rest := []) X hw hl.1 sM0 nM0 rfl (k_X11_isOn hI hq6) rfl ml_X11_348 im_X11_isOn se_X11_isOn ini_X11 co_X11_isOn hd_X11_isOn ⟨Nat.le_of_ble_eq_true rfl, Nat.le_of_ble_eq_true rfl⟩ (Nat.le_of_ble_eq_true rfl) dX11_furthest_14 rfl (fun H locs hw => ?_)
    refine lv_if_eq (tgt := 29) hx hb dX11_furthest_17 (by decide) (fun c8 => ?_) (fun c8 => ?_)
    · have hf := (if_pos c8).symm.trans hf
      refine lv_iconst (v := -1) hx hb dX11_furthest_29 (by decide) ?_
      have er := Option.some.inj hf
      subst er
      exact wr_iret X hw hr (Or.inl rfl) dX11_furthest_30
    · have hf := (if_neg c8).symm.trans hf
      refine lv_iload_n hx hb dX11_furthest_20 rfl (lv_at hl 2 rfl) ?_
      refine lv_iconst (v := 0) hx hb dX11_furthest_21 (by decide) ?_
      refine lv_iconst (v := 1) hx hb dX11_furthest_22 (by decide) ?_
      obtain ⟨v10, hq9, hf⟩ := bind_some hf
      refine wr_cSi (r := v10) (σ' := σ2) (av := [.int x2, .int (0 : Int32), .int (1 : Int32)]) (rest := []) X hw hl.1 (k_X11_in hI hq9) rfl ml_X11_282 st_X11_in ini_X11 co_X11_in hd_X11_in ⟨Nat.le_of_ble_eq_true rfl, Nat.le_of_ble_eq_true rfl⟩ (Nat.le_of_ble_eq_true rfl) dX11_furthest_23 rfl (fun H locs hw => ?_)
      refine lv_if_ne (tgt := 31) hx hb dX11_furthest_26 (by decide) (fun c11 => ?_) (fun c11 => ?_)
      · have hf := (if_neg c11).symm.trans hf
        refine lv_bipush (v := -2) hx hb dX11_furthest_31 (by decide) ?_
        refine lv_istore_n (lv' := [(3, .int (-2 : Int32)), (0, .ref (ad 0)), (1, .int x1), (2, .int x2)]) hx hb dX11_furthest_33 rfl hl (by decide) rfl (fun ls hl => ?_)
        refine lv_bipush (v := -2) hx hb dX11_furthest_34 (by decide) ?_
        refine lv_istore (lv' := [(4, .int (-2 : Int32)), (3, .int (-2 : Int32)), (0, .ref (ad 0)), (1, .int x1), (2, .int x2)]) hx hb dX11_furthest_36 hl (by decide) rfl (fun ls hl => ?_)
        refine lv_iconst (v := 0) hx hb dX11_furthest_38 (by decide) ?_
        refine lv_istore (lv' := [(5, .int (0 : Int32)), (4, .int (-2 : Int32)), (3, .int (-2 : Int32)), (0, .ref (ad 0)), (1, .int x1), (2, .int x2)]) hx hb dX11_furthest_39 hl (by decide) rfl (fun ls hl => ?_)
        obtain ⟨st41_12, est41_12, hf⟩ := wlet_some hf
        obtain ⟨E41_12, hq41_12, hE41_12⟩ := bind_some hf
        have hx41_12 : ∀ (σe41_12 : St) (x3_e41_12 : Int32) (x4_e41_12 : Int32) (_ : (σe41_12, x3_e41_12, x4_e41_12) = E41_12) (ls : Array Slot) (H : Heap) (locs : List Loc), lv_has ls 7 [(2, .int x2), (3, .int x3_e41_12), (4, .int x4_e41_12)] → wH WM ad D cy s σe41_12 H locs → W p l e { frames := 5, cells := 0, slots := 0, locals := 201 } s m [.ref (ad 0), .int x1, .int x2].toArray below meth c H locs 0 0 (MQ below (wQi WM ad D cy res.1 res.2) [.ref (ad 0), .int x1, .int x2].toArray s 0 0 (wA WM ad)) (F0 m 103 ls []) := by
          intro σe41_12 x3_e41_12 x4_e41_12 e0 ls H locs hl hw
          subst e0
          have hf := hE41_12
          replace hf := un3_some hf
          refine lv_iload_n hx hb dX11_furthest_103 rfl (lv_at hl 0 rfl) ?_
          refine lv_if_ne (tgt := 111) hx hb dX11_furthest_104 (by decide) (fun c13 => ?_) (fun c13 => ?_)
          · have hf := (if_neg c13).symm.trans hf
            refine lv_iload hx hb dX11_furthest_111 (lv_at hl 2 rfl) ?_
            have er := Option.some.inj hf
            subst er
            exact wr_iret X hw hr (Or.inl rfl) dX11_furthest_113
          · have hf := (if_pos c13).symm.trans hf
            refine lv_iload_n hx hb dX11_furthest_107 rfl (lv_at hl 1 rfl) ?_
            refine lv_goto (tgt := 113) hx hb dX11_furthest_108 (by decide) ?_
            have er := Option.some.inj hf
            subst er
            exact wr_iret X hw hr (Or.inl rfl) dX11_furthest_113
        have lo41_12 : ∀ (n : Nat) (σ41_12 : St) (x3_41_12 : Int32) (x4_41_12 : Int32) (x5_41_12 : Int32) (_ : lp st41_12 n (σ41_12, x3_41_12, x4_41_12, x5_41_12) = some E41_12) (ls : Array Slot) (H : Heap) (locs : List Loc), lv_has ls 7 [(0, .ref (ad 0)), (1, .int x1), (2, .int x2), (3, .int x3_41_12), (4, .int x4_41_12), (5, .int x5_41_12)] → wH WM ad D cy s σ41_12 H locs → W p l e { frames := 5, cells := 0, slots := 0, locals := 201 } s m [.ref (ad 0), .int x1, .int x2].toArray below meth c H locs 0 0 (MQ below (wQi WM ad D cy res.1 res.2) [.ref (ad 0), .int x1, .int x2].toArray s 0 0 (wA WM ad)) (F0 m 41 ls []) := by
          intro n
          induction n with
          | zero =>
            intro σ41_12 x3_41_12 x4_41_12 x5_41_12 hf ls H locs hl hw
            exact (lp_zero hf).elim
          | succ n ih41_12 =>
            intro σ41_12 x3_41_12 x4_41_12 x5_41_12 hf ls H locs hl hw
            obtain ⟨q41_12, hf, hz41_12⟩ := lp_succ hf
            rw [est41_12] at hf
            replace hf := un4_some hf
            refine lv_iload hx hb dX11_furthest_41 (lv_at hl 5 rfl) ?_
            refine lv_aload_n hx hb dX11_furthest_43 rfl (lv_at hl 0 rfl) ?_
            refine gX11_43 (b := 26) X hw sM0 nM0 rfl fl_X11_95 dX11_furthest_44 ?_
            refine lv_bipush (v := 7) hx hb dX11_furthest_47 (by decide) ?_
            obtain ⟨h14, hf⟩ := if_some hf
            refine wr_iald X hw sM26 nM26 h14 dX11_furthest_49 ?_
            refine lv_icmp_ge (tgt := 103) hx hb dX11_furthest_50 (by decide) (fun c15 => ?_) (fun c15 => ?_)
            · have hf := (if_pos c15).symm.trans hf
              exact hx41_12 σ41_12 x3_41_12 x4_41_12 (lpK_inr (lp_leaf hf hz41_12)) ls H locs (lv_sub hl [2, 3, 4] rfl) hw
            · have hf := (if_neg c15).symm.trans hf
              refine lv_aload_n hx hb dX11_furthest_53 rfl (lv_at hl 0 rfl) ?_
              obtain ⟨σ17, hq16, hf⟩ := bind_some hf
              refine wr_cVv (σ' := σ17) (av := []) (rest := []) X hw hl.1 sM0 nM0 rfl (k_X11_copies hI hq16) rfl ml_X11_345 im_X11_copies se_X11_copies ini_X11 co_X11_copies hd_X11_copies ⟨Nat.le_of_ble_eq_true rfl, Nat.le_of_ble_eq_true rfl⟩ (Nat.le_of_ble_eq_true rfl) dX11_furthest_54 rfl (fun H locs hw => ?_)
              refine lv_aload_n hx hb dX11_furthest_57 rfl (lv_at hl 0 rfl) ?_
              refine lv_aload_n hx hb dX11_furthest_58 rfl (lv_at hl 0 rfl) ?_
              refine lv_iload_n hx hb dX11_furthest_59 rfl (lv_at hl 1 rfl) ?_
              obtain ⟨v19, hq18, hf⟩ := bind_some hf
              refine wr_cVi (r := v19) (σ' := σ17) (av := [.int x1]) (rest := [.ref (ad 0)]) X hw hl.1 sM0 nM0 rfl (k_X11_placeOf hI hq18) rfl ml_X11_293 im_X11_placeOf se_X11_placeOf ini_X11 co_X11_placeOf hd_X11_placeOf ⟨Nat.le_of_ble_eq_true rfl, Nat.le_of_ble_eq_true rfl⟩ (Nat.le_of_ble_eq_true rfl) dX11_furthest_60 rfl (fun H locs hw => ?_)
              refine lv_iload hx hb dX11_furthest_63 (lv_at hl 5 rfl) ?_
              obtain ⟨σ21, hq20, hf⟩ := bind_some hf
              refine wr_cVv (σ' := σ21) (av := [.int v19, .int x5_41_12]) (rest := []) X hw hl.1 sM0 nM0 rfl (k_X11_moves hI hq20) rfl ml_X11_330 im_X11_moves se_X11_moves ini_X11 co_X11_moves hd_X11_moves ⟨Nat.le_of_ble_eq_true rfl, Nat.le_of_ble_eq_true rfl⟩ (Nat.le_of_ble_eq_true rfl) dX11_furthest_65 rfl (fun H locs hw => ?_)
              refine lv_aload_n hx hb dX11_furthest_68 rfl (lv_at hl 0 rfl) ?_
              refine lv_iload hx hb dX11_furthest_69 (lv_at hl 5 rfl) ?_
              obtain ⟨v23, σ24, hq22, hf⟩ := bnd2_some hf
              refine wr_cVi (r := v23) (σ' := σ24) (av := [.int x5_41_12]) (rest := []) X hw hl.1 sM0 nM0 rfl (k_X11_sufferAt hI hq22) rfl ml_X11_324 im_X11_sufferAt se_X11_sufferAt ini_X11 co_X11_sufferAt hd_X11_sufferAt ⟨Nat.le_of_ble_eq_true rfl, Nat.le_of_ble_eq_true rfl⟩ (Nat.le_of_ble_eq_true rfl) dX11_furthest_71 rfl (fun H locs hw => ?_)
              refine lv_istore (lv' := [(6, .int v23), (0, .ref (ad 0)), (1, .int x1), (2, .int x2), (3, .int x3_41_12), (4, .int x4_41_12), (5, .int x5_41_12)]) hx hb dX11_furthest_74 hl (by decide) rfl (fun ls hl => ?_)
              refine lv_iload_n hx hb dX11_furthest_76 rfl (lv_at hl 4 rfl) ?_
              refine lv_if_lt (tgt := 90) hx hb dX11_furthest_77 (by decide) (fun c25 => ?_) (fun c25 => ?_)
              · have hf := (if_pos c25).symm.trans hf
                refine lv_iload hx hb dX11_furthest_90 (lv_at hl 6 rfl) ?_
                refine lv_istore_n (lv' := [(3, .int x5_41_12), (6, .int v23), (0, .ref (ad 0)), (1, .int x1), (2, .int x2), (4, .int x4_41_12), (5, .int x5_41_12)]) hx hb dX11_furthest_92 rfl hl (by decide) rfl (fun ls hl => ?_)
                refine lv_iload hx hb dX11_furthest_93 (lv_at hl 1 rfl) ?_
                refine lv_istore (lv' := [(4, .int v23), (3, .int x5_41_12), (6, .int v23), (0, .ref (ad 0)), (1, .int x1), (2, .int x2), (5, .int x5_41_12)]) hx hb dX11_furthest_95 hl (by decide) rfl (fun ls hl => ?_)
                obtain ⟨v26, ev26, hf⟩ := wlet_some hf
                refine lv_iinc (v := v26) (lv' := [(5, .int v26), (4, .int v23), (3, .int x5_41_12), (6, .int v23), (0, .ref (ad 0)), (1, .int x1), (2, .int x2)]) hx hb dX11_furthest_97 hl (k := 6) rfl (by rw [ev26]; rfl) (by decide) rfl (fun ls hl => ?_)
                refine lv_goto (tgt := 41) hx hb dX11_furthest_100 (by decide) ?_
                exact ih41_12 σ24 x5_41_12 v23 v26 (lp_leaf hf hz41_12) ls H locs (lv_sub hl [4, 5, 6, 2, 1, 0] rfl) hw
              · have hf := (if_neg c25).symm.trans hf
                refine lv_iload hx hb dX11_furthest_80 (lv_at hl 0 rfl) ?_
                refine lv_iload hx hb dX11_furthest_82 (lv_at hl 5 rfl) ?_
                refine lv_icmp_lt (tgt := 90) hx hb dX11_furthest_84 (by decide) (fun c27 => ?_) (fun c27 => ?_)
                · have hf := (if_pos c27).symm.trans hf
                  refine lv_iload hx hb dX11_furthest_90 (lv_at hl 6 rfl) ?_
                  refine lv_istore_n (lv' := [(3, .int x5_41_12), (6, .int v23), (0, .ref (ad 0)), (1, .int x1), (2, .int x2), (4, .int x4_41_12), (5, .int x5_41_12)]) hx hb dX11_furthest_92 rfl hl (by decide) rfl (fun ls hl => ?_)
                  refine lv_iload hx hb dX11_furthest_93 (lv_at hl 1 rfl) ?_
                  refine lv_istore (lv' := [(4, .int v23), (3, .int x5_41_12), (6, .int v23), (0, .ref (ad 0)), (1, .int x1), (2, .int x2), (5, .int x5_41_12)]) hx hb dX11_furthest_95 hl (by decide) rfl (fun ls hl => ?_)
                  obtain ⟨v28, ev28, hf⟩ := wlet_some hf
                  refine lv_iinc (v := v28) (lv' := [(5, .int v28), (4, .int v23), (3, .int x5_41_12), (6, .int v23), (0, .ref (ad 0)), (1, .int x1), (2, .int x2)]) hx hb dX11_furthest_97 hl (k := 6) rfl (by rw [ev28]; rfl) (by decide) rfl (fun ls hl => ?_)
                  refine lv_goto (tgt := 41) hx hb dX11_furthest_100 (by decide) ?_
                  exact ih41_12 σ24 x5_41_12 v23 v28 (lp_leaf hf hz41_12) ls H locs (lv_sub hl [4, 5, 6, 2, 1, 0] rfl) hw
                · have hf := (if_neg c27).symm.trans hf
                  refine lv_goto (tgt := 97) hx hb dX11_furthest_87 (by decide) ?_
                  obtain ⟨v29, ev29, hf⟩ := wlet_some hf
                  refine lv_iinc (v := v29) (lv' := [(5, .int v29), (6, .int v23), (0, .ref (ad 0)), (1, .int x1), (2, .int x2), (3, .int x3_41_12), (4, .int x4_41_12)]) hx hb dX11_furthest_97 hl (k := 6) rfl (by rw [ev29]; rfl) (by decide) rfl (fun ls hl => ?_)
                  refine lv_goto (tgt := 41) hx hb dX11_furthest_100 (by decide) ?_
                  exact ih41_12 σ24 x3_41_12 x4_41_12 v29 (lp_leaf hf hz41_12) ls H locs (lv_sub hl [2, 3, 4, 5, 6, 0] rfl) hw
        exact lo41_12 fuel σ2 (-2 : Int32) (-2 : Int32) (0 : Int32) hq41_12 ls H locs (lv_sub hl [3, 4, 5, 2, 1, 0] rfl) hw
      · have hf := (if_pos c11).symm.trans hf
        refine lv_iconst (v := -1) hx hb dX11_furthest_29 (by decide) ?_
        have er := Option.some.inj hf
        subst er
        exact wr_iret X hw hr (Or.inl rfl) dX11_furthest_30

def f_X11_gain (σ : St) (x1 : Int32) (x2 : Int32) : Option (Int32 × St) := Option.bind (f_X11_copies σ) fun σ2 => Option.bind (f_X11_areTwo σ2 x1 x2) fun v4 => if v4 = 0 then (some ((-100000 : Int32), σ2)) else (bnd2 (f_X11_sufferAll σ2) fun v7 σ8 => Option.bind (f_X11_placeOf σ8 x1) fun v10 => Option.bind (f_X11_placeOf σ8 x2) fun v12 => Option.bind (f_X11_changes σ8 v10 v12) fun σ14 => bnd2 (f_X11_sufferAll σ14) fun v16 σ17 => some ((v7 - v16), σ17))
theorem hd_X11_gain : yX11_gain.cls = RX11 ∧ yX11_gain.cls ≠ "java/lang/invoke/MethodHandle" ∧ yX11_gain.cls ≠ "java/lang/invoke/VarHandle" ∧ (parseMethodDescriptor yX11_gain.desc).map (fun d => d.parameters.length) = some 2 := by decide +kernel
set_option maxRecDepth 100000 in
set_option maxHeartbeats 4000000 in
theorem k_X11_gain {l : Launch} {ad : Nat → Nat} {D : va_G} {cy : Nat → ClassId} {z : wStr} (hI : wI WM ad) {σ : St} {x1 : Int32} {x2 : Int32}  {res : Int32 × St} (hf : f_X11_gain σ x1 x2 = some res) : wC WM ad D cy z l yX11_gain (Cond.code yX11_gain cX11_gain 4 (Option.some Jvm.ClassFile.FieldType.int) :: aw) (6) (223) [.ref (ad 0), .int x1, .int x2] σ (wQi WM ad D cy res.1 res.2) := by
  unfold f_X11_gain at hf
  refine wr_start (own := RX11) hI (by decide +kernel) rfl (Nat.le_of_ble_eq_true rfl) rfl ?_
  intro p e s m below meth c ls X hw hr hl
  have hx := X.hx
  have hb := X.hb
  obtain ⟨H, eH⟩ : ∃ H : Heap, H = s.heap := ⟨_, rfl⟩
  obtain ⟨locs, el⟩ : ∃ locs : List Loc, locs = [] := ⟨_, rfl⟩
  rw [← eH, ← el] at hw ⊢
  clear eH el
  replace hl : lv_has ls 4 [(0, .ref (ad 0)), (1, .int x1), (2, .int x2)] := hl
  refine lv_aload_n hx hb dX11_gain_0 rfl (lv_at hl 0 rfl) ?_
  obtain ⟨σ2, hq1, hf⟩ := bind_some hf
  refine wr_cVv (σ' := σ2) (av := []) (rest := []) X hw hl.1 sM0 nM0 rfl (k_X11_copies hI hq1) rfl ml_X11_345 im_X11_copies se_X11_copies ini_X11 co_X11_copies hd_X11_copies ⟨Nat.le_of_ble_eq_true rfl, Nat.le_of_ble_eq_true rfl⟩ (Nat.le_of_ble_eq_true rfl) dX11_gain_1 rfl (fun H locs hw => ?_)
  refine lv_aload_n hx hb dX11_gain_4 rfl (lv_at hl 0 rfl) ?_
  refine lv_iload_n hx hb dX11_gain_5 rfl (lv_at hl 1 rfl) ?_
  refine lv_iload_n hx hb dX11_gain_6 rfl (lv_at hl 2 rfl) ?_
  obtain ⟨v4, hq3, hf⟩ := bind_some hf
  refine wr_cVi (r := v4) (σ' := σ2) (av := [.int x1, .int x2]) (rest := []) X hw hl.1 sM0 nM0 rfl (k_X11_areTwo hI hq3) rfl ml_X11_354 im_X11_areTwo se_X11_areTwo ini_X11 co_X11_areTwo hd_X11_areTwo ⟨Nat.le_of_ble_eq_true rfl, Nat.le_of_ble_eq_true rfl⟩ (Nat.le_of_ble_eq_true rfl) dX11_gain_7 rfl (fun H locs hw => ?_)
  refine lv_if_ne (tgt := 17) hx hb dX11_gain_10 (by decide) (fun c5 => ?_) (fun c5 => ?_)
  · have hf := (if_neg c5).symm.trans hf
    refine lv_aload_n hx hb dX11_gain_17 rfl (lv_at hl 0 rfl) ?_
    obtain ⟨v7, σ8, hq6, hf⟩ := bnd2_some hf
    refine wr_cVi (r := v7) (σ' := σ8) (av := []) (rest := []) X hw hl.1 sM0 nM0 rfl (k_X11_sufferAll hI hq6) rfl ml_X11_374 im_X11_sufferAll se_X11_sufferAll ini_X11 co_X11_sufferAll hd_X11_sufferAll ⟨Nat.le_of_ble_eq_true rfl, Nat.le_of_ble_eq_true rfl⟩ (Nat.le_of_ble_eq_true rfl) dX11_gain_18 rfl (fun H locs hw => ?_)
    refine lv_istore_n (lv' := [(3, .int v7), (0, .ref (ad 0)), (1, .int x1), (2, .int x2)]) hx hb dX11_gain_21 rfl hl (by decide) rfl (fun ls hl => ?_)
    refine lv_aload_n hx hb dX11_gain_22 rfl (lv_at hl 1 rfl) ?_
    refine lv_aload_n hx hb dX11_gain_23 rfl (lv_at hl 1 rfl) ?_
    refine lv_iload_n hx hb dX11_gain_24 rfl (lv_at hl 2 rfl) ?_
    obtain ⟨v10, hq9, hf⟩ := bind_some hf
    refine wr_cVi (r := v10) (σ' := σ8) (av := [.int x1]) (rest := [.ref (ad 0)]) X hw hl.1 sM0 nM0 rfl (k_X11_placeOf hI hq9) rfl ml_X11_293 im_X11_placeOf se_X11_placeOf ini_X11 co_X11_placeOf hd_X11_placeOf ⟨Nat.le_of_ble_eq_true rfl, Nat.le_of_ble_eq_true rfl⟩ (Nat.le_of_ble_eq_true rfl) dX11_gain_25 rfl (fun H locs hw => ?_)
    refine lv_aload_n hx hb dX11_gain_28 rfl (lv_at hl 1 rfl) ?_
    refine lv_iload_n hx hb dX11_gain_29 rfl (lv_at hl 3 rfl) ?_
    obtain ⟨v12, hq11, hf⟩ := bind_some hf
    refine wr_cVi (r := v12) (σ' := σ8) (av := [.int x2]) (rest := [.int v10, .ref (ad 0)]) X hw hl.1 sM0 nM0 rfl (k_X11_placeOf hI hq11) rfl ml_X11_293 im_X11_placeOf se_X11_placeOf ini_X11 co_X11_placeOf hd_X11_placeOf ⟨Nat.le_of_ble_eq_true rfl, Nat.le_of_ble_eq_true rfl⟩ (Nat.le_of_ble_eq_true rfl) dX11_gain_30 rfl (fun H locs hw => ?_)
    obtain ⟨σ14, hq13, hf⟩ := bind_some hf
    refine wr_cVv (σ' := σ14) (av := [.int v10, .int v12]) (rest := []) X hw hl.1 sM0 nM0 rfl (k_X11_changes hI hq13) rfl ml_X11_358 im_X11_changes se_X11_changes ini_X11 co_X11_changes hd_X11_changes ⟨Nat.le_of_ble_eq_true rfl, Nat.le_of_ble_eq_true rfl⟩ (Nat.le_of_ble_eq_true rfl) dX11_gain_33 rfl (fun H locs hw => ?_)
    refine lv_iload_n hx hb dX11_gain_36 rfl (lv_at hl 0 rfl) ?_
    refine lv_aload_n hx hb dX11_gain_37 rfl (lv_at hl 1 rfl) ?_
    obtain ⟨v16, σ17, hq15, hf⟩ := bnd2_some hf
    refine wr_cVi (r := v16) (σ' := σ17) (av := []) (rest := [.int v7]) X hw hl.1 sM0 nM0 rfl (k_X11_sufferAll hI hq15) rfl ml_X11_374 im_X11_sufferAll se_X11_sufferAll ini_X11 co_X11_sufferAll hd_X11_sufferAll ⟨Nat.le_of_ble_eq_true rfl, Nat.le_of_ble_eq_true rfl⟩ (Nat.le_of_ble_eq_true rfl) dX11_gain_38 rfl (fun H locs hw => ?_)
    refine lv_isub hx hb dX11_gain_41 ?_
    have er := Option.some.inj hf
    subst er
    exact wr_iret X hw hr (Or.inl rfl) dX11_gain_42
  · have hf := (if_pos c5).symm.trans hf
    refine lv_ldcw (v := -100000) hx hb X.ow (X.tw kc_X11_405) dX11_gain_13 ?_
    have er := Option.some.inj hf
    subst er
    exact wr_iret X hw hr (Or.inl rfl) dX11_gain_16

def f_X11_go (σ : St) (x1 : Int32) (x2 : Int32) : Option (Int32 × St) := Option.bind (f_X11_copies σ) fun σ2 => Option.bind (f_X11_isCase σ2 x1) fun v4 => if v4 = 0 then (some ((0 : Int32), σ2)) else (Option.bind (f_X11_isOn σ2 x1) fun v7 => if v7 = 0 then (some ((0 : Int32), σ2)) else (if ib (7 : Int32) 26 = true then Option.bind (f_X11_in x2 (0 : Int32) ((σ2.1 27 (Int32.toNatClampNeg (7 : Int32))) - (1 : Int32))) fun v11 => if v11 = 0 then (some ((0 : Int32), σ2)) else (if ib x2 26 = true then if (σ2.1 27 (Int32.toNatClampNeg x2)) = x1 then (some ((0 : Int32), σ2)) else (Option.bind (f_X11_placeOf σ2 x1) fun v16 => Option.bind (f_X11_moves σ2 v16 x2) fun σ18 => bnd2 (f_X11_records σ18) fun v20 σ21 => if bz v20 = true then some (v20, σ21) else none) else none) else none))
theorem hd_X11_go : yX11_go.cls = RX11 ∧ yX11_go.cls ≠ "java/lang/invoke/MethodHandle" ∧ yX11_go.cls ≠ "java/lang/invoke/VarHandle" ∧ (parseMethodDescriptor yX11_go.desc).map (fun d => d.parameters.length) = some 2 := by decide +kernel
set_option maxRecDepth 100000 in
set_option maxHeartbeats 4000000 in
theorem k_X11_go {l : Launch} {ad : Nat → Nat} {D : va_G} {cy : Nat → ClassId} {z : wStr} (hI : wI WM ad) {σ : St} {x1 : Int32} {x2 : Int32}  {res : Int32 × St} (hf : f_X11_go σ x1 x2 = some res) : wC WM ad D cy z l yX11_go (Cond.code yX11_go cX11_go 3 (Option.some Jvm.ClassFile.FieldType.boolean) :: aw) (3) (143) [.ref (ad 0), .int x1, .int x2] σ (wQi WM ad D cy res.1 res.2) := by
  unfold f_X11_go at hf
  refine wr_start (own := RX11) hI (by decide +kernel) rfl (Nat.le_of_ble_eq_true rfl) rfl ?_
  intro p e s m below meth c ls X hw hr hl
  have hx := X.hx
  have hb := X.hb
  obtain ⟨H, eH⟩ : ∃ H : Heap, H = s.heap := ⟨_, rfl⟩
  obtain ⟨locs, el⟩ : ∃ locs : List Loc, locs = [] := ⟨_, rfl⟩
  rw [← eH, ← el] at hw ⊢
  clear eH el
  replace hl : lv_has ls 3 [(0, .ref (ad 0)), (1, .int x1), (2, .int x2)] := hl
  refine lv_aload_n hx hb dX11_go_0 rfl (lv_at hl 0 rfl) ?_
  obtain ⟨σ2, hq1, hf⟩ := bind_some hf
  refine wr_cVv (σ' := σ2) (av := []) (rest := []) X hw hl.1 sM0 nM0 rfl (k_X11_copies hI hq1) rfl ml_X11_345 im_X11_copies se_X11_copies ini_X11 co_X11_copies hd_X11_copies ⟨Nat.le_of_ble_eq_true rfl, Nat.le_of_ble_eq_true rfl⟩ (Nat.le_of_ble_eq_true rfl) dX11_go_1 rfl (fun H locs hw => ?_)
  refine lv_aload_n hx hb dX11_go_4 rfl (lv_at hl 0 rfl) ?_
  refine lv_iload_n hx hb dX11_go_5 rfl (lv_at hl 1 rfl) ?_
  obtain ⟨v4, hq3, hf⟩ := bind_some hf
  refine wr_cVi (r := v4) (σ' := σ2) (av := [.int x1]) (rest := []) X hw hl.1 sM0 nM0 rfl (k_X11_isCase hI hq3) rfl ml_X11_342 im_X11_isCase se_X11_isCase ini_X11 co_X11_isCase hd_X11_isCase ⟨Nat.le_of_ble_eq_true rfl, Nat.le_of_ble_eq_true rfl⟩ (Nat.le_of_ble_eq_true rfl) dX11_go_6 rfl (fun H locs hw => ?_)
  refine lv_if_eq (tgt := 47) hx hb dX11_go_9 (by decide) (fun c5 => ?_) (fun c5 => ?_)
  · have hf := (if_pos c5).symm.trans hf
    refine lv_iconst (v := 0) hx hb dX11_go_47 (by decide) ?_
    have er := Option.some.inj hf
    subst er
    exact wr_iret X hw hr (Or.inr ⟨rfl, (show bz (0 : Int32) = true from rfl)⟩) dX11_go_48
  · have hf := (if_neg c5).symm.trans hf
    refine lv_aload_n hx hb dX11_go_12 rfl (lv_at hl 0 rfl) ?_
    refine lv_iload_n hx hb dX11_go_13 rfl (lv_at hl 1 rfl) ?_
    obtain ⟨v7, hq6, hf⟩ := bind_some hf
    refine wr_cVi (r := v7) (σ' := σ2) (av := [.int x1]) (rest := []) X hw hl.1 sM0 nM0 rfl (k_X11_isOn hI hq6) rfl ml_X11_348 im_X11_isOn se_X11_isOn ini_X11 co_X11_isOn hd_X11_isOn ⟨Nat.le_of_ble_eq_true rfl, Nat.le_of_ble_eq_true rfl⟩ (Nat.le_of_ble_eq_true rfl) dX11_go_14 rfl (fun H locs hw => ?_)
    refine lv_if_eq (tgt := 47) hx hb dX11_go_17 (by decide) (fun c8 => ?_) (fun c8 => ?_)
    · have hf := (if_pos c8).symm.trans hf
      refine lv_iconst (v := 0) hx hb dX11_go_47 (by decide) ?_
      have er := Option.some.inj hf
      subst er
      exact wr_iret X hw hr (Or.inr ⟨rfl, (show bz (0 : Int32) = true from rfl)⟩) dX11_go_48
    · have hf := (if_neg c8).symm.trans hf
      refine lv_iload_n hx hb dX11_go_20 rfl (lv_at hl 2 rfl) ?_
      refine lv_iconst (v := 0) hx hb dX11_go_21 (by decide) ?_
      refine lv_aload_n hx hb dX11_go_22 rfl (lv_at hl 0 rfl) ?_
      refine gX11_44 (b := 27) X hw sM0 nM0 rfl fl_X11_98 dX11_go_23 ?_
      refine lv_bipush (v := 7) hx hb dX11_go_26 (by decide) ?_
      obtain ⟨h9, hf⟩ := if_some hf
      refine wr_iald X hw sM27 nM27 h9 dX11_go_28 ?_
      refine lv_iconst (v := 1) hx hb dX11_go_29 (by decide) ?_
      refine lv_isub hx hb dX11_go_30 ?_
      obtain ⟨v11, hq10, hf⟩ := bind_some hf
      refine wr_cSi (r := v11) (σ' := σ2) (av := [.int x2, .int (0 : Int32), .int ((σ2.1 27 (Int32.toNatClampNeg (7 : Int32))) - (1 : Int32))]) (rest := []) X hw hl.1 (k_X11_in hI hq10) rfl ml_X11_282 st_X11_in ini_X11 co_X11_in hd_X11_in ⟨Nat.le_of_ble_eq_true rfl, Nat.le_of_ble_eq_true rfl⟩ (Nat.le_of_ble_eq_true rfl) dX11_go_31 rfl (fun H locs hw => ?_)
      refine lv_if_eq (tgt := 47) hx hb dX11_go_34 (by decide) (fun c12 => ?_) (fun c12 => ?_)
      · have hf := (if_pos c12).symm.trans hf
        refine lv_iconst (v := 0) hx hb dX11_go_47 (by decide) ?_
        have er := Option.some.inj hf
        subst er
        exact wr_iret X hw hr (Or.inr ⟨rfl, (show bz (0 : Int32) = true from rfl)⟩) dX11_go_48
      · have hf := (if_neg c12).symm.trans hf
        refine lv_aload_n hx hb dX11_go_37 rfl (lv_at hl 0 rfl) ?_
        refine gX11_44 (b := 27) X hw sM0 nM0 rfl fl_X11_98 dX11_go_38 ?_
        refine lv_iload_n hx hb dX11_go_41 rfl (lv_at hl 2 rfl) ?_
        obtain ⟨h13, hf⟩ := if_some hf
        refine wr_iald X hw sM27 nM27 h13 dX11_go_42 ?_
        refine lv_iload_n hx hb dX11_go_43 rfl (lv_at hl 1 rfl) ?_
        refine lv_icmp_ne (tgt := 49) hx hb dX11_go_44 (by decide) (fun c14 => ?_) (fun c14 => ?_)
        · have hf := (if_neg c14).symm.trans hf
          refine lv_aload_n hx hb dX11_go_49 rfl (lv_at hl 0 rfl) ?_
          refine lv_aload_n hx hb dX11_go_50 rfl (lv_at hl 0 rfl) ?_
          refine lv_iload_n hx hb dX11_go_51 rfl (lv_at hl 1 rfl) ?_
          obtain ⟨v16, hq15, hf⟩ := bind_some hf
          refine wr_cVi (r := v16) (σ' := σ2) (av := [.int x1]) (rest := [.ref (ad 0)]) X hw hl.1 sM0 nM0 rfl (k_X11_placeOf hI hq15) rfl ml_X11_293 im_X11_placeOf se_X11_placeOf ini_X11 co_X11_placeOf hd_X11_placeOf ⟨Nat.le_of_ble_eq_true rfl, Nat.le_of_ble_eq_true rfl⟩ (Nat.le_of_ble_eq_true rfl) dX11_go_52 rfl (fun H locs hw => ?_)
          refine lv_iload_n hx hb dX11_go_55 rfl (lv_at hl 2 rfl) ?_
          obtain ⟨σ18, hq17, hf⟩ := bind_some hf
          refine wr_cVv (σ' := σ18) (av := [.int v16, .int x2]) (rest := []) X hw hl.1 sM0 nM0 rfl (k_X11_moves hI hq17) rfl ml_X11_330 im_X11_moves se_X11_moves ini_X11 co_X11_moves hd_X11_moves ⟨Nat.le_of_ble_eq_true rfl, Nat.le_of_ble_eq_true rfl⟩ (Nat.le_of_ble_eq_true rfl) dX11_go_56 rfl (fun H locs hw => ?_)
          refine lv_aload_n hx hb dX11_go_59 rfl (lv_at hl 0 rfl) ?_
          obtain ⟨v20, σ21, hq19, hf⟩ := bnd2_some hf
          refine wr_cVi (r := v20) (σ' := σ21) (av := []) (rest := []) X hw hl.1 sM0 nM0 rfl (k_X11_records hI hq19) rfl ml_X11_361 im_X11_records se_X11_records ini_X11 co_X11_records hd_X11_records ⟨Nat.le_of_ble_eq_true rfl, Nat.le_of_ble_eq_true rfl⟩ (Nat.le_of_ble_eq_true rfl) dX11_go_60 rfl (fun H locs hw => ?_)
          obtain ⟨hz, hf⟩ := if_some hf
          have er := Option.some.inj hf
          subst er
          exact wr_iret X hw hr (Or.inr ⟨rfl, hz⟩) dX11_go_63
        · have hf := (if_pos c14).symm.trans hf
          refine lv_iconst (v := 0) hx hb dX11_go_47 (by decide) ?_
          have er := Option.some.inj hf
          subst er
          exact wr_iret X hw hr (Or.inr ⟨rfl, (show bz (0 : Int32) = true from rfl)⟩) dX11_go_48

def f_X11_mixed (x0 : Int32) (x1 : Int32) : Option (Int32) := wlet (((x0 ^^^ x1) * (1103515245 : Int32)) + (12345 : Int32)) fun v1 => some (v1 ^^^ (usr v1 (15 : Int32)))
theorem hd_X11_mixed : yX11_mixed.cls ≠ "java/lang/invoke/MethodHandle" ∧ yX11_mixed.cls ≠ "java/lang/invoke/VarHandle" ∧ (parseMethodDescriptor yX11_mixed.desc).map (fun d => d.parameters.length) = some 2 := by decide +kernel
set_option maxRecDepth 100000 in
set_option maxHeartbeats 4000000 in
theorem k_X11_mixed {l : Launch} {ad : Nat → Nat} {D : va_G} {cy : Nat → ClassId} {z : wStr} (hI : wI WM ad) {σ : St} {x0 : Int32} {x1 : Int32}  {res : Int32} (hf : f_X11_mixed x0 x1 = some res) : wC WM ad D cy z l yX11_mixed (Cond.code yX11_mixed cX11_mixed 3 (Option.some Jvm.ClassFile.FieldType.int) :: aw) (1) (100) [.int x0, .int x1] σ (wQi WM ad D cy res σ) := by
  unfold f_X11_mixed at hf
  refine wr_start (own := RX11) hI (by decide +kernel) rfl (Nat.le_of_ble_eq_true rfl) rfl ?_
  intro p e s m below meth c ls X hw hr hl
  have hx := X.hx
  have hb := X.hb
  obtain ⟨H, eH⟩ : ∃ H : Heap, H = s.heap := ⟨_, rfl⟩
  obtain ⟨locs, el⟩ : ∃ locs : List Loc, locs = [] := ⟨_, rfl⟩
  rw [← eH, ← el] at hw ⊢
  clear eH el
  replace hl : lv_has ls 3 [(0, .int x0), (1, .int x1)] := hl
  refine lv_iload_n hx hb dX11_mixed_0 rfl (lv_at hl 0 rfl) ?_
  refine lv_iload_n hx hb dX11_mixed_1 rfl (lv_at hl 1 rfl) ?_
  refine lv_ixor hx hb dX11_mixed_2 ?_
  refine lv_ldcw (v := 1103515245) hx hb X.ow (X.tw kc_X11_289) dX11_mixed_3 ?_
  refine lv_imul hx hb dX11_mixed_6 ?_
  refine lv_sipush (v := 12345) hx hb dX11_mixed_7 (by decide) ?_
  refine lv_iadd hx hb dX11_mixed_10 ?_
  obtain ⟨v1, ev1, hf⟩ := wlet_some hf
  refine wr_top ev1 ?_
  refine lv_istore_n (lv' := [(2, .int v1), (0, .int x0), (1, .int x1)]) hx hb dX11_mixed_11 rfl hl (by decide) rfl (fun ls hl => ?_)
  refine lv_iload_n hx hb dX11_mixed_12 rfl (lv_at hl 0 rfl) ?_
  refine lv_iload_n hx hb dX11_mixed_13 rfl (lv_at hl 0 rfl) ?_
  refine lv_bipush (v := 15) hx hb dX11_mixed_14 (by decide) ?_
  refine lv_iushr hx hb dX11_mixed_16 (v := usr v1 (15 : Int32)) rfl ?_
  refine lv_ixor hx hb dX11_mixed_17 ?_
  have er := Option.some.inj hf
  subst er
  exact wr_iret X hw hr (Or.inl rfl) dX11_mixed_18

def f_X11_lotOf (σ : St) (x1 : Int32) : Option (Int32) := Option.bind (f_X11_mixed (σ.1 0 45) (221 : Int32)) fun v2 => Option.bind (f_X11_mixed v2 x1) fun v4 => some ((usr v4 (1 : Int32)) - (usr v4 (1 : Int32)) / (100 : Int32) * (100 : Int32))
theorem hd_X11_lotOf : yX11_lotOf.cls = RX11 ∧ yX11_lotOf.cls ≠ "java/lang/invoke/MethodHandle" ∧ yX11_lotOf.cls ≠ "java/lang/invoke/VarHandle" ∧ (parseMethodDescriptor yX11_lotOf.desc).map (fun d => d.parameters.length) = some 1 := by decide +kernel
set_option maxRecDepth 100000 in
set_option maxHeartbeats 4000000 in
theorem k_X11_lotOf {l : Launch} {ad : Nat → Nat} {D : va_G} {cy : Nat → ClassId} {z : wStr} (hI : wI WM ad) {σ : St} {x1 : Int32}  {res : Int32} (hf : f_X11_lotOf σ x1 = some res) : wC WM ad D cy z l yX11_lotOf (Cond.code yX11_lotOf cX11_lotOf 2 (Option.some Jvm.ClassFile.FieldType.int) :: aw) (2) (122) [.ref (ad 0), .int x1] σ (wQi WM ad D cy res σ) := by
  unfold f_X11_lotOf at hf
  refine wr_start (own := RX11) hI (by decide +kernel) rfl (Nat.le_of_ble_eq_true rfl) rfl ?_
  intro p e s m below meth c ls X hw hr hl
  have hx := X.hx
  have hb := X.hb
  obtain ⟨H, eH⟩ : ∃ H : Heap, H = s.heap := ⟨_, rfl⟩
  obtain ⟨locs, el⟩ : ∃ locs : List Loc, locs = [] := ⟨_, rfl⟩
  rw [← eH, ← el] at hw ⊢
  clear eH el
  replace hl : lv_has ls 2 [(0, .ref (ad 0)), (1, .int x1)] := hl
  refine lv_aload_n hx hb dX11_lotOf_0 rfl (lv_at hl 0 rfl) ?_
  refine gX11_45 X hw sM0 nM0 fl_X11_286 dX11_lotOf_1 ?_
  refine lv_sipush (v := 221) hx hb dX11_lotOf_4 (by decide) ?_
  obtain ⟨v2, hq1, hf⟩ := bind_some hf
  refine wr_cSi (r := v2) (σ' := σ) (av := [.int (σ.1 0 45), .int (221 : Int32)]) (rest := []) X hw hl.1 (k_X11_mixed hI hq1) rfl ml_X11_290 st_X11_mixed ini_X11 co_X11_mixed hd_X11_mixed ⟨Nat.le_of_ble_eq_true rfl, Nat.le_of_ble_eq_true rfl⟩ (Nat.le_of_ble_eq_true rfl) dX11_lotOf_7 rfl (fun H locs hw => ?_)
  refine lv_iload_n hx hb dX11_lotOf_10 rfl (lv_at hl 1 rfl) ?_
  obtain ⟨v4, hq3, hf⟩ := bind_some hf
  refine wr_cSi (r := v4) (σ' := σ) (av := [.int v2, .int x1]) (rest := []) X hw hl.1 (k_X11_mixed hI hq3) rfl ml_X11_290 st_X11_mixed ini_X11 co_X11_mixed hd_X11_mixed ⟨Nat.le_of_ble_eq_true rfl, Nat.le_of_ble_eq_true rfl⟩ (Nat.le_of_ble_eq_true rfl) dX11_lotOf_11 rfl (fun H locs hw => ?_)
  refine lv_iconst (v := 1) hx hb dX11_lotOf_14 (by decide) ?_
  refine lv_iushr hx hb dX11_lotOf_15 (v := usr v4 (1 : Int32)) rfl ?_
  refine lv_bipush (v := 100) hx hb dX11_lotOf_16 (by decide) ?_
  refine lv_irem hx hb dX11_lotOf_18 (by decide) ?_
  have er := Option.some.inj hf
  subst er
  exact wr_iret X hw hr (Or.inl rfl) dX11_lotOf_19

def f_X11_sessionGoes (σ : St)  : Option (St) := if ib (9 : Int32) 26 = true then wlet (σ.1 27 (Int32.toNatClampNeg (9 : Int32))) fun v2 => wlet (un4 (fun (σ12_3 : St) (x1_12_3 : Int32) (x2_12_3 : Int32) (x3_12_3 : Int32) => if ib (7 : Int32) 26 = true then if (σ12_3.1 27 (Int32.toNatClampNeg (7 : Int32))) ≤ x3_12_3 then (some (.inr (σ12_3, x1_12_3, x2_12_3))) else (if ib x3_12_3 26 = true then wlet (σ12_3.1 27 (Int32.toNatClampNeg x3_12_3)) fun v46 => if ib (8 : Int32) 26 = true then Option.bind (f_X11_lotOf σ12_3 (((8 : Int32) * (σ12_3.1 27 (Int32.toNatClampNeg (8 : Int32)))) + v46)) fun v49 => bnd2 (f_X11_adjournsOf σ12_3 v46 x3_12_3) fun v51 σ52 => if v51 ≤ v49 then (Option.bind (f_X11_deedAt σ52 v46) fun v55 => wlet (x3_12_3 + (1 : Int32)) fun v56 => some (.inl (σ52, x1_12_3, v55, v56))) else (wlet (x1_12_3 ||| ((1 : Int32) <<< (v46 &&& 31))) fun v57 => wlet (x3_12_3 + (1 : Int32)) fun v58 => some (.inl (σ52, v57, x2_12_3, v58))) else none else none) else none) : St × Int32 × Int32 × Int32 → Option ((St × Int32 × Int32 × Int32) ⊕ (St × Int32 × Int32))) fun st12_3 => Option.bind (lp st12_3 fuel (σ, (0 : Int32), v2, (0 : Int32))) ((un3 (fun (σe12_3 : St) (x1_e12_3 : Int32) (x2_e12_3 : Int32) => wlet (un2 (fun (σ83_4 : St) (x3_83_4 : Int32) => if ib (7 : Int32) 26 = true then if (σ83_4.1 27 (Int32.toNatClampNeg (7 : Int32))) ≤ x3_83_4 then (some (.inr σ83_4)) else (bnd2 (f_X11_sufferAt σ83_4 x3_83_4) fun v38 σ39 => if ib x3_83_4 7 = true then wlet (si σ39 28 (Int32.toNatClampNeg x3_83_4) v38) fun σ41 => wlet (x3_83_4 + (1 : Int32)) fun v42 => some (.inl (σ41, v42)) else none) else none) : St × Int32 → Option ((St × Int32) ⊕ (St))) fun st83_4 => Option.bind (lp st83_4 fuel (σe12_3, (0 : Int32))) ((fun (σe83_4 : St) => if ib (7 : Int32) 26 = true then wlet (σe83_4.1 27 (Int32.toNatClampNeg (7 : Int32))) fun v6 => wlet (un3 (fun (σ125_7 : St) (x3_125_7 : Int32) (x5_125_7 : Int32) => if v6 ≤ x5_125_7 then (some (.inr (σ125_7, x3_125_7))) else (if ib x5_125_7 26 = true then wlet (σ125_7.1 27 (Int32.toNatClampNeg x5_125_7)) fun v19 => if ib x5_125_7 26 = true then wlet (si σ125_7 27 (Int32.toNatClampNeg x5_125_7) (0 : Int32)) fun σ21 => if ((x1_e12_3 >>> (v19 &&& 31)) &&& (1 : Int32)) = (1 : Int32) then (if ib x3_125_7 26 = true then wlet (si σ21 27 (Int32.toNatClampNeg x3_125_7) v19) fun σ32 => wlet (x3_125_7 + (1 : Int32)) fun v33 => wlet (x5_125_7 + (1 : Int32)) fun v34 => some (.inl (σ32, v33, v34)) else none) else (if ib ((17 : Int32) + v19) 26 = true then if ib x5_125_7 7 = true then if ib ((17 : Int32) + v19) 26 = true then wlet (si σ21 27 (Int32.toNatClampNeg ((17 : Int32) + v19)) ((σ21.1 27 (Int32.toNatClampNeg ((17 : Int32) + v19))) + (σ21.1 28 (Int32.toNatClampNeg x5_125_7)))) fun σ26 => if ib (25 : Int32) 26 = true then if ib (25 : Int32) 26 = true then wlet (si σ26 27 (Int32.toNatClampNeg (25 : Int32)) ((σ26.1 27 (Int32.toNatClampNeg (25 : Int32))) + (1 : Int32))) fun σ29 => wlet (x5_125_7 + (1 : Int32)) fun v30 => some (.inl (σ29, x3_125_7, v30)) else none else none else none else none else none) else none else none)) : St × Int32 × Int32 → Option ((St × Int32 × Int32) ⊕ (St × Int32))) fun st125_7 => Option.bind (lp st125_7 fuel (σe83_4, (0 : Int32), (0 : Int32))) ((un2 (fun (σe125_7 : St) (x3_e125_7 : Int32) => if ib (7 : Int32) 26 = true then wlet (si σe125_7 27 (Int32.toNatClampNeg (7 : Int32)) x3_e125_7) fun σ9 => if ib (9 : Int32) 26 = true then wlet (si σ9 27 (Int32.toNatClampNeg (9 : Int32)) x2_e12_3) fun σ11 => if ib (24 : Int32) 26 = true then wlet (si σ11 27 (Int32.toNatClampNeg (24 : Int32)) (0 : Int32)) fun σ13 => if ib (8 : Int32) 26 = true then if ib (8 : Int32) 26 = true then wlet (si σ13 27 (Int32.toNatClampNeg (8 : Int32)) ((σ13.1 27 (Int32.toNatClampNeg (8 : Int32))) + (1 : Int32))) fun σ16 => some σ16 else none else none else none else none else none))) else none))))) else none
theorem hd_X11_sessionGoes : yX11_sessionGoes.cls = RX11 ∧ yX11_sessionGoes.cls ≠ "java/lang/invoke/MethodHandle" ∧ yX11_sessionGoes.cls ≠ "java/lang/invoke/VarHandle" ∧ (parseMethodDescriptor yX11_sessionGoes.desc).map (fun d => d.parameters.length) = some 0 := by decide +kernel
set_option maxRecDepth 100000 in
set_option maxHeartbeats 4000000 in
theorem k_X11_sessionGoes {l : Launch} {ad : Nat → Nat} {D : va_G} {cy : Nat → ClassId} {z : wStr} (hI : wI WM ad) {σ : St}   {res : St} (hf : f_X11_sessionGoes σ  = some res) : wC WM ad D cy z l yX11_sessionGoes (Cond.code yX11_sessionGoes cX11_sessionGoes 7 (none) :: aw) (5) (201) [.ref (ad 0)] σ (wQv WM ad D cy res) := by
  unfold f_X11_sessionGoes at hf
  refine wr_start (own := RX11) hI (by decide +kernel) rfl (Nat.le_of_ble_eq_true rfl) rfl ?_
  intro p e s m below meth c ls X hw hr hl
  have hx := X.hx
  have hb := X.hb
  obtain ⟨H, eH⟩ : ∃ H : Heap, H = s.heap := ⟨_, rfl⟩
  obtain ⟨locs, el⟩ : ∃ locs : List Loc, locs = [] := ⟨_, rfl⟩
  rw [← eH, ← el] at hw ⊢
  clear eH el
  replace hl : lv_has ls 7 [(0, .ref (ad 0))] := hl
  refine lv_iconst (v := 0) hx hb dX11_sessionGoes_0 (by decide) ?_
  refine lv_istore_n (lv' := [(1, .int (0 : Int32)), (0, .ref (ad 0))]) hx hb dX11_sessionGoes_1 rfl hl (by decide) rfl (fun ls hl => ?_)
  refine lv_aload_n hx hb dX11_sessionGoes_2 rfl (lv_at hl 1 rfl) ?_
  refine gX11_44 (b := 27) X hw sM0 nM0 rfl fl_X11_98 dX11_sessionGoes_3 ?_
  refine lv_bipush (v := 9) hx hb dX11_sessionGoes_6 (by decide) ?_
  obtain ⟨h1, hf⟩ := if_some hf
  refine wr_iald X hw sM27 nM27 h1 dX11_sessionGoes_8 ?_
  obtain ⟨v2, ev2, hf⟩ := wlet_some hf
  refine wr_top ev2 ?_
  refine lv_istore_n (lv' := [(2, .int v2), (1, .int (0 : Int32)), (0, .ref (ad 0))]) hx hb dX11_sessionGoes_9 rfl hl (by decide) rfl (fun ls hl => ?_)
  refine lv_iconst (v := 0) hx hb dX11_sessionGoes_10 (by decide) ?_
  refine lv_istore_n (lv' := [(3, .int (0 : Int32)), (2, .int v2), (1, .int (0 : Int32)), (0, .ref (ad 0))]) hx hb dX11_sessionGoes_11 rfl hl (by decide) rfl (fun ls hl => ?_)
  obtain ⟨st12_3, est12_3, hf⟩ := wlet_some hf
  obtain ⟨E12_3, hq12_3, hE12_3⟩ := bind_some hf
  have hx12_3 : ∀ (σe12_3 : St) (x1_e12_3 : Int32) (x2_e12_3 : Int32) (_ : (σe12_3, x1_e12_3, x2_e12_3) = E12_3) (ls : Array Slot) (H : Heap) (locs : List Loc), lv_has ls 7 [(0, .ref (ad 0)), (1, .int x1_e12_3), (2, .int x2_e12_3)] → wH WM ad D cy s σe12_3 H locs → W p l e { frames := 5, cells := 0, slots := 0, locals := 201 } s m [.ref (ad 0)].toArray below meth c H locs 0 0 (MQ below (wQv WM ad D cy res) [.ref (ad 0)].toArray s 0 0 (wA WM ad)) (F0 m 81 ls []) := by
    intro σe12_3 x1_e12_3 x2_e12_3 e0 ls H locs hl hw
    subst e0
    have hf := hE12_3
    replace hf := un3_some hf
    refine lv_iconst (v := 0) hx hb dX11_sessionGoes_81 (by decide) ?_
    refine lv_istore_n (lv' := [(3, .int (0 : Int32)), (0, .ref (ad 0)), (1, .int x1_e12_3), (2, .int x2_e12_3)]) hx hb dX11_sessionGoes_82 rfl hl (by decide) rfl (fun ls hl => ?_)
    obtain ⟨st83_4, est83_4, hf⟩ := wlet_some hf
    obtain ⟨E83_4, hq83_4, hE83_4⟩ := bind_some hf
    have hx83_4 : ∀ (σe83_4 : St) (_ : σe83_4 = E83_4) (ls : Array Slot) (H : Heap) (locs : List Loc), lv_has ls 7 [(0, .ref (ad 0)), (1, .int x1_e12_3), (2, .int x2_e12_3)] → wH WM ad D cy s σe83_4 H locs → W p l e { frames := 5, cells := 0, slots := 0, locals := 201 } s m [.ref (ad 0)].toArray below meth c H locs 0 0 (MQ below (wQv WM ad D cy res) [.ref (ad 0)].toArray s 0 0 (wA WM ad)) (F0 m 111 ls []) := by
      intro σe83_4 e0 ls H locs hl hw
      subst e0
      have hf := hE83_4
      refine lv_iconst (v := 0) hx hb dX11_sessionGoes_111 (by decide) ?_
      refine lv_istore_n (lv' := [(3, .int (0 : Int32)), (0, .ref (ad 0)), (1, .int x1_e12_3), (2, .int x2_e12_3)]) hx hb dX11_sessionGoes_112 rfl hl (by decide) rfl (fun ls hl => ?_)
      refine lv_aload_n hx hb dX11_sessionGoes_113 rfl (lv_at hl 1 rfl) ?_
      refine gX11_44 (b := 27) X hw sM0 nM0 rfl fl_X11_98 dX11_sessionGoes_114 ?_
      refine lv_bipush (v := 7) hx hb dX11_sessionGoes_117 (by decide) ?_
      obtain ⟨h5, hf⟩ := if_some hf
      refine wr_iald X hw sM27 nM27 h5 dX11_sessionGoes_119 ?_
      obtain ⟨v6, ev6, hf⟩ := wlet_some hf
      refine wr_top ev6 ?_
      refine lv_istore (lv' := [(4, .int v6), (3, .int (0 : Int32)), (0, .ref (ad 0)), (1, .int x1_e12_3), (2, .int x2_e12_3)]) hx hb dX11_sessionGoes_120 hl (by decide) rfl (fun ls hl => ?_)
      refine lv_iconst (v := 0) hx hb dX11_sessionGoes_122 (by decide) ?_
      refine lv_istore (lv' := [(5, .int (0 : Int32)), (4, .int v6), (3, .int (0 : Int32)), (0, .ref (ad 0)), (1, .int x1_e12_3), (2, .int x2_e12_3)]) hx hb dX11_sessionGoes_123 hl (by decide) rfl (fun ls hl => ?_)
      obtain ⟨st125_7, est125_7, hf⟩ := wlet_some hf
      obtain ⟨E125_7, hq125_7, hE125_7⟩ := bind_some hf
      have hx125_7 : ∀ (σe125_7 : St) (x3_e125_7 : Int32) (_ : (σe125_7, x3_e125_7) = E125_7) (ls : Array Slot) (H : Heap) (locs : List Loc), lv_has ls 7 [(0, .ref (ad 0)), (2, .int x2_e12_3), (3, .int x3_e125_7)] → wH WM ad D cy s σe125_7 H locs → W p l e { frames := 5, cells := 0, slots := 0, locals := 201 } s m [.ref (ad 0)].toArray below meth c H locs 0 0 (MQ below (wQv WM ad D cy res) [.ref (ad 0)].toArray s 0 0 (wA WM ad)) (F0 m 210 ls []) := by
        intro σe125_7 x3_e125_7 e0 ls H locs hl hw
        subst e0
        have hf := hE125_7
        replace hf := un2_some hf
        refine lv_aload_n hx hb dX11_sessionGoes_210 rfl (lv_at hl 0 rfl) ?_
        refine gX11_44 (b := 27) X hw sM0 nM0 rfl fl_X11_98 dX11_sessionGoes_211 ?_
        refine lv_bipush (v := 7) hx hb dX11_sessionGoes_214 (by decide) ?_
        refine lv_iload_n hx hb dX11_sessionGoes_216 rfl (lv_at hl 2 rfl) ?_
        obtain ⟨h8, hf⟩ := if_some hf
        obtain ⟨σ9, eσ9, hf⟩ := wlet_some hf
        refine wr_iast X hw sM27 nM27 h8 dX11_sessionGoes_217 (fun H locs hw => ?_)
        replace hw := hw.to eσ9
        refine lv_aload_n hx hb dX11_sessionGoes_218 rfl (lv_at hl 0 rfl) ?_
        refine gX11_44 (b := 27) X hw sM0 nM0 rfl fl_X11_98 dX11_sessionGoes_219 ?_
        refine lv_bipush (v := 9) hx hb dX11_sessionGoes_222 (by decide) ?_
        refine lv_iload_n hx hb dX11_sessionGoes_224 rfl (lv_at hl 1 rfl) ?_
        obtain ⟨h10, hf⟩ := if_some hf
        obtain ⟨σ11, eσ11, hf⟩ := wlet_some hf
        refine wr_iast X hw sM27 nM27 h10 dX11_sessionGoes_225 (fun H locs hw => ?_)
        replace hw := hw.to eσ11
        refine lv_aload_n hx hb dX11_sessionGoes_226 rfl (lv_at hl 0 rfl) ?_
        refine gX11_44 (b := 27) X hw sM0 nM0 rfl fl_X11_98 dX11_sessionGoes_227 ?_
        refine lv_bipush (v := 24) hx hb dX11_sessionGoes_230 (by decide) ?_
        refine lv_iconst (v := 0) hx hb dX11_sessionGoes_232 (by decide) ?_
        obtain ⟨h12, hf⟩ := if_some hf
        obtain ⟨σ13, eσ13, hf⟩ := wlet_some hf
        refine wr_iast X hw sM27 nM27 h12 dX11_sessionGoes_233 (fun H locs hw => ?_)
        replace hw := hw.to eσ13
        refine lv_aload_n hx hb dX11_sessionGoes_234 rfl (lv_at hl 0 rfl) ?_
        refine gX11_44 (b := 27) X hw sM0 nM0 rfl fl_X11_98 dX11_sessionGoes_235 ?_
        refine lv_bipush (v := 8) hx hb dX11_sessionGoes_238 (by decide) ?_
        refine lv_dup2_11 hx hb dX11_sessionGoes_240 rfl rfl ?_
        obtain ⟨h14, hf⟩ := if_some hf
        refine wr_iald X hw sM27 nM27 h14 dX11_sessionGoes_241 ?_
        refine lv_iconst (v := 1) hx hb dX11_sessionGoes_242 (by decide) ?_
        refine lv_iadd hx hb dX11_sessionGoes_243 ?_
        obtain ⟨h15, hf⟩ := if_some hf
        obtain ⟨σ16, eσ16, hf⟩ := wlet_some hf
        refine wr_iast X hw sM27 nM27 h15 dX11_sessionGoes_244 (fun H locs hw => ?_)
        replace hw := hw.to eσ16
        have er := Option.some.inj hf
        subst er
        exact wr_vret X hw hr dX11_sessionGoes_245
      have lo125_7 : ∀ (n : Nat) (σ125_7 : St) (x3_125_7 : Int32) (x5_125_7 : Int32) (_ : lp st125_7 n (σ125_7, x3_125_7, x5_125_7) = some E125_7) (ls : Array Slot) (H : Heap) (locs : List Loc), lv_has ls 7 [(0, .ref (ad 0)), (1, .int x1_e12_3), (2, .int x2_e12_3), (3, .int x3_125_7), (4, .int v6), (5, .int x5_125_7)] → wH WM ad D cy s σ125_7 H locs → W p l e { frames := 5, cells := 0, slots := 0, locals := 201 } s m [.ref (ad 0)].toArray below meth c H locs 0 0 (MQ below (wQv WM ad D cy res) [.ref (ad 0)].toArray s 0 0 (wA WM ad)) (F0 m 125 ls []) := by
        intro n
        induction n with
        | zero =>
          intro σ125_7 x3_125_7 x5_125_7 hf ls H locs hl hw
          exact (lp_zero hf).elim
        | succ n ih125_7 =>
          intro σ125_7 x3_125_7 x5_125_7 hf ls H locs hl hw
          obtain ⟨q125_7, hf, hz125_7⟩ := lp_succ hf
          rw [est125_7] at hf
          replace hf := un3_some hf
          refine lv_iload hx hb dX11_sessionGoes_125 (lv_at hl 5 rfl) ?_
          refine lv_iload hx hb dX11_sessionGoes_127 (lv_at hl 4 rfl) ?_
          refine lv_icmp_ge (tgt := 210) hx hb dX11_sessionGoes_129 (by decide) (fun c17 => ?_) (fun c17 => ?_)
          · have hf := (if_pos c17).symm.trans hf
            exact hx125_7 σ125_7 x3_125_7 (lpK_inr (lp_leaf hf hz125_7)) ls H locs (lv_sub hl [0, 2, 3] rfl) hw
          · have hf := (if_neg c17).symm.trans hf
            refine lv_aload_n hx hb dX11_sessionGoes_132 rfl (lv_at hl 0 rfl) ?_
            refine gX11_44 (b := 27) X hw sM0 nM0 rfl fl_X11_98 dX11_sessionGoes_133 ?_
            refine lv_iload hx hb dX11_sessionGoes_136 (lv_at hl 5 rfl) ?_
            obtain ⟨h18, hf⟩ := if_some hf
            refine wr_iald X hw sM27 nM27 h18 dX11_sessionGoes_138 ?_
            obtain ⟨v19, ev19, hf⟩ := wlet_some hf
            refine wr_top ev19 ?_
            refine lv_istore (lv' := [(6, .int v19), (0, .ref (ad 0)), (1, .int x1_e12_3), (2, .int x2_e12_3), (3, .int x3_125_7), (4, .int v6), (5, .int x5_125_7)]) hx hb dX11_sessionGoes_139 hl (by decide) rfl (fun ls hl => ?_)
            refine lv_aload_n hx hb dX11_sessionGoes_141 rfl (lv_at hl 1 rfl) ?_
            refine gX11_44 (b := 27) X hw sM0 nM0 rfl fl_X11_98 dX11_sessionGoes_142 ?_
            refine lv_iload hx hb dX11_sessionGoes_145 (lv_at hl 6 rfl) ?_
            refine lv_iconst (v := 0) hx hb dX11_sessionGoes_147 (by decide) ?_
            obtain ⟨h20, hf⟩ := if_some hf
            obtain ⟨σ21, eσ21, hf⟩ := wlet_some hf
            refine wr_iast X hw sM27 nM27 h20 dX11_sessionGoes_148 (fun H locs hw => ?_)
            replace hw := hw.to eσ21
            refine lv_iload_n hx hb dX11_sessionGoes_149 rfl (lv_at hl 2 rfl) ?_
            refine lv_iload hx hb dX11_sessionGoes_150 (lv_at hl 0 rfl) ?_
            refine lv_ishr hx hb dX11_sessionGoes_152 ?_
            refine lv_iconst (v := 1) hx hb dX11_sessionGoes_153 (by decide) ?_
            refine lv_iand hx hb dX11_sessionGoes_154 ?_
            refine lv_iconst (v := 1) hx hb dX11_sessionGoes_155 (by decide) ?_
            refine lv_icmp_ne (tgt := 173) hx hb dX11_sessionGoes_156 (by decide) (fun c22 => ?_) (fun c22 => ?_)
            · have hf := (if_neg c22).symm.trans hf
              refine lv_aload_n hx hb dX11_sessionGoes_173 rfl (lv_at hl 1 rfl) ?_
              refine gX11_44 (b := 27) X hw sM0 nM0 rfl fl_X11_98 dX11_sessionGoes_174 ?_
              refine lv_bipush (v := 17) hx hb dX11_sessionGoes_177 (by decide) ?_
              refine lv_iload hx hb dX11_sessionGoes_179 (lv_at hl 0 rfl) ?_
              refine lv_iadd hx hb dX11_sessionGoes_181 ?_
              refine lv_dup2_11 hx hb dX11_sessionGoes_182 rfl rfl ?_
              obtain ⟨h23, hf⟩ := if_some hf
              refine wr_iald X hw sM27 nM27 h23 dX11_sessionGoes_183 ?_
              refine lv_aload_n hx hb dX11_sessionGoes_184 rfl (lv_at hl 1 rfl) ?_
              refine gX11_46 (b := 28) X hw sM0 nM0 rfl fl_X11_101 dX11_sessionGoes_185 ?_
              refine lv_iload hx hb dX11_sessionGoes_188 (lv_at hl 6 rfl) ?_
              obtain ⟨h24, hf⟩ := if_some hf
              refine wr_iald X hw sM28 nM28 h24 dX11_sessionGoes_190 ?_
              refine lv_iadd hx hb dX11_sessionGoes_191 ?_
              obtain ⟨h25, hf⟩ := if_some hf
              obtain ⟨σ26, eσ26, hf⟩ := wlet_some hf
              refine wr_iast X hw sM27 nM27 h25 dX11_sessionGoes_192 (fun H locs hw => ?_)
              replace hw := hw.to eσ26
              refine lv_aload_n hx hb dX11_sessionGoes_193 rfl (lv_at hl 1 rfl) ?_
              refine gX11_44 (b := 27) X hw sM0 nM0 rfl fl_X11_98 dX11_sessionGoes_194 ?_
              refine lv_bipush (v := 25) hx hb dX11_sessionGoes_197 (by decide) ?_
              refine lv_dup2_11 hx hb dX11_sessionGoes_199 rfl rfl ?_
              obtain ⟨h27, hf⟩ := if_some hf
              refine wr_iald X hw sM27 nM27 h27 dX11_sessionGoes_200 ?_
              refine lv_iconst (v := 1) hx hb dX11_sessionGoes_201 (by decide) ?_
              refine lv_iadd hx hb dX11_sessionGoes_202 ?_
              obtain ⟨h28, hf⟩ := if_some hf
              obtain ⟨σ29, eσ29, hf⟩ := wlet_some hf
              refine wr_iast X hw sM27 nM27 h28 dX11_sessionGoes_203 (fun H locs hw => ?_)
              replace hw := hw.to eσ29
              obtain ⟨v30, ev30, hf⟩ := wlet_some hf
              refine lv_iinc (v := v30) (lv' := [(5, .int v30), (6, .int v19), (0, .ref (ad 0)), (1, .int x1_e12_3), (2, .int x2_e12_3), (3, .int x3_125_7), (4, .int v6)]) hx hb dX11_sessionGoes_204 hl (k := 6) rfl (by rw [ev30]; rfl) (by decide) rfl (fun ls hl => ?_)
              refine lv_goto (tgt := 125) hx hb dX11_sessionGoes_207 (by decide) ?_
              exact ih125_7 σ29 x3_125_7 v30 (lp_leaf hf hz125_7) ls H locs (lv_sub hl [2, 3, 4, 5, 6, 0] rfl) hw
            · have hf := (if_pos c22).symm.trans hf
              refine lv_aload_n hx hb dX11_sessionGoes_159 rfl (lv_at hl 1 rfl) ?_
              refine gX11_44 (b := 27) X hw sM0 nM0 rfl fl_X11_98 dX11_sessionGoes_160 ?_
              refine lv_iload_n hx hb dX11_sessionGoes_163 rfl (lv_at hl 4 rfl) ?_
              refine lv_iload hx hb dX11_sessionGoes_164 (lv_at hl 0 rfl) ?_
              obtain ⟨h31, hf⟩ := if_some hf
              obtain ⟨σ32, eσ32, hf⟩ := wlet_some hf
              refine wr_iast X hw sM27 nM27 h31 dX11_sessionGoes_166 (fun H locs hw => ?_)
              replace hw := hw.to eσ32
              obtain ⟨v33, ev33, hf⟩ := wlet_some hf
              refine lv_iinc (v := v33) (lv' := [(3, .int v33), (6, .int v19), (0, .ref (ad 0)), (1, .int x1_e12_3), (2, .int x2_e12_3), (4, .int v6), (5, .int x5_125_7)]) hx hb dX11_sessionGoes_167 hl (k := 4) rfl (by rw [ev33]; rfl) (by decide) rfl (fun ls hl => ?_)
              refine lv_goto (tgt := 204) hx hb dX11_sessionGoes_170 (by decide) ?_
              obtain ⟨v34, ev34, hf⟩ := wlet_some hf
              refine lv_iinc (v := v34) (lv' := [(5, .int v34), (3, .int v33), (6, .int v19), (0, .ref (ad 0)), (1, .int x1_e12_3), (2, .int x2_e12_3), (4, .int v6)]) hx hb dX11_sessionGoes_204 hl (k := 6) rfl (by rw [ev34]; rfl) (by decide) rfl (fun ls hl => ?_)
              refine lv_goto (tgt := 125) hx hb dX11_sessionGoes_207 (by decide) ?_
              exact ih125_7 σ32 v33 v34 (lp_leaf hf hz125_7) ls H locs (lv_sub hl [3, 4, 5, 1, 6, 0] rfl) hw
      exact lo125_7 fuel σe83_4 (0 : Int32) (0 : Int32) hq125_7 ls H locs (lv_sub hl [3, 4, 5, 2, 1, 0] rfl) hw
    have lo83_4 : ∀ (n : Nat) (σ83_4 : St) (x3_83_4 : Int32) (_ : lp st83_4 n (σ83_4, x3_83_4) = some E83_4) (ls : Array Slot) (H : Heap) (locs : List Loc), lv_has ls 7 [(0, .ref (ad 0)), (1, .int x1_e12_3), (2, .int x2_e12_3), (3, .int x3_83_4)] → wH WM ad D cy s σ83_4 H locs → W p l e { frames := 5, cells := 0, slots := 0, locals := 201 } s m [.ref (ad 0)].toArray below meth c H locs 0 0 (MQ below (wQv WM ad D cy res) [.ref (ad 0)].toArray s 0 0 (wA WM ad)) (F0 m 83 ls []) := by
      intro n
      induction n with
      | zero =>
        intro σ83_4 x3_83_4 hf ls H locs hl hw
        exact (lp_zero hf).elim
      | succ n ih83_4 =>
        intro σ83_4 x3_83_4 hf ls H locs hl hw
        obtain ⟨q83_4, hf, hz83_4⟩ := lp_succ hf
        rw [est83_4] at hf
        replace hf := un2_some hf
        refine lv_iload_n hx hb dX11_sessionGoes_83 rfl (lv_at hl 3 rfl) ?_
        refine lv_aload_n hx hb dX11_sessionGoes_84 rfl (lv_at hl 0 rfl) ?_
        refine gX11_44 (b := 27) X hw sM0 nM0 rfl fl_X11_98 dX11_sessionGoes_85 ?_
        refine lv_bipush (v := 7) hx hb dX11_sessionGoes_88 (by decide) ?_
        obtain ⟨h35, hf⟩ := if_some hf
        refine wr_iald X hw sM27 nM27 h35 dX11_sessionGoes_90 ?_
        refine lv_icmp_ge (tgt := 111) hx hb dX11_sessionGoes_91 (by decide) (fun c36 => ?_) (fun c36 => ?_)
        · have hf := (if_pos c36).symm.trans hf
          exact hx83_4 σ83_4 (lpK_inr (lp_leaf hf hz83_4)) ls H locs (lv_sub hl [0, 1, 2] rfl) hw
        · have hf := (if_neg c36).symm.trans hf
          refine lv_aload_n hx hb dX11_sessionGoes_94 rfl (lv_at hl 0 rfl) ?_
          refine gX11_46 (b := 28) X hw sM0 nM0 rfl fl_X11_101 dX11_sessionGoes_95 ?_
          refine lv_iload_n hx hb dX11_sessionGoes_98 rfl (lv_at hl 3 rfl) ?_
          refine lv_aload_n hx hb dX11_sessionGoes_99 rfl (lv_at hl 0 rfl) ?_
          refine lv_iload_n hx hb dX11_sessionGoes_100 rfl (lv_at hl 3 rfl) ?_
          obtain ⟨v38, σ39, hq37, hf⟩ := bnd2_some hf
          refine wr_cVi (r := v38) (σ' := σ39) (av := [.int x3_83_4]) (rest := [.int x3_83_4, .ref (ad 28)]) X hw hl.1 sM0 nM0 rfl (k_X11_sufferAt hI hq37) rfl ml_X11_324 im_X11_sufferAt se_X11_sufferAt ini_X11 co_X11_sufferAt hd_X11_sufferAt ⟨Nat.le_of_ble_eq_true rfl, Nat.le_of_ble_eq_true rfl⟩ (Nat.le_of_ble_eq_true rfl) dX11_sessionGoes_101 rfl (fun H locs hw => ?_)
          obtain ⟨h40, hf⟩ := if_some hf
          obtain ⟨σ41, eσ41, hf⟩ := wlet_some hf
          refine wr_iast X hw sM28 nM28 h40 dX11_sessionGoes_104 (fun H locs hw => ?_)
          replace hw := hw.to eσ41
          obtain ⟨v42, ev42, hf⟩ := wlet_some hf
          refine lv_iinc (v := v42) (lv' := [(3, .int v42), (0, .ref (ad 0)), (1, .int x1_e12_3), (2, .int x2_e12_3)]) hx hb dX11_sessionGoes_105 hl (k := 3) rfl (by rw [ev42]; rfl) (by decide) rfl (fun ls hl => ?_)
          refine lv_goto (tgt := 83) hx hb dX11_sessionGoes_108 (by decide) ?_
          exact ih83_4 σ41 v42 (lp_leaf hf hz83_4) ls H locs (lv_sub hl [1, 2, 3, 0] rfl) hw
    exact lo83_4 fuel σe12_3 (0 : Int32) hq83_4 ls H locs (lv_sub hl [1, 2, 3, 0] rfl) hw
  have lo12_3 : ∀ (n : Nat) (σ12_3 : St) (x1_12_3 : Int32) (x2_12_3 : Int32) (x3_12_3 : Int32) (_ : lp st12_3 n (σ12_3, x1_12_3, x2_12_3, x3_12_3) = some E12_3) (ls : Array Slot) (H : Heap) (locs : List Loc), lv_has ls 7 [(0, .ref (ad 0)), (1, .int x1_12_3), (2, .int x2_12_3), (3, .int x3_12_3)] → wH WM ad D cy s σ12_3 H locs → W p l e { frames := 5, cells := 0, slots := 0, locals := 201 } s m [.ref (ad 0)].toArray below meth c H locs 0 0 (MQ below (wQv WM ad D cy res) [.ref (ad 0)].toArray s 0 0 (wA WM ad)) (F0 m 12 ls []) := by
    intro n
    induction n with
    | zero =>
      intro σ12_3 x1_12_3 x2_12_3 x3_12_3 hf ls H locs hl hw
      exact (lp_zero hf).elim
    | succ n ih12_3 =>
      intro σ12_3 x1_12_3 x2_12_3 x3_12_3 hf ls H locs hl hw
      obtain ⟨q12_3, hf, hz12_3⟩ := lp_succ hf
      rw [est12_3] at hf
      replace hf := un4_some hf
      refine lv_iload_n hx hb dX11_sessionGoes_12 rfl (lv_at hl 3 rfl) ?_
      refine lv_aload_n hx hb dX11_sessionGoes_13 rfl (lv_at hl 0 rfl) ?_
      refine gX11_44 (b := 27) X hw sM0 nM0 rfl fl_X11_98 dX11_sessionGoes_14 ?_
      refine lv_bipush (v := 7) hx hb dX11_sessionGoes_17 (by decide) ?_
      obtain ⟨h43, hf⟩ := if_some hf
      refine wr_iald X hw sM27 nM27 h43 dX11_sessionGoes_19 ?_
      refine lv_icmp_ge (tgt := 81) hx hb dX11_sessionGoes_20 (by decide) (fun c44 => ?_) (fun c44 => ?_)
      · have hf := (if_pos c44).symm.trans hf
        exact hx12_3 σ12_3 x1_12_3 x2_12_3 (lpK_inr (lp_leaf hf hz12_3)) ls H locs (lv_sub hl [0, 1, 2] rfl) hw
      · have hf := (if_neg c44).symm.trans hf
        refine lv_aload_n hx hb dX11_sessionGoes_23 rfl (lv_at hl 0 rfl) ?_
        refine gX11_44 (b := 27) X hw sM0 nM0 rfl fl_X11_98 dX11_sessionGoes_24 ?_
        refine lv_iload_n hx hb dX11_sessionGoes_27 rfl (lv_at hl 3 rfl) ?_
        obtain ⟨h45, hf⟩ := if_some hf
        refine wr_iald X hw sM27 nM27 h45 dX11_sessionGoes_28 ?_
        obtain ⟨v46, ev46, hf⟩ := wlet_some hf
        refine wr_top ev46 ?_
        refine lv_istore (lv' := [(4, .int v46), (0, .ref (ad 0)), (1, .int x1_12_3), (2, .int x2_12_3), (3, .int x3_12_3)]) hx hb dX11_sessionGoes_29 hl (by decide) rfl (fun ls hl => ?_)
        refine lv_aload_n hx hb dX11_sessionGoes_31 rfl (lv_at hl 1 rfl) ?_
        refine lv_bipush (v := 8) hx hb dX11_sessionGoes_32 (by decide) ?_
        refine lv_aload_n hx hb dX11_sessionGoes_34 rfl (lv_at hl 1 rfl) ?_
        refine gX11_44 (b := 27) X hw sM0 nM0 rfl fl_X11_98 dX11_sessionGoes_35 ?_
        refine lv_bipush (v := 8) hx hb dX11_sessionGoes_38 (by decide) ?_
        obtain ⟨h47, hf⟩ := if_some hf
        refine wr_iald X hw sM27 nM27 h47 dX11_sessionGoes_40 ?_
        refine lv_imul hx hb dX11_sessionGoes_41 ?_
        refine lv_iload hx hb dX11_sessionGoes_42 (lv_at hl 0 rfl) ?_
        refine lv_iadd hx hb dX11_sessionGoes_44 ?_
        obtain ⟨v49, hq48, hf⟩ := bind_some hf
        refine wr_cVi (r := v49) (σ' := σ12_3) (av := [.int (((8 : Int32) * (σ12_3.1 27 (Int32.toNatClampNeg (8 : Int32)))) + v46)]) (rest := []) X hw hl.1 sM0 nM0 rfl (k_X11_lotOf hI hq48) rfl ml_X11_333 im_X11_lotOf se_X11_lotOf ini_X11 co_X11_lotOf hd_X11_lotOf ⟨Nat.le_of_ble_eq_true rfl, Nat.le_of_ble_eq_true rfl⟩ (Nat.le_of_ble_eq_true rfl) dX11_sessionGoes_45 rfl (fun H locs hw => ?_)
        refine lv_aload_n hx hb dX11_sessionGoes_48 rfl (lv_at hl 1 rfl) ?_
        refine lv_iload hx hb dX11_sessionGoes_49 (lv_at hl 0 rfl) ?_
        refine lv_iload_n hx hb dX11_sessionGoes_51 rfl (lv_at hl 4 rfl) ?_
        obtain ⟨v51, σ52, hq50, hf⟩ := bnd2_some hf
        refine wr_cVi (r := v51) (σ' := σ52) (av := [.int v46, .int x3_12_3]) (rest := [.int v49]) X hw hl.1 sM0 nM0 rfl (k_X11_adjournsOf hI hq50) rfl ml_X11_336 im_X11_adjournsOf se_X11_adjournsOf ini_X11 co_X11_adjournsOf hd_X11_adjournsOf ⟨Nat.le_of_ble_eq_true rfl, Nat.le_of_ble_eq_true rfl⟩ (Nat.le_of_ble_eq_true rfl) dX11_sessionGoes_52 rfl (fun H locs hw => ?_)
        refine lv_icmp_ge (tgt := 68) hx hb dX11_sessionGoes_55 (by decide) (fun c53 => ?_) (fun c53 => ?_)
        · have hf := (if_pos c53).symm.trans hf
          refine lv_aload_n hx hb dX11_sessionGoes_68 rfl (lv_at hl 1 rfl) ?_
          refine lv_iload hx hb dX11_sessionGoes_69 (lv_at hl 0 rfl) ?_
          obtain ⟨v55, hq54, hf⟩ := bind_some hf
          refine wr_cVi (r := v55) (σ' := σ52) (av := [.int v46]) (rest := []) X hw hl.1 sM0 nM0 rfl (k_X11_deedAt hI hq54) rfl ml_X11_299 im_X11_deedAt se_X11_deedAt ini_X11 co_X11_deedAt hd_X11_deedAt ⟨Nat.le_of_ble_eq_true rfl, Nat.le_of_ble_eq_true rfl⟩ (Nat.le_of_ble_eq_true rfl) dX11_sessionGoes_71 rfl (fun H locs hw => ?_)
          refine lv_istore_n (lv' := [(2, .int v55), (4, .int v46), (0, .ref (ad 0)), (1, .int x1_12_3), (3, .int x3_12_3)]) hx hb dX11_sessionGoes_74 rfl hl (by decide) rfl (fun ls hl => ?_)
          obtain ⟨v56, ev56, hf⟩ := wlet_some hf
          refine lv_iinc (v := v56) (lv' := [(3, .int v56), (2, .int v55), (4, .int v46), (0, .ref (ad 0)), (1, .int x1_12_3)]) hx hb dX11_sessionGoes_75 hl (k := 4) rfl (by rw [ev56]; rfl) (by decide) rfl (fun ls hl => ?_)
          refine lv_goto (tgt := 12) hx hb dX11_sessionGoes_78 (by decide) ?_
          exact ih12_3 σ52 x1_12_3 v55 v56 (lp_leaf hf hz12_3) ls H locs (lv_sub hl [3, 4, 1, 0] rfl) hw
        · have hf := (if_neg c53).symm.trans hf
          refine lv_iload_n hx hb dX11_sessionGoes_58 rfl (lv_at hl 2 rfl) ?_
          refine lv_iconst (v := 1) hx hb dX11_sessionGoes_59 (by decide) ?_
          refine lv_iload hx hb dX11_sessionGoes_60 (lv_at hl 0 rfl) ?_
          refine lv_ishl hx hb dX11_sessionGoes_62 ?_
          refine lv_ior hx hb dX11_sessionGoes_63 ?_
          obtain ⟨v57, ev57, hf⟩ := wlet_some hf
          refine wr_top ev57 ?_
          refine lv_istore_n (lv' := [(1, .int v57), (4, .int v46), (0, .ref (ad 0)), (2, .int x2_12_3), (3, .int x3_12_3)]) hx hb dX11_sessionGoes_64 rfl hl (by decide) rfl (fun ls hl => ?_)
          refine lv_goto (tgt := 75) hx hb dX11_sessionGoes_65 (by decide) ?_
          obtain ⟨v58, ev58, hf⟩ := wlet_some hf
          refine lv_iinc (v := v58) (lv' := [(3, .int v58), (1, .int v57), (4, .int v46), (0, .ref (ad 0)), (2, .int x2_12_3)]) hx hb dX11_sessionGoes_75 hl (k := 4) rfl (by rw [ev58]; rfl) (by decide) rfl (fun ls hl => ?_)
          refine lv_goto (tgt := 12) hx hb dX11_sessionGoes_78 (by decide) ?_
          exact ih12_3 σ52 v57 x2_12_3 v58 (lp_leaf hf hz12_3) ls H locs (lv_sub hl [3, 1, 4, 0] rfl) hw
  exact lo12_3 fuel σ (0 : Int32) v2 (0 : Int32) hq12_3 ls H locs (lv_sub hl [3, 2, 1, 0] rfl) hw

def f_X11_goes (σ : St) (x1 : Int32) : Option (St) := wlet (un2 (fun (σ2_1 : St) (x2_2_1 : Int32) => if x1 ≤ x2_2_1 then (some (.inr σ2_1)) else (Option.bind (f_X11_sessionGoes σ2_1) fun σ4 => wlet (x2_2_1 + (1 : Int32)) fun v5 => some (.inl (σ4, v5)))) : St × Int32 → Option ((St × Int32) ⊕ (St))) fun st2_1 => Option.bind (lp st2_1 fuel (σ, (0 : Int32))) ((fun (σe2_1 : St) => some σe2_1))
theorem hd_X11_goes : yX11_goes.cls = RX11 ∧ yX11_goes.cls ≠ "java/lang/invoke/MethodHandle" ∧ yX11_goes.cls ≠ "java/lang/invoke/VarHandle" ∧ (parseMethodDescriptor yX11_goes.desc).map (fun d => d.parameters.length) = some 1 := by decide +kernel
set_option maxRecDepth 100000 in
set_option maxHeartbeats 4000000 in
theorem k_X11_goes {l : Launch} {ad : Nat → Nat} {D : va_G} {cy : Nat → ClassId} {z : wStr} (hI : wI WM ad) {σ : St} {x1 : Int32}  {res : St} (hf : f_X11_goes σ x1 = some res) : wC WM ad D cy z l yX11_goes (Cond.code yX11_goes cX11_goes 3 (none) :: aw) (6) (227) [.ref (ad 0), .int x1] σ (wQv WM ad D cy res) := by
  unfold f_X11_goes at hf
  refine wr_start (own := RX11) hI (by decide +kernel) rfl (Nat.le_of_ble_eq_true rfl) rfl ?_
  intro p e s m below meth c ls X hw hr hl
  have hx := X.hx
  have hb := X.hb
  obtain ⟨H, eH⟩ : ∃ H : Heap, H = s.heap := ⟨_, rfl⟩
  obtain ⟨locs, el⟩ : ∃ locs : List Loc, locs = [] := ⟨_, rfl⟩
  rw [← eH, ← el] at hw ⊢
  clear eH el
  replace hl : lv_has ls 3 [(0, .ref (ad 0)), (1, .int x1)] := hl
  refine lv_iconst (v := 0) hx hb dX11_goes_0 (by decide) ?_
  refine lv_istore_n (lv' := [(2, .int (0 : Int32)), (0, .ref (ad 0)), (1, .int x1)]) hx hb dX11_goes_1 rfl hl (by decide) rfl (fun ls hl => ?_)
  obtain ⟨st2_1, est2_1, hf⟩ := wlet_some hf
  obtain ⟨E2_1, hq2_1, hE2_1⟩ := bind_some hf
  have hx2_1 : ∀ (σe2_1 : St) (_ : σe2_1 = E2_1) (ls : Array Slot) (H : Heap) (locs : List Loc), lv_has ls 3 [] → wH WM ad D cy s σe2_1 H locs → W p l e { frames := 6, cells := 0, slots := 0, locals := 227 } s m [.ref (ad 0), .int x1].toArray below meth c H locs 0 0 (MQ below (wQv WM ad D cy res) [.ref (ad 0), .int x1].toArray s 0 0 (wA WM ad)) (F0 m 17 ls []) := by
    intro σe2_1 e0 ls H locs hl hw
    subst e0
    have hf := hE2_1
    have er := Option.some.inj hf
    subst er
    exact wr_vret X hw hr dX11_goes_17
  have lo2_1 : ∀ (n : Nat) (σ2_1 : St) (x2_2_1 : Int32) (_ : lp st2_1 n (σ2_1, x2_2_1) = some E2_1) (ls : Array Slot) (H : Heap) (locs : List Loc), lv_has ls 3 [(0, .ref (ad 0)), (1, .int x1), (2, .int x2_2_1)] → wH WM ad D cy s σ2_1 H locs → W p l e { frames := 6, cells := 0, slots := 0, locals := 227 } s m [.ref (ad 0), .int x1].toArray below meth c H locs 0 0 (MQ below (wQv WM ad D cy res) [.ref (ad 0), .int x1].toArray s 0 0 (wA WM ad)) (F0 m 2 ls []) := by
    intro n
    induction n with
    | zero =>
      intro σ2_1 x2_2_1 hf ls H locs hl hw
      exact (lp_zero hf).elim
    | succ n ih2_1 =>
      intro σ2_1 x2_2_1 hf ls H locs hl hw
      obtain ⟨q2_1, hf, hz2_1⟩ := lp_succ hf
      rw [est2_1] at hf
      replace hf := un2_some hf
      refine lv_iload_n hx hb dX11_goes_2 rfl (lv_at hl 2 rfl) ?_
      refine lv_iload_n hx hb dX11_goes_3 rfl (lv_at hl 1 rfl) ?_
      refine lv_icmp_ge (tgt := 17) hx hb dX11_goes_4 (by decide) (fun c2 => ?_) (fun c2 => ?_)
      · have hf := (if_pos c2).symm.trans hf
        exact hx2_1 σ2_1 (lpK_inr (lp_leaf hf hz2_1)) ls H locs (lv_sub hl [] rfl) hw
      · have hf := (if_neg c2).symm.trans hf
        refine lv_aload_n hx hb dX11_goes_7 rfl (lv_at hl 0 rfl) ?_
        obtain ⟨σ4, hq3, hf⟩ := bind_some hf
        refine wr_cVv (σ' := σ4) (av := []) (rest := []) X hw hl.1 sM0 nM0 rfl (k_X11_sessionGoes hI hq3) rfl ml_X11_339 im_X11_sessionGoes se_X11_sessionGoes ini_X11 co_X11_sessionGoes hd_X11_sessionGoes ⟨Nat.le_of_ble_eq_true rfl, Nat.le_of_ble_eq_true rfl⟩ (Nat.le_of_ble_eq_true rfl) dX11_goes_8 rfl (fun H locs hw => ?_)
        obtain ⟨v5, ev5, hf⟩ := wlet_some hf
        refine lv_iinc (v := v5) (lv' := [(2, .int v5), (0, .ref (ad 0)), (1, .int x1)]) hx hb dX11_goes_11 hl (k := 2) rfl (by rw [ev5]; rfl) (by decide) rfl (fun ls hl => ?_)
        refine lv_goto (tgt := 2) hx hb dX11_goes_14 (by decide) ?_
        exact ih2_1 σ4 v5 (lp_leaf hf hz2_1) ls H locs (lv_sub hl [1, 2, 0] rfl) hw
  exact lo2_1 fuel σ (0 : Int32) hq2_1 ls H locs (lv_sub hl [1, 2, 0] rfl) hw

def f_X11_hold (σ : St) (x1 : Int32) : Option (Int32 × St) := Option.bind (f_X11_in x1 (0 : Int32) (2 : Int32)) fun v2 => if v2 = 0 then (some ((0 : Int32), σ)) else (if ib x1 3 = true then wlet (si σ 36 (Int32.toNatClampNeg x1) (vp_nar .boolean (1 : Int32))) fun σ5 => wlet (un2 (fun (σ20_6 : St) (x2_20_6 : Int32) => if (26 : Int32) ≤ x2_20_6 then (some (.inr σ20_6)) else (if ib x2_20_6 26 = true then if ib (((26 : Int32) * x1) + x2_20_6) 78 = true then wlet (si σ20_6 37 (Int32.toNatClampNeg (((26 : Int32) * x1) + x2_20_6)) (σ20_6.1 26 (Int32.toNatClampNeg x2_20_6))) fun σ10 => wlet (x2_20_6 + (1 : Int32)) fun v11 => some (.inl (σ10, v11)) else none else none)) : St × Int32 → Option ((St × Int32) ⊕ (St))) fun st20_6 => Option.bind (lp st20_6 fuel (σ5, (0 : Int32))) ((fun (σe20_6 : St) => some ((1 : Int32), σe20_6))) else none)
theorem hd_X11_hold : yX11_hold.cls = RX11 ∧ yX11_hold.cls ≠ "java/lang/invoke/MethodHandle" ∧ yX11_hold.cls ≠ "java/lang/invoke/VarHandle" ∧ (parseMethodDescriptor yX11_hold.desc).map (fun d => d.parameters.length) = some 1 := by decide +kernel
set_option maxRecDepth 100000 in
set_option maxHeartbeats 4000000 in
theorem k_X11_hold {l : Launch} {ad : Nat → Nat} {D : va_G} {cy : Nat → ClassId} {z : wStr} (hI : wI WM ad) {σ : St} {x1 : Int32}  {res : Int32 × St} (hf : f_X11_hold σ x1 = some res) : wC WM ad D cy z l yX11_hold (Cond.code yX11_hold cX11_hold 3 (Option.some Jvm.ClassFile.FieldType.boolean) :: aw) (2) (122) [.ref (ad 0), .int x1] σ (wQi WM ad D cy res.1 res.2) := by
  unfold f_X11_hold at hf
  refine wr_start (own := RX11) hI (by decide +kernel) rfl (Nat.le_of_ble_eq_true rfl) rfl ?_
  intro p e s m below meth c ls X hw hr hl
  have hx := X.hx
  have hb := X.hb
  obtain ⟨H, eH⟩ : ∃ H : Heap, H = s.heap := ⟨_, rfl⟩
  obtain ⟨locs, el⟩ : ∃ locs : List Loc, locs = [] := ⟨_, rfl⟩
  rw [← eH, ← el] at hw ⊢
  clear eH el
  replace hl : lv_has ls 3 [(0, .ref (ad 0)), (1, .int x1)] := hl
  refine lv_iload_n hx hb dX11_hold_0 rfl (lv_at hl 1 rfl) ?_
  refine lv_iconst (v := 0) hx hb dX11_hold_1 (by decide) ?_
  refine lv_iconst (v := 2) hx hb dX11_hold_2 (by decide) ?_
  obtain ⟨v2, hq1, hf⟩ := bind_some hf
  refine wr_cSi (r := v2) (σ' := σ) (av := [.int x1, .int (0 : Int32), .int (2 : Int32)]) (rest := []) X hw hl.1 (k_X11_in hI hq1) rfl ml_X11_282 st_X11_in ini_X11 co_X11_in hd_X11_in ⟨Nat.le_of_ble_eq_true rfl, Nat.le_of_ble_eq_true rfl⟩ (Nat.le_of_ble_eq_true rfl) dX11_hold_3 rfl (fun H locs hw => ?_)
  refine lv_if_ne (tgt := 11) hx hb dX11_hold_6 (by decide) (fun c3 => ?_) (fun c3 => ?_)
  · have hf := (if_neg c3).symm.trans hf
    refine lv_aload_n hx hb dX11_hold_11 rfl (lv_at hl 0 rfl) ?_
    refine gX11_57 (b := 36) X hw sM0 nM0 rfl fl_X11_125 dX11_hold_12 ?_
    refine lv_iload_n hx hb dX11_hold_15 rfl (lv_at hl 1 rfl) ?_
    refine lv_iconst (v := 1) hx hb dX11_hold_16 (by decide) ?_
    obtain ⟨h4, hf⟩ := if_some hf
    obtain ⟨σ5, eσ5, hf⟩ := wlet_some hf
    refine wr_zast X hw sM36 nM36 h4 dX11_hold_17 (fun H locs hw => ?_)
    replace hw := hw.to eσ5
    refine lv_iconst (v := 0) hx hb dX11_hold_18 (by decide) ?_
    refine lv_istore_n (lv' := [(2, .int (0 : Int32)), (0, .ref (ad 0)), (1, .int x1)]) hx hb dX11_hold_19 rfl hl (by decide) rfl (fun ls hl => ?_)
    obtain ⟨st20_6, est20_6, hf⟩ := wlet_some hf
    obtain ⟨E20_6, hq20_6, hE20_6⟩ := bind_some hf
    have hx20_6 : ∀ (σe20_6 : St) (_ : σe20_6 = E20_6) (ls : Array Slot) (H : Heap) (locs : List Loc), lv_has ls 3 [] → wH WM ad D cy s σe20_6 H locs → W p l e { frames := 2, cells := 0, slots := 0, locals := 122 } s m [.ref (ad 0), .int x1].toArray below meth c H locs 0 0 (MQ below (wQi WM ad D cy res.1 res.2) [.ref (ad 0), .int x1].toArray s 0 0 (wA WM ad)) (F0 m 49 ls []) := by
      intro σe20_6 e0 ls H locs hl hw
      subst e0
      have hf := hE20_6
      refine lv_iconst (v := 1) hx hb dX11_hold_49 (by decide) ?_
      have er := Option.some.inj hf
      subst er
      exact wr_iret X hw hr (Or.inr ⟨rfl, (show bz (1 : Int32) = true from rfl)⟩) dX11_hold_50
    have lo20_6 : ∀ (n : Nat) (σ20_6 : St) (x2_20_6 : Int32) (_ : lp st20_6 n (σ20_6, x2_20_6) = some E20_6) (ls : Array Slot) (H : Heap) (locs : List Loc), lv_has ls 3 [(0, .ref (ad 0)), (1, .int x1), (2, .int x2_20_6)] → wH WM ad D cy s σ20_6 H locs → W p l e { frames := 2, cells := 0, slots := 0, locals := 122 } s m [.ref (ad 0), .int x1].toArray below meth c H locs 0 0 (MQ below (wQi WM ad D cy res.1 res.2) [.ref (ad 0), .int x1].toArray s 0 0 (wA WM ad)) (F0 m 20 ls []) := by
      intro n
      induction n with
      | zero =>
        intro σ20_6 x2_20_6 hf ls H locs hl hw
        exact (lp_zero hf).elim
      | succ n ih20_6 =>
        intro σ20_6 x2_20_6 hf ls H locs hl hw
        obtain ⟨q20_6, hf, hz20_6⟩ := lp_succ hf
        rw [est20_6] at hf
        replace hf := un2_some hf
        refine lv_iload_n hx hb dX11_hold_20 rfl (lv_at hl 2 rfl) ?_
        refine lv_bipush (v := 26) hx hb dX11_hold_21 (by decide) ?_
        refine lv_icmp_ge (tgt := 49) hx hb dX11_hold_23 (by decide) (fun c7 => ?_) (fun c7 => ?_)
        · have hf := (if_pos c7).symm.trans hf
          exact hx20_6 σ20_6 (lpK_inr (lp_leaf hf hz20_6)) ls H locs (lv_sub hl [] rfl) hw
        · have hf := (if_neg c7).symm.trans hf
          refine lv_aload_n hx hb dX11_hold_26 rfl (lv_at hl 0 rfl) ?_
          refine gX11_58 (b := 37) X hw sM0 nM0 rfl fl_X11_128 dX11_hold_27 ?_
          refine lv_bipush (v := 26) hx hb dX11_hold_30 (by decide) ?_
          refine lv_iload_n hx hb dX11_hold_32 rfl (lv_at hl 1 rfl) ?_
          refine lv_imul hx hb dX11_hold_33 ?_
          refine lv_iload_n hx hb dX11_hold_34 rfl (lv_at hl 2 rfl) ?_
          refine lv_iadd hx hb dX11_hold_35 ?_
          refine lv_aload_n hx hb dX11_hold_36 rfl (lv_at hl 0 rfl) ?_
          refine gX11_43 (b := 26) X hw sM0 nM0 rfl fl_X11_95 dX11_hold_37 ?_
          refine lv_iload_n hx hb dX11_hold_40 rfl (lv_at hl 2 rfl) ?_
          obtain ⟨h8, hf⟩ := if_some hf
          refine wr_iald X hw sM26 nM26 h8 dX11_hold_41 ?_
          obtain ⟨h9, hf⟩ := if_some hf
          obtain ⟨σ10, eσ10, hf⟩ := wlet_some hf
          refine wr_iast X hw sM37 nM37 h9 dX11_hold_42 (fun H locs hw => ?_)
          replace hw := hw.to eσ10
          obtain ⟨v11, ev11, hf⟩ := wlet_some hf
          refine lv_iinc (v := v11) (lv' := [(2, .int v11), (0, .ref (ad 0)), (1, .int x1)]) hx hb dX11_hold_43 hl (k := 2) rfl (by rw [ev11]; rfl) (by decide) rfl (fun ls hl => ?_)
          refine lv_goto (tgt := 20) hx hb dX11_hold_46 (by decide) ?_
          exact ih20_6 σ10 v11 (lp_leaf hf hz20_6) ls H locs (lv_sub hl [1, 2, 0] rfl) hw
    exact lo20_6 fuel σ5 (0 : Int32) hq20_6 ls H locs (lv_sub hl [1, 2, 0] rfl) hw
  · have hf := (if_pos c3).symm.trans hf
    refine lv_iconst (v := 0) hx hb dX11_hold_9 (by decide) ?_
    have er := Option.some.inj hf
    subst er
    exact wr_iret X hw hr (Or.inr ⟨rfl, (show bz (0 : Int32) = true from rfl)⟩) dX11_hold_10

def f_X11_isLong (x0 : Int32) : Option (Int32) := Option.bind (f_X11_in x0 (0 : Int32) (40 : Int32)) fun v2 => if bz v2 = true then some v2 else none
theorem hd_X11_isLong : yX11_isLong.cls ≠ "java/lang/invoke/MethodHandle" ∧ yX11_isLong.cls ≠ "java/lang/invoke/VarHandle" ∧ (parseMethodDescriptor yX11_isLong.desc).map (fun d => d.parameters.length) = some 1 := by decide +kernel
set_option maxRecDepth 100000 in
set_option maxHeartbeats 4000000 in
theorem k_X11_isLong {l : Launch} {ad : Nat → Nat} {D : va_G} {cy : Nat → ClassId} {z : wStr} (hI : wI WM ad) {σ : St} {x0 : Int32}  {res : Int32} (hf : f_X11_isLong x0 = some res) : wC WM ad D cy z l yX11_isLong (Cond.code yX11_isLong cX11_isLong 1 (Option.some Jvm.ClassFile.FieldType.boolean) :: aw) (2) (122) [.int x0] σ (wQi WM ad D cy res σ) := by
  unfold f_X11_isLong at hf
  refine wr_start (own := RX11) hI (by decide +kernel) rfl (Nat.le_of_ble_eq_true rfl) rfl ?_
  intro p e s m below meth c ls X hw hr hl
  have hx := X.hx
  have hb := X.hb
  obtain ⟨H, eH⟩ : ∃ H : Heap, H = s.heap := ⟨_, rfl⟩
  obtain ⟨locs, el⟩ : ∃ locs : List Loc, locs = [] := ⟨_, rfl⟩
  rw [← eH, ← el] at hw ⊢
  clear eH el
  replace hl : lv_has ls 1 [(0, .int x0)] := hl
  refine lv_iload_n hx hb dX11_isLong_0 rfl (lv_at hl 0 rfl) ?_
  refine lv_iconst (v := 0) hx hb dX11_isLong_1 (by decide) ?_
  refine lv_bipush (v := 40) hx hb dX11_isLong_2 (by decide) ?_
  obtain ⟨v2, hq1, hf⟩ := bind_some hf
  refine wr_cSi (r := v2) (σ' := σ) (av := [.int x0, .int (0 : Int32), .int (40 : Int32)]) (rest := []) X hw hl.1 (k_X11_in hI hq1) rfl ml_X11_282 st_X11_in ini_X11 co_X11_in hd_X11_in ⟨Nat.le_of_ble_eq_true rfl, Nat.le_of_ble_eq_true rfl⟩ (Nat.le_of_ble_eq_true rfl) dX11_isLong_4 rfl (fun H locs hw => ?_)
  obtain ⟨hz, hf⟩ := if_some hf
  have er := Option.some.inj hf
  subst er
  exact wr_iret X hw hr (Or.inr ⟨rfl, hz⟩) dX11_isLong_7

def f_X11_putsOff (σ : St) (x1 : Int32) : Option (St) := if ib (24 : Int32) 26 = true then if ib x1 26 = true then if ib (24 : Int32) 26 = true then wlet (si σ 27 (Int32.toNatClampNeg (24 : Int32)) ((σ.1 27 (Int32.toNatClampNeg (24 : Int32))) &&& (((1 : Int32) <<< ((σ.1 27 (Int32.toNatClampNeg x1)) &&& 31)) ^^^ (-1 : Int32)))) fun σ4 => if ib (7 : Int32) 26 = true then Option.bind (f_X11_moves σ4 x1 ((σ4.1 27 (Int32.toNatClampNeg (7 : Int32))) - (1 : Int32))) fun σ7 => if ib (7 : Int32) 26 = true then if ib (7 : Int32) 26 = true then wlet (si σ7 27 (Int32.toNatClampNeg (7 : Int32)) ((σ7.1 27 (Int32.toNatClampNeg (7 : Int32))) - (1 : Int32))) fun σ10 => if ib (7 : Int32) 26 = true then if ib (σ10.1 27 (Int32.toNatClampNeg (7 : Int32))) 26 = true then wlet (si σ10 27 (Int32.toNatClampNeg (σ10.1 27 (Int32.toNatClampNeg (7 : Int32)))) (0 : Int32)) fun σ13 => some σ13 else none else none else none else none else none else none else none else none
theorem hd_X11_putsOff : yX11_putsOff.cls = RX11 ∧ yX11_putsOff.cls ≠ "java/lang/invoke/MethodHandle" ∧ yX11_putsOff.cls ≠ "java/lang/invoke/VarHandle" ∧ (parseMethodDescriptor yX11_putsOff.desc).map (fun d => d.parameters.length) = some 1 := by decide +kernel
set_option maxRecDepth 100000 in
set_option maxHeartbeats 4000000 in
theorem k_X11_putsOff {l : Launch} {ad : Nat → Nat} {D : va_G} {cy : Nat → ClassId} {z : wStr} (hI : wI WM ad) {σ : St} {x1 : Int32}  {res : St} (hf : f_X11_putsOff σ x1 = some res) : wC WM ad D cy z l yX11_putsOff (Cond.code yX11_putsOff cX11_putsOff 2 (none) :: aw) (2) (124) [.ref (ad 0), .int x1] σ (wQv WM ad D cy res) := by
  unfold f_X11_putsOff at hf
  refine wr_start (own := RX11) hI (by decide +kernel) rfl (Nat.le_of_ble_eq_true rfl) rfl ?_
  intro p e s m below meth c ls X hw hr hl
  have hx := X.hx
  have hb := X.hb
  obtain ⟨H, eH⟩ : ∃ H : Heap, H = s.heap := ⟨_, rfl⟩
  obtain ⟨locs, el⟩ : ∃ locs : List Loc, locs = [] := ⟨_, rfl⟩
  rw [← eH, ← el] at hw ⊢
  clear eH el
  replace hl : lv_has ls 2 [(0, .ref (ad 0)), (1, .int x1)] := hl
  refine lv_aload_n hx hb dX11_putsOff_0 rfl (lv_at hl 0 rfl) ?_
  refine gX11_44 (b := 27) X hw sM0 nM0 rfl fl_X11_98 dX11_putsOff_1 ?_
  refine lv_bipush (v := 24) hx hb dX11_putsOff_4 (by decide) ?_
  refine lv_dup2_11 hx hb dX11_putsOff_6 rfl rfl ?_
  obtain ⟨h1, hf⟩ := if_some hf
  refine wr_iald X hw sM27 nM27 h1 dX11_putsOff_7 ?_
  refine lv_iconst (v := 1) hx hb dX11_putsOff_8 (by decide) ?_
  refine lv_aload_n hx hb dX11_putsOff_9 rfl (lv_at hl 0 rfl) ?_
  refine gX11_44 (b := 27) X hw sM0 nM0 rfl fl_X11_98 dX11_putsOff_10 ?_
  refine lv_iload_n hx hb dX11_putsOff_13 rfl (lv_at hl 1 rfl) ?_
  obtain ⟨h2, hf⟩ := if_some hf
  refine wr_iald X hw sM27 nM27 h2 dX11_putsOff_14 ?_
  refine lv_ishl hx hb dX11_putsOff_15 ?_
  refine lv_iconst (v := -1) hx hb dX11_putsOff_16 (by decide) ?_
  refine lv_ixor hx hb dX11_putsOff_17 ?_
  refine lv_iand hx hb dX11_putsOff_18 ?_
  obtain ⟨h3, hf⟩ := if_some hf
  obtain ⟨σ4, eσ4, hf⟩ := wlet_some hf
  refine wr_iast X hw sM27 nM27 h3 dX11_putsOff_19 (fun H locs hw => ?_)
  replace hw := hw.to eσ4
  refine lv_aload_n hx hb dX11_putsOff_20 rfl (lv_at hl 0 rfl) ?_
  refine lv_iload_n hx hb dX11_putsOff_21 rfl (lv_at hl 1 rfl) ?_
  refine lv_aload_n hx hb dX11_putsOff_22 rfl (lv_at hl 0 rfl) ?_
  refine gX11_44 (b := 27) X hw sM0 nM0 rfl fl_X11_98 dX11_putsOff_23 ?_
  refine lv_bipush (v := 7) hx hb dX11_putsOff_26 (by decide) ?_
  obtain ⟨h5, hf⟩ := if_some hf
  refine wr_iald X hw sM27 nM27 h5 dX11_putsOff_28 ?_
  refine lv_iconst (v := 1) hx hb dX11_putsOff_29 (by decide) ?_
  refine lv_isub hx hb dX11_putsOff_30 ?_
  obtain ⟨σ7, hq6, hf⟩ := bind_some hf
  refine wr_cVv (σ' := σ7) (av := [.int x1, .int ((σ4.1 27 (Int32.toNatClampNeg (7 : Int32))) - (1 : Int32))]) (rest := []) X hw hl.1 sM0 nM0 rfl (k_X11_moves hI hq6) rfl ml_X11_330 im_X11_moves se_X11_moves ini_X11 co_X11_moves hd_X11_moves ⟨Nat.le_of_ble_eq_true rfl, Nat.le_of_ble_eq_true rfl⟩ (Nat.le_of_ble_eq_true rfl) dX11_putsOff_31 rfl (fun H locs hw => ?_)
  refine lv_aload_n hx hb dX11_putsOff_34 rfl (lv_at hl 0 rfl) ?_
  refine gX11_44 (b := 27) X hw sM0 nM0 rfl fl_X11_98 dX11_putsOff_35 ?_
  refine lv_bipush (v := 7) hx hb dX11_putsOff_38 (by decide) ?_
  refine lv_dup2_11 hx hb dX11_putsOff_40 rfl rfl ?_
  obtain ⟨h8, hf⟩ := if_some hf
  refine wr_iald X hw sM27 nM27 h8 dX11_putsOff_41 ?_
  refine lv_iconst (v := 1) hx hb dX11_putsOff_42 (by decide) ?_
  refine lv_isub hx hb dX11_putsOff_43 ?_
  obtain ⟨h9, hf⟩ := if_some hf
  obtain ⟨σ10, eσ10, hf⟩ := wlet_some hf
  refine wr_iast X hw sM27 nM27 h9 dX11_putsOff_44 (fun H locs hw => ?_)
  replace hw := hw.to eσ10
  refine lv_aload_n hx hb dX11_putsOff_45 rfl (lv_at hl 0 rfl) ?_
  refine gX11_44 (b := 27) X hw sM0 nM0 rfl fl_X11_98 dX11_putsOff_46 ?_
  refine lv_aload_n hx hb dX11_putsOff_49 rfl (lv_at hl 0 rfl) ?_
  refine gX11_44 (b := 27) X hw sM0 nM0 rfl fl_X11_98 dX11_putsOff_50 ?_
  refine lv_bipush (v := 7) hx hb dX11_putsOff_53 (by decide) ?_
  obtain ⟨h11, hf⟩ := if_some hf
  refine wr_iald X hw sM27 nM27 h11 dX11_putsOff_55 ?_
  refine lv_iconst (v := 0) hx hb dX11_putsOff_56 (by decide) ?_
  obtain ⟨h12, hf⟩ := if_some hf
  obtain ⟨σ13, eσ13, hf⟩ := wlet_some hf
  refine wr_iast X hw sM27 nM27 h12 dX11_putsOff_57 (fun H locs hw => ?_)
  replace hw := hw.to eσ13
  have er := Option.some.inj hf
  subst er
  exact wr_vret X hw hr dX11_putsOff_58

def f_X11_without (σ : St) (x1 : Int32) : Option (Int32 × St) := Option.bind (f_X11_copies σ) fun σ2 => Option.bind (f_X11_placeOf σ2 x1) fun v4 => Option.bind (f_X11_putsOff σ2 v4) fun σ6 => bnd2 (f_X11_sufferAll σ6) fun v8 σ9 => some (v8, σ9)
theorem hd_X11_without : yX11_without.cls = RX11 ∧ yX11_without.cls ≠ "java/lang/invoke/MethodHandle" ∧ yX11_without.cls ≠ "java/lang/invoke/VarHandle" ∧ (parseMethodDescriptor yX11_without.desc).map (fun d => d.parameters.length) = some 1 := by decide +kernel
set_option maxRecDepth 100000 in
set_option maxHeartbeats 4000000 in
theorem k_X11_without {l : Launch} {ad : Nat → Nat} {D : va_G} {cy : Nat → ClassId} {z : wStr} (hI : wI WM ad) {σ : St} {x1 : Int32}  {res : Int32 × St} (hf : f_X11_without σ x1 = some res) : wC WM ad D cy z l yX11_without (Cond.code yX11_without cX11_without 2 (Option.some Jvm.ClassFile.FieldType.int) :: aw) (6) (223) [.ref (ad 0), .int x1] σ (wQi WM ad D cy res.1 res.2) := by
  unfold f_X11_without at hf
  refine wr_start (own := RX11) hI (by decide +kernel) rfl (Nat.le_of_ble_eq_true rfl) rfl ?_
  intro p e s m below meth c ls X hw hr hl
  have hx := X.hx
  have hb := X.hb
  obtain ⟨H, eH⟩ : ∃ H : Heap, H = s.heap := ⟨_, rfl⟩
  obtain ⟨locs, el⟩ : ∃ locs : List Loc, locs = [] := ⟨_, rfl⟩
  rw [← eH, ← el] at hw ⊢
  clear eH el
  replace hl : lv_has ls 2 [(0, .ref (ad 0)), (1, .int x1)] := hl
  refine lv_aload_n hx hb dX11_without_0 rfl (lv_at hl 0 rfl) ?_
  obtain ⟨σ2, hq1, hf⟩ := bind_some hf
  refine wr_cVv (σ' := σ2) (av := []) (rest := []) X hw hl.1 sM0 nM0 rfl (k_X11_copies hI hq1) rfl ml_X11_345 im_X11_copies se_X11_copies ini_X11 co_X11_copies hd_X11_copies ⟨Nat.le_of_ble_eq_true rfl, Nat.le_of_ble_eq_true rfl⟩ (Nat.le_of_ble_eq_true rfl) dX11_without_1 rfl (fun H locs hw => ?_)
  refine lv_aload_n hx hb dX11_without_4 rfl (lv_at hl 0 rfl) ?_
  refine lv_aload_n hx hb dX11_without_5 rfl (lv_at hl 0 rfl) ?_
  refine lv_iload_n hx hb dX11_without_6 rfl (lv_at hl 1 rfl) ?_
  obtain ⟨v4, hq3, hf⟩ := bind_some hf
  refine wr_cVi (r := v4) (σ' := σ2) (av := [.int x1]) (rest := [.ref (ad 0)]) X hw hl.1 sM0 nM0 rfl (k_X11_placeOf hI hq3) rfl ml_X11_293 im_X11_placeOf se_X11_placeOf ini_X11 co_X11_placeOf hd_X11_placeOf ⟨Nat.le_of_ble_eq_true rfl, Nat.le_of_ble_eq_true rfl⟩ (Nat.le_of_ble_eq_true rfl) dX11_without_7 rfl (fun H locs hw => ?_)
  obtain ⟨σ6, hq5, hf⟩ := bind_some hf
  refine wr_cVv (σ' := σ6) (av := [.int v4]) (rest := []) X hw hl.1 sM0 nM0 rfl (k_X11_putsOff hI hq5) rfl ml_X11_365 im_X11_putsOff se_X11_putsOff ini_X11 co_X11_putsOff hd_X11_putsOff ⟨Nat.le_of_ble_eq_true rfl, Nat.le_of_ble_eq_true rfl⟩ (Nat.le_of_ble_eq_true rfl) dX11_without_10 rfl (fun H locs hw => ?_)
  refine lv_aload_n hx hb dX11_without_13 rfl (lv_at hl 0 rfl) ?_
  obtain ⟨v8, σ9, hq7, hf⟩ := bnd2_some hf
  refine wr_cVi (r := v8) (σ' := σ9) (av := []) (rest := []) X hw hl.1 sM0 nM0 rfl (k_X11_sufferAll hI hq7) rfl ml_X11_374 im_X11_sufferAll se_X11_sufferAll ini_X11 co_X11_sufferAll hd_X11_sufferAll ⟨Nat.le_of_ble_eq_true rfl, Nat.le_of_ble_eq_true rfl⟩ (Nat.le_of_ble_eq_true rfl) dX11_without_14 rfl (fun H locs hw => ?_)
  have er := Option.some.inj hf
  subst er
  exact wr_iret X hw hr (Or.inl rfl) dX11_without_17

def f_X11_lighter (σ : St) (x1 : Int32) : Option (Int32 × St) := Option.bind (f_X11_in x1 (0 : Int32) (1 : Int32)) fun v2 => if v2 = 0 then (some ((-1 : Int32), σ)) else (wlet (un4 (fun (σ20_4 : St) (x2_20_4 : Int32) (x3_20_4 : Int32) (x4_20_4 : Int32) => if ib (σ20_4.1 0 18) 2 = true then if (σ20_4.1 9 (Int32.toNatClampNeg (σ20_4.1 0 18))) ≤ x4_20_4 then (some (.inr (σ20_4, x2_20_4, x3_20_4))) else (Option.bind (f_X11_copies σ20_4) fun σ9 => Option.bind (f_X11_isOn σ9 x4_20_4) fun v11 => if v11 = 0 then (wlet (x4_20_4 + (1 : Int32)) fun v21 => some (.inl (σ9, x2_20_4, x3_20_4, v21))) else (bnd2 (f_X11_without σ9 x4_20_4) fun v14 σ15 => if x2_20_4 < 0 then (wlet (x4_20_4 + (1 : Int32)) fun v17 => some (.inl (σ15, x4_20_4, v14, v17))) else (if v14 < x3_20_4 then (wlet (x4_20_4 + (1 : Int32)) fun v19 => some (.inl (σ15, x4_20_4, v14, v19))) else (wlet (x4_20_4 + (1 : Int32)) fun v20 => some (.inl (σ15, x2_20_4, x3_20_4, v20)))))) else none) : St × Int32 × Int32 × Int32 → Option ((St × Int32 × Int32 × Int32) ⊕ (St × Int32 × Int32))) fun st20_4 => Option.bind (lp st20_4 fuel (σ, (-2 : Int32), (-2 : Int32), (0 : Int32))) ((un3 (fun (σe20_4 : St) (x2_e20_4 : Int32) (x3_e20_4 : Int32) => if x1 = 0 then (some (x2_e20_4, σe20_4)) else (some (x3_e20_4, σe20_4))))))
theorem hd_X11_lighter : yX11_lighter.cls = RX11 ∧ yX11_lighter.cls ≠ "java/lang/invoke/MethodHandle" ∧ yX11_lighter.cls ≠ "java/lang/invoke/VarHandle" ∧ (parseMethodDescriptor yX11_lighter.desc).map (fun d => d.parameters.length) = some 1 := by decide +kernel
set_option maxRecDepth 100000 in
set_option maxHeartbeats 4000000 in
theorem k_X11_lighter {l : Launch} {ad : Nat → Nat} {D : va_G} {cy : Nat → ClassId} {z : wStr} (hI : wI WM ad) {σ : St} {x1 : Int32}  {res : Int32 × St} (hf : f_X11_lighter σ x1 = some res) : wC WM ad D cy z l yX11_lighter (Cond.code yX11_lighter cX11_lighter 6 (Option.some Jvm.ClassFile.FieldType.int) :: aw) (7) (244) [.ref (ad 0), .int x1] σ (wQi WM ad D cy res.1 res.2) := by
  unfold f_X11_lighter at hf
  refine wr_start (own := RX11) hI (by decide +kernel) rfl (Nat.le_of_ble_eq_true rfl) rfl ?_
  intro p e s m below meth c ls X hw hr hl
  have hx := X.hx
  have hb := X.hb
  obtain ⟨H, eH⟩ : ∃ H : Heap, H = s.heap := ⟨_, rfl⟩
  obtain ⟨locs, el⟩ : ∃ locs : List Loc, locs = [] := ⟨_, rfl⟩
  rw [← eH, ← el] at hw ⊢
  clear eH el
  replace hl : lv_has ls 6 [(0, .ref (ad 0)), (1, .int x1)] := hl
  refine lv_iload_n hx hb dX11_lighter_0 rfl (lv_at hl 1 rfl) ?_
  refine lv_iconst (v := 0) hx hb dX11_lighter_1 (by decide) ?_
  refine lv_iconst (v := 1) hx hb dX11_lighter_2 (by decide) ?_
  obtain ⟨v2, hq1, hf⟩ := bind_some hf
  refine wr_cSi (r := v2) (σ' := σ) (av := [.int x1, .int (0 : Int32), .int (1 : Int32)]) (rest := []) X hw hl.1 (k_X11_in hI hq1) rfl ml_X11_282 st_X11_in ini_X11 co_X11_in hd_X11_in ⟨Nat.le_of_ble_eq_true rfl, Nat.le_of_ble_eq_true rfl⟩ (Nat.le_of_ble_eq_true rfl) dX11_lighter_3 rfl (fun H locs hw => ?_)
  refine lv_if_ne (tgt := 11) hx hb dX11_lighter_6 (by decide) (fun c3 => ?_) (fun c3 => ?_)
  · have hf := (if_neg c3).symm.trans hf
    refine lv_bipush (v := -2) hx hb dX11_lighter_11 (by decide) ?_
    refine lv_istore_n (lv' := [(2, .int (-2 : Int32)), (0, .ref (ad 0)), (1, .int x1)]) hx hb dX11_lighter_13 rfl hl (by decide) rfl (fun ls hl => ?_)
    refine lv_bipush (v := -2) hx hb dX11_lighter_14 (by decide) ?_
    refine lv_istore_n (lv' := [(3, .int (-2 : Int32)), (2, .int (-2 : Int32)), (0, .ref (ad 0)), (1, .int x1)]) hx hb dX11_lighter_16 rfl hl (by decide) rfl (fun ls hl => ?_)
    refine lv_iconst (v := 0) hx hb dX11_lighter_17 (by decide) ?_
    refine lv_istore (lv' := [(4, .int (0 : Int32)), (3, .int (-2 : Int32)), (2, .int (-2 : Int32)), (0, .ref (ad 0)), (1, .int x1)]) hx hb dX11_lighter_18 hl (by decide) rfl (fun ls hl => ?_)
    obtain ⟨st20_4, est20_4, hf⟩ := wlet_some hf
    obtain ⟨E20_4, hq20_4, hE20_4⟩ := bind_some hf
    have hx20_4 : ∀ (σe20_4 : St) (x2_e20_4 : Int32) (x3_e20_4 : Int32) (_ : (σe20_4, x2_e20_4, x3_e20_4) = E20_4) (ls : Array Slot) (H : Heap) (locs : List Loc), lv_has ls 6 [(1, .int x1), (2, .int x2_e20_4), (3, .int x3_e20_4)] → wH WM ad D cy s σe20_4 H locs → W p l e { frames := 7, cells := 0, slots := 0, locals := 244 } s m [.ref (ad 0), .int x1].toArray below meth c H locs 0 0 (MQ below (wQi WM ad D cy res.1 res.2) [.ref (ad 0), .int x1].toArray s 0 0 (wA WM ad)) (F0 m 83 ls []) := by
      intro σe20_4 x2_e20_4 x3_e20_4 e0 ls H locs hl hw
      subst e0
      have hf := hE20_4
      replace hf := un3_some hf
      refine lv_iload_n hx hb dX11_lighter_83 rfl (lv_at hl 0 rfl) ?_
      refine lv_if_ne (tgt := 91) hx hb dX11_lighter_84 (by decide) (fun c5 => ?_) (fun c5 => ?_)
      · have hf := (if_neg c5).symm.trans hf
        refine lv_iload_n hx hb dX11_lighter_91 rfl (lv_at hl 2 rfl) ?_
        have er := Option.some.inj hf
        subst er
        exact wr_iret X hw hr (Or.inl rfl) dX11_lighter_92
      · have hf := (if_pos c5).symm.trans hf
        refine lv_iload_n hx hb dX11_lighter_87 rfl (lv_at hl 1 rfl) ?_
        refine lv_goto (tgt := 92) hx hb dX11_lighter_88 (by decide) ?_
        have er := Option.some.inj hf
        subst er
        exact wr_iret X hw hr (Or.inl rfl) dX11_lighter_92
    have lo20_4 : ∀ (n : Nat) (σ20_4 : St) (x2_20_4 : Int32) (x3_20_4 : Int32) (x4_20_4 : Int32) (_ : lp st20_4 n (σ20_4, x2_20_4, x3_20_4, x4_20_4) = some E20_4) (ls : Array Slot) (H : Heap) (locs : List Loc), lv_has ls 6 [(0, .ref (ad 0)), (1, .int x1), (2, .int x2_20_4), (3, .int x3_20_4), (4, .int x4_20_4)] → wH WM ad D cy s σ20_4 H locs → W p l e { frames := 7, cells := 0, slots := 0, locals := 244 } s m [.ref (ad 0), .int x1].toArray below meth c H locs 0 0 (MQ below (wQi WM ad D cy res.1 res.2) [.ref (ad 0), .int x1].toArray s 0 0 (wA WM ad)) (F0 m 20 ls []) := by
      intro n
      induction n with
      | zero =>
        intro σ20_4 x2_20_4 x3_20_4 x4_20_4 hf ls H locs hl hw
        exact (lp_zero hf).elim
      | succ n ih20_4 =>
        intro σ20_4 x2_20_4 x3_20_4 x4_20_4 hf ls H locs hl hw
        obtain ⟨q20_4, hf, hz20_4⟩ := lp_succ hf
        rw [est20_4] at hf
        replace hf := un4_some hf
        refine lv_iload hx hb dX11_lighter_20 (lv_at hl 4 rfl) ?_
        refine lv_aload_n hx hb dX11_lighter_22 rfl (lv_at hl 0 rfl) ?_
        refine gX11_22 (b := 9) X hw sM0 nM0 rfl fl_X11_43 dX11_lighter_23 ?_
        refine lv_aload_n hx hb dX11_lighter_26 rfl (lv_at hl 0 rfl) ?_
        refine gX11_18 X hw sM0 nM0 fl_X11_212 dX11_lighter_27 ?_
        obtain ⟨h6, hf⟩ := if_some hf
        refine wr_iald X hw sM9 nM9 h6 dX11_lighter_30 ?_
        refine lv_icmp_ge (tgt := 83) hx hb dX11_lighter_31 (by decide) (fun c7 => ?_) (fun c7 => ?_)
        · have hf := (if_pos c7).symm.trans hf
          exact hx20_4 σ20_4 x2_20_4 x3_20_4 (lpK_inr (lp_leaf hf hz20_4)) ls H locs (lv_sub hl [1, 2, 3] rfl) hw
        · have hf := (if_neg c7).symm.trans hf
          refine lv_aload_n hx hb dX11_lighter_34 rfl (lv_at hl 0 rfl) ?_
          obtain ⟨σ9, hq8, hf⟩ := bind_some hf
          refine wr_cVv (σ' := σ9) (av := []) (rest := []) X hw hl.1 sM0 nM0 rfl (k_X11_copies hI hq8) rfl ml_X11_345 im_X11_copies se_X11_copies ini_X11 co_X11_copies hd_X11_copies ⟨Nat.le_of_ble_eq_true rfl, Nat.le_of_ble_eq_true rfl⟩ (Nat.le_of_ble_eq_true rfl) dX11_lighter_35 rfl (fun H locs hw => ?_)
          refine lv_aload_n hx hb dX11_lighter_38 rfl (lv_at hl 0 rfl) ?_
          refine lv_iload hx hb dX11_lighter_39 (lv_at hl 4 rfl) ?_
          obtain ⟨v11, hq10, hf⟩ := bind_some hf
          refine wr_cVi (r := v11) (σ' := σ9) (av := [.int x4_20_4]) (rest := []) X hw hl.1 sM0 nM0 rfl (k_X11_isOn hI hq10) rfl ml_X11_348 im_X11_isOn se_X11_isOn ini_X11 co_X11_isOn hd_X11_isOn ⟨Nat.le_of_ble_eq_true rfl, Nat.le_of_ble_eq_true rfl⟩ (Nat.le_of_ble_eq_true rfl) dX11_lighter_41 rfl (fun H locs hw => ?_)
          refine lv_if_ne (tgt := 50) hx hb dX11_lighter_44 (by decide) (fun c12 => ?_) (fun c12 => ?_)
          · have hf := (if_neg c12).symm.trans hf
            refine lv_aload_n hx hb dX11_lighter_50 rfl (lv_at hl 0 rfl) ?_
            refine lv_iload hx hb dX11_lighter_51 (lv_at hl 4 rfl) ?_
            obtain ⟨v14, σ15, hq13, hf⟩ := bnd2_some hf
            refine wr_cVi (r := v14) (σ' := σ15) (av := [.int x4_20_4]) (rest := []) X hw hl.1 sM0 nM0 rfl (k_X11_without hI hq13) rfl ml_X11_424 im_X11_without se_X11_without ini_X11 co_X11_without hd_X11_without ⟨Nat.le_of_ble_eq_true rfl, Nat.le_of_ble_eq_true rfl⟩ (Nat.le_of_ble_eq_true rfl) dX11_lighter_53 rfl (fun H locs hw => ?_)
            refine lv_istore (lv' := [(5, .int v14), (0, .ref (ad 0)), (1, .int x1), (2, .int x2_20_4), (3, .int x3_20_4), (4, .int x4_20_4)]) hx hb dX11_lighter_56 hl (by decide) rfl (fun ls hl => ?_)
            refine lv_iload_n hx hb dX11_lighter_58 rfl (lv_at hl 3 rfl) ?_
            refine lv_if_lt (tgt := 71) hx hb dX11_lighter_59 (by decide) (fun c16 => ?_) (fun c16 => ?_)
            · have hf := (if_pos c16).symm.trans hf
              refine lv_iload hx hb dX11_lighter_71 (lv_at hl 5 rfl) ?_
              refine lv_istore_n (lv' := [(2, .int x4_20_4), (5, .int v14), (0, .ref (ad 0)), (1, .int x1), (3, .int x3_20_4), (4, .int x4_20_4)]) hx hb dX11_lighter_73 rfl hl (by decide) rfl (fun ls hl => ?_)
              refine lv_iload hx hb dX11_lighter_74 (lv_at hl 1 rfl) ?_
              refine lv_istore_n (lv' := [(3, .int v14), (2, .int x4_20_4), (5, .int v14), (0, .ref (ad 0)), (1, .int x1), (4, .int x4_20_4)]) hx hb dX11_lighter_76 rfl hl (by decide) rfl (fun ls hl => ?_)
              obtain ⟨v17, ev17, hf⟩ := wlet_some hf
              refine lv_iinc (v := v17) (lv' := [(4, .int v17), (3, .int v14), (2, .int x4_20_4), (5, .int v14), (0, .ref (ad 0)), (1, .int x1)]) hx hb dX11_lighter_77 hl (k := 5) rfl (by rw [ev17]; rfl) (by decide) rfl (fun ls hl => ?_)
              refine lv_goto (tgt := 20) hx hb dX11_lighter_80 (by decide) ?_
              exact ih20_4 σ15 x4_20_4 v14 v17 (lp_leaf hf hz20_4) ls H locs (lv_sub hl [4, 5, 2, 1, 0] rfl) hw
            · have hf := (if_neg c16).symm.trans hf
              refine lv_iload hx hb dX11_lighter_62 (lv_at hl 0 rfl) ?_
              refine lv_iload_n hx hb dX11_lighter_64 rfl (lv_at hl 4 rfl) ?_
              refine lv_icmp_lt (tgt := 71) hx hb dX11_lighter_65 (by decide) (fun c18 => ?_) (fun c18 => ?_)
              · have hf := (if_pos c18).symm.trans hf
                refine lv_iload hx hb dX11_lighter_71 (lv_at hl 5 rfl) ?_
                refine lv_istore_n (lv' := [(2, .int x4_20_4), (5, .int v14), (0, .ref (ad 0)), (1, .int x1), (3, .int x3_20_4), (4, .int x4_20_4)]) hx hb dX11_lighter_73 rfl hl (by decide) rfl (fun ls hl => ?_)
                refine lv_iload hx hb dX11_lighter_74 (lv_at hl 1 rfl) ?_
                refine lv_istore_n (lv' := [(3, .int v14), (2, .int x4_20_4), (5, .int v14), (0, .ref (ad 0)), (1, .int x1), (4, .int x4_20_4)]) hx hb dX11_lighter_76 rfl hl (by decide) rfl (fun ls hl => ?_)
                obtain ⟨v19, ev19, hf⟩ := wlet_some hf
                refine lv_iinc (v := v19) (lv' := [(4, .int v19), (3, .int v14), (2, .int x4_20_4), (5, .int v14), (0, .ref (ad 0)), (1, .int x1)]) hx hb dX11_lighter_77 hl (k := 5) rfl (by rw [ev19]; rfl) (by decide) rfl (fun ls hl => ?_)
                refine lv_goto (tgt := 20) hx hb dX11_lighter_80 (by decide) ?_
                exact ih20_4 σ15 x4_20_4 v14 v19 (lp_leaf hf hz20_4) ls H locs (lv_sub hl [4, 5, 2, 1, 0] rfl) hw
              · have hf := (if_neg c18).symm.trans hf
                refine lv_goto (tgt := 77) hx hb dX11_lighter_68 (by decide) ?_
                obtain ⟨v20, ev20, hf⟩ := wlet_some hf
                refine lv_iinc (v := v20) (lv' := [(4, .int v20), (5, .int v14), (0, .ref (ad 0)), (1, .int x1), (2, .int x2_20_4), (3, .int x3_20_4)]) hx hb dX11_lighter_77 hl (k := 5) rfl (by rw [ev20]; rfl) (by decide) rfl (fun ls hl => ?_)
                refine lv_goto (tgt := 20) hx hb dX11_lighter_80 (by decide) ?_
                exact ih20_4 σ15 x2_20_4 x3_20_4 v20 (lp_leaf hf hz20_4) ls H locs (lv_sub hl [2, 3, 4, 5, 0] rfl) hw
          · have hf := (if_pos c12).symm.trans hf
            refine lv_goto (tgt := 77) hx hb dX11_lighter_47 (by decide) ?_
            obtain ⟨v21, ev21, hf⟩ := wlet_some hf
            refine lv_iinc (v := v21) (lv' := [(4, .int v21), (0, .ref (ad 0)), (1, .int x1), (2, .int x2_20_4), (3, .int x3_20_4)]) hx hb dX11_lighter_77 hl (k := 4) rfl (by rw [ev21]; rfl) (by decide) rfl (fun ls hl => ?_)
            refine lv_goto (tgt := 20) hx hb dX11_lighter_80 (by decide) ?_
            exact ih20_4 σ9 x2_20_4 x3_20_4 v21 (lp_leaf hf hz20_4) ls H locs (lv_sub hl [1, 2, 3, 4, 0] rfl) hw
    exact lo20_4 fuel σ (-2 : Int32) (-2 : Int32) (0 : Int32) hq20_4 ls H locs (lv_sub hl [3, 4, 2, 1, 0] rfl) hw
  · have hf := (if_pos c3).symm.trans hf
    refine lv_iconst (v := -1) hx hb dX11_lighter_9 (by decide) ?_
    have er := Option.some.inj hf
    subst er
    exact wr_iret X hw hr (Or.inl rfl) dX11_lighter_10
