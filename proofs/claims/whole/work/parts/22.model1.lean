def f_X11_farAll (σ : St)  : Option (Int32 × St) := wlet (un3 (fun (σ4_1 : St) (x1_4_1 : Int32) (x2_4_1 : Int32) => if ib (7 : Int32) 26 = true then if (σ4_1.1 27 (Int32.toNatClampNeg (7 : Int32))) ≤ x2_4_1 then (some (.inr (σ4_1, x1_4_1))) else (bnd2 (f_X11_sufferAt σ4_1 x2_4_1) fun v5 σ6 => bnd2 (f_X11_dueAt σ6 x2_4_1) fun v8 σ9 => wlet (v5 - v8) fun v10 => if 0 ≤ v10 then (wlet (x1_4_1 + v10) fun v12 => wlet (x2_4_1 + (1 : Int32)) fun v13 => some (.inl (σ9, v12, v13))) else (wlet (x1_4_1 + (-v10)) fun v14 => wlet (x2_4_1 + (1 : Int32)) fun v15 => some (.inl (σ9, v14, v15)))) else none) : St × Int32 × Int32 → Option ((St × Int32 × Int32) ⊕ (St × Int32))) fun st4_1 => Option.bind (lp st4_1 fuel (σ, (0 : Int32), (0 : Int32))) ((un2 (fun (σe4_1 : St) (x1_e4_1 : Int32) => some (x1_e4_1, σe4_1))))
theorem hd_X11_farAll : yX11_farAll.cls = RX11 ∧ yX11_farAll.cls ≠ "java/lang/invoke/MethodHandle" ∧ yX11_farAll.cls ≠ "java/lang/invoke/VarHandle" ∧ (parseMethodDescriptor yX11_farAll.desc).map (fun d => d.parameters.length) = some 0 := by decide +kernel
set_option maxRecDepth 100000 in
set_option maxHeartbeats 4000000 in
theorem k_X11_farAll {l : Launch} {ad : Nat → Nat} {D : va_G} {cy : Nat → ClassId} {z : wStr} (hI : wI WM ad) {σ : St}   {res : Int32 × St} (hf : f_X11_farAll σ  = some res) : wC WM ad D cy z l yX11_farAll (Cond.code yX11_farAll cX11_farAll 4 (Option.some Jvm.ClassFile.FieldType.int) :: aw) (5) (201) [.ref (ad 0)] σ (wQi WM ad D cy res.1 res.2) := by
  unfold f_X11_farAll at hf
  refine wr_start (own := RX11) hI (by decide +kernel) rfl (Nat.le_of_ble_eq_true rfl) rfl ?_
  intro p e s m below meth c ls X hw hr hl
  have hx := X.hx
  have hb := X.hb
  obtain ⟨H, eH⟩ : ∃ H : Heap, H = s.heap := ⟨_, rfl⟩
  obtain ⟨locs, el⟩ : ∃ locs : List Loc, locs = [] := ⟨_, rfl⟩
  rw [← eH, ← el] at hw ⊢
  clear eH el
  replace hl : lv_has ls 4 [(0, .ref (ad 0))] := hl
  refine lv_iconst (v := 0) hx hb dX11_farAll_0 (by decide) ?_
  refine lv_istore_n (lv' := [(1, .int (0 : Int32)), (0, .ref (ad 0))]) hx hb dX11_farAll_1 rfl hl (by decide) rfl (fun ls hl => ?_)
  refine lv_iconst (v := 0) hx hb dX11_farAll_2 (by decide) ?_
  refine lv_istore_n (lv' := [(2, .int (0 : Int32)), (1, .int (0 : Int32)), (0, .ref (ad 0))]) hx hb dX11_farAll_3 rfl hl (by decide) rfl (fun ls hl => ?_)
  obtain ⟨st4_1, est4_1, hf⟩ := wlet_some hf
  obtain ⟨E4_1, hq4_1, hE4_1⟩ := bind_some hf
  have hx4_1 : ∀ (σe4_1 : St) (x1_e4_1 : Int32) (_ : (σe4_1, x1_e4_1) = E4_1) (ls : Array Slot) (H : Heap) (locs : List Loc), lv_has ls 4 [(1, .int x1_e4_1)] → wH WM ad D cy s σe4_1 H locs → W p l e { frames := 5, cells := 0, slots := 0, locals := 201 } s m [.ref (ad 0)].toArray below meth c H locs 0 0 (MQ below (wQi WM ad D cy res.1 res.2) [.ref (ad 0)].toArray s 0 0 (wA WM ad)) (F0 m 46 ls []) := by
    intro σe4_1 x1_e4_1 e0 ls H locs hl hw
    subst e0
    have hf := hE4_1
    replace hf := un2_some hf
    refine lv_iload_n hx hb dX11_farAll_46 rfl (lv_at hl 0 rfl) ?_
    have er := Option.some.inj hf
    subst er
    exact wr_iret X hw hr (Or.inl rfl) dX11_farAll_47
  have lo4_1 : ∀ (n : Nat) (σ4_1 : St) (x1_4_1 : Int32) (x2_4_1 : Int32) (_ : lp st4_1 n (σ4_1, x1_4_1, x2_4_1) = some E4_1) (ls : Array Slot) (H : Heap) (locs : List Loc), lv_has ls 4 [(0, .ref (ad 0)), (1, .int x1_4_1), (2, .int x2_4_1)] → wH WM ad D cy s σ4_1 H locs → W p l e { frames := 5, cells := 0, slots := 0, locals := 201 } s m [.ref (ad 0)].toArray below meth c H locs 0 0 (MQ below (wQi WM ad D cy res.1 res.2) [.ref (ad 0)].toArray s 0 0 (wA WM ad)) (F0 m 4 ls []) := by
    intro n
    induction n with
    | zero =>
      intro σ4_1 x1_4_1 x2_4_1 hf ls H locs hl hw
      exact (lp_zero hf).elim
    | succ n ih4_1 =>
      intro σ4_1 x1_4_1 x2_4_1 hf ls H locs hl hw
      obtain ⟨q4_1, hf, hz4_1⟩ := lp_succ hf
      rw [est4_1] at hf
      replace hf := un3_some hf
      refine lv_iload_n hx hb dX11_farAll_4 rfl (lv_at hl 2 rfl) ?_
      refine lv_aload_n hx hb dX11_farAll_5 rfl (lv_at hl 0 rfl) ?_
      refine gX11_44 (b := 27) X hw sM0 nM0 rfl fl_X11_98 dX11_farAll_6 ?_
      refine lv_bipush (v := 7) hx hb dX11_farAll_9 (by decide) ?_
      obtain ⟨h2, hf⟩ := if_some hf
      refine wr_iald X hw sM27 nM27 h2 dX11_farAll_11 ?_
      refine lv_icmp_ge (tgt := 46) hx hb dX11_farAll_12 (by decide) (fun c3 => ?_) (fun c3 => ?_)
      · have hf := (if_pos c3).symm.trans hf
        exact hx4_1 σ4_1 x1_4_1 (lpK_inr (lp_leaf hf hz4_1)) ls H locs (lv_sub hl [1] rfl) hw
      · have hf := (if_neg c3).symm.trans hf
        refine lv_aload_n hx hb dX11_farAll_15 rfl (lv_at hl 0 rfl) ?_
        refine lv_iload_n hx hb dX11_farAll_16 rfl (lv_at hl 2 rfl) ?_
        obtain ⟨v5, σ6, hq4, hf⟩ := bnd2_some hf
        refine wr_cVi (r := v5) (σ' := σ6) (av := [.int x2_4_1]) (rest := []) X hw hl.1 sM0 nM0 rfl (k_X11_sufferAt hI hq4) rfl ml_X11_324 im_X11_sufferAt se_X11_sufferAt ini_X11 co_X11_sufferAt hd_X11_sufferAt ⟨Nat.le_of_ble_eq_true rfl, Nat.le_of_ble_eq_true rfl⟩ (Nat.le_of_ble_eq_true rfl) dX11_farAll_17 rfl (fun H locs hw => ?_)
        refine lv_aload_n hx hb dX11_farAll_20 rfl (lv_at hl 0 rfl) ?_
        refine lv_iload_n hx hb dX11_farAll_21 rfl (lv_at hl 2 rfl) ?_
        obtain ⟨v8, σ9, hq7, hf⟩ := bnd2_some hf
        refine wr_cVi (r := v8) (σ' := σ9) (av := [.int x2_4_1]) (rest := [.int v5]) X hw hl.1 sM0 nM0 rfl (k_X11_dueAt hI hq7) rfl ml_X11_327 im_X11_dueAt se_X11_dueAt ini_X11 co_X11_dueAt hd_X11_dueAt ⟨Nat.le_of_ble_eq_true rfl, Nat.le_of_ble_eq_true rfl⟩ (Nat.le_of_ble_eq_true rfl) dX11_farAll_22 rfl (fun H locs hw => ?_)
        refine lv_isub hx hb dX11_farAll_25 ?_
        obtain ⟨v10, ev10, hf⟩ := wlet_some hf
        refine wr_top ev10 ?_
        refine lv_istore_n (lv' := [(3, .int v10), (0, .ref (ad 0)), (1, .int x1_4_1), (2, .int x2_4_1)]) hx hb dX11_farAll_26 rfl hl (by decide) rfl (fun ls hl => ?_)
        refine lv_iload_n hx hb dX11_farAll_27 rfl (lv_at hl 2 rfl) ?_
        refine lv_iload_n hx hb dX11_farAll_28 rfl (lv_at hl 0 rfl) ?_
        refine lv_if_ge (tgt := 37) hx hb dX11_farAll_29 (by decide) (fun c11 => ?_) (fun c11 => ?_)
        · have hf := (if_pos c11).symm.trans hf
          refine lv_iload_n hx hb dX11_farAll_37 rfl (lv_at hl 0 rfl) ?_
          refine lv_iadd hx hb dX11_farAll_38 ?_
          obtain ⟨v12, ev12, hf⟩ := wlet_some hf
          refine wr_top ev12 ?_
          refine lv_istore_n (lv' := [(1, .int v12), (3, .int v10), (0, .ref (ad 0)), (2, .int x2_4_1)]) hx hb dX11_farAll_39 rfl hl (by decide) rfl (fun ls hl => ?_)
          obtain ⟨v13, ev13, hf⟩ := wlet_some hf
          refine lv_iinc (v := v13) (lv' := [(2, .int v13), (1, .int v12), (3, .int v10), (0, .ref (ad 0))]) hx hb dX11_farAll_40 hl (k := 3) rfl (by rw [ev13]; rfl) (by decide) rfl (fun ls hl => ?_)
          refine lv_goto (tgt := 4) hx hb dX11_farAll_43 (by decide) ?_
          exact ih4_1 σ9 v12 v13 (lp_leaf hf hz4_1) ls H locs (lv_sub hl [3, 1, 0] rfl) hw
        · have hf := (if_neg c11).symm.trans hf
          refine lv_iload_n hx hb dX11_farAll_32 rfl (lv_at hl 0 rfl) ?_
          refine lv_ineg hx hb dX11_farAll_33 ?_
          refine lv_goto (tgt := 38) hx hb dX11_farAll_34 (by decide) ?_
          refine lv_iadd hx hb dX11_farAll_38 ?_
          obtain ⟨v14, ev14, hf⟩ := wlet_some hf
          refine wr_top ev14 ?_
          refine lv_istore_n (lv' := [(1, .int v14), (3, .int v10), (0, .ref (ad 0)), (2, .int x2_4_1)]) hx hb dX11_farAll_39 rfl hl (by decide) rfl (fun ls hl => ?_)
          obtain ⟨v15, ev15, hf⟩ := wlet_some hf
          refine lv_iinc (v := v15) (lv' := [(2, .int v15), (1, .int v14), (3, .int v10), (0, .ref (ad 0))]) hx hb dX11_farAll_40 hl (k := 3) rfl (by rw [ev15]; rfl) (by decide) rfl (fun ls hl => ?_)
          refine lv_goto (tgt := 4) hx hb dX11_farAll_43 (by decide) ?_
          exact ih4_1 σ9 v14 v15 (lp_leaf hf hz4_1) ls H locs (lv_sub hl [3, 1, 0] rfl) hw
  exact lo4_1 fuel σ (0 : Int32) (0 : Int32) hq4_1 ls H locs (lv_sub hl [2, 1, 0] rfl) hw

def f_X11_mostAny (σ : St)  : Option (Int32 × St) := wlet (un3 (fun (σ4_1 : St) (x1_4_1 : Int32) (x2_4_1 : Int32) => if ib (7 : Int32) 26 = true then if (σ4_1.1 27 (Int32.toNatClampNeg (7 : Int32))) ≤ x2_4_1 then (some (.inr (σ4_1, x1_4_1))) else (bnd2 (f_X11_sufferAt σ4_1 x2_4_1) fun v5 σ6 => if v5 ≤ x1_4_1 then (wlet (x2_4_1 + (1 : Int32)) fun v8 => some (.inl (σ6, x1_4_1, v8))) else (bnd2 (f_X11_sufferAt σ6 x2_4_1) fun v10 σ11 => wlet (x2_4_1 + (1 : Int32)) fun v12 => some (.inl (σ11, v10, v12)))) else none) : St × Int32 × Int32 → Option ((St × Int32 × Int32) ⊕ (St × Int32))) fun st4_1 => Option.bind (lp st4_1 fuel (σ, (0 : Int32), (0 : Int32))) ((un2 (fun (σe4_1 : St) (x1_e4_1 : Int32) => some (x1_e4_1, σe4_1))))
theorem hd_X11_mostAny : yX11_mostAny.cls = RX11 ∧ yX11_mostAny.cls ≠ "java/lang/invoke/MethodHandle" ∧ yX11_mostAny.cls ≠ "java/lang/invoke/VarHandle" ∧ (parseMethodDescriptor yX11_mostAny.desc).map (fun d => d.parameters.length) = some 0 := by decide +kernel
set_option maxRecDepth 100000 in
set_option maxHeartbeats 4000000 in
theorem k_X11_mostAny {l : Launch} {ad : Nat → Nat} {D : va_G} {cy : Nat → ClassId} {z : wStr} (hI : wI WM ad) {σ : St}   {res : Int32 × St} (hf : f_X11_mostAny σ  = some res) : wC WM ad D cy z l yX11_mostAny (Cond.code yX11_mostAny cX11_mostAny 3 (Option.some Jvm.ClassFile.FieldType.int) :: aw) (5) (201) [.ref (ad 0)] σ (wQi WM ad D cy res.1 res.2) := by
  unfold f_X11_mostAny at hf
  refine wr_start (own := RX11) hI (by decide +kernel) rfl (Nat.le_of_ble_eq_true rfl) rfl ?_
  intro p e s m below meth c ls X hw hr hl
  have hx := X.hx
  have hb := X.hb
  obtain ⟨H, eH⟩ : ∃ H : Heap, H = s.heap := ⟨_, rfl⟩
  obtain ⟨locs, el⟩ : ∃ locs : List Loc, locs = [] := ⟨_, rfl⟩
  rw [← eH, ← el] at hw ⊢
  clear eH el
  replace hl : lv_has ls 3 [(0, .ref (ad 0))] := hl
  refine lv_iconst (v := 0) hx hb dX11_mostAny_0 (by decide) ?_
  refine lv_istore_n (lv' := [(1, .int (0 : Int32)), (0, .ref (ad 0))]) hx hb dX11_mostAny_1 rfl hl (by decide) rfl (fun ls hl => ?_)
  refine lv_iconst (v := 0) hx hb dX11_mostAny_2 (by decide) ?_
  refine lv_istore_n (lv' := [(2, .int (0 : Int32)), (1, .int (0 : Int32)), (0, .ref (ad 0))]) hx hb dX11_mostAny_3 rfl hl (by decide) rfl (fun ls hl => ?_)
  obtain ⟨st4_1, est4_1, hf⟩ := wlet_some hf
  obtain ⟨E4_1, hq4_1, hE4_1⟩ := bind_some hf
  have hx4_1 : ∀ (σe4_1 : St) (x1_e4_1 : Int32) (_ : (σe4_1, x1_e4_1) = E4_1) (ls : Array Slot) (H : Heap) (locs : List Loc), lv_has ls 3 [(1, .int x1_e4_1)] → wH WM ad D cy s σe4_1 H locs → W p l e { frames := 5, cells := 0, slots := 0, locals := 201 } s m [.ref (ad 0)].toArray below meth c H locs 0 0 (MQ below (wQi WM ad D cy res.1 res.2) [.ref (ad 0)].toArray s 0 0 (wA WM ad)) (F0 m 36 ls []) := by
    intro σe4_1 x1_e4_1 e0 ls H locs hl hw
    subst e0
    have hf := hE4_1
    replace hf := un2_some hf
    refine lv_iload_n hx hb dX11_mostAny_36 rfl (lv_at hl 0 rfl) ?_
    have er := Option.some.inj hf
    subst er
    exact wr_iret X hw hr (Or.inl rfl) dX11_mostAny_37
  have lo4_1 : ∀ (n : Nat) (σ4_1 : St) (x1_4_1 : Int32) (x2_4_1 : Int32) (_ : lp st4_1 n (σ4_1, x1_4_1, x2_4_1) = some E4_1) (ls : Array Slot) (H : Heap) (locs : List Loc), lv_has ls 3 [(0, .ref (ad 0)), (1, .int x1_4_1), (2, .int x2_4_1)] → wH WM ad D cy s σ4_1 H locs → W p l e { frames := 5, cells := 0, slots := 0, locals := 201 } s m [.ref (ad 0)].toArray below meth c H locs 0 0 (MQ below (wQi WM ad D cy res.1 res.2) [.ref (ad 0)].toArray s 0 0 (wA WM ad)) (F0 m 4 ls []) := by
    intro n
    induction n with
    | zero =>
      intro σ4_1 x1_4_1 x2_4_1 hf ls H locs hl hw
      exact (lp_zero hf).elim
    | succ n ih4_1 =>
      intro σ4_1 x1_4_1 x2_4_1 hf ls H locs hl hw
      obtain ⟨q4_1, hf, hz4_1⟩ := lp_succ hf
      rw [est4_1] at hf
      replace hf := un3_some hf
      refine lv_iload_n hx hb dX11_mostAny_4 rfl (lv_at hl 2 rfl) ?_
      refine lv_aload_n hx hb dX11_mostAny_5 rfl (lv_at hl 0 rfl) ?_
      refine gX11_44 (b := 27) X hw sM0 nM0 rfl fl_X11_98 dX11_mostAny_6 ?_
      refine lv_bipush (v := 7) hx hb dX11_mostAny_9 (by decide) ?_
      obtain ⟨h2, hf⟩ := if_some hf
      refine wr_iald X hw sM27 nM27 h2 dX11_mostAny_11 ?_
      refine lv_icmp_ge (tgt := 36) hx hb dX11_mostAny_12 (by decide) (fun c3 => ?_) (fun c3 => ?_)
      · have hf := (if_pos c3).symm.trans hf
        exact hx4_1 σ4_1 x1_4_1 (lpK_inr (lp_leaf hf hz4_1)) ls H locs (lv_sub hl [1] rfl) hw
      · have hf := (if_neg c3).symm.trans hf
        refine lv_aload_n hx hb dX11_mostAny_15 rfl (lv_at hl 0 rfl) ?_
        refine lv_iload_n hx hb dX11_mostAny_16 rfl (lv_at hl 2 rfl) ?_
        obtain ⟨v5, σ6, hq4, hf⟩ := bnd2_some hf
        refine wr_cVi (r := v5) (σ' := σ6) (av := [.int x2_4_1]) (rest := []) X hw hl.1 sM0 nM0 rfl (k_X11_sufferAt hI hq4) rfl ml_X11_324 im_X11_sufferAt se_X11_sufferAt ini_X11 co_X11_sufferAt hd_X11_sufferAt ⟨Nat.le_of_ble_eq_true rfl, Nat.le_of_ble_eq_true rfl⟩ (Nat.le_of_ble_eq_true rfl) dX11_mostAny_17 rfl (fun H locs hw => ?_)
        refine lv_iload_n hx hb dX11_mostAny_20 rfl (lv_at hl 1 rfl) ?_
        refine lv_icmp_le (tgt := 30) hx hb dX11_mostAny_21 (by decide) (fun c7 => ?_) (fun c7 => ?_)
        · have hf := (if_pos c7).symm.trans hf
          obtain ⟨v8, ev8, hf⟩ := wlet_some hf
          refine lv_iinc (v := v8) (lv' := [(2, .int v8), (0, .ref (ad 0)), (1, .int x1_4_1)]) hx hb dX11_mostAny_30 hl (k := 2) rfl (by rw [ev8]; rfl) (by decide) rfl (fun ls hl => ?_)
          refine lv_goto (tgt := 4) hx hb dX11_mostAny_33 (by decide) ?_
          exact ih4_1 σ6 x1_4_1 v8 (lp_leaf hf hz4_1) ls H locs (lv_sub hl [1, 2, 0] rfl) hw
        · have hf := (if_neg c7).symm.trans hf
          refine lv_aload_n hx hb dX11_mostAny_24 rfl (lv_at hl 0 rfl) ?_
          refine lv_iload_n hx hb dX11_mostAny_25 rfl (lv_at hl 2 rfl) ?_
          obtain ⟨v10, σ11, hq9, hf⟩ := bnd2_some hf
          refine wr_cVi (r := v10) (σ' := σ11) (av := [.int x2_4_1]) (rest := []) X hw hl.1 sM0 nM0 rfl (k_X11_sufferAt hI hq9) rfl ml_X11_324 im_X11_sufferAt se_X11_sufferAt ini_X11 co_X11_sufferAt hd_X11_sufferAt ⟨Nat.le_of_ble_eq_true rfl, Nat.le_of_ble_eq_true rfl⟩ (Nat.le_of_ble_eq_true rfl) dX11_mostAny_26 rfl (fun H locs hw => ?_)
          refine lv_istore_n (lv' := [(1, .int v10), (0, .ref (ad 0)), (2, .int x2_4_1)]) hx hb dX11_mostAny_29 rfl hl (by decide) rfl (fun ls hl => ?_)
          obtain ⟨v12, ev12, hf⟩ := wlet_some hf
          refine lv_iinc (v := v12) (lv' := [(2, .int v12), (1, .int v10), (0, .ref (ad 0))]) hx hb dX11_mostAny_30 hl (k := 2) rfl (by rw [ev12]; rfl) (by decide) rfl (fun ls hl => ?_)
          refine lv_goto (tgt := 4) hx hb dX11_mostAny_33 (by decide) ?_
          exact ih4_1 σ11 v10 v12 (lp_leaf hf hz4_1) ls H locs (lv_sub hl [2, 1, 0] rfl) hw
  exact lo4_1 fuel σ (0 : Int32) (0 : Int32) hq4_1 ls H locs (lv_sub hl [2, 1, 0] rfl) hw

def f_X11_sufferAll (σ : St)  : Option (Int32 × St) := wlet (un3 (fun (σ4_1 : St) (x1_4_1 : Int32) (x2_4_1 : Int32) => if ib (7 : Int32) 26 = true then if (σ4_1.1 27 (Int32.toNatClampNeg (7 : Int32))) ≤ x2_4_1 then (some (.inr (σ4_1, x1_4_1))) else (bnd2 (f_X11_sufferAt σ4_1 x2_4_1) fun v5 σ6 => wlet (x1_4_1 + v5) fun v7 => wlet (x2_4_1 + (1 : Int32)) fun v8 => some (.inl (σ6, v7, v8))) else none) : St × Int32 × Int32 → Option ((St × Int32 × Int32) ⊕ (St × Int32))) fun st4_1 => Option.bind (lp st4_1 fuel (σ, (0 : Int32), (0 : Int32))) ((un2 (fun (σe4_1 : St) (x1_e4_1 : Int32) => some (x1_e4_1, σe4_1))))
theorem hd_X11_sufferAll : yX11_sufferAll.cls = RX11 ∧ yX11_sufferAll.cls ≠ "java/lang/invoke/MethodHandle" ∧ yX11_sufferAll.cls ≠ "java/lang/invoke/VarHandle" ∧ (parseMethodDescriptor yX11_sufferAll.desc).map (fun d => d.parameters.length) = some 0 := by decide +kernel
set_option maxRecDepth 100000 in
set_option maxHeartbeats 4000000 in
theorem k_X11_sufferAll {l : Launch} {ad : Nat → Nat} {D : va_G} {cy : Nat → ClassId} {z : wStr} (hI : wI WM ad) {σ : St}   {res : Int32 × St} (hf : f_X11_sufferAll σ  = some res) : wC WM ad D cy z l yX11_sufferAll (Cond.code yX11_sufferAll cX11_sufferAll 3 (Option.some Jvm.ClassFile.FieldType.int) :: aw) (5) (201) [.ref (ad 0)] σ (wQi WM ad D cy res.1 res.2) := by
  unfold f_X11_sufferAll at hf
  refine wr_start (own := RX11) hI (by decide +kernel) rfl (Nat.le_of_ble_eq_true rfl) rfl ?_
  intro p e s m below meth c ls X hw hr hl
  have hx := X.hx
  have hb := X.hb
  obtain ⟨H, eH⟩ : ∃ H : Heap, H = s.heap := ⟨_, rfl⟩
  obtain ⟨locs, el⟩ : ∃ locs : List Loc, locs = [] := ⟨_, rfl⟩
  rw [← eH, ← el] at hw ⊢
  clear eH el
  replace hl : lv_has ls 3 [(0, .ref (ad 0))] := hl
  refine lv_iconst (v := 0) hx hb dX11_sufferAll_0 (by decide) ?_
  refine lv_istore_n (lv' := [(1, .int (0 : Int32)), (0, .ref (ad 0))]) hx hb dX11_sufferAll_1 rfl hl (by decide) rfl (fun ls hl => ?_)
  refine lv_iconst (v := 0) hx hb dX11_sufferAll_2 (by decide) ?_
  refine lv_istore_n (lv' := [(2, .int (0 : Int32)), (1, .int (0 : Int32)), (0, .ref (ad 0))]) hx hb dX11_sufferAll_3 rfl hl (by decide) rfl (fun ls hl => ?_)
  obtain ⟨st4_1, est4_1, hf⟩ := wlet_some hf
  obtain ⟨E4_1, hq4_1, hE4_1⟩ := bind_some hf
  have hx4_1 : ∀ (σe4_1 : St) (x1_e4_1 : Int32) (_ : (σe4_1, x1_e4_1) = E4_1) (ls : Array Slot) (H : Heap) (locs : List Loc), lv_has ls 3 [(1, .int x1_e4_1)] → wH WM ad D cy s σe4_1 H locs → W p l e { frames := 5, cells := 0, slots := 0, locals := 201 } s m [.ref (ad 0)].toArray below meth c H locs 0 0 (MQ below (wQi WM ad D cy res.1 res.2) [.ref (ad 0)].toArray s 0 0 (wA WM ad)) (F0 m 29 ls []) := by
    intro σe4_1 x1_e4_1 e0 ls H locs hl hw
    subst e0
    have hf := hE4_1
    replace hf := un2_some hf
    refine lv_iload_n hx hb dX11_sufferAll_29 rfl (lv_at hl 0 rfl) ?_
    have er := Option.some.inj hf
    subst er
    exact wr_iret X hw hr (Or.inl rfl) dX11_sufferAll_30
  have lo4_1 : ∀ (n : Nat) (σ4_1 : St) (x1_4_1 : Int32) (x2_4_1 : Int32) (_ : lp st4_1 n (σ4_1, x1_4_1, x2_4_1) = some E4_1) (ls : Array Slot) (H : Heap) (locs : List Loc), lv_has ls 3 [(0, .ref (ad 0)), (1, .int x1_4_1), (2, .int x2_4_1)] → wH WM ad D cy s σ4_1 H locs → W p l e { frames := 5, cells := 0, slots := 0, locals := 201 } s m [.ref (ad 0)].toArray below meth c H locs 0 0 (MQ below (wQi WM ad D cy res.1 res.2) [.ref (ad 0)].toArray s 0 0 (wA WM ad)) (F0 m 4 ls []) := by
    intro n
    induction n with
    | zero =>
      intro σ4_1 x1_4_1 x2_4_1 hf ls H locs hl hw
      exact (lp_zero hf).elim
    | succ n ih4_1 =>
      intro σ4_1 x1_4_1 x2_4_1 hf ls H locs hl hw
      obtain ⟨q4_1, hf, hz4_1⟩ := lp_succ hf
      rw [est4_1] at hf
      replace hf := un3_some hf
      refine lv_iload_n hx hb dX11_sufferAll_4 rfl (lv_at hl 2 rfl) ?_
      refine lv_aload_n hx hb dX11_sufferAll_5 rfl (lv_at hl 0 rfl) ?_
      refine gX11_44 (b := 27) X hw sM0 nM0 rfl fl_X11_98 dX11_sufferAll_6 ?_
      refine lv_bipush (v := 7) hx hb dX11_sufferAll_9 (by decide) ?_
      obtain ⟨h2, hf⟩ := if_some hf
      refine wr_iald X hw sM27 nM27 h2 dX11_sufferAll_11 ?_
      refine lv_icmp_ge (tgt := 29) hx hb dX11_sufferAll_12 (by decide) (fun c3 => ?_) (fun c3 => ?_)
      · have hf := (if_pos c3).symm.trans hf
        exact hx4_1 σ4_1 x1_4_1 (lpK_inr (lp_leaf hf hz4_1)) ls H locs (lv_sub hl [1] rfl) hw
      · have hf := (if_neg c3).symm.trans hf
        refine lv_iload_n hx hb dX11_sufferAll_15 rfl (lv_at hl 1 rfl) ?_
        refine lv_aload_n hx hb dX11_sufferAll_16 rfl (lv_at hl 0 rfl) ?_
        refine lv_iload_n hx hb dX11_sufferAll_17 rfl (lv_at hl 2 rfl) ?_
        obtain ⟨v5, σ6, hq4, hf⟩ := bnd2_some hf
        refine wr_cVi (r := v5) (σ' := σ6) (av := [.int x2_4_1]) (rest := [.int x1_4_1]) X hw hl.1 sM0 nM0 rfl (k_X11_sufferAt hI hq4) rfl ml_X11_324 im_X11_sufferAt se_X11_sufferAt ini_X11 co_X11_sufferAt hd_X11_sufferAt ⟨Nat.le_of_ble_eq_true rfl, Nat.le_of_ble_eq_true rfl⟩ (Nat.le_of_ble_eq_true rfl) dX11_sufferAll_18 rfl (fun H locs hw => ?_)
        refine lv_iadd hx hb dX11_sufferAll_21 ?_
        obtain ⟨v7, ev7, hf⟩ := wlet_some hf
        refine wr_top ev7 ?_
        refine lv_istore_n (lv' := [(1, .int v7), (0, .ref (ad 0)), (2, .int x2_4_1)]) hx hb dX11_sufferAll_22 rfl hl (by decide) rfl (fun ls hl => ?_)
        obtain ⟨v8, ev8, hf⟩ := wlet_some hf
        refine lv_iinc (v := v8) (lv' := [(2, .int v8), (1, .int v7), (0, .ref (ad 0))]) hx hb dX11_sufferAll_23 hl (k := 2) rfl (by rw [ev8]; rfl) (by decide) rfl (fun ls hl => ?_)
        refine lv_goto (tgt := 4) hx hb dX11_sufferAll_26 (by decide) ?_
        exact ih4_1 σ6 v7 v8 (lp_leaf hf hz4_1) ls H locs (lv_sub hl [2, 1, 0] rfl) hw
  exact lo4_1 fuel σ (0 : Int32) (0 : Int32) hq4_1 ls H locs (lv_sub hl [2, 1, 0] rfl) hw

def f_X11_byGoal (σ : St) (x1 : Int32) : Option (Int32 × St) := if x1 = 0 then (bnd2 (f_X11_sufferAll σ) fun v14 σ15 => some (v14, σ15)) else (if x1 = (1 : Int32) then (bnd2 (f_X11_sufferAll σ) fun v11 σ12 => some ((-v11), σ12)) else (if x1 = (2 : Int32) then (bnd2 (f_X11_farAll σ) fun v8 σ9 => some (v8, σ9)) else (bnd2 (f_X11_mostAny σ) fun v5 σ6 => some (v5, σ6))))
theorem hd_X11_byGoal : yX11_byGoal.cls = RX11 ∧ yX11_byGoal.cls ≠ "java/lang/invoke/MethodHandle" ∧ yX11_byGoal.cls ≠ "java/lang/invoke/VarHandle" ∧ (parseMethodDescriptor yX11_byGoal.desc).map (fun d => d.parameters.length) = some 1 := by decide +kernel
set_option maxRecDepth 100000 in
set_option maxHeartbeats 4000000 in
theorem k_X11_byGoal {l : Launch} {ad : Nat → Nat} {D : va_G} {cy : Nat → ClassId} {z : wStr} (hI : wI WM ad) {σ : St} {x1 : Int32}  {res : Int32 × St} (hf : f_X11_byGoal σ x1 = some res) : wC WM ad D cy z l yX11_byGoal (Cond.code yX11_byGoal cX11_byGoal 2 (Option.some Jvm.ClassFile.FieldType.int) :: aw) (6) (224) [.ref (ad 0), .int x1] σ (wQi WM ad D cy res.1 res.2) := by
  unfold f_X11_byGoal at hf
  refine wr_start (own := RX11) hI (by decide +kernel) rfl (Nat.le_of_ble_eq_true rfl) rfl ?_
  intro p e s m below meth c ls X hw hr hl
  have hx := X.hx
  have hb := X.hb
  obtain ⟨H, eH⟩ : ∃ H : Heap, H = s.heap := ⟨_, rfl⟩
  obtain ⟨locs, el⟩ : ∃ locs : List Loc, locs = [] := ⟨_, rfl⟩
  rw [← eH, ← el] at hw ⊢
  clear eH el
  replace hl : lv_has ls 2 [(0, .ref (ad 0)), (1, .int x1)] := hl
  refine lv_iload_n hx hb dX11_byGoal_0 rfl (lv_at hl 1 rfl) ?_
  refine lv_if_ne (tgt := 11) hx hb dX11_byGoal_1 (by decide) (fun c1 => ?_) (fun c1 => ?_)
  · have hf := (if_neg c1).symm.trans hf
    refine lv_iload_n hx hb dX11_byGoal_11 rfl (lv_at hl 1 rfl) ?_
    refine lv_iconst (v := 1) hx hb dX11_byGoal_12 (by decide) ?_
    refine lv_icmp_ne (tgt := 24) hx hb dX11_byGoal_13 (by decide) (fun c2 => ?_) (fun c2 => ?_)
    · have hf := (if_neg c2).symm.trans hf
      refine lv_iload_n hx hb dX11_byGoal_24 rfl (lv_at hl 1 rfl) ?_
      refine lv_iconst (v := 2) hx hb dX11_byGoal_25 (by decide) ?_
      refine lv_icmp_ne (tgt := 36) hx hb dX11_byGoal_26 (by decide) (fun c3 => ?_) (fun c3 => ?_)
      · have hf := (if_neg c3).symm.trans hf
        refine lv_aload_n hx hb dX11_byGoal_36 rfl (lv_at hl 0 rfl) ?_
        obtain ⟨v5, σ6, hq4, hf⟩ := bnd2_some hf
        refine wr_cVi (r := v5) (σ' := σ6) (av := []) (rest := []) X hw hl.1 sM0 nM0 rfl (k_X11_mostAny hI hq4) rfl ml_X11_381 im_X11_mostAny se_X11_mostAny ini_X11 co_X11_mostAny hd_X11_mostAny ⟨Nat.le_of_ble_eq_true rfl, Nat.le_of_ble_eq_true rfl⟩ (Nat.le_of_ble_eq_true rfl) dX11_byGoal_37 rfl (fun H locs hw => ?_)
        have er := Option.some.inj hf
        subst er
        exact wr_iret X hw hr (Or.inl rfl) dX11_byGoal_40
      · have hf := (if_pos c3).symm.trans hf
        refine lv_aload_n hx hb dX11_byGoal_29 rfl (lv_at hl 0 rfl) ?_
        obtain ⟨v8, σ9, hq7, hf⟩ := bnd2_some hf
        refine wr_cVi (r := v8) (σ' := σ9) (av := []) (rest := []) X hw hl.1 sM0 nM0 rfl (k_X11_farAll hI hq7) rfl ml_X11_378 im_X11_farAll se_X11_farAll ini_X11 co_X11_farAll hd_X11_farAll ⟨Nat.le_of_ble_eq_true rfl, Nat.le_of_ble_eq_true rfl⟩ (Nat.le_of_ble_eq_true rfl) dX11_byGoal_30 rfl (fun H locs hw => ?_)
        refine lv_goto (tgt := 40) hx hb dX11_byGoal_33 (by decide) ?_
        have er := Option.some.inj hf
        subst er
        exact wr_iret X hw hr (Or.inl rfl) dX11_byGoal_40
    · have hf := (if_pos c2).symm.trans hf
      refine lv_aload_n hx hb dX11_byGoal_16 rfl (lv_at hl 0 rfl) ?_
      obtain ⟨v11, σ12, hq10, hf⟩ := bnd2_some hf
      refine wr_cVi (r := v11) (σ' := σ12) (av := []) (rest := []) X hw hl.1 sM0 nM0 rfl (k_X11_sufferAll hI hq10) rfl ml_X11_374 im_X11_sufferAll se_X11_sufferAll ini_X11 co_X11_sufferAll hd_X11_sufferAll ⟨Nat.le_of_ble_eq_true rfl, Nat.le_of_ble_eq_true rfl⟩ (Nat.le_of_ble_eq_true rfl) dX11_byGoal_17 rfl (fun H locs hw => ?_)
      refine lv_ineg hx hb dX11_byGoal_20 ?_
      refine lv_goto (tgt := 40) hx hb dX11_byGoal_21 (by decide) ?_
      have er := Option.some.inj hf
      subst er
      exact wr_iret X hw hr (Or.inl rfl) dX11_byGoal_40
  · have hf := (if_pos c1).symm.trans hf
    refine lv_aload_n hx hb dX11_byGoal_4 rfl (lv_at hl 0 rfl) ?_
    obtain ⟨v14, σ15, hq13, hf⟩ := bnd2_some hf
    refine wr_cVi (r := v14) (σ' := σ15) (av := []) (rest := []) X hw hl.1 sM0 nM0 rfl (k_X11_sufferAll hI hq13) rfl ml_X11_374 im_X11_sufferAll se_X11_sufferAll ini_X11 co_X11_sufferAll hd_X11_sufferAll ⟨Nat.le_of_ble_eq_true rfl, Nat.le_of_ble_eq_true rfl⟩ (Nat.le_of_ble_eq_true rfl) dX11_byGoal_5 rfl (fun H locs hw => ?_)
    refine lv_goto (tgt := 40) hx hb dX11_byGoal_8 (by decide) ?_
    have er := Option.some.inj hf
    subst er
    exact wr_iret X hw hr (Or.inl rfl) dX11_byGoal_40

def f_X11_bestOf (σ : St) (x1 : Int32) : Option (Int32 × St) := Option.bind (f_X11_copies σ) fun σ2 => Option.bind (f_X11_firstOrder σ2) fun σ4 => wlet (si σ4 0 50 (0 : Int32)) fun σ5 => wlet (un3 (fun (σ17_6 : St) (x2_17_6 : Int32) (x3_17_6 : Int32) => if x3_17_6 = 0 then (some (.inr (σ17_6, x2_17_6))) else (bnd2 (f_X11_byGoal σ17_6 x1) fun v10 σ11 => wlet (fun (σ_79_12 : St) (x2_79_12 : Int32) => (wlet (fun (σ_95_13 : St) => (bnd2 (f_X11_nextOrder σ_95_13) fun v15 σ16 => some (.inl (σ16, x2_79_12, v15)) : Option ((St × Int32 × Int32) ⊕ (St × Int32)))) fun k95_13 => if v10 = x2_79_12 then (wlet (si σ_79_12 0 50 ((σ_79_12.1 0 50) + (1 : Int32))) fun σ18 => k95_13 σ18) else (k95_13 σ_79_12) : Option ((St × Int32 × Int32) ⊕ (St × Int32)))) fun k79_12 => if (σ11.1 0 50) = 0 then (wlet (si σ11 0 50 (0 : Int32)) fun σ20 => wlet (un2 (fun (σ52_21 : St) (x5_52_21 : Int32) => if (7 : Int32) ≤ x5_52_21 then (some (.inr σ52_21)) else (if ib x5_52_21 26 = true then if ib x5_52_21 7 = true then wlet (si σ52_21 30 (Int32.toNatClampNeg x5_52_21) (σ52_21.1 27 (Int32.toNatClampNeg x5_52_21))) fun σ25 => wlet (x5_52_21 + (1 : Int32)) fun v26 => some (.inl (σ25, v26)) else none else none)) : St × Int32 → Option ((St × Int32) ⊕ (St))) fun st52_21 => Option.bind (lp st52_21 fuel (σ20, (0 : Int32))) ((fun (σe52_21 : St) => k79_12 σe52_21 v10))) else (if x2_17_6 ≤ v10 then (k79_12 σ11 x2_17_6) else (wlet (si σ11 0 50 (0 : Int32)) fun σ28 => wlet (un2 (fun (σ52_29 : St) (x5_52_29 : Int32) => if (7 : Int32) ≤ x5_52_29 then (some (.inr σ52_29)) else (if ib x5_52_29 26 = true then if ib x5_52_29 7 = true then wlet (si σ52_29 30 (Int32.toNatClampNeg x5_52_29) (σ52_29.1 27 (Int32.toNatClampNeg x5_52_29))) fun σ33 => wlet (x5_52_29 + (1 : Int32)) fun v34 => some (.inl (σ33, v34)) else none else none)) : St × Int32 → Option ((St × Int32) ⊕ (St))) fun st52_29 => Option.bind (lp st52_29 fuel (σ28, (0 : Int32))) ((fun (σe52_29 : St) => k79_12 σe52_29 v10)))))) : St × Int32 × Int32 → Option ((St × Int32 × Int32) ⊕ (St × Int32))) fun st17_6 => Option.bind (lp st17_6 fuel (σ5, (0 : Int32), (1 : Int32))) ((un2 (fun (σe17_6 : St) (x2_e17_6 : Int32) => if x1 = (1 : Int32) then (some ((-x2_e17_6), σe17_6)) else (some (x2_e17_6, σe17_6)))))
theorem hd_X11_bestOf : yX11_bestOf.cls = RX11 ∧ yX11_bestOf.cls ≠ "java/lang/invoke/MethodHandle" ∧ yX11_bestOf.cls ≠ "java/lang/invoke/VarHandle" ∧ (parseMethodDescriptor yX11_bestOf.desc).map (fun d => d.parameters.length) = some 1 := by decide +kernel
set_option maxRecDepth 100000 in
set_option maxHeartbeats 4000000 in
theorem k_X11_bestOf {l : Launch} {ad : Nat → Nat} {D : va_G} {cy : Nat → ClassId} {z : wStr} (hI : wI WM ad) {σ : St} {x1 : Int32}  {res : Int32 × St} (hf : f_X11_bestOf σ x1 = some res) : wC WM ad D cy z l yX11_bestOf (Cond.code yX11_bestOf cX11_bestOf 6 (Option.some Jvm.ClassFile.FieldType.int) :: aw) (7) (245) [.ref (ad 0), .int x1] σ (wQi WM ad D cy res.1 res.2) := by
  unfold f_X11_bestOf at hf
  refine wr_start (own := RX11) hI (by decide +kernel) rfl (Nat.le_of_ble_eq_true rfl) rfl ?_
  intro p e s m below meth c ls X hw hr hl
  have hx := X.hx
  have hb := X.hb
  obtain ⟨H, eH⟩ : ∃ H : Heap, H = s.heap := ⟨_, rfl⟩
  obtain ⟨locs, el⟩ : ∃ locs : List Loc, locs = [] := ⟨_, rfl⟩
  rw [← eH, ← el] at hw ⊢
  clear eH el
  replace hl : lv_has ls 6 [(0, .ref (ad 0)), (1, .int x1)] := hl
  refine lv_aload_n hx hb dX11_bestOf_0 rfl (lv_at hl 0 rfl) ?_
  obtain ⟨σ2, hq1, hf⟩ := bind_some hf
  refine wr_cVv (σ' := σ2) (av := []) (rest := []) X hw hl.1 sM0 nM0 rfl (k_X11_copies hI hq1) rfl ml_X11_345 im_X11_copies se_X11_copies ini_X11 co_X11_copies hd_X11_copies ⟨Nat.le_of_ble_eq_true rfl, Nat.le_of_ble_eq_true rfl⟩ (Nat.le_of_ble_eq_true rfl) dX11_bestOf_1 rfl (fun H locs hw => ?_)
  refine lv_aload_n hx hb dX11_bestOf_4 rfl (lv_at hl 0 rfl) ?_
  obtain ⟨σ4, hq3, hf⟩ := bind_some hf
  refine wr_cVv (σ' := σ4) (av := []) (rest := []) X hw hl.1 sM0 nM0 rfl (k_X11_firstOrder hI hq3) rfl ml_X11_384 im_X11_firstOrder se_X11_firstOrder ini_X11 co_X11_firstOrder hd_X11_firstOrder ⟨Nat.le_of_ble_eq_true rfl, Nat.le_of_ble_eq_true rfl⟩ (Nat.le_of_ble_eq_true rfl) dX11_bestOf_5 rfl (fun H locs hw => ?_)
  refine lv_iconst (v := 0) hx hb dX11_bestOf_8 (by decide) ?_
  refine lv_istore_n (lv' := [(2, .int (0 : Int32)), (0, .ref (ad 0)), (1, .int x1)]) hx hb dX11_bestOf_9 rfl hl (by decide) rfl (fun ls hl => ?_)
  refine lv_aload_n hx hb dX11_bestOf_10 rfl (lv_at hl 1 rfl) ?_
  refine lv_iconst (v := 0) hx hb dX11_bestOf_11 (by decide) ?_
  obtain ⟨σ5, eσ5, hf⟩ := wlet_some hf
  refine pX11_50 X hw sM0 nM0 fl_X11_387 dX11_bestOf_12 (fun H locs hw => ?_)
  replace hw := hw.to eσ5
  refine lv_iconst (v := 1) hx hb dX11_bestOf_15 (by decide) ?_
  refine lv_istore_n (lv' := [(3, .int (1 : Int32)), (2, .int (0 : Int32)), (0, .ref (ad 0)), (1, .int x1)]) hx hb dX11_bestOf_16 rfl hl (by decide) rfl (fun ls hl => ?_)
  obtain ⟨st17_6, est17_6, hf⟩ := wlet_some hf
  obtain ⟨E17_6, hq17_6, hE17_6⟩ := bind_some hf
  have hx17_6 : ∀ (σe17_6 : St) (x2_e17_6 : Int32) (_ : (σe17_6, x2_e17_6) = E17_6) (ls : Array Slot) (H : Heap) (locs : List Loc), lv_has ls 6 [(1, .int x1), (2, .int x2_e17_6)] → wH WM ad D cy s σe17_6 H locs → W p l e { frames := 7, cells := 0, slots := 0, locals := 245 } s m [.ref (ad 0), .int x1].toArray below meth c H locs 0 0 (MQ below (wQi WM ad D cy res.1 res.2) [.ref (ad 0), .int x1].toArray s 0 0 (wA WM ad)) (F0 m 103 ls []) := by
    intro σe17_6 x2_e17_6 e0 ls H locs hl hw
    subst e0
    have hf := hE17_6
    replace hf := un2_some hf
    refine lv_iload_n hx hb dX11_bestOf_103 rfl (lv_at hl 0 rfl) ?_
    refine lv_iconst (v := 1) hx hb dX11_bestOf_104 (by decide) ?_
    refine lv_icmp_ne (tgt := 113) hx hb dX11_bestOf_105 (by decide) (fun c7 => ?_) (fun c7 => ?_)
    · have hf := (if_neg c7).symm.trans hf
      refine lv_iload_n hx hb dX11_bestOf_113 rfl (lv_at hl 1 rfl) ?_
      have er := Option.some.inj hf
      subst er
      exact wr_iret X hw hr (Or.inl rfl) dX11_bestOf_114
    · have hf := (if_pos c7).symm.trans hf
      refine lv_iload_n hx hb dX11_bestOf_108 rfl (lv_at hl 1 rfl) ?_
      refine lv_ineg hx hb dX11_bestOf_109 ?_
      refine lv_goto (tgt := 114) hx hb dX11_bestOf_110 (by decide) ?_
      have er := Option.some.inj hf
      subst er
      exact wr_iret X hw hr (Or.inl rfl) dX11_bestOf_114
  have lo17_6 : ∀ (n : Nat) (σ17_6 : St) (x2_17_6 : Int32) (x3_17_6 : Int32) (_ : lp st17_6 n (σ17_6, x2_17_6, x3_17_6) = some E17_6) (ls : Array Slot) (H : Heap) (locs : List Loc), lv_has ls 6 [(0, .ref (ad 0)), (1, .int x1), (2, .int x2_17_6), (3, .int x3_17_6)] → wH WM ad D cy s σ17_6 H locs → W p l e { frames := 7, cells := 0, slots := 0, locals := 245 } s m [.ref (ad 0), .int x1].toArray below meth c H locs 0 0 (MQ below (wQi WM ad D cy res.1 res.2) [.ref (ad 0), .int x1].toArray s 0 0 (wA WM ad)) (F0 m 17 ls []) := by
    intro n
    induction n with
    | zero =>
      intro σ17_6 x2_17_6 x3_17_6 hf ls H locs hl hw
      exact (lp_zero hf).elim
    | succ n ih17_6 =>
      intro σ17_6 x2_17_6 x3_17_6 hf ls H locs hl hw
      obtain ⟨q17_6, hf, hz17_6⟩ := lp_succ hf
      rw [est17_6] at hf
      replace hf := un3_some hf
      refine lv_iload_n hx hb dX11_bestOf_17 rfl (lv_at hl 3 rfl) ?_
      refine lv_if_eq (tgt := 103) hx hb dX11_bestOf_18 (by decide) (fun c8 => ?_) (fun c8 => ?_)
      · have hf := (if_pos c8).symm.trans hf
        exact hx17_6 σ17_6 x2_17_6 (lpK_inr (lp_leaf hf hz17_6)) ls H locs (lv_sub hl [1, 2] rfl) hw
      · have hf := (if_neg c8).symm.trans hf
        refine lv_aload_n hx hb dX11_bestOf_21 rfl (lv_at hl 0 rfl) ?_
        refine lv_iload_n hx hb dX11_bestOf_22 rfl (lv_at hl 1 rfl) ?_
        obtain ⟨v10, σ11, hq9, hf⟩ := bnd2_some hf
        refine wr_cVi (r := v10) (σ' := σ11) (av := [.int x1]) (rest := []) X hw hl.1 sM0 nM0 rfl (k_X11_byGoal hI hq9) rfl ml_X11_390 im_X11_byGoal se_X11_byGoal ini_X11 co_X11_byGoal hd_X11_byGoal ⟨Nat.le_of_ble_eq_true rfl, Nat.le_of_ble_eq_true rfl⟩ (Nat.le_of_ble_eq_true rfl) dX11_bestOf_23 rfl (fun H locs hw => ?_)
        refine lv_istore (lv' := [(4, .int v10), (0, .ref (ad 0)), (1, .int x1), (2, .int x2_17_6), (3, .int x3_17_6)]) hx hb dX11_bestOf_26 hl (by decide) rfl (fun ls hl => ?_)
        refine lv_aload_n hx hb dX11_bestOf_28 rfl (lv_at hl 1 rfl) ?_
        refine gX11_50 X hw sM0 nM0 fl_X11_387 dX11_bestOf_29 ?_
        obtain ⟨k79_12, ek79_12, hf0⟩ := wlet_some hf
        have j79_12 : ∀ (σ_79_12 : St) (x2_79_12 : Int32) (_ : k79_12 σ_79_12 x2_79_12 = some q17_6) (ls : Array Slot) (H : Heap) (locs : List Loc), lv_has ls 6 [(0, .ref (ad 0)), (1, .int x1), (2, .int x2_79_12), (4, .int v10)] → wH WM ad D cy s σ_79_12 H locs → W p l e { frames := 7, cells := 0, slots := 0, locals := 245 } s m [.ref (ad 0), .int x1].toArray below meth c H locs 0 0 (MQ below (wQi WM ad D cy res.1 res.2) [.ref (ad 0), .int x1].toArray s 0 0 (wA WM ad)) (F0 m 79 ls []) := by
          intro σ_79_12 x2_79_12 hf ls H locs hl hw
          rw [ek79_12] at hf
          refine lv_iload hx hb dX11_bestOf_79 (lv_at hl 3 rfl) ?_
          refine lv_iload_n hx hb dX11_bestOf_81 rfl (lv_at hl 2 rfl) ?_
          obtain ⟨k95_13, ek95_13, hf0⟩ := wlet_some hf
          have j95_13 : ∀ (σ_95_13 : St) (_ : k95_13 σ_95_13 = some q17_6) (ls : Array Slot) (H : Heap) (locs : List Loc), lv_has ls 6 [(0, .ref (ad 0)), (1, .int x1), (2, .int x2_79_12)] → wH WM ad D cy s σ_95_13 H locs → W p l e { frames := 7, cells := 0, slots := 0, locals := 245 } s m [.ref (ad 0), .int x1].toArray below meth c H locs 0 0 (MQ below (wQi WM ad D cy res.1 res.2) [.ref (ad 0), .int x1].toArray s 0 0 (wA WM ad)) (F0 m 95 ls []) := by
            intro σ_95_13 hf ls H locs hl hw
            rw [ek95_13] at hf
            refine lv_aload_n hx hb dX11_bestOf_95 rfl (lv_at hl 0 rfl) ?_
            obtain ⟨v15, σ16, hq14, hf⟩ := bnd2_some hf
            refine wr_cVi (r := v15) (σ' := σ16) (av := []) (rest := []) X hw hl.1 sM0 nM0 rfl (k_X11_nextOrder hI hq14) rfl ml_X11_393 im_X11_nextOrder se_X11_nextOrder ini_X11 co_X11_nextOrder hd_X11_nextOrder ⟨Nat.le_of_ble_eq_true rfl, Nat.le_of_ble_eq_true rfl⟩ (Nat.le_of_ble_eq_true rfl) dX11_bestOf_96 rfl (fun H locs hw => ?_)
            refine lv_istore_n (lv' := [(3, .int v15), (0, .ref (ad 0)), (1, .int x1), (2, .int x2_79_12)]) hx hb dX11_bestOf_99 rfl hl (by decide) rfl (fun ls hl => ?_)
            refine lv_goto (tgt := 17) hx hb dX11_bestOf_100 (by decide) ?_
            exact ih17_6 σ16 x2_79_12 v15 (lp_leaf hf hz17_6) ls H locs (lv_sub hl [1, 2, 3, 0] rfl) hw
          replace hf := hf0
          refine lv_icmp_ne (tgt := 95) hx hb dX11_bestOf_82 (by decide) (fun c17 => ?_) (fun c17 => ?_)
          · have hf := (if_neg c17).symm.trans hf
            exact j95_13 σ_79_12 hf ls H locs (lv_sub hl [0, 1, 2] rfl) hw
          · have hf := (if_pos c17).symm.trans hf
            refine lv_aload_n hx hb dX11_bestOf_85 rfl (lv_at hl 0 rfl) ?_
            refine lv_dup hx hb dX11_bestOf_86 rfl ?_
            refine gX11_50 X hw sM0 nM0 fl_X11_387 dX11_bestOf_87 ?_
            refine lv_iconst (v := 1) hx hb dX11_bestOf_90 (by decide) ?_
            refine lv_iadd hx hb dX11_bestOf_91 ?_
            obtain ⟨σ18, eσ18, hf⟩ := wlet_some hf
            refine pX11_50 X hw sM0 nM0 fl_X11_387 dX11_bestOf_92 (fun H locs hw => ?_)
            replace hw := hw.to eσ18
            exact j95_13 σ18 hf ls H locs (lv_sub hl [0, 1, 2] rfl) hw
        replace hf := hf0
        refine lv_if_eq (tgt := 41) hx hb dX11_bestOf_32 (by decide) (fun c19 => ?_) (fun c19 => ?_)
        · have hf := (if_pos c19).symm.trans hf
          refine lv_iload hx hb dX11_bestOf_41 (lv_at hl 0 rfl) ?_
          refine lv_istore_n (lv' := [(2, .int v10), (4, .int v10), (0, .ref (ad 0)), (1, .int x1), (3, .int x3_17_6)]) hx hb dX11_bestOf_43 rfl hl (by decide) rfl (fun ls hl => ?_)
          refine lv_aload_n hx hb dX11_bestOf_44 rfl (lv_at hl 2 rfl) ?_
          refine lv_iconst (v := 0) hx hb dX11_bestOf_45 (by decide) ?_
          obtain ⟨σ20, eσ20, hf⟩ := wlet_some hf
          refine pX11_50 X hw sM0 nM0 fl_X11_387 dX11_bestOf_46 (fun H locs hw => ?_)
          replace hw := hw.to eσ20
          refine lv_iconst (v := 0) hx hb dX11_bestOf_49 (by decide) ?_
          refine lv_istore (lv' := [(5, .int (0 : Int32)), (2, .int v10), (4, .int v10), (0, .ref (ad 0)), (1, .int x1), (3, .int x3_17_6)]) hx hb dX11_bestOf_50 hl (by decide) rfl (fun ls hl => ?_)
          obtain ⟨st52_21, est52_21, hf⟩ := wlet_some hf
          obtain ⟨E52_21, hq52_21, hE52_21⟩ := bind_some hf
          have hx52_21 : ∀ (σe52_21 : St) (_ : σe52_21 = E52_21) (ls : Array Slot) (H : Heap) (locs : List Loc), lv_has ls 6 [(0, .ref (ad 0)), (1, .int x1), (2, .int v10), (4, .int v10)] → wH WM ad D cy s σe52_21 H locs → W p l e { frames := 7, cells := 0, slots := 0, locals := 245 } s m [.ref (ad 0), .int x1].toArray below meth c H locs 0 0 (MQ below (wQi WM ad D cy res.1 res.2) [.ref (ad 0), .int x1].toArray s 0 0 (wA WM ad)) (F0 m 79 ls []) := by
            intro σe52_21 e0 ls H locs hl hw
            subst e0
            have hf := hE52_21
            exact j79_12 σe52_21 v10 hf ls H locs (lv_sub hl [0, 1, 2, 3] rfl) hw
          have lo52_21 : ∀ (n : Nat) (σ52_21 : St) (x5_52_21 : Int32) (_ : lp st52_21 n (σ52_21, x5_52_21) = some E52_21) (ls : Array Slot) (H : Heap) (locs : List Loc), lv_has ls 6 [(0, .ref (ad 0)), (1, .int x1), (2, .int v10), (4, .int v10), (5, .int x5_52_21)] → wH WM ad D cy s σ52_21 H locs → W p l e { frames := 7, cells := 0, slots := 0, locals := 245 } s m [.ref (ad 0), .int x1].toArray below meth c H locs 0 0 (MQ below (wQi WM ad D cy res.1 res.2) [.ref (ad 0), .int x1].toArray s 0 0 (wA WM ad)) (F0 m 52 ls []) := by
            intro n
            induction n with
            | zero =>
              intro σ52_21 x5_52_21 hf ls H locs hl hw
              exact (lp_zero hf).elim
            | succ n ih52_21 =>
              intro σ52_21 x5_52_21 hf ls H locs hl hw
              obtain ⟨q52_21, hf, hz52_21⟩ := lp_succ hf
              rw [est52_21] at hf
              replace hf := un2_some hf
              refine lv_iload hx hb dX11_bestOf_52 (lv_at hl 4 rfl) ?_
              refine lv_bipush (v := 7) hx hb dX11_bestOf_54 (by decide) ?_
              refine lv_icmp_ge (tgt := 79) hx hb dX11_bestOf_56 (by decide) (fun c22 => ?_) (fun c22 => ?_)
              · have hf := (if_pos c22).symm.trans hf
                exact hx52_21 σ52_21 (lpK_inr (lp_leaf hf hz52_21)) ls H locs (lv_sub hl [0, 1, 2, 3] rfl) hw
              · have hf := (if_neg c22).symm.trans hf
                refine lv_aload_n hx hb dX11_bestOf_59 rfl (lv_at hl 0 rfl) ?_
                refine gX11_49 (b := 30) X hw sM0 nM0 rfl fl_X11_107 dX11_bestOf_60 ?_
                refine lv_iload hx hb dX11_bestOf_63 (lv_at hl 4 rfl) ?_
                refine lv_aload_n hx hb dX11_bestOf_65 rfl (lv_at hl 0 rfl) ?_
                refine gX11_44 (b := 27) X hw sM0 nM0 rfl fl_X11_98 dX11_bestOf_66 ?_
                refine lv_iload hx hb dX11_bestOf_69 (lv_at hl 4 rfl) ?_
                obtain ⟨h23, hf⟩ := if_some hf
                refine wr_iald X hw sM27 nM27 h23 dX11_bestOf_71 ?_
                obtain ⟨h24, hf⟩ := if_some hf
                obtain ⟨σ25, eσ25, hf⟩ := wlet_some hf
                refine wr_iast X hw sM30 nM30 h24 dX11_bestOf_72 (fun H locs hw => ?_)
                replace hw := hw.to eσ25
                obtain ⟨v26, ev26, hf⟩ := wlet_some hf
                refine lv_iinc (v := v26) (lv' := [(5, .int v26), (0, .ref (ad 0)), (1, .int x1), (2, .int v10), (4, .int v10)]) hx hb dX11_bestOf_73 hl (k := 4) rfl (by rw [ev26]; rfl) (by decide) rfl (fun ls hl => ?_)
                refine lv_goto (tgt := 52) hx hb dX11_bestOf_76 (by decide) ?_
                exact ih52_21 σ25 v26 (lp_leaf hf hz52_21) ls H locs (lv_sub hl [1, 2, 3, 4, 0] rfl) hw
          exact lo52_21 fuel σ20 (0 : Int32) hq52_21 ls H locs (lv_sub hl [3, 4, 1, 2, 0] rfl) hw
        · have hf := (if_neg c19).symm.trans hf
          refine lv_iload hx hb dX11_bestOf_35 (lv_at hl 0 rfl) ?_
          refine lv_iload_n hx hb dX11_bestOf_37 rfl (lv_at hl 3 rfl) ?_
          refine lv_icmp_ge (tgt := 79) hx hb dX11_bestOf_38 (by decide) (fun c27 => ?_) (fun c27 => ?_)
          · have hf := (if_pos c27).symm.trans hf
            exact j79_12 σ11 x2_17_6 hf ls H locs (lv_sub hl [1, 2, 3, 0] rfl) hw
          · have hf := (if_neg c27).symm.trans hf
            refine lv_iload hx hb dX11_bestOf_41 (lv_at hl 0 rfl) ?_
            refine lv_istore_n (lv' := [(2, .int v10), (4, .int v10), (0, .ref (ad 0)), (1, .int x1), (3, .int x3_17_6)]) hx hb dX11_bestOf_43 rfl hl (by decide) rfl (fun ls hl => ?_)
            refine lv_aload_n hx hb dX11_bestOf_44 rfl (lv_at hl 2 rfl) ?_
            refine lv_iconst (v := 0) hx hb dX11_bestOf_45 (by decide) ?_
            obtain ⟨σ28, eσ28, hf⟩ := wlet_some hf
            refine pX11_50 X hw sM0 nM0 fl_X11_387 dX11_bestOf_46 (fun H locs hw => ?_)
            replace hw := hw.to eσ28
            refine lv_iconst (v := 0) hx hb dX11_bestOf_49 (by decide) ?_
            refine lv_istore (lv' := [(5, .int (0 : Int32)), (2, .int v10), (4, .int v10), (0, .ref (ad 0)), (1, .int x1), (3, .int x3_17_6)]) hx hb dX11_bestOf_50 hl (by decide) rfl (fun ls hl => ?_)
            obtain ⟨st52_29, est52_29, hf⟩ := wlet_some hf
            obtain ⟨E52_29, hq52_29, hE52_29⟩ := bind_some hf
            have hx52_29 : ∀ (σe52_29 : St) (_ : σe52_29 = E52_29) (ls : Array Slot) (H : Heap) (locs : List Loc), lv_has ls 6 [(0, .ref (ad 0)), (1, .int x1), (2, .int v10), (4, .int v10)] → wH WM ad D cy s σe52_29 H locs → W p l e { frames := 7, cells := 0, slots := 0, locals := 245 } s m [.ref (ad 0), .int x1].toArray below meth c H locs 0 0 (MQ below (wQi WM ad D cy res.1 res.2) [.ref (ad 0), .int x1].toArray s 0 0 (wA WM ad)) (F0 m 79 ls []) := by
              intro σe52_29 e0 ls H locs hl hw
              subst e0
              have hf := hE52_29
              exact j79_12 σe52_29 v10 hf ls H locs (lv_sub hl [0, 1, 2, 3] rfl) hw
            have lo52_29 : ∀ (n : Nat) (σ52_29 : St) (x5_52_29 : Int32) (_ : lp st52_29 n (σ52_29, x5_52_29) = some E52_29) (ls : Array Slot) (H : Heap) (locs : List Loc), lv_has ls 6 [(0, .ref (ad 0)), (1, .int x1), (2, .int v10), (4, .int v10), (5, .int x5_52_29)] → wH WM ad D cy s σ52_29 H locs → W p l e { frames := 7, cells := 0, slots := 0, locals := 245 } s m [.ref (ad 0), .int x1].toArray below meth c H locs 0 0 (MQ below (wQi WM ad D cy res.1 res.2) [.ref (ad 0), .int x1].toArray s 0 0 (wA WM ad)) (F0 m 52 ls []) := by
              intro n
              induction n with
              | zero =>
                intro σ52_29 x5_52_29 hf ls H locs hl hw
                exact (lp_zero hf).elim
              | succ n ih52_29 =>
                intro σ52_29 x5_52_29 hf ls H locs hl hw
                obtain ⟨q52_29, hf, hz52_29⟩ := lp_succ hf
                rw [est52_29] at hf
                replace hf := un2_some hf
                refine lv_iload hx hb dX11_bestOf_52 (lv_at hl 4 rfl) ?_
                refine lv_bipush (v := 7) hx hb dX11_bestOf_54 (by decide) ?_
                refine lv_icmp_ge (tgt := 79) hx hb dX11_bestOf_56 (by decide) (fun c30 => ?_) (fun c30 => ?_)
                · have hf := (if_pos c30).symm.trans hf
                  exact hx52_29 σ52_29 (lpK_inr (lp_leaf hf hz52_29)) ls H locs (lv_sub hl [0, 1, 2, 3] rfl) hw
                · have hf := (if_neg c30).symm.trans hf
                  refine lv_aload_n hx hb dX11_bestOf_59 rfl (lv_at hl 0 rfl) ?_
                  refine gX11_49 (b := 30) X hw sM0 nM0 rfl fl_X11_107 dX11_bestOf_60 ?_
                  refine lv_iload hx hb dX11_bestOf_63 (lv_at hl 4 rfl) ?_
                  refine lv_aload_n hx hb dX11_bestOf_65 rfl (lv_at hl 0 rfl) ?_
                  refine gX11_44 (b := 27) X hw sM0 nM0 rfl fl_X11_98 dX11_bestOf_66 ?_
                  refine lv_iload hx hb dX11_bestOf_69 (lv_at hl 4 rfl) ?_
                  obtain ⟨h31, hf⟩ := if_some hf
                  refine wr_iald X hw sM27 nM27 h31 dX11_bestOf_71 ?_
                  obtain ⟨h32, hf⟩ := if_some hf
                  obtain ⟨σ33, eσ33, hf⟩ := wlet_some hf
                  refine wr_iast X hw sM30 nM30 h32 dX11_bestOf_72 (fun H locs hw => ?_)
                  replace hw := hw.to eσ33
                  obtain ⟨v34, ev34, hf⟩ := wlet_some hf
                  refine lv_iinc (v := v34) (lv' := [(5, .int v34), (0, .ref (ad 0)), (1, .int x1), (2, .int v10), (4, .int v10)]) hx hb dX11_bestOf_73 hl (k := 4) rfl (by rw [ev34]; rfl) (by decide) rfl (fun ls hl => ?_)
                  refine lv_goto (tgt := 52) hx hb dX11_bestOf_76 (by decide) ?_
                  exact ih52_29 σ33 v34 (lp_leaf hf hz52_29) ls H locs (lv_sub hl [1, 2, 3, 4, 0] rfl) hw
            exact lo52_29 fuel σ28 (0 : Int32) hq52_29 ls H locs (lv_sub hl [3, 4, 1, 2, 0] rfl) hw
  exact lo17_6 fuel σ5 (0 : Int32) (1 : Int32) hq17_6 ls H locs (lv_sub hl [2, 3, 1, 0] rfl) hw

def f_X11_best (σ : St) (x1 : Int32) (x2 : Int32) : Option (Int32 × St) := Option.bind (f_X11_in x1 (0 : Int32) (3 : Int32)) fun v2 => if v2 = 0 then (some ((-1 : Int32), σ)) else (if x2 < (-2 : Int32) then (some ((-1 : Int32), σ)) else (if ib (7 : Int32) 26 = true then if x2 < (σ.1 26 (Int32.toNatClampNeg (7 : Int32))) then (bnd2 (f_X11_bestOf σ x1) fun v8 σ9 => if x2 = (-1 : Int32) then (some (v8, σ9)) else (if x2 = (-2 : Int32) then (some ((σ9.1 0 50), σ9)) else (if ib x2 7 = true then some ((σ9.1 30 (Int32.toNatClampNeg x2)), σ9) else none))) else (some ((-1 : Int32), σ)) else none))
theorem hd_X11_best : yX11_best.cls = RX11 ∧ yX11_best.cls ≠ "java/lang/invoke/MethodHandle" ∧ yX11_best.cls ≠ "java/lang/invoke/VarHandle" ∧ (parseMethodDescriptor yX11_best.desc).map (fun d => d.parameters.length) = some 2 := by decide +kernel
set_option maxRecDepth 100000 in
set_option maxHeartbeats 4000000 in
theorem k_X11_best {l : Launch} {ad : Nat → Nat} {D : va_G} {cy : Nat → ClassId} {z : wStr} (hI : wI WM ad) {σ : St} {x1 : Int32} {x2 : Int32}  {res : Int32 × St} (hf : f_X11_best σ x1 x2 = some res) : wC WM ad D cy z l yX11_best (Cond.code yX11_best cX11_best 4 (Option.some Jvm.ClassFile.FieldType.int) :: aw) (8) (270) [.ref (ad 0), .int x1, .int x2] σ (wQi WM ad D cy res.1 res.2) := by
  unfold f_X11_best at hf
  refine wr_start (own := RX11) hI (by decide +kernel) rfl (Nat.le_of_ble_eq_true rfl) rfl ?_
  intro p e s m below meth c ls X hw hr hl
  have hx := X.hx
  have hb := X.hb
  obtain ⟨H, eH⟩ : ∃ H : Heap, H = s.heap := ⟨_, rfl⟩
  obtain ⟨locs, el⟩ : ∃ locs : List Loc, locs = [] := ⟨_, rfl⟩
  rw [← eH, ← el] at hw ⊢
  clear eH el
  replace hl : lv_has ls 4 [(0, .ref (ad 0)), (1, .int x1), (2, .int x2)] := hl
  refine lv_iload_n hx hb dX11_best_0 rfl (lv_at hl 1 rfl) ?_
  refine lv_iconst (v := 0) hx hb dX11_best_1 (by decide) ?_
  refine lv_iconst (v := 3) hx hb dX11_best_2 (by decide) ?_
  obtain ⟨v2, hq1, hf⟩ := bind_some hf
  refine wr_cSi (r := v2) (σ' := σ) (av := [.int x1, .int (0 : Int32), .int (3 : Int32)]) (rest := []) X hw hl.1 (k_X11_in hI hq1) rfl ml_X11_282 st_X11_in ini_X11 co_X11_in hd_X11_in ⟨Nat.le_of_ble_eq_true rfl, Nat.le_of_ble_eq_true rfl⟩ (Nat.le_of_ble_eq_true rfl) dX11_best_3 rfl (fun H locs hw => ?_)
  refine lv_if_eq (tgt := 26) hx hb dX11_best_6 (by decide) (fun c3 => ?_) (fun c3 => ?_)
  · have hf := (if_pos c3).symm.trans hf
    refine lv_iconst (v := -1) hx hb dX11_best_26 (by decide) ?_
    have er := Option.some.inj hf
    subst er
    exact wr_iret X hw hr (Or.inl rfl) dX11_best_27
  · have hf := (if_neg c3).symm.trans hf
    refine lv_iload_n hx hb dX11_best_9 rfl (lv_at hl 2 rfl) ?_
    refine lv_bipush (v := -2) hx hb dX11_best_10 (by decide) ?_
    refine lv_icmp_lt (tgt := 26) hx hb dX11_best_12 (by decide) (fun c4 => ?_) (fun c4 => ?_)
    · have hf := (if_pos c4).symm.trans hf
      refine lv_iconst (v := -1) hx hb dX11_best_26 (by decide) ?_
      have er := Option.some.inj hf
      subst er
      exact wr_iret X hw hr (Or.inl rfl) dX11_best_27
    · have hf := (if_neg c4).symm.trans hf
      refine lv_iload_n hx hb dX11_best_15 rfl (lv_at hl 2 rfl) ?_
      refine lv_aload_n hx hb dX11_best_16 rfl (lv_at hl 0 rfl) ?_
      refine gX11_43 (b := 26) X hw sM0 nM0 rfl fl_X11_95 dX11_best_17 ?_
      refine lv_bipush (v := 7) hx hb dX11_best_20 (by decide) ?_
      obtain ⟨h5, hf⟩ := if_some hf
      refine wr_iald X hw sM26 nM26 h5 dX11_best_22 ?_
      refine lv_icmp_lt (tgt := 28) hx hb dX11_best_23 (by decide) (fun c6 => ?_) (fun c6 => ?_)
      · have hf := (if_pos c6).symm.trans hf
        refine lv_aload_n hx hb dX11_best_28 rfl (lv_at hl 0 rfl) ?_
        refine lv_iload_n hx hb dX11_best_29 rfl (lv_at hl 1 rfl) ?_
        obtain ⟨v8, σ9, hq7, hf⟩ := bnd2_some hf
        refine wr_cVi (r := v8) (σ' := σ9) (av := [.int x1]) (rest := []) X hw hl.1 sM0 nM0 rfl (k_X11_bestOf hI hq7) rfl ml_X11_396 im_X11_bestOf se_X11_bestOf ini_X11 co_X11_bestOf hd_X11_bestOf ⟨Nat.le_of_ble_eq_true rfl, Nat.le_of_ble_eq_true rfl⟩ (Nat.le_of_ble_eq_true rfl) dX11_best_30 rfl (fun H locs hw => ?_)
        refine lv_istore_n (lv' := [(3, .int v8), (0, .ref (ad 0)), (1, .int x1), (2, .int x2)]) hx hb dX11_best_33 rfl hl (by decide) rfl (fun ls hl => ?_)
        refine lv_iload_n hx hb dX11_best_34 rfl (lv_at hl 3 rfl) ?_
        refine lv_iconst (v := -1) hx hb dX11_best_35 (by decide) ?_
        refine lv_icmp_ne (tgt := 43) hx hb dX11_best_36 (by decide) (fun c10 => ?_) (fun c10 => ?_)
        · have hf := (if_neg c10).symm.trans hf
          refine lv_iload_n hx hb dX11_best_43 rfl (lv_at hl 3 rfl) ?_
          refine lv_bipush (v := -2) hx hb dX11_best_44 (by decide) ?_
          refine lv_icmp_ne (tgt := 56) hx hb dX11_best_46 (by decide) (fun c11 => ?_) (fun c11 => ?_)
          · have hf := (if_neg c11).symm.trans hf
            refine lv_aload_n hx hb dX11_best_56 rfl (lv_at hl 1 rfl) ?_
            refine gX11_49 (b := 30) X hw sM0 nM0 rfl fl_X11_107 dX11_best_57 ?_
            refine lv_iload_n hx hb dX11_best_60 rfl (lv_at hl 3 rfl) ?_
            obtain ⟨h12, hf⟩ := if_some hf
            refine wr_iald X hw sM30 nM30 h12 dX11_best_61 ?_
            have er := Option.some.inj hf
            subst er
            exact wr_iret X hw hr (Or.inl rfl) dX11_best_62
          · have hf := (if_pos c11).symm.trans hf
            refine lv_aload_n hx hb dX11_best_49 rfl (lv_at hl 1 rfl) ?_
            refine gX11_50 X hw sM0 nM0 fl_X11_387 dX11_best_50 ?_
            refine lv_goto (tgt := 62) hx hb dX11_best_53 (by decide) ?_
            have er := Option.some.inj hf
            subst er
            exact wr_iret X hw hr (Or.inl rfl) dX11_best_62
        · have hf := (if_pos c10).symm.trans hf
          refine lv_iload_n hx hb dX11_best_39 rfl (lv_at hl 0 rfl) ?_
          refine lv_goto (tgt := 62) hx hb dX11_best_40 (by decide) ?_
          have er := Option.some.inj hf
          subst er
          exact wr_iret X hw hr (Or.inl rfl) dX11_best_62
      · have hf := (if_neg c6).symm.trans hf
        refine lv_iconst (v := -1) hx hb dX11_best_26 (by decide) ?_
        have er := Option.some.inj hf
        subst er
        exact wr_iret X hw hr (Or.inl rfl) dX11_best_27

def f_X11_bits (x0 : Int32) : Option (Int32) := wlet (un2 (fun (x1_4_1 : Int32) (x2_4_1 : Int32) => if (7 : Int32) ≤ x2_4_1 then (some (.inr x1_4_1)) else (wlet (x1_4_1 + ((x0 >>> (x2_4_1 &&& 31)) &&& (1 : Int32))) fun v3 => wlet (x2_4_1 + (1 : Int32)) fun v4 => some (.inl (v3, v4)))) : Int32 × Int32 → Option ((Int32 × Int32) ⊕ (Int32))) fun st4_1 => Option.bind (lp st4_1 fuel ((0 : Int32), (0 : Int32))) ((fun (x1_e4_1 : Int32) => some x1_e4_1))
theorem hd_X11_bits : yX11_bits.cls ≠ "java/lang/invoke/MethodHandle" ∧ yX11_bits.cls ≠ "java/lang/invoke/VarHandle" ∧ (parseMethodDescriptor yX11_bits.desc).map (fun d => d.parameters.length) = some 1 := by decide +kernel
set_option maxRecDepth 100000 in
set_option maxHeartbeats 4000000 in
theorem k_X11_bits {l : Launch} {ad : Nat → Nat} {D : va_G} {cy : Nat → ClassId} {z : wStr} (hI : wI WM ad) {σ : St} {x0 : Int32}  {res : Int32} (hf : f_X11_bits x0 = some res) : wC WM ad D cy z l yX11_bits (Cond.code yX11_bits cX11_bits 3 (Option.some Jvm.ClassFile.FieldType.int) :: aw) (1) (100) [.int x0] σ (wQi WM ad D cy res σ) := by
  unfold f_X11_bits at hf
  refine wr_start (own := RX11) hI (by decide +kernel) rfl (Nat.le_of_ble_eq_true rfl) rfl ?_
  intro p e s m below meth c ls X hw hr hl
  have hx := X.hx
  have hb := X.hb
  obtain ⟨H, eH⟩ : ∃ H : Heap, H = s.heap := ⟨_, rfl⟩
  obtain ⟨locs, el⟩ : ∃ locs : List Loc, locs = [] := ⟨_, rfl⟩
  rw [← eH, ← el] at hw ⊢
  clear eH el
  replace hl : lv_has ls 3 [(0, .int x0)] := hl
  refine lv_iconst (v := 0) hx hb dX11_bits_0 (by decide) ?_
  refine lv_istore_n (lv' := [(1, .int (0 : Int32)), (0, .int x0)]) hx hb dX11_bits_1 rfl hl (by decide) rfl (fun ls hl => ?_)
  refine lv_iconst (v := 0) hx hb dX11_bits_2 (by decide) ?_
  refine lv_istore_n (lv' := [(2, .int (0 : Int32)), (1, .int (0 : Int32)), (0, .int x0)]) hx hb dX11_bits_3 rfl hl (by decide) rfl (fun ls hl => ?_)
  obtain ⟨st4_1, est4_1, hf⟩ := wlet_some hf
  obtain ⟨E4_1, hq4_1, hE4_1⟩ := bind_some hf
  have hx4_1 : ∀ (x1_e4_1 : Int32) (_ : x1_e4_1 = E4_1) (ls : Array Slot) (H : Heap) (locs : List Loc), lv_has ls 3 [(1, .int x1_e4_1)] → wH WM ad D cy s σ H locs → W p l e { frames := 1, cells := 0, slots := 0, locals := 100 } s m [.int x0].toArray below meth c H locs 0 0 (MQ below (wQi WM ad D cy res σ) [.int x0].toArray s 0 0 (wA WM ad)) (F0 m 24 ls []) := by
    intro x1_e4_1 e0 ls H locs hl hw
    subst e0
    have hf := hE4_1
    refine lv_iload_n hx hb dX11_bits_24 rfl (lv_at hl 0 rfl) ?_
    have er := Option.some.inj hf
    subst er
    exact wr_iret X hw hr (Or.inl rfl) dX11_bits_25
  have lo4_1 : ∀ (n : Nat) (x1_4_1 : Int32) (x2_4_1 : Int32) (_ : lp st4_1 n (x1_4_1, x2_4_1) = some E4_1) (ls : Array Slot) (H : Heap) (locs : List Loc), lv_has ls 3 [(0, .int x0), (1, .int x1_4_1), (2, .int x2_4_1)] → wH WM ad D cy s σ H locs → W p l e { frames := 1, cells := 0, slots := 0, locals := 100 } s m [.int x0].toArray below meth c H locs 0 0 (MQ below (wQi WM ad D cy res σ) [.int x0].toArray s 0 0 (wA WM ad)) (F0 m 4 ls []) := by
    intro n
    induction n with
    | zero =>
      intro x1_4_1 x2_4_1 hf ls H locs hl hw
      exact (lp_zero hf).elim
    | succ n ih4_1 =>
      intro x1_4_1 x2_4_1 hf ls H locs hl hw
      obtain ⟨q4_1, hf, hz4_1⟩ := lp_succ hf
      rw [est4_1] at hf
      replace hf := un2_some hf
      refine lv_iload_n hx hb dX11_bits_4 rfl (lv_at hl 2 rfl) ?_
      refine lv_bipush (v := 7) hx hb dX11_bits_5 (by decide) ?_
      refine lv_icmp_ge (tgt := 24) hx hb dX11_bits_7 (by decide) (fun c2 => ?_) (fun c2 => ?_)
      · have hf := (if_pos c2).symm.trans hf
        exact hx4_1 x1_4_1 (lpK_inr (lp_leaf hf hz4_1)) ls H locs (lv_sub hl [1] rfl) hw
      · have hf := (if_neg c2).symm.trans hf
        refine lv_iload_n hx hb dX11_bits_10 rfl (lv_at hl 1 rfl) ?_
        refine lv_iload_n hx hb dX11_bits_11 rfl (lv_at hl 0 rfl) ?_
        refine lv_iload_n hx hb dX11_bits_12 rfl (lv_at hl 2 rfl) ?_
        refine lv_ishr hx hb dX11_bits_13 ?_
        refine lv_iconst (v := 1) hx hb dX11_bits_14 (by decide) ?_
        refine lv_iand hx hb dX11_bits_15 ?_
        refine lv_iadd hx hb dX11_bits_16 ?_
        obtain ⟨v3, ev3, hf⟩ := wlet_some hf
        refine wr_top ev3 ?_
        refine lv_istore_n (lv' := [(1, .int v3), (0, .int x0), (2, .int x2_4_1)]) hx hb dX11_bits_17 rfl hl (by decide) rfl (fun ls hl => ?_)
        obtain ⟨v4, ev4, hf⟩ := wlet_some hf
        refine lv_iinc (v := v4) (lv' := [(2, .int v4), (1, .int v3), (0, .int x0)]) hx hb dX11_bits_18 hl (k := 2) rfl (by rw [ev4]; rfl) (by decide) rfl (fun ls hl => ?_)
        refine lv_goto (tgt := 4) hx hb dX11_bits_21 (by decide) ?_
        exact ih4_1 v3 v4 (lp_leaf hf hz4_1) ls H locs (lv_sub hl [2, 1, 0] rfl) hw
  exact lo4_1 fuel (0 : Int32) (0 : Int32) hq4_1 ls H locs (lv_sub hl [2, 1, 0] rfl) hw

def f_X11_fail (σ : St) (x1 : Int32) : Option (St) := if (σ.1 0 13) ≤ 0 then (wlet (si σ 0 13 x1) fun σ2 => if ib (σ2.1 0 11) 403 = true then wlet (si σ2 0 14 (σ2.1 4 (Int32.toNatClampNeg (σ2.1 0 11)))) fun σ4 => some σ4 else none) else (some σ)
theorem hd_X11_fail : yX11_fail.cls = RX11 ∧ yX11_fail.cls ≠ "java/lang/invoke/MethodHandle" ∧ yX11_fail.cls ≠ "java/lang/invoke/VarHandle" ∧ (parseMethodDescriptor yX11_fail.desc).map (fun d => d.parameters.length) = some 1 := by decide +kernel
set_option maxRecDepth 100000 in
set_option maxHeartbeats 4000000 in
theorem k_X11_fail {l : Launch} {ad : Nat → Nat} {D : va_G} {cy : Nat → ClassId} {z : wStr} (hI : wI WM ad) {σ : St} {x1 : Int32}  {res : St} (hf : f_X11_fail σ x1 = some res) : wC WM ad D cy z l yX11_fail (Cond.code yX11_fail cX11_fail 2 (none) :: aw) (1) (100) [.ref (ad 0), .int x1] σ (wQv WM ad D cy res) := by
  unfold f_X11_fail at hf
  refine wr_start (own := RX11) hI (by decide +kernel) rfl (Nat.le_of_ble_eq_true rfl) rfl ?_
  intro p e s m below meth c ls X hw hr hl
  have hx := X.hx
  have hb := X.hb
  obtain ⟨H, eH⟩ : ∃ H : Heap, H = s.heap := ⟨_, rfl⟩
  obtain ⟨locs, el⟩ : ∃ locs : List Loc, locs = [] := ⟨_, rfl⟩
  rw [← eH, ← el] at hw ⊢
  clear eH el
  replace hl : lv_has ls 2 [(0, .ref (ad 0)), (1, .int x1)] := hl
  refine lv_aload_n hx hb dX11_fail_0 rfl (lv_at hl 0 rfl) ?_
  refine gX11_13 X hw sM0 nM0 fl_X11_182 dX11_fail_1 ?_
  refine lv_if_le (tgt := 8) hx hb dX11_fail_4 (by decide) (fun c1 => ?_) (fun c1 => ?_)
  · have hf := (if_pos c1).symm.trans hf
    refine lv_aload_n hx hb dX11_fail_8 rfl (lv_at hl 0 rfl) ?_
    refine lv_iload_n hx hb dX11_fail_9 rfl (lv_at hl 1 rfl) ?_
    obtain ⟨σ2, eσ2, hf⟩ := wlet_some hf
    refine pX11_13 X hw sM0 nM0 fl_X11_182 dX11_fail_10 (fun H locs hw => ?_)
    replace hw := hw.to eσ2
    refine lv_aload_n hx hb dX11_fail_13 rfl (lv_at hl 0 rfl) ?_
    refine lv_aload_n hx hb dX11_fail_14 rfl (lv_at hl 0 rfl) ?_
    refine gX11_6 (b := 4) X hw sM0 nM0 rfl fl_X11_24 dX11_fail_15 ?_
    refine lv_aload_n hx hb dX11_fail_18 rfl (lv_at hl 0 rfl) ?_
    refine gX11_11 X hw sM0 nM0 fl_X11_185 dX11_fail_19 ?_
    obtain ⟨h3, hf⟩ := if_some hf
    refine wr_iald X hw sM4 nM4 h3 dX11_fail_22 ?_
    obtain ⟨σ4, eσ4, hf⟩ := wlet_some hf
    refine pX11_14 X hw sM0 nM0 fl_X11_188 dX11_fail_23 (fun H locs hw => ?_)
    replace hw := hw.to eσ4
    have er := Option.some.inj hf
    subst er
    exact wr_vret X hw hr dX11_fail_26
  · have hf := (if_neg c1).symm.trans hf
    have er := Option.some.inj hf
    subst er
    exact wr_vret X hw hr dX11_fail_7

def f_X11_goesOn (σ : St)  : Option (St) := if (σ.1 0 11) = (400 : Int32) then (Option.bind (f_X11_fail σ (2 : Int32)) fun σ4 => some σ4) else (wlet (si σ 0 11 ((σ.1 0 11) + (1 : Int32))) fun σ2 => some σ2)
theorem hd_X11_goesOn : yX11_goesOn.cls = RX11 ∧ yX11_goesOn.cls ≠ "java/lang/invoke/MethodHandle" ∧ yX11_goesOn.cls ≠ "java/lang/invoke/VarHandle" ∧ (parseMethodDescriptor yX11_goesOn.desc).map (fun d => d.parameters.length) = some 0 := by decide +kernel
set_option maxRecDepth 100000 in
set_option maxHeartbeats 4000000 in
theorem k_X11_goesOn {l : Launch} {ad : Nat → Nat} {D : va_G} {cy : Nat → ClassId} {z : wStr} (hI : wI WM ad) {σ : St}   {res : St} (hf : f_X11_goesOn σ  = some res) : wC WM ad D cy z l yX11_goesOn (Cond.code yX11_goesOn cX11_goesOn 1 (none) :: aw) (2) (121) [.ref (ad 0)] σ (wQv WM ad D cy res) := by
  unfold f_X11_goesOn at hf
  refine wr_start (own := RX11) hI (by decide +kernel) rfl (Nat.le_of_ble_eq_true rfl) rfl ?_
  intro p e s m below meth c ls X hw hr hl
  have hx := X.hx
  have hb := X.hb
  obtain ⟨H, eH⟩ : ∃ H : Heap, H = s.heap := ⟨_, rfl⟩
  obtain ⟨locs, el⟩ : ∃ locs : List Loc, locs = [] := ⟨_, rfl⟩
  rw [← eH, ← el] at hw ⊢
  clear eH el
  replace hl : lv_has ls 1 [(0, .ref (ad 0))] := hl
  refine lv_aload_n hx hb dX11_goesOn_0 rfl (lv_at hl 0 rfl) ?_
  refine gX11_11 X hw sM0 nM0 fl_X11_185 dX11_goesOn_1 ?_
  refine lv_sipush (v := 400) hx hb dX11_goesOn_4 (by decide) ?_
  refine lv_icmp_ne (tgt := 18) hx hb dX11_goesOn_7 (by decide) (fun c1 => ?_) (fun c1 => ?_)
  · have hf := (if_neg c1).symm.trans hf
    refine lv_aload_n hx hb dX11_goesOn_18 rfl (lv_at hl 0 rfl) ?_
    refine lv_dup hx hb dX11_goesOn_19 rfl ?_
    refine gX11_11 X hw sM0 nM0 fl_X11_185 dX11_goesOn_20 ?_
    refine lv_iconst (v := 1) hx hb dX11_goesOn_23 (by decide) ?_
    refine lv_iadd hx hb dX11_goesOn_24 ?_
    obtain ⟨σ2, eσ2, hf⟩ := wlet_some hf
    refine pX11_11 X hw sM0 nM0 fl_X11_185 dX11_goesOn_25 (fun H locs hw => ?_)
    replace hw := hw.to eσ2
    have er := Option.some.inj hf
    subst er
    exact wr_vret X hw hr dX11_goesOn_28
  · have hf := (if_pos c1).symm.trans hf
    refine lv_aload_n hx hb dX11_goesOn_10 rfl (lv_at hl 0 rfl) ?_
    refine lv_iconst (v := 2) hx hb dX11_goesOn_11 (by decide) ?_
    obtain ⟨σ4, hq3, hf⟩ := bind_some hf
    refine wr_cVv (σ' := σ4) (av := [.int (2 : Int32)]) (rest := []) X hw hl.1 sM0 nM0 rfl (k_X11_fail hI hq3) rfl ml_X11_197 im_X11_fail se_X11_fail ini_X11 co_X11_fail hd_X11_fail ⟨Nat.le_of_ble_eq_true rfl, Nat.le_of_ble_eq_true rfl⟩ (Nat.le_of_ble_eq_true rfl) dX11_goesOn_12 rfl (fun H locs hw => ?_)
    refine lv_goto (tgt := 28) hx hb dX11_goesOn_15 (by decide) ?_
    have er := Option.some.inj hf
    subst er
    exact wr_vret X hw hr dX11_goesOn_28

def f_X11_is (σ : St) (x1 : Int32) : Option (Int32) := if (σ.1 0 13) = 0 then (if ib (σ.1 0 11) 403 = true then if (σ.1 3 (Int32.toNatClampNeg (σ.1 0 11))) = x1 then (some (1 : Int32)) else (some (0 : Int32)) else none) else (some (0 : Int32))
theorem hd_X11_is : yX11_is.cls = RX11 ∧ yX11_is.cls ≠ "java/lang/invoke/MethodHandle" ∧ yX11_is.cls ≠ "java/lang/invoke/VarHandle" ∧ (parseMethodDescriptor yX11_is.desc).map (fun d => d.parameters.length) = some 1 := by decide +kernel
set_option maxRecDepth 100000 in
set_option maxHeartbeats 4000000 in
theorem k_X11_is {l : Launch} {ad : Nat → Nat} {D : va_G} {cy : Nat → ClassId} {z : wStr} (hI : wI WM ad) {σ : St} {x1 : Int32}  {res : Int32} (hf : f_X11_is σ x1 = some res) : wC WM ad D cy z l yX11_is (Cond.code yX11_is cX11_is 2 (Option.some Jvm.ClassFile.FieldType.boolean) :: aw) (1) (100) [.ref (ad 0), .int x1] σ (wQi WM ad D cy res σ) := by
  unfold f_X11_is at hf
  refine wr_start (own := RX11) hI (by decide +kernel) rfl (Nat.le_of_ble_eq_true rfl) rfl ?_
  intro p e s m below meth c ls X hw hr hl
  have hx := X.hx
  have hb := X.hb
  obtain ⟨H, eH⟩ : ∃ H : Heap, H = s.heap := ⟨_, rfl⟩
  obtain ⟨locs, el⟩ : ∃ locs : List Loc, locs = [] := ⟨_, rfl⟩
  rw [← eH, ← el] at hw ⊢
  clear eH el
  replace hl : lv_has ls 2 [(0, .ref (ad 0)), (1, .int x1)] := hl
  refine lv_aload_n hx hb dX11_is_0 rfl (lv_at hl 0 rfl) ?_
  refine gX11_13 X hw sM0 nM0 fl_X11_182 dX11_is_1 ?_
  refine lv_if_ne (tgt := 24) hx hb dX11_is_4 (by decide) (fun c1 => ?_) (fun c1 => ?_)
  · have hf := (if_neg c1).symm.trans hf
    refine lv_iconst (v := 0) hx hb dX11_is_24 (by decide) ?_
    have er := Option.some.inj hf
    subst er
    exact wr_iret X hw hr (Or.inr ⟨rfl, (show bz (0 : Int32) = true from rfl)⟩) dX11_is_25
  · have hf := (if_pos c1).symm.trans hf
    refine lv_aload_n hx hb dX11_is_7 rfl (lv_at hl 0 rfl) ?_
    refine gX11_5 (b := 3) X hw sM0 nM0 rfl fl_X11_20 dX11_is_8 ?_
    refine lv_aload_n hx hb dX11_is_11 rfl (lv_at hl 0 rfl) ?_
    refine gX11_11 X hw sM0 nM0 fl_X11_185 dX11_is_12 ?_
    obtain ⟨h2, hf⟩ := if_some hf
    refine wr_iald X hw sM3 nM3 h2 dX11_is_15 ?_
    refine lv_iload_n hx hb dX11_is_16 rfl (lv_at hl 1 rfl) ?_
    refine lv_icmp_ne (tgt := 24) hx hb dX11_is_17 (by decide) (fun c3 => ?_) (fun c3 => ?_)
    · have hf := (if_neg c3).symm.trans hf
      refine lv_iconst (v := 0) hx hb dX11_is_24 (by decide) ?_
      have er := Option.some.inj hf
      subst er
      exact wr_iret X hw hr (Or.inr ⟨rfl, (show bz (0 : Int32) = true from rfl)⟩) dX11_is_25
    · have hf := (if_pos c3).symm.trans hf
      refine lv_iconst (v := 1) hx hb dX11_is_20 (by decide) ?_
      refine lv_goto (tgt := 25) hx hb dX11_is_21 (by decide) ?_
      have er := Option.some.inj hf
      subst er
      exact wr_iret X hw hr (Or.inr ⟨rfl, (show bz (1 : Int32) = true from rfl)⟩) dX11_is_25

def f_X11_wrong (σ : St) (x1 : Int32) (x2 : Int32) : Option (St) := if ib x2 403 = true then wlet (σ.1 4 (Int32.toNatClampNeg x2)) fun v2 => if 0 < (σ.1 0 13) then (some σ) else (if (σ.1 0 15) = 0 then (wlet (si σ 0 15 x1) fun σ5 => wlet (si σ5 0 16 v2) fun σ6 => some σ6) else (if (σ.1 0 16) < v2 then (some σ) else (if v2 = (σ.1 0 16) then (if x1 < (σ.1 0 15) then (wlet (si σ 0 15 x1) fun σ12 => wlet (si σ12 0 16 v2) fun σ13 => some σ13) else (some σ)) else (wlet (si σ 0 15 x1) fun σ9 => wlet (si σ9 0 16 v2) fun σ10 => some σ10)))) else none
theorem hd_X11_wrong : yX11_wrong.cls = RX11 ∧ yX11_wrong.cls ≠ "java/lang/invoke/MethodHandle" ∧ yX11_wrong.cls ≠ "java/lang/invoke/VarHandle" ∧ (parseMethodDescriptor yX11_wrong.desc).map (fun d => d.parameters.length) = some 2 := by decide +kernel
set_option maxRecDepth 100000 in
set_option maxHeartbeats 4000000 in
theorem k_X11_wrong {l : Launch} {ad : Nat → Nat} {D : va_G} {cy : Nat → ClassId} {z : wStr} (hI : wI WM ad) {σ : St} {x1 : Int32} {x2 : Int32}  {res : St} (hf : f_X11_wrong σ x1 x2 = some res) : wC WM ad D cy z l yX11_wrong (Cond.code yX11_wrong cX11_wrong 4 (none) :: aw) (1) (100) [.ref (ad 0), .int x1, .int x2] σ (wQv WM ad D cy res) := by
  unfold f_X11_wrong at hf
  refine wr_start (own := RX11) hI (by decide +kernel) rfl (Nat.le_of_ble_eq_true rfl) rfl ?_
  intro p e s m below meth c ls X hw hr hl
  have hx := X.hx
  have hb := X.hb
  obtain ⟨H, eH⟩ : ∃ H : Heap, H = s.heap := ⟨_, rfl⟩
  obtain ⟨locs, el⟩ : ∃ locs : List Loc, locs = [] := ⟨_, rfl⟩
  rw [← eH, ← el] at hw ⊢
  clear eH el
  replace hl : lv_has ls 4 [(0, .ref (ad 0)), (1, .int x1), (2, .int x2)] := hl
  refine lv_aload_n hx hb dX11_wrong_0 rfl (lv_at hl 0 rfl) ?_
  refine gX11_6 (b := 4) X hw sM0 nM0 rfl fl_X11_24 dX11_wrong_1 ?_
  refine lv_iload_n hx hb dX11_wrong_4 rfl (lv_at hl 2 rfl) ?_
  obtain ⟨h1, hf⟩ := if_some hf
  refine wr_iald X hw sM4 nM4 h1 dX11_wrong_5 ?_
  obtain ⟨v2, ev2, hf⟩ := wlet_some hf
  refine wr_top ev2 ?_
  refine lv_istore_n (lv' := [(3, .int v2), (0, .ref (ad 0)), (1, .int x1), (2, .int x2)]) hx hb dX11_wrong_6 rfl hl (by decide) rfl (fun ls hl => ?_)
  refine lv_aload_n hx hb dX11_wrong_7 rfl (lv_at hl 1 rfl) ?_
  refine gX11_13 X hw sM0 nM0 fl_X11_182 dX11_wrong_8 ?_
  refine lv_if_gt (tgt := 45) hx hb dX11_wrong_11 (by decide) (fun c3 => ?_) (fun c3 => ?_)
  · have hf := (if_pos c3).symm.trans hf
    have er := Option.some.inj hf
    subst er
    exact wr_vret X hw hr dX11_wrong_45
  · have hf := (if_neg c3).symm.trans hf
    refine lv_aload_n hx hb dX11_wrong_14 rfl (lv_at hl 1 rfl) ?_
    refine gX11_15 X hw sM0 nM0 fl_X11_191 dX11_wrong_15 ?_
    refine lv_if_eq (tgt := 46) hx hb dX11_wrong_18 (by decide) (fun c4 => ?_) (fun c4 => ?_)
    · have hf := (if_pos c4).symm.trans hf
      refine lv_aload_n hx hb dX11_wrong_46 rfl (lv_at hl 1 rfl) ?_
      refine lv_iload_n hx hb dX11_wrong_47 rfl (lv_at hl 2 rfl) ?_
      obtain ⟨σ5, eσ5, hf⟩ := wlet_some hf
      refine pX11_15 X hw sM0 nM0 fl_X11_191 dX11_wrong_48 (fun H locs hw => ?_)
      replace hw := hw.to eσ5
      refine lv_aload_n hx hb dX11_wrong_51 rfl (lv_at hl 1 rfl) ?_
      refine lv_iload_n hx hb dX11_wrong_52 rfl (lv_at hl 0 rfl) ?_
      obtain ⟨σ6, eσ6, hf⟩ := wlet_some hf
      refine pX11_16 X hw sM0 nM0 fl_X11_194 dX11_wrong_53 (fun H locs hw => ?_)
      replace hw := hw.to eσ6
      have er := Option.some.inj hf
      subst er
      exact wr_vret X hw hr dX11_wrong_56
    · have hf := (if_neg c4).symm.trans hf
      refine lv_iload_n hx hb dX11_wrong_21 rfl (lv_at hl 0 rfl) ?_
      refine lv_aload_n hx hb dX11_wrong_22 rfl (lv_at hl 1 rfl) ?_
      refine gX11_16 X hw sM0 nM0 fl_X11_194 dX11_wrong_23 ?_
      refine lv_icmp_gt (tgt := 45) hx hb dX11_wrong_26 (by decide) (fun c7 => ?_) (fun c7 => ?_)
      · have hf := (if_pos c7).symm.trans hf
        have er := Option.some.inj hf
        subst er
        exact wr_vret X hw hr dX11_wrong_45
      · have hf := (if_neg c7).symm.trans hf
        refine lv_iload_n hx hb dX11_wrong_29 rfl (lv_at hl 0 rfl) ?_
        refine lv_aload_n hx hb dX11_wrong_30 rfl (lv_at hl 1 rfl) ?_
        refine gX11_16 X hw sM0 nM0 fl_X11_194 dX11_wrong_31 ?_
        refine lv_icmp_ne (tgt := 46) hx hb dX11_wrong_34 (by decide) (fun c8 => ?_) (fun c8 => ?_)
        · have hf := (if_neg c8).symm.trans hf
          refine lv_aload_n hx hb dX11_wrong_46 rfl (lv_at hl 1 rfl) ?_
          refine lv_iload_n hx hb dX11_wrong_47 rfl (lv_at hl 2 rfl) ?_
          obtain ⟨σ9, eσ9, hf⟩ := wlet_some hf
          refine pX11_15 X hw sM0 nM0 fl_X11_191 dX11_wrong_48 (fun H locs hw => ?_)
          replace hw := hw.to eσ9
          refine lv_aload_n hx hb dX11_wrong_51 rfl (lv_at hl 1 rfl) ?_
          refine lv_iload_n hx hb dX11_wrong_52 rfl (lv_at hl 0 rfl) ?_
          obtain ⟨σ10, eσ10, hf⟩ := wlet_some hf
          refine pX11_16 X hw sM0 nM0 fl_X11_194 dX11_wrong_53 (fun H locs hw => ?_)
          replace hw := hw.to eσ10
          have er := Option.some.inj hf
          subst er
          exact wr_vret X hw hr dX11_wrong_56
        · have hf := (if_pos c8).symm.trans hf
          refine lv_iload_n hx hb dX11_wrong_37 rfl (lv_at hl 2 rfl) ?_
          refine lv_aload_n hx hb dX11_wrong_38 rfl (lv_at hl 1 rfl) ?_
          refine gX11_15 X hw sM0 nM0 fl_X11_191 dX11_wrong_39 ?_
          refine lv_icmp_lt (tgt := 46) hx hb dX11_wrong_42 (by decide) (fun c11 => ?_) (fun c11 => ?_)
          · have hf := (if_pos c11).symm.trans hf
            refine lv_aload_n hx hb dX11_wrong_46 rfl (lv_at hl 1 rfl) ?_
            refine lv_iload_n hx hb dX11_wrong_47 rfl (lv_at hl 2 rfl) ?_
            obtain ⟨σ12, eσ12, hf⟩ := wlet_some hf
            refine pX11_15 X hw sM0 nM0 fl_X11_191 dX11_wrong_48 (fun H locs hw => ?_)
            replace hw := hw.to eσ12
            refine lv_aload_n hx hb dX11_wrong_51 rfl (lv_at hl 1 rfl) ?_
            refine lv_iload_n hx hb dX11_wrong_52 rfl (lv_at hl 0 rfl) ?_
            obtain ⟨σ13, eσ13, hf⟩ := wlet_some hf
            refine pX11_16 X hw sM0 nM0 fl_X11_194 dX11_wrong_53 (fun H locs hw => ?_)
            replace hw := hw.to eσ13
            have er := Option.some.inj hf
            subst er
            exact wr_vret X hw hr dX11_wrong_56
          · have hf := (if_neg c11).symm.trans hf
            have er := Option.some.inj hf
            subst er
            exact wr_vret X hw hr dX11_wrong_45

def f_X11_bounded (σ : St) (x1 : Int32) (x2 : Int32) : Option (Int32 × St) := wlet (fun (_ : Unit) => (Option.bind (f_X11_fail σ (1 : Int32)) fun σ3 => some (x1, σ3) : Option (Int32 × St))) fun k15_1 => if 0 < (σ.1 0 13) then (k15_1 ()) else (Option.bind (f_X11_is σ (2 : Int32)) fun v6 => if v6 = 0 then (k15_1 ()) else (if ib (σ.1 0 11) 403 = true then wlet (σ.1 5 (Int32.toNatClampNeg (σ.1 0 11))) fun v9 => wlet (fun (σ_51_10 : St) => (Option.bind (f_X11_goesOn σ_51_10) fun σ12 => some (v9, σ12) : Option (Int32 × St))) fun k51_10 => wlet (fun (_ : Unit) => (Option.bind (f_X11_wrong σ (5 : Int32) (σ.1 0 11)) fun σ15 => k51_10 σ15 : Option (Int32 × St))) fun k42_13 => if v9 < x1 then (k42_13 ()) else (if v9 ≤ x2 then (k51_10 σ) else (k42_13 ())) else none))
theorem hd_X11_bounded : yX11_bounded.cls = RX11 ∧ yX11_bounded.cls ≠ "java/lang/invoke/MethodHandle" ∧ yX11_bounded.cls ≠ "java/lang/invoke/VarHandle" ∧ (parseMethodDescriptor yX11_bounded.desc).map (fun d => d.parameters.length) = some 2 := by decide +kernel
set_option maxRecDepth 100000 in
set_option maxHeartbeats 4000000 in
theorem k_X11_bounded {l : Launch} {ad : Nat → Nat} {D : va_G} {cy : Nat → ClassId} {z : wStr} (hI : wI WM ad) {σ : St} {x1 : Int32} {x2 : Int32}  {res : Int32 × St} (hf : f_X11_bounded σ x1 x2 = some res) : wC WM ad D cy z l yX11_bounded (Cond.code yX11_bounded cX11_bounded 4 (Option.some Jvm.ClassFile.FieldType.int) :: aw) (3) (141) [.ref (ad 0), .int x1, .int x2] σ (wQi WM ad D cy res.1 res.2) := by
  unfold f_X11_bounded at hf
  refine wr_start (own := RX11) hI (by decide +kernel) rfl (Nat.le_of_ble_eq_true rfl) rfl ?_
  intro p e s m below meth c ls X hw hr hl
  have hx := X.hx
  have hb := X.hb
  obtain ⟨H, eH⟩ : ∃ H : Heap, H = s.heap := ⟨_, rfl⟩
  obtain ⟨locs, el⟩ : ∃ locs : List Loc, locs = [] := ⟨_, rfl⟩
  rw [← eH, ← el] at hw ⊢
  clear eH el
  replace hl : lv_has ls 4 [(0, .ref (ad 0)), (1, .int x1), (2, .int x2)] := hl
  refine lv_aload_n hx hb dX11_bounded_0 rfl (lv_at hl 0 rfl) ?_
  refine gX11_13 X hw sM0 nM0 fl_X11_182 dX11_bounded_1 ?_
  obtain ⟨k15_1, ek15_1, hf0⟩ := wlet_some hf
  have j15_1 : ∀ (_ : k15_1 () = some res) (ls : Array Slot) (H : Heap) (locs : List Loc), lv_has ls 4 [(0, .ref (ad 0)), (1, .int x1)] → wH WM ad D cy s σ H locs → W p l e { frames := 3, cells := 0, slots := 0, locals := 141 } s m [.ref (ad 0), .int x1, .int x2].toArray below meth c H locs 0 0 (MQ below (wQi WM ad D cy res.1 res.2) [.ref (ad 0), .int x1, .int x2].toArray s 0 0 (wA WM ad)) (F0 m 15 ls []) := by
    intro  hf ls H locs hl hw
    rw [ek15_1] at hf
    refine lv_aload_n hx hb dX11_bounded_15 rfl (lv_at hl 0 rfl) ?_
    refine lv_iconst (v := 1) hx hb dX11_bounded_16 (by decide) ?_
    obtain ⟨σ3, hq2, hf⟩ := bind_some hf
    refine wr_cVv (σ' := σ3) (av := [.int (1 : Int32)]) (rest := []) X hw hl.1 sM0 nM0 rfl (k_X11_fail hI hq2) rfl ml_X11_197 im_X11_fail se_X11_fail ini_X11 co_X11_fail hd_X11_fail ⟨Nat.le_of_ble_eq_true rfl, Nat.le_of_ble_eq_true rfl⟩ (Nat.le_of_ble_eq_true rfl) dX11_bounded_17 rfl (fun H locs hw => ?_)
    refine lv_iload_n hx hb dX11_bounded_20 rfl (lv_at hl 1 rfl) ?_
    have er := Option.some.inj hf
    subst er
    exact wr_iret X hw hr (Or.inl rfl) dX11_bounded_21
  replace hf := hf0
  refine lv_if_gt (tgt := 15) hx hb dX11_bounded_4 (by decide) (fun c4 => ?_) (fun c4 => ?_)
  · have hf := (if_pos c4).symm.trans hf
    exact j15_1 hf ls H locs (lv_sub hl [0, 1] rfl) hw
  · have hf := (if_neg c4).symm.trans hf
    refine lv_aload_n hx hb dX11_bounded_7 rfl (lv_at hl 0 rfl) ?_
    refine lv_iconst (v := 2) hx hb dX11_bounded_8 (by decide) ?_
    obtain ⟨v6, hq5, hf⟩ := bind_some hf
    refine wr_cVi (r := v6) (σ' := σ) (av := [.int (2 : Int32)]) (rest := []) X hw hl.1 sM0 nM0 rfl (k_X11_is hI hq5) rfl ml_X11_200 im_X11_is se_X11_is ini_X11 co_X11_is hd_X11_is ⟨Nat.le_of_ble_eq_true rfl, Nat.le_of_ble_eq_true rfl⟩ (Nat.le_of_ble_eq_true rfl) dX11_bounded_9 rfl (fun H locs hw => ?_)
    refine lv_if_ne (tgt := 22) hx hb dX11_bounded_12 (by decide) (fun c7 => ?_) (fun c7 => ?_)
    · have hf := (if_neg c7).symm.trans hf
      refine lv_aload_n hx hb dX11_bounded_22 rfl (lv_at hl 0 rfl) ?_
      refine gX11_7 (b := 5) X hw sM0 nM0 rfl fl_X11_27 dX11_bounded_23 ?_
      refine lv_aload_n hx hb dX11_bounded_26 rfl (lv_at hl 0 rfl) ?_
      refine gX11_11 X hw sM0 nM0 fl_X11_185 dX11_bounded_27 ?_
      obtain ⟨h8, hf⟩ := if_some hf
      refine wr_iald X hw sM5 nM5 h8 dX11_bounded_30 ?_
      obtain ⟨v9, ev9, hf⟩ := wlet_some hf
      refine wr_top ev9 ?_
      refine lv_istore_n (lv' := [(3, .int v9), (0, .ref (ad 0)), (1, .int x1), (2, .int x2)]) hx hb dX11_bounded_31 rfl hl (by decide) rfl (fun ls hl => ?_)
      refine lv_iload_n hx hb dX11_bounded_32 rfl (lv_at hl 0 rfl) ?_
      refine lv_iload_n hx hb dX11_bounded_33 rfl (lv_at hl 2 rfl) ?_
      obtain ⟨k51_10, ek51_10, hf0⟩ := wlet_some hf
      have j51_10 : ∀ (σ_51_10 : St) (_ : k51_10 σ_51_10 = some res) (ls : Array Slot) (H : Heap) (locs : List Loc), lv_has ls 4 [(0, .ref (ad 0)), (3, .int v9)] → wH WM ad D cy s σ_51_10 H locs → W p l e { frames := 3, cells := 0, slots := 0, locals := 141 } s m [.ref (ad 0), .int x1, .int x2].toArray below meth c H locs 0 0 (MQ below (wQi WM ad D cy res.1 res.2) [.ref (ad 0), .int x1, .int x2].toArray s 0 0 (wA WM ad)) (F0 m 51 ls []) := by
        intro σ_51_10 hf ls H locs hl hw
        rw [ek51_10] at hf
        refine lv_aload_n hx hb dX11_bounded_51 rfl (lv_at hl 0 rfl) ?_
        obtain ⟨σ12, hq11, hf⟩ := bind_some hf
        refine wr_cVv (σ' := σ12) (av := []) (rest := []) X hw hl.1 sM0 nM0 rfl (k_X11_goesOn hI hq11) rfl ml_X11_203 im_X11_goesOn se_X11_goesOn ini_X11 co_X11_goesOn hd_X11_goesOn ⟨Nat.le_of_ble_eq_true rfl, Nat.le_of_ble_eq_true rfl⟩ (Nat.le_of_ble_eq_true rfl) dX11_bounded_52 rfl (fun H locs hw => ?_)
        refine lv_iload_n hx hb dX11_bounded_55 rfl (lv_at hl 1 rfl) ?_
        have er := Option.some.inj hf
        subst er
        exact wr_iret X hw hr (Or.inl rfl) dX11_bounded_56
      replace hf := hf0
      obtain ⟨k42_13, ek42_13, hf0⟩ := wlet_some hf
      have j42_13 : ∀ (_ : k42_13 () = some res) (ls : Array Slot) (H : Heap) (locs : List Loc), lv_has ls 4 [(0, .ref (ad 0)), (3, .int v9)] → wH WM ad D cy s σ H locs → W p l e { frames := 3, cells := 0, slots := 0, locals := 141 } s m [.ref (ad 0), .int x1, .int x2].toArray below meth c H locs 0 0 (MQ below (wQi WM ad D cy res.1 res.2) [.ref (ad 0), .int x1, .int x2].toArray s 0 0 (wA WM ad)) (F0 m 42 ls []) := by
        intro  hf ls H locs hl hw
        rw [ek42_13] at hf
        refine lv_aload_n hx hb dX11_bounded_42 rfl (lv_at hl 0 rfl) ?_
        refine lv_iconst (v := 5) hx hb dX11_bounded_43 (by decide) ?_
        refine lv_aload_n hx hb dX11_bounded_44 rfl (lv_at hl 0 rfl) ?_
        refine gX11_11 X hw sM0 nM0 fl_X11_185 dX11_bounded_45 ?_
        obtain ⟨σ15, hq14, hf⟩ := bind_some hf
        refine wr_cVv (σ' := σ15) (av := [.int (5 : Int32), .int (σ.1 0 11)]) (rest := []) X hw hl.1 sM0 nM0 rfl (k_X11_wrong hI hq14) rfl ml_X11_256 im_X11_wrong se_X11_wrong ini_X11 co_X11_wrong hd_X11_wrong ⟨Nat.le_of_ble_eq_true rfl, Nat.le_of_ble_eq_true rfl⟩ (Nat.le_of_ble_eq_true rfl) dX11_bounded_48 rfl (fun H locs hw => ?_)
        exact j51_10 σ15 hf ls H locs (lv_sub hl [0, 1] rfl) hw
      replace hf := hf0
      refine lv_icmp_lt (tgt := 42) hx hb dX11_bounded_34 (by decide) (fun c16 => ?_) (fun c16 => ?_)
      · have hf := (if_pos c16).symm.trans hf
        exact j42_13 hf ls H locs (lv_sub hl [1, 0] rfl) hw
      · have hf := (if_neg c16).symm.trans hf
        refine lv_iload_n hx hb dX11_bounded_37 rfl (lv_at hl 0 rfl) ?_
        refine lv_iload_n hx hb dX11_bounded_38 rfl (lv_at hl 3 rfl) ?_
        refine lv_icmp_le (tgt := 51) hx hb dX11_bounded_39 (by decide) (fun c17 => ?_) (fun c17 => ?_)
        · have hf := (if_pos c17).symm.trans hf
          exact j51_10 σ hf ls H locs (lv_sub hl [1, 0] rfl) hw
        · have hf := (if_neg c17).symm.trans hf
          exact j42_13 hf ls H locs (lv_sub hl [1, 0] rfl) hw
    · have hf := (if_pos c7).symm.trans hf
      exact j15_1 hf ls H locs (lv_sub hl [0, 1] rfl) hw

def f_X11_feeOf (σ : St) (x1 : Int32) (x2 : Int32) (x3 : Int32) : Option (Int32 × St) := Option.bind (f_X11_views σ x1 x2 x3) fun σ2 => bnd2 (f_X11_lawTells σ2 (2 : Int32) (x3 / (4 : Int32))) fun v4 σ5 => Option.bind (f_X11_within v4 (0 : Int32) (99 : Int32)) fun v7 => some (v7, σ5)
theorem hd_X11_feeOf : yX11_feeOf.cls = RX11 ∧ yX11_feeOf.cls ≠ "java/lang/invoke/MethodHandle" ∧ yX11_feeOf.cls ≠ "java/lang/invoke/VarHandle" ∧ (parseMethodDescriptor yX11_feeOf.desc).map (fun d => d.parameters.length) = some 3 := by decide +kernel
set_option maxRecDepth 100000 in
set_option maxHeartbeats 4000000 in
theorem k_X11_feeOf {l : Launch} {ad : Nat → Nat} {D : va_G} {cy : Nat → ClassId} {z : wStr} (hI : wI WM ad) {σ : St} {x1 : Int32} {x2 : Int32} {x3 : Int32}  {res : Int32 × St} (hf : f_X11_feeOf σ x1 x2 x3 = some res) : wC WM ad D cy z l yX11_feeOf (Cond.code yX11_feeOf cX11_feeOf 4 (Option.some Jvm.ClassFile.FieldType.int) :: aw) (3) (153) [.ref (ad 0), .int x1, .int x2, .int x3] σ (wQi WM ad D cy res.1 res.2) := by
  unfold f_X11_feeOf at hf
  refine wr_start (own := RX11) hI (by decide +kernel) rfl (Nat.le_of_ble_eq_true rfl) rfl ?_
  intro p e s m below meth c ls X hw hr hl
  have hx := X.hx
  have hb := X.hb
  obtain ⟨H, eH⟩ : ∃ H : Heap, H = s.heap := ⟨_, rfl⟩
  obtain ⟨locs, el⟩ : ∃ locs : List Loc, locs = [] := ⟨_, rfl⟩
  rw [← eH, ← el] at hw ⊢
  clear eH el
  replace hl : lv_has ls 4 [(0, .ref (ad 0)), (1, .int x1), (2, .int x2), (3, .int x3)] := hl
  refine lv_aload_n hx hb dX11_feeOf_0 rfl (lv_at hl 0 rfl) ?_
  refine lv_iload_n hx hb dX11_feeOf_1 rfl (lv_at hl 1 rfl) ?_
  refine lv_iload_n hx hb dX11_feeOf_2 rfl (lv_at hl 2 rfl) ?_
  refine lv_iload_n hx hb dX11_feeOf_3 rfl (lv_at hl 3 rfl) ?_
  obtain ⟨σ2, hq1, hf⟩ := bind_some hf
  refine wr_cVv (σ' := σ2) (av := [.int x1, .int x2, .int x3]) (rest := []) X hw hl.1 sM0 nM0 rfl (k_X11_views hI hq1) rfl ml_X11_305 im_X11_views se_X11_views ini_X11 co_X11_views hd_X11_views ⟨Nat.le_of_ble_eq_true rfl, Nat.le_of_ble_eq_true rfl⟩ (Nat.le_of_ble_eq_true rfl) dX11_feeOf_4 rfl (fun H locs hw => ?_)
  refine lv_aload_n hx hb dX11_feeOf_7 rfl (lv_at hl 0 rfl) ?_
  refine lv_iconst (v := 2) hx hb dX11_feeOf_8 (by decide) ?_
  refine lv_iload_n hx hb dX11_feeOf_9 rfl (lv_at hl 3 rfl) ?_
  refine lv_iconst (v := 4) hx hb dX11_feeOf_10 (by decide) ?_
  refine lv_idiv hx hb dX11_feeOf_11 (by decide) ?_
  obtain ⟨v4, σ5, hq3, hf⟩ := bnd2_some hf
  refine wr_cVi (r := v4) (σ' := σ5) (av := [.int (2 : Int32), .int (x3 / (4 : Int32))]) (rest := []) X hw hl.1 sM0 nM0 rfl (k_X11_lawTells hI hq3) rfl ml_X11_309 im_X11_lawTells se_X11_lawTells ini_X11 co_X11_lawTells hd_X11_lawTells ⟨Nat.le_of_ble_eq_true rfl, Nat.le_of_ble_eq_true rfl⟩ (Nat.le_of_ble_eq_true rfl) dX11_feeOf_12 rfl (fun H locs hw => ?_)
  refine lv_iconst (v := 0) hx hb dX11_feeOf_15 (by decide) ?_
  refine lv_bipush (v := 99) hx hb dX11_feeOf_16 (by decide) ?_
  obtain ⟨v7, hq6, hf⟩ := bind_some hf
  refine wr_cSi (r := v7) (σ' := σ5) (av := [.int v4, .int (0 : Int32), .int (99 : Int32)]) (rest := []) X hw hl.1 (k_X11_within hI hq6) rfl ml_X11_312 st_X11_within ini_X11 co_X11_within hd_X11_within ⟨Nat.le_of_ble_eq_true rfl, Nat.le_of_ble_eq_true rfl⟩ (Nat.le_of_ble_eq_true rfl) dX11_feeOf_18 rfl (fun H locs hw => ?_)
  have er := Option.some.inj hf
  subst er
  exact wr_iret X hw hr (Or.inl rfl) dX11_feeOf_21

def f_X11_doesBuy (σ : St) (x1 : Int32) : Option (Int32 × St) := if ib (x1 - (1 : Int32)) 26 = true then wlet (σ.1 27 (Int32.toNatClampNeg (x1 - (1 : Int32)))) fun v2 => Option.bind (f_X11_doesPlead σ v2) fun v4 => if v4 = 0 then (if ib x1 26 = true then Option.bind (f_X11_deedAt σ v2) fun v8 => bnd2 (f_X11_feeOf σ (σ.1 27 (Int32.toNatClampNeg x1)) x1 v8) fun v10 σ11 => bnd2 (f_X11_sufferAt σ11 x1) fun v13 σ14 => if ib (24 : Int32) 26 = true then if ib (24 : Int32) 26 = true then wlet (si σ14 27 (Int32.toNatClampNeg (24 : Int32)) ((σ14.1 27 (Int32.toNatClampNeg (24 : Int32))) ||| ((1 : Int32) <<< (v2 &&& 31)))) fun σ17 => bnd2 (f_X11_sufferAt σ17 x1) fun v19 σ20 => if ib (24 : Int32) 26 = true then if ib (24 : Int32) 26 = true then wlet (si σ20 27 (Int32.toNatClampNeg (24 : Int32)) ((σ20.1 27 (Int32.toNatClampNeg (24 : Int32))) &&& (((1 : Int32) <<< (v2 &&& 31)) ^^^ (-1 : Int32)))) fun σ23 => if (v13 - v19) ≤ v10 then (some ((0 : Int32), σ23)) else (if ib x1 26 = true then if ib ((10 : Int32) + (σ23.1 27 (Int32.toNatClampNeg x1))) 26 = true then if (σ23.1 27 (Int32.toNatClampNeg ((10 : Int32) + (σ23.1 27 (Int32.toNatClampNeg x1))))) < v10 then (some ((0 : Int32), σ23)) else (some ((1 : Int32), σ23)) else none else none) else none else none else none else none else none) else (some ((0 : Int32), σ)) else none
theorem hd_X11_doesBuy : yX11_doesBuy.cls = RX11 ∧ yX11_doesBuy.cls ≠ "java/lang/invoke/MethodHandle" ∧ yX11_doesBuy.cls ≠ "java/lang/invoke/VarHandle" ∧ (parseMethodDescriptor yX11_doesBuy.desc).map (fun d => d.parameters.length) = some 1 := by decide +kernel
set_option maxRecDepth 100000 in
set_option maxHeartbeats 4000000 in
theorem k_X11_doesBuy {l : Launch} {ad : Nat → Nat} {D : va_G} {cy : Nat → ClassId} {z : wStr} (hI : wI WM ad) {σ : St} {x1 : Int32}  {res : Int32 × St} (hf : f_X11_doesBuy σ x1 = some res) : wC WM ad D cy z l yX11_doesBuy (Cond.code yX11_doesBuy cX11_doesBuy 6 (Option.some Jvm.ClassFile.FieldType.boolean) :: aw) (5) (201) [.ref (ad 0), .int x1] σ (wQi WM ad D cy res.1 res.2) := by
  unfold f_X11_doesBuy at hf
  refine wr_start (own := RX11) hI (by decide +kernel) rfl (Nat.le_of_ble_eq_true rfl) rfl ?_
  intro p e s m below meth c ls X hw hr hl
  have hx := X.hx
  have hb := X.hb
  obtain ⟨H, eH⟩ : ∃ H : Heap, H = s.heap := ⟨_, rfl⟩
  obtain ⟨locs, el⟩ : ∃ locs : List Loc, locs = [] := ⟨_, rfl⟩
  rw [← eH, ← el] at hw ⊢
  clear eH el
  replace hl : lv_has ls 6 [(0, .ref (ad 0)), (1, .int x1)] := hl
  refine lv_aload_n hx hb dX11_doesBuy_0 rfl (lv_at hl 0 rfl) ?_
  refine gX11_44 (b := 27) X hw sM0 nM0 rfl fl_X11_98 dX11_doesBuy_1 ?_
  refine lv_iload_n hx hb dX11_doesBuy_4 rfl (lv_at hl 1 rfl) ?_
  refine lv_iconst (v := 1) hx hb dX11_doesBuy_5 (by decide) ?_
  refine lv_isub hx hb dX11_doesBuy_6 ?_
  obtain ⟨h1, hf⟩ := if_some hf
  refine wr_iald X hw sM27 nM27 h1 dX11_doesBuy_7 ?_
  obtain ⟨v2, ev2, hf⟩ := wlet_some hf
  refine wr_top ev2 ?_
  refine lv_istore_n (lv' := [(2, .int v2), (0, .ref (ad 0)), (1, .int x1)]) hx hb dX11_doesBuy_8 rfl hl (by decide) rfl (fun ls hl => ?_)
  refine lv_aload_n hx hb dX11_doesBuy_9 rfl (lv_at hl 1 rfl) ?_
  refine lv_iload_n hx hb dX11_doesBuy_10 rfl (lv_at hl 0 rfl) ?_
  obtain ⟨v4, hq3, hf⟩ := bind_some hf
  refine wr_cVi (r := v4) (σ' := σ) (av := [.int v2]) (rest := []) X hw hl.1 sM0 nM0 rfl (k_X11_doesPlead hI hq3) rfl ml_X11_302 im_X11_doesPlead se_X11_doesPlead ini_X11 co_X11_doesPlead hd_X11_doesPlead ⟨Nat.le_of_ble_eq_true rfl, Nat.le_of_ble_eq_true rfl⟩ (Nat.le_of_ble_eq_true rfl) dX11_doesBuy_11 rfl (fun H locs hw => ?_)
  refine lv_if_eq (tgt := 19) hx hb dX11_doesBuy_14 (by decide) (fun c5 => ?_) (fun c5 => ?_)
  · have hf := (if_pos c5).symm.trans hf
    refine lv_aload_n hx hb dX11_doesBuy_19 rfl (lv_at hl 1 rfl) ?_
    refine lv_aload_n hx hb dX11_doesBuy_20 rfl (lv_at hl 1 rfl) ?_
    refine gX11_44 (b := 27) X hw sM0 nM0 rfl fl_X11_98 dX11_doesBuy_21 ?_
    refine lv_iload_n hx hb dX11_doesBuy_24 rfl (lv_at hl 2 rfl) ?_
    obtain ⟨h6, hf⟩ := if_some hf
    refine wr_iald X hw sM27 nM27 h6 dX11_doesBuy_25 ?_
    refine lv_iload_n hx hb dX11_doesBuy_26 rfl (lv_at hl 2 rfl) ?_
    refine lv_aload_n hx hb dX11_doesBuy_27 rfl (lv_at hl 1 rfl) ?_
    refine lv_iload_n hx hb dX11_doesBuy_28 rfl (lv_at hl 0 rfl) ?_
    obtain ⟨v8, hq7, hf⟩ := bind_some hf
    refine wr_cVi (r := v8) (σ' := σ) (av := [.int v2]) (rest := [.int x1, .int (σ.1 27 (Int32.toNatClampNeg x1)), .ref (ad 0)]) X hw hl.1 sM0 nM0 rfl (k_X11_deedAt hI hq7) rfl ml_X11_299 im_X11_deedAt se_X11_deedAt ini_X11 co_X11_deedAt hd_X11_deedAt ⟨Nat.le_of_ble_eq_true rfl, Nat.le_of_ble_eq_true rfl⟩ (Nat.le_of_ble_eq_true rfl) dX11_doesBuy_29 rfl (fun H locs hw => ?_)
    obtain ⟨v10, σ11, hq9, hf⟩ := bnd2_some hf
    refine wr_cVi (r := v10) (σ' := σ11) (av := [.int (σ.1 27 (Int32.toNatClampNeg x1)), .int x1, .int v8]) (rest := []) X hw hl.1 sM0 nM0 rfl (k_X11_feeOf hI hq9) rfl ml_X11_351 im_X11_feeOf se_X11_feeOf ini_X11 co_X11_feeOf hd_X11_feeOf ⟨Nat.le_of_ble_eq_true rfl, Nat.le_of_ble_eq_true rfl⟩ (Nat.le_of_ble_eq_true rfl) dX11_doesBuy_32 rfl (fun H locs hw => ?_)
    refine lv_istore_n (lv' := [(3, .int v10), (2, .int v2), (0, .ref (ad 0)), (1, .int x1)]) hx hb dX11_doesBuy_35 rfl hl (by decide) rfl (fun ls hl => ?_)
    refine lv_aload_n hx hb dX11_doesBuy_36 rfl (lv_at hl 2 rfl) ?_
    refine lv_iload_n hx hb dX11_doesBuy_37 rfl (lv_at hl 3 rfl) ?_
    obtain ⟨v13, σ14, hq12, hf⟩ := bnd2_some hf
    refine wr_cVi (r := v13) (σ' := σ14) (av := [.int x1]) (rest := []) X hw hl.1 sM0 nM0 rfl (k_X11_sufferAt hI hq12) rfl ml_X11_324 im_X11_sufferAt se_X11_sufferAt ini_X11 co_X11_sufferAt hd_X11_sufferAt ⟨Nat.le_of_ble_eq_true rfl, Nat.le_of_ble_eq_true rfl⟩ (Nat.le_of_ble_eq_true rfl) dX11_doesBuy_38 rfl (fun H locs hw => ?_)
    refine lv_istore (lv' := [(4, .int v13), (3, .int v10), (2, .int v2), (0, .ref (ad 0)), (1, .int x1)]) hx hb dX11_doesBuy_41 hl (by decide) rfl (fun ls hl => ?_)
    refine lv_aload_n hx hb dX11_doesBuy_43 rfl (lv_at hl 3 rfl) ?_
    refine gX11_44 (b := 27) X hw sM0 nM0 rfl fl_X11_98 dX11_doesBuy_44 ?_
    refine lv_bipush (v := 24) hx hb dX11_doesBuy_47 (by decide) ?_
    refine lv_dup2_11 hx hb dX11_doesBuy_49 rfl rfl ?_
    obtain ⟨h15, hf⟩ := if_some hf
    refine wr_iald X hw sM27 nM27 h15 dX11_doesBuy_50 ?_
    refine lv_iconst (v := 1) hx hb dX11_doesBuy_51 (by decide) ?_
    refine lv_iload_n hx hb dX11_doesBuy_52 rfl (lv_at hl 2 rfl) ?_
    refine lv_ishl hx hb dX11_doesBuy_53 ?_
    refine lv_ior hx hb dX11_doesBuy_54 ?_
    obtain ⟨h16, hf⟩ := if_some hf
    obtain ⟨σ17, eσ17, hf⟩ := wlet_some hf
    refine wr_iast X hw sM27 nM27 h16 dX11_doesBuy_55 (fun H locs hw => ?_)
    replace hw := hw.to eσ17
    refine lv_aload_n hx hb dX11_doesBuy_56 rfl (lv_at hl 3 rfl) ?_
    refine lv_iload_n hx hb dX11_doesBuy_57 rfl (lv_at hl 4 rfl) ?_
    obtain ⟨v19, σ20, hq18, hf⟩ := bnd2_some hf
    refine wr_cVi (r := v19) (σ' := σ20) (av := [.int x1]) (rest := []) X hw hl.1 sM0 nM0 rfl (k_X11_sufferAt hI hq18) rfl ml_X11_324 im_X11_sufferAt se_X11_sufferAt ini_X11 co_X11_sufferAt hd_X11_sufferAt ⟨Nat.le_of_ble_eq_true rfl, Nat.le_of_ble_eq_true rfl⟩ (Nat.le_of_ble_eq_true rfl) dX11_doesBuy_58 rfl (fun H locs hw => ?_)
    refine lv_istore (lv' := [(5, .int v19), (4, .int v13), (3, .int v10), (2, .int v2), (0, .ref (ad 0)), (1, .int x1)]) hx hb dX11_doesBuy_61 hl (by decide) rfl (fun ls hl => ?_)
    refine lv_aload_n hx hb dX11_doesBuy_63 rfl (lv_at hl 4 rfl) ?_
    refine gX11_44 (b := 27) X hw sM0 nM0 rfl fl_X11_98 dX11_doesBuy_64 ?_
    refine lv_bipush (v := 24) hx hb dX11_doesBuy_67 (by decide) ?_
    refine lv_dup2_11 hx hb dX11_doesBuy_69 rfl rfl ?_
    obtain ⟨h21, hf⟩ := if_some hf
    refine wr_iald X hw sM27 nM27 h21 dX11_doesBuy_70 ?_
    refine lv_iconst (v := 1) hx hb dX11_doesBuy_71 (by decide) ?_
    refine lv_iload_n hx hb dX11_doesBuy_72 rfl (lv_at hl 3 rfl) ?_
    refine lv_ishl hx hb dX11_doesBuy_73 ?_
    refine lv_iconst (v := -1) hx hb dX11_doesBuy_74 (by decide) ?_
    refine lv_ixor hx hb dX11_doesBuy_75 ?_
    refine lv_iand hx hb dX11_doesBuy_76 ?_
    obtain ⟨h22, hf⟩ := if_some hf
    obtain ⟨σ23, eσ23, hf⟩ := wlet_some hf
    refine wr_iast X hw sM27 nM27 h22 dX11_doesBuy_77 (fun H locs hw => ?_)
    replace hw := hw.to eσ23
    refine lv_iload hx hb dX11_doesBuy_78 (lv_at hl 1 rfl) ?_
    refine lv_iload hx hb dX11_doesBuy_80 (lv_at hl 0 rfl) ?_
    refine lv_isub hx hb dX11_doesBuy_82 ?_
    refine lv_iload_n hx hb dX11_doesBuy_83 rfl (lv_at hl 2 rfl) ?_
    refine lv_icmp_le (tgt := 109) hx hb dX11_doesBuy_84 (by decide) (fun c24 => ?_) (fun c24 => ?_)
    · have hf := (if_pos c24).symm.trans hf
      refine lv_iconst (v := 0) hx hb dX11_doesBuy_109 (by decide) ?_
      have er := Option.some.inj hf
      subst er
      exact wr_iret X hw hr (Or.inr ⟨rfl, (show bz (0 : Int32) = true from rfl)⟩) dX11_doesBuy_110
    · have hf := (if_neg c24).symm.trans hf
      refine lv_iload_n hx hb dX11_doesBuy_87 rfl (lv_at hl 2 rfl) ?_
      refine lv_aload_n hx hb dX11_doesBuy_88 rfl (lv_at hl 4 rfl) ?_
      refine gX11_44 (b := 27) X hw sM0 nM0 rfl fl_X11_98 dX11_doesBuy_89 ?_
      refine lv_bipush (v := 10) hx hb dX11_doesBuy_92 (by decide) ?_
      refine lv_aload_n hx hb dX11_doesBuy_94 rfl (lv_at hl 4 rfl) ?_
      refine gX11_44 (b := 27) X hw sM0 nM0 rfl fl_X11_98 dX11_doesBuy_95 ?_
      refine lv_iload_n hx hb dX11_doesBuy_98 rfl (lv_at hl 5 rfl) ?_
      obtain ⟨h25, hf⟩ := if_some hf
      refine wr_iald X hw sM27 nM27 h25 dX11_doesBuy_99 ?_
      refine lv_iadd hx hb dX11_doesBuy_100 ?_
      obtain ⟨h26, hf⟩ := if_some hf
      refine wr_iald X hw sM27 nM27 h26 dX11_doesBuy_101 ?_
      refine lv_icmp_gt (tgt := 109) hx hb dX11_doesBuy_102 (by decide) (fun c27 => ?_) (fun c27 => ?_)
      · have hf := (if_pos c27).symm.trans hf
        refine lv_iconst (v := 0) hx hb dX11_doesBuy_109 (by decide) ?_
        have er := Option.some.inj hf
        subst er
        exact wr_iret X hw hr (Or.inr ⟨rfl, (show bz (0 : Int32) = true from rfl)⟩) dX11_doesBuy_110
      · have hf := (if_neg c27).symm.trans hf
        refine lv_iconst (v := 1) hx hb dX11_doesBuy_105 (by decide) ?_
        refine lv_goto (tgt := 110) hx hb dX11_doesBuy_106 (by decide) ?_
        have er := Option.some.inj hf
        subst er
        exact wr_iret X hw hr (Or.inr ⟨rfl, (show bz (1 : Int32) = true from rfl)⟩) dX11_doesBuy_110
  · have hf := (if_neg c5).symm.trans hf
    refine lv_iconst (v := 0) hx hb dX11_doesBuy_17 (by decide) ?_
    have er := Option.some.inj hf
    subst er
    exact wr_iret X hw hr (Or.inr ⟨rfl, (show bz (0 : Int32) = true from rfl)⟩) dX11_doesBuy_18

def f_X11_buyersNow (σ : St)  : Option (Int32 × St) := wlet (un3 (fun (σ4_1 : St) (x1_4_1 : Int32) (x2_4_1 : Int32) => if ib (7 : Int32) 26 = true then if (σ4_1.1 27 (Int32.toNatClampNeg (7 : Int32))) ≤ x2_4_1 then (some (.inr (σ4_1, x1_4_1))) else (bnd2 (f_X11_doesBuy σ4_1 x2_4_1) fun v5 σ6 => if v5 = 0 then (wlet (x2_4_1 + (1 : Int32)) fun v8 => some (.inl (σ6, x1_4_1, v8))) else (if ib x2_4_1 26 = true then wlet (x1_4_1 ||| ((1 : Int32) <<< ((σ6.1 27 (Int32.toNatClampNeg x2_4_1)) &&& 31))) fun v10 => wlet (x2_4_1 + (1 : Int32)) fun v11 => some (.inl (σ6, v10, v11)) else none)) else none) : St × Int32 × Int32 → Option ((St × Int32 × Int32) ⊕ (St × Int32))) fun st4_1 => Option.bind (lp st4_1 fuel (σ, (0 : Int32), (1 : Int32))) ((un2 (fun (σe4_1 : St) (x1_e4_1 : Int32) => some (x1_e4_1, σe4_1))))
theorem hd_X11_buyersNow : yX11_buyersNow.cls = RX11 ∧ yX11_buyersNow.cls ≠ "java/lang/invoke/MethodHandle" ∧ yX11_buyersNow.cls ≠ "java/lang/invoke/VarHandle" ∧ (parseMethodDescriptor yX11_buyersNow.desc).map (fun d => d.parameters.length) = some 0 := by decide +kernel
set_option maxRecDepth 100000 in
set_option maxHeartbeats 4000000 in
theorem k_X11_buyersNow {l : Launch} {ad : Nat → Nat} {D : va_G} {cy : Nat → ClassId} {z : wStr} (hI : wI WM ad) {σ : St}   {res : Int32 × St} (hf : f_X11_buyersNow σ  = some res) : wC WM ad D cy z l yX11_buyersNow (Cond.code yX11_buyersNow cX11_buyersNow 3 (Option.some Jvm.ClassFile.FieldType.int) :: aw) (6) (226) [.ref (ad 0)] σ (wQi WM ad D cy res.1 res.2) := by
  unfold f_X11_buyersNow at hf
  refine wr_start (own := RX11) hI (by decide +kernel) rfl (Nat.le_of_ble_eq_true rfl) rfl ?_
  intro p e s m below meth c ls X hw hr hl
  have hx := X.hx
  have hb := X.hb
  obtain ⟨H, eH⟩ : ∃ H : Heap, H = s.heap := ⟨_, rfl⟩
  obtain ⟨locs, el⟩ : ∃ locs : List Loc, locs = [] := ⟨_, rfl⟩
  rw [← eH, ← el] at hw ⊢
  clear eH el
  replace hl : lv_has ls 3 [(0, .ref (ad 0))] := hl
  refine lv_iconst (v := 0) hx hb dX11_buyersNow_0 (by decide) ?_
  refine lv_istore_n (lv' := [(1, .int (0 : Int32)), (0, .ref (ad 0))]) hx hb dX11_buyersNow_1 rfl hl (by decide) rfl (fun ls hl => ?_)
  refine lv_iconst (v := 1) hx hb dX11_buyersNow_2 (by decide) ?_
  refine lv_istore_n (lv' := [(2, .int (1 : Int32)), (1, .int (0 : Int32)), (0, .ref (ad 0))]) hx hb dX11_buyersNow_3 rfl hl (by decide) rfl (fun ls hl => ?_)
  obtain ⟨st4_1, est4_1, hf⟩ := wlet_some hf
  obtain ⟨E4_1, hq4_1, hE4_1⟩ := bind_some hf
  have hx4_1 : ∀ (σe4_1 : St) (x1_e4_1 : Int32) (_ : (σe4_1, x1_e4_1) = E4_1) (ls : Array Slot) (H : Heap) (locs : List Loc), lv_has ls 3 [(1, .int x1_e4_1)] → wH WM ad D cy s σe4_1 H locs → W p l e { frames := 6, cells := 0, slots := 0, locals := 226 } s m [.ref (ad 0)].toArray below meth c H locs 0 0 (MQ below (wQi WM ad D cy res.1 res.2) [.ref (ad 0)].toArray s 0 0 (wA WM ad)) (F0 m 40 ls []) := by
    intro σe4_1 x1_e4_1 e0 ls H locs hl hw
    subst e0
    have hf := hE4_1
    replace hf := un2_some hf
    refine lv_iload_n hx hb dX11_buyersNow_40 rfl (lv_at hl 0 rfl) ?_
    have er := Option.some.inj hf
    subst er
    exact wr_iret X hw hr (Or.inl rfl) dX11_buyersNow_41
  have lo4_1 : ∀ (n : Nat) (σ4_1 : St) (x1_4_1 : Int32) (x2_4_1 : Int32) (_ : lp st4_1 n (σ4_1, x1_4_1, x2_4_1) = some E4_1) (ls : Array Slot) (H : Heap) (locs : List Loc), lv_has ls 3 [(0, .ref (ad 0)), (1, .int x1_4_1), (2, .int x2_4_1)] → wH WM ad D cy s σ4_1 H locs → W p l e { frames := 6, cells := 0, slots := 0, locals := 226 } s m [.ref (ad 0)].toArray below meth c H locs 0 0 (MQ below (wQi WM ad D cy res.1 res.2) [.ref (ad 0)].toArray s 0 0 (wA WM ad)) (F0 m 4 ls []) := by
    intro n
    induction n with
    | zero =>
      intro σ4_1 x1_4_1 x2_4_1 hf ls H locs hl hw
      exact (lp_zero hf).elim
    | succ n ih4_1 =>
      intro σ4_1 x1_4_1 x2_4_1 hf ls H locs hl hw
      obtain ⟨q4_1, hf, hz4_1⟩ := lp_succ hf
      rw [est4_1] at hf
      replace hf := un3_some hf
      refine lv_iload_n hx hb dX11_buyersNow_4 rfl (lv_at hl 2 rfl) ?_
      refine lv_aload_n hx hb dX11_buyersNow_5 rfl (lv_at hl 0 rfl) ?_
      refine gX11_44 (b := 27) X hw sM0 nM0 rfl fl_X11_98 dX11_buyersNow_6 ?_
      refine lv_bipush (v := 7) hx hb dX11_buyersNow_9 (by decide) ?_
      obtain ⟨h2, hf⟩ := if_some hf
      refine wr_iald X hw sM27 nM27 h2 dX11_buyersNow_11 ?_
      refine lv_icmp_ge (tgt := 40) hx hb dX11_buyersNow_12 (by decide) (fun c3 => ?_) (fun c3 => ?_)
      · have hf := (if_pos c3).symm.trans hf
        exact hx4_1 σ4_1 x1_4_1 (lpK_inr (lp_leaf hf hz4_1)) ls H locs (lv_sub hl [1] rfl) hw
      · have hf := (if_neg c3).symm.trans hf
        refine lv_aload_n hx hb dX11_buyersNow_15 rfl (lv_at hl 0 rfl) ?_
        refine lv_iload_n hx hb dX11_buyersNow_16 rfl (lv_at hl 2 rfl) ?_
        obtain ⟨v5, σ6, hq4, hf⟩ := bnd2_some hf
        refine wr_cVi (r := v5) (σ' := σ6) (av := [.int x2_4_1]) (rest := []) X hw hl.1 sM0 nM0 rfl (k_X11_doesBuy hI hq4) rfl ml_X11_418 im_X11_doesBuy se_X11_doesBuy ini_X11 co_X11_doesBuy hd_X11_doesBuy ⟨Nat.le_of_ble_eq_true rfl, Nat.le_of_ble_eq_true rfl⟩ (Nat.le_of_ble_eq_true rfl) dX11_buyersNow_17 rfl (fun H locs hw => ?_)
        refine lv_if_eq (tgt := 34) hx hb dX11_buyersNow_20 (by decide) (fun c7 => ?_) (fun c7 => ?_)
        · have hf := (if_pos c7).symm.trans hf
          obtain ⟨v8, ev8, hf⟩ := wlet_some hf
          refine lv_iinc (v := v8) (lv' := [(2, .int v8), (0, .ref (ad 0)), (1, .int x1_4_1)]) hx hb dX11_buyersNow_34 hl (k := 2) rfl (by rw [ev8]; rfl) (by decide) rfl (fun ls hl => ?_)
          refine lv_goto (tgt := 4) hx hb dX11_buyersNow_37 (by decide) ?_
          exact ih4_1 σ6 x1_4_1 v8 (lp_leaf hf hz4_1) ls H locs (lv_sub hl [1, 2, 0] rfl) hw
        · have hf := (if_neg c7).symm.trans hf
          refine lv_iload_n hx hb dX11_buyersNow_23 rfl (lv_at hl 1 rfl) ?_
          refine lv_iconst (v := 1) hx hb dX11_buyersNow_24 (by decide) ?_
          refine lv_aload_n hx hb dX11_buyersNow_25 rfl (lv_at hl 0 rfl) ?_
          refine gX11_44 (b := 27) X hw sM0 nM0 rfl fl_X11_98 dX11_buyersNow_26 ?_
          refine lv_iload_n hx hb dX11_buyersNow_29 rfl (lv_at hl 2 rfl) ?_
          obtain ⟨h9, hf⟩ := if_some hf
          refine wr_iald X hw sM27 nM27 h9 dX11_buyersNow_30 ?_
          refine lv_ishl hx hb dX11_buyersNow_31 ?_
          refine lv_ior hx hb dX11_buyersNow_32 ?_
          obtain ⟨v10, ev10, hf⟩ := wlet_some hf
          refine wr_top ev10 ?_
          refine lv_istore_n (lv' := [(1, .int v10), (0, .ref (ad 0)), (2, .int x2_4_1)]) hx hb dX11_buyersNow_33 rfl hl (by decide) rfl (fun ls hl => ?_)
          obtain ⟨v11, ev11, hf⟩ := wlet_some hf
          refine lv_iinc (v := v11) (lv' := [(2, .int v11), (1, .int v10), (0, .ref (ad 0))]) hx hb dX11_buyersNow_34 hl (k := 2) rfl (by rw [ev11]; rfl) (by decide) rfl (fun ls hl => ?_)
          refine lv_goto (tgt := 4) hx hb dX11_buyersNow_37 (by decide) ?_
          exact ih4_1 σ6 v10 v11 (lp_leaf hf hz4_1) ls H locs (lv_sub hl [2, 1, 0] rfl) hw
  exact lo4_1 fuel σ (0 : Int32) (1 : Int32) hq4_1 ls H locs (lv_sub hl [2, 1, 0] rfl) hw

def f_X11_buyers (σ : St)  : Option (Int32 × St) := Option.bind (f_X11_copies σ) fun σ2 => bnd2 (f_X11_buyersNow σ2) fun v4 σ5 => some (v4, σ5)
theorem hd_X11_buyers : yX11_buyers.cls = RX11 ∧ yX11_buyers.cls ≠ "java/lang/invoke/MethodHandle" ∧ yX11_buyers.cls ≠ "java/lang/invoke/VarHandle" ∧ (parseMethodDescriptor yX11_buyers.desc).map (fun d => d.parameters.length) = some 0 := by decide +kernel
set_option maxRecDepth 100000 in
set_option maxHeartbeats 4000000 in
theorem k_X11_buyers {l : Launch} {ad : Nat → Nat} {D : va_G} {cy : Nat → ClassId} {z : wStr} (hI : wI WM ad) {σ : St}   {res : Int32 × St} (hf : f_X11_buyers σ  = some res) : wC WM ad D cy z l yX11_buyers (Cond.code yX11_buyers cX11_buyers 1 (Option.some Jvm.ClassFile.FieldType.int) :: aw) (7) (248) [.ref (ad 0)] σ (wQi WM ad D cy res.1 res.2) := by
  unfold f_X11_buyers at hf
  refine wr_start (own := RX11) hI (by decide +kernel) rfl (Nat.le_of_ble_eq_true rfl) rfl ?_
  intro p e s m below meth c ls X hw hr hl
  have hx := X.hx
  have hb := X.hb
  obtain ⟨H, eH⟩ : ∃ H : Heap, H = s.heap := ⟨_, rfl⟩
  obtain ⟨locs, el⟩ : ∃ locs : List Loc, locs = [] := ⟨_, rfl⟩
  rw [← eH, ← el] at hw ⊢
  clear eH el
  replace hl : lv_has ls 1 [(0, .ref (ad 0))] := hl
  refine lv_aload_n hx hb dX11_buyers_0 rfl (lv_at hl 0 rfl) ?_
  obtain ⟨σ2, hq1, hf⟩ := bind_some hf
  refine wr_cVv (σ' := σ2) (av := []) (rest := []) X hw hl.1 sM0 nM0 rfl (k_X11_copies hI hq1) rfl ml_X11_345 im_X11_copies se_X11_copies ini_X11 co_X11_copies hd_X11_copies ⟨Nat.le_of_ble_eq_true rfl, Nat.le_of_ble_eq_true rfl⟩ (Nat.le_of_ble_eq_true rfl) dX11_buyers_1 rfl (fun H locs hw => ?_)
  refine lv_aload_n hx hb dX11_buyers_4 rfl (lv_at hl 0 rfl) ?_
  obtain ⟨v4, σ5, hq3, hf⟩ := bnd2_some hf
  refine wr_cVi (r := v4) (σ' := σ5) (av := []) (rest := []) X hw hl.1 sM0 nM0 rfl (k_X11_buyersNow hI hq3) rfl ml_X11_421 im_X11_buyersNow se_X11_buyersNow ini_X11 co_X11_buyersNow hd_X11_buyersNow ⟨Nat.le_of_ble_eq_true rfl, Nat.le_of_ble_eq_true rfl⟩ (Nat.le_of_ble_eq_true rfl) dX11_buyers_5 rfl (fun H locs hw => ?_)
  have er := Option.some.inj hf
  subst er
  exact wr_iret X hw hr (Or.inl rfl) dX11_buyers_8

def f_X11_byteAt (σ : St) (x1 : Int32) : Option (Int32) := if (σ.1 0 4) ≤ x1 then (some (0 : Int32)) else (if ib x1 2000 = true then some ((σ.1 2 (Int32.toNatClampNeg x1)) &&& (255 : Int32)) else none)
theorem hd_X11_byteAt : yX11_byteAt.cls = RX11 ∧ yX11_byteAt.cls ≠ "java/lang/invoke/MethodHandle" ∧ yX11_byteAt.cls ≠ "java/lang/invoke/VarHandle" ∧ (parseMethodDescriptor yX11_byteAt.desc).map (fun d => d.parameters.length) = some 1 := by decide +kernel
set_option maxRecDepth 100000 in
set_option maxHeartbeats 4000000 in
theorem k_X11_byteAt {l : Launch} {ad : Nat → Nat} {D : va_G} {cy : Nat → ClassId} {z : wStr} (hI : wI WM ad) {σ : St} {x1 : Int32}  {res : Int32} (hf : f_X11_byteAt σ x1 = some res) : wC WM ad D cy z l yX11_byteAt (Cond.code yX11_byteAt cX11_byteAt 2 (Option.some Jvm.ClassFile.FieldType.int) :: aw) (1) (100) [.ref (ad 0), .int x1] σ (wQi WM ad D cy res σ) := by
  unfold f_X11_byteAt at hf
  refine wr_start (own := RX11) hI (by decide +kernel) rfl (Nat.le_of_ble_eq_true rfl) rfl ?_
  intro p e s m below meth c ls X hw hr hl
  have hx := X.hx
  have hb := X.hb
  obtain ⟨H, eH⟩ : ∃ H : Heap, H = s.heap := ⟨_, rfl⟩
  obtain ⟨locs, el⟩ : ∃ locs : List Loc, locs = [] := ⟨_, rfl⟩
  rw [← eH, ← el] at hw ⊢
  clear eH el
  replace hl : lv_has ls 2 [(0, .ref (ad 0)), (1, .int x1)] := hl
  refine lv_iload_n hx hb dX11_byteAt_0 rfl (lv_at hl 1 rfl) ?_
  refine lv_aload_n hx hb dX11_byteAt_1 rfl (lv_at hl 0 rfl) ?_
  refine gX11_4 X hw sM0 nM0 fl_X11_155 dX11_byteAt_2 ?_
  refine lv_icmp_ge (tgt := 21) hx hb dX11_byteAt_5 (by decide) (fun c1 => ?_) (fun c1 => ?_)
  · have hf := (if_pos c1).symm.trans hf
    refine lv_iconst (v := 0) hx hb dX11_byteAt_21 (by decide) ?_
    have er := Option.some.inj hf
    subst er
    exact wr_iret X hw hr (Or.inl rfl) dX11_byteAt_22
  · have hf := (if_neg c1).symm.trans hf
    refine lv_aload_n hx hb dX11_byteAt_8 rfl (lv_at hl 0 rfl) ?_
    refine gX11_3 (b := 2) X hw sM0 nM0 rfl fl_X11_17 dX11_byteAt_9 ?_
    refine lv_iload_n hx hb dX11_byteAt_12 rfl (lv_at hl 1 rfl) ?_
    obtain ⟨h2, hf⟩ := if_some hf
    refine wr_bald X hw sM2 nM2 h2 dX11_byteAt_13 ?_
    refine lv_sipush (v := 255) hx hb dX11_byteAt_14 (by decide) ?_
    refine lv_iand hx hb dX11_byteAt_17 ?_
    refine lv_goto (tgt := 22) hx hb dX11_byteAt_18 (by decide) ?_
    have er := Option.some.inj hf
    subst er
    exact wr_iret X hw hr (Or.inl rfl) dX11_byteAt_22

def f_X11_records (σ : St)  : Option (Int32 × St) := if (σ.1 0 47) = (40 : Int32) then (wlet (un2 (fun (σ11_11 : St) (x1_11_11 : Int32) => if (1014 : Int32) ≤ x1_11_11 then (some (.inr σ11_11)) else (if ib (x1_11_11 + (26 : Int32)) 1040 = true then if ib x1_11_11 1040 = true then wlet (si σ11_11 29 (Int32.toNatClampNeg x1_11_11) (σ11_11.1 29 (Int32.toNatClampNeg (x1_11_11 + (26 : Int32))))) fun σ25 => wlet (x1_11_11 + (1 : Int32)) fun v26 => some (.inl (σ25, v26)) else none else none)) : St × Int32 → Option ((St × Int32) ⊕ (St))) fun st11_11 => Option.bind (lp st11_11 fuel (σ, (0 : Int32))) ((fun (σe11_11 : St) => wlet (si σe11_11 0 47 ((σe11_11.1 0 47) - (1 : Int32))) fun σ12 => wlet (un2 (fun (σ51_13 : St) (x1_51_13 : Int32) => if (26 : Int32) ≤ x1_51_13 then (some (.inr σ51_13)) else (if ib x1_51_13 26 = true then if ib (((26 : Int32) * (σ51_13.1 0 47)) + x1_51_13) 1040 = true then wlet (si σ51_13 29 (Int32.toNatClampNeg (((26 : Int32) * (σ51_13.1 0 47)) + x1_51_13)) (σ51_13.1 26 (Int32.toNatClampNeg x1_51_13))) fun σ20 => wlet (x1_51_13 + (1 : Int32)) fun v21 => some (.inl (σ20, v21)) else none else none)) : St × Int32 → Option ((St × Int32) ⊕ (St))) fun st51_13 => Option.bind (lp st51_13 fuel (σ12, (0 : Int32))) ((fun (σe51_13 : St) => wlet (si σe51_13 0 47 ((σe51_13.1 0 47) + (1 : Int32))) fun σ14 => Option.bind (f_X11_keepsRow σ14) fun σ16 => some ((1 : Int32), σ16)))))) else (wlet (un2 (fun (σ51_2 : St) (x1_51_2 : Int32) => if (26 : Int32) ≤ x1_51_2 then (some (.inr σ51_2)) else (if ib x1_51_2 26 = true then if ib (((26 : Int32) * (σ51_2.1 0 47)) + x1_51_2) 1040 = true then wlet (si σ51_2 29 (Int32.toNatClampNeg (((26 : Int32) * (σ51_2.1 0 47)) + x1_51_2)) (σ51_2.1 26 (Int32.toNatClampNeg x1_51_2))) fun σ9 => wlet (x1_51_2 + (1 : Int32)) fun v10 => some (.inl (σ9, v10)) else none else none)) : St × Int32 → Option ((St × Int32) ⊕ (St))) fun st51_2 => Option.bind (lp st51_2 fuel (σ, (0 : Int32))) ((fun (σe51_2 : St) => wlet (si σe51_2 0 47 ((σe51_2.1 0 47) + (1 : Int32))) fun σ3 => Option.bind (f_X11_keepsRow σ3) fun σ5 => some ((1 : Int32), σ5))))
theorem hd_X11_records : yX11_records.cls = RX11 ∧ yX11_records.cls ≠ "java/lang/invoke/MethodHandle" ∧ yX11_records.cls ≠ "java/lang/invoke/VarHandle" ∧ (parseMethodDescriptor yX11_records.desc).map (fun d => d.parameters.length) = some 0 := by decide +kernel
set_option maxRecDepth 100000 in
set_option maxHeartbeats 4000000 in
theorem k_X11_records {l : Launch} {ad : Nat → Nat} {D : va_G} {cy : Nat → ClassId} {z : wStr} (hI : wI WM ad) {σ : St}   {res : Int32 × St} (hf : f_X11_records σ  = some res) : wC WM ad D cy z l yX11_records (Cond.code yX11_records cX11_records 2 (Option.some Jvm.ClassFile.FieldType.boolean) :: aw) (2) (121) [.ref (ad 0)] σ (wQi WM ad D cy res.1 res.2) := by
  unfold f_X11_records at hf
  refine wr_start (own := RX11) hI (by decide +kernel) rfl (Nat.le_of_ble_eq_true rfl) rfl ?_
  intro p e s m below meth c ls X hw hr hl
  have hx := X.hx
  have hb := X.hb
  obtain ⟨H, eH⟩ : ∃ H : Heap, H = s.heap := ⟨_, rfl⟩
  obtain ⟨locs, el⟩ : ∃ locs : List Loc, locs = [] := ⟨_, rfl⟩
  rw [← eH, ← el] at hw ⊢
  clear eH el
  replace hl : lv_has ls 2 [(0, .ref (ad 0))] := hl
  refine lv_aload_n hx hb dX11_records_0 rfl (lv_at hl 0 rfl) ?_
  refine gX11_47 X hw sM0 nM0 fl_X11_230 dX11_records_1 ?_
  refine lv_bipush (v := 40) hx hb dX11_records_4 (by decide) ?_
  refine lv_icmp_ne (tgt := 49) hx hb dX11_records_6 (by decide) (fun c1 => ?_) (fun c1 => ?_)
  · have hf := (if_neg c1).symm.trans hf
    refine lv_iconst (v := 0) hx hb dX11_records_49 (by decide) ?_
    refine lv_istore_n (lv' := [(1, .int (0 : Int32)), (0, .ref (ad 0))]) hx hb dX11_records_50 rfl hl (by decide) rfl (fun ls hl => ?_)
    obtain ⟨st51_2, est51_2, hf⟩ := wlet_some hf
    obtain ⟨E51_2, hq51_2, hE51_2⟩ := bind_some hf
    have hx51_2 : ∀ (σe51_2 : St) (_ : σe51_2 = E51_2) (ls : Array Slot) (H : Heap) (locs : List Loc), lv_has ls 2 [(0, .ref (ad 0))] → wH WM ad D cy s σe51_2 H locs → W p l e { frames := 2, cells := 0, slots := 0, locals := 121 } s m [.ref (ad 0)].toArray below meth c H locs 0 0 (MQ below (wQi WM ad D cy res.1 res.2) [.ref (ad 0)].toArray s 0 0 (wA WM ad)) (F0 m 83 ls []) := by
      intro σe51_2 e0 ls H locs hl hw
      subst e0
      have hf := hE51_2
      refine lv_aload_n hx hb dX11_records_83 rfl (lv_at hl 0 rfl) ?_
      refine lv_dup hx hb dX11_records_84 rfl ?_
      refine gX11_47 X hw sM0 nM0 fl_X11_230 dX11_records_85 ?_
      refine lv_iconst (v := 1) hx hb dX11_records_88 (by decide) ?_
      refine lv_iadd hx hb dX11_records_89 ?_
      obtain ⟨σ3, eσ3, hf⟩ := wlet_some hf
      refine pX11_47 X hw sM0 nM0 fl_X11_230 dX11_records_90 (fun H locs hw => ?_)
      replace hw := hw.to eσ3
      refine lv_aload_n hx hb dX11_records_93 rfl (lv_at hl 0 rfl) ?_
      obtain ⟨σ5, hq4, hf⟩ := bind_some hf
      refine wr_cVv (σ' := σ5) (av := []) (rest := []) X hw hl.1 sM0 nM0 rfl (k_X11_keepsRow hI hq4) rfl ml_X11_146 im_X11_keepsRow se_X11_keepsRow ini_X11 co_X11_keepsRow hd_X11_keepsRow ⟨Nat.le_of_ble_eq_true rfl, Nat.le_of_ble_eq_true rfl⟩ (Nat.le_of_ble_eq_true rfl) dX11_records_94 rfl (fun H locs hw => ?_)
      refine lv_iconst (v := 1) hx hb dX11_records_97 (by decide) ?_
      have er := Option.some.inj hf
      subst er
      exact wr_iret X hw hr (Or.inr ⟨rfl, (show bz (1 : Int32) = true from rfl)⟩) dX11_records_98
    have lo51_2 : ∀ (n : Nat) (σ51_2 : St) (x1_51_2 : Int32) (_ : lp st51_2 n (σ51_2, x1_51_2) = some E51_2) (ls : Array Slot) (H : Heap) (locs : List Loc), lv_has ls 2 [(0, .ref (ad 0)), (1, .int x1_51_2)] → wH WM ad D cy s σ51_2 H locs → W p l e { frames := 2, cells := 0, slots := 0, locals := 121 } s m [.ref (ad 0)].toArray below meth c H locs 0 0 (MQ below (wQi WM ad D cy res.1 res.2) [.ref (ad 0)].toArray s 0 0 (wA WM ad)) (F0 m 51 ls []) := by
      intro n
      induction n with
      | zero =>
        intro σ51_2 x1_51_2 hf ls H locs hl hw
        exact (lp_zero hf).elim
      | succ n ih51_2 =>
        intro σ51_2 x1_51_2 hf ls H locs hl hw
        obtain ⟨q51_2, hf, hz51_2⟩ := lp_succ hf
        rw [est51_2] at hf
        replace hf := un2_some hf
        refine lv_iload_n hx hb dX11_records_51 rfl (lv_at hl 1 rfl) ?_
        refine lv_bipush (v := 26) hx hb dX11_records_52 (by decide) ?_
        refine lv_icmp_ge (tgt := 83) hx hb dX11_records_54 (by decide) (fun c6 => ?_) (fun c6 => ?_)
        · have hf := (if_pos c6).symm.trans hf
          exact hx51_2 σ51_2 (lpK_inr (lp_leaf hf hz51_2)) ls H locs (lv_sub hl [0] rfl) hw
        · have hf := (if_neg c6).symm.trans hf
          refine lv_aload_n hx hb dX11_records_57 rfl (lv_at hl 0 rfl) ?_
          refine gX11_48 (b := 29) X hw sM0 nM0 rfl fl_X11_104 dX11_records_58 ?_
          refine lv_bipush (v := 26) hx hb dX11_records_61 (by decide) ?_
          refine lv_aload_n hx hb dX11_records_63 rfl (lv_at hl 0 rfl) ?_
          refine gX11_47 X hw sM0 nM0 fl_X11_230 dX11_records_64 ?_
          refine lv_imul hx hb dX11_records_67 ?_
          refine lv_iload_n hx hb dX11_records_68 rfl (lv_at hl 1 rfl) ?_
          refine lv_iadd hx hb dX11_records_69 ?_
          refine lv_aload_n hx hb dX11_records_70 rfl (lv_at hl 0 rfl) ?_
          refine gX11_43 (b := 26) X hw sM0 nM0 rfl fl_X11_95 dX11_records_71 ?_
          refine lv_iload_n hx hb dX11_records_74 rfl (lv_at hl 1 rfl) ?_
          obtain ⟨h7, hf⟩ := if_some hf
          refine wr_iald X hw sM26 nM26 h7 dX11_records_75 ?_
          obtain ⟨h8, hf⟩ := if_some hf
          obtain ⟨σ9, eσ9, hf⟩ := wlet_some hf
          refine wr_iast X hw sM29 nM29 h8 dX11_records_76 (fun H locs hw => ?_)
          replace hw := hw.to eσ9
          obtain ⟨v10, ev10, hf⟩ := wlet_some hf
          refine lv_iinc (v := v10) (lv' := [(1, .int v10), (0, .ref (ad 0))]) hx hb dX11_records_77 hl (k := 1) rfl (by rw [ev10]; rfl) (by decide) rfl (fun ls hl => ?_)
          refine lv_goto (tgt := 51) hx hb dX11_records_80 (by decide) ?_
          exact ih51_2 σ9 v10 (lp_leaf hf hz51_2) ls H locs (lv_sub hl [1, 0] rfl) hw
    exact lo51_2 fuel σ (0 : Int32) hq51_2 ls H locs (lv_sub hl [1, 0] rfl) hw
  · have hf := (if_pos c1).symm.trans hf
    refine lv_iconst (v := 0) hx hb dX11_records_9 (by decide) ?_
    refine lv_istore_n (lv' := [(1, .int (0 : Int32)), (0, .ref (ad 0))]) hx hb dX11_records_10 rfl hl (by decide) rfl (fun ls hl => ?_)
    obtain ⟨st11_11, est11_11, hf⟩ := wlet_some hf
    obtain ⟨E11_11, hq11_11, hE11_11⟩ := bind_some hf
    have hx11_11 : ∀ (σe11_11 : St) (_ : σe11_11 = E11_11) (ls : Array Slot) (H : Heap) (locs : List Loc), lv_has ls 2 [(0, .ref (ad 0))] → wH WM ad D cy s σe11_11 H locs → W p l e { frames := 2, cells := 0, slots := 0, locals := 121 } s m [.ref (ad 0)].toArray below meth c H locs 0 0 (MQ below (wQi WM ad D cy res.1 res.2) [.ref (ad 0)].toArray s 0 0 (wA WM ad)) (F0 m 39 ls []) := by
      intro σe11_11 e0 ls H locs hl hw
      subst e0
      have hf := hE11_11
      refine lv_aload_n hx hb dX11_records_39 rfl (lv_at hl 0 rfl) ?_
      refine lv_dup hx hb dX11_records_40 rfl ?_
      refine gX11_47 X hw sM0 nM0 fl_X11_230 dX11_records_41 ?_
      refine lv_iconst (v := 1) hx hb dX11_records_44 (by decide) ?_
      refine lv_isub hx hb dX11_records_45 ?_
      obtain ⟨σ12, eσ12, hf⟩ := wlet_some hf
      refine pX11_47 X hw sM0 nM0 fl_X11_230 dX11_records_46 (fun H locs hw => ?_)
      replace hw := hw.to eσ12
      refine lv_iconst (v := 0) hx hb dX11_records_49 (by decide) ?_
      refine lv_istore_n (lv' := [(1, .int (0 : Int32)), (0, .ref (ad 0))]) hx hb dX11_records_50 rfl hl (by decide) rfl (fun ls hl => ?_)
      obtain ⟨st51_13, est51_13, hf⟩ := wlet_some hf
      obtain ⟨E51_13, hq51_13, hE51_13⟩ := bind_some hf
      have hx51_13 : ∀ (σe51_13 : St) (_ : σe51_13 = E51_13) (ls : Array Slot) (H : Heap) (locs : List Loc), lv_has ls 2 [(0, .ref (ad 0))] → wH WM ad D cy s σe51_13 H locs → W p l e { frames := 2, cells := 0, slots := 0, locals := 121 } s m [.ref (ad 0)].toArray below meth c H locs 0 0 (MQ below (wQi WM ad D cy res.1 res.2) [.ref (ad 0)].toArray s 0 0 (wA WM ad)) (F0 m 83 ls []) := by
        intro σe51_13 e0 ls H locs hl hw
        subst e0
        have hf := hE51_13
        refine lv_aload_n hx hb dX11_records_83 rfl (lv_at hl 0 rfl) ?_
        refine lv_dup hx hb dX11_records_84 rfl ?_
        refine gX11_47 X hw sM0 nM0 fl_X11_230 dX11_records_85 ?_
        refine lv_iconst (v := 1) hx hb dX11_records_88 (by decide) ?_
        refine lv_iadd hx hb dX11_records_89 ?_
        obtain ⟨σ14, eσ14, hf⟩ := wlet_some hf
        refine pX11_47 X hw sM0 nM0 fl_X11_230 dX11_records_90 (fun H locs hw => ?_)
        replace hw := hw.to eσ14
        refine lv_aload_n hx hb dX11_records_93 rfl (lv_at hl 0 rfl) ?_
        obtain ⟨σ16, hq15, hf⟩ := bind_some hf
        refine wr_cVv (σ' := σ16) (av := []) (rest := []) X hw hl.1 sM0 nM0 rfl (k_X11_keepsRow hI hq15) rfl ml_X11_146 im_X11_keepsRow se_X11_keepsRow ini_X11 co_X11_keepsRow hd_X11_keepsRow ⟨Nat.le_of_ble_eq_true rfl, Nat.le_of_ble_eq_true rfl⟩ (Nat.le_of_ble_eq_true rfl) dX11_records_94 rfl (fun H locs hw => ?_)
        refine lv_iconst (v := 1) hx hb dX11_records_97 (by decide) ?_
        have er := Option.some.inj hf
        subst er
        exact wr_iret X hw hr (Or.inr ⟨rfl, (show bz (1 : Int32) = true from rfl)⟩) dX11_records_98
      have lo51_13 : ∀ (n : Nat) (σ51_13 : St) (x1_51_13 : Int32) (_ : lp st51_13 n (σ51_13, x1_51_13) = some E51_13) (ls : Array Slot) (H : Heap) (locs : List Loc), lv_has ls 2 [(0, .ref (ad 0)), (1, .int x1_51_13)] → wH WM ad D cy s σ51_13 H locs → W p l e { frames := 2, cells := 0, slots := 0, locals := 121 } s m [.ref (ad 0)].toArray below meth c H locs 0 0 (MQ below (wQi WM ad D cy res.1 res.2) [.ref (ad 0)].toArray s 0 0 (wA WM ad)) (F0 m 51 ls []) := by
        intro n
        induction n with
        | zero =>
          intro σ51_13 x1_51_13 hf ls H locs hl hw
          exact (lp_zero hf).elim
        | succ n ih51_13 =>
          intro σ51_13 x1_51_13 hf ls H locs hl hw
          obtain ⟨q51_13, hf, hz51_13⟩ := lp_succ hf
          rw [est51_13] at hf
          replace hf := un2_some hf
          refine lv_iload_n hx hb dX11_records_51 rfl (lv_at hl 1 rfl) ?_
          refine lv_bipush (v := 26) hx hb dX11_records_52 (by decide) ?_
          refine lv_icmp_ge (tgt := 83) hx hb dX11_records_54 (by decide) (fun c17 => ?_) (fun c17 => ?_)
          · have hf := (if_pos c17).symm.trans hf
            exact hx51_13 σ51_13 (lpK_inr (lp_leaf hf hz51_13)) ls H locs (lv_sub hl [0] rfl) hw
          · have hf := (if_neg c17).symm.trans hf
            refine lv_aload_n hx hb dX11_records_57 rfl (lv_at hl 0 rfl) ?_
            refine gX11_48 (b := 29) X hw sM0 nM0 rfl fl_X11_104 dX11_records_58 ?_
            refine lv_bipush (v := 26) hx hb dX11_records_61 (by decide) ?_
            refine lv_aload_n hx hb dX11_records_63 rfl (lv_at hl 0 rfl) ?_
            refine gX11_47 X hw sM0 nM0 fl_X11_230 dX11_records_64 ?_
            refine lv_imul hx hb dX11_records_67 ?_
            refine lv_iload_n hx hb dX11_records_68 rfl (lv_at hl 1 rfl) ?_
            refine lv_iadd hx hb dX11_records_69 ?_
            refine lv_aload_n hx hb dX11_records_70 rfl (lv_at hl 0 rfl) ?_
            refine gX11_43 (b := 26) X hw sM0 nM0 rfl fl_X11_95 dX11_records_71 ?_
            refine lv_iload_n hx hb dX11_records_74 rfl (lv_at hl 1 rfl) ?_
            obtain ⟨h18, hf⟩ := if_some hf
            refine wr_iald X hw sM26 nM26 h18 dX11_records_75 ?_
            obtain ⟨h19, hf⟩ := if_some hf
            obtain ⟨σ20, eσ20, hf⟩ := wlet_some hf
            refine wr_iast X hw sM29 nM29 h19 dX11_records_76 (fun H locs hw => ?_)
            replace hw := hw.to eσ20
            obtain ⟨v21, ev21, hf⟩ := wlet_some hf
            refine lv_iinc (v := v21) (lv' := [(1, .int v21), (0, .ref (ad 0))]) hx hb dX11_records_77 hl (k := 1) rfl (by rw [ev21]; rfl) (by decide) rfl (fun ls hl => ?_)
            refine lv_goto (tgt := 51) hx hb dX11_records_80 (by decide) ?_
            exact ih51_13 σ20 v21 (lp_leaf hf hz51_13) ls H locs (lv_sub hl [1, 0] rfl) hw
      exact lo51_13 fuel σ12 (0 : Int32) hq51_13 ls H locs (lv_sub hl [1, 0] rfl) hw
    have lo11_11 : ∀ (n : Nat) (σ11_11 : St) (x1_11_11 : Int32) (_ : lp st11_11 n (σ11_11, x1_11_11) = some E11_11) (ls : Array Slot) (H : Heap) (locs : List Loc), lv_has ls 2 [(0, .ref (ad 0)), (1, .int x1_11_11)] → wH WM ad D cy s σ11_11 H locs → W p l e { frames := 2, cells := 0, slots := 0, locals := 121 } s m [.ref (ad 0)].toArray below meth c H locs 0 0 (MQ below (wQi WM ad D cy res.1 res.2) [.ref (ad 0)].toArray s 0 0 (wA WM ad)) (F0 m 11 ls []) := by
      intro n
      induction n with
      | zero =>
        intro σ11_11 x1_11_11 hf ls H locs hl hw
        exact (lp_zero hf).elim
      | succ n ih11_11 =>
        intro σ11_11 x1_11_11 hf ls H locs hl hw
        obtain ⟨q11_11, hf, hz11_11⟩ := lp_succ hf
        rw [est11_11] at hf
        replace hf := un2_some hf
        refine lv_iload_n hx hb dX11_records_11 rfl (lv_at hl 1 rfl) ?_
        refine lv_sipush (v := 1014) hx hb dX11_records_12 (by decide) ?_
        refine lv_icmp_ge (tgt := 39) hx hb dX11_records_15 (by decide) (fun c22 => ?_) (fun c22 => ?_)
        · have hf := (if_pos c22).symm.trans hf
          exact hx11_11 σ11_11 (lpK_inr (lp_leaf hf hz11_11)) ls H locs (lv_sub hl [0] rfl) hw
        · have hf := (if_neg c22).symm.trans hf
          refine lv_aload_n hx hb dX11_records_18 rfl (lv_at hl 0 rfl) ?_
          refine gX11_48 (b := 29) X hw sM0 nM0 rfl fl_X11_104 dX11_records_19 ?_
          refine lv_iload_n hx hb dX11_records_22 rfl (lv_at hl 1 rfl) ?_
          refine lv_aload_n hx hb dX11_records_23 rfl (lv_at hl 0 rfl) ?_
          refine gX11_48 (b := 29) X hw sM0 nM0 rfl fl_X11_104 dX11_records_24 ?_
          refine lv_iload_n hx hb dX11_records_27 rfl (lv_at hl 1 rfl) ?_
          refine lv_bipush (v := 26) hx hb dX11_records_28 (by decide) ?_
          refine lv_iadd hx hb dX11_records_30 ?_
          obtain ⟨h23, hf⟩ := if_some hf
          refine wr_iald X hw sM29 nM29 h23 dX11_records_31 ?_
          obtain ⟨h24, hf⟩ := if_some hf
          obtain ⟨σ25, eσ25, hf⟩ := wlet_some hf
          refine wr_iast X hw sM29 nM29 h24 dX11_records_32 (fun H locs hw => ?_)
          replace hw := hw.to eσ25
          obtain ⟨v26, ev26, hf⟩ := wlet_some hf
          refine lv_iinc (v := v26) (lv' := [(1, .int v26), (0, .ref (ad 0))]) hx hb dX11_records_33 hl (k := 1) rfl (by rw [ev26]; rfl) (by decide) rfl (fun ls hl => ?_)
          refine lv_goto (tgt := 11) hx hb dX11_records_36 (by decide) ?_
          exact ih11_11 σ25 v26 (lp_leaf hf hz11_11) ls H locs (lv_sub hl [1, 0] rfl) hw
    exact lo11_11 fuel σ (0 : Int32) hq11_11 ls H locs (lv_sub hl [1, 0] rfl) hw

def f_X11_change (σ : St) (x1 : Int32) (x2 : Int32) : Option (Int32 × St) := Option.bind (f_X11_copies σ) fun σ2 => Option.bind (f_X11_areTwo σ2 x1 x2) fun v4 => if v4 = 0 then (some ((0 : Int32), σ2)) else (Option.bind (f_X11_placeOf σ2 x1) fun v7 => Option.bind (f_X11_placeOf σ2 x2) fun v9 => Option.bind (f_X11_changes σ2 v7 v9) fun σ11 => bnd2 (f_X11_records σ11) fun v13 σ14 => if bz v13 = true then some (v13, σ14) else none)
theorem hd_X11_change : yX11_change.cls = RX11 ∧ yX11_change.cls ≠ "java/lang/invoke/MethodHandle" ∧ yX11_change.cls ≠ "java/lang/invoke/VarHandle" ∧ (parseMethodDescriptor yX11_change.desc).map (fun d => d.parameters.length) = some 2 := by decide +kernel
set_option maxRecDepth 100000 in
set_option maxHeartbeats 4000000 in
theorem k_X11_change {l : Launch} {ad : Nat → Nat} {D : va_G} {cy : Nat → ClassId} {z : wStr} (hI : wI WM ad) {σ : St} {x1 : Int32} {x2 : Int32}  {res : Int32 × St} (hf : f_X11_change σ x1 x2 = some res) : wC WM ad D cy z l yX11_change (Cond.code yX11_change cX11_change 3 (Option.some Jvm.ClassFile.FieldType.boolean) :: aw) (4) (165) [.ref (ad 0), .int x1, .int x2] σ (wQi WM ad D cy res.1 res.2) := by
  unfold f_X11_change at hf
  refine wr_start (own := RX11) hI (by decide +kernel) rfl (Nat.le_of_ble_eq_true rfl) rfl ?_
  intro p e s m below meth c ls X hw hr hl
  have hx := X.hx
  have hb := X.hb
  obtain ⟨H, eH⟩ : ∃ H : Heap, H = s.heap := ⟨_, rfl⟩
  obtain ⟨locs, el⟩ : ∃ locs : List Loc, locs = [] := ⟨_, rfl⟩
  rw [← eH, ← el] at hw ⊢
  clear eH el
  replace hl : lv_has ls 3 [(0, .ref (ad 0)), (1, .int x1), (2, .int x2)] := hl
  refine lv_aload_n hx hb dX11_change_0 rfl (lv_at hl 0 rfl) ?_
  obtain ⟨σ2, hq1, hf⟩ := bind_some hf
  refine wr_cVv (σ' := σ2) (av := []) (rest := []) X hw hl.1 sM0 nM0 rfl (k_X11_copies hI hq1) rfl ml_X11_345 im_X11_copies se_X11_copies ini_X11 co_X11_copies hd_X11_copies ⟨Nat.le_of_ble_eq_true rfl, Nat.le_of_ble_eq_true rfl⟩ (Nat.le_of_ble_eq_true rfl) dX11_change_1 rfl (fun H locs hw => ?_)
  refine lv_aload_n hx hb dX11_change_4 rfl (lv_at hl 0 rfl) ?_
  refine lv_iload_n hx hb dX11_change_5 rfl (lv_at hl 1 rfl) ?_
  refine lv_iload_n hx hb dX11_change_6 rfl (lv_at hl 2 rfl) ?_
  obtain ⟨v4, hq3, hf⟩ := bind_some hf
  refine wr_cVi (r := v4) (σ' := σ2) (av := [.int x1, .int x2]) (rest := []) X hw hl.1 sM0 nM0 rfl (k_X11_areTwo hI hq3) rfl ml_X11_354 im_X11_areTwo se_X11_areTwo ini_X11 co_X11_areTwo hd_X11_areTwo ⟨Nat.le_of_ble_eq_true rfl, Nat.le_of_ble_eq_true rfl⟩ (Nat.le_of_ble_eq_true rfl) dX11_change_7 rfl (fun H locs hw => ?_)
  refine lv_if_ne (tgt := 15) hx hb dX11_change_10 (by decide) (fun c5 => ?_) (fun c5 => ?_)
  · have hf := (if_neg c5).symm.trans hf
    refine lv_aload_n hx hb dX11_change_15 rfl (lv_at hl 0 rfl) ?_
    refine lv_aload_n hx hb dX11_change_16 rfl (lv_at hl 0 rfl) ?_
    refine lv_iload_n hx hb dX11_change_17 rfl (lv_at hl 1 rfl) ?_
    obtain ⟨v7, hq6, hf⟩ := bind_some hf
    refine wr_cVi (r := v7) (σ' := σ2) (av := [.int x1]) (rest := [.ref (ad 0)]) X hw hl.1 sM0 nM0 rfl (k_X11_placeOf hI hq6) rfl ml_X11_293 im_X11_placeOf se_X11_placeOf ini_X11 co_X11_placeOf hd_X11_placeOf ⟨Nat.le_of_ble_eq_true rfl, Nat.le_of_ble_eq_true rfl⟩ (Nat.le_of_ble_eq_true rfl) dX11_change_18 rfl (fun H locs hw => ?_)
    refine lv_aload_n hx hb dX11_change_21 rfl (lv_at hl 0 rfl) ?_
    refine lv_iload_n hx hb dX11_change_22 rfl (lv_at hl 2 rfl) ?_
    obtain ⟨v9, hq8, hf⟩ := bind_some hf
    refine wr_cVi (r := v9) (σ' := σ2) (av := [.int x2]) (rest := [.int v7, .ref (ad 0)]) X hw hl.1 sM0 nM0 rfl (k_X11_placeOf hI hq8) rfl ml_X11_293 im_X11_placeOf se_X11_placeOf ini_X11 co_X11_placeOf hd_X11_placeOf ⟨Nat.le_of_ble_eq_true rfl, Nat.le_of_ble_eq_true rfl⟩ (Nat.le_of_ble_eq_true rfl) dX11_change_23 rfl (fun H locs hw => ?_)
    obtain ⟨σ11, hq10, hf⟩ := bind_some hf
    refine wr_cVv (σ' := σ11) (av := [.int v7, .int v9]) (rest := []) X hw hl.1 sM0 nM0 rfl (k_X11_changes hI hq10) rfl ml_X11_358 im_X11_changes se_X11_changes ini_X11 co_X11_changes hd_X11_changes ⟨Nat.le_of_ble_eq_true rfl, Nat.le_of_ble_eq_true rfl⟩ (Nat.le_of_ble_eq_true rfl) dX11_change_26 rfl (fun H locs hw => ?_)
    refine lv_aload_n hx hb dX11_change_29 rfl (lv_at hl 0 rfl) ?_
    obtain ⟨v13, σ14, hq12, hf⟩ := bnd2_some hf
    refine wr_cVi (r := v13) (σ' := σ14) (av := []) (rest := []) X hw hl.1 sM0 nM0 rfl (k_X11_records hI hq12) rfl ml_X11_361 im_X11_records se_X11_records ini_X11 co_X11_records hd_X11_records ⟨Nat.le_of_ble_eq_true rfl, Nat.le_of_ble_eq_true rfl⟩ (Nat.le_of_ble_eq_true rfl) dX11_change_30 rfl (fun H locs hw => ?_)
    obtain ⟨hz, hf⟩ := if_some hf
    have er := Option.some.inj hf
    subst er
    exact wr_iret X hw hr (Or.inr ⟨rfl, hz⟩) dX11_change_33
  · have hf := (if_pos c5).symm.trans hf
    refine lv_iconst (v := 0) hx hb dX11_change_13 (by decide) ?_
    have er := Option.some.inj hf
    subst er
    exact wr_iret X hw hr (Or.inr ⟨rfl, (show bz (0 : Int32) = true from rfl)⟩) dX11_change_14

def f_X11_emit (σ : St) (x1 : Int32) (x2 : Int32) : Option (St) := if ib (σ.1 0 35) 840 = true then wlet (si σ 21 (Int32.toNatClampNeg (σ.1 0 35)) x1) fun σ2 => if ib (σ2.1 0 35) 840 = true then wlet (si σ2 22 (Int32.toNatClampNeg (σ2.1 0 35)) x2) fun σ4 => wlet (si σ4 0 35 ((σ4.1 0 35) + (1 : Int32))) fun σ5 => some σ5 else none else none
theorem hd_X11_emit : yX11_emit.cls = RX11 ∧ yX11_emit.cls ≠ "java/lang/invoke/MethodHandle" ∧ yX11_emit.cls ≠ "java/lang/invoke/VarHandle" ∧ (parseMethodDescriptor yX11_emit.desc).map (fun d => d.parameters.length) = some 2 := by decide +kernel
set_option maxRecDepth 100000 in
set_option maxHeartbeats 4000000 in
theorem k_X11_emit {l : Launch} {ad : Nat → Nat} {D : va_G} {cy : Nat → ClassId} {z : wStr} (hI : wI WM ad) {σ : St} {x1 : Int32} {x2 : Int32}  {res : St} (hf : f_X11_emit σ x1 x2 = some res) : wC WM ad D cy z l yX11_emit (Cond.code yX11_emit cX11_emit 3 (none) :: aw) (1) (100) [.ref (ad 0), .int x1, .int x2] σ (wQv WM ad D cy res) := by
  unfold f_X11_emit at hf
  refine wr_start (own := RX11) hI (by decide +kernel) rfl (Nat.le_of_ble_eq_true rfl) rfl ?_
  intro p e s m below meth c ls X hw hr hl
  have hx := X.hx
  have hb := X.hb
  obtain ⟨H, eH⟩ : ∃ H : Heap, H = s.heap := ⟨_, rfl⟩
  obtain ⟨locs, el⟩ : ∃ locs : List Loc, locs = [] := ⟨_, rfl⟩
  rw [← eH, ← el] at hw ⊢
  clear eH el
  replace hl : lv_has ls 3 [(0, .ref (ad 0)), (1, .int x1), (2, .int x2)] := hl
  refine lv_aload_n hx hb dX11_emit_0 rfl (lv_at hl 0 rfl) ?_
  refine gX11_36 (b := 21) X hw sM0 nM0 rfl fl_X11_80 dX11_emit_1 ?_
  refine lv_aload_n hx hb dX11_emit_4 rfl (lv_at hl 0 rfl) ?_
  refine gX11_35 X hw sM0 nM0 fl_X11_224 dX11_emit_5 ?_
  refine lv_iload_n hx hb dX11_emit_8 rfl (lv_at hl 1 rfl) ?_
  obtain ⟨h1, hf⟩ := if_some hf
  obtain ⟨σ2, eσ2, hf⟩ := wlet_some hf
  refine wr_iast X hw sM21 nM21 h1 dX11_emit_9 (fun H locs hw => ?_)
  replace hw := hw.to eσ2
  refine lv_aload_n hx hb dX11_emit_10 rfl (lv_at hl 0 rfl) ?_
  refine gX11_37 (b := 22) X hw sM0 nM0 rfl fl_X11_83 dX11_emit_11 ?_
  refine lv_aload_n hx hb dX11_emit_14 rfl (lv_at hl 0 rfl) ?_
  refine gX11_35 X hw sM0 nM0 fl_X11_224 dX11_emit_15 ?_
  refine lv_iload_n hx hb dX11_emit_18 rfl (lv_at hl 2 rfl) ?_
  obtain ⟨h3, hf⟩ := if_some hf
  obtain ⟨σ4, eσ4, hf⟩ := wlet_some hf
  refine wr_iast X hw sM22 nM22 h3 dX11_emit_19 (fun H locs hw => ?_)
  replace hw := hw.to eσ4
  refine lv_aload_n hx hb dX11_emit_20 rfl (lv_at hl 0 rfl) ?_
  refine lv_dup hx hb dX11_emit_21 rfl ?_
  refine gX11_35 X hw sM0 nM0 fl_X11_224 dX11_emit_22 ?_
  refine lv_iconst (v := 1) hx hb dX11_emit_25 (by decide) ?_
  refine lv_iadd hx hb dX11_emit_26 ?_
  obtain ⟨σ5, eσ5, hf⟩ := wlet_some hf
  refine pX11_35 X hw sM0 nM0 fl_X11_224 dX11_emit_27 (fun H locs hw => ?_)
  replace hw := hw.to eσ5
  have er := Option.some.inj hf
  subst er
  exact wr_vret X hw hr dX11_emit_30

def f_X11_comesOut (σ : St) (x1 : Int32) : Option (St) := wlet (fun (σ0_1 : St) => if (σ0_1.1 0 39) ≤ 0 then (some (.inr (.inl σ0_1))) else (if ib ((σ0_1.1 0 39) - (1 : Int32)) 64 = true then wlet (σ0_1.1 23 (Int32.toNatClampNeg ((σ0_1.1 0 39) - (1 : Int32)))) fun v4 => if v4 = (6 : Int32) then (some (.inr (.inr σ0_1))) else (wlet (fun (_ : Unit) => (wlet (si σ0_1 0 39 ((σ0_1.1 0 39) - (1 : Int32))) fun σ7 => wlet (fun (s1_84_8 : Int32) => (Option.bind (f_X11_emit σ7 s1_84_8 (0 : Int32)) fun σ10 => some (.inl σ10) : Option ((St) ⊕ ((St) ⊕ (St))))) fun k84_8 => if v4 = (8 : Int32) then (k84_8 (2 : Int32)) else (if v4 = (9 : Int32) then (k84_8 (3 : Int32)) else (if v4 = (10 : Int32) then (k84_8 (4 : Int32)) else (k84_8 (5 : Int32)))) : Option ((St) ⊕ ((St) ⊕ (St))))) fun k42_6 => if x1 = 0 then (k42_6 ()) else (if v4 = (8 : Int32) then (some (.inr (.inr σ0_1))) else (if v4 = (9 : Int32) then (some (.inr (.inr σ0_1))) else (k42_6 ())))) else none) : St → Option ((St) ⊕ ((St) ⊕ (St)))) fun st0_1 => Option.bind (lp st0_1 fuel σ) (sumk (fun (σe0_1 : St) => some σe0_1) (fun m => some m))
theorem hd_X11_comesOut : yX11_comesOut.cls = RX11 ∧ yX11_comesOut.cls ≠ "java/lang/invoke/MethodHandle" ∧ yX11_comesOut.cls ≠ "java/lang/invoke/VarHandle" ∧ (parseMethodDescriptor yX11_comesOut.desc).map (fun d => d.parameters.length) = some 1 := by decide +kernel
set_option maxRecDepth 100000 in
set_option maxHeartbeats 4000000 in
theorem k_X11_comesOut {l : Launch} {ad : Nat → Nat} {D : va_G} {cy : Nat → ClassId} {z : wStr} (hI : wI WM ad) {σ : St} {x1 : Int32}  {res : St} (hf : f_X11_comesOut σ x1 = some res) : wC WM ad D cy z l yX11_comesOut (Cond.code yX11_comesOut cX11_comesOut 3 (none) :: aw) (2) (122) [.ref (ad 0), .int x1] σ (wQv WM ad D cy res) := by
  unfold f_X11_comesOut at hf
  refine wr_start (own := RX11) hI (by decide +kernel) rfl (Nat.le_of_ble_eq_true rfl) rfl ?_
  intro p e s m below meth c ls X hw hr hl
  have hx := X.hx
  have hb := X.hb
  obtain ⟨H, eH⟩ : ∃ H : Heap, H = s.heap := ⟨_, rfl⟩
  obtain ⟨locs, el⟩ : ∃ locs : List Loc, locs = [] := ⟨_, rfl⟩
  rw [← eH, ← el] at hw ⊢
  clear eH el
  replace hl : lv_has ls 3 [(0, .ref (ad 0)), (1, .int x1)] := hl
  obtain ⟨st0_1, est0_1, hf⟩ := wlet_some hf
  obtain ⟨E0_1, hq0_1, hE0_1⟩ := bind_some hf
  have hx0_1 : ∀ (σe0_1 : St) (_ : Sum.inl σe0_1 = E0_1) (ls : Array Slot) (H : Heap) (locs : List Loc), lv_has ls 3 [] → wH WM ad D cy s σe0_1 H locs → W p l e { frames := 2, cells := 0, slots := 0, locals := 122 } s m [.ref (ad 0), .int x1].toArray below meth c H locs 0 0 (MQ below (wQv WM ad D cy res) [.ref (ad 0), .int x1].toArray s 0 0 (wA WM ad)) (F0 m 91 ls []) := by
    intro σe0_1 e0 ls H locs hl hw
    have hf := sumk_l hE0_1 e0
    have er := Option.some.inj hf
    subst er
    exact wr_vret X hw hr dX11_comesOut_91
  have lo0_1 : ∀ (n : Nat) (σ0_1 : St) (_ : lp st0_1 n σ0_1 = some E0_1) (ls : Array Slot) (H : Heap) (locs : List Loc), lv_has ls 3 [(0, .ref (ad 0)), (1, .int x1)] → wH WM ad D cy s σ0_1 H locs → W p l e { frames := 2, cells := 0, slots := 0, locals := 122 } s m [.ref (ad 0), .int x1].toArray below meth c H locs 0 0 (MQ below (wQv WM ad D cy res) [.ref (ad 0), .int x1].toArray s 0 0 (wA WM ad)) (F0 m 0 ls []) := by
    intro n
    induction n with
    | zero =>
      intro σ0_1 hf ls H locs hl hw
      exact (lp_zero hf).elim
    | succ n ih0_1 =>
      intro σ0_1 hf ls H locs hl hw
      obtain ⟨q0_1, hf, hz0_1⟩ := lp_succ hf
      rw [est0_1] at hf
      refine lv_aload_n hx hb dX11_comesOut_0 rfl (lv_at hl 0 rfl) ?_
      refine gX11_39 X hw sM0 nM0 fl_X11_265 dX11_comesOut_1 ?_
      refine lv_if_le (tgt := 91) hx hb dX11_comesOut_4 (by decide) (fun c2 => ?_) (fun c2 => ?_)
      · have hf := (if_pos c2).symm.trans hf
        exact hx0_1 σ0_1 (lpK_inr (lp_leaf hf hz0_1)) ls H locs (lv_sub hl [] rfl) hw
      · have hf := (if_neg c2).symm.trans hf
        refine lv_aload_n hx hb dX11_comesOut_7 rfl (lv_at hl 0 rfl) ?_
        refine gX11_38 (b := 23) X hw sM0 nM0 rfl fl_X11_86 dX11_comesOut_8 ?_
        refine lv_aload_n hx hb dX11_comesOut_11 rfl (lv_at hl 0 rfl) ?_
        refine gX11_39 X hw sM0 nM0 fl_X11_265 dX11_comesOut_12 ?_
        refine lv_iconst (v := 1) hx hb dX11_comesOut_15 (by decide) ?_
        refine lv_isub hx hb dX11_comesOut_16 ?_
        obtain ⟨h3, hf⟩ := if_some hf
        refine wr_iald X hw sM23 nM23 h3 dX11_comesOut_17 ?_
        obtain ⟨v4, ev4, hf⟩ := wlet_some hf
        refine wr_top ev4 ?_
        refine lv_istore_n (lv' := [(2, .int v4), (0, .ref (ad 0)), (1, .int x1)]) hx hb dX11_comesOut_18 rfl hl (by decide) rfl (fun ls hl => ?_)
        refine lv_iload_n hx hb dX11_comesOut_19 rfl (lv_at hl 0 rfl) ?_
        refine lv_bipush (v := 6) hx hb dX11_comesOut_20 (by decide) ?_
        refine lv_icmp_eq (tgt := 41) hx hb dX11_comesOut_22 (by decide) (fun c5 => ?_) (fun c5 => ?_)
        · have hf := (if_pos c5).symm.trans hf
          have e0_1 := lpK_inr (lp_leaf hf hz0_1)
          have hf := sumk_r hE0_1 e0_1
          have er := Option.some.inj hf
          subst er
          exact wr_vret X hw hr dX11_comesOut_41
        · have hf := (if_neg c5).symm.trans hf
          refine lv_iload_n hx hb dX11_comesOut_25 rfl (lv_at hl 2 rfl) ?_
          obtain ⟨k42_6, ek42_6, hf0⟩ := wlet_some hf
          have j42_6 : ∀ (_ : k42_6 () = some q0_1) (ls : Array Slot) (H : Heap) (locs : List Loc), lv_has ls 3 [(0, .ref (ad 0)), (1, .int x1), (2, .int v4)] → wH WM ad D cy s σ0_1 H locs → W p l e { frames := 2, cells := 0, slots := 0, locals := 122 } s m [.ref (ad 0), .int x1].toArray below meth c H locs 0 0 (MQ below (wQv WM ad D cy res) [.ref (ad 0), .int x1].toArray s 0 0 (wA WM ad)) (F0 m 42 ls []) := by
            intro  hf ls H locs hl hw
            rw [ek42_6] at hf
            refine lv_aload_n hx hb dX11_comesOut_42 rfl (lv_at hl 0 rfl) ?_
            refine lv_dup hx hb dX11_comesOut_43 rfl ?_
            refine gX11_39 X hw sM0 nM0 fl_X11_265 dX11_comesOut_44 ?_
            refine lv_iconst (v := 1) hx hb dX11_comesOut_47 (by decide) ?_
            refine lv_isub hx hb dX11_comesOut_48 ?_
            obtain ⟨σ7, eσ7, hf⟩ := wlet_some hf
            refine pX11_39 X hw sM0 nM0 fl_X11_265 dX11_comesOut_49 (fun H locs hw => ?_)
            replace hw := hw.to eσ7
            refine lv_aload_n hx hb dX11_comesOut_52 rfl (lv_at hl 0 rfl) ?_
            refine lv_iload_n hx hb dX11_comesOut_53 rfl (lv_at hl 2 rfl) ?_
            refine lv_bipush (v := 8) hx hb dX11_comesOut_54 (by decide) ?_
            obtain ⟨k84_8, ek84_8, hf0⟩ := wlet_some hf
            have j84_8 : ∀ (s1_84_8 : Int32) (_ : k84_8 s1_84_8 = some q0_1) (ls : Array Slot) (H : Heap) (locs : List Loc), lv_has ls 3 [(0, .ref (ad 0)), (1, .int x1)] → wH WM ad D cy s σ7 H locs → W p l e { frames := 2, cells := 0, slots := 0, locals := 122 } s m [.ref (ad 0), .int x1].toArray below meth c H locs 0 0 (MQ below (wQv WM ad D cy res) [.ref (ad 0), .int x1].toArray s 0 0 (wA WM ad)) (F0 m 84 ls [.int s1_84_8, .ref (ad 0)]) := by
              intro s1_84_8 hf ls H locs hl hw
              rw [ek84_8] at hf
              refine lv_iconst (v := 0) hx hb dX11_comesOut_84 (by decide) ?_
              obtain ⟨σ10, hq9, hf⟩ := bind_some hf
              refine wr_cVv (σ' := σ10) (av := [.int s1_84_8, .int (0 : Int32)]) (rest := []) X hw hl.1 sM0 nM0 rfl (k_X11_emit hI hq9) rfl ml_X11_268 im_X11_emit se_X11_emit ini_X11 co_X11_emit hd_X11_emit ⟨Nat.le_of_ble_eq_true rfl, Nat.le_of_ble_eq_true rfl⟩ (Nat.le_of_ble_eq_true rfl) dX11_comesOut_85 rfl (fun H locs hw => ?_)
              refine lv_goto (tgt := 0) hx hb dX11_comesOut_88 (by decide) ?_
              exact ih0_1 σ10 (lp_leaf hf hz0_1) ls H locs (lv_sub hl [0, 1] rfl) hw
            replace hf := hf0
            refine lv_icmp_ne (tgt := 63) hx hb dX11_comesOut_56 (by decide) (fun c11 => ?_) (fun c11 => ?_)
            · have hf := (if_neg c11).symm.trans hf
              refine lv_iload_n hx hb dX11_comesOut_63 rfl (lv_at hl 2 rfl) ?_
              refine lv_bipush (v := 9) hx hb dX11_comesOut_64 (by decide) ?_
              refine lv_icmp_ne (tgt := 73) hx hb dX11_comesOut_66 (by decide) (fun c12 => ?_) (fun c12 => ?_)
              · have hf := (if_neg c12).symm.trans hf
                refine lv_iload_n hx hb dX11_comesOut_73 rfl (lv_at hl 2 rfl) ?_
                refine lv_bipush (v := 10) hx hb dX11_comesOut_74 (by decide) ?_
                refine lv_icmp_ne (tgt := 83) hx hb dX11_comesOut_76 (by decide) (fun c13 => ?_) (fun c13 => ?_)
                · have hf := (if_neg c13).symm.trans hf
                  refine lv_iconst (v := 5) hx hb dX11_comesOut_83 (by decide) ?_
                  exact j84_8 (5 : Int32) hf ls H locs (lv_sub hl [0, 1] rfl) hw
                · have hf := (if_pos c13).symm.trans hf
                  refine lv_iconst (v := 4) hx hb dX11_comesOut_79 (by decide) ?_
                  refine lv_goto (tgt := 84) hx hb dX11_comesOut_80 (by decide) ?_
                  exact j84_8 (4 : Int32) hf ls H locs (lv_sub hl [0, 1] rfl) hw
              · have hf := (if_pos c12).symm.trans hf
                refine lv_iconst (v := 3) hx hb dX11_comesOut_69 (by decide) ?_
                refine lv_goto (tgt := 84) hx hb dX11_comesOut_70 (by decide) ?_
                exact j84_8 (3 : Int32) hf ls H locs (lv_sub hl [0, 1] rfl) hw
            · have hf := (if_pos c11).symm.trans hf
              refine lv_iconst (v := 2) hx hb dX11_comesOut_59 (by decide) ?_
              refine lv_goto (tgt := 84) hx hb dX11_comesOut_60 (by decide) ?_
              exact j84_8 (2 : Int32) hf ls H locs (lv_sub hl [0, 1] rfl) hw
          replace hf := hf0
          refine lv_if_eq (tgt := 42) hx hb dX11_comesOut_26 (by decide) (fun c14 => ?_) (fun c14 => ?_)
          · have hf := (if_pos c14).symm.trans hf
            exact j42_6 hf ls H locs (lv_sub hl [1, 2, 0] rfl) hw
          · have hf := (if_neg c14).symm.trans hf
            refine lv_iload_n hx hb dX11_comesOut_29 rfl (lv_at hl 0 rfl) ?_
            refine lv_bipush (v := 8) hx hb dX11_comesOut_30 (by decide) ?_
            refine lv_icmp_eq (tgt := 41) hx hb dX11_comesOut_32 (by decide) (fun c15 => ?_) (fun c15 => ?_)
            · have hf := (if_pos c15).symm.trans hf
              have e0_1 := lpK_inr (lp_leaf hf hz0_1)
              have hf := sumk_r hE0_1 e0_1
              have er := Option.some.inj hf
              subst er
              exact wr_vret X hw hr dX11_comesOut_41
            · have hf := (if_neg c15).symm.trans hf
              refine lv_iload_n hx hb dX11_comesOut_35 rfl (lv_at hl 0 rfl) ?_
              refine lv_bipush (v := 9) hx hb dX11_comesOut_36 (by decide) ?_
              refine lv_icmp_ne (tgt := 42) hx hb dX11_comesOut_38 (by decide) (fun c16 => ?_) (fun c16 => ?_)
              · have hf := (if_neg c16).symm.trans hf
                exact j42_6 hf ls H locs (lv_sub hl [1, 2, 0] rfl) hw
              · have hf := (if_pos c16).symm.trans hf
                have e0_1 := lpK_inr (lp_leaf hf hz0_1)
                have hf := sumk_r hE0_1 e0_1
                have er := Option.some.inj hf
                subst er
                exact wr_vret X hw hr dX11_comesOut_41
  exact lo0_1 fuel σ hq0_1 ls H locs (lv_sub hl [0, 1] rfl) hw

def f_X11_doTrade (σ : St) (x1 : Int32) (x2 : Int32) : Option (Int32 × St) := bnd2 (f_X11_sufferAt σ x1) fun v2 σ3 => bnd2 (f_X11_sufferAt σ3 x2) fun v5 σ6 => Option.bind (f_X11_changes σ6 x1 x2) fun σ8 => bnd2 (f_X11_sufferAt σ8 x2) fun v10 σ11 => wlet (fun (σ_43_12 : St) (s0_43_12 : Int32) => (Option.bind (f_X11_changes σ_43_12 x1 x2) fun σ14 => if bz s0_43_12 = true then some (s0_43_12, σ14) else none : Option (Int32 × St))) fun k43_12 => wlet (fun (σ_42_15 : St) => (k43_12 σ_42_15 (0 : Int32) : Option (Int32 × St))) fun k42_15 => if v2 ≤ v10 then (k42_15 σ11) else (bnd2 (f_X11_sufferAt σ11 x1) fun v18 σ19 => if v5 ≤ v18 then (k42_15 σ19) else (k43_12 σ19 (1 : Int32)))
theorem hd_X11_doTrade : yX11_doTrade.cls = RX11 ∧ yX11_doTrade.cls ≠ "java/lang/invoke/MethodHandle" ∧ yX11_doTrade.cls ≠ "java/lang/invoke/VarHandle" ∧ (parseMethodDescriptor yX11_doTrade.desc).map (fun d => d.parameters.length) = some 2 := by decide +kernel
set_option maxRecDepth 100000 in
set_option maxHeartbeats 4000000 in
theorem k_X11_doTrade {l : Launch} {ad : Nat → Nat} {D : va_G} {cy : Nat → ClassId} {z : wStr} (hI : wI WM ad) {σ : St} {x1 : Int32} {x2 : Int32}  {res : Int32 × St} (hf : f_X11_doTrade σ x1 x2 = some res) : wC WM ad D cy z l yX11_doTrade (Cond.code yX11_doTrade cX11_doTrade 6 (Option.some Jvm.ClassFile.FieldType.boolean) :: aw) (5) (201) [.ref (ad 0), .int x1, .int x2] σ (wQi WM ad D cy res.1 res.2) := by
  unfold f_X11_doTrade at hf
  refine wr_start (own := RX11) hI (by decide +kernel) rfl (Nat.le_of_ble_eq_true rfl) rfl ?_
  intro p e s m below meth c ls X hw hr hl
  have hx := X.hx
  have hb := X.hb
  obtain ⟨H, eH⟩ : ∃ H : Heap, H = s.heap := ⟨_, rfl⟩
  obtain ⟨locs, el⟩ : ∃ locs : List Loc, locs = [] := ⟨_, rfl⟩
  rw [← eH, ← el] at hw ⊢
  clear eH el
  replace hl : lv_has ls 6 [(0, .ref (ad 0)), (1, .int x1), (2, .int x2)] := hl
  refine lv_aload_n hx hb dX11_doTrade_0 rfl (lv_at hl 0 rfl) ?_
  refine lv_iload_n hx hb dX11_doTrade_1 rfl (lv_at hl 1 rfl) ?_
  obtain ⟨v2, σ3, hq1, hf⟩ := bnd2_some hf
  refine wr_cVi (r := v2) (σ' := σ3) (av := [.int x1]) (rest := []) X hw hl.1 sM0 nM0 rfl (k_X11_sufferAt hI hq1) rfl ml_X11_324 im_X11_sufferAt se_X11_sufferAt ini_X11 co_X11_sufferAt hd_X11_sufferAt ⟨Nat.le_of_ble_eq_true rfl, Nat.le_of_ble_eq_true rfl⟩ (Nat.le_of_ble_eq_true rfl) dX11_doTrade_2 rfl (fun H locs hw => ?_)
  refine lv_istore_n (lv' := [(3, .int v2), (0, .ref (ad 0)), (1, .int x1), (2, .int x2)]) hx hb dX11_doTrade_5 rfl hl (by decide) rfl (fun ls hl => ?_)
  refine lv_aload_n hx hb dX11_doTrade_6 rfl (lv_at hl 1 rfl) ?_
  refine lv_iload_n hx hb dX11_doTrade_7 rfl (lv_at hl 3 rfl) ?_
  obtain ⟨v5, σ6, hq4, hf⟩ := bnd2_some hf
  refine wr_cVi (r := v5) (σ' := σ6) (av := [.int x2]) (rest := []) X hw hl.1 sM0 nM0 rfl (k_X11_sufferAt hI hq4) rfl ml_X11_324 im_X11_sufferAt se_X11_sufferAt ini_X11 co_X11_sufferAt hd_X11_sufferAt ⟨Nat.le_of_ble_eq_true rfl, Nat.le_of_ble_eq_true rfl⟩ (Nat.le_of_ble_eq_true rfl) dX11_doTrade_8 rfl (fun H locs hw => ?_)
  refine lv_istore (lv' := [(4, .int v5), (3, .int v2), (0, .ref (ad 0)), (1, .int x1), (2, .int x2)]) hx hb dX11_doTrade_11 hl (by decide) rfl (fun ls hl => ?_)
  refine lv_aload_n hx hb dX11_doTrade_13 rfl (lv_at hl 2 rfl) ?_
  refine lv_iload_n hx hb dX11_doTrade_14 rfl (lv_at hl 3 rfl) ?_
  refine lv_iload_n hx hb dX11_doTrade_15 rfl (lv_at hl 4 rfl) ?_
  obtain ⟨σ8, hq7, hf⟩ := bind_some hf
  refine wr_cVv (σ' := σ8) (av := [.int x1, .int x2]) (rest := []) X hw hl.1 sM0 nM0 rfl (k_X11_changes hI hq7) rfl ml_X11_358 im_X11_changes se_X11_changes ini_X11 co_X11_changes hd_X11_changes ⟨Nat.le_of_ble_eq_true rfl, Nat.le_of_ble_eq_true rfl⟩ (Nat.le_of_ble_eq_true rfl) dX11_doTrade_16 rfl (fun H locs hw => ?_)
  refine lv_aload_n hx hb dX11_doTrade_19 rfl (lv_at hl 2 rfl) ?_
  refine lv_iload_n hx hb dX11_doTrade_20 rfl (lv_at hl 4 rfl) ?_
  obtain ⟨v10, σ11, hq9, hf⟩ := bnd2_some hf
  refine wr_cVi (r := v10) (σ' := σ11) (av := [.int x2]) (rest := []) X hw hl.1 sM0 nM0 rfl (k_X11_sufferAt hI hq9) rfl ml_X11_324 im_X11_sufferAt se_X11_sufferAt ini_X11 co_X11_sufferAt hd_X11_sufferAt ⟨Nat.le_of_ble_eq_true rfl, Nat.le_of_ble_eq_true rfl⟩ (Nat.le_of_ble_eq_true rfl) dX11_doTrade_21 rfl (fun H locs hw => ?_)
  refine lv_iload_n hx hb dX11_doTrade_24 rfl (lv_at hl 1 rfl) ?_
  obtain ⟨k43_12, ek43_12, hf0⟩ := wlet_some hf
  have j43_12 : ∀ (σ_43_12 : St) (s0_43_12 : Int32) (_ : k43_12 σ_43_12 s0_43_12 = some res) (ls : Array Slot) (H : Heap) (locs : List Loc), lv_has ls 6 [(0, .ref (ad 0)), (1, .int x1), (2, .int x2)] → wH WM ad D cy s σ_43_12 H locs → W p l e { frames := 5, cells := 0, slots := 0, locals := 201 } s m [.ref (ad 0), .int x1, .int x2].toArray below meth c H locs 0 0 (MQ below (wQi WM ad D cy res.1 res.2) [.ref (ad 0), .int x1, .int x2].toArray s 0 0 (wA WM ad)) (F0 m 43 ls [.int s0_43_12]) := by
    intro σ_43_12 s0_43_12 hf ls H locs hl hw
    rw [ek43_12] at hf
    refine lv_istore (lv' := [(5, .int s0_43_12), (0, .ref (ad 0)), (1, .int x1), (2, .int x2)]) hx hb dX11_doTrade_43 hl (by decide) rfl (fun ls hl => ?_)
    refine lv_aload_n hx hb dX11_doTrade_45 rfl (lv_at hl 1 rfl) ?_
    refine lv_iload_n hx hb dX11_doTrade_46 rfl (lv_at hl 2 rfl) ?_
    refine lv_iload_n hx hb dX11_doTrade_47 rfl (lv_at hl 3 rfl) ?_
    obtain ⟨σ14, hq13, hf⟩ := bind_some hf
    refine wr_cVv (σ' := σ14) (av := [.int x1, .int x2]) (rest := []) X hw hl.1 sM0 nM0 rfl (k_X11_changes hI hq13) rfl ml_X11_358 im_X11_changes se_X11_changes ini_X11 co_X11_changes hd_X11_changes ⟨Nat.le_of_ble_eq_true rfl, Nat.le_of_ble_eq_true rfl⟩ (Nat.le_of_ble_eq_true rfl) dX11_doTrade_48 rfl (fun H locs hw => ?_)
    refine lv_iload hx hb dX11_doTrade_51 (lv_at hl 0 rfl) ?_
    obtain ⟨hz, hf⟩ := if_some hf
    have er := Option.some.inj hf
    subst er
    exact wr_iret X hw hr (Or.inr ⟨rfl, hz⟩) dX11_doTrade_53
  replace hf := hf0
  obtain ⟨k42_15, ek42_15, hf0⟩ := wlet_some hf
  have j42_15 : ∀ (σ_42_15 : St) (_ : k42_15 σ_42_15 = some res) (ls : Array Slot) (H : Heap) (locs : List Loc), lv_has ls 6 [(0, .ref (ad 0)), (1, .int x1), (2, .int x2)] → wH WM ad D cy s σ_42_15 H locs → W p l e { frames := 5, cells := 0, slots := 0, locals := 201 } s m [.ref (ad 0), .int x1, .int x2].toArray below meth c H locs 0 0 (MQ below (wQi WM ad D cy res.1 res.2) [.ref (ad 0), .int x1, .int x2].toArray s 0 0 (wA WM ad)) (F0 m 42 ls []) := by
    intro σ_42_15 hf ls H locs hl hw
    rw [ek42_15] at hf
    refine lv_iconst (v := 0) hx hb dX11_doTrade_42 (by decide) ?_
    exact j43_12 σ_42_15 (0 : Int32) hf ls H locs (lv_sub hl [0, 1, 2] rfl) hw
  replace hf := hf0
  refine lv_icmp_ge (tgt := 42) hx hb dX11_doTrade_25 (by decide) (fun c16 => ?_) (fun c16 => ?_)
  · have hf := (if_pos c16).symm.trans hf
    exact j42_15 σ11 hf ls H locs (lv_sub hl [2, 3, 4] rfl) hw
  · have hf := (if_neg c16).symm.trans hf
    refine lv_aload_n hx hb dX11_doTrade_28 rfl (lv_at hl 2 rfl) ?_
    refine lv_iload_n hx hb dX11_doTrade_29 rfl (lv_at hl 3 rfl) ?_
    obtain ⟨v18, σ19, hq17, hf⟩ := bnd2_some hf
    refine wr_cVi (r := v18) (σ' := σ19) (av := [.int x1]) (rest := []) X hw hl.1 sM0 nM0 rfl (k_X11_sufferAt hI hq17) rfl ml_X11_324 im_X11_sufferAt se_X11_sufferAt ini_X11 co_X11_sufferAt hd_X11_sufferAt ⟨Nat.le_of_ble_eq_true rfl, Nat.le_of_ble_eq_true rfl⟩ (Nat.le_of_ble_eq_true rfl) dX11_doTrade_30 rfl (fun H locs hw => ?_)
    refine lv_iload hx hb dX11_doTrade_33 (lv_at hl 0 rfl) ?_
    refine lv_icmp_ge (tgt := 42) hx hb dX11_doTrade_35 (by decide) (fun c20 => ?_) (fun c20 => ?_)
    · have hf := (if_pos c20).symm.trans hf
      exact j42_15 σ19 hf ls H locs (lv_sub hl [2, 3, 4] rfl) hw
    · have hf := (if_neg c20).symm.trans hf
      refine lv_iconst (v := 1) hx hb dX11_doTrade_38 (by decide) ?_
      refine lv_goto (tgt := 43) hx hb dX11_doTrade_39 (by decide) ?_
      exact j43_12 σ19 (1 : Int32) hf ls H locs (lv_sub hl [2, 3, 4] rfl) hw

def f_X11_isRest (σ : St)  : Option (Int32 × St) := wlet (un2 (fun (σ2_1 : St) (x1_2_1 : Int32) => if ib (7 : Int32) 26 = true then if (σ2_1.1 27 (Int32.toNatClampNeg (7 : Int32))) ≤ x1_2_1 then (some (.inr (.inl σ2_1))) else (wlet (un2 (fun (σ15_4 : St) (x2_15_4 : Int32) => if x1_2_1 ≤ x2_15_4 then (some (.inr (.inl σ15_4))) else (bnd2 (f_X11_doTrade σ15_4 x1_2_1 x2_15_4) fun v8 σ9 => if v8 = 0 then (wlet (x2_15_4 + (1 : Int32)) fun v11 => some (.inl (σ9, v11))) else (some (.inr (.inr ((0 : Int32), σ9)))))) : St × Int32 → Option ((St × Int32) ⊕ ((St) ⊕ (Int32 × St)))) fun st15_4 => Option.bind (lp st15_4 fuel (σ2_1, (0 : Int32))) (sumk (fun (σe15_4 : St) => wlet (x1_2_1 + (1 : Int32)) fun v5 => some (.inl (σe15_4, v5))) (fun m => some (.inr (.inr m))))) else none) : St × Int32 → Option ((St × Int32) ⊕ ((St) ⊕ (Int32 × St)))) fun st2_1 => Option.bind (lp st2_1 fuel (σ, (0 : Int32))) (sumk (fun (σe2_1 : St) => some ((1 : Int32), σe2_1)) (fun m => some m))
theorem hd_X11_isRest : yX11_isRest.cls = RX11 ∧ yX11_isRest.cls ≠ "java/lang/invoke/MethodHandle" ∧ yX11_isRest.cls ≠ "java/lang/invoke/VarHandle" ∧ (parseMethodDescriptor yX11_isRest.desc).map (fun d => d.parameters.length) = some 0 := by decide +kernel
set_option maxRecDepth 100000 in
set_option maxHeartbeats 4000000 in
theorem k_X11_isRest {l : Launch} {ad : Nat → Nat} {D : va_G} {cy : Nat → ClassId} {z : wStr} (hI : wI WM ad) {σ : St}   {res : Int32 × St} (hf : f_X11_isRest σ  = some res) : wC WM ad D cy z l yX11_isRest (Cond.code yX11_isRest cX11_isRest 3 (Option.some Jvm.ClassFile.FieldType.boolean) :: aw) (6) (226) [.ref (ad 0)] σ (wQi WM ad D cy res.1 res.2) := by
  unfold f_X11_isRest at hf
  refine wr_start (own := RX11) hI (by decide +kernel) rfl (Nat.le_of_ble_eq_true rfl) rfl ?_
  intro p e s m below meth c ls X hw hr hl
  have hx := X.hx
  have hb := X.hb
  obtain ⟨H, eH⟩ : ∃ H : Heap, H = s.heap := ⟨_, rfl⟩
  obtain ⟨locs, el⟩ : ∃ locs : List Loc, locs = [] := ⟨_, rfl⟩
  rw [← eH, ← el] at hw ⊢
  clear eH el
  replace hl : lv_has ls 3 [(0, .ref (ad 0))] := hl
  refine lv_iconst (v := 0) hx hb dX11_isRest_0 (by decide) ?_
  refine lv_istore_n (lv' := [(1, .int (0 : Int32)), (0, .ref (ad 0))]) hx hb dX11_isRest_1 rfl hl (by decide) rfl (fun ls hl => ?_)
  obtain ⟨st2_1, est2_1, hf⟩ := wlet_some hf
  obtain ⟨E2_1, hq2_1, hE2_1⟩ := bind_some hf
  have hx2_1 : ∀ (σe2_1 : St) (_ : Sum.inl σe2_1 = E2_1) (ls : Array Slot) (H : Heap) (locs : List Loc), lv_has ls 3 [] → wH WM ad D cy s σe2_1 H locs → W p l e { frames := 6, cells := 0, slots := 0, locals := 226 } s m [.ref (ad 0)].toArray below meth c H locs 0 0 (MQ below (wQi WM ad D cy res.1 res.2) [.ref (ad 0)].toArray s 0 0 (wA WM ad)) (F0 m 43 ls []) := by
    intro σe2_1 e0 ls H locs hl hw
    have hf := sumk_l hE2_1 e0
    refine lv_iconst (v := 1) hx hb dX11_isRest_43 (by decide) ?_
    have er := Option.some.inj hf
    subst er
    exact wr_iret X hw hr (Or.inr ⟨rfl, (show bz (1 : Int32) = true from rfl)⟩) dX11_isRest_44
  have lo2_1 : ∀ (n : Nat) (σ2_1 : St) (x1_2_1 : Int32) (_ : lp st2_1 n (σ2_1, x1_2_1) = some E2_1) (ls : Array Slot) (H : Heap) (locs : List Loc), lv_has ls 3 [(0, .ref (ad 0)), (1, .int x1_2_1)] → wH WM ad D cy s σ2_1 H locs → W p l e { frames := 6, cells := 0, slots := 0, locals := 226 } s m [.ref (ad 0)].toArray below meth c H locs 0 0 (MQ below (wQi WM ad D cy res.1 res.2) [.ref (ad 0)].toArray s 0 0 (wA WM ad)) (F0 m 2 ls []) := by
    intro n
    induction n with
    | zero =>
      intro σ2_1 x1_2_1 hf ls H locs hl hw
      exact (lp_zero hf).elim
    | succ n ih2_1 =>
      intro σ2_1 x1_2_1 hf ls H locs hl hw
      obtain ⟨q2_1, hf, hz2_1⟩ := lp_succ hf
      rw [est2_1] at hf
      replace hf := un2_some hf
      refine lv_iload_n hx hb dX11_isRest_2 rfl (lv_at hl 1 rfl) ?_
      refine lv_aload_n hx hb dX11_isRest_3 rfl (lv_at hl 0 rfl) ?_
      refine gX11_44 (b := 27) X hw sM0 nM0 rfl fl_X11_98 dX11_isRest_4 ?_
      refine lv_bipush (v := 7) hx hb dX11_isRest_7 (by decide) ?_
      obtain ⟨h2, hf⟩ := if_some hf
      refine wr_iald X hw sM27 nM27 h2 dX11_isRest_9 ?_
      refine lv_icmp_ge (tgt := 43) hx hb dX11_isRest_10 (by decide) (fun c3 => ?_) (fun c3 => ?_)
      · have hf := (if_pos c3).symm.trans hf
        exact hx2_1 σ2_1 (lpK_inr (lp_leaf hf hz2_1)) ls H locs (lv_sub hl [] rfl) hw
      · have hf := (if_neg c3).symm.trans hf
        refine lv_iconst (v := 0) hx hb dX11_isRest_13 (by decide) ?_
        refine lv_istore_n (lv' := [(2, .int (0 : Int32)), (0, .ref (ad 0)), (1, .int x1_2_1)]) hx hb dX11_isRest_14 rfl hl (by decide) rfl (fun ls hl => ?_)
        obtain ⟨st15_4, est15_4, hf⟩ := wlet_some hf
        obtain ⟨E15_4, hq15_4, hE15_4⟩ := bind_some hf
        have hx15_4 : ∀ (σe15_4 : St) (_ : Sum.inl σe15_4 = E15_4) (ls : Array Slot) (H : Heap) (locs : List Loc), lv_has ls 3 [(0, .ref (ad 0)), (1, .int x1_2_1)] → wH WM ad D cy s σe15_4 H locs → W p l e { frames := 6, cells := 0, slots := 0, locals := 226 } s m [.ref (ad 0)].toArray below meth c H locs 0 0 (MQ below (wQi WM ad D cy res.1 res.2) [.ref (ad 0)].toArray s 0 0 (wA WM ad)) (F0 m 37 ls []) := by
          intro σe15_4 e0 ls H locs hl hw
          have hf := sumk_l hE15_4 e0
          obtain ⟨v5, ev5, hf⟩ := wlet_some hf
          refine lv_iinc (v := v5) (lv' := [(1, .int v5), (0, .ref (ad 0))]) hx hb dX11_isRest_37 hl (k := 1) rfl (by rw [ev5]; rfl) (by decide) rfl (fun ls hl => ?_)
          refine lv_goto (tgt := 2) hx hb dX11_isRest_40 (by decide) ?_
          exact ih2_1 σe15_4 v5 (lp_leaf hf hz2_1) ls H locs (lv_sub hl [1, 0] rfl) hw
        have lo15_4 : ∀ (n : Nat) (σ15_4 : St) (x2_15_4 : Int32) (_ : lp st15_4 n (σ15_4, x2_15_4) = some E15_4) (ls : Array Slot) (H : Heap) (locs : List Loc), lv_has ls 3 [(0, .ref (ad 0)), (1, .int x1_2_1), (2, .int x2_15_4)] → wH WM ad D cy s σ15_4 H locs → W p l e { frames := 6, cells := 0, slots := 0, locals := 226 } s m [.ref (ad 0)].toArray below meth c H locs 0 0 (MQ below (wQi WM ad D cy res.1 res.2) [.ref (ad 0)].toArray s 0 0 (wA WM ad)) (F0 m 15 ls []) := by
          intro n
          induction n with
          | zero =>
            intro σ15_4 x2_15_4 hf ls H locs hl hw
            exact (lp_zero hf).elim
          | succ n ih15_4 =>
            intro σ15_4 x2_15_4 hf ls H locs hl hw
            obtain ⟨q15_4, hf, hz15_4⟩ := lp_succ hf
            rw [est15_4] at hf
            replace hf := un2_some hf
            refine lv_iload_n hx hb dX11_isRest_15 rfl (lv_at hl 2 rfl) ?_
            refine lv_iload_n hx hb dX11_isRest_16 rfl (lv_at hl 1 rfl) ?_
            refine lv_icmp_ge (tgt := 37) hx hb dX11_isRest_17 (by decide) (fun c6 => ?_) (fun c6 => ?_)
            · have hf := (if_pos c6).symm.trans hf
              exact hx15_4 σ15_4 (lpK_inr (lp_leaf hf hz15_4)) ls H locs (lv_sub hl [0, 1] rfl) hw
            · have hf := (if_neg c6).symm.trans hf
              refine lv_aload_n hx hb dX11_isRest_20 rfl (lv_at hl 0 rfl) ?_
              refine lv_iload_n hx hb dX11_isRest_21 rfl (lv_at hl 1 rfl) ?_
              refine lv_iload_n hx hb dX11_isRest_22 rfl (lv_at hl 2 rfl) ?_
              obtain ⟨v8, σ9, hq7, hf⟩ := bnd2_some hf
              refine wr_cVi (r := v8) (σ' := σ9) (av := [.int x1_2_1, .int x2_15_4]) (rest := []) X hw hl.1 sM0 nM0 rfl (k_X11_doTrade hI hq7) rfl ml_X11_399 im_X11_doTrade se_X11_doTrade ini_X11 co_X11_doTrade hd_X11_doTrade ⟨Nat.le_of_ble_eq_true rfl, Nat.le_of_ble_eq_true rfl⟩ (Nat.le_of_ble_eq_true rfl) dX11_isRest_23 rfl (fun H locs hw => ?_)
              refine lv_if_eq (tgt := 31) hx hb dX11_isRest_26 (by decide) (fun c10 => ?_) (fun c10 => ?_)
              · have hf := (if_pos c10).symm.trans hf
                obtain ⟨v11, ev11, hf⟩ := wlet_some hf
                refine lv_iinc (v := v11) (lv' := [(2, .int v11), (0, .ref (ad 0)), (1, .int x1_2_1)]) hx hb dX11_isRest_31 hl (k := 2) rfl (by rw [ev11]; rfl) (by decide) rfl (fun ls hl => ?_)
                refine lv_goto (tgt := 15) hx hb dX11_isRest_34 (by decide) ?_
                exact ih15_4 σ9 v11 (lp_leaf hf hz15_4) ls H locs (lv_sub hl [1, 2, 0] rfl) hw
              · have hf := (if_neg c10).symm.trans hf
                refine lv_iconst (v := 0) hx hb dX11_isRest_29 (by decide) ?_
                have e15_4 := lpK_inr (lp_leaf hf hz15_4)
                have hf := sumk_r hE15_4 e15_4
                have e2_1 := lpK_inr (lp_leaf hf hz2_1)
                have hf := sumk_r hE2_1 e2_1
                have er := Option.some.inj hf
                subst er
                exact wr_iret X hw hr (Or.inr ⟨rfl, (show bz (0 : Int32) = true from rfl)⟩) dX11_isRest_30
        exact lo15_4 fuel σ2_1 (0 : Int32) hq15_4 ls H locs (lv_sub hl [1, 2, 0] rfl) hw
  exact lo2_1 fuel σ (0 : Int32) hq2_1 ls H locs (lv_sub hl [1, 0] rfl) hw

def f_X11_sumNow (σ : St) (x1 : Int32) : Option (Int32) := wlet (un2 (fun (x2_4_1 : Int32) (x3_4_1 : Int32) => if (x1 + (7 : Int32)) ≤ x3_4_1 then (some (.inr x2_4_1)) else (if ib x3_4_1 26 = true then wlet (x2_4_1 + (σ.1 26 (Int32.toNatClampNeg x3_4_1))) fun v4 => wlet (x3_4_1 + (1 : Int32)) fun v5 => some (.inl (v4, v5)) else none)) : Int32 × Int32 → Option ((Int32 × Int32) ⊕ (Int32))) fun st4_1 => Option.bind (lp st4_1 fuel ((0 : Int32), x1)) ((fun (x2_e4_1 : Int32) => some x2_e4_1))
theorem hd_X11_sumNow : yX11_sumNow.cls = RX11 ∧ yX11_sumNow.cls ≠ "java/lang/invoke/MethodHandle" ∧ yX11_sumNow.cls ≠ "java/lang/invoke/VarHandle" ∧ (parseMethodDescriptor yX11_sumNow.desc).map (fun d => d.parameters.length) = some 1 := by decide +kernel
set_option maxRecDepth 100000 in
set_option maxHeartbeats 4000000 in
theorem k_X11_sumNow {l : Launch} {ad : Nat → Nat} {D : va_G} {cy : Nat → ClassId} {z : wStr} (hI : wI WM ad) {σ : St} {x1 : Int32}  {res : Int32} (hf : f_X11_sumNow σ x1 = some res) : wC WM ad D cy z l yX11_sumNow (Cond.code yX11_sumNow cX11_sumNow 4 (Option.some Jvm.ClassFile.FieldType.int) :: aw) (1) (100) [.ref (ad 0), .int x1] σ (wQi WM ad D cy res σ) := by
  unfold f_X11_sumNow at hf
  refine wr_start (own := RX11) hI (by decide +kernel) rfl (Nat.le_of_ble_eq_true rfl) rfl ?_
  intro p e s m below meth c ls X hw hr hl
  have hx := X.hx
  have hb := X.hb
  obtain ⟨H, eH⟩ : ∃ H : Heap, H = s.heap := ⟨_, rfl⟩
  obtain ⟨locs, el⟩ : ∃ locs : List Loc, locs = [] := ⟨_, rfl⟩
  rw [← eH, ← el] at hw ⊢
  clear eH el
  replace hl : lv_has ls 4 [(0, .ref (ad 0)), (1, .int x1)] := hl
  refine lv_iconst (v := 0) hx hb dX11_sumNow_0 (by decide) ?_
  refine lv_istore_n (lv' := [(2, .int (0 : Int32)), (0, .ref (ad 0)), (1, .int x1)]) hx hb dX11_sumNow_1 rfl hl (by decide) rfl (fun ls hl => ?_)
  refine lv_iload_n hx hb dX11_sumNow_2 rfl (lv_at hl 2 rfl) ?_
  refine lv_istore_n (lv' := [(3, .int x1), (2, .int (0 : Int32)), (0, .ref (ad 0)), (1, .int x1)]) hx hb dX11_sumNow_3 rfl hl (by decide) rfl (fun ls hl => ?_)
  obtain ⟨st4_1, est4_1, hf⟩ := wlet_some hf
  obtain ⟨E4_1, hq4_1, hE4_1⟩ := bind_some hf
  have hx4_1 : ∀ (x2_e4_1 : Int32) (_ : x2_e4_1 = E4_1) (ls : Array Slot) (H : Heap) (locs : List Loc), lv_has ls 4 [(2, .int x2_e4_1)] → wH WM ad D cy s σ H locs → W p l e { frames := 1, cells := 0, slots := 0, locals := 100 } s m [.ref (ad 0), .int x1].toArray below meth c H locs 0 0 (MQ below (wQi WM ad D cy res σ) [.ref (ad 0), .int x1].toArray s 0 0 (wA WM ad)) (F0 m 27 ls []) := by
    intro x2_e4_1 e0 ls H locs hl hw
    subst e0
    have hf := hE4_1
    refine lv_iload_n hx hb dX11_sumNow_27 rfl (lv_at hl 0 rfl) ?_
    have er := Option.some.inj hf
    subst er
    exact wr_iret X hw hr (Or.inl rfl) dX11_sumNow_28
  have lo4_1 : ∀ (n : Nat) (x2_4_1 : Int32) (x3_4_1 : Int32) (_ : lp st4_1 n (x2_4_1, x3_4_1) = some E4_1) (ls : Array Slot) (H : Heap) (locs : List Loc), lv_has ls 4 [(0, .ref (ad 0)), (1, .int x1), (2, .int x2_4_1), (3, .int x3_4_1)] → wH WM ad D cy s σ H locs → W p l e { frames := 1, cells := 0, slots := 0, locals := 100 } s m [.ref (ad 0), .int x1].toArray below meth c H locs 0 0 (MQ below (wQi WM ad D cy res σ) [.ref (ad 0), .int x1].toArray s 0 0 (wA WM ad)) (F0 m 4 ls []) := by
    intro n
    induction n with
    | zero =>
      intro x2_4_1 x3_4_1 hf ls H locs hl hw
      exact (lp_zero hf).elim
    | succ n ih4_1 =>
      intro x2_4_1 x3_4_1 hf ls H locs hl hw
      obtain ⟨q4_1, hf, hz4_1⟩ := lp_succ hf
      rw [est4_1] at hf
      replace hf := un2_some hf
      refine lv_iload_n hx hb dX11_sumNow_4 rfl (lv_at hl 3 rfl) ?_
      refine lv_iload_n hx hb dX11_sumNow_5 rfl (lv_at hl 1 rfl) ?_
      refine lv_bipush (v := 7) hx hb dX11_sumNow_6 (by decide) ?_
      refine lv_iadd hx hb dX11_sumNow_8 ?_
      refine lv_icmp_ge (tgt := 27) hx hb dX11_sumNow_9 (by decide) (fun c2 => ?_) (fun c2 => ?_)
      · have hf := (if_pos c2).symm.trans hf
        exact hx4_1 x2_4_1 (lpK_inr (lp_leaf hf hz4_1)) ls H locs (lv_sub hl [2] rfl) hw
      · have hf := (if_neg c2).symm.trans hf
        refine lv_iload_n hx hb dX11_sumNow_12 rfl (lv_at hl 2 rfl) ?_
        refine lv_aload_n hx hb dX11_sumNow_13 rfl (lv_at hl 0 rfl) ?_
        refine gX11_43 (b := 26) X hw sM0 nM0 rfl fl_X11_95 dX11_sumNow_14 ?_
        refine lv_iload_n hx hb dX11_sumNow_17 rfl (lv_at hl 3 rfl) ?_
        obtain ⟨h3, hf⟩ := if_some hf
        refine wr_iald X hw sM26 nM26 h3 dX11_sumNow_18 ?_
        refine lv_iadd hx hb dX11_sumNow_19 ?_
        obtain ⟨v4, ev4, hf⟩ := wlet_some hf
        refine wr_top ev4 ?_
        refine lv_istore_n (lv' := [(2, .int v4), (0, .ref (ad 0)), (1, .int x1), (3, .int x3_4_1)]) hx hb dX11_sumNow_20 rfl hl (by decide) rfl (fun ls hl => ?_)
        obtain ⟨v5, ev5, hf⟩ := wlet_some hf
        refine lv_iinc (v := v5) (lv' := [(3, .int v5), (2, .int v4), (0, .ref (ad 0)), (1, .int x1)]) hx hb dX11_sumNow_21 hl (k := 3) rfl (by rw [ev5]; rfl) (by decide) rfl (fun ls hl => ?_)
        refine lv_goto (tgt := 4) hx hb dX11_sumNow_24 (by decide) ?_
        exact ih4_1 v4 v5 (lp_leaf hf hz4_1) ls H locs (lv_sub hl [2, 3, 1, 0] rfl) hw
  exact lo4_1 fuel (0 : Int32) x1 hq4_1 ls H locs (lv_sub hl [2, 3, 1, 0] rfl) hw

def f_X11_count (σ : St) (x1 : Int32) : Option (Int32 × St) := Option.bind (f_X11_copies σ) fun σ2 => if x1 = (0 : Int32) then (if ib (σ2.1 0 18) 2 = true then some ((σ2.1 9 (Int32.toNatClampNeg (σ2.1 0 18))), σ2) else none) else if x1 = (1 : Int32) then (if ib (7 : Int32) 26 = true then some ((σ2.1 27 (Int32.toNatClampNeg (7 : Int32))), σ2) else none) else if x1 = (2 : Int32) then (if ib (8 : Int32) 26 = true then some ((σ2.1 27 (Int32.toNatClampNeg (8 : Int32))), σ2) else none) else if x1 = (3 : Int32) then (if ib (9 : Int32) 26 = true then some ((σ2.1 27 (Int32.toNatClampNeg (9 : Int32))), σ2) else none) else if x1 = (4 : Int32) then (bnd2 (f_X11_sufferAll σ2) fun v13 σ14 => some (v13, σ14)) else if x1 = (5 : Int32) then (Option.bind (f_X11_sumNow σ2 (17 : Int32)) fun v17 => some (v17, σ2)) else if x1 = (6 : Int32) then (if ib (24 : Int32) 26 = true then some ((σ2.1 27 (Int32.toNatClampNeg (24 : Int32))), σ2) else none) else if x1 = (7 : Int32) then (Option.bind (f_X11_sumNow σ2 (10 : Int32)) fun v22 => some (v22, σ2)) else if x1 = (8 : Int32) then (some ((σ2.1 0 2), σ2)) else if x1 = (9 : Int32) then (some ((σ2.1 0 47), σ2)) else if x1 = (10 : Int32) then (some ((σ2.1 0 51), σ2)) else if x1 = (11 : Int32) then (if ib (0 : Int32) 3 = true then wlet (fun (s0_186_28 : Int32) => (if ib (1 : Int32) 3 = true then wlet (fun (s0_200_30 : Int32) (s1_200_30 : Int32) => (if ib (2 : Int32) 3 = true then if (σ2.1 36 (Int32.toNatClampNeg (2 : Int32))) = 0 then (some (((s0_200_30 + s1_200_30) + (0 : Int32)), σ2)) else (some (((s0_200_30 + s1_200_30) + (1 : Int32)), σ2)) else none : Option (Int32 × St))) fun k200_30 => if (σ2.1 36 (Int32.toNatClampNeg (1 : Int32))) = 0 then (k200_30 s0_186_28 (0 : Int32)) else (k200_30 s0_186_28 (1 : Int32)) else none : Option (Int32 × St))) fun k186_28 => if (σ2.1 36 (Int32.toNatClampNeg (0 : Int32))) = 0 then (k186_28 (0 : Int32)) else (k186_28 (1 : Int32)) else none) else if x1 = (12 : Int32) then (if ib (25 : Int32) 26 = true then some ((σ2.1 27 (Int32.toNatClampNeg (25 : Int32))), σ2) else none) else if x1 = (13 : Int32) then (bnd2 (f_X11_isRest σ2) fun v39 σ40 => if v39 = 0 then (some ((0 : Int32), σ40)) else (some ((1 : Int32), σ40))) else if x1 = (14 : Int32) then (bnd2 (f_X11_mostAny σ2) fun v44 σ45 => some (v44, σ45)) else if x1 = (15 : Int32) then (wlet (un2 (fun (x2_245_47 : Int32) (x3_245_47 : Int32) => if ib (σ2.1 0 18) 2 = true then if (σ2.1 9 (Int32.toNatClampNeg (σ2.1 0 18))) ≤ x3_245_47 then (some (.inr x2_245_47)) else (Option.bind (f_X11_isOn σ2 x3_245_47) fun v51 => if v51 = 0 then (wlet (x2_245_47 ||| ((1 : Int32) <<< (x3_245_47 &&& 31))) fun v54 => wlet (x3_245_47 + (1 : Int32)) fun v55 => some (.inl (v54, v55))) else (wlet (x3_245_47 + (1 : Int32)) fun v53 => some (.inl (x2_245_47, v53)))) else none) : Int32 × Int32 → Option ((Int32 × Int32) ⊕ (Int32))) fun st245_47 => Option.bind (lp st245_47 fuel ((0 : Int32), (0 : Int32))) ((fun (x2_e245_47 : Int32) => some (x2_e245_47, σ2)))) else if x1 = (16 : Int32) then (wlet (un3 (fun (σ282_57 : St) (x2_282_57 : Int32) (x3_282_57 : Int32) => if ib (7 : Int32) 26 = true then if (σ282_57.1 27 (Int32.toNatClampNeg (7 : Int32))) ≤ x3_282_57 then (some (.inr (σ282_57, x2_282_57))) else (bnd2 (f_X11_dueAt σ282_57 x3_282_57) fun v61 σ62 => wlet (x2_282_57 + v61) fun v63 => wlet (x3_282_57 + (1 : Int32)) fun v64 => some (.inl (σ62, v63, v64))) else none) : St × Int32 × Int32 → Option ((St × Int32 × Int32) ⊕ (St × Int32))) fun st282_57 => Option.bind (lp st282_57 fuel (σ2, (0 : Int32), (0 : Int32))) ((un2 (fun (σe282_57 : St) (x2_e282_57 : Int32) => some (x2_e282_57, σe282_57))))) else if x1 = (17 : Int32) then (bnd2 (f_X11_buyersNow σ2) fun v67 σ68 => Option.bind (f_X11_bits v67) fun v70 => some (v70, σ68)) else if x1 = (18 : Int32) then (bnd2 (f_X11_sufferAll σ2) fun v73 σ74 => bnd2 (f_X11_bestOf σ74 (0 : Int32)) fun v76 σ77 => some ((v73 - v76), σ77)) else (some ((-1 : Int32), σ2))
theorem hd_X11_count : yX11_count.cls = RX11 ∧ yX11_count.cls ≠ "java/lang/invoke/MethodHandle" ∧ yX11_count.cls ≠ "java/lang/invoke/VarHandle" ∧ (parseMethodDescriptor yX11_count.desc).map (fun d => d.parameters.length) = some 1 := by decide +kernel
set_option maxRecDepth 100000 in
set_option maxHeartbeats 4000000 in
theorem k_X11_count {l : Launch} {ad : Nat → Nat} {D : va_G} {cy : Nat → ClassId} {z : wStr} (hI : wI WM ad) {σ : St} {x1 : Int32}  {res : Int32 × St} (hf : f_X11_count σ x1 = some res) : wC WM ad D cy z l yX11_count (Cond.code yX11_count cX11_count 4 (Option.some Jvm.ClassFile.FieldType.int) :: aw) (8) (270) [.ref (ad 0), .int x1] σ (wQi WM ad D cy res.1 res.2) := by
  unfold f_X11_count at hf
  refine wr_start (own := RX11) hI (by decide +kernel) rfl (Nat.le_of_ble_eq_true rfl) rfl ?_
  intro p e s m below meth c ls X hw hr hl
  have hx := X.hx
  have hb := X.hb
  obtain ⟨H, eH⟩ : ∃ H : Heap, H = s.heap := ⟨_, rfl⟩
  obtain ⟨locs, el⟩ : ∃ locs : List Loc, locs = [] := ⟨_, rfl⟩
  rw [← eH, ← el] at hw ⊢
  clear eH el
  replace hl : lv_has ls 4 [(0, .ref (ad 0)), (1, .int x1)] := hl
  refine lv_aload_n hx hb dX11_count_0 rfl (lv_at hl 0 rfl) ?_
  obtain ⟨σ2, hq1, hf⟩ := bind_some hf
  refine wr_cVv (σ' := σ2) (av := []) (rest := []) X hw hl.1 sM0 nM0 rfl (k_X11_copies hI hq1) rfl ml_X11_345 im_X11_copies se_X11_copies ini_X11 co_X11_copies hd_X11_copies ⟨Nat.le_of_ble_eq_true rfl, Nat.le_of_ble_eq_true rfl⟩ (Nat.le_of_ble_eq_true rfl) dX11_count_1 rfl (fun H locs hw => ?_)
  refine lv_iconst (v := 0) hx hb dX11_count_4 (by decide) ?_
  refine lv_istore_n (lv' := [(2, .int (0 : Int32)), (0, .ref (ad 0)), (1, .int x1)]) hx hb dX11_count_5 rfl hl (by decide) rfl (fun ls hl => ?_)
  refine lv_iload_n hx hb dX11_count_6 rfl (lv_at hl 2 rfl) ?_
  by_cases c3 : x1 = (0 : Int32)
  · have hf := (if_pos c3).symm.trans hf
    refine lv_tableIn (tgt := 96) (off := 89) hx hb dX11_count_7 (by rw [c3]; decide) (by rw [c3]; decide) (by rw [c3]; rfl) (by decide) ?_
    refine lv_aload_n hx hb dX11_count_96 rfl (lv_at hl 1 rfl) ?_
    refine gX11_22 (b := 9) X hw sM0 nM0 rfl fl_X11_43 dX11_count_97 ?_
    refine lv_aload_n hx hb dX11_count_100 rfl (lv_at hl 1 rfl) ?_
    refine gX11_18 X hw sM0 nM0 fl_X11_212 dX11_count_101 ?_
    obtain ⟨h4, hf⟩ := if_some hf
    refine wr_iald X hw sM9 nM9 h4 dX11_count_104 ?_
    have er := Option.some.inj hf
    subst er
    exact wr_iret X hw hr (Or.inl rfl) dX11_count_105
  have hf := (if_neg c3).symm.trans hf
  by_cases c5 : x1 = (1 : Int32)
  · have hf := (if_pos c5).symm.trans hf
    refine lv_tableIn (tgt := 106) (off := 99) hx hb dX11_count_7 (by rw [c5]; decide) (by rw [c5]; decide) (by rw [c5]; rfl) (by decide) ?_
    refine lv_aload_n hx hb dX11_count_106 rfl (lv_at hl 1 rfl) ?_
    refine gX11_44 (b := 27) X hw sM0 nM0 rfl fl_X11_98 dX11_count_107 ?_
    refine lv_bipush (v := 7) hx hb dX11_count_110 (by decide) ?_
    obtain ⟨h6, hf⟩ := if_some hf
    refine wr_iald X hw sM27 nM27 h6 dX11_count_112 ?_
    have er := Option.some.inj hf
    subst er
    exact wr_iret X hw hr (Or.inl rfl) dX11_count_113
  have hf := (if_neg c5).symm.trans hf
  by_cases c7 : x1 = (2 : Int32)
  · have hf := (if_pos c7).symm.trans hf
    refine lv_tableIn (tgt := 114) (off := 107) hx hb dX11_count_7 (by rw [c7]; decide) (by rw [c7]; decide) (by rw [c7]; rfl) (by decide) ?_
    refine lv_aload_n hx hb dX11_count_114 rfl (lv_at hl 1 rfl) ?_
    refine gX11_44 (b := 27) X hw sM0 nM0 rfl fl_X11_98 dX11_count_115 ?_
    refine lv_bipush (v := 8) hx hb dX11_count_118 (by decide) ?_
    obtain ⟨h8, hf⟩ := if_some hf
    refine wr_iald X hw sM27 nM27 h8 dX11_count_120 ?_
    have er := Option.some.inj hf
    subst er
    exact wr_iret X hw hr (Or.inl rfl) dX11_count_121
  have hf := (if_neg c7).symm.trans hf
  by_cases c9 : x1 = (3 : Int32)
  · have hf := (if_pos c9).symm.trans hf
    refine lv_tableIn (tgt := 122) (off := 115) hx hb dX11_count_7 (by rw [c9]; decide) (by rw [c9]; decide) (by rw [c9]; rfl) (by decide) ?_
    refine lv_aload_n hx hb dX11_count_122 rfl (lv_at hl 1 rfl) ?_
    refine gX11_44 (b := 27) X hw sM0 nM0 rfl fl_X11_98 dX11_count_123 ?_
    refine lv_bipush (v := 9) hx hb dX11_count_126 (by decide) ?_
    obtain ⟨h10, hf⟩ := if_some hf
    refine wr_iald X hw sM27 nM27 h10 dX11_count_128 ?_
    have er := Option.some.inj hf
    subst er
    exact wr_iret X hw hr (Or.inl rfl) dX11_count_129
  have hf := (if_neg c9).symm.trans hf
  by_cases c11 : x1 = (4 : Int32)
  · have hf := (if_pos c11).symm.trans hf
    refine lv_tableIn (tgt := 130) (off := 123) hx hb dX11_count_7 (by rw [c11]; decide) (by rw [c11]; decide) (by rw [c11]; rfl) (by decide) ?_
    refine lv_aload_n hx hb dX11_count_130 rfl (lv_at hl 1 rfl) ?_
    obtain ⟨v13, σ14, hq12, hf⟩ := bnd2_some hf
    refine wr_cVi (r := v13) (σ' := σ14) (av := []) (rest := []) X hw hl.1 sM0 nM0 rfl (k_X11_sufferAll hI hq12) rfl ml_X11_374 im_X11_sufferAll se_X11_sufferAll ini_X11 co_X11_sufferAll hd_X11_sufferAll ⟨Nat.le_of_ble_eq_true rfl, Nat.le_of_ble_eq_true rfl⟩ (Nat.le_of_ble_eq_true rfl) dX11_count_131 rfl (fun H locs hw => ?_)
    have er := Option.some.inj hf
    subst er
    exact wr_iret X hw hr (Or.inl rfl) dX11_count_134
  have hf := (if_neg c11).symm.trans hf
  by_cases c15 : x1 = (5 : Int32)
  · have hf := (if_pos c15).symm.trans hf
    refine lv_tableIn (tgt := 135) (off := 128) hx hb dX11_count_7 (by rw [c15]; decide) (by rw [c15]; decide) (by rw [c15]; rfl) (by decide) ?_
    refine lv_aload_n hx hb dX11_count_135 rfl (lv_at hl 1 rfl) ?_
    refine lv_bipush (v := 17) hx hb dX11_count_136 (by decide) ?_
    obtain ⟨v17, hq16, hf⟩ := bind_some hf
    refine wr_cVi (r := v17) (σ' := σ2) (av := [.int (17 : Int32)]) (rest := []) X hw hl.1 sM0 nM0 rfl (k_X11_sumNow hI hq16) rfl ml_X11_436 im_X11_sumNow se_X11_sumNow ini_X11 co_X11_sumNow hd_X11_sumNow ⟨Nat.le_of_ble_eq_true rfl, Nat.le_of_ble_eq_true rfl⟩ (Nat.le_of_ble_eq_true rfl) dX11_count_138 rfl (fun H locs hw => ?_)
    have er := Option.some.inj hf
    subst er
    exact wr_iret X hw hr (Or.inl rfl) dX11_count_141
  have hf := (if_neg c15).symm.trans hf
  by_cases c18 : x1 = (6 : Int32)
  · have hf := (if_pos c18).symm.trans hf
    refine lv_tableIn (tgt := 142) (off := 135) hx hb dX11_count_7 (by rw [c18]; decide) (by rw [c18]; decide) (by rw [c18]; rfl) (by decide) ?_
    refine lv_aload_n hx hb dX11_count_142 rfl (lv_at hl 1 rfl) ?_
    refine gX11_44 (b := 27) X hw sM0 nM0 rfl fl_X11_98 dX11_count_143 ?_
    refine lv_bipush (v := 24) hx hb dX11_count_146 (by decide) ?_
    obtain ⟨h19, hf⟩ := if_some hf
    refine wr_iald X hw sM27 nM27 h19 dX11_count_148 ?_
    have er := Option.some.inj hf
    subst er
    exact wr_iret X hw hr (Or.inl rfl) dX11_count_149
  have hf := (if_neg c18).symm.trans hf
  by_cases c20 : x1 = (7 : Int32)
  · have hf := (if_pos c20).symm.trans hf
    refine lv_tableIn (tgt := 150) (off := 143) hx hb dX11_count_7 (by rw [c20]; decide) (by rw [c20]; decide) (by rw [c20]; rfl) (by decide) ?_
    refine lv_aload_n hx hb dX11_count_150 rfl (lv_at hl 1 rfl) ?_
    refine lv_bipush (v := 10) hx hb dX11_count_151 (by decide) ?_
    obtain ⟨v22, hq21, hf⟩ := bind_some hf
    refine wr_cVi (r := v22) (σ' := σ2) (av := [.int (10 : Int32)]) (rest := []) X hw hl.1 sM0 nM0 rfl (k_X11_sumNow hI hq21) rfl ml_X11_436 im_X11_sumNow se_X11_sumNow ini_X11 co_X11_sumNow hd_X11_sumNow ⟨Nat.le_of_ble_eq_true rfl, Nat.le_of_ble_eq_true rfl⟩ (Nat.le_of_ble_eq_true rfl) dX11_count_153 rfl (fun H locs hw => ?_)
    have er := Option.some.inj hf
    subst er
    exact wr_iret X hw hr (Or.inl rfl) dX11_count_156
  have hf := (if_neg c20).symm.trans hf
  by_cases c23 : x1 = (8 : Int32)
  · have hf := (if_pos c23).symm.trans hf
    refine lv_tableIn (tgt := 157) (off := 150) hx hb dX11_count_7 (by rw [c23]; decide) (by rw [c23]; decide) (by rw [c23]; rfl) (by decide) ?_
    refine lv_aload_n hx hb dX11_count_157 rfl (lv_at hl 1 rfl) ?_
    refine gX11_2 X hw sM0 nM0 fl_X11_149 dX11_count_158 ?_
    have er := Option.some.inj hf
    subst er
    exact wr_iret X hw hr (Or.inl rfl) dX11_count_161
  have hf := (if_neg c23).symm.trans hf
  by_cases c24 : x1 = (9 : Int32)
  · have hf := (if_pos c24).symm.trans hf
    refine lv_tableIn (tgt := 162) (off := 155) hx hb dX11_count_7 (by rw [c24]; decide) (by rw [c24]; decide) (by rw [c24]; rfl) (by decide) ?_
    refine lv_aload_n hx hb dX11_count_162 rfl (lv_at hl 1 rfl) ?_
    refine gX11_47 X hw sM0 nM0 fl_X11_230 dX11_count_163 ?_
    have er := Option.some.inj hf
    subst er
    exact wr_iret X hw hr (Or.inl rfl) dX11_count_166
  have hf := (if_neg c24).symm.trans hf
  by_cases c25 : x1 = (10 : Int32)
  · have hf := (if_pos c25).symm.trans hf
    refine lv_tableIn (tgt := 167) (off := 160) hx hb dX11_count_7 (by rw [c25]; decide) (by rw [c25]; decide) (by rw [c25]; rfl) (by decide) ?_
    refine lv_aload_n hx hb dX11_count_167 rfl (lv_at hl 1 rfl) ?_
    refine gX11_51 X hw sM0 nM0 fl_X11_233 dX11_count_168 ?_
    have er := Option.some.inj hf
    subst er
    exact wr_iret X hw hr (Or.inl rfl) dX11_count_171
  have hf := (if_neg c25).symm.trans hf
  by_cases c26 : x1 = (11 : Int32)
  · have hf := (if_pos c26).symm.trans hf
    refine lv_tableIn (tgt := 172) (off := 165) hx hb dX11_count_7 (by rw [c26]; decide) (by rw [c26]; decide) (by rw [c26]; rfl) (by decide) ?_
    refine lv_aload_n hx hb dX11_count_172 rfl (lv_at hl 1 rfl) ?_
    refine gX11_57 (b := 36) X hw sM0 nM0 rfl fl_X11_125 dX11_count_173 ?_
    refine lv_iconst (v := 0) hx hb dX11_count_176 (by decide) ?_
    obtain ⟨h27, hf⟩ := if_some hf
    refine wr_zald X hw sM36 nM36 h27 dX11_count_177 ?_
    obtain ⟨k186_28, ek186_28, hf0⟩ := wlet_some hf
    have j186_28 : ∀ (s0_186_28 : Int32) (_ : k186_28 s0_186_28 = some res) (ls : Array Slot) (H : Heap) (locs : List Loc), lv_has ls 4 [(0, .ref (ad 0))] → wH WM ad D cy s σ2 H locs → W p l e { frames := 8, cells := 0, slots := 0, locals := 270 } s m [.ref (ad 0), .int x1].toArray below meth c H locs 0 0 (MQ below (wQi WM ad D cy res.1 res.2) [.ref (ad 0), .int x1].toArray s 0 0 (wA WM ad)) (F0 m 186 ls [.int s0_186_28]) := by
      intro s0_186_28 hf ls H locs hl hw
      rw [ek186_28] at hf
      refine lv_aload_n hx hb dX11_count_186 rfl (lv_at hl 0 rfl) ?_
      refine gX11_57 (b := 36) X hw sM0 nM0 rfl fl_X11_125 dX11_count_187 ?_
      refine lv_iconst (v := 1) hx hb dX11_count_190 (by decide) ?_
      obtain ⟨h29, hf⟩ := if_some hf
      refine wr_zald X hw sM36 nM36 h29 dX11_count_191 ?_
      obtain ⟨k200_30, ek200_30, hf0⟩ := wlet_some hf
      have j200_30 : ∀ (s0_200_30 : Int32) (s1_200_30 : Int32) (_ : k200_30 s0_200_30 s1_200_30 = some res) (ls : Array Slot) (H : Heap) (locs : List Loc), lv_has ls 4 [(0, .ref (ad 0))] → wH WM ad D cy s σ2 H locs → W p l e { frames := 8, cells := 0, slots := 0, locals := 270 } s m [.ref (ad 0), .int x1].toArray below meth c H locs 0 0 (MQ below (wQi WM ad D cy res.1 res.2) [.ref (ad 0), .int x1].toArray s 0 0 (wA WM ad)) (F0 m 200 ls [.int s1_200_30, .int s0_200_30]) := by
        intro s0_200_30 s1_200_30 hf ls H locs hl hw
        rw [ek200_30] at hf
        refine lv_iadd hx hb dX11_count_200 ?_
        refine lv_aload_n hx hb dX11_count_201 rfl (lv_at hl 0 rfl) ?_
        refine gX11_57 (b := 36) X hw sM0 nM0 rfl fl_X11_125 dX11_count_202 ?_
        refine lv_iconst (v := 2) hx hb dX11_count_205 (by decide) ?_
        obtain ⟨h31, hf⟩ := if_some hf
        refine wr_zald X hw sM36 nM36 h31 dX11_count_206 ?_
        refine lv_if_eq (tgt := 214) hx hb dX11_count_207 (by decide) (fun c32 => ?_) (fun c32 => ?_)
        · have hf := (if_pos c32).symm.trans hf
          refine lv_iconst (v := 0) hx hb dX11_count_214 (by decide) ?_
          refine lv_iadd hx hb dX11_count_215 ?_
          have er := Option.some.inj hf
          subst er
          exact wr_iret X hw hr (Or.inl rfl) dX11_count_216
        · have hf := (if_neg c32).symm.trans hf
          refine lv_iconst (v := 1) hx hb dX11_count_210 (by decide) ?_
          refine lv_goto (tgt := 215) hx hb dX11_count_211 (by decide) ?_
          refine lv_iadd hx hb dX11_count_215 ?_
          have er := Option.some.inj hf
          subst er
          exact wr_iret X hw hr (Or.inl rfl) dX11_count_216
      replace hf := hf0
      refine lv_if_eq (tgt := 199) hx hb dX11_count_192 (by decide) (fun c33 => ?_) (fun c33 => ?_)
      · have hf := (if_pos c33).symm.trans hf
        refine lv_iconst (v := 0) hx hb dX11_count_199 (by decide) ?_
        exact j200_30 s0_186_28 (0 : Int32) hf ls H locs (lv_sub hl [0] rfl) hw
      · have hf := (if_neg c33).symm.trans hf
        refine lv_iconst (v := 1) hx hb dX11_count_195 (by decide) ?_
        refine lv_goto (tgt := 200) hx hb dX11_count_196 (by decide) ?_
        exact j200_30 s0_186_28 (1 : Int32) hf ls H locs (lv_sub hl [0] rfl) hw
    replace hf := hf0
    refine lv_if_eq (tgt := 185) hx hb dX11_count_178 (by decide) (fun c34 => ?_) (fun c34 => ?_)
    · have hf := (if_pos c34).symm.trans hf
      refine lv_iconst (v := 0) hx hb dX11_count_185 (by decide) ?_
      exact j186_28 (0 : Int32) hf ls H locs (lv_sub hl [1] rfl) hw
    · have hf := (if_neg c34).symm.trans hf
      refine lv_iconst (v := 1) hx hb dX11_count_181 (by decide) ?_
      refine lv_goto (tgt := 186) hx hb dX11_count_182 (by decide) ?_
      exact j186_28 (1 : Int32) hf ls H locs (lv_sub hl [1] rfl) hw
  have hf := (if_neg c26).symm.trans hf
  by_cases c35 : x1 = (12 : Int32)
  · have hf := (if_pos c35).symm.trans hf
    refine lv_tableIn (tgt := 217) (off := 210) hx hb dX11_count_7 (by rw [c35]; decide) (by rw [c35]; decide) (by rw [c35]; rfl) (by decide) ?_
    refine lv_aload_n hx hb dX11_count_217 rfl (lv_at hl 1 rfl) ?_
    refine gX11_44 (b := 27) X hw sM0 nM0 rfl fl_X11_98 dX11_count_218 ?_
    refine lv_bipush (v := 25) hx hb dX11_count_221 (by decide) ?_
    obtain ⟨h36, hf⟩ := if_some hf
    refine wr_iald X hw sM27 nM27 h36 dX11_count_223 ?_
    have er := Option.some.inj hf
    subst er
    exact wr_iret X hw hr (Or.inl rfl) dX11_count_224
  have hf := (if_neg c35).symm.trans hf
  by_cases c37 : x1 = (13 : Int32)
  · have hf := (if_pos c37).symm.trans hf
    refine lv_tableIn (tgt := 225) (off := 218) hx hb dX11_count_7 (by rw [c37]; decide) (by rw [c37]; decide) (by rw [c37]; rfl) (by decide) ?_
    refine lv_aload_n hx hb dX11_count_225 rfl (lv_at hl 1 rfl) ?_
    obtain ⟨v39, σ40, hq38, hf⟩ := bnd2_some hf
    refine wr_cVi (r := v39) (σ' := σ40) (av := []) (rest := []) X hw hl.1 sM0 nM0 rfl (k_X11_isRest hI hq38) rfl ml_X11_406 im_X11_isRest se_X11_isRest ini_X11 co_X11_isRest hd_X11_isRest ⟨Nat.le_of_ble_eq_true rfl, Nat.le_of_ble_eq_true rfl⟩ (Nat.le_of_ble_eq_true rfl) dX11_count_226 rfl (fun H locs hw => ?_)
    refine lv_if_eq (tgt := 236) hx hb dX11_count_229 (by decide) (fun c41 => ?_) (fun c41 => ?_)
    · have hf := (if_pos c41).symm.trans hf
      refine lv_iconst (v := 0) hx hb dX11_count_236 (by decide) ?_
      have er := Option.some.inj hf
      subst er
      exact wr_iret X hw hr (Or.inl rfl) dX11_count_237
    · have hf := (if_neg c41).symm.trans hf
      refine lv_iconst (v := 1) hx hb dX11_count_232 (by decide) ?_
      refine lv_goto (tgt := 237) hx hb dX11_count_233 (by decide) ?_
      have er := Option.some.inj hf
      subst er
      exact wr_iret X hw hr (Or.inl rfl) dX11_count_237
  have hf := (if_neg c37).symm.trans hf
  by_cases c42 : x1 = (14 : Int32)
  · have hf := (if_pos c42).symm.trans hf
    refine lv_tableIn (tgt := 238) (off := 231) hx hb dX11_count_7 (by rw [c42]; decide) (by rw [c42]; decide) (by rw [c42]; rfl) (by decide) ?_
    refine lv_aload_n hx hb dX11_count_238 rfl (lv_at hl 1 rfl) ?_
    obtain ⟨v44, σ45, hq43, hf⟩ := bnd2_some hf
    refine wr_cVi (r := v44) (σ' := σ45) (av := []) (rest := []) X hw hl.1 sM0 nM0 rfl (k_X11_mostAny hI hq43) rfl ml_X11_381 im_X11_mostAny se_X11_mostAny ini_X11 co_X11_mostAny hd_X11_mostAny ⟨Nat.le_of_ble_eq_true rfl, Nat.le_of_ble_eq_true rfl⟩ (Nat.le_of_ble_eq_true rfl) dX11_count_239 rfl (fun H locs hw => ?_)
    have er := Option.some.inj hf
    subst er
    exact wr_iret X hw hr (Or.inl rfl) dX11_count_242
  have hf := (if_neg c42).symm.trans hf
  by_cases c46 : x1 = (15 : Int32)
  · have hf := (if_pos c46).symm.trans hf
    refine lv_tableIn (tgt := 243) (off := 236) hx hb dX11_count_7 (by rw [c46]; decide) (by rw [c46]; decide) (by rw [c46]; rfl) (by decide) ?_
    refine lv_iconst (v := 0) hx hb dX11_count_243 (by decide) ?_
    refine lv_istore_n (lv' := [(3, .int (0 : Int32)), (2, .int (0 : Int32)), (0, .ref (ad 0)), (1, .int x1)]) hx hb dX11_count_244 rfl hl (by decide) rfl (fun ls hl => ?_)
    obtain ⟨st245_47, est245_47, hf⟩ := wlet_some hf
    obtain ⟨E245_47, hq245_47, hE245_47⟩ := bind_some hf
    have hx245_47 : ∀ (x2_e245_47 : Int32) (_ : x2_e245_47 = E245_47) (ls : Array Slot) (H : Heap) (locs : List Loc), lv_has ls 4 [(2, .int x2_e245_47)] → wH WM ad D cy s σ2 H locs → W p l e { frames := 8, cells := 0, slots := 0, locals := 270 } s m [.ref (ad 0), .int x1].toArray below meth c H locs 0 0 (MQ below (wQi WM ad D cy res.1 res.2) [.ref (ad 0), .int x1].toArray s 0 0 (wA WM ad)) (F0 m 278 ls []) := by
      intro x2_e245_47 e0 ls H locs hl hw
      subst e0
      have hf := hE245_47
      refine lv_iload_n hx hb dX11_count_278 rfl (lv_at hl 0 rfl) ?_
      have er := Option.some.inj hf
      subst er
      exact wr_iret X hw hr (Or.inl rfl) dX11_count_279
    have lo245_47 : ∀ (n : Nat) (x2_245_47 : Int32) (x3_245_47 : Int32) (_ : lp st245_47 n (x2_245_47, x3_245_47) = some E245_47) (ls : Array Slot) (H : Heap) (locs : List Loc), lv_has ls 4 [(0, .ref (ad 0)), (2, .int x2_245_47), (3, .int x3_245_47)] → wH WM ad D cy s σ2 H locs → W p l e { frames := 8, cells := 0, slots := 0, locals := 270 } s m [.ref (ad 0), .int x1].toArray below meth c H locs 0 0 (MQ below (wQi WM ad D cy res.1 res.2) [.ref (ad 0), .int x1].toArray s 0 0 (wA WM ad)) (F0 m 245 ls []) := by
      intro n
      induction n with
      | zero =>
        intro x2_245_47 x3_245_47 hf ls H locs hl hw
        exact (lp_zero hf).elim
      | succ n ih245_47 =>
        intro x2_245_47 x3_245_47 hf ls H locs hl hw
        obtain ⟨q245_47, hf, hz245_47⟩ := lp_succ hf
        rw [est245_47] at hf
        replace hf := un2_some hf
        refine lv_iload_n hx hb dX11_count_245 rfl (lv_at hl 2 rfl) ?_
        refine lv_aload_n hx hb dX11_count_246 rfl (lv_at hl 0 rfl) ?_
        refine gX11_22 (b := 9) X hw sM0 nM0 rfl fl_X11_43 dX11_count_247 ?_
        refine lv_aload_n hx hb dX11_count_250 rfl (lv_at hl 0 rfl) ?_
        refine gX11_18 X hw sM0 nM0 fl_X11_212 dX11_count_251 ?_
        obtain ⟨h48, hf⟩ := if_some hf
        refine wr_iald X hw sM9 nM9 h48 dX11_count_254 ?_
        refine lv_icmp_ge (tgt := 278) hx hb dX11_count_255 (by decide) (fun c49 => ?_) (fun c49 => ?_)
        · have hf := (if_pos c49).symm.trans hf
          exact hx245_47 x2_245_47 (lpK_inr (lp_leaf hf hz245_47)) ls H locs (lv_sub hl [1] rfl) hw
        · have hf := (if_neg c49).symm.trans hf
          refine lv_aload_n hx hb dX11_count_258 rfl (lv_at hl 0 rfl) ?_
          refine lv_iload_n hx hb dX11_count_259 rfl (lv_at hl 2 rfl) ?_
          obtain ⟨v51, hq50, hf⟩ := bind_some hf
          refine wr_cVi (r := v51) (σ' := σ2) (av := [.int x3_245_47]) (rest := []) X hw hl.1 sM0 nM0 rfl (k_X11_isOn hI hq50) rfl ml_X11_348 im_X11_isOn se_X11_isOn ini_X11 co_X11_isOn hd_X11_isOn ⟨Nat.le_of_ble_eq_true rfl, Nat.le_of_ble_eq_true rfl⟩ (Nat.le_of_ble_eq_true rfl) dX11_count_260 rfl (fun H locs hw => ?_)
          refine lv_if_ne (tgt := 272) hx hb dX11_count_263 (by decide) (fun c52 => ?_) (fun c52 => ?_)
          · have hf := (if_neg c52).symm.trans hf
            obtain ⟨v53, ev53, hf⟩ := wlet_some hf
            refine lv_iinc (v := v53) (lv' := [(3, .int v53), (0, .ref (ad 0)), (2, .int x2_245_47)]) hx hb dX11_count_272 hl (k := 2) rfl (by rw [ev53]; rfl) (by decide) rfl (fun ls hl => ?_)
            refine lv_goto (tgt := 245) hx hb dX11_count_275 (by decide) ?_
            exact ih245_47 x2_245_47 v53 (lp_leaf hf hz245_47) ls H locs (lv_sub hl [1, 2, 0] rfl) hw
          · have hf := (if_pos c52).symm.trans hf
            refine lv_iload_n hx hb dX11_count_266 rfl (lv_at hl 1 rfl) ?_
            refine lv_iconst (v := 1) hx hb dX11_count_267 (by decide) ?_
            refine lv_iload_n hx hb dX11_count_268 rfl (lv_at hl 2 rfl) ?_
            refine lv_ishl hx hb dX11_count_269 ?_
            refine lv_ior hx hb dX11_count_270 ?_
            obtain ⟨v54, ev54, hf⟩ := wlet_some hf
            refine wr_top ev54 ?_
            refine lv_istore_n (lv' := [(2, .int v54), (0, .ref (ad 0)), (3, .int x3_245_47)]) hx hb dX11_count_271 rfl hl (by decide) rfl (fun ls hl => ?_)
            obtain ⟨v55, ev55, hf⟩ := wlet_some hf
            refine lv_iinc (v := v55) (lv' := [(3, .int v55), (2, .int v54), (0, .ref (ad 0))]) hx hb dX11_count_272 hl (k := 2) rfl (by rw [ev55]; rfl) (by decide) rfl (fun ls hl => ?_)
            refine lv_goto (tgt := 245) hx hb dX11_count_275 (by decide) ?_
            exact ih245_47 v54 v55 (lp_leaf hf hz245_47) ls H locs (lv_sub hl [2, 1, 0] rfl) hw
    exact lo245_47 fuel (0 : Int32) (0 : Int32) hq245_47 ls H locs (lv_sub hl [2, 1, 0] rfl) hw
  have hf := (if_neg c46).symm.trans hf
  by_cases c56 : x1 = (16 : Int32)
  · have hf := (if_pos c56).symm.trans hf
    refine lv_tableIn (tgt := 280) (off := 273) hx hb dX11_count_7 (by rw [c56]; decide) (by rw [c56]; decide) (by rw [c56]; rfl) (by decide) ?_
    refine lv_iconst (v := 0) hx hb dX11_count_280 (by decide) ?_
    refine lv_istore_n (lv' := [(3, .int (0 : Int32)), (2, .int (0 : Int32)), (0, .ref (ad 0)), (1, .int x1)]) hx hb dX11_count_281 rfl hl (by decide) rfl (fun ls hl => ?_)
    obtain ⟨st282_57, est282_57, hf⟩ := wlet_some hf
    obtain ⟨E282_57, hq282_57, hE282_57⟩ := bind_some hf
    have hx282_57 : ∀ (σe282_57 : St) (x2_e282_57 : Int32) (_ : (σe282_57, x2_e282_57) = E282_57) (ls : Array Slot) (H : Heap) (locs : List Loc), lv_has ls 4 [(2, .int x2_e282_57)] → wH WM ad D cy s σe282_57 H locs → W p l e { frames := 8, cells := 0, slots := 0, locals := 270 } s m [.ref (ad 0), .int x1].toArray below meth c H locs 0 0 (MQ below (wQi WM ad D cy res.1 res.2) [.ref (ad 0), .int x1].toArray s 0 0 (wA WM ad)) (F0 m 307 ls []) := by
      intro σe282_57 x2_e282_57 e0 ls H locs hl hw
      subst e0
      have hf := hE282_57
      replace hf := un2_some hf
      refine lv_iload_n hx hb dX11_count_307 rfl (lv_at hl 0 rfl) ?_
      have er := Option.some.inj hf
      subst er
      exact wr_iret X hw hr (Or.inl rfl) dX11_count_308
    have lo282_57 : ∀ (n : Nat) (σ282_57 : St) (x2_282_57 : Int32) (x3_282_57 : Int32) (_ : lp st282_57 n (σ282_57, x2_282_57, x3_282_57) = some E282_57) (ls : Array Slot) (H : Heap) (locs : List Loc), lv_has ls 4 [(0, .ref (ad 0)), (2, .int x2_282_57), (3, .int x3_282_57)] → wH WM ad D cy s σ282_57 H locs → W p l e { frames := 8, cells := 0, slots := 0, locals := 270 } s m [.ref (ad 0), .int x1].toArray below meth c H locs 0 0 (MQ below (wQi WM ad D cy res.1 res.2) [.ref (ad 0), .int x1].toArray s 0 0 (wA WM ad)) (F0 m 282 ls []) := by
      intro n
      induction n with
      | zero =>
        intro σ282_57 x2_282_57 x3_282_57 hf ls H locs hl hw
        exact (lp_zero hf).elim
      | succ n ih282_57 =>
        intro σ282_57 x2_282_57 x3_282_57 hf ls H locs hl hw
        obtain ⟨q282_57, hf, hz282_57⟩ := lp_succ hf
        rw [est282_57] at hf
        replace hf := un3_some hf
        refine lv_iload_n hx hb dX11_count_282 rfl (lv_at hl 2 rfl) ?_
        refine lv_aload_n hx hb dX11_count_283 rfl (lv_at hl 0 rfl) ?_
        refine gX11_44 (b := 27) X hw sM0 nM0 rfl fl_X11_98 dX11_count_284 ?_
        refine lv_bipush (v := 7) hx hb dX11_count_287 (by decide) ?_
        obtain ⟨h58, hf⟩ := if_some hf
        refine wr_iald X hw sM27 nM27 h58 dX11_count_289 ?_
        refine lv_icmp_ge (tgt := 307) hx hb dX11_count_290 (by decide) (fun c59 => ?_) (fun c59 => ?_)
        · have hf := (if_pos c59).symm.trans hf
          exact hx282_57 σ282_57 x2_282_57 (lpK_inr (lp_leaf hf hz282_57)) ls H locs (lv_sub hl [1] rfl) hw
        · have hf := (if_neg c59).symm.trans hf
          refine lv_iload_n hx hb dX11_count_293 rfl (lv_at hl 1 rfl) ?_
          refine lv_aload_n hx hb dX11_count_294 rfl (lv_at hl 0 rfl) ?_
          refine lv_iload_n hx hb dX11_count_295 rfl (lv_at hl 2 rfl) ?_
          obtain ⟨v61, σ62, hq60, hf⟩ := bnd2_some hf
          refine wr_cVi (r := v61) (σ' := σ62) (av := [.int x3_282_57]) (rest := [.int x2_282_57]) X hw hl.1 sM0 nM0 rfl (k_X11_dueAt hI hq60) rfl ml_X11_327 im_X11_dueAt se_X11_dueAt ini_X11 co_X11_dueAt hd_X11_dueAt ⟨Nat.le_of_ble_eq_true rfl, Nat.le_of_ble_eq_true rfl⟩ (Nat.le_of_ble_eq_true rfl) dX11_count_296 rfl (fun H locs hw => ?_)
          refine lv_iadd hx hb dX11_count_299 ?_
          obtain ⟨v63, ev63, hf⟩ := wlet_some hf
          refine wr_top ev63 ?_
          refine lv_istore_n (lv' := [(2, .int v63), (0, .ref (ad 0)), (3, .int x3_282_57)]) hx hb dX11_count_300 rfl hl (by decide) rfl (fun ls hl => ?_)
          obtain ⟨v64, ev64, hf⟩ := wlet_some hf
          refine lv_iinc (v := v64) (lv' := [(3, .int v64), (2, .int v63), (0, .ref (ad 0))]) hx hb dX11_count_301 hl (k := 2) rfl (by rw [ev64]; rfl) (by decide) rfl (fun ls hl => ?_)
          refine lv_goto (tgt := 282) hx hb dX11_count_304 (by decide) ?_
          exact ih282_57 σ62 v63 v64 (lp_leaf hf hz282_57) ls H locs (lv_sub hl [2, 1, 0] rfl) hw
    exact lo282_57 fuel σ2 (0 : Int32) (0 : Int32) hq282_57 ls H locs (lv_sub hl [2, 1, 0] rfl) hw
  have hf := (if_neg c56).symm.trans hf
  by_cases c65 : x1 = (17 : Int32)
  · have hf := (if_pos c65).symm.trans hf
    refine lv_tableIn (tgt := 309) (off := 302) hx hb dX11_count_7 (by rw [c65]; decide) (by rw [c65]; decide) (by rw [c65]; rfl) (by decide) ?_
    refine lv_aload_n hx hb dX11_count_309 rfl (lv_at hl 1 rfl) ?_
    obtain ⟨v67, σ68, hq66, hf⟩ := bnd2_some hf
    refine wr_cVi (r := v67) (σ' := σ68) (av := []) (rest := []) X hw hl.1 sM0 nM0 rfl (k_X11_buyersNow hI hq66) rfl ml_X11_421 im_X11_buyersNow se_X11_buyersNow ini_X11 co_X11_buyersNow hd_X11_buyersNow ⟨Nat.le_of_ble_eq_true rfl, Nat.le_of_ble_eq_true rfl⟩ (Nat.le_of_ble_eq_true rfl) dX11_count_310 rfl (fun H locs hw => ?_)
    obtain ⟨v70, hq69, hf⟩ := bind_some hf
    refine wr_cSi (r := v70) (σ' := σ68) (av := [.int v67]) (rest := []) X hw hl.1 (k_X11_bits hI hq69) rfl ml_X11_439 st_X11_bits ini_X11 co_X11_bits hd_X11_bits ⟨Nat.le_of_ble_eq_true rfl, Nat.le_of_ble_eq_true rfl⟩ (Nat.le_of_ble_eq_true rfl) dX11_count_313 rfl (fun H locs hw => ?_)
    have er := Option.some.inj hf
    subst er
    exact wr_iret X hw hr (Or.inl rfl) dX11_count_316
  have hf := (if_neg c65).symm.trans hf
  by_cases c71 : x1 = (18 : Int32)
  · have hf := (if_pos c71).symm.trans hf
    refine lv_tableIn (tgt := 317) (off := 310) hx hb dX11_count_7 (by rw [c71]; decide) (by rw [c71]; decide) (by rw [c71]; rfl) (by decide) ?_
    refine lv_aload_n hx hb dX11_count_317 rfl (lv_at hl 1 rfl) ?_
    obtain ⟨v73, σ74, hq72, hf⟩ := bnd2_some hf
    refine wr_cVi (r := v73) (σ' := σ74) (av := []) (rest := []) X hw hl.1 sM0 nM0 rfl (k_X11_sufferAll hI hq72) rfl ml_X11_374 im_X11_sufferAll se_X11_sufferAll ini_X11 co_X11_sufferAll hd_X11_sufferAll ⟨Nat.le_of_ble_eq_true rfl, Nat.le_of_ble_eq_true rfl⟩ (Nat.le_of_ble_eq_true rfl) dX11_count_318 rfl (fun H locs hw => ?_)
    refine lv_istore_n (lv' := [(2, .int v73), (0, .ref (ad 0)), (1, .int x1)]) hx hb dX11_count_321 rfl hl (by decide) rfl (fun ls hl => ?_)
    refine lv_iload_n hx hb dX11_count_322 rfl (lv_at hl 0 rfl) ?_
    refine lv_aload_n hx hb dX11_count_323 rfl (lv_at hl 1 rfl) ?_
    refine lv_iconst (v := 0) hx hb dX11_count_324 (by decide) ?_
    obtain ⟨v76, σ77, hq75, hf⟩ := bnd2_some hf
    refine wr_cVi (r := v76) (σ' := σ77) (av := [.int (0 : Int32)]) (rest := [.int v73]) X hw hl.1 sM0 nM0 rfl (k_X11_bestOf hI hq75) rfl ml_X11_396 im_X11_bestOf se_X11_bestOf ini_X11 co_X11_bestOf hd_X11_bestOf ⟨Nat.le_of_ble_eq_true rfl, Nat.le_of_ble_eq_true rfl⟩ (Nat.le_of_ble_eq_true rfl) dX11_count_325 rfl (fun H locs hw => ?_)
    refine lv_isub hx hb dX11_count_328 ?_
    have er := Option.some.inj hf
    subst er
    exact wr_iret X hw hr (Or.inl rfl) dX11_count_329
  have hf := (if_neg c71).symm.trans hf
  refine lv_tableOut (tgt := 330) hx hb dX11_count_7 (sw_out (by decide) (by decide) (fun k h1 h2 => ?_)) (by decide) ?_
  · have h3 : k = 0 ∨ k = 1 ∨ k = 2 ∨ k = 3 ∨ k = 4 ∨ k = 5 ∨ k = 6 ∨ k = 7 ∨ k = 8 ∨ k = 9 ∨ k = 10 ∨ k = 11 ∨ k = 12 ∨ k = 13 ∨ k = 14 ∨ k = 15 ∨ k = 16 ∨ k = 17 ∨ k = 18 := by omega
    rcases h3 with rfl | rfl | rfl | rfl | rfl | rfl | rfl | rfl | rfl | rfl | rfl | rfl | rfl | rfl | rfl | rfl | rfl | rfl | rfl
    · exact c3
    · exact c5
    · exact c7
    · exact c9
    · exact c11
    · exact c15
    · exact c18
    · exact c20
    · exact c23
    · exact c24
    · exact c25
    · exact c26
    · exact c35
    · exact c37
    · exact c42
    · exact c46
    · exact c56
    · exact c65
    · exact c71
  refine lv_iconst (v := -1) hx hb dX11_count_330 (by decide) ?_
  have er := Option.some.inj hf
  subst er
  exact wr_iret X hw hr (Or.inl rfl) dX11_count_331

def f_X11_isDigit (x0 : Int32) : Option (Int32) := if x0 < (48 : Int32) then (some (0 : Int32)) else (if (57 : Int32) < x0 then (some (0 : Int32)) else (some (1 : Int32)))
theorem hd_X11_isDigit : yX11_isDigit.cls ≠ "java/lang/invoke/MethodHandle" ∧ yX11_isDigit.cls ≠ "java/lang/invoke/VarHandle" ∧ (parseMethodDescriptor yX11_isDigit.desc).map (fun d => d.parameters.length) = some 1 := by decide +kernel
set_option maxRecDepth 100000 in
set_option maxHeartbeats 4000000 in
theorem k_X11_isDigit {l : Launch} {ad : Nat → Nat} {D : va_G} {cy : Nat → ClassId} {z : wStr} (hI : wI WM ad) {σ : St} {x0 : Int32}  {res : Int32} (hf : f_X11_isDigit x0 = some res) : wC WM ad D cy z l yX11_isDigit (Cond.code yX11_isDigit cX11_isDigit 1 (Option.some Jvm.ClassFile.FieldType.boolean) :: aw) (1) (100) [.int x0] σ (wQi WM ad D cy res σ) := by
  unfold f_X11_isDigit at hf
  refine wr_start (own := RX11) hI (by decide +kernel) rfl (Nat.le_of_ble_eq_true rfl) rfl ?_
  intro p e s m below meth c ls X hw hr hl
  have hx := X.hx
  have hb := X.hb
  obtain ⟨H, eH⟩ : ∃ H : Heap, H = s.heap := ⟨_, rfl⟩
  obtain ⟨locs, el⟩ : ∃ locs : List Loc, locs = [] := ⟨_, rfl⟩
  rw [← eH, ← el] at hw ⊢
  clear eH el
  replace hl : lv_has ls 1 [(0, .int x0)] := hl
  refine lv_iload_n hx hb dX11_isDigit_0 rfl (lv_at hl 0 rfl) ?_
  refine lv_bipush (v := 48) hx hb dX11_isDigit_1 (by decide) ?_
  refine lv_icmp_lt (tgt := 16) hx hb dX11_isDigit_3 (by decide) (fun c1 => ?_) (fun c1 => ?_)
  · have hf := (if_pos c1).symm.trans hf
    refine lv_iconst (v := 0) hx hb dX11_isDigit_16 (by decide) ?_
    have er := Option.some.inj hf
    subst er
    exact wr_iret X hw hr (Or.inr ⟨rfl, (show bz (0 : Int32) = true from rfl)⟩) dX11_isDigit_17
  · have hf := (if_neg c1).symm.trans hf
    refine lv_iload_n hx hb dX11_isDigit_6 rfl (lv_at hl 0 rfl) ?_
    refine lv_bipush (v := 57) hx hb dX11_isDigit_7 (by decide) ?_
    refine lv_icmp_gt (tgt := 16) hx hb dX11_isDigit_9 (by decide) (fun c2 => ?_) (fun c2 => ?_)
    · have hf := (if_pos c2).symm.trans hf
      refine lv_iconst (v := 0) hx hb dX11_isDigit_16 (by decide) ?_
      have er := Option.some.inj hf
      subst er
      exact wr_iret X hw hr (Or.inr ⟨rfl, (show bz (0 : Int32) = true from rfl)⟩) dX11_isDigit_17
    · have hf := (if_neg c2).symm.trans hf
      refine lv_iconst (v := 1) hx hb dX11_isDigit_12 (by decide) ?_
      refine lv_goto (tgt := 17) hx hb dX11_isDigit_13 (by decide) ?_
      have er := Option.some.inj hf
      subst er
      exact wr_iret X hw hr (Or.inr ⟨rfl, (show bz (1 : Int32) = true from rfl)⟩) dX11_isDigit_17

def f_X11_isLetter (x0 : Int32) : Option (Int32) := if x0 < (97 : Int32) then (some (0 : Int32)) else (if (122 : Int32) < x0 then (some (0 : Int32)) else (some (1 : Int32)))
theorem hd_X11_isLetter : yX11_isLetter.cls ≠ "java/lang/invoke/MethodHandle" ∧ yX11_isLetter.cls ≠ "java/lang/invoke/VarHandle" ∧ (parseMethodDescriptor yX11_isLetter.desc).map (fun d => d.parameters.length) = some 1 := by decide +kernel
set_option maxRecDepth 100000 in
set_option maxHeartbeats 4000000 in
theorem k_X11_isLetter {l : Launch} {ad : Nat → Nat} {D : va_G} {cy : Nat → ClassId} {z : wStr} (hI : wI WM ad) {σ : St} {x0 : Int32}  {res : Int32} (hf : f_X11_isLetter x0 = some res) : wC WM ad D cy z l yX11_isLetter (Cond.code yX11_isLetter cX11_isLetter 1 (Option.some Jvm.ClassFile.FieldType.boolean) :: aw) (1) (100) [.int x0] σ (wQi WM ad D cy res σ) := by
  unfold f_X11_isLetter at hf
  refine wr_start (own := RX11) hI (by decide +kernel) rfl (Nat.le_of_ble_eq_true rfl) rfl ?_
  intro p e s m below meth c ls X hw hr hl
  have hx := X.hx
  have hb := X.hb
  obtain ⟨H, eH⟩ : ∃ H : Heap, H = s.heap := ⟨_, rfl⟩
  obtain ⟨locs, el⟩ : ∃ locs : List Loc, locs = [] := ⟨_, rfl⟩
  rw [← eH, ← el] at hw ⊢
  clear eH el
  replace hl : lv_has ls 1 [(0, .int x0)] := hl
  refine lv_iload_n hx hb dX11_isLetter_0 rfl (lv_at hl 0 rfl) ?_
  refine lv_bipush (v := 97) hx hb dX11_isLetter_1 (by decide) ?_
  refine lv_icmp_lt (tgt := 16) hx hb dX11_isLetter_3 (by decide) (fun c1 => ?_) (fun c1 => ?_)
  · have hf := (if_pos c1).symm.trans hf
    refine lv_iconst (v := 0) hx hb dX11_isLetter_16 (by decide) ?_
    have er := Option.some.inj hf
    subst er
    exact wr_iret X hw hr (Or.inr ⟨rfl, (show bz (0 : Int32) = true from rfl)⟩) dX11_isLetter_17
  · have hf := (if_neg c1).symm.trans hf
    refine lv_iload_n hx hb dX11_isLetter_6 rfl (lv_at hl 0 rfl) ?_
    refine lv_bipush (v := 122) hx hb dX11_isLetter_7 (by decide) ?_
    refine lv_icmp_gt (tgt := 16) hx hb dX11_isLetter_9 (by decide) (fun c2 => ?_) (fun c2 => ?_)
    · have hf := (if_pos c2).symm.trans hf
      refine lv_iconst (v := 0) hx hb dX11_isLetter_16 (by decide) ?_
      have er := Option.some.inj hf
      subst er
      exact wr_iret X hw hr (Or.inr ⟨rfl, (show bz (0 : Int32) = true from rfl)⟩) dX11_isLetter_17
    · have hf := (if_neg c2).symm.trans hf
      refine lv_iconst (v := 1) hx hb dX11_isLetter_12 (by decide) ?_
      refine lv_goto (tgt := 17) hx hb dX11_isLetter_13 (by decide) ?_
      have er := Option.some.inj hf
      subst er
      exact wr_iret X hw hr (Or.inr ⟨rfl, (show bz (1 : Int32) = true from rfl)⟩) dX11_isLetter_17

def f_X11_token (σ : St) (x1 : Int32) (x2 : Int32) (x3 : Int32) (x4 : Int64) : Option (St) := if ib (σ.1 0 10) 403 = true then wlet (si σ 3 (Int32.toNatClampNeg (σ.1 0 10)) x1) fun σ2 => if ib (σ2.1 0 10) 403 = true then wlet (si σ2 4 (Int32.toNatClampNeg (σ2.1 0 10)) x2) fun σ4 => if ib (σ4.1 0 10) 403 = true then wlet (si σ4 5 (Int32.toNatClampNeg (σ4.1 0 10)) x3) fun σ6 => if ib (σ6.1 0 10) 403 = true then wlet (sj σ6 6 (Int32.toNatClampNeg (σ6.1 0 10)) x4) fun σ8 => wlet (si σ8 0 10 ((σ8.1 0 10) + (1 : Int32))) fun σ9 => some σ9 else none else none else none else none
theorem hd_X11_token : yX11_token.cls = RX11 ∧ yX11_token.cls ≠ "java/lang/invoke/MethodHandle" ∧ yX11_token.cls ≠ "java/lang/invoke/VarHandle" ∧ (parseMethodDescriptor yX11_token.desc).map (fun d => d.parameters.length) = some 4 := by decide +kernel
set_option maxRecDepth 100000 in
set_option maxHeartbeats 4000000 in
theorem k_X11_token {l : Launch} {ad : Nat → Nat} {D : va_G} {cy : Nat → ClassId} {z : wStr} (hI : wI WM ad) {σ : St} {x1 : Int32} {x2 : Int32} {x3 : Int32} {x4 : Int64}  {res : St} (hf : f_X11_token σ x1 x2 x3 x4 = some res) : wC WM ad D cy z l yX11_token (Cond.code yX11_token cX11_token 6 (none) :: aw) (1) (100) [.ref (ad 0), .int x1, .int x2, .int x3, .long x4] σ (wQv WM ad D cy res) := by
  unfold f_X11_token at hf
  refine wr_start (own := RX11) hI (by decide +kernel) rfl (Nat.le_of_ble_eq_true rfl) rfl ?_
  intro p e s m below meth c ls X hw hr hl
  have hx := X.hx
  have hb := X.hb
  obtain ⟨H, eH⟩ : ∃ H : Heap, H = s.heap := ⟨_, rfl⟩
  obtain ⟨locs, el⟩ : ∃ locs : List Loc, locs = [] := ⟨_, rfl⟩
  rw [← eH, ← el] at hw ⊢
  clear eH el
  replace hl : lv_has ls 6 [(0, .ref (ad 0)), (1, .int x1), (2, .int x2), (3, .int x3), (4, .long x4)] := hl
  refine lv_aload_n hx hb dX11_token_0 rfl (lv_at hl 0 rfl) ?_
  refine gX11_5 (b := 3) X hw sM0 nM0 rfl fl_X11_20 dX11_token_1 ?_
  refine lv_aload_n hx hb dX11_token_4 rfl (lv_at hl 0 rfl) ?_
  refine gX11_10 X hw sM0 nM0 fl_X11_160 dX11_token_5 ?_
  refine lv_iload_n hx hb dX11_token_8 rfl (lv_at hl 1 rfl) ?_
  obtain ⟨h1, hf⟩ := if_some hf
  obtain ⟨σ2, eσ2, hf⟩ := wlet_some hf
  refine wr_iast X hw sM3 nM3 h1 dX11_token_9 (fun H locs hw => ?_)
  replace hw := hw.to eσ2
  refine lv_aload_n hx hb dX11_token_10 rfl (lv_at hl 0 rfl) ?_
  refine gX11_6 (b := 4) X hw sM0 nM0 rfl fl_X11_24 dX11_token_11 ?_
  refine lv_aload_n hx hb dX11_token_14 rfl (lv_at hl 0 rfl) ?_
  refine gX11_10 X hw sM0 nM0 fl_X11_160 dX11_token_15 ?_
  refine lv_iload_n hx hb dX11_token_18 rfl (lv_at hl 2 rfl) ?_
  obtain ⟨h3, hf⟩ := if_some hf
  obtain ⟨σ4, eσ4, hf⟩ := wlet_some hf
  refine wr_iast X hw sM4 nM4 h3 dX11_token_19 (fun H locs hw => ?_)
  replace hw := hw.to eσ4
  refine lv_aload_n hx hb dX11_token_20 rfl (lv_at hl 0 rfl) ?_
  refine gX11_7 (b := 5) X hw sM0 nM0 rfl fl_X11_27 dX11_token_21 ?_
  refine lv_aload_n hx hb dX11_token_24 rfl (lv_at hl 0 rfl) ?_
  refine gX11_10 X hw sM0 nM0 fl_X11_160 dX11_token_25 ?_
  refine lv_iload_n hx hb dX11_token_28 rfl (lv_at hl 3 rfl) ?_
  obtain ⟨h5, hf⟩ := if_some hf
  obtain ⟨σ6, eσ6, hf⟩ := wlet_some hf
  refine wr_iast X hw sM5 nM5 h5 dX11_token_29 (fun H locs hw => ?_)
  replace hw := hw.to eσ6
  refine lv_aload_n hx hb dX11_token_30 rfl (lv_at hl 0 rfl) ?_
  refine gX11_8 (b := 6) X hw sM0 nM0 rfl fl_X11_30 dX11_token_31 ?_
  refine lv_aload_n hx hb dX11_token_34 rfl (lv_at hl 0 rfl) ?_
  refine gX11_10 X hw sM0 nM0 fl_X11_160 dX11_token_35 ?_
  refine lv_lload hx hb dX11_token_38 (lv_at hl 4 rfl) ?_
  obtain ⟨h7, hf⟩ := if_some hf
  obtain ⟨σ8, eσ8, hf⟩ := wlet_some hf
  refine wr_last X hw sM6 nM6 h7 dX11_token_40 (fun H locs hw => ?_)
  replace hw := hw.to eσ8
  refine lv_aload_n hx hb dX11_token_41 rfl (lv_at hl 0 rfl) ?_
  refine lv_dup hx hb dX11_token_42 rfl ?_
  refine gX11_10 X hw sM0 nM0 fl_X11_160 dX11_token_43 ?_
  refine lv_iconst (v := 1) hx hb dX11_token_46 (by decide) ?_
  refine lv_iadd hx hb dX11_token_47 ?_
  obtain ⟨σ9, eσ9, hf⟩ := wlet_some hf
  refine pX11_10 X hw sM0 nM0 fl_X11_160 dX11_token_48 (fun H locs hw => ?_)
  replace hw := hw.to eσ9
  have er := Option.some.inj hf
  subst er
  exact wr_vret X hw hr dX11_token_51

def f_X11_sign (σ : St) (x1 : Int32) (x2 : Int32) (x3 : Int32) : Option (Int32 × St) := wlet (fun (s0_43_1 : Int32) => (wlet (fun (x4_55_2 : Int32) => (wlet (fun (x4_65_3 : Int32) => (wlet (fun (x4_75_4 : Int32) => (wlet (fun (x4_85_5 : Int32) => (wlet (fun (x4_95_6 : Int32) => (Option.bind (f_X11_token σ x4_95_6 x1 (0 : Int32) (0 : Int64)) fun σ8 => some ((1 : Int32), σ8) : Option (Int32 × St))) fun k95_6 => if x2 = (60 : Int32) then (k95_6 (13 : Int32)) else (k95_6 x4_85_5) : Option (Int32 × St))) fun k85_5 => if x2 = (47 : Int32) then (k85_5 (15 : Int32)) else (k85_5 x4_75_4) : Option (Int32 × St))) fun k75_4 => if x2 = (42 : Int32) then (k75_4 (10 : Int32)) else (k75_4 x4_65_3) : Option (Int32 × St))) fun k65_3 => if x2 = (45 : Int32) then (k65_3 (9 : Int32)) else (k65_3 x4_55_2) : Option (Int32 × St))) fun k55_2 => if x2 = (43 : Int32) then (k55_2 (8 : Int32)) else (k55_2 s0_43_1) : Option (Int32 × St))) fun k43_1 => if x2 = (59 : Int32) then (k43_1 (4 : Int32)) else (if x2 = (61 : Int32) then (k43_1 (5 : Int32)) else (if x2 = (40 : Int32) then (k43_1 (6 : Int32)) else (if x2 = (41 : Int32) then (k43_1 (7 : Int32)) else (k43_1 (3 : Int32)))))
theorem hd_X11_sign : yX11_sign.cls = RX11 ∧ yX11_sign.cls ≠ "java/lang/invoke/MethodHandle" ∧ yX11_sign.cls ≠ "java/lang/invoke/VarHandle" ∧ (parseMethodDescriptor yX11_sign.desc).map (fun d => d.parameters.length) = some 3 := by decide +kernel
set_option maxRecDepth 100000 in
set_option maxHeartbeats 4000000 in
theorem k_X11_sign {l : Launch} {ad : Nat → Nat} {D : va_G} {cy : Nat → ClassId} {z : wStr} (hI : wI WM ad) {σ : St} {x1 : Int32} {x2 : Int32} {x3 : Int32}  {res : Int32 × St} (hf : f_X11_sign σ x1 x2 x3 = some res) : wC WM ad D cy z l yX11_sign (Cond.code yX11_sign cX11_sign 5 (Option.some Jvm.ClassFile.FieldType.int) :: aw) (2) (125) [.ref (ad 0), .int x1, .int x2, .int x3] σ (wQi WM ad D cy res.1 res.2) := by
  unfold f_X11_sign at hf
  refine wr_start (own := RX11) hI (by decide +kernel) rfl (Nat.le_of_ble_eq_true rfl) rfl ?_
  intro p e s m below meth c ls X hw hr hl
  have hx := X.hx
  have hb := X.hb
  obtain ⟨H, eH⟩ : ∃ H : Heap, H = s.heap := ⟨_, rfl⟩
  obtain ⟨locs, el⟩ : ∃ locs : List Loc, locs = [] := ⟨_, rfl⟩
  rw [← eH, ← el] at hw ⊢
  clear eH el
  replace hl : lv_has ls 5 [(0, .ref (ad 0)), (1, .int x1), (2, .int x2), (3, .int x3)] := hl
  refine lv_iload_n hx hb dX11_sign_0 rfl (lv_at hl 2 rfl) ?_
  refine lv_bipush (v := 59) hx hb dX11_sign_1 (by decide) ?_
  obtain ⟨k43_1, ek43_1, hf0⟩ := wlet_some hf
  have j43_1 : ∀ (s0_43_1 : Int32) (_ : k43_1 s0_43_1 = some res) (ls : Array Slot) (H : Heap) (locs : List Loc), lv_has ls 5 [(0, .ref (ad 0)), (1, .int x1), (2, .int x2)] → wH WM ad D cy s σ H locs → W p l e { frames := 2, cells := 0, slots := 0, locals := 125 } s m [.ref (ad 0), .int x1, .int x2, .int x3].toArray below meth c H locs 0 0 (MQ below (wQi WM ad D cy res.1 res.2) [.ref (ad 0), .int x1, .int x2, .int x3].toArray s 0 0 (wA WM ad)) (F0 m 43 ls [.int s0_43_1]) := by
    intro s0_43_1 hf ls H locs hl hw
    rw [ek43_1] at hf
    refine lv_istore (lv' := [(4, .int s0_43_1), (0, .ref (ad 0)), (1, .int x1), (2, .int x2)]) hx hb dX11_sign_43 hl (by decide) rfl (fun ls hl => ?_)
    refine lv_iload_n hx hb dX11_sign_45 rfl (lv_at hl 3 rfl) ?_
    refine lv_bipush (v := 43) hx hb dX11_sign_46 (by decide) ?_
    obtain ⟨k55_2, ek55_2, hf0⟩ := wlet_some hf
    have j55_2 : ∀ (x4_55_2 : Int32) (_ : k55_2 x4_55_2 = some res) (ls : Array Slot) (H : Heap) (locs : List Loc), lv_has ls 5 [(0, .ref (ad 0)), (1, .int x1), (2, .int x2), (4, .int x4_55_2)] → wH WM ad D cy s σ H locs → W p l e { frames := 2, cells := 0, slots := 0, locals := 125 } s m [.ref (ad 0), .int x1, .int x2, .int x3].toArray below meth c H locs 0 0 (MQ below (wQi WM ad D cy res.1 res.2) [.ref (ad 0), .int x1, .int x2, .int x3].toArray s 0 0 (wA WM ad)) (F0 m 55 ls []) := by
      intro x4_55_2 hf ls H locs hl hw
      rw [ek55_2] at hf
      refine lv_iload_n hx hb dX11_sign_55 rfl (lv_at hl 2 rfl) ?_
      refine lv_bipush (v := 45) hx hb dX11_sign_56 (by decide) ?_
      obtain ⟨k65_3, ek65_3, hf0⟩ := wlet_some hf
      have j65_3 : ∀ (x4_65_3 : Int32) (_ : k65_3 x4_65_3 = some res) (ls : Array Slot) (H : Heap) (locs : List Loc), lv_has ls 5 [(0, .ref (ad 0)), (1, .int x1), (2, .int x2), (4, .int x4_65_3)] → wH WM ad D cy s σ H locs → W p l e { frames := 2, cells := 0, slots := 0, locals := 125 } s m [.ref (ad 0), .int x1, .int x2, .int x3].toArray below meth c H locs 0 0 (MQ below (wQi WM ad D cy res.1 res.2) [.ref (ad 0), .int x1, .int x2, .int x3].toArray s 0 0 (wA WM ad)) (F0 m 65 ls []) := by
        intro x4_65_3 hf ls H locs hl hw
        rw [ek65_3] at hf
        refine lv_iload_n hx hb dX11_sign_65 rfl (lv_at hl 2 rfl) ?_
        refine lv_bipush (v := 42) hx hb dX11_sign_66 (by decide) ?_
        obtain ⟨k75_4, ek75_4, hf0⟩ := wlet_some hf
        have j75_4 : ∀ (x4_75_4 : Int32) (_ : k75_4 x4_75_4 = some res) (ls : Array Slot) (H : Heap) (locs : List Loc), lv_has ls 5 [(0, .ref (ad 0)), (1, .int x1), (2, .int x2), (4, .int x4_75_4)] → wH WM ad D cy s σ H locs → W p l e { frames := 2, cells := 0, slots := 0, locals := 125 } s m [.ref (ad 0), .int x1, .int x2, .int x3].toArray below meth c H locs 0 0 (MQ below (wQi WM ad D cy res.1 res.2) [.ref (ad 0), .int x1, .int x2, .int x3].toArray s 0 0 (wA WM ad)) (F0 m 75 ls []) := by
          intro x4_75_4 hf ls H locs hl hw
          rw [ek75_4] at hf
          refine lv_iload_n hx hb dX11_sign_75 rfl (lv_at hl 2 rfl) ?_
          refine lv_bipush (v := 47) hx hb dX11_sign_76 (by decide) ?_
          obtain ⟨k85_5, ek85_5, hf0⟩ := wlet_some hf
          have j85_5 : ∀ (x4_85_5 : Int32) (_ : k85_5 x4_85_5 = some res) (ls : Array Slot) (H : Heap) (locs : List Loc), lv_has ls 5 [(0, .ref (ad 0)), (1, .int x1), (2, .int x2), (4, .int x4_85_5)] → wH WM ad D cy s σ H locs → W p l e { frames := 2, cells := 0, slots := 0, locals := 125 } s m [.ref (ad 0), .int x1, .int x2, .int x3].toArray below meth c H locs 0 0 (MQ below (wQi WM ad D cy res.1 res.2) [.ref (ad 0), .int x1, .int x2, .int x3].toArray s 0 0 (wA WM ad)) (F0 m 85 ls []) := by
            intro x4_85_5 hf ls H locs hl hw
            rw [ek85_5] at hf
            refine lv_iload_n hx hb dX11_sign_85 rfl (lv_at hl 2 rfl) ?_
            refine lv_bipush (v := 60) hx hb dX11_sign_86 (by decide) ?_
            obtain ⟨k95_6, ek95_6, hf0⟩ := wlet_some hf
            have j95_6 : ∀ (x4_95_6 : Int32) (_ : k95_6 x4_95_6 = some res) (ls : Array Slot) (H : Heap) (locs : List Loc), lv_has ls 5 [(0, .ref (ad 0)), (1, .int x1), (4, .int x4_95_6)] → wH WM ad D cy s σ H locs → W p l e { frames := 2, cells := 0, slots := 0, locals := 125 } s m [.ref (ad 0), .int x1, .int x2, .int x3].toArray below meth c H locs 0 0 (MQ below (wQi WM ad D cy res.1 res.2) [.ref (ad 0), .int x1, .int x2, .int x3].toArray s 0 0 (wA WM ad)) (F0 m 95 ls []) := by
              intro x4_95_6 hf ls H locs hl hw
              rw [ek95_6] at hf
              refine lv_aload_n hx hb dX11_sign_95 rfl (lv_at hl 0 rfl) ?_
              refine lv_iload hx hb dX11_sign_96 (lv_at hl 2 rfl) ?_
              refine lv_iload_n hx hb dX11_sign_98 rfl (lv_at hl 1 rfl) ?_
              refine lv_iconst (v := 0) hx hb dX11_sign_99 (by decide) ?_
              refine lv_lconst (v := 0) hx hb dX11_sign_100 (by decide) ?_
              obtain ⟨σ8, hq7, hf⟩ := bind_some hf
              refine wr_cVv (σ' := σ8) (av := [.int x4_95_6, .int x1, .int (0 : Int32), .long (0 : Int64)]) (rest := []) X hw hl.1 sM0 nM0 rfl (k_X11_token hI hq7) rfl ml_X11_167 im_X11_token se_X11_token ini_X11 co_X11_token hd_X11_token ⟨Nat.le_of_ble_eq_true rfl, Nat.le_of_ble_eq_true rfl⟩ (Nat.le_of_ble_eq_true rfl) dX11_sign_101 rfl (fun H locs hw => ?_)
              refine lv_iconst (v := 1) hx hb dX11_sign_104 (by decide) ?_
              have er := Option.some.inj hf
              subst er
              exact wr_iret X hw hr (Or.inl rfl) dX11_sign_105
            replace hf := hf0
            refine lv_icmp_ne (tgt := 95) hx hb dX11_sign_88 (by decide) (fun c9 => ?_) (fun c9 => ?_)
            · have hf := (if_neg c9).symm.trans hf
              exact j95_6 x4_85_5 hf ls H locs (lv_sub hl [0, 1, 3] rfl) hw
            · have hf := (if_pos c9).symm.trans hf
              refine lv_bipush (v := 13) hx hb dX11_sign_91 (by decide) ?_
              refine lv_istore (lv' := [(4, .int (13 : Int32)), (0, .ref (ad 0)), (1, .int x1), (2, .int x2)]) hx hb dX11_sign_93 hl (by decide) rfl (fun ls hl => ?_)
              exact j95_6 (13 : Int32) hf ls H locs (lv_sub hl [1, 2, 0] rfl) hw
          replace hf := hf0
          refine lv_icmp_ne (tgt := 85) hx hb dX11_sign_78 (by decide) (fun c10 => ?_) (fun c10 => ?_)
          · have hf := (if_neg c10).symm.trans hf
            exact j85_5 x4_75_4 hf ls H locs (lv_sub hl [0, 1, 2, 3] rfl) hw
          · have hf := (if_pos c10).symm.trans hf
            refine lv_bipush (v := 15) hx hb dX11_sign_81 (by decide) ?_
            refine lv_istore (lv' := [(4, .int (15 : Int32)), (0, .ref (ad 0)), (1, .int x1), (2, .int x2)]) hx hb dX11_sign_83 hl (by decide) rfl (fun ls hl => ?_)
            exact j85_5 (15 : Int32) hf ls H locs (lv_sub hl [1, 2, 3, 0] rfl) hw
        replace hf := hf0
        refine lv_icmp_ne (tgt := 75) hx hb dX11_sign_68 (by decide) (fun c11 => ?_) (fun c11 => ?_)
        · have hf := (if_neg c11).symm.trans hf
          exact j75_4 x4_65_3 hf ls H locs (lv_sub hl [0, 1, 2, 3] rfl) hw
        · have hf := (if_pos c11).symm.trans hf
          refine lv_bipush (v := 10) hx hb dX11_sign_71 (by decide) ?_
          refine lv_istore (lv' := [(4, .int (10 : Int32)), (0, .ref (ad 0)), (1, .int x1), (2, .int x2)]) hx hb dX11_sign_73 hl (by decide) rfl (fun ls hl => ?_)
          exact j75_4 (10 : Int32) hf ls H locs (lv_sub hl [1, 2, 3, 0] rfl) hw
      replace hf := hf0
      refine lv_icmp_ne (tgt := 65) hx hb dX11_sign_58 (by decide) (fun c12 => ?_) (fun c12 => ?_)
      · have hf := (if_neg c12).symm.trans hf
        exact j65_3 x4_55_2 hf ls H locs (lv_sub hl [0, 1, 2, 3] rfl) hw
      · have hf := (if_pos c12).symm.trans hf
        refine lv_bipush (v := 9) hx hb dX11_sign_61 (by decide) ?_
        refine lv_istore (lv' := [(4, .int (9 : Int32)), (0, .ref (ad 0)), (1, .int x1), (2, .int x2)]) hx hb dX11_sign_63 hl (by decide) rfl (fun ls hl => ?_)
        exact j65_3 (9 : Int32) hf ls H locs (lv_sub hl [1, 2, 3, 0] rfl) hw
    replace hf := hf0
    refine lv_icmp_ne (tgt := 55) hx hb dX11_sign_48 (by decide) (fun c13 => ?_) (fun c13 => ?_)
    · have hf := (if_neg c13).symm.trans hf
      exact j55_2 s0_43_1 hf ls H locs (lv_sub hl [1, 2, 3, 0] rfl) hw
    · have hf := (if_pos c13).symm.trans hf
      refine lv_bipush (v := 8) hx hb dX11_sign_51 (by decide) ?_
      refine lv_istore (lv' := [(4, .int (8 : Int32)), (0, .ref (ad 0)), (1, .int x1), (2, .int x2)]) hx hb dX11_sign_53 hl (by decide) rfl (fun ls hl => ?_)
      exact j55_2 (8 : Int32) hf ls H locs (lv_sub hl [1, 2, 3, 0] rfl) hw
  replace hf := hf0
  refine lv_icmp_ne (tgt := 10) hx hb dX11_sign_3 (by decide) (fun c14 => ?_) (fun c14 => ?_)
  · have hf := (if_neg c14).symm.trans hf
    refine lv_iload_n hx hb dX11_sign_10 rfl (lv_at hl 2 rfl) ?_
    refine lv_bipush (v := 61) hx hb dX11_sign_11 (by decide) ?_
    refine lv_icmp_ne (tgt := 20) hx hb dX11_sign_13 (by decide) (fun c15 => ?_) (fun c15 => ?_)
    · have hf := (if_neg c15).symm.trans hf
      refine lv_iload_n hx hb dX11_sign_20 rfl (lv_at hl 2 rfl) ?_
      refine lv_bipush (v := 40) hx hb dX11_sign_21 (by decide) ?_
      refine lv_icmp_ne (tgt := 31) hx hb dX11_sign_23 (by decide) (fun c16 => ?_) (fun c16 => ?_)
      · have hf := (if_neg c16).symm.trans hf
        refine lv_iload_n hx hb dX11_sign_31 rfl (lv_at hl 2 rfl) ?_
        refine lv_bipush (v := 41) hx hb dX11_sign_32 (by decide) ?_
        refine lv_icmp_ne (tgt := 42) hx hb dX11_sign_34 (by decide) (fun c17 => ?_) (fun c17 => ?_)
        · have hf := (if_neg c17).symm.trans hf
          refine lv_iconst (v := 3) hx hb dX11_sign_42 (by decide) ?_
          exact j43_1 (3 : Int32) hf ls H locs (lv_sub hl [0, 1, 2] rfl) hw
        · have hf := (if_pos c17).symm.trans hf
          refine lv_bipush (v := 7) hx hb dX11_sign_37 (by decide) ?_
          refine lv_goto (tgt := 43) hx hb dX11_sign_39 (by decide) ?_
          exact j43_1 (7 : Int32) hf ls H locs (lv_sub hl [0, 1, 2] rfl) hw
      · have hf := (if_pos c16).symm.trans hf
        refine lv_bipush (v := 6) hx hb dX11_sign_26 (by decide) ?_
        refine lv_goto (tgt := 43) hx hb dX11_sign_28 (by decide) ?_
        exact j43_1 (6 : Int32) hf ls H locs (lv_sub hl [0, 1, 2] rfl) hw
    · have hf := (if_pos c15).symm.trans hf
      refine lv_iconst (v := 5) hx hb dX11_sign_16 (by decide) ?_
      refine lv_goto (tgt := 43) hx hb dX11_sign_17 (by decide) ?_
      exact j43_1 (5 : Int32) hf ls H locs (lv_sub hl [0, 1, 2] rfl) hw
  · have hf := (if_pos c14).symm.trans hf
    refine lv_iconst (v := 4) hx hb dX11_sign_6 (by decide) ?_
    refine lv_goto (tgt := 43) hx hb dX11_sign_7 (by decide) ?_
    exact j43_1 (4 : Int32) hf ls H locs (lv_sub hl [0, 1, 2] rfl) hw

def f_X11_cut (σ : St)  : Option (St) := wlet (si σ 0 10 (0 : Int32)) fun σ1 => wlet (un2 (fun (σ7_2 : St) (x1_7_2 : Int32) => if (400 : Int32) < (σ7_2.1 0 10) then (some (.inr (.inl σ7_2))) else (Option.bind (f_X11_byteAt σ7_2 x1_7_2) fun v5 => if x1_7_2 < (σ7_2.1 0 4) then (if v5 = (9 : Int32) then (wlet (x1_7_2 + (1 : Int32)) fun v8 => some (.inl (σ7_2, v8))) else (if v5 = (10 : Int32) then (wlet (x1_7_2 + (1 : Int32)) fun v10 => some (.inl (σ7_2, v10))) else (if v5 = (13 : Int32) then (wlet (x1_7_2 + (1 : Int32)) fun v12 => some (.inl (σ7_2, v12))) else (if v5 = (32 : Int32) then (wlet (x1_7_2 + (1 : Int32)) fun v70 => some (.inl (σ7_2, v70))) else (Option.bind (f_X11_isLetter v5) fun v15 => if v15 = 0 then (Option.bind (f_X11_isDigit v5) fun v18 => if v18 = 0 then (Option.bind (f_X11_byteAt σ7_2 (x1_7_2 + (1 : Int32))) fun v21 => bnd2 (f_X11_sign σ7_2 x1_7_2 v5 v21) fun v23 σ24 => wlet (x1_7_2 + v23) fun v25 => some (.inl (σ24, v25))) else (wlet (un2 (fun (x3_208_26 : Int32) (x4_208_26 : Int32) => Option.bind (f_X11_byteAt σ7_2 (x1_7_2 + x3_208_26)) fun v33 => Option.bind (f_X11_isDigit v33) fun v35 => if v35 = 0 then (some (.inr (x3_208_26, x4_208_26))) else (if (4 : Int32) ≤ x3_208_26 then (wlet (x3_208_26 + (1 : Int32)) fun v38 => some (.inl (v38, x4_208_26))) else (Option.bind (f_X11_byteAt σ7_2 (x1_7_2 + x3_208_26)) fun v40 => wlet ((((10 : Int32) * x4_208_26) + v40) - (48 : Int32)) fun v41 => wlet (x3_208_26 + (1 : Int32)) fun v42 => some (.inl (v42, v41))))) : Int32 × Int32 → Option ((Int32 × Int32) ⊕ (Int32 × Int32))) fun st208_26 => Option.bind (lp st208_26 fuel ((0 : Int32), (0 : Int32))) ((un2 (fun (x3_e208_26 : Int32) (x4_e208_26 : Int32) => wlet (fun (s1_261_27 : Int32) => (Option.bind (f_X11_token σ7_2 s1_261_27 x1_7_2 x4_e208_26 (0 : Int64)) fun σ29 => wlet (x1_7_2 + x3_e208_26) fun v30 => some (.inl (σ29, v30)) : Option ((St × Int32) ⊕ ((St) ⊕ (St))))) fun k261_27 => if x3_e208_26 ≤ (4 : Int32) then (k261_27 (2 : Int32)) else (k261_27 (3 : Int32))))))) else (wlet (un2 (fun (x3_85_43 : Int32) (x4_85_43 : Int64) => Option.bind (f_X11_byteAt σ7_2 (x1_7_2 + x3_85_43)) fun v59 => Option.bind (f_X11_isLetter v59) fun v61 => if v61 = 0 then (some (.inr (x3_85_43, x4_85_43))) else (if (8 : Int32) ≤ x3_85_43 then (wlet (x3_85_43 + (1 : Int32)) fun v64 => some (.inl (v64, x4_85_43))) else (Option.bind (f_X11_byteAt σ7_2 (x1_7_2 + x3_85_43)) fun v66 => Option.bind (f_X11_appends x4_85_43 v66) fun v68 => wlet (x3_85_43 + (1 : Int32)) fun v69 => some (.inl (v69, v68))))) : Int32 × Int64 → Option ((Int32 × Int64) ⊕ (Int32 × Int64))) fun st85_43 => Option.bind (lp st85_43 fuel ((0 : Int32), (0 : Int64))) ((un2 (fun (x3_e85_43 : Int32) (x4_e85_43 : Int64) => wlet (fun (s0_135_44 : Int32) => (wlet (fun (x6_179_45 : Int32) => (Option.bind (f_X11_token σ7_2 x6_179_45 x1_7_2 (0 : Int32) x4_e85_43) fun σ47 => wlet (x1_7_2 + x3_e85_43) fun v48 => some (.inl (σ47, v48)) : Option ((St × Int32) ⊕ ((St) ⊕ (St))))) fun k179_45 => if (8 : Int32) < x3_e85_43 then (k179_45 s0_135_44) else (wlet (un2 (fun (x6_146_50 : Int32) (x7_146_50 : Int32) => if (19 : Int32) ≤ x7_146_50 then (some (.inr x6_146_50)) else (if ib x7_146_50 19 = true then if (lg_cmp (σ7_2.2 7 (Int32.toNatClampNeg x7_146_50)) x4_e85_43) = 0 then (wlet ((20 : Int32) + x7_146_50) fun v55 => wlet (x7_146_50 + (1 : Int32)) fun v56 => some (.inl (v55, v56))) else (wlet (x7_146_50 + (1 : Int32)) fun v54 => some (.inl (x6_146_50, v54))) else none)) : Int32 × Int32 → Option ((Int32 × Int32) ⊕ (Int32))) fun st146_50 => Option.bind (lp st146_50 fuel (s0_135_44, (0 : Int32))) ((fun (x6_e146_50 : Int32) => k179_45 x6_e146_50))) : Option ((St × Int32) ⊕ ((St) ⊕ (St))))) fun k135_44 => if x3_e85_43 ≤ (8 : Int32) then (k135_44 (1 : Int32)) else (k135_44 (3 : Int32))))))))))) else (Option.bind (f_X11_token σ7_2 (0 : Int32) (σ7_2.1 0 4) (0 : Int32) (0 : Int64)) fun σ72 => some (.inr (.inr σ72))))) : St × Int32 → Option ((St × Int32) ⊕ ((St) ⊕ (St)))) fun st7_2 => Option.bind (lp st7_2 fuel (σ1, (0 : Int32))) (sumk (fun (σe7_2 : St) => some σe7_2) (fun m => some m))
theorem hd_X11_cut : yX11_cut.cls = RX11 ∧ yX11_cut.cls ≠ "java/lang/invoke/MethodHandle" ∧ yX11_cut.cls ≠ "java/lang/invoke/VarHandle" ∧ (parseMethodDescriptor yX11_cut.desc).map (fun d => d.parameters.length) = some 0 := by decide +kernel
set_option maxRecDepth 100000 in
set_option maxHeartbeats 4000000 in
theorem k_X11_cut {l : Launch} {ad : Nat → Nat} {D : va_G} {cy : Nat → ClassId} {z : wStr} (hI : wI WM ad) {σ : St}   {res : St} (hf : f_X11_cut σ  = some res) : wC WM ad D cy z l yX11_cut (Cond.code yX11_cut cX11_cut 8 (none) :: aw) (3) (149) [.ref (ad 0)] σ (wQv WM ad D cy res) := by
  unfold f_X11_cut at hf
  refine wr_start (own := RX11) hI (by decide +kernel) rfl (Nat.le_of_ble_eq_true rfl) rfl ?_
  intro p e s m below meth c ls X hw hr hl
  have hx := X.hx
  have hb := X.hb
  obtain ⟨H, eH⟩ : ∃ H : Heap, H = s.heap := ⟨_, rfl⟩
  obtain ⟨locs, el⟩ : ∃ locs : List Loc, locs = [] := ⟨_, rfl⟩
  rw [← eH, ← el] at hw ⊢
  clear eH el
  replace hl : lv_has ls 8 [(0, .ref (ad 0))] := hl
  refine lv_aload_n hx hb dX11_cut_0 rfl (lv_at hl 0 rfl) ?_
  refine lv_iconst (v := 0) hx hb dX11_cut_1 (by decide) ?_
  obtain ⟨σ1, eσ1, hf⟩ := wlet_some hf
  refine pX11_10 X hw sM0 nM0 fl_X11_160 dX11_cut_2 (fun H locs hw => ?_)
  replace hw := hw.to eσ1
  refine lv_iconst (v := 0) hx hb dX11_cut_5 (by decide) ?_
  refine lv_istore_n (lv' := [(1, .int (0 : Int32)), (0, .ref (ad 0))]) hx hb dX11_cut_6 rfl hl (by decide) rfl (fun ls hl => ?_)
  obtain ⟨st7_2, est7_2, hf⟩ := wlet_some hf
  obtain ⟨E7_2, hq7_2, hE7_2⟩ := bind_some hf
  have hx7_2 : ∀ (σe7_2 : St) (_ : Sum.inl σe7_2 = E7_2) (ls : Array Slot) (H : Heap) (locs : List Loc), lv_has ls 8 [] → wH WM ad D cy s σe7_2 H locs → W p l e { frames := 3, cells := 0, slots := 0, locals := 149 } s m [.ref (ad 0)].toArray below meth c H locs 0 0 (MQ below (wQv WM ad D cy res) [.ref (ad 0)].toArray s 0 0 (wA WM ad)) (F0 m 294 ls []) := by
    intro σe7_2 e0 ls H locs hl hw
    have hf := sumk_l hE7_2 e0
    have er := Option.some.inj hf
    subst er
    exact wr_vret X hw hr dX11_cut_294
  have lo7_2 : ∀ (n : Nat) (σ7_2 : St) (x1_7_2 : Int32) (_ : lp st7_2 n (σ7_2, x1_7_2) = some E7_2) (ls : Array Slot) (H : Heap) (locs : List Loc), lv_has ls 8 [(0, .ref (ad 0)), (1, .int x1_7_2)] → wH WM ad D cy s σ7_2 H locs → W p l e { frames := 3, cells := 0, slots := 0, locals := 149 } s m [.ref (ad 0)].toArray below meth c H locs 0 0 (MQ below (wQv WM ad D cy res) [.ref (ad 0)].toArray s 0 0 (wA WM ad)) (F0 m 7 ls []) := by
    intro n
    induction n with
    | zero =>
      intro σ7_2 x1_7_2 hf ls H locs hl hw
      exact (lp_zero hf).elim
    | succ n ih7_2 =>
      intro σ7_2 x1_7_2 hf ls H locs hl hw
      obtain ⟨q7_2, hf, hz7_2⟩ := lp_succ hf
      rw [est7_2] at hf
      replace hf := un2_some hf
      refine lv_aload_n hx hb dX11_cut_7 rfl (lv_at hl 0 rfl) ?_
      refine gX11_10 X hw sM0 nM0 fl_X11_160 dX11_cut_8 ?_
      refine lv_sipush (v := 400) hx hb dX11_cut_11 (by decide) ?_
      refine lv_icmp_gt (tgt := 294) hx hb dX11_cut_14 (by decide) (fun c3 => ?_) (fun c3 => ?_)
      · have hf := (if_pos c3).symm.trans hf
        exact hx7_2 σ7_2 (lpK_inr (lp_leaf hf hz7_2)) ls H locs (lv_sub hl [] rfl) hw
      · have hf := (if_neg c3).symm.trans hf
        refine lv_aload_n hx hb dX11_cut_17 rfl (lv_at hl 0 rfl) ?_
        refine lv_iload_n hx hb dX11_cut_18 rfl (lv_at hl 1 rfl) ?_
        obtain ⟨v5, hq4, hf⟩ := bind_some hf
        refine wr_cVi (r := v5) (σ' := σ7_2) (av := [.int x1_7_2]) (rest := []) X hw hl.1 sM0 nM0 rfl (k_X11_byteAt hI hq4) rfl ml_X11_163 im_X11_byteAt se_X11_byteAt ini_X11 co_X11_byteAt hd_X11_byteAt ⟨Nat.le_of_ble_eq_true rfl, Nat.le_of_ble_eq_true rfl⟩ (Nat.le_of_ble_eq_true rfl) dX11_cut_19 rfl (fun H locs hw => ?_)
        refine lv_istore_n (lv' := [(2, .int v5), (0, .ref (ad 0)), (1, .int x1_7_2)]) hx hb dX11_cut_22 rfl hl (by decide) rfl (fun ls hl => ?_)
        refine lv_iload_n hx hb dX11_cut_23 rfl (lv_at hl 2 rfl) ?_
        refine lv_aload_n hx hb dX11_cut_24 rfl (lv_at hl 1 rfl) ?_
        refine gX11_4 X hw sM0 nM0 fl_X11_155 dX11_cut_25 ?_
        refine lv_icmp_lt (tgt := 43) hx hb dX11_cut_28 (by decide) (fun c6 => ?_) (fun c6 => ?_)
        · have hf := (if_pos c6).symm.trans hf
          refine lv_iload_n hx hb dX11_cut_43 rfl (lv_at hl 0 rfl) ?_
          refine lv_bipush (v := 9) hx hb dX11_cut_44 (by decide) ?_
          refine lv_icmp_eq (tgt := 67) hx hb dX11_cut_46 (by decide) (fun c7 => ?_) (fun c7 => ?_)
          · have hf := (if_pos c7).symm.trans hf
            obtain ⟨v8, ev8, hf⟩ := wlet_some hf
            refine lv_iinc (v := v8) (lv' := [(1, .int v8), (2, .int v5), (0, .ref (ad 0))]) hx hb dX11_cut_67 hl (k := 2) rfl (by rw [ev8]; rfl) (by decide) rfl (fun ls hl => ?_)
            refine lv_goto (tgt := 291) hx hb dX11_cut_70 (by decide) ?_
            refine lv_goto (tgt := 7) hx hb dX11_cut_291 (by decide) ?_
            exact ih7_2 σ7_2 v8 (lp_leaf hf hz7_2) ls H locs (lv_sub hl [2, 0] rfl) hw
          · have hf := (if_neg c7).symm.trans hf
            refine lv_iload_n hx hb dX11_cut_49 rfl (lv_at hl 0 rfl) ?_
            refine lv_bipush (v := 10) hx hb dX11_cut_50 (by decide) ?_
            refine lv_icmp_eq (tgt := 67) hx hb dX11_cut_52 (by decide) (fun c9 => ?_) (fun c9 => ?_)
            · have hf := (if_pos c9).symm.trans hf
              obtain ⟨v10, ev10, hf⟩ := wlet_some hf
              refine lv_iinc (v := v10) (lv' := [(1, .int v10), (2, .int v5), (0, .ref (ad 0))]) hx hb dX11_cut_67 hl (k := 2) rfl (by rw [ev10]; rfl) (by decide) rfl (fun ls hl => ?_)
              refine lv_goto (tgt := 291) hx hb dX11_cut_70 (by decide) ?_
              refine lv_goto (tgt := 7) hx hb dX11_cut_291 (by decide) ?_
              exact ih7_2 σ7_2 v10 (lp_leaf hf hz7_2) ls H locs (lv_sub hl [2, 0] rfl) hw
            · have hf := (if_neg c9).symm.trans hf
              refine lv_iload_n hx hb dX11_cut_55 rfl (lv_at hl 0 rfl) ?_
              refine lv_bipush (v := 13) hx hb dX11_cut_56 (by decide) ?_
              refine lv_icmp_eq (tgt := 67) hx hb dX11_cut_58 (by decide) (fun c11 => ?_) (fun c11 => ?_)
              · have hf := (if_pos c11).symm.trans hf
                obtain ⟨v12, ev12, hf⟩ := wlet_some hf
                refine lv_iinc (v := v12) (lv' := [(1, .int v12), (2, .int v5), (0, .ref (ad 0))]) hx hb dX11_cut_67 hl (k := 2) rfl (by rw [ev12]; rfl) (by decide) rfl (fun ls hl => ?_)
                refine lv_goto (tgt := 291) hx hb dX11_cut_70 (by decide) ?_
                refine lv_goto (tgt := 7) hx hb dX11_cut_291 (by decide) ?_
                exact ih7_2 σ7_2 v12 (lp_leaf hf hz7_2) ls H locs (lv_sub hl [2, 0] rfl) hw
              · have hf := (if_neg c11).symm.trans hf
                refine lv_iload_n hx hb dX11_cut_61 rfl (lv_at hl 0 rfl) ?_
                refine lv_bipush (v := 32) hx hb dX11_cut_62 (by decide) ?_
                refine lv_icmp_ne (tgt := 73) hx hb dX11_cut_64 (by decide) (fun c13 => ?_) (fun c13 => ?_)
                · have hf := (if_neg c13).symm.trans hf
                  refine lv_iload_n hx hb dX11_cut_73 rfl (lv_at hl 0 rfl) ?_
                  obtain ⟨v15, hq14, hf⟩ := bind_some hf
                  refine wr_cSi (r := v15) (σ' := σ7_2) (av := [.int v5]) (rest := []) X hw hl.1 (k_X11_isLetter hI hq14) rfl ml_X11_171 st_X11_isLetter ini_X11 co_X11_isLetter hd_X11_isLetter ⟨Nat.le_of_ble_eq_true rfl, Nat.le_of_ble_eq_true rfl⟩ (Nat.le_of_ble_eq_true rfl) dX11_cut_74 rfl (fun H locs hw => ?_)
                  refine lv_if_eq (tgt := 196) hx hb dX11_cut_77 (by decide) (fun c16 => ?_) (fun c16 => ?_)
                  · have hf := (if_pos c16).symm.trans hf
                    refine lv_iload_n hx hb dX11_cut_196 rfl (lv_at hl 0 rfl) ?_
                    obtain ⟨v18, hq17, hf⟩ := bind_some hf
                    refine wr_cSi (r := v18) (σ' := σ7_2) (av := [.int v5]) (rest := []) X hw hl.1 (k_X11_isDigit hI hq17) rfl ml_X11_175 st_X11_isDigit ini_X11 co_X11_isDigit hd_X11_isDigit ⟨Nat.le_of_ble_eq_true rfl, Nat.le_of_ble_eq_true rfl⟩ (Nat.le_of_ble_eq_true rfl) dX11_cut_197 rfl (fun H locs hw => ?_)
                    refine lv_if_eq (tgt := 275) hx hb dX11_cut_200 (by decide) (fun c19 => ?_) (fun c19 => ?_)
                    · have hf := (if_pos c19).symm.trans hf
                      refine lv_iload_n hx hb dX11_cut_275 rfl (lv_at hl 2 rfl) ?_
                      refine lv_aload_n hx hb dX11_cut_276 rfl (lv_at hl 1 rfl) ?_
                      refine lv_iload_n hx hb dX11_cut_277 rfl (lv_at hl 2 rfl) ?_
                      refine lv_iload_n hx hb dX11_cut_278 rfl (lv_at hl 0 rfl) ?_
                      refine lv_aload_n hx hb dX11_cut_279 rfl (lv_at hl 1 rfl) ?_
                      refine lv_iload_n hx hb dX11_cut_280 rfl (lv_at hl 2 rfl) ?_
                      refine lv_iconst (v := 1) hx hb dX11_cut_281 (by decide) ?_
                      refine lv_iadd hx hb dX11_cut_282 ?_
                      obtain ⟨v21, hq20, hf⟩ := bind_some hf
                      refine wr_cVi (r := v21) (σ' := σ7_2) (av := [.int (x1_7_2 + (1 : Int32))]) (rest := [.int v5, .int x1_7_2, .ref (ad 0), .int x1_7_2]) X hw hl.1 sM0 nM0 rfl (k_X11_byteAt hI hq20) rfl ml_X11_163 im_X11_byteAt se_X11_byteAt ini_X11 co_X11_byteAt hd_X11_byteAt ⟨Nat.le_of_ble_eq_true rfl, Nat.le_of_ble_eq_true rfl⟩ (Nat.le_of_ble_eq_true rfl) dX11_cut_283 rfl (fun H locs hw => ?_)
                      obtain ⟨v23, σ24, hq22, hf⟩ := bnd2_some hf
                      refine wr_cVi (r := v23) (σ' := σ24) (av := [.int x1_7_2, .int v5, .int v21]) (rest := [.int x1_7_2]) X hw hl.1 sM0 nM0 rfl (k_X11_sign hI hq22) rfl ml_X11_178 im_X11_sign se_X11_sign ini_X11 co_X11_sign hd_X11_sign ⟨Nat.le_of_ble_eq_true rfl, Nat.le_of_ble_eq_true rfl⟩ (Nat.le_of_ble_eq_true rfl) dX11_cut_286 rfl (fun H locs hw => ?_)
                      refine lv_iadd hx hb dX11_cut_289 ?_
                      obtain ⟨v25, ev25, hf⟩ := wlet_some hf
                      refine wr_top ev25 ?_
                      refine lv_istore_n (lv' := [(1, .int v25), (2, .int v5), (0, .ref (ad 0))]) hx hb dX11_cut_290 rfl hl (by decide) rfl (fun ls hl => ?_)
                      refine lv_goto (tgt := 7) hx hb dX11_cut_291 (by decide) ?_
                      exact ih7_2 σ24 v25 (lp_leaf hf hz7_2) ls H locs (lv_sub hl [2, 0] rfl) hw
                    · have hf := (if_neg c19).symm.trans hf
                      refine lv_iconst (v := 0) hx hb dX11_cut_203 (by decide) ?_
                      refine lv_istore_n (lv' := [(3, .int (0 : Int32)), (2, .int v5), (0, .ref (ad 0)), (1, .int x1_7_2)]) hx hb dX11_cut_204 rfl hl (by decide) rfl (fun ls hl => ?_)
                      refine lv_iconst (v := 0) hx hb dX11_cut_205 (by decide) ?_
                      refine lv_istore (lv' := [(4, .int (0 : Int32)), (3, .int (0 : Int32)), (2, .int v5), (0, .ref (ad 0)), (1, .int x1_7_2)]) hx hb dX11_cut_206 hl (by decide) rfl (fun ls hl => ?_)
                      obtain ⟨st208_26, est208_26, hf⟩ := wlet_some hf
                      obtain ⟨E208_26, hq208_26, hE208_26⟩ := bind_some hf
                      have hx208_26 : ∀ (x3_e208_26 : Int32) (x4_e208_26 : Int32) (_ : (x3_e208_26, x4_e208_26) = E208_26) (ls : Array Slot) (H : Heap) (locs : List Loc), lv_has ls 8 [(0, .ref (ad 0)), (1, .int x1_7_2), (3, .int x3_e208_26), (4, .int x4_e208_26)] → wH WM ad D cy s σ7_2 H locs → W p l e { frames := 3, cells := 0, slots := 0, locals := 149 } s m [.ref (ad 0)].toArray below meth c H locs 0 0 (MQ below (wQv WM ad D cy res) [.ref (ad 0)].toArray s 0 0 (wA WM ad)) (F0 m 250 ls []) := by
                        intro x3_e208_26 x4_e208_26 e0 ls H locs hl hw
                        subst e0
                        have hf := hE208_26
                        replace hf := un2_some hf
                        refine lv_aload_n hx hb dX11_cut_250 rfl (lv_at hl 0 rfl) ?_
                        refine lv_iload_n hx hb dX11_cut_251 rfl (lv_at hl 2 rfl) ?_
                        refine lv_iconst (v := 4) hx hb dX11_cut_252 (by decide) ?_
                        obtain ⟨k261_27, ek261_27, hf0⟩ := wlet_some hf
                        have j261_27 : ∀ (s1_261_27 : Int32) (_ : k261_27 s1_261_27 = some q7_2) (ls : Array Slot) (H : Heap) (locs : List Loc), lv_has ls 8 [(0, .ref (ad 0)), (1, .int x1_7_2), (3, .int x3_e208_26), (4, .int x4_e208_26)] → wH WM ad D cy s σ7_2 H locs → W p l e { frames := 3, cells := 0, slots := 0, locals := 149 } s m [.ref (ad 0)].toArray below meth c H locs 0 0 (MQ below (wQv WM ad D cy res) [.ref (ad 0)].toArray s 0 0 (wA WM ad)) (F0 m 261 ls [.int s1_261_27, .ref (ad 0)]) := by
                          intro s1_261_27 hf ls H locs hl hw
                          rw [ek261_27] at hf
                          refine lv_iload_n hx hb dX11_cut_261 rfl (lv_at hl 1 rfl) ?_
                          refine lv_iload hx hb dX11_cut_262 (lv_at hl 3 rfl) ?_
                          refine lv_lconst (v := 0) hx hb dX11_cut_264 (by decide) ?_
                          obtain ⟨σ29, hq28, hf⟩ := bind_some hf
                          refine wr_cVv (σ' := σ29) (av := [.int s1_261_27, .int x1_7_2, .int x4_e208_26, .long (0 : Int64)]) (rest := []) X hw hl.1 sM0 nM0 rfl (k_X11_token hI hq28) rfl ml_X11_167 im_X11_token se_X11_token ini_X11 co_X11_token hd_X11_token ⟨Nat.le_of_ble_eq_true rfl, Nat.le_of_ble_eq_true rfl⟩ (Nat.le_of_ble_eq_true rfl) dX11_cut_265 rfl (fun H locs hw => ?_)
                          refine lv_iload_n hx hb dX11_cut_268 rfl (lv_at hl 1 rfl) ?_
                          refine lv_iload_n hx hb dX11_cut_269 rfl (lv_at hl 2 rfl) ?_
                          refine lv_iadd hx hb dX11_cut_270 ?_
                          obtain ⟨v30, ev30, hf⟩ := wlet_some hf
                          refine wr_top ev30 ?_
                          refine lv_istore_n (lv' := [(1, .int v30), (0, .ref (ad 0)), (3, .int x3_e208_26), (4, .int x4_e208_26)]) hx hb dX11_cut_271 rfl hl (by decide) rfl (fun ls hl => ?_)
                          refine lv_goto (tgt := 291) hx hb dX11_cut_272 (by decide) ?_
                          refine lv_goto (tgt := 7) hx hb dX11_cut_291 (by decide) ?_
                          exact ih7_2 σ29 v30 (lp_leaf hf hz7_2) ls H locs (lv_sub hl [1, 0] rfl) hw
                        replace hf := hf0
                        refine lv_icmp_le (tgt := 260) hx hb dX11_cut_253 (by decide) (fun c31 => ?_) (fun c31 => ?_)
                        · have hf := (if_pos c31).symm.trans hf
                          refine lv_iconst (v := 2) hx hb dX11_cut_260 (by decide) ?_
                          exact j261_27 (2 : Int32) hf ls H locs (lv_sub hl [0, 1, 2, 3] rfl) hw
                        · have hf := (if_neg c31).symm.trans hf
                          refine lv_iconst (v := 3) hx hb dX11_cut_256 (by decide) ?_
                          refine lv_goto (tgt := 261) hx hb dX11_cut_257 (by decide) ?_
                          exact j261_27 (3 : Int32) hf ls H locs (lv_sub hl [0, 1, 2, 3] rfl) hw
                      have lo208_26 : ∀ (n : Nat) (x3_208_26 : Int32) (x4_208_26 : Int32) (_ : lp st208_26 n (x3_208_26, x4_208_26) = some E208_26) (ls : Array Slot) (H : Heap) (locs : List Loc), lv_has ls 8 [(0, .ref (ad 0)), (1, .int x1_7_2), (3, .int x3_208_26), (4, .int x4_208_26)] → wH WM ad D cy s σ7_2 H locs → W p l e { frames := 3, cells := 0, slots := 0, locals := 149 } s m [.ref (ad 0)].toArray below meth c H locs 0 0 (MQ below (wQv WM ad D cy res) [.ref (ad 0)].toArray s 0 0 (wA WM ad)) (F0 m 208 ls []) := by
                        intro n
                        induction n with
                        | zero =>
                          intro x3_208_26 x4_208_26 hf ls H locs hl hw
                          exact (lp_zero hf).elim
                        | succ n ih208_26 =>
                          intro x3_208_26 x4_208_26 hf ls H locs hl hw
                          obtain ⟨q208_26, hf, hz208_26⟩ := lp_succ hf
                          rw [est208_26] at hf
                          replace hf := un2_some hf
                          refine lv_aload_n hx hb dX11_cut_208 rfl (lv_at hl 0 rfl) ?_
                          refine lv_iload_n hx hb dX11_cut_209 rfl (lv_at hl 1 rfl) ?_
                          refine lv_iload_n hx hb dX11_cut_210 rfl (lv_at hl 2 rfl) ?_
                          refine lv_iadd hx hb dX11_cut_211 ?_
                          obtain ⟨v33, hq32, hf⟩ := bind_some hf
                          refine wr_cVi (r := v33) (σ' := σ7_2) (av := [.int (x1_7_2 + x3_208_26)]) (rest := []) X hw hl.1 sM0 nM0 rfl (k_X11_byteAt hI hq32) rfl ml_X11_163 im_X11_byteAt se_X11_byteAt ini_X11 co_X11_byteAt hd_X11_byteAt ⟨Nat.le_of_ble_eq_true rfl, Nat.le_of_ble_eq_true rfl⟩ (Nat.le_of_ble_eq_true rfl) dX11_cut_212 rfl (fun H locs hw => ?_)
                          obtain ⟨v35, hq34, hf⟩ := bind_some hf
                          refine wr_cSi (r := v35) (σ' := σ7_2) (av := [.int v33]) (rest := []) X hw hl.1 (k_X11_isDigit hI hq34) rfl ml_X11_175 st_X11_isDigit ini_X11 co_X11_isDigit hd_X11_isDigit ⟨Nat.le_of_ble_eq_true rfl, Nat.le_of_ble_eq_true rfl⟩ (Nat.le_of_ble_eq_true rfl) dX11_cut_215 rfl (fun H locs hw => ?_)
                          refine lv_if_eq (tgt := 250) hx hb dX11_cut_218 (by decide) (fun c36 => ?_) (fun c36 => ?_)
                          · have hf := (if_pos c36).symm.trans hf
                            exact hx208_26 x3_208_26 x4_208_26 (lpK_inr (lp_leaf hf hz208_26)) ls H locs (lv_sub hl [0, 1, 2, 3] rfl) hw
                          · have hf := (if_neg c36).symm.trans hf
                            refine lv_iload_n hx hb dX11_cut_221 rfl (lv_at hl 2 rfl) ?_
                            refine lv_iconst (v := 4) hx hb dX11_cut_222 (by decide) ?_
                            refine lv_icmp_ge (tgt := 244) hx hb dX11_cut_223 (by decide) (fun c37 => ?_) (fun c37 => ?_)
                            · have hf := (if_pos c37).symm.trans hf
                              obtain ⟨v38, ev38, hf⟩ := wlet_some hf
                              refine lv_iinc (v := v38) (lv' := [(3, .int v38), (0, .ref (ad 0)), (1, .int x1_7_2), (4, .int x4_208_26)]) hx hb dX11_cut_244 hl (k := 2) rfl (by rw [ev38]; rfl) (by decide) rfl (fun ls hl => ?_)
                              refine lv_goto (tgt := 208) hx hb dX11_cut_247 (by decide) ?_
                              exact ih208_26 v38 x4_208_26 (lp_leaf hf hz208_26) ls H locs (lv_sub hl [1, 2, 0, 3] rfl) hw
                            · have hf := (if_neg c37).symm.trans hf
                              refine lv_bipush (v := 10) hx hb dX11_cut_226 (by decide) ?_
                              refine lv_iload hx hb dX11_cut_228 (lv_at hl 3 rfl) ?_
                              refine lv_imul hx hb dX11_cut_230 ?_
                              refine lv_aload_n hx hb dX11_cut_231 rfl (lv_at hl 0 rfl) ?_
                              refine lv_iload_n hx hb dX11_cut_232 rfl (lv_at hl 1 rfl) ?_
                              refine lv_iload_n hx hb dX11_cut_233 rfl (lv_at hl 2 rfl) ?_
                              refine lv_iadd hx hb dX11_cut_234 ?_
                              obtain ⟨v40, hq39, hf⟩ := bind_some hf
                              refine wr_cVi (r := v40) (σ' := σ7_2) (av := [.int (x1_7_2 + x3_208_26)]) (rest := [.int ((10 : Int32) * x4_208_26)]) X hw hl.1 sM0 nM0 rfl (k_X11_byteAt hI hq39) rfl ml_X11_163 im_X11_byteAt se_X11_byteAt ini_X11 co_X11_byteAt hd_X11_byteAt ⟨Nat.le_of_ble_eq_true rfl, Nat.le_of_ble_eq_true rfl⟩ (Nat.le_of_ble_eq_true rfl) dX11_cut_235 rfl (fun H locs hw => ?_)
                              refine lv_iadd hx hb dX11_cut_238 ?_
                              refine lv_bipush (v := 48) hx hb dX11_cut_239 (by decide) ?_
                              refine lv_isub hx hb dX11_cut_241 ?_
                              obtain ⟨v41, ev41, hf⟩ := wlet_some hf
                              refine wr_top ev41 ?_
                              refine lv_istore (lv' := [(4, .int v41), (0, .ref (ad 0)), (1, .int x1_7_2), (3, .int x3_208_26)]) hx hb dX11_cut_242 hl (by decide) rfl (fun ls hl => ?_)
                              obtain ⟨v42, ev42, hf⟩ := wlet_some hf
                              refine lv_iinc (v := v42) (lv' := [(3, .int v42), (4, .int v41), (0, .ref (ad 0)), (1, .int x1_7_2)]) hx hb dX11_cut_244 hl (k := 3) rfl (by rw [ev42]; rfl) (by decide) rfl (fun ls hl => ?_)
                              refine lv_goto (tgt := 208) hx hb dX11_cut_247 (by decide) ?_
                              exact ih208_26 v42 v41 (lp_leaf hf hz208_26) ls H locs (lv_sub hl [2, 3, 0, 1] rfl) hw
                      exact lo208_26 fuel (0 : Int32) (0 : Int32) hq208_26 ls H locs (lv_sub hl [3, 4, 1, 0] rfl) hw
                  · have hf := (if_neg c16).symm.trans hf
                    refine lv_iconst (v := 0) hx hb dX11_cut_80 (by decide) ?_
                    refine lv_istore_n (lv' := [(3, .int (0 : Int32)), (2, .int v5), (0, .ref (ad 0)), (1, .int x1_7_2)]) hx hb dX11_cut_81 rfl hl (by decide) rfl (fun ls hl => ?_)
                    refine lv_lconst (v := 0) hx hb dX11_cut_82 (by decide) ?_
                    refine lv_lstore (lv' := [(4, .long (0 : Int64)), (3, .int (0 : Int32)), (2, .int v5), (0, .ref (ad 0)), (1, .int x1_7_2)]) hx hb dX11_cut_83 hl (by decide) rfl (fun ls hl => ?_)
                    obtain ⟨st85_43, est85_43, hf⟩ := wlet_some hf
                    obtain ⟨E85_43, hq85_43, hE85_43⟩ := bind_some hf
                    have hx85_43 : ∀ (x3_e85_43 : Int32) (x4_e85_43 : Int64) (_ : (x3_e85_43, x4_e85_43) = E85_43) (ls : Array Slot) (H : Heap) (locs : List Loc), lv_has ls 8 [(0, .ref (ad 0)), (1, .int x1_7_2), (3, .int x3_e85_43), (4, .long x4_e85_43)] → wH WM ad D cy s σ7_2 H locs → W p l e { frames := 3, cells := 0, slots := 0, locals := 149 } s m [.ref (ad 0)].toArray below meth c H locs 0 0 (MQ below (wQv WM ad D cy res) [.ref (ad 0)].toArray s 0 0 (wA WM ad)) (F0 m 124 ls []) := by
                      intro x3_e85_43 x4_e85_43 e0 ls H locs hl hw
                      subst e0
                      have hf := hE85_43
                      replace hf := un2_some hf
                      refine lv_iload_n hx hb dX11_cut_124 rfl (lv_at hl 2 rfl) ?_
                      refine lv_bipush (v := 8) hx hb dX11_cut_125 (by decide) ?_
                      obtain ⟨k135_44, ek135_44, hf0⟩ := wlet_some hf
                      have j135_44 : ∀ (s0_135_44 : Int32) (_ : k135_44 s0_135_44 = some q7_2) (ls : Array Slot) (H : Heap) (locs : List Loc), lv_has ls 8 [(0, .ref (ad 0)), (1, .int x1_7_2), (3, .int x3_e85_43), (4, .long x4_e85_43)] → wH WM ad D cy s σ7_2 H locs → W p l e { frames := 3, cells := 0, slots := 0, locals := 149 } s m [.ref (ad 0)].toArray below meth c H locs 0 0 (MQ below (wQv WM ad D cy res) [.ref (ad 0)].toArray s 0 0 (wA WM ad)) (F0 m 135 ls [.int s0_135_44]) := by
                        intro s0_135_44 hf ls H locs hl hw
                        rw [ek135_44] at hf
                        refine lv_istore (lv' := [(6, .int s0_135_44), (0, .ref (ad 0)), (1, .int x1_7_2), (3, .int x3_e85_43), (4, .long x4_e85_43)]) hx hb dX11_cut_135 hl (by decide) rfl (fun ls hl => ?_)
                        refine lv_iload_n hx hb dX11_cut_137 rfl (lv_at hl 3 rfl) ?_
                        refine lv_bipush (v := 8) hx hb dX11_cut_138 (by decide) ?_
                        obtain ⟨k179_45, ek179_45, hf0⟩ := wlet_some hf
                        have j179_45 : ∀ (x6_179_45 : Int32) (_ : k179_45 x6_179_45 = some q7_2) (ls : Array Slot) (H : Heap) (locs : List Loc), lv_has ls 8 [(0, .ref (ad 0)), (1, .int x1_7_2), (3, .int x3_e85_43), (4, .long x4_e85_43), (6, .int x6_179_45)] → wH WM ad D cy s σ7_2 H locs → W p l e { frames := 3, cells := 0, slots := 0, locals := 149 } s m [.ref (ad 0)].toArray below meth c H locs 0 0 (MQ below (wQv WM ad D cy res) [.ref (ad 0)].toArray s 0 0 (wA WM ad)) (F0 m 179 ls []) := by
                          intro x6_179_45 hf ls H locs hl hw
                          rw [ek179_45] at hf
                          refine lv_aload_n hx hb dX11_cut_179 rfl (lv_at hl 0 rfl) ?_
                          refine lv_iload hx hb dX11_cut_180 (lv_at hl 4 rfl) ?_
                          refine lv_iload_n hx hb dX11_cut_182 rfl (lv_at hl 1 rfl) ?_
                          refine lv_iconst (v := 0) hx hb dX11_cut_183 (by decide) ?_
                          refine lv_lload hx hb dX11_cut_184 (lv_at hl 3 rfl) ?_
                          obtain ⟨σ47, hq46, hf⟩ := bind_some hf
                          refine wr_cVv (σ' := σ47) (av := [.int x6_179_45, .int x1_7_2, .int (0 : Int32), .long x4_e85_43]) (rest := []) X hw hl.1 sM0 nM0 rfl (k_X11_token hI hq46) rfl ml_X11_167 im_X11_token se_X11_token ini_X11 co_X11_token hd_X11_token ⟨Nat.le_of_ble_eq_true rfl, Nat.le_of_ble_eq_true rfl⟩ (Nat.le_of_ble_eq_true rfl) dX11_cut_186 rfl (fun H locs hw => ?_)
                          refine lv_iload_n hx hb dX11_cut_189 rfl (lv_at hl 1 rfl) ?_
                          refine lv_iload_n hx hb dX11_cut_190 rfl (lv_at hl 2 rfl) ?_
                          refine lv_iadd hx hb dX11_cut_191 ?_
                          obtain ⟨v48, ev48, hf⟩ := wlet_some hf
                          refine wr_top ev48 ?_
                          refine lv_istore_n (lv' := [(1, .int v48), (0, .ref (ad 0)), (3, .int x3_e85_43), (4, .long x4_e85_43), (6, .int x6_179_45)]) hx hb dX11_cut_192 rfl hl (by decide) rfl (fun ls hl => ?_)
                          refine lv_goto (tgt := 291) hx hb dX11_cut_193 (by decide) ?_
                          refine lv_goto (tgt := 7) hx hb dX11_cut_291 (by decide) ?_
                          exact ih7_2 σ47 v48 (lp_leaf hf hz7_2) ls H locs (lv_sub hl [1, 0] rfl) hw
                        replace hf := hf0
                        refine lv_icmp_gt (tgt := 179) hx hb dX11_cut_140 (by decide) (fun c49 => ?_) (fun c49 => ?_)
                        · have hf := (if_pos c49).symm.trans hf
                          exact j179_45 s0_135_44 hf ls H locs (lv_sub hl [1, 2, 3, 4, 0] rfl) hw
                        · have hf := (if_neg c49).symm.trans hf
                          refine lv_iconst (v := 0) hx hb dX11_cut_143 (by decide) ?_
                          refine lv_istore (lv' := [(7, .int (0 : Int32)), (6, .int s0_135_44), (0, .ref (ad 0)), (1, .int x1_7_2), (3, .int x3_e85_43), (4, .long x4_e85_43)]) hx hb dX11_cut_144 hl (by decide) rfl (fun ls hl => ?_)
                          obtain ⟨st146_50, est146_50, hf⟩ := wlet_some hf
                          obtain ⟨E146_50, hq146_50, hE146_50⟩ := bind_some hf
                          have hx146_50 : ∀ (x6_e146_50 : Int32) (_ : x6_e146_50 = E146_50) (ls : Array Slot) (H : Heap) (locs : List Loc), lv_has ls 8 [(0, .ref (ad 0)), (1, .int x1_7_2), (3, .int x3_e85_43), (4, .long x4_e85_43), (6, .int x6_e146_50)] → wH WM ad D cy s σ7_2 H locs → W p l e { frames := 3, cells := 0, slots := 0, locals := 149 } s m [.ref (ad 0)].toArray below meth c H locs 0 0 (MQ below (wQv WM ad D cy res) [.ref (ad 0)].toArray s 0 0 (wA WM ad)) (F0 m 179 ls []) := by
                            intro x6_e146_50 e0 ls H locs hl hw
                            subst e0
                            have hf := hE146_50
                            exact j179_45 x6_e146_50 hf ls H locs (lv_sub hl [0, 1, 2, 3, 4] rfl) hw
                          have lo146_50 : ∀ (n : Nat) (x6_146_50 : Int32) (x7_146_50 : Int32) (_ : lp st146_50 n (x6_146_50, x7_146_50) = some E146_50) (ls : Array Slot) (H : Heap) (locs : List Loc), lv_has ls 8 [(0, .ref (ad 0)), (1, .int x1_7_2), (3, .int x3_e85_43), (4, .long x4_e85_43), (6, .int x6_146_50), (7, .int x7_146_50)] → wH WM ad D cy s σ7_2 H locs → W p l e { frames := 3, cells := 0, slots := 0, locals := 149 } s m [.ref (ad 0)].toArray below meth c H locs 0 0 (MQ below (wQv WM ad D cy res) [.ref (ad 0)].toArray s 0 0 (wA WM ad)) (F0 m 146 ls []) := by
                            intro n
                            induction n with
                            | zero =>
                              intro x6_146_50 x7_146_50 hf ls H locs hl hw
                              exact (lp_zero hf).elim
                            | succ n ih146_50 =>
                              intro x6_146_50 x7_146_50 hf ls H locs hl hw
                              obtain ⟨q146_50, hf, hz146_50⟩ := lp_succ hf
                              rw [est146_50] at hf
                              replace hf := un2_some hf
                              refine lv_iload hx hb dX11_cut_146 (lv_at hl 5 rfl) ?_
                              refine lv_bipush (v := 19) hx hb dX11_cut_148 (by decide) ?_
                              refine lv_icmp_ge (tgt := 179) hx hb dX11_cut_150 (by decide) (fun c51 => ?_) (fun c51 => ?_)
                              · have hf := (if_pos c51).symm.trans hf
                                exact hx146_50 x6_146_50 (lpK_inr (lp_leaf hf hz146_50)) ls H locs (lv_sub hl [0, 1, 2, 3, 4] rfl) hw
                              · have hf := (if_neg c51).symm.trans hf
                                refine lv_aload_n hx hb dX11_cut_153 rfl (lv_at hl 0 rfl) ?_
                                refine gX11_9 (b := 7) X hw sM0 nM0 rfl fl_X11_34 dX11_cut_154 ?_
                                refine lv_iload hx hb dX11_cut_157 (lv_at hl 5 rfl) ?_
                                obtain ⟨h52, hf⟩ := if_some hf
                                refine wr_lald X hw sM7 nM7 h52 dX11_cut_159 ?_
                                refine lv_lload hx hb dX11_cut_160 (lv_at hl 3 rfl) ?_
                                refine W.lcmp hx hb dX11_cut_162 ?_
                                refine lv_if_ne (tgt := 173) hx hb dX11_cut_163 (by decide) (fun c53 => ?_) (fun c53 => ?_)
                                · have hf := (if_neg c53).symm.trans hf
                                  obtain ⟨v54, ev54, hf⟩ := wlet_some hf
                                  refine lv_iinc (v := v54) (lv' := [(7, .int v54), (0, .ref (ad 0)), (1, .int x1_7_2), (3, .int x3_e85_43), (4, .long x4_e85_43), (6, .int x6_146_50)]) hx hb dX11_cut_173 hl (k := 5) rfl (by rw [ev54]; rfl) (by decide) rfl (fun ls hl => ?_)
                                  refine lv_goto (tgt := 146) hx hb dX11_cut_176 (by decide) ?_
                                  exact ih146_50 x6_146_50 v54 (lp_leaf hf hz146_50) ls H locs (lv_sub hl [1, 2, 3, 4, 5, 0] rfl) hw
                                · have hf := (if_pos c53).symm.trans hf
                                  refine lv_bipush (v := 20) hx hb dX11_cut_166 (by decide) ?_
                                  refine lv_iload hx hb dX11_cut_168 (lv_at hl 5 rfl) ?_
                                  refine lv_iadd hx hb dX11_cut_170 ?_
                                  obtain ⟨v55, ev55, hf⟩ := wlet_some hf
                                  refine wr_top ev55 ?_
                                  refine lv_istore (lv' := [(6, .int v55), (0, .ref (ad 0)), (1, .int x1_7_2), (3, .int x3_e85_43), (4, .long x4_e85_43), (7, .int x7_146_50)]) hx hb dX11_cut_171 hl (by decide) rfl (fun ls hl => ?_)
                                  obtain ⟨v56, ev56, hf⟩ := wlet_some hf
                                  refine lv_iinc (v := v56) (lv' := [(7, .int v56), (6, .int v55), (0, .ref (ad 0)), (1, .int x1_7_2), (3, .int x3_e85_43), (4, .long x4_e85_43)]) hx hb dX11_cut_173 hl (k := 5) rfl (by rw [ev56]; rfl) (by decide) rfl (fun ls hl => ?_)
                                  refine lv_goto (tgt := 146) hx hb dX11_cut_176 (by decide) ?_
                                  exact ih146_50 v55 v56 (lp_leaf hf hz146_50) ls H locs (lv_sub hl [2, 3, 4, 5, 1, 0] rfl) hw
                          exact lo146_50 fuel s0_135_44 (0 : Int32) hq146_50 ls H locs (lv_sub hl [2, 3, 4, 5, 1, 0] rfl) hw
                      replace hf := hf0
                      refine lv_icmp_le (tgt := 134) hx hb dX11_cut_127 (by decide) (fun c57 => ?_) (fun c57 => ?_)
                      · have hf := (if_pos c57).symm.trans hf
                        refine lv_iconst (v := 1) hx hb dX11_cut_134 (by decide) ?_
                        exact j135_44 (1 : Int32) hf ls H locs (lv_sub hl [0, 1, 2, 3] rfl) hw
                      · have hf := (if_neg c57).symm.trans hf
                        refine lv_iconst (v := 3) hx hb dX11_cut_130 (by decide) ?_
                        refine lv_goto (tgt := 135) hx hb dX11_cut_131 (by decide) ?_
                        exact j135_44 (3 : Int32) hf ls H locs (lv_sub hl [0, 1, 2, 3] rfl) hw
                    have lo85_43 : ∀ (n : Nat) (x3_85_43 : Int32) (x4_85_43 : Int64) (_ : lp st85_43 n (x3_85_43, x4_85_43) = some E85_43) (ls : Array Slot) (H : Heap) (locs : List Loc), lv_has ls 8 [(0, .ref (ad 0)), (1, .int x1_7_2), (3, .int x3_85_43), (4, .long x4_85_43)] → wH WM ad D cy s σ7_2 H locs → W p l e { frames := 3, cells := 0, slots := 0, locals := 149 } s m [.ref (ad 0)].toArray below meth c H locs 0 0 (MQ below (wQv WM ad D cy res) [.ref (ad 0)].toArray s 0 0 (wA WM ad)) (F0 m 85 ls []) := by
                      intro n
                      induction n with
                      | zero =>
                        intro x3_85_43 x4_85_43 hf ls H locs hl hw
                        exact (lp_zero hf).elim
                      | succ n ih85_43 =>
                        intro x3_85_43 x4_85_43 hf ls H locs hl hw
                        obtain ⟨q85_43, hf, hz85_43⟩ := lp_succ hf
                        rw [est85_43] at hf
                        replace hf := un2_some hf
                        refine lv_aload_n hx hb dX11_cut_85 rfl (lv_at hl 0 rfl) ?_
                        refine lv_iload_n hx hb dX11_cut_86 rfl (lv_at hl 1 rfl) ?_
                        refine lv_iload_n hx hb dX11_cut_87 rfl (lv_at hl 2 rfl) ?_
                        refine lv_iadd hx hb dX11_cut_88 ?_
                        obtain ⟨v59, hq58, hf⟩ := bind_some hf
                        refine wr_cVi (r := v59) (σ' := σ7_2) (av := [.int (x1_7_2 + x3_85_43)]) (rest := []) X hw hl.1 sM0 nM0 rfl (k_X11_byteAt hI hq58) rfl ml_X11_163 im_X11_byteAt se_X11_byteAt ini_X11 co_X11_byteAt hd_X11_byteAt ⟨Nat.le_of_ble_eq_true rfl, Nat.le_of_ble_eq_true rfl⟩ (Nat.le_of_ble_eq_true rfl) dX11_cut_89 rfl (fun H locs hw => ?_)
                        obtain ⟨v61, hq60, hf⟩ := bind_some hf
                        refine wr_cSi (r := v61) (σ' := σ7_2) (av := [.int v59]) (rest := []) X hw hl.1 (k_X11_isLetter hI hq60) rfl ml_X11_171 st_X11_isLetter ini_X11 co_X11_isLetter hd_X11_isLetter ⟨Nat.le_of_ble_eq_true rfl, Nat.le_of_ble_eq_true rfl⟩ (Nat.le_of_ble_eq_true rfl) dX11_cut_92 rfl (fun H locs hw => ?_)
                        refine lv_if_eq (tgt := 124) hx hb dX11_cut_95 (by decide) (fun c62 => ?_) (fun c62 => ?_)
                        · have hf := (if_pos c62).symm.trans hf
                          exact hx85_43 x3_85_43 x4_85_43 (lpK_inr (lp_leaf hf hz85_43)) ls H locs (lv_sub hl [0, 1, 2, 3] rfl) hw
                        · have hf := (if_neg c62).symm.trans hf
                          refine lv_iload_n hx hb dX11_cut_98 rfl (lv_at hl 2 rfl) ?_
                          refine lv_bipush (v := 8) hx hb dX11_cut_99 (by decide) ?_
                          refine lv_icmp_ge (tgt := 118) hx hb dX11_cut_101 (by decide) (fun c63 => ?_) (fun c63 => ?_)
                          · have hf := (if_pos c63).symm.trans hf
                            obtain ⟨v64, ev64, hf⟩ := wlet_some hf
                            refine lv_iinc (v := v64) (lv' := [(3, .int v64), (0, .ref (ad 0)), (1, .int x1_7_2), (4, .long x4_85_43)]) hx hb dX11_cut_118 hl (k := 2) rfl (by rw [ev64]; rfl) (by decide) rfl (fun ls hl => ?_)
                            refine lv_goto (tgt := 85) hx hb dX11_cut_121 (by decide) ?_
                            exact ih85_43 v64 x4_85_43 (lp_leaf hf hz85_43) ls H locs (lv_sub hl [1, 2, 0, 3] rfl) hw
                          · have hf := (if_neg c63).symm.trans hf
                            refine lv_lload hx hb dX11_cut_104 (lv_at hl 3 rfl) ?_
                            refine lv_aload_n hx hb dX11_cut_106 rfl (lv_at hl 0 rfl) ?_
                            refine lv_iload_n hx hb dX11_cut_107 rfl (lv_at hl 1 rfl) ?_
                            refine lv_iload_n hx hb dX11_cut_108 rfl (lv_at hl 2 rfl) ?_
                            refine lv_iadd hx hb dX11_cut_109 ?_
                            obtain ⟨v66, hq65, hf⟩ := bind_some hf
                            refine wr_cVi (r := v66) (σ' := σ7_2) (av := [.int (x1_7_2 + x3_85_43)]) (rest := [.long x4_85_43]) X hw hl.1 sM0 nM0 rfl (k_X11_byteAt hI hq65) rfl ml_X11_163 im_X11_byteAt se_X11_byteAt ini_X11 co_X11_byteAt hd_X11_byteAt ⟨Nat.le_of_ble_eq_true rfl, Nat.le_of_ble_eq_true rfl⟩ (Nat.le_of_ble_eq_true rfl) dX11_cut_110 rfl (fun H locs hw => ?_)
                            obtain ⟨v68, hq67, hf⟩ := bind_some hf
                            refine wr_cSl (r := v68) (σ' := σ7_2) (av := [.long x4_85_43, .int v66]) (rest := []) X hw hl.1 (k_X11_appends hI hq67) rfl ml_X11_139 st_X11_appends ini_X11 co_X11_appends hd_X11_appends ⟨Nat.le_of_ble_eq_true rfl, Nat.le_of_ble_eq_true rfl⟩ (Nat.le_of_ble_eq_true rfl) dX11_cut_113 rfl (fun H locs hw => ?_)
                            refine lv_lstore (lv' := [(4, .long v68), (0, .ref (ad 0)), (1, .int x1_7_2), (3, .int x3_85_43)]) hx hb dX11_cut_116 hl (by decide) rfl (fun ls hl => ?_)
                            obtain ⟨v69, ev69, hf⟩ := wlet_some hf
                            refine lv_iinc (v := v69) (lv' := [(3, .int v69), (4, .long v68), (0, .ref (ad 0)), (1, .int x1_7_2)]) hx hb dX11_cut_118 hl (k := 3) rfl (by rw [ev69]; rfl) (by decide) rfl (fun ls hl => ?_)
                            refine lv_goto (tgt := 85) hx hb dX11_cut_121 (by decide) ?_
                            exact ih85_43 v69 v68 (lp_leaf hf hz85_43) ls H locs (lv_sub hl [2, 3, 0, 1] rfl) hw
                    exact lo85_43 fuel (0 : Int32) (0 : Int64) hq85_43 ls H locs (lv_sub hl [3, 4, 1, 0] rfl) hw
                · have hf := (if_pos c13).symm.trans hf
                  obtain ⟨v70, ev70, hf⟩ := wlet_some hf
                  refine lv_iinc (v := v70) (lv' := [(1, .int v70), (2, .int v5), (0, .ref (ad 0))]) hx hb dX11_cut_67 hl (k := 2) rfl (by rw [ev70]; rfl) (by decide) rfl (fun ls hl => ?_)
                  refine lv_goto (tgt := 291) hx hb dX11_cut_70 (by decide) ?_
                  refine lv_goto (tgt := 7) hx hb dX11_cut_291 (by decide) ?_
                  exact ih7_2 σ7_2 v70 (lp_leaf hf hz7_2) ls H locs (lv_sub hl [2, 0] rfl) hw
        · have hf := (if_neg c6).symm.trans hf
          refine lv_aload_n hx hb dX11_cut_31 rfl (lv_at hl 1 rfl) ?_
          refine lv_iconst (v := 0) hx hb dX11_cut_32 (by decide) ?_
          refine lv_aload_n hx hb dX11_cut_33 rfl (lv_at hl 1 rfl) ?_
          refine gX11_4 X hw sM0 nM0 fl_X11_155 dX11_cut_34 ?_
          refine lv_iconst (v := 0) hx hb dX11_cut_37 (by decide) ?_
          refine lv_lconst (v := 0) hx hb dX11_cut_38 (by decide) ?_
          obtain ⟨σ72, hq71, hf⟩ := bind_some hf
          refine wr_cVv (σ' := σ72) (av := [.int (0 : Int32), .int (σ7_2.1 0 4), .int (0 : Int32), .long (0 : Int64)]) (rest := []) X hw hl.1 sM0 nM0 rfl (k_X11_token hI hq71) rfl ml_X11_167 im_X11_token se_X11_token ini_X11 co_X11_token hd_X11_token ⟨Nat.le_of_ble_eq_true rfl, Nat.le_of_ble_eq_true rfl⟩ (Nat.le_of_ble_eq_true rfl) dX11_cut_39 rfl (fun H locs hw => ?_)
          have e7_2 := lpK_inr (lp_leaf hf hz7_2)
          have hf := sumk_r hE7_2 e7_2
          have er := Option.some.inj hf
          subst er
          exact wr_vret X hw hr dX11_cut_42
  exact lo7_2 fuel σ1 (0 : Int32) hq7_2 ls H locs (lv_sub hl [1, 0] rfl) hw
