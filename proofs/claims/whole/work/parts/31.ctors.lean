def bkX0 : List Value := [.null, .int 0, .int 0]
theorem dfX0 : ∀ j, j < 3 → defaultValue (tyX0 j) = vp_V bkX0 j := by
  intro j hj
  match j, hj with
  | 0, _ => rfl
  | 1, _ => rfl
  | 2, _ => rfl
theorem inX0 : Cond.instantiable RX0 3 ∈ aw := a2 (mh (i := 90) rfl) rfl
def bkX1 : List Value := [.null, .null, .null, .null]
theorem dfX1 : ∀ j, j < 4 → defaultValue (tyX1 j) = vp_V bkX1 j := by
  intro j hj
  match j, hj with
  | 0, _ => rfl
  | 1, _ => rfl
  | 2, _ => rfl
  | 3, _ => rfl
theorem inX1 : Cond.instantiable RX1 4 ∈ aw := a1 (mh (i := 172) rfl) rfl
def bkX2 : List Value := [.null, .null, .null, .null, .null, .int 0, .int 0, .int 0]
theorem dfX2 : ∀ j, j < 8 → defaultValue (tyX2 j) = vp_V bkX2 j := by
  intro j hj
  match j, hj with
  | 0, _ => rfl
  | 1, _ => rfl
  | 2, _ => rfl
  | 3, _ => rfl
  | 4, _ => rfl
  | 5, _ => rfl
  | 6, _ => rfl
  | 7, _ => rfl
theorem inX2 : Cond.instantiable RX2 8 ∈ aw := a1 (mh (i := 191) rfl) rfl
def bkX3 : List Value := [.null, .null, .null, .int 0, .int 0]
theorem dfX3 : ∀ j, j < 5 → defaultValue (tyX3 j) = vp_V bkX3 j := by
  intro j hj
  match j, hj with
  | 0, _ => rfl
  | 1, _ => rfl
  | 2, _ => rfl
  | 3, _ => rfl
  | 4, _ => rfl
theorem inX3 : Cond.instantiable RX3 5 ∈ aw := a1 (mh (i := 225) rfl) rfl
def bkX4 : List Value := [.null, .null, .int 0, .int 0, .int 0, .int 0, .int 0]
theorem dfX4 : ∀ j, j < 7 → defaultValue (tyX4 j) = vp_V bkX4 j := by
  intro j hj
  match j, hj with
  | 0, _ => rfl
  | 1, _ => rfl
  | 2, _ => rfl
  | 3, _ => rfl
  | 4, _ => rfl
  | 5, _ => rfl
  | 6, _ => rfl
theorem inX4 : Cond.instantiable RX4 7 ∈ aw := a1 (mh (i := 112) rfl) rfl
def bkX5 : List Value := [.null, .null, .null, .null, .int 0, .long 0]
theorem dfX5 : ∀ j, j < 6 → defaultValue (tyX5 j) = vp_V bkX5 j := by
  intro j hj
  match j, hj with
  | 0, _ => rfl
  | 1, _ => rfl
  | 2, _ => rfl
  | 3, _ => rfl
  | 4, _ => rfl
  | 5, _ => rfl
theorem inX5 : Cond.instantiable RX5 6 ∈ aw := a1 (mh (i := 120) rfl) rfl
def bkX6 : List Value := [.null, .null, .null, .int 0, .int 0, .int 0, .int 0, .int 0]
theorem dfX6 : ∀ j, j < 8 → defaultValue (tyX6 j) = vp_V bkX6 j := by
  intro j hj
  match j, hj with
  | 0, _ => rfl
  | 1, _ => rfl
  | 2, _ => rfl
  | 3, _ => rfl
  | 4, _ => rfl
  | 5, _ => rfl
  | 6, _ => rfl
  | 7, _ => rfl
theorem inX6 : Cond.instantiable RX6 8 ∈ aw := a1 (mh (i := 231) rfl) rfl
def bkX7 : List Value := [.null, .int 0]
theorem dfX7 : ∀ j, j < 2 → defaultValue (tyX7 j) = vp_V bkX7 j := by
  intro j hj
  match j, hj with
  | 0, _ => rfl
  | 1, _ => rfl
theorem inX7 : Cond.instantiable RX7 2 ∈ aw := a1 (mh (i := 30) rfl) rfl
def bkX8 : List Value := [.null, .null, .null, .null, .null, .int 0, .int 0, .int 0, .int 0]
theorem dfX8 : ∀ j, j < 9 → defaultValue (tyX8 j) = vp_V bkX8 j := by
  intro j hj
  match j, hj with
  | 0, _ => rfl
  | 1, _ => rfl
  | 2, _ => rfl
  | 3, _ => rfl
  | 4, _ => rfl
  | 5, _ => rfl
  | 6, _ => rfl
  | 7, _ => rfl
  | 8, _ => rfl
theorem inX8 : Cond.instantiable RX8 9 ∈ aw := a1 (mh (i := 46) rfl) rfl
def bkX9 : List Value := [.null, .null, .null, .null, .int 0, .int 0, .int 0]
theorem dfX9 : ∀ j, j < 7 → defaultValue (tyX9 j) = vp_V bkX9 j := by
  intro j hj
  match j, hj with
  | 0, _ => rfl
  | 1, _ => rfl
  | 2, _ => rfl
  | 3, _ => rfl
  | 4, _ => rfl
  | 5, _ => rfl
  | 6, _ => rfl
theorem inX9 : Cond.instantiable RX9 7 ∈ aw := a2 (mh (i := 56) rfl) rfl
def bkX10 : List Value := [.null, .null, .null, .null, .null, .null, .null, .null, .null, .null, .int 0, .int 0]
theorem dfX10 : ∀ j, j < 12 → defaultValue (tyX10 j) = vp_V bkX10 j := by
  intro j hj
  match j, hj with
  | 0, _ => rfl
  | 1, _ => rfl
  | 2, _ => rfl
  | 3, _ => rfl
  | 4, _ => rfl
  | 5, _ => rfl
  | 6, _ => rfl
  | 7, _ => rfl
  | 8, _ => rfl
  | 9, _ => rfl
  | 10, _ => rfl
  | 11, _ => rfl
theorem inX10 : Cond.instantiable RX10 12 ∈ aw := a1 (mh (i := 22) rfl) rfl
def bkX11 : List Value := [.int 0, .null, .int 0, .null, .int 0, .null, .null, .null, .null, .null, .int 0, .int 0, .int 0, .int 0, .int 0, .int 0, .int 0, .int 0, .int 0, .int 0, .int 0, .null, .null, .null, .null, .null, .null, .null, .null, .int 0, .null, .null, .null, .null, .null, .int 0, .null, .null, .null, .int 0, .null, .null, .int 0, .null, .null, .int 0, .null, .int 0, .null, .null, .int 0, .int 0, .null, .null, .null, .null, .null, .null, .null]
theorem dfX11 : ∀ j, j < 59 → defaultValue (tyX11 j) = vp_V bkX11 j := by
  intro j hj
  match j, hj with
  | 0, _ => rfl
  | 1, _ => rfl
  | 2, _ => rfl
  | 3, _ => rfl
  | 4, _ => rfl
  | 5, _ => rfl
  | 6, _ => rfl
  | 7, _ => rfl
  | 8, _ => rfl
  | 9, _ => rfl
  | 10, _ => rfl
  | 11, _ => rfl
  | 12, _ => rfl
  | 13, _ => rfl
  | 14, _ => rfl
  | 15, _ => rfl
  | 16, _ => rfl
  | 17, _ => rfl
  | 18, _ => rfl
  | 19, _ => rfl
  | 20, _ => rfl
  | 21, _ => rfl
  | 22, _ => rfl
  | 23, _ => rfl
  | 24, _ => rfl
  | 25, _ => rfl
  | 26, _ => rfl
  | 27, _ => rfl
  | 28, _ => rfl
  | 29, _ => rfl
  | 30, _ => rfl
  | 31, _ => rfl
  | 32, _ => rfl
  | 33, _ => rfl
  | 34, _ => rfl
  | 35, _ => rfl
  | 36, _ => rfl
  | 37, _ => rfl
  | 38, _ => rfl
  | 39, _ => rfl
  | 40, _ => rfl
  | 41, _ => rfl
  | 42, _ => rfl
  | 43, _ => rfl
  | 44, _ => rfl
  | 45, _ => rfl
  | 46, _ => rfl
  | 47, _ => rfl
  | 48, _ => rfl
  | 49, _ => rfl
  | 50, _ => rfl
  | 51, _ => rfl
  | 52, _ => rfl
  | 53, _ => rfl
  | 54, _ => rfl
  | 55, _ => rfl
  | 56, _ => rfl
  | 57, _ => rfl
  | 58, _ => rfl
  | j + 59, h => exact absurd h (by omega)
theorem inX11 : Cond.instantiable RX11 59 ∈ aw := a5 (mh (i := 168) rfl) rfl
theorem hdi_X10_init : yX10_init.name = "<init>" ∧ yX10_init.cls ≠ "java/lang/invoke/MethodHandle" ∧ yX10_init.cls ≠ "java/lang/invoke/VarHandle" ∧ (parseMethodDescriptor yX10_init.desc).map (fun d => d.parameters.length) = some 0 := by decide +kernel
theorem hdi_X11_init : yX11_init.name = "<init>" ∧ yX11_init.cls ≠ "java/lang/invoke/MethodHandle" ∧ yX11_init.cls ≠ "java/lang/invoke/VarHandle" ∧ (parseMethodDescriptor yX11_init.desc).map (fun d => d.parameters.length) = some 0 := by decide +kernel
theorem hdi_X0_init : yX0_init.name = "<init>" ∧ yX0_init.cls ≠ "java/lang/invoke/MethodHandle" ∧ yX0_init.cls ≠ "java/lang/invoke/VarHandle" ∧ (parseMethodDescriptor yX0_init.desc).map (fun d => d.parameters.length) = some 0 := by decide +kernel
theorem hdi_X1_init : yX1_init.name = "<init>" ∧ yX1_init.cls ≠ "java/lang/invoke/MethodHandle" ∧ yX1_init.cls ≠ "java/lang/invoke/VarHandle" ∧ (parseMethodDescriptor yX1_init.desc).map (fun d => d.parameters.length) = some 1 := by decide +kernel
theorem hdi_X2_init : yX2_init.name = "<init>" ∧ yX2_init.cls ≠ "java/lang/invoke/MethodHandle" ∧ yX2_init.cls ≠ "java/lang/invoke/VarHandle" ∧ (parseMethodDescriptor yX2_init.desc).map (fun d => d.parameters.length) = some 1 := by decide +kernel
theorem hdi_X3_init : yX3_init.name = "<init>" ∧ yX3_init.cls ≠ "java/lang/invoke/MethodHandle" ∧ yX3_init.cls ≠ "java/lang/invoke/VarHandle" ∧ (parseMethodDescriptor yX3_init.desc).map (fun d => d.parameters.length) = some 2 := by decide +kernel
theorem hdi_X4_init : yX4_init.name = "<init>" ∧ yX4_init.cls ≠ "java/lang/invoke/MethodHandle" ∧ yX4_init.cls ≠ "java/lang/invoke/VarHandle" ∧ (parseMethodDescriptor yX4_init.desc).map (fun d => d.parameters.length) = some 1 := by decide +kernel
theorem hdi_X5_init : yX5_init.name = "<init>" ∧ yX5_init.cls ≠ "java/lang/invoke/MethodHandle" ∧ yX5_init.cls ≠ "java/lang/invoke/VarHandle" ∧ (parseMethodDescriptor yX5_init.desc).map (fun d => d.parameters.length) = some 1 := by decide +kernel
theorem hdi_X6_init : yX6_init.name = "<init>" ∧ yX6_init.cls ≠ "java/lang/invoke/MethodHandle" ∧ yX6_init.cls ≠ "java/lang/invoke/VarHandle" ∧ (parseMethodDescriptor yX6_init.desc).map (fun d => d.parameters.length) = some 0 := by decide +kernel
theorem hdi_X7_init : yX7_init.name = "<init>" ∧ yX7_init.cls ≠ "java/lang/invoke/MethodHandle" ∧ yX7_init.cls ≠ "java/lang/invoke/VarHandle" ∧ (parseMethodDescriptor yX7_init.desc).map (fun d => d.parameters.length) = some 0 := by decide +kernel
theorem hdi_X8_init : yX8_init.name = "<init>" ∧ yX8_init.cls ≠ "java/lang/invoke/MethodHandle" ∧ yX8_init.cls ≠ "java/lang/invoke/VarHandle" ∧ (parseMethodDescriptor yX8_init.desc).map (fun d => d.parameters.length) = some 0 := by decide +kernel
theorem hdi_X9_init : yX9_init.name = "<init>" ∧ yX9_init.cls ≠ "java/lang/invoke/MethodHandle" ∧ yX9_init.cls ≠ "java/lang/invoke/VarHandle" ∧ (parseMethodDescriptor yX9_init.desc).map (fun d => d.parameters.length) = some 0 := by decide +kernel
/-- a Text by itself -/
def WT : Wd := (fun c => ([(0, 8, 9), (1, 420, 0), (1, 4, 0), (1, 7, 0), (1, 7, 0), (2, 7, 0)] : List (Nat × Nat × Nat)).getD c (0, 0, 0), fun _ k => k + 1, 6)
theorem txT : isTx WT 0 := ⟨rfl, rfl, rfl, rfl, rfl, rfl, by decide, rfl, rfl, rfl, rfl, rfl⟩
/-- a Text as its constructor leaves it -/
def σT : St := (f_X8_clear σz 0).getD σz
theorem σT_ok : f_X8_clear σz 0 = some σT := by
  have h : (f_X8_clear σz 0).isSome = true := by decide +kernel
  unfold σT
  cases e : f_X8_clear σz 0 with
  | none => rw [e] at h; cases h
  | some x => rfl
def F_X6 (cy : Nat → ClassId) (ad : Nat → Nat) (i : Nat) : va_E := if i < 1 then .inr (6, [.ref (ad 1), .ref (ad 2), .ref (ad 3), .int 0, .int 0, .int 0, .int 0, .int 0]) else if i < 2 then .inl (cy 0, 7, .inl (fun _ => 0)) else if i < 3 then .inl (cy 0, 7, .inl (fun _ => 0)) else .inl (cy 0, 7, .inl (fun _ => 0))
set_option maxRecDepth 100000 in
set_option maxHeartbeats 4000000 in
theorem n_X6 {l : Launch} {D : va_G} {cy : Nat → ClassId} {z : wStr} {b0 h0 sz : Nat} (hb0 : b0 ≤ h0) : cC D cy z l yX6_init (Cond.code yX6_init cX6_init 1 none :: aw) 1 100 3 21 b0 h0 sz [] (.inr (6, bkX6)) (F_X6 cy) 4 := by
  refine cr_start (own := RX6) hb0 (by decide +kernel) rfl (Nat.le_of_ble_eq_true rfl) rfl rfl ?_
  intro p e s m below meth c ls X hn hsz hlt hw hr hl
  have hx := X.hx
  have hb := X.hb
  replace hl : lv_has ls 1 [(0, .ref h0)] := hl
  subst hsz
  obtain ⟨H, eH⟩ : ∃ H : Heap, H = s.heap := ⟨_, rfl⟩
  obtain ⟨locs, el⟩ : ∃ locs : List Loc, locs = [] := ⟨_, rfl⟩
  have hlo : ∀ x ∈ locs, cB (fun _ => h0) 1 x.base := by rw [el]; intro x hx; cases hx
  rw [← el] at hw ⊢
  rw [show cH D s h0 (fun _ => h0) (fun _ => .inr (6, bkX6)) 1 s.heap locs = cH D s h0 (fun _ => h0) (fun _ => .inr (6, bkX6)) 1 H locs by rw [eH]] at hw
  rw [show W p l e { frames := 1, cells := 3, slots := 21, locals := 100 } s m (.ref h0 :: []).toArray below meth c s.heap locs = W p l e { frames := 1, cells := 3, slots := 21, locals := 100 } s m (.ref h0 :: []).toArray below meth c H locs by rw [eH]]
  clear eH el
  refine lv_aload_n hx hb dX6_init_0 rfl (lv_at hl 0 rfl) ?_
  refine cr_obj X hl.1 ml_X6_3 dX6_init_1 (Nat.le_of_ble_eq_true rfl) (Nat.le_of_ble_eq_true rfl) ?_
  refine lv_aload_n hx hb dX6_init_4 rfl (lv_at hl 0 rfl) ?_
  refine lv_bipush (v := 7) hx hb dX6_init_5 (by decide) ?_
  refine cr_newa (atype := .int) (ty := .int) X hw arc_int rfl 0 rfl (Or.inl rfl) (N' := 7) (a0 := (7, .inl (fun _ => 0))) (fun _ => rfl) (by decide) (by decide) (by decide) (Nat.le_of_ble_eq_true rfl) (Nat.le_of_ble_eq_true rfl) dX6_init_7 (fun q1 H hw => ?_)
  refine cr_putF X hw hn uw6 tyX6 tyX6_ok nmX6 (ci := 6) rfl 0 (by decide) rfl rfl 0 (by decide) ⟨rfl, rfl, rfl⟩ rfl rfl (tyX6_ok 0 (by decide)) rfl rfl (Nat.le_of_ble_eq_true rfl) fl_X6_9 dX6_init_9 (fun H locs1 hw ho => ?_)
  refine lv_aload_n hx hb dX6_init_12 rfl (lv_at hl 0 rfl) ?_
  refine lv_bipush (v := 7) hx hb dX6_init_13 (by decide) ?_
  refine cr_newa (atype := .int) (ty := .int) X hw arc_int rfl 0 rfl (Or.inl rfl) (N' := 7) (a0 := (7, .inl (fun _ => 0))) (fun _ => rfl) (by decide) (by decide) (by decide) (Nat.le_of_ble_eq_true rfl) (Nat.le_of_ble_eq_true rfl) dX6_init_15 (fun q2 H hw => ?_)
  refine cr_putF X hw hn uw6 tyX6 tyX6_ok nmX6 (ci := 6) rfl 0 (by decide) rfl rfl 1 (by decide) ⟨rfl, rfl, rfl⟩ rfl rfl (tyX6_ok 1 (by decide)) rfl rfl (Nat.le_of_ble_eq_true rfl) fl_X6_15 dX6_init_17 (fun H locs1 hw ho => ?_)
  refine lv_aload_n hx hb dX6_init_20 rfl (lv_at hl 0 rfl) ?_
  refine lv_bipush (v := 7) hx hb dX6_init_21 (by decide) ?_
  refine cr_newa (atype := .int) (ty := .int) X hw arc_int rfl 0 rfl (Or.inl rfl) (N' := 7) (a0 := (7, .inl (fun _ => 0))) (fun _ => rfl) (by decide) (by decide) (by decide) (Nat.le_of_ble_eq_true rfl) (Nat.le_of_ble_eq_true rfl) dX6_init_23 (fun q3 H hw => ?_)
  refine cr_putF X hw hn uw6 tyX6 tyX6_ok nmX6 (ci := 6) rfl 0 (by decide) rfl rfl 2 (by decide) ⟨rfl, rfl, rfl⟩ rfl rfl (tyX6_ok 2 (by decide)) rfl rfl (Nat.le_of_ble_eq_true rfl) fl_X6_18 dX6_init_25 (fun H locs1 hw ho => ?_)
  refine cr_ret X hw hlt (fun i hi => ?_) hr dX6_init_28
  match i, hi with
  | 0, _ => rfl
  | 1, _ => rfl
  | 2, _ => rfl
  | 3, _ => rfl

def F_X7 (cy : Nat → ClassId) (ad : Nat → Nat) (i : Nat) : va_E := if i < 1 then .inr (7, [.ref (ad 1), .int 0]) else .inl (cy 2, 2000, .inl (fun _ => 0))
set_option maxRecDepth 100000 in
set_option maxHeartbeats 4000000 in
theorem n_X7 {l : Launch} {D : va_G} {cy : Nat → ClassId} {z : wStr} {b0 h0 sz : Nat} (hb0 : b0 ≤ h0) : cC D cy z l yX7_init (Cond.code yX7_init cX7_init 1 none :: aw) 1 100 1 2000 b0 h0 sz [] (.inr (7, bkX7)) (F_X7 cy) 2 := by
  refine cr_start (own := RX7) hb0 (by decide +kernel) rfl (Nat.le_of_ble_eq_true rfl) rfl rfl ?_
  intro p e s m below meth c ls X hn hsz hlt hw hr hl
  have hx := X.hx
  have hb := X.hb
  replace hl : lv_has ls 1 [(0, .ref h0)] := hl
  subst hsz
  obtain ⟨H, eH⟩ : ∃ H : Heap, H = s.heap := ⟨_, rfl⟩
  obtain ⟨locs, el⟩ : ∃ locs : List Loc, locs = [] := ⟨_, rfl⟩
  have hlo : ∀ x ∈ locs, cB (fun _ => h0) 1 x.base := by rw [el]; intro x hx; cases hx
  rw [← el] at hw ⊢
  rw [show cH D s h0 (fun _ => h0) (fun _ => .inr (7, bkX7)) 1 s.heap locs = cH D s h0 (fun _ => h0) (fun _ => .inr (7, bkX7)) 1 H locs by rw [eH]] at hw
  rw [show W p l e { frames := 1, cells := 1, slots := 2000, locals := 100 } s m (.ref h0 :: []).toArray below meth c s.heap locs = W p l e { frames := 1, cells := 1, slots := 2000, locals := 100 } s m (.ref h0 :: []).toArray below meth c H locs by rw [eH]]
  clear eH el
  refine lv_aload_n hx hb dX7_init_0 rfl (lv_at hl 0 rfl) ?_
  refine cr_obj X hl.1 ml_X7_3 dX7_init_1 (Nat.le_of_ble_eq_true rfl) (Nat.le_of_ble_eq_true rfl) ?_
  refine lv_aload_n hx hb dX7_init_4 rfl (lv_at hl 0 rfl) ?_
  refine lv_sipush (v := 2000) hx hb dX7_init_5 (by decide) ?_
  refine cr_newa (atype := .byte) (ty := .byte) X hw arc_byte rfl 2 rfl (Or.inr (Or.inr (Or.inl rfl))) (N' := 2000) (a0 := (2000, .inl (fun _ => 0))) (fun _ => rfl) (by decide) (by decide) (by decide) (Nat.le_of_ble_eq_true rfl) (Nat.le_of_ble_eq_true rfl) dX7_init_8 (fun q1 H hw => ?_)
  refine cr_putF X hw hn uw7 tyX7 tyX7_ok nmX7 (ci := 7) rfl 0 (by decide) rfl rfl 0 (by decide) ⟨rfl, rfl, rfl⟩ rfl rfl (tyX7_ok 0 (by decide)) rfl rfl (Nat.le_of_ble_eq_true rfl) fl_X7_9 dX7_init_10 (fun H locs1 hw ho => ?_)
  refine cr_ret X hw hlt (fun i hi => ?_) hr dX7_init_13
  match i, hi with
  | 0, _ => rfl
  | 1, _ => rfl

def F_X5 (cy : Nat → ClassId) (x0 : Nat) (ad : Nat → Nat) (i : Nat) : va_E := if i < 1 then .inr (5, [.ref x0, .ref (ad 1), .ref (ad 2), .ref (ad 3), .int 0, .long 0]) else if i < 2 then .inl (cy 0, 402, .inl (fun _ => 0)) else if i < 3 then .inl (cy 0, 402, .inl (fun _ => 0)) else .inl (cy 1, 402, .inr (.inl (fun _ => 0)))
set_option maxRecDepth 100000 in
set_option maxHeartbeats 4000000 in
theorem n_X5 {l : Launch} {D : va_G} {cy : Nat → ClassId} {z : wStr} {b0 h0 sz x0 : Nat} (hb0 : b0 ≤ h0) : cC D cy z l yX5_init (Cond.code yX5_init cX5_init 2 none :: aw) 1 100 3 1206 b0 h0 sz [.ref x0] (.inr (5, bkX5)) (F_X5 cy x0) 4 := by
  refine cr_start (own := RX5) hb0 (by decide +kernel) rfl (Nat.le_of_ble_eq_true rfl) rfl rfl ?_
  intro p e s m below meth c ls X hn hsz hlt hw hr hl
  have hx := X.hx
  have hb := X.hb
  replace hl : lv_has ls 2 [(0, .ref h0), (1, .ref x0)] := hl
  subst hsz
  obtain ⟨H, eH⟩ : ∃ H : Heap, H = s.heap := ⟨_, rfl⟩
  obtain ⟨locs, el⟩ : ∃ locs : List Loc, locs = [] := ⟨_, rfl⟩
  have hlo : ∀ x ∈ locs, cB (fun _ => h0) 1 x.base := by rw [el]; intro x hx; cases hx
  rw [← el] at hw ⊢
  rw [show cH D s h0 (fun _ => h0) (fun _ => .inr (5, bkX5)) 1 s.heap locs = cH D s h0 (fun _ => h0) (fun _ => .inr (5, bkX5)) 1 H locs by rw [eH]] at hw
  rw [show W p l e { frames := 1, cells := 3, slots := 1206, locals := 100 } s m (.ref h0 :: [.ref x0]).toArray below meth c s.heap locs = W p l e { frames := 1, cells := 3, slots := 1206, locals := 100 } s m (.ref h0 :: [.ref x0]).toArray below meth c H locs by rw [eH]]
  clear eH el
  refine lv_aload_n hx hb dX5_init_0 rfl (lv_at hl 0 rfl) ?_
  refine cr_obj X hl.1 ml_X5_3 dX5_init_1 (Nat.le_of_ble_eq_true rfl) (Nat.le_of_ble_eq_true rfl) ?_
  refine lv_aload_n hx hb dX5_init_4 rfl (lv_at hl 0 rfl) ?_
  refine lv_sipush (v := 402) hx hb dX5_init_5 (by decide) ?_
  refine cr_newa (atype := .int) (ty := .int) X hw arc_int rfl 0 rfl (Or.inl rfl) (N' := 402) (a0 := (402, .inl (fun _ => 0))) (fun _ => rfl) (by decide) (by decide) (by decide) (Nat.le_of_ble_eq_true rfl) (Nat.le_of_ble_eq_true rfl) dX5_init_8 (fun q1 H hw => ?_)
  refine cr_putF X hw hn uw5 tyX5 tyX5_ok nmX5 (ci := 5) rfl 0 (by decide) rfl rfl 1 (by decide) ⟨rfl, rfl, rfl⟩ rfl rfl (tyX5_ok 1 (by decide)) rfl rfl (Nat.le_of_ble_eq_true rfl) fl_X5_9 dX5_init_10 (fun H locs1 hw ho => ?_)
  refine lv_aload_n hx hb dX5_init_13 rfl (lv_at hl 0 rfl) ?_
  refine lv_sipush (v := 402) hx hb dX5_init_14 (by decide) ?_
  refine cr_newa (atype := .int) (ty := .int) X hw arc_int rfl 0 rfl (Or.inl rfl) (N' := 402) (a0 := (402, .inl (fun _ => 0))) (fun _ => rfl) (by decide) (by decide) (by decide) (Nat.le_of_ble_eq_true rfl) (Nat.le_of_ble_eq_true rfl) dX5_init_17 (fun q2 H hw => ?_)
  refine cr_putF X hw hn uw5 tyX5 tyX5_ok nmX5 (ci := 5) rfl 0 (by decide) rfl rfl 2 (by decide) ⟨rfl, rfl, rfl⟩ rfl rfl (tyX5_ok 2 (by decide)) rfl rfl (Nat.le_of_ble_eq_true rfl) fl_X5_15 dX5_init_19 (fun H locs1 hw ho => ?_)
  refine lv_aload_n hx hb dX5_init_22 rfl (lv_at hl 0 rfl) ?_
  refine lv_sipush (v := 402) hx hb dX5_init_23 (by decide) ?_
  refine cr_newa (atype := .long) (ty := .long) X hw arc_long rfl 1 rfl (Or.inr (Or.inl rfl)) (N' := 402) (a0 := (402, .inr (.inl (fun _ => 0)))) (fun _ => rfl) (by decide) (by decide) (by decide) (Nat.le_of_ble_eq_true rfl) (Nat.le_of_ble_eq_true rfl) dX5_init_26 (fun q3 H hw => ?_)
  refine cr_putF X hw hn uw5 tyX5 tyX5_ok nmX5 (ci := 5) rfl 0 (by decide) rfl rfl 3 (by decide) ⟨rfl, rfl, rfl⟩ rfl rfl (tyX5_ok 3 (by decide)) rfl rfl (Nat.le_of_ble_eq_true rfl) fl_X5_18 dX5_init_28 (fun H locs1 hw ho => ?_)
  refine lv_aload_n hx hb dX5_init_31 rfl (lv_at hl 0 rfl) ?_
  refine lv_aload_n hx hb dX5_init_32 rfl (lv_at hl 1 rfl) ?_
  refine cr_putF X hw hn uw5 tyX5 tyX5_ok nmX5 (ci := 5) rfl 0 (by decide) rfl rfl 0 (by decide) ⟨rfl, rfl, rfl⟩ rfl rfl (tyX5_ok 0 (by decide)) rfl rfl (Nat.le_of_ble_eq_true rfl) fl_X5_22 dX5_init_33 (fun H locs1 hw ho => ?_)
  refine cr_ret X hw hlt (fun i hi => ?_) hr dX5_init_36
  match i, hi with
  | 0, _ => rfl
  | 1, _ => rfl
  | 2, _ => rfl
  | 3, _ => rfl

def F_X1 (cy : Nat → ClassId) (x0 : Nat) (ad : Nat → Nat) (i : Nat) : va_E := if i < 1 then .inr (1, [.ref x0, .ref (ad 1), .ref (ad 2), .ref (ad 3)]) else if i < 2 then .inl (cy 0, 9, .inl (fun _ => 0)) else if i < 3 then .inl (cy 0, 40, .inl (fun _ => 0)) else .inl (cy 0, 7, .inl (fun _ => 0))
set_option maxRecDepth 100000 in
set_option maxHeartbeats 4000000 in
theorem n_X1 {l : Launch} {D : va_G} {cy : Nat → ClassId} {z : wStr} {b0 h0 sz x0 : Nat} (hb0 : b0 ≤ h0) : cC D cy z l yX1_init (Cond.code yX1_init cX1_init 2 none :: aw) 1 100 3 56 b0 h0 sz [.ref x0] (.inr (1, bkX1)) (F_X1 cy x0) 4 := by
  refine cr_start (own := RX1) hb0 (by decide +kernel) rfl (Nat.le_of_ble_eq_true rfl) rfl rfl ?_
  intro p e s m below meth c ls X hn hsz hlt hw hr hl
  have hx := X.hx
  have hb := X.hb
  replace hl : lv_has ls 2 [(0, .ref h0), (1, .ref x0)] := hl
  subst hsz
  obtain ⟨H, eH⟩ : ∃ H : Heap, H = s.heap := ⟨_, rfl⟩
  obtain ⟨locs, el⟩ : ∃ locs : List Loc, locs = [] := ⟨_, rfl⟩
  have hlo : ∀ x ∈ locs, cB (fun _ => h0) 1 x.base := by rw [el]; intro x hx; cases hx
  rw [← el] at hw ⊢
  rw [show cH D s h0 (fun _ => h0) (fun _ => .inr (1, bkX1)) 1 s.heap locs = cH D s h0 (fun _ => h0) (fun _ => .inr (1, bkX1)) 1 H locs by rw [eH]] at hw
  rw [show W p l e { frames := 1, cells := 3, slots := 56, locals := 100 } s m (.ref h0 :: [.ref x0]).toArray below meth c s.heap locs = W p l e { frames := 1, cells := 3, slots := 56, locals := 100 } s m (.ref h0 :: [.ref x0]).toArray below meth c H locs by rw [eH]]
  clear eH el
  refine lv_aload_n hx hb dX1_init_0 rfl (lv_at hl 0 rfl) ?_
  refine cr_obj X hl.1 ml_X1_3 dX1_init_1 (Nat.le_of_ble_eq_true rfl) (Nat.le_of_ble_eq_true rfl) ?_
  refine lv_aload_n hx hb dX1_init_4 rfl (lv_at hl 0 rfl) ?_
  refine lv_bipush (v := 9) hx hb dX1_init_5 (by decide) ?_
  refine cr_newa (atype := .int) (ty := .int) X hw arc_int rfl 0 rfl (Or.inl rfl) (N' := 9) (a0 := (9, .inl (fun _ => 0))) (fun _ => rfl) (by decide) (by decide) (by decide) (Nat.le_of_ble_eq_true rfl) (Nat.le_of_ble_eq_true rfl) dX1_init_7 (fun q1 H hw => ?_)
  refine cr_putF X hw hn uw1 tyX1 tyX1_ok nmX1 (ci := 1) rfl 0 (by decide) rfl rfl 1 (by decide) ⟨rfl, rfl, rfl⟩ rfl rfl (tyX1_ok 1 (by decide)) rfl rfl (Nat.le_of_ble_eq_true rfl) fl_X1_9 dX1_init_9 (fun H locs1 hw ho => ?_)
  refine lv_aload_n hx hb dX1_init_12 rfl (lv_at hl 0 rfl) ?_
  refine lv_bipush (v := 40) hx hb dX1_init_13 (by decide) ?_
  refine cr_newa (atype := .int) (ty := .int) X hw arc_int rfl 0 rfl (Or.inl rfl) (N' := 40) (a0 := (40, .inl (fun _ => 0))) (fun _ => rfl) (by decide) (by decide) (by decide) (Nat.le_of_ble_eq_true rfl) (Nat.le_of_ble_eq_true rfl) dX1_init_15 (fun q2 H hw => ?_)
  refine cr_putF X hw hn uw1 tyX1 tyX1_ok nmX1 (ci := 1) rfl 0 (by decide) rfl rfl 2 (by decide) ⟨rfl, rfl, rfl⟩ rfl rfl (tyX1_ok 2 (by decide)) rfl rfl (Nat.le_of_ble_eq_true rfl) fl_X1_15 dX1_init_17 (fun H locs1 hw ho => ?_)
  refine lv_aload_n hx hb dX1_init_20 rfl (lv_at hl 0 rfl) ?_
  refine lv_bipush (v := 7) hx hb dX1_init_21 (by decide) ?_
  refine cr_newa (atype := .int) (ty := .int) X hw arc_int rfl 0 rfl (Or.inl rfl) (N' := 7) (a0 := (7, .inl (fun _ => 0))) (fun _ => rfl) (by decide) (by decide) (by decide) (Nat.le_of_ble_eq_true rfl) (Nat.le_of_ble_eq_true rfl) dX1_init_23 (fun q3 H hw => ?_)
  refine cr_putF X hw hn uw1 tyX1 tyX1_ok nmX1 (ci := 1) rfl 0 (by decide) rfl rfl 3 (by decide) ⟨rfl, rfl, rfl⟩ rfl rfl (tyX1_ok 3 (by decide)) rfl rfl (Nat.le_of_ble_eq_true rfl) fl_X1_18 dX1_init_25 (fun H locs1 hw ho => ?_)
  refine lv_aload_n hx hb dX1_init_28 rfl (lv_at hl 0 rfl) ?_
  refine lv_aload_n hx hb dX1_init_29 rfl (lv_at hl 1 rfl) ?_
  refine cr_putF X hw hn uw1 tyX1 tyX1_ok nmX1 (ci := 1) rfl 0 (by decide) rfl rfl 0 (by decide) ⟨rfl, rfl, rfl⟩ rfl rfl (tyX1_ok 0 (by decide)) rfl rfl (Nat.le_of_ble_eq_true rfl) fl_X1_21 dX1_init_30 (fun H locs1 hw ho => ?_)
  refine cr_ret X hw hlt (fun i hi => ?_) hr dX1_init_33
  match i, hi with
  | 0, _ => rfl
  | 1, _ => rfl
  | 2, _ => rfl
  | 3, _ => rfl

def F_X2 (cy : Nat → ClassId) (x0 : Nat) (ad : Nat → Nat) (i : Nat) : va_E := if i < 1 then .inr (2, [.ref x0, .ref (ad 1), .ref (ad 2), .ref (ad 3), .ref (ad 4), .int 0, .int 0, .int 0]) else if i < 2 then .inl (cy 0, 448, .inl (fun _ => 0)) else if i < 3 then .inl (cy 0, 448, .inl (fun _ => 0)) else if i < 4 then .inl (cy 0, 7, .inl (fun _ => 0)) else .inl (cy 0, 7, .inl (fun _ => 0))
set_option maxRecDepth 100000 in
set_option maxHeartbeats 4000000 in
theorem n_X2 {l : Launch} {D : va_G} {cy : Nat → ClassId} {z : wStr} {b0 h0 sz x0 : Nat} (hb0 : b0 ≤ h0) : cC D cy z l yX2_init (Cond.code yX2_init cX2_init 2 none :: aw) 1 100 4 910 b0 h0 sz [.ref x0] (.inr (2, bkX2)) (F_X2 cy x0) 5 := by
  refine cr_start (own := RX2) hb0 (by decide +kernel) rfl (Nat.le_of_ble_eq_true rfl) rfl rfl ?_
  intro p e s m below meth c ls X hn hsz hlt hw hr hl
  have hx := X.hx
  have hb := X.hb
  replace hl : lv_has ls 2 [(0, .ref h0), (1, .ref x0)] := hl
  subst hsz
  obtain ⟨H, eH⟩ : ∃ H : Heap, H = s.heap := ⟨_, rfl⟩
  obtain ⟨locs, el⟩ : ∃ locs : List Loc, locs = [] := ⟨_, rfl⟩
  have hlo : ∀ x ∈ locs, cB (fun _ => h0) 1 x.base := by rw [el]; intro x hx; cases hx
  rw [← el] at hw ⊢
  rw [show cH D s h0 (fun _ => h0) (fun _ => .inr (2, bkX2)) 1 s.heap locs = cH D s h0 (fun _ => h0) (fun _ => .inr (2, bkX2)) 1 H locs by rw [eH]] at hw
  rw [show W p l e { frames := 1, cells := 4, slots := 910, locals := 100 } s m (.ref h0 :: [.ref x0]).toArray below meth c s.heap locs = W p l e { frames := 1, cells := 4, slots := 910, locals := 100 } s m (.ref h0 :: [.ref x0]).toArray below meth c H locs by rw [eH]]
  clear eH el
  refine lv_aload_n hx hb dX2_init_0 rfl (lv_at hl 0 rfl) ?_
  refine cr_obj X hl.1 ml_X2_3 dX2_init_1 (Nat.le_of_ble_eq_true rfl) (Nat.le_of_ble_eq_true rfl) ?_
  refine lv_aload_n hx hb dX2_init_4 rfl (lv_at hl 0 rfl) ?_
  refine lv_sipush (v := 448) hx hb dX2_init_5 (by decide) ?_
  refine cr_newa (atype := .int) (ty := .int) X hw arc_int rfl 0 rfl (Or.inl rfl) (N' := 448) (a0 := (448, .inl (fun _ => 0))) (fun _ => rfl) (by decide) (by decide) (by decide) (Nat.le_of_ble_eq_true rfl) (Nat.le_of_ble_eq_true rfl) dX2_init_8 (fun q1 H hw => ?_)
  refine cr_putF X hw hn uw2 tyX2 tyX2_ok nmX2 (ci := 2) rfl 0 (by decide) rfl rfl 1 (by decide) ⟨rfl, rfl, rfl⟩ rfl rfl (tyX2_ok 1 (by decide)) rfl rfl (Nat.le_of_ble_eq_true rfl) fl_X2_9 dX2_init_10 (fun H locs1 hw ho => ?_)
  refine lv_aload_n hx hb dX2_init_13 rfl (lv_at hl 0 rfl) ?_
  refine lv_sipush (v := 448) hx hb dX2_init_14 (by decide) ?_
  refine cr_newa (atype := .int) (ty := .int) X hw arc_int rfl 0 rfl (Or.inl rfl) (N' := 448) (a0 := (448, .inl (fun _ => 0))) (fun _ => rfl) (by decide) (by decide) (by decide) (Nat.le_of_ble_eq_true rfl) (Nat.le_of_ble_eq_true rfl) dX2_init_17 (fun q2 H hw => ?_)
  refine cr_putF X hw hn uw2 tyX2 tyX2_ok nmX2 (ci := 2) rfl 0 (by decide) rfl rfl 2 (by decide) ⟨rfl, rfl, rfl⟩ rfl rfl (tyX2_ok 2 (by decide)) rfl rfl (Nat.le_of_ble_eq_true rfl) fl_X2_15 dX2_init_19 (fun H locs1 hw ho => ?_)
  refine lv_aload_n hx hb dX2_init_22 rfl (lv_at hl 0 rfl) ?_
  refine lv_bipush (v := 7) hx hb dX2_init_23 (by decide) ?_
  refine cr_newa (atype := .int) (ty := .int) X hw arc_int rfl 0 rfl (Or.inl rfl) (N' := 7) (a0 := (7, .inl (fun _ => 0))) (fun _ => rfl) (by decide) (by decide) (by decide) (Nat.le_of_ble_eq_true rfl) (Nat.le_of_ble_eq_true rfl) dX2_init_25 (fun q3 H hw => ?_)
  refine cr_putF X hw hn uw2 tyX2 tyX2_ok nmX2 (ci := 2) rfl 0 (by decide) rfl rfl 3 (by decide) ⟨rfl, rfl, rfl⟩ rfl rfl (tyX2_ok 3 (by decide)) rfl rfl (Nat.le_of_ble_eq_true rfl) fl_X2_18 dX2_init_27 (fun H locs1 hw ho => ?_)
  refine lv_aload_n hx hb dX2_init_30 rfl (lv_at hl 0 rfl) ?_
  refine lv_bipush (v := 7) hx hb dX2_init_31 (by decide) ?_
  refine cr_newa (atype := .int) (ty := .int) X hw arc_int rfl 0 rfl (Or.inl rfl) (N' := 7) (a0 := (7, .inl (fun _ => 0))) (fun _ => rfl) (by decide) (by decide) (by decide) (Nat.le_of_ble_eq_true rfl) (Nat.le_of_ble_eq_true rfl) dX2_init_33 (fun q4 H hw => ?_)
  refine cr_putF X hw hn uw2 tyX2 tyX2_ok nmX2 (ci := 2) rfl 0 (by decide) rfl rfl 4 (by decide) ⟨rfl, rfl, rfl⟩ rfl rfl (tyX2_ok 4 (by decide)) rfl rfl (Nat.le_of_ble_eq_true rfl) fl_X2_21 dX2_init_35 (fun H locs1 hw ho => ?_)
  refine lv_aload_n hx hb dX2_init_38 rfl (lv_at hl 0 rfl) ?_
  refine lv_aload_n hx hb dX2_init_39 rfl (lv_at hl 1 rfl) ?_
  refine cr_putF X hw hn uw2 tyX2 tyX2_ok nmX2 (ci := 2) rfl 0 (by decide) rfl rfl 0 (by decide) ⟨rfl, rfl, rfl⟩ rfl rfl (tyX2_ok 0 (by decide)) rfl rfl (Nat.le_of_ble_eq_true rfl) fl_X2_24 dX2_init_40 (fun H locs1 hw ho => ?_)
  refine cr_ret X hw hlt (fun i hi => ?_) hr dX2_init_43
  match i, hi with
  | 0, _ => rfl
  | 1, _ => rfl
  | 2, _ => rfl
  | 3, _ => rfl
  | 4, _ => rfl

def F_X3 (cy : Nat → ClassId) (x0 : Nat) (x1 : Nat) (ad : Nat → Nat) (i : Nat) : va_E := if i < 1 then .inr (3, [.ref x0, .ref x1, .ref (ad 1), .int 0, .int 0]) else F_X6 cy (fun j => ad (1 + j)) (i - 1)
set_option maxRecDepth 100000 in
set_option maxHeartbeats 4000000 in
theorem n_X3 {l : Launch} {D : va_G} {cy : Nat → ClassId} {z : wStr} {b0 h0 sz x0 x1 : Nat} (hb0 : b0 ≤ h0) : cC D cy z l yX3_init (Cond.code yX3_init cX3_init 3 none :: aw) 2 120 4 29 b0 h0 sz [.ref x0, .ref x1] (.inr (3, bkX3)) (F_X3 cy x0 x1) 5 := by
  refine cr_start (own := RX3) hb0 (by decide +kernel) rfl (Nat.le_of_ble_eq_true rfl) rfl rfl ?_
  intro p e s m below meth c ls X hn hsz hlt hw hr hl
  have hx := X.hx
  have hb := X.hb
  replace hl : lv_has ls 3 [(0, .ref h0), (1, .ref x0), (2, .ref x1)] := hl
  subst hsz
  obtain ⟨H, eH⟩ : ∃ H : Heap, H = s.heap := ⟨_, rfl⟩
  obtain ⟨locs, el⟩ : ∃ locs : List Loc, locs = [] := ⟨_, rfl⟩
  have hlo : ∀ x ∈ locs, cB (fun _ => h0) 1 x.base := by rw [el]; intro x hx; cases hx
  rw [← el] at hw ⊢
  rw [show cH D s h0 (fun _ => h0) (fun _ => .inr (3, bkX3)) 1 s.heap locs = cH D s h0 (fun _ => h0) (fun _ => .inr (3, bkX3)) 1 H locs by rw [eH]] at hw
  rw [show W p l e { frames := 2, cells := 4, slots := 29, locals := 120 } s m (.ref h0 :: [.ref x0, .ref x1]).toArray below meth c s.heap locs = W p l e { frames := 2, cells := 4, slots := 29, locals := 120 } s m (.ref h0 :: [.ref x0, .ref x1]).toArray below meth c H locs by rw [eH]]
  clear eH el
  refine lv_aload_n hx hb dX3_init_0 rfl (lv_at hl 0 rfl) ?_
  refine cr_obj X hl.1 ml_X3_3 dX3_init_1 (Nat.le_of_ble_eq_true rfl) (Nat.le_of_ble_eq_true rfl) ?_
  refine lv_aload_n hx hb dX3_init_4 rfl (lv_at hl 0 rfl) ?_
  refine cr_new X hw uw6 tyX6 tyX6_ok cl_X3_9 inX6 ini_X6 (ci := 6) rfl (fs := bkX6) dfX6 (Nat.le_of_ble_eq_true rfl) (Nat.le_of_ble_eq_true rfl) dX3_init_5 (fun q1 H hw => ?_)
  refine lv_dup hx hb dX3_init_8 rfl ?_
  refine cr_callN (k := 1) (k' := 4) (xs := []) (rest := [.ref q1, .ref h0]) X hw hl.1 (by decide) rfl (fun sz => n_X6 (D := D) (cy := cy) (z := z) (b0 := b0) (sz := sz) (cH.b0 hw (k := 1) (by decide) rfl X)) rfl mn_X3_11 im_X6_init ini_X6 co_X6_init hdi_X6_init ⟨(Nat.le_of_ble_eq_true rfl), (Nat.le_of_ble_eq_true rfl)⟩ ⟨(Nat.le_of_ble_eq_true rfl), (Nat.le_of_ble_eq_true rfl)⟩ (Nat.le_of_ble_eq_true rfl) dX3_init_9 rfl (fun ad2 H locs ead2 hw => ?_)
  have hhad2 : q1 = ad2 0 := by rw [ead2]; rfl
  refine cr_putF X hw hn uw3 tyX3 tyX3_ok nmX3 (ci := 3) rfl 0 (by decide) rfl rfl 2 (by decide) ⟨rfl, rfl, rfl⟩ rfl rfl (tyX3_ok 2 (by decide)) rfl rfl (Nat.le_of_ble_eq_true rfl) fl_X3_12 dX3_init_12 (fun H locs1 hw ho => ?_)
  refine lv_aload_n hx hb dX3_init_15 rfl (lv_at hl 0 rfl) ?_
  refine lv_aload_n hx hb dX3_init_16 rfl (lv_at hl 1 rfl) ?_
  refine cr_putF X hw hn uw3 tyX3 tyX3_ok nmX3 (ci := 3) rfl 0 (by decide) rfl rfl 0 (by decide) ⟨rfl, rfl, rfl⟩ rfl rfl (tyX3_ok 0 (by decide)) rfl rfl (Nat.le_of_ble_eq_true rfl) fl_X3_18 dX3_init_17 (fun H locs1 hw ho => ?_)
  refine lv_aload_n hx hb dX3_init_20 rfl (lv_at hl 0 rfl) ?_
  refine lv_aload_n hx hb dX3_init_21 rfl (lv_at hl 2 rfl) ?_
  refine cr_putF X hw hn uw3 tyX3 tyX3_ok nmX3 (ci := 3) rfl 0 (by decide) rfl rfl 1 (by decide) ⟨rfl, rfl, rfl⟩ rfl rfl (tyX3_ok 1 (by decide)) rfl rfl (Nat.le_of_ble_eq_true rfl) fl_X3_22 dX3_init_22 (fun H locs1 hw ho => ?_)
  refine cr_ret X hw hlt (fun i hi => ?_) hr dX3_init_25
  match i, hi with
  | 0, _ => first | rfl | (simp only [hhad2]; rfl)
  | 1, _ => first | rfl | (simp only [hhad2]; rfl)
  | 2, _ => first | rfl | (simp only [hhad2]; rfl)
  | 3, _ => first | rfl | (simp only [hhad2]; rfl)
  | 4, _ => first | rfl | (simp only [hhad2]; rfl)

def F_X9 (cy : Nat → ClassId) (ad : Nat → Nat) (i : Nat) : va_E := if i < 1 then .inr (9, [.ref (ad 1), .ref (ad 2), .ref (ad 3), .ref (ad 4), .int 0, .int 0, .int 0]) else if i < 2 then .inl (cy 0, 20, .inl (fun _ => 0)) else if i < 3 then .inl (cy 0, 20, .inl (fun _ => 0)) else if i < 4 then .inl (cy 3, 20, .inl (fun _ => 0)) else .inl (cy 0, 7, .inl (fun _ => 0))
set_option maxRecDepth 100000 in
set_option maxHeartbeats 4000000 in
theorem n_X9 {l : Launch} {D : va_G} {cy : Nat → ClassId} {z : wStr} {b0 h0 sz : Nat} (hb0 : b0 ≤ h0) : cC D cy z l yX9_init (Cond.code yX9_init cX9_init 1 none :: aw) 1 100 4 67 b0 h0 sz [] (.inr (9, bkX9)) (F_X9 cy) 5 := by
  refine cr_start (own := RX9) hb0 (by decide +kernel) rfl (Nat.le_of_ble_eq_true rfl) rfl rfl ?_
  intro p e s m below meth c ls X hn hsz hlt hw hr hl
  have hx := X.hx
  have hb := X.hb
  replace hl : lv_has ls 1 [(0, .ref h0)] := hl
  subst hsz
  obtain ⟨H, eH⟩ : ∃ H : Heap, H = s.heap := ⟨_, rfl⟩
  obtain ⟨locs, el⟩ : ∃ locs : List Loc, locs = [] := ⟨_, rfl⟩
  have hlo : ∀ x ∈ locs, cB (fun _ => h0) 1 x.base := by rw [el]; intro x hx; cases hx
  rw [← el] at hw ⊢
  rw [show cH D s h0 (fun _ => h0) (fun _ => .inr (9, bkX9)) 1 s.heap locs = cH D s h0 (fun _ => h0) (fun _ => .inr (9, bkX9)) 1 H locs by rw [eH]] at hw
  rw [show W p l e { frames := 1, cells := 4, slots := 67, locals := 100 } s m (.ref h0 :: []).toArray below meth c s.heap locs = W p l e { frames := 1, cells := 4, slots := 67, locals := 100 } s m (.ref h0 :: []).toArray below meth c H locs by rw [eH]]
  clear eH el
  refine lv_aload_n hx hb dX9_init_0 rfl (lv_at hl 0 rfl) ?_
  refine cr_obj X hl.1 ml_X9_3 dX9_init_1 (Nat.le_of_ble_eq_true rfl) (Nat.le_of_ble_eq_true rfl) ?_
  refine lv_aload_n hx hb dX9_init_4 rfl (lv_at hl 0 rfl) ?_
  refine lv_bipush (v := 20) hx hb dX9_init_5 (by decide) ?_
  refine cr_newa (atype := .int) (ty := .int) X hw arc_int rfl 0 rfl (Or.inl rfl) (N' := 20) (a0 := (20, .inl (fun _ => 0))) (fun _ => rfl) (by decide) (by decide) (by decide) (Nat.le_of_ble_eq_true rfl) (Nat.le_of_ble_eq_true rfl) dX9_init_7 (fun q1 H hw => ?_)
  refine cr_putF X hw hn uw9 tyX9 tyX9_ok nmX9 (ci := 9) rfl 0 (by decide) rfl rfl 0 (by decide) ⟨rfl, rfl, rfl⟩ rfl rfl (tyX9_ok 0 (by decide)) rfl rfl (Nat.le_of_ble_eq_true rfl) fl_X9_9 dX9_init_9 (fun H locs1 hw ho => ?_)
  refine lv_aload_n hx hb dX9_init_12 rfl (lv_at hl 0 rfl) ?_
  refine lv_bipush (v := 20) hx hb dX9_init_13 (by decide) ?_
  refine cr_newa (atype := .int) (ty := .int) X hw arc_int rfl 0 rfl (Or.inl rfl) (N' := 20) (a0 := (20, .inl (fun _ => 0))) (fun _ => rfl) (by decide) (by decide) (by decide) (Nat.le_of_ble_eq_true rfl) (Nat.le_of_ble_eq_true rfl) dX9_init_15 (fun q2 H hw => ?_)
  refine cr_putF X hw hn uw9 tyX9 tyX9_ok nmX9 (ci := 9) rfl 0 (by decide) rfl rfl 1 (by decide) ⟨rfl, rfl, rfl⟩ rfl rfl (tyX9_ok 1 (by decide)) rfl rfl (Nat.le_of_ble_eq_true rfl) fl_X9_15 dX9_init_17 (fun H locs1 hw ho => ?_)
  refine lv_aload_n hx hb dX9_init_20 rfl (lv_at hl 0 rfl) ?_
  refine lv_bipush (v := 20) hx hb dX9_init_21 (by decide) ?_
  refine cr_newa (atype := .boolean) (ty := .boolean) X hw arc_boolean rfl 3 rfl (Or.inr (Or.inr (Or.inr (Or.inl rfl)))) (N' := 20) (a0 := (20, .inl (fun _ => 0))) (fun _ => rfl) (by decide) (by decide) (by decide) (Nat.le_of_ble_eq_true rfl) (Nat.le_of_ble_eq_true rfl) dX9_init_23 (fun q3 H hw => ?_)
  refine cr_putF X hw hn uw9 tyX9 tyX9_ok nmX9 (ci := 9) rfl 0 (by decide) rfl rfl 2 (by decide) ⟨rfl, rfl, rfl⟩ rfl rfl (tyX9_ok 2 (by decide)) rfl rfl (Nat.le_of_ble_eq_true rfl) fl_X9_18 dX9_init_25 (fun H locs1 hw ho => ?_)
  refine lv_aload_n hx hb dX9_init_28 rfl (lv_at hl 0 rfl) ?_
  refine lv_bipush (v := 7) hx hb dX9_init_29 (by decide) ?_
  refine cr_newa (atype := .int) (ty := .int) X hw arc_int rfl 0 rfl (Or.inl rfl) (N' := 7) (a0 := (7, .inl (fun _ => 0))) (fun _ => rfl) (by decide) (by decide) (by decide) (Nat.le_of_ble_eq_true rfl) (Nat.le_of_ble_eq_true rfl) dX9_init_31 (fun q4 H hw => ?_)
  refine cr_putF X hw hn uw9 tyX9 tyX9_ok nmX9 (ci := 9) rfl 0 (by decide) rfl rfl 3 (by decide) ⟨rfl, rfl, rfl⟩ rfl rfl (tyX9_ok 3 (by decide)) rfl rfl (Nat.le_of_ble_eq_true rfl) fl_X9_22 dX9_init_33 (fun H locs1 hw ho => ?_)
  refine cr_ret X hw hlt (fun i hi => ?_) hr dX9_init_36
  match i, hi with
  | 0, _ => rfl
  | 1, _ => rfl
  | 2, _ => rfl
  | 3, _ => rfl
  | 4, _ => rfl

def F_X8 (cy : Nat → ClassId) (ad : Nat → Nat) (i : Nat) : va_E := went WT ad cy σT i
set_option maxRecDepth 100000 in
set_option maxHeartbeats 4000000 in
theorem n_X8 {l : Launch} {D : va_G} {cy : Nat → ClassId} {z : wStr} {b0 h0 sz : Nat} (hb0 : b0 ≤ h0) : cC D cy z l yX8_init (Cond.code yX8_init cX8_init 1 none :: aw) 4 164 5 445 b0 h0 sz [] (.inr (8, bkX8)) (F_X8 cy) 6 := by
  refine cr_start (own := RX8) hb0 (by decide +kernel) rfl (Nat.le_of_ble_eq_true rfl) rfl rfl ?_
  intro p e s m below meth c ls X hn hsz hlt hw hr hl
  have hx := X.hx
  have hb := X.hb
  replace hl : lv_has ls 1 [(0, .ref h0)] := hl
  subst hsz
  obtain ⟨H, eH⟩ : ∃ H : Heap, H = s.heap := ⟨_, rfl⟩
  obtain ⟨locs, el⟩ : ∃ locs : List Loc, locs = [] := ⟨_, rfl⟩
  have hlo : ∀ x ∈ locs, cB (fun _ => h0) 1 x.base := by rw [el]; intro x hx; cases hx
  rw [← el] at hw ⊢
  rw [show cH D s h0 (fun _ => h0) (fun _ => .inr (8, bkX8)) 1 s.heap locs = cH D s h0 (fun _ => h0) (fun _ => .inr (8, bkX8)) 1 H locs by rw [eH]] at hw
  rw [show W p l e { frames := 4, cells := 5, slots := 445, locals := 164 } s m (.ref h0 :: []).toArray below meth c s.heap locs = W p l e { frames := 4, cells := 5, slots := 445, locals := 164 } s m (.ref h0 :: []).toArray below meth c H locs by rw [eH]]
  clear eH el
  refine lv_aload_n hx hb dX8_init_0 rfl (lv_at hl 0 rfl) ?_
  refine cr_obj X hl.1 ml_X8_3 dX8_init_1 (Nat.le_of_ble_eq_true rfl) (Nat.le_of_ble_eq_true rfl) ?_
  refine lv_aload_n hx hb dX8_init_4 rfl (lv_at hl 0 rfl) ?_
  refine lv_sipush (v := 420) hx hb dX8_init_5 (by decide) ?_
  refine cr_newa (atype := .int) (ty := .int) X hw arc_int rfl 0 rfl (Or.inl rfl) (N' := 420) (a0 := (420, .inl (fun _ => 0))) (fun _ => rfl) (by decide) (by decide) (by decide) (Nat.le_of_ble_eq_true rfl) (Nat.le_of_ble_eq_true rfl) dX8_init_8 (fun q1 H hw => ?_)
  refine cr_putF X hw hn uw8 tyX8 tyX8_ok nmX8 (ci := 8) rfl 0 (by decide) rfl rfl 0 (by decide) ⟨rfl, rfl, rfl⟩ rfl rfl (tyX8_ok 0 (by decide)) rfl rfl (Nat.le_of_ble_eq_true rfl) fl_X8_9 dX8_init_10 (fun H locs1 hw ho => ?_)
  refine lv_aload_n hx hb dX8_init_13 rfl (lv_at hl 0 rfl) ?_
  refine lv_iconst (v := 4) hx hb dX8_init_14 (by decide) ?_
  refine cr_newa (atype := .int) (ty := .int) X hw arc_int rfl 0 rfl (Or.inl rfl) (N' := 4) (a0 := (4, .inl (fun _ => 0))) (fun _ => rfl) (by decide) (by decide) (by decide) (Nat.le_of_ble_eq_true rfl) (Nat.le_of_ble_eq_true rfl) dX8_init_15 (fun q2 H hw => ?_)
  refine cr_putF X hw hn uw8 tyX8 tyX8_ok nmX8 (ci := 8) rfl 0 (by decide) rfl rfl 1 (by decide) ⟨rfl, rfl, rfl⟩ rfl rfl (tyX8_ok 1 (by decide)) rfl rfl (Nat.le_of_ble_eq_true rfl) fl_X8_15 dX8_init_17 (fun H locs1 hw ho => ?_)
  refine lv_aload_n hx hb dX8_init_20 rfl (lv_at hl 0 rfl) ?_
  refine lv_bipush (v := 7) hx hb dX8_init_21 (by decide) ?_
  refine cr_newa (atype := .int) (ty := .int) X hw arc_int rfl 0 rfl (Or.inl rfl) (N' := 7) (a0 := (7, .inl (fun _ => 0))) (fun _ => rfl) (by decide) (by decide) (by decide) (Nat.le_of_ble_eq_true rfl) (Nat.le_of_ble_eq_true rfl) dX8_init_23 (fun q3 H hw => ?_)
  refine cr_putF X hw hn uw8 tyX8 tyX8_ok nmX8 (ci := 8) rfl 0 (by decide) rfl rfl 2 (by decide) ⟨rfl, rfl, rfl⟩ rfl rfl (tyX8_ok 2 (by decide)) rfl rfl (Nat.le_of_ble_eq_true rfl) fl_X8_18 dX8_init_25 (fun H locs1 hw ho => ?_)
  refine lv_aload_n hx hb dX8_init_28 rfl (lv_at hl 0 rfl) ?_
  refine lv_bipush (v := 7) hx hb dX8_init_29 (by decide) ?_
  refine cr_newa (atype := .int) (ty := .int) X hw arc_int rfl 0 rfl (Or.inl rfl) (N' := 7) (a0 := (7, .inl (fun _ => 0))) (fun _ => rfl) (by decide) (by decide) (by decide) (Nat.le_of_ble_eq_true rfl) (Nat.le_of_ble_eq_true rfl) dX8_init_31 (fun q4 H hw => ?_)
  refine cr_putF X hw hn uw8 tyX8 tyX8_ok nmX8 (ci := 8) rfl 0 (by decide) rfl rfl 3 (by decide) ⟨rfl, rfl, rfl⟩ rfl rfl (tyX8_ok 3 (by decide)) rfl rfl (Nat.le_of_ble_eq_true rfl) fl_X8_21 dX8_init_33 (fun H locs1 hw ho => ?_)
  refine lv_aload_n hx hb dX8_init_36 rfl (lv_at hl 0 rfl) ?_
  refine lv_bipush (v := 7) hx hb dX8_init_37 (by decide) ?_
  refine cr_newa (atype := .long) (ty := .long) X hw arc_long rfl 1 rfl (Or.inr (Or.inl rfl)) (N' := 7) (a0 := (7, .inr (.inl (fun _ => 0)))) (fun _ => rfl) (by decide) (by decide) (by decide) (Nat.le_of_ble_eq_true rfl) (Nat.le_of_ble_eq_true rfl) dX8_init_39 (fun q5 H hw => ?_)
  refine cr_putF X hw hn uw8 tyX8 tyX8_ok nmX8 (ci := 8) rfl 0 (by decide) rfl rfl 4 (by decide) ⟨rfl, rfl, rfl⟩ rfl rfl (tyX8_ok 4 (by decide)) rfl rfl (Nat.le_of_ble_eq_true rfl) fl_X8_24 dX8_init_41 (fun H locs1 hw ho => ?_)
  refine lv_aload_n hx hb dX8_init_44 rfl (lv_at hl 0 rfl) ?_
  obtain ⟨ad0, G0, eA, eF, hw⟩ := hw.names
  have hw := hw.congr (F2 := went WT ad0 cy σz) (fun i hi => by
    subst eF
    subst eA
    match i, hi with
    | 0, _ => rfl
    | 1, _ => rfl
    | 2, _ => rfl
    | 3, _ => rfl
    | 4, _ => rfl
    | 5, _ => rfl)
  refine cr_cV (w := WT) (σ := σz) (σ' := σT) (av := []) (rest := []) X hw hl.1 (cid := 0) txT.s0 txT.n0 rfl (by rw [eA]; rfl) (fun hI => k_X8_clear hI txT σT_ok) rfl ml_X8_28 im_X8_clear se_X8_clear ini_X8 co_X8_clear hd_X8_clear ⟨(Nat.le_of_ble_eq_true rfl), (Nat.le_of_ble_eq_true rfl)⟩ ⟨(Nat.le_of_ble_eq_true rfl), (Nat.le_of_ble_eq_true rfl)⟩ (Nat.le_of_ble_eq_true rfl) dX8_init_45 rfl (fun H locs hw => ?_)
  exact cr_ret X hw hlt (fun i hi => rfl) hr dX8_init_48

def F_X4 (cy : Nat → ClassId) (x0 : Nat) (ad : Nat → Nat) (i : Nat) : va_E := if i < 1 then .inr (4, [.ref (ad 7), .ref (ad 1), .int 0, .int 0, .int 0, .int 0, .int 0]) else if i < 7 then F_X8 cy (fun j => ad (1 + j)) (i - 1) else F_X5 cy x0 (fun j => ad (7 + j)) (i - 7)
set_option maxRecDepth 100000 in
set_option maxHeartbeats 4000000 in
theorem n_X4 {l : Launch} {D : va_G} {cy : Nat → ClassId} {z : wStr} {b0 h0 sz x0 : Nat} (hb0 : b0 ≤ h0) : cC D cy z l yX4_init (Cond.code yX4_init cX4_init 2 none :: aw) 5 184 10 1666 b0 h0 sz [.ref x0] (.inr (4, bkX4)) (F_X4 cy x0) 11 := by
  refine cr_start (own := RX4) hb0 (by decide +kernel) rfl (Nat.le_of_ble_eq_true rfl) rfl rfl ?_
  intro p e s m below meth c ls X hn hsz hlt hw hr hl
  have hx := X.hx
  have hb := X.hb
  replace hl : lv_has ls 2 [(0, .ref h0), (1, .ref x0)] := hl
  subst hsz
  obtain ⟨H, eH⟩ : ∃ H : Heap, H = s.heap := ⟨_, rfl⟩
  obtain ⟨locs, el⟩ : ∃ locs : List Loc, locs = [] := ⟨_, rfl⟩
  have hlo : ∀ x ∈ locs, cB (fun _ => h0) 1 x.base := by rw [el]; intro x hx; cases hx
  rw [← el] at hw ⊢
  rw [show cH D s h0 (fun _ => h0) (fun _ => .inr (4, bkX4)) 1 s.heap locs = cH D s h0 (fun _ => h0) (fun _ => .inr (4, bkX4)) 1 H locs by rw [eH]] at hw
  rw [show W p l e { frames := 5, cells := 10, slots := 1666, locals := 184 } s m (.ref h0 :: [.ref x0]).toArray below meth c s.heap locs = W p l e { frames := 5, cells := 10, slots := 1666, locals := 184 } s m (.ref h0 :: [.ref x0]).toArray below meth c H locs by rw [eH]]
  clear eH el
  refine lv_aload_n hx hb dX4_init_0 rfl (lv_at hl 0 rfl) ?_
  refine cr_obj X hl.1 ml_X4_3 dX4_init_1 (Nat.le_of_ble_eq_true rfl) (Nat.le_of_ble_eq_true rfl) ?_
  refine lv_aload_n hx hb dX4_init_4 rfl (lv_at hl 0 rfl) ?_
  refine cr_new X hw uw8 tyX8 tyX8_ok cl_X4_9 inX8 ini_X8 (ci := 8) rfl (fs := bkX8) dfX8 (Nat.le_of_ble_eq_true rfl) (Nat.le_of_ble_eq_true rfl) dX4_init_5 (fun q1 H hw => ?_)
  refine lv_dup hx hb dX4_init_8 rfl ?_
  refine cr_callN (k := 1) (k' := 6) (xs := []) (rest := [.ref q1, .ref h0]) X hw hl.1 (by decide) rfl (fun sz => n_X8 (D := D) (cy := cy) (z := z) (b0 := b0) (sz := sz) (cH.b0 hw (k := 1) (by decide) rfl X)) rfl mn_X4_11 im_X8_init ini_X8 co_X8_init hdi_X8_init ⟨(Nat.le_of_ble_eq_true rfl), (Nat.le_of_ble_eq_true rfl)⟩ ⟨(Nat.le_of_ble_eq_true rfl), (Nat.le_of_ble_eq_true rfl)⟩ (Nat.le_of_ble_eq_true rfl) dX4_init_9 rfl (fun ad2 H locs ead2 hw => ?_)
  have hhad2 : q1 = ad2 0 := by rw [ead2]; rfl
  refine cr_putF X hw hn uw4 tyX4 tyX4_ok nmX4 (ci := 4) rfl 0 (by decide) rfl rfl 1 (by decide) ⟨rfl, rfl, rfl⟩ rfl rfl (tyX4_ok 1 (by decide)) rfl rfl (Nat.le_of_ble_eq_true rfl) fl_X4_12 dX4_init_12 (fun H locs1 hw ho => ?_)
  refine lv_aload_n hx hb dX4_init_15 rfl (lv_at hl 0 rfl) ?_
  refine cr_new X hw uw5 tyX5 tyX5_ok cl_X4_18 inX5 ini_X5 (ci := 5) rfl (fs := bkX5) dfX5 (Nat.le_of_ble_eq_true rfl) (Nat.le_of_ble_eq_true rfl) dX4_init_16 (fun q3 H hw => ?_)
  refine lv_dup hx hb dX4_init_19 rfl ?_
  refine lv_aload_n hx hb dX4_init_20 rfl (lv_at hl 1 rfl) ?_
  refine cr_callN (k := 7) (k' := 4) (xs := [.ref x0]) (rest := [.ref q3, .ref h0]) X hw hl.1 (by decide) rfl (fun sz => n_X5 (D := D) (cy := cy) (z := z) (b0 := b0) (sz := sz) (x0 := x0) (cH.b0 hw (k := 7) (by decide) rfl X)) rfl mn_X4_20 im_X5_init ini_X5 co_X5_init hdi_X5_init ⟨(Nat.le_of_ble_eq_true rfl), (Nat.le_of_ble_eq_true rfl)⟩ ⟨(Nat.le_of_ble_eq_true rfl), (Nat.le_of_ble_eq_true rfl)⟩ (Nat.le_of_ble_eq_true rfl) dX4_init_21 rfl (fun ad4 H locs ead4 hw => ?_)
  have hhad4 : q3 = ad4 0 := by rw [ead4]; rfl
  refine cr_putF X hw hn uw4 tyX4 tyX4_ok nmX4 (ci := 4) rfl 0 (by decide) rfl rfl 0 (by decide) ⟨rfl, rfl, rfl⟩ rfl rfl (tyX4_ok 0 (by decide)) rfl rfl (Nat.le_of_ble_eq_true rfl) fl_X4_23 dX4_init_24 (fun H locs1 hw ho => ?_)
  refine cr_ret X hw hlt (fun i hi => ?_) hr dX4_init_27
  match i, hi with
  | 0, _ => first | rfl | (simp only [hhad2, hhad4]; rfl)
  | 1, _ => first | rfl | (simp only [hhad2, hhad4]; rfl)
  | 2, _ => first | rfl | (simp only [hhad2, hhad4]; rfl)
  | 3, _ => first | rfl | (simp only [hhad2, hhad4]; rfl)
  | 4, _ => first | rfl | (simp only [hhad2, hhad4]; rfl)
  | 5, _ => first | rfl | (simp only [hhad2, hhad4]; rfl)
  | 6, _ => first | rfl | (simp only [hhad2, hhad4]; rfl)
  | 7, _ => first | rfl | (simp only [hhad2, hhad4]; rfl)
  | 8, _ => first | rfl | (simp only [hhad2, hhad4]; rfl)
  | 9, _ => first | rfl | (simp only [hhad2, hhad4]; rfl)
  | 10, _ => first | rfl | (simp only [hhad2, hhad4]; rfl)

/-- n of the States made, their row at arr -/
def FL (cy : Nat → ClassId) (K arr nn n : Nat) (G0 : Nat → va_E) (ad : Nat → Nat) (c : Nat) : va_E := if c < K then (if c = arr then .inl (cy 4, nn, .inr (.inr (.inr (.inr (fun j => if j < n then some (ad (K + 4 * j)) else none))))) else G0 c) else F_X6 cy (fun j => ad (K + 4 * ((c - K) / 4) + j)) ((c - K) % 4)
theorem arr_end {A ad : Nat → Nat} {K n : Nat} : (fun j => if j < n then some (ad (K + 4 * j)) else none) = fun j => if j < n then some ((fun c => if c < K then A c else ad c) (K + 4 * j)) else none := by
  funext j
  show _ = if j < n then some (if K + 4 * j < K then A (K + 4 * j) else ad (K + 4 * j)) else none
  rw [if_neg (show ¬ K + 4 * j < K by omega)]
theorem F_X6_congr {cy : Nat → ClassId} {A B : Nat → Nat} (h : ∀ j, j < 4 → A j = B j) (r : Nat) : F_X6 cy A r = F_X6 cy B r := by
  unfold F_X6
  rw [h 1 (by decide), h 2 (by decide), h 3 (by decide)]
theorem FL_step {cy : Nat → ClassId} {K arr nn i q c : Nat} {G0 : Nat → va_E} {ad ad2 : Nat → Nat} {x : Int32} {e : va_E} (harr : arr < K) (hx : x.toNatClampNeg = i) (hq : ad2 0 = q) (hc : c < K + 4 * i + 4) :
    va_up (cj (va_up (FL cy K arr nn i G0 ad) (K + 4 * i) e) (K + 4 * i) (F_X6 cy ad2)) arr (.inl (cy 4, nn, .inr (.inr (.inr (.inr (va_up (fun j => if j < i then some (ad (K + 4 * j)) else none) x.toNatClampNeg (some q))))))) c = FL cy K arr nn (i + 1) G0 (cj (va_up ad (K + 4 * i) q) (K + 4 * i) ad2) c := by
  have had : ∀ c, c < K + 4 * i → cj (va_up ad (K + 4 * i) q) (K + 4 * i) ad2 c = ad c := fun c hc => by simp [cj, hc, va_up, Nat.ne_of_lt hc]
  have hnq : ∀ r, cj (va_up ad (K + 4 * i) q) (K + 4 * i) ad2 (K + 4 * i + r) = ad2 r := fun r => by rw [cj, if_neg (by omega), Nat.add_sub_cancel_left]
  by_cases h2 : c = arr
  · subst h2
    rw [show va_up _ c _ c = _ from if_pos rfl, FL, if_pos harr, if_pos rfl]
    have e1 : va_up (fun j => if j < i then some (ad (K + 4 * j)) else none) x.toNatClampNeg (some q) = fun j => if j < i + 1 then some (cj (va_up ad (K + 4 * i) q) (K + 4 * i) ad2 (K + 4 * j)) else none := by
      funext j
      rw [hx]
      rcases Nat.lt_trichotomy j i with h | h | h
      · rw [show va_up _ i _ j = _ from if_neg (Nat.ne_of_lt h), if_pos h, if_pos (by omega), had _ (by omega)]
      · subst h
        have h5 := hnq 0
        rw [Nat.add_zero] at h5
        rw [show va_up _ j _ j = _ from if_pos rfl, if_pos (by omega), h5, hq]
      · rw [show va_up _ i _ j = _ from if_neg (by omega), if_neg (by omega), if_neg (by omega)]
    rw [e1]
  · rw [show va_up _ arr _ c = _ from if_neg h2]
    by_cases h1 : c < K + 4 * i
    · rw [show cj _ (K + 4 * i) _ c = _ from if_pos h1, show va_up _ (K + 4 * i) _ c = _ from if_neg (Nat.ne_of_lt h1), FL, FL]
      by_cases hK : c < K
      · rw [if_pos hK, if_pos hK, if_neg h2, if_neg h2]
      · rw [if_neg hK, if_neg hK]
        exact F_X6_congr (fun j hj => (had _ (by omega)).symm) _
    · obtain ⟨r, rfl⟩ : ∃ r, c = K + 4 * i + r := ⟨c - (K + 4 * i), by omega⟩
      rw [show cj _ (K + 4 * i) _ (K + 4 * i + r) = _ from if_neg h1, Nat.add_sub_cancel_left, FL, if_neg (by omega), show (K + 4 * i + r - K) / 4 = i by omega, show (K + 4 * i + r - K) % 4 = r by omega]
      exact F_X6_congr (fun j _ => (hnq j).symm) _
def F_X0 (cy : Nat → ClassId) (ad : Nat → Nat) (i : Nat) : va_E := if i < 1 then .inr (0, [.ref (ad 1), .int 0, .int 0]) else if i < 2 then .inl (cy 4, 40, .inr (.inr (.inr (.inr (fun j => if j < 40 then some (ad (2 + 4 * j)) else none))))) else F_X6 cy (fun j => ad (2 + 4 * ((i - 2) / 4) + j)) ((i - 2) % 4)
set_option maxRecDepth 100000 in
set_option maxHeartbeats 4000000 in
theorem n_X0 {l : Launch} {D : va_G} {cy : Nat → ClassId} {z : wStr} {b0 h0 sz : Nat} (hb0 : b0 ≤ h0) : cC D cy z l yX0_init (Cond.code yX0_init cX0_init 2 none :: aw) 2 120 161 1200 b0 h0 sz [] (.inr (0, bkX0)) (F_X0 cy) 162 := by
  refine cr_start (own := RX0) hb0 (by decide +kernel) rfl (Nat.le_of_ble_eq_true rfl) rfl rfl ?_
  intro p e s m below meth c ls X hn hsz hlt hw hr hl
  have hx := X.hx
  have hb := X.hb
  replace hl : lv_has ls 2 [(0, .ref h0)] := hl
  subst hsz
  obtain ⟨H, eH⟩ : ∃ H : Heap, H = s.heap := ⟨_, rfl⟩
  obtain ⟨locs, el⟩ : ∃ locs : List Loc, locs = [] := ⟨_, rfl⟩
  have hlo : ∀ x ∈ locs, cB (fun _ => h0) 1 x.base := by rw [el]; intro x hx; cases hx
  rw [← el] at hw ⊢
  rw [show cH D s h0 (fun _ => h0) (fun _ => .inr (0, bkX0)) 1 s.heap locs = cH D s h0 (fun _ => h0) (fun _ => .inr (0, bkX0)) 1 H locs by rw [eH]] at hw
  rw [show W p l e { frames := 2, cells := 161, slots := 1200, locals := 120 } s m (.ref h0 :: []).toArray below meth c s.heap locs = W p l e { frames := 2, cells := 161, slots := 1200, locals := 120 } s m (.ref h0 :: []).toArray below meth c H locs by rw [eH]]
  clear eH el
  refine lv_aload_n hx hb dX0_init_0 rfl (lv_at hl 0 rfl) ?_
  refine cr_obj X hl.1 ml_X0_3 dX0_init_1 (Nat.le_of_ble_eq_true rfl) (Nat.le_of_ble_eq_true rfl) ?_
  refine lv_aload_n hx hb dX0_init_4 rfl (lv_at hl 0 rfl) ?_
  refine lv_bipush (v := 40) hx hb dX0_init_5 (by decide) ?_
  refine cr_newq X hw cl_X0_9 (N' := 40) (by decide) (by decide) (by decide) (Nat.le_of_ble_eq_true rfl) (Nat.le_of_ble_eq_true rfl) dX0_init_7 (fun q1 H hw => ?_)
  refine cr_putF X hw hn uw0 tyX0 tyX0_ok nmX0 (ci := 0) rfl 0 (by decide) rfl rfl 0 (by decide) ⟨rfl, rfl, rfl⟩ rfl rfl (tyX0_ok 0 (by decide)) rfl rfl (Nat.le_of_ble_eq_true rfl) fl_X0_11 dX0_init_10 (fun H locs1 hw ho => ?_)
  refine lv_iconst (v := 0) hx hb dX0_init_13 (by decide) ?_
  refine lv_istore_n (lv' := [(1, .int 0), (0, .ref h0)]) hx hb dX0_init_14 rfl hl (by decide) rfl (fun ls hl => ?_)
  obtain ⟨ad0, G0, eA, eF, hw⟩ := hw.names
  have hA0 : ad0 0 = h0 := (hw.2.2.2 hlt).2
  obtain ⟨fs, hfs, hget⟩ : ∃ fs, G0 0 = .inr (0, fs) ∧ fs[0]? = some (.ref (ad0 1)) := ⟨_, by rw [eF]; rfl, by rw [eA]; first | rfl | (simp only [eA]; rfl)⟩
  have hFa : G0 1 = .inl (cy 4, 40, .inr (.inr (.inr (.inr (fun _ => none))))) := by rw [eF]; rfl
  have lo : ∀ (j i : Nat), i + j = 40 → ∀ (ad : Nat → Nat) (ls : Array Slot) (H : Heap) (locs : List Loc), (∀ c, c < 2 → ad c = ad0 c) → lv_has ls 2 [(0, .ref h0), (1, .int (nI i))] → cH D s h0 ad (FL cy 2 1 40 i G0 ad) (2 + 4 * i) H locs → W p l e { frames := 2, cells := 161, slots := 1200, locals := 120 } s m (.ref h0 :: []).toArray below meth c H locs (1 + 4 * i) (40 + 29 * i) (MQ below (cQ D (F_X0 cy) 162 h0 s.heap.size) (.ref h0 :: []).toArray s 161 1200 (cA h0 s.heap.size)) (F0 m 15 ls []) := by
    intro j
    induction j with
    | zero =>
      intro i hi ad ls H locs hA hl hw
      have e : i = 40 := by omega
      subst e
      refine lv_iload_n hx hb dX0_init_15 rfl (lv_at hl 1 rfl) ?_
      refine lv_bipush (v := 40) hx hb dX0_init_16 (by decide) ?_
      refine lv_icmp_ge (tgt := 40) hx hb dX0_init_18 (by decide) (fun c1 => ?_) (fun c1 => absurd (by decide) c1)
      have hw := hw.congr2 (ad2 := fun c => if c < 2 then ad0 c else ad c) (F2 := F_X0 cy (fun c => if c < 2 then ad0 c else ad c)) (fun c _ => by
        by_cases h : c < 2
        · rw [hA c h]; exact (if_pos h).symm
        · exact (if_neg h).symm) (fun c hc => by
        by_cases h : c < 2
        · rw [FL, if_pos h]
          clear hfs hget hFa
          subst eF
          subst eA
          match c, h with
          | 0, _ => rfl
          | 1, _ =>
            rw [if_pos rfl]
            exact (congrArg (fun f => (Sum.inl (cy 4, 40, .inr (.inr (.inr (.inr f)))) : va_E)) (arr_end (K := 2) (n := 40))).trans rfl
        · rw [FL, if_neg h, F_X0]
          rw [if_neg (show ¬ c < 1 by omega)]
          rw [if_neg (show ¬ c < 2 by omega)]
          exact F_X6_congr (fun j _ => (if_neg (show ¬ _ < 2 by omega)).symm) _)
      exact cr_ret (F' := F_X0 cy) X hw hlt (fun i hi => rfl) hr dX0_init_40
    | succ j ih =>
      intro i hi ad ls H locs hA hl hw
      refine lv_iload_n hx hb dX0_init_15 rfl (lv_at hl 1 rfl) ?_
      refine lv_bipush (v := 40) hx hb dX0_init_16 (by decide) ?_
      refine lv_icmp_ge (tgt := 40) hx hb dX0_init_18 (by decide) (fun c1 => absurd c1 (nI_ge (a := i) (b := 40) (by omega) (by decide))) (fun c1 => ?_)
      refine lv_aload_n hx hb dX0_init_21 rfl (lv_at hl 0 rfl) ?_
      refine cr_get X hw uw0 (ci := 0) rfl 0 (by omega) ((hA 0 (by decide)).trans hA0).symm (hfs : FL cy 2 1 40 i G0 ad 0 = _) 0 (by decide) ⟨rfl, rfl, rfl⟩ (v := .ref (ad0 1)) hget fl_X0_11 dX0_init_22 ?_
      refine lv_iload_n hx hb dX0_init_25 rfl (lv_at hl 1 rfl) ?_
      refine cr_new X hw uw6 tyX6 tyX6_ok cl_X0_9 inX6 ini_X6 (ci := 6) rfl (fs := bkX6) dfX6 (by dsimp only; omega) (by dsimp only; omega) dX0_init_26 (fun q H hw => ?_)
      refine lv_dup hx hb dX0_init_29 rfl ?_
      refine cr_callN (k := 2 + 4 * i) (k' := 4) (xs := []) (F' := F_X6 cy) (rest := [.ref q, .int (nI i), .ref (ad0 1)]) X hw hl.1 (by decide) (a := q) (by simp [va_up]) (fun sz => by rw [show va_up (FL cy 2 1 40 i G0 ad) (2 + 4 * i) (.inr (6, bkX6)) (2 + 4 * i) = .inr (6, bkX6) by simp [va_up]]; exact n_X6 (cH.b0 hw (k := 2 + 4 * i) (by omega) (by simp [va_up]) X)) rfl mn_X0_17 im_X6_init ini_X6 co_X6_init hdi_X6_init ⟨(Nat.le_of_ble_eq_true rfl), (Nat.le_of_ble_eq_true rfl)⟩ ⟨by dsimp only; omega, by dsimp only; omega⟩ (Nat.le_of_ble_eq_true rfl) dX0_init_30 rfl (fun ad2 H locs1 e2 hw => ?_)
      have hq : ad2 0 = q := by rw [e2]; simp [va_up]
      have had : ∀ c, c < 2 + 4 * i → cj (va_up ad (2 + 4 * i) q) (2 + 4 * i) ad2 c = ad c := fun c hc => by simp [cj, hc, va_up, Nat.ne_of_lt hc]
      have hFo : cj (va_up (FL cy 2 1 40 i G0 ad) (2 + 4 * i) (.inr (6, bkX6))) (2 + 4 * i) (F_X6 cy ad2) 1 = .inl (cy 4, 40, .inr (.inr (.inr (.inr (fun j => if j < i then some (ad (2 + 4 * j)) else none))))) := by
        rw [show cj _ (2 + 4 * i) _ 1 = _ from if_pos (by omega), show va_up _ (2 + 4 * i) _ 1 = _ from if_neg (by omega)]; rfl
      have hFq : cj (va_up (FL cy 2 1 40 i G0 ad) (2 + 4 * i) (.inr (6, bkX6))) (2 + 4 * i) (F_X6 cy ad2) (2 + 4 * i) = F_X6 cy ad2 0 := by simp [cj]
      refine cr_aast X hw 1 (by omega) (by rw [had 1 (by omega), hA 1 (by decide)]) hFo (2 + 4 * i) (by omega) (by rw [← hq]; simp [cj]) (hFq.trans rfl) (show vp_in (nI i) 40 from vp_in_nI (by omega) (by decide)) dX0_init_33 (fun H locs hw _ => ?_)
      refine lv_iinc (v := nI (i + 1)) (lv' := [(1, .int (nI (i + 1))), (0, .ref h0)]) hx hb dX0_init_34 hl (k := 1) rfl (by rw [nI_succ]; rfl) (by decide) rfl (fun ls hl => ?_)
      refine lv_goto (tgt := 15) hx hb dX0_init_37 (by decide) ?_
      refine W.widen (k := 1 + 4 * (i + 1)) (n := 40 + 29 * (i + 1)) (by omega) (by omega) ?_
      refine ih (i + 1) (by omega) (cj (va_up ad (2 + 4 * i) q) (2 + 4 * i) ad2) ls H locs (fun c hc => (had c (by omega)).trans (hA c hc)) (lv_sub hl [1, 0] rfl) ?_
      rw [show 2 + 4 * (i + 1) = 2 + 4 * i + 4 by omega]
      exact hw.congr (fun c hc => FL_step (by decide) (nI_clamp (by omega)) hq hc)
  refine lo 40 0 rfl ad0 ls H _ (fun _ _ => rfl) (lv_sub hl [1, 0] rfl) (hw.congr (fun c hc => ?_))
  rw [FL, if_pos hc]
  by_cases h : c = 1
  · rw [if_pos h, h, hFa]; rfl
  · rw [if_neg h]

theorem F_X0_congr {cy : Nat → ClassId} {A B : Nat → Nat} (h : ∀ j, j < 162 → A j = B j) {i : Nat} (hi : i < 162) : F_X0 cy A i = F_X0 cy B i := by
  unfold F_X0
  by_cases h1 : i < 1
  · rw [if_pos h1, if_pos h1, h 1 (by decide)]
  · rw [if_neg h1, if_neg h1]
    by_cases h2 : i < 2
    · rw [if_pos h2, if_pos h2]
      have e : (fun j => if j < 40 then some (A (2 + 4 * j)) else none) = fun j => if j < 40 then some (B (2 + 4 * j)) else none := by
        funext j
        by_cases hj : j < 40
        · rw [if_pos hj, if_pos hj, h _ (by omega)]
        · rw [if_neg hj, if_neg hj]
      rw [e]
    · rw [if_neg h2, if_neg h2]
      exact F_X6_congr (fun j hj => h _ (by omega)) _
def F_X10 (cy : Nat → ClassId) (ad : Nat → Nat) (i : Nat) : va_E := if i < 1 then .inr (10, [.ref (ad 1), .ref (ad 3), .ref (ad 9), .ref (ad 20), .ref (ad 24), .ref (ad 29), .ref (ad 34), .ref (ad 39), .ref (ad 43), .ref (ad 205), .int 0, .int (-1)]) else if i < 3 then F_X7 cy (fun j => ad (1 + j)) (i - 1) else if i < 9 then F_X8 cy (fun j => ad (3 + j)) (i - 3) else if i < 20 then F_X4 cy (ad 1) (fun j => ad (9 + j)) (i - 9) else if i < 24 then F_X1 cy (ad 3) (fun j => ad (20 + j)) (i - 20) else if i < 29 then F_X2 cy (ad 20) (fun j => ad (24 + j)) (i - 24) else if i < 34 then F_X3 cy (ad 3) (ad 20) (fun j => ad (29 + j)) (i - 29) else if i < 39 then F_X9 cy (fun j => ad (34 + j)) (i - 34) else if i < 43 then F_X6 cy (fun j => ad (39 + j)) (i - 39) else if i < 205 then F_X0 cy (fun j => ad (43 + j)) (i - 43) else if i < 206 then .inl (cy 4, 3, .inr (.inr (.inr (.inr (fun j => if j < 3 then some (ad (206 + 4 * j)) else none))))) else F_X6 cy (fun j => ad (206 + 4 * ((i - 206) / 4) + j)) ((i - 206) % 4)
set_option maxRecDepth 100000 in
set_option maxHeartbeats 4000000 in
theorem n_X10 {l : Launch} {D : va_G} {cy : Nat → ClassId} {z : wStr} {b0 h0 sz : Nat} (hb0 : b0 ≤ h0) : cC D cy z l yX10_init (Cond.code yX10_init cX10_init 2 none :: aw) 6 205 217 6537 b0 h0 sz [] (.inr (10, bkX10)) (F_X10 cy) 218 := by
  refine cr_start (own := RX10) hb0 (by decide +kernel) rfl (Nat.le_of_ble_eq_true rfl) rfl rfl ?_
  intro p e s m below meth c ls X hn hsz hlt hw hr hl
  have hx := X.hx
  have hb := X.hb
  replace hl : lv_has ls 2 [(0, .ref h0)] := hl
  subst hsz
  obtain ⟨H, eH⟩ : ∃ H : Heap, H = s.heap := ⟨_, rfl⟩
  obtain ⟨locs, el⟩ : ∃ locs : List Loc, locs = [] := ⟨_, rfl⟩
  have hlo : ∀ x ∈ locs, cB (fun _ => h0) 1 x.base := by rw [el]; intro x hx; cases hx
  rw [← el] at hw ⊢
  rw [show cH D s h0 (fun _ => h0) (fun _ => .inr (10, bkX10)) 1 s.heap locs = cH D s h0 (fun _ => h0) (fun _ => .inr (10, bkX10)) 1 H locs by rw [eH]] at hw
  rw [show W p l e { frames := 6, cells := 217, slots := 6537, locals := 205 } s m (.ref h0 :: []).toArray below meth c s.heap locs = W p l e { frames := 6, cells := 217, slots := 6537, locals := 205 } s m (.ref h0 :: []).toArray below meth c H locs by rw [eH]]
  clear eH el
  refine lv_aload_n hx hb dX10_init_0 rfl (lv_at hl 0 rfl) ?_
  refine cr_obj X hl.1 ml_X10_1 dX10_init_1 (Nat.le_of_ble_eq_true rfl) (Nat.le_of_ble_eq_true rfl) ?_
  refine lv_aload_n hx hb dX10_init_4 rfl (lv_at hl 0 rfl) ?_
  refine cr_new X hw uw7 tyX7 tyX7_ok cl_X10_7 inX7 ini_X7 (ci := 7) rfl (fs := bkX7) dfX7 (Nat.le_of_ble_eq_true rfl) (Nat.le_of_ble_eq_true rfl) dX10_init_5 (fun q1 H hw => ?_)
  refine lv_dup hx hb dX10_init_8 rfl ?_
  refine cr_callN (k := 1) (k' := 2) (xs := []) (rest := [.ref q1, .ref h0]) X hw hl.1 (by decide) rfl (fun sz => n_X7 (D := D) (cy := cy) (z := z) (b0 := b0) (sz := sz) (cH.b0 hw (k := 1) (by decide) rfl X)) rfl mn_X10_9 im_X7_init ini_X7 co_X7_init hdi_X7_init ⟨(Nat.le_of_ble_eq_true rfl), (Nat.le_of_ble_eq_true rfl)⟩ ⟨(Nat.le_of_ble_eq_true rfl), (Nat.le_of_ble_eq_true rfl)⟩ (Nat.le_of_ble_eq_true rfl) dX10_init_9 rfl (fun ad2 H locs ead2 hw => ?_)
  have hhad2 : q1 = ad2 0 := by rw [ead2]; rfl
  refine cr_putF X hw hn uw10 tyX10 tyX10_ok nmX10 (ci := 10) rfl 0 (by decide) rfl rfl 0 (by decide) ⟨rfl, rfl, rfl⟩ rfl rfl (tyX10_ok 0 (by decide)) rfl rfl (Nat.le_of_ble_eq_true rfl) fl_X10_10 dX10_init_12 (fun H locs1 hw ho => ?_)
  refine lv_aload_n hx hb dX10_init_15 rfl (lv_at hl 0 rfl) ?_
  refine cr_new X hw uw8 tyX8 tyX8_ok cl_X10_16 inX8 ini_X8 (ci := 8) rfl (fs := bkX8) dfX8 (Nat.le_of_ble_eq_true rfl) (Nat.le_of_ble_eq_true rfl) dX10_init_16 (fun q3 H hw => ?_)
  refine lv_dup hx hb dX10_init_19 rfl ?_
  refine cr_callN (k := 3) (k' := 6) (xs := []) (rest := [.ref q3, .ref h0]) X hw hl.1 (by decide) rfl (fun sz => n_X8 (D := D) (cy := cy) (z := z) (b0 := b0) (sz := sz) (cH.b0 hw (k := 3) (by decide) rfl X)) rfl mn_X10_18 im_X8_init ini_X8 co_X8_init hdi_X8_init ⟨(Nat.le_of_ble_eq_true rfl), (Nat.le_of_ble_eq_true rfl)⟩ ⟨(Nat.le_of_ble_eq_true rfl), (Nat.le_of_ble_eq_true rfl)⟩ (Nat.le_of_ble_eq_true rfl) dX10_init_20 rfl (fun ad4 H locs ead4 hw => ?_)
  have hhad4 : q3 = ad4 0 := by rw [ead4]; rfl
  refine cr_putF X hw hn uw10 tyX10 tyX10_ok nmX10 (ci := 10) rfl 0 (by decide) rfl rfl 1 (by decide) ⟨rfl, rfl, rfl⟩ rfl rfl (tyX10_ok 1 (by decide)) rfl rfl (Nat.le_of_ble_eq_true rfl) fl_X10_19 dX10_init_23 (fun H locs1 hw ho => ?_)
  refine lv_aload_n hx hb dX10_init_26 rfl (lv_at hl 0 rfl) ?_
  refine cr_new X hw uw4 tyX4 tyX4_ok cl_X10_23 inX4 ini_X4 (ci := 4) rfl (fs := bkX4) dfX4 (Nat.le_of_ble_eq_true rfl) (Nat.le_of_ble_eq_true rfl) dX10_init_27 (fun q5 H hw => ?_)
  refine lv_dup hx hb dX10_init_30 rfl ?_
  refine lv_aload_n hx hb dX10_init_31 rfl (lv_at hl 0 rfl) ?_
  refine cr_get X hw uw10 (ci := 10) rfl 0 (by decide) rfl rfl 0 (by decide) ⟨rfl, rfl, rfl⟩ (v := .ref q1) rfl fl_X10_10 dX10_init_32 ?_
  refine cr_callN (k := 9) (k' := 11) (xs := [.ref q1]) (rest := [.ref q5, .ref h0]) X hw hl.1 (by decide) rfl (fun sz => n_X4 (D := D) (cy := cy) (z := z) (b0 := b0) (sz := sz) (x0 := q1) (cH.b0 hw (k := 9) (by decide) rfl X)) rfl mn_X10_25 im_X4_init ini_X4 co_X4_init hdi_X4_init ⟨(Nat.le_of_ble_eq_true rfl), (Nat.le_of_ble_eq_true rfl)⟩ ⟨(Nat.le_of_ble_eq_true rfl), (Nat.le_of_ble_eq_true rfl)⟩ (Nat.le_of_ble_eq_true rfl) dX10_init_35 rfl (fun ad6 H locs ead6 hw => ?_)
  have hhad6 : q5 = ad6 0 := by rw [ead6]; rfl
  refine cr_putF X hw hn uw10 tyX10 tyX10_ok nmX10 (ci := 10) rfl 0 (by decide) rfl rfl 2 (by decide) ⟨rfl, rfl, rfl⟩ rfl rfl (tyX10_ok 2 (by decide)) rfl rfl (Nat.le_of_ble_eq_true rfl) fl_X10_28 dX10_init_38 (fun H locs1 hw ho => ?_)
  refine lv_aload_n hx hb dX10_init_41 rfl (lv_at hl 0 rfl) ?_
  refine cr_new X hw uw1 tyX1 tyX1_ok cl_X10_32 inX1 ini_X1 (ci := 1) rfl (fs := bkX1) dfX1 (Nat.le_of_ble_eq_true rfl) (Nat.le_of_ble_eq_true rfl) dX10_init_42 (fun q7 H hw => ?_)
  refine lv_dup hx hb dX10_init_45 rfl ?_
  refine lv_aload_n hx hb dX10_init_46 rfl (lv_at hl 0 rfl) ?_
  refine cr_get X hw uw10 (ci := 10) rfl 0 (by decide) rfl rfl 1 (by decide) ⟨rfl, rfl, rfl⟩ (v := .ref q3) rfl fl_X10_19 dX10_init_47 ?_
  refine cr_callN (k := 20) (k' := 4) (xs := [.ref q3]) (rest := [.ref q7, .ref h0]) X hw hl.1 (by decide) rfl (fun sz => n_X1 (D := D) (cy := cy) (z := z) (b0 := b0) (sz := sz) (x0 := q3) (cH.b0 hw (k := 20) (by decide) rfl X)) rfl mn_X10_34 im_X1_init ini_X1 co_X1_init hdi_X1_init ⟨(Nat.le_of_ble_eq_true rfl), (Nat.le_of_ble_eq_true rfl)⟩ ⟨(Nat.le_of_ble_eq_true rfl), (Nat.le_of_ble_eq_true rfl)⟩ (Nat.le_of_ble_eq_true rfl) dX10_init_50 rfl (fun ad8 H locs ead8 hw => ?_)
  have hhad8 : q7 = ad8 0 := by rw [ead8]; rfl
  refine cr_putF X hw hn uw10 tyX10 tyX10_ok nmX10 (ci := 10) rfl 0 (by decide) rfl rfl 3 (by decide) ⟨rfl, rfl, rfl⟩ rfl rfl (tyX10_ok 3 (by decide)) rfl rfl (Nat.le_of_ble_eq_true rfl) fl_X10_37 dX10_init_53 (fun H locs1 hw ho => ?_)
  refine lv_aload_n hx hb dX10_init_56 rfl (lv_at hl 0 rfl) ?_
  refine cr_new X hw uw2 tyX2 tyX2_ok cl_X10_41 inX2 ini_X2 (ci := 2) rfl (fs := bkX2) dfX2 (Nat.le_of_ble_eq_true rfl) (Nat.le_of_ble_eq_true rfl) dX10_init_57 (fun q9 H hw => ?_)
  refine lv_dup hx hb dX10_init_60 rfl ?_
  refine lv_aload_n hx hb dX10_init_61 rfl (lv_at hl 0 rfl) ?_
  refine cr_get X hw uw10 (ci := 10) rfl 0 (by decide) rfl rfl 3 (by decide) ⟨rfl, rfl, rfl⟩ (v := .ref q7) rfl fl_X10_37 dX10_init_62 ?_
  refine cr_callN (k := 24) (k' := 5) (xs := [.ref q7]) (rest := [.ref q9, .ref h0]) X hw hl.1 (by decide) rfl (fun sz => n_X2 (D := D) (cy := cy) (z := z) (b0 := b0) (sz := sz) (x0 := q7) (cH.b0 hw (k := 24) (by decide) rfl X)) rfl mn_X10_43 im_X2_init ini_X2 co_X2_init hdi_X2_init ⟨(Nat.le_of_ble_eq_true rfl), (Nat.le_of_ble_eq_true rfl)⟩ ⟨(Nat.le_of_ble_eq_true rfl), (Nat.le_of_ble_eq_true rfl)⟩ (Nat.le_of_ble_eq_true rfl) dX10_init_65 rfl (fun ad10 H locs ead10 hw => ?_)
  have hhad10 : q9 = ad10 0 := by rw [ead10]; rfl
  refine cr_putF X hw hn uw10 tyX10 tyX10_ok nmX10 (ci := 10) rfl 0 (by decide) rfl rfl 4 (by decide) ⟨rfl, rfl, rfl⟩ rfl rfl (tyX10_ok 4 (by decide)) rfl rfl (Nat.le_of_ble_eq_true rfl) fl_X10_46 dX10_init_68 (fun H locs1 hw ho => ?_)
  refine lv_aload_n hx hb dX10_init_71 rfl (lv_at hl 0 rfl) ?_
  refine cr_new X hw uw3 tyX3 tyX3_ok cl_X10_50 inX3 ini_X3 (ci := 3) rfl (fs := bkX3) dfX3 (Nat.le_of_ble_eq_true rfl) (Nat.le_of_ble_eq_true rfl) dX10_init_72 (fun q11 H hw => ?_)
  refine lv_dup hx hb dX10_init_75 rfl ?_
  refine lv_aload_n hx hb dX10_init_76 rfl (lv_at hl 0 rfl) ?_
  refine cr_get X hw uw10 (ci := 10) rfl 0 (by decide) rfl rfl 1 (by decide) ⟨rfl, rfl, rfl⟩ (v := .ref q3) rfl fl_X10_19 dX10_init_77 ?_
  refine lv_aload_n hx hb dX10_init_80 rfl (lv_at hl 0 rfl) ?_
  refine cr_get X hw uw10 (ci := 10) rfl 0 (by decide) rfl rfl 3 (by decide) ⟨rfl, rfl, rfl⟩ (v := .ref q7) rfl fl_X10_37 dX10_init_81 ?_
  refine cr_callN (k := 29) (k' := 5) (xs := [.ref q3, .ref q7]) (rest := [.ref q11, .ref h0]) X hw hl.1 (by decide) rfl (fun sz => n_X3 (D := D) (cy := cy) (z := z) (b0 := b0) (sz := sz) (x0 := q3) (x1 := q7) (cH.b0 hw (k := 29) (by decide) rfl X)) rfl mn_X10_52 im_X3_init ini_X3 co_X3_init hdi_X3_init ⟨(Nat.le_of_ble_eq_true rfl), (Nat.le_of_ble_eq_true rfl)⟩ ⟨(Nat.le_of_ble_eq_true rfl), (Nat.le_of_ble_eq_true rfl)⟩ (Nat.le_of_ble_eq_true rfl) dX10_init_84 rfl (fun ad12 H locs ead12 hw => ?_)
  have hhad12 : q11 = ad12 0 := by rw [ead12]; rfl
  refine cr_putF X hw hn uw10 tyX10 tyX10_ok nmX10 (ci := 10) rfl 0 (by decide) rfl rfl 5 (by decide) ⟨rfl, rfl, rfl⟩ rfl rfl (tyX10_ok 5 (by decide)) rfl rfl (Nat.le_of_ble_eq_true rfl) fl_X10_55 dX10_init_87 (fun H locs1 hw ho => ?_)
  refine lv_aload_n hx hb dX10_init_90 rfl (lv_at hl 0 rfl) ?_
  refine cr_new X hw uw9 tyX9 tyX9_ok cl_X10_59 inX9 ini_X9 (ci := 9) rfl (fs := bkX9) dfX9 (Nat.le_of_ble_eq_true rfl) (Nat.le_of_ble_eq_true rfl) dX10_init_91 (fun q13 H hw => ?_)
  refine lv_dup hx hb dX10_init_94 rfl ?_
  refine cr_callN (k := 34) (k' := 5) (xs := []) (rest := [.ref q13, .ref h0]) X hw hl.1 (by decide) rfl (fun sz => n_X9 (D := D) (cy := cy) (z := z) (b0 := b0) (sz := sz) (cH.b0 hw (k := 34) (by decide) rfl X)) rfl mn_X10_61 im_X9_init ini_X9 co_X9_init hdi_X9_init ⟨(Nat.le_of_ble_eq_true rfl), (Nat.le_of_ble_eq_true rfl)⟩ ⟨(Nat.le_of_ble_eq_true rfl), (Nat.le_of_ble_eq_true rfl)⟩ (Nat.le_of_ble_eq_true rfl) dX10_init_95 rfl (fun ad14 H locs ead14 hw => ?_)
  have hhad14 : q13 = ad14 0 := by rw [ead14]; rfl
  refine cr_putF X hw hn uw10 tyX10 tyX10_ok nmX10 (ci := 10) rfl 0 (by decide) rfl rfl 6 (by decide) ⟨rfl, rfl, rfl⟩ rfl rfl (tyX10_ok 6 (by decide)) rfl rfl (Nat.le_of_ble_eq_true rfl) fl_X10_62 dX10_init_98 (fun H locs1 hw ho => ?_)
  refine lv_aload_n hx hb dX10_init_101 rfl (lv_at hl 0 rfl) ?_
  refine cr_new X hw uw6 tyX6 tyX6_ok cl_X10_66 inX6 ini_X6 (ci := 6) rfl (fs := bkX6) dfX6 (Nat.le_of_ble_eq_true rfl) (Nat.le_of_ble_eq_true rfl) dX10_init_102 (fun q15 H hw => ?_)
  refine lv_dup hx hb dX10_init_105 rfl ?_
  refine cr_callN (k := 39) (k' := 4) (xs := []) (rest := [.ref q15, .ref h0]) X hw hl.1 (by decide) rfl (fun sz => n_X6 (D := D) (cy := cy) (z := z) (b0 := b0) (sz := sz) (cH.b0 hw (k := 39) (by decide) rfl X)) rfl mn_X10_68 im_X6_init ini_X6 co_X6_init hdi_X6_init ⟨(Nat.le_of_ble_eq_true rfl), (Nat.le_of_ble_eq_true rfl)⟩ ⟨(Nat.le_of_ble_eq_true rfl), (Nat.le_of_ble_eq_true rfl)⟩ (Nat.le_of_ble_eq_true rfl) dX10_init_106 rfl (fun ad16 H locs ead16 hw => ?_)
  have hhad16 : q15 = ad16 0 := by rw [ead16]; rfl
  refine cr_putF X hw hn uw10 tyX10 tyX10_ok nmX10 (ci := 10) rfl 0 (by decide) rfl rfl 7 (by decide) ⟨rfl, rfl, rfl⟩ rfl rfl (tyX10_ok 7 (by decide)) rfl rfl (Nat.le_of_ble_eq_true rfl) fl_X10_69 dX10_init_109 (fun H locs1 hw ho => ?_)
  refine lv_aload_n hx hb dX10_init_112 rfl (lv_at hl 0 rfl) ?_
  refine cr_new X hw uw0 tyX0 tyX0_ok cl_X10_73 inX0 ini_X0 (ci := 0) rfl (fs := bkX0) dfX0 (Nat.le_of_ble_eq_true rfl) (Nat.le_of_ble_eq_true rfl) dX10_init_113 (fun q17 H hw => ?_)
  refine lv_dup hx hb dX10_init_116 rfl ?_
  refine cr_callN (k := 43) (k' := 162) (xs := []) (rest := [.ref q17, .ref h0]) X hw hl.1 (by decide) rfl (fun sz => n_X0 (D := D) (cy := cy) (z := z) (b0 := b0) (sz := sz) (cH.b0 hw (k := 43) (by decide) rfl X)) rfl mn_X10_75 im_X0_init ini_X0 co_X0_init hdi_X0_init ⟨(Nat.le_of_ble_eq_true rfl), (Nat.le_of_ble_eq_true rfl)⟩ ⟨(Nat.le_of_ble_eq_true rfl), (Nat.le_of_ble_eq_true rfl)⟩ (Nat.le_of_ble_eq_true rfl) dX10_init_117 rfl (fun ad18 H locs ead18 hw => ?_)
  have hhad18 : q17 = ad18 0 := by rw [ead18]; rfl
  refine cr_putF X hw hn uw10 tyX10 tyX10_ok nmX10 (ci := 10) rfl 0 (by decide) rfl rfl 8 (by decide) ⟨rfl, rfl, rfl⟩ rfl rfl (tyX10_ok 8 (by decide)) rfl rfl (Nat.le_of_ble_eq_true rfl) fl_X10_76 dX10_init_120 (fun H locs1 hw ho => ?_)
  refine lv_aload_n hx hb dX10_init_123 rfl (lv_at hl 0 rfl) ?_
  refine lv_iconst (v := 3) hx hb dX10_init_124 (by decide) ?_
  refine cr_newq X hw cl_X10_66 (N' := 3) (by decide) (by decide) (by decide) (Nat.le_of_ble_eq_true rfl) (Nat.le_of_ble_eq_true rfl) dX10_init_125 (fun q19 H hw => ?_)
  refine cr_putF X hw hn uw10 tyX10 tyX10_ok nmX10 (ci := 10) rfl 0 (by decide) rfl rfl 9 (by decide) ⟨rfl, rfl, rfl⟩ rfl rfl (tyX10_ok 9 (by decide)) rfl rfl (Nat.le_of_ble_eq_true rfl) fl_X10_80 dX10_init_128 (fun H locs1 hw ho => ?_)
  refine lv_aload_n hx hb dX10_init_131 rfl (lv_at hl 0 rfl) ?_
  refine lv_iconst (v := -1) hx hb dX10_init_132 (by decide) ?_
  refine cr_put X hw uw10 tyX10 tyX10_ok nmX10 (ci := 10) rfl 0 (by decide) rfl rfl 11 (by decide) ⟨rfl, rfl, rfl⟩ rfl (tyX10_ok 11 (by decide)) rfl rfl (Nat.le_of_ble_eq_true rfl) fl_X10_84 dX10_init_133 (fun H locs1 hw ho => ?_)
  refine lv_iconst (v := 0) hx hb dX10_init_136 (by decide) ?_
  refine lv_istore_n (lv' := [(1, .int 0), (0, .ref h0)]) hx hb dX10_init_137 rfl hl (by decide) rfl (fun ls hl => ?_)
  obtain ⟨ad0, G0, eA, eF, hw⟩ := hw.names
  have hA0 : ad0 0 = h0 := (hw.2.2.2 hlt).2
  obtain ⟨fs, hfs, hget⟩ : ∃ fs, G0 0 = .inr (10, fs) ∧ fs[9]? = some (.ref (ad0 205)) := ⟨_, by rw [eF]; rfl, by rw [eA]; first | rfl | (simp only [hhad2, hhad4, hhad6, hhad8, hhad10, hhad12, hhad14, hhad16, hhad18]; rfl)⟩
  have hFa : G0 205 = .inl (cy 4, 3, .inr (.inr (.inr (.inr (fun _ => none))))) := by rw [eF]; rfl
  have lo : ∀ (j i : Nat), i + j = 3 → ∀ (ad : Nat → Nat) (ls : Array Slot) (H : Heap) (locs : List Loc), (∀ c, c < 206 → ad c = ad0 c) → lv_has ls 2 [(0, .ref h0), (1, .int (nI i))] → cH D s h0 ad (FL cy 206 205 3 i G0 ad) (206 + 4 * i) H locs → W p l e { frames := 6, cells := 217, slots := 6537, locals := 205 } s m (.ref h0 :: []).toArray below meth c H locs (205 + 4 * i) (6450 + 29 * i) (MQ below (cQ D (F_X10 cy) 218 h0 s.heap.size) (.ref h0 :: []).toArray s 217 6537 (cA h0 s.heap.size)) (F0 m 138 ls []) := by
    intro j
    induction j with
    | zero =>
      intro i hi ad ls H locs hA hl hw
      have e : i = 3 := by omega
      subst e
      refine lv_iload_n hx hb dX10_init_138 rfl (lv_at hl 1 rfl) ?_
      refine lv_iconst (v := 3) hx hb dX10_init_139 (by decide) ?_
      refine lv_icmp_ge (tgt := 162) hx hb dX10_init_140 (by decide) (fun c1 => ?_) (fun c1 => absurd (by decide) c1)
      have hw := hw.congr2 (ad2 := fun c => if c < 206 then ad0 c else ad c) (F2 := F_X10 cy (fun c => if c < 206 then ad0 c else ad c)) (fun c _ => by
        by_cases h : c < 206
        · rw [hA c h]; exact (if_pos h).symm
        · exact (if_neg h).symm) (fun c hc => by
        by_cases h : c < 206
        · rw [FL, if_pos h]
          clear hfs hget hFa
          subst eF
          subst eA
          by_cases hq1 : c < 43
          · 
            match c, hq1 with
            | 0, _ => first | rfl | (simp only [hhad2, hhad4, hhad6, hhad8, hhad10, hhad12, hhad14, hhad16, hhad18]; rfl)
            | 1, _ => first | rfl | (simp only [hhad2, hhad4, hhad6, hhad8, hhad10, hhad12, hhad14, hhad16, hhad18]; rfl)
            | 2, _ => first | rfl | (simp only [hhad2, hhad4, hhad6, hhad8, hhad10, hhad12, hhad14, hhad16, hhad18]; rfl)
            | 3, _ => first | rfl | (simp only [hhad2, hhad4, hhad6, hhad8, hhad10, hhad12, hhad14, hhad16, hhad18]; rfl)
            | 4, _ => first | rfl | (simp only [hhad2, hhad4, hhad6, hhad8, hhad10, hhad12, hhad14, hhad16, hhad18]; rfl)
            | 5, _ => first | rfl | (simp only [hhad2, hhad4, hhad6, hhad8, hhad10, hhad12, hhad14, hhad16, hhad18]; rfl)
            | 6, _ => first | rfl | (simp only [hhad2, hhad4, hhad6, hhad8, hhad10, hhad12, hhad14, hhad16, hhad18]; rfl)
            | 7, _ => first | rfl | (simp only [hhad2, hhad4, hhad6, hhad8, hhad10, hhad12, hhad14, hhad16, hhad18]; rfl)
            | 8, _ => first | rfl | (simp only [hhad2, hhad4, hhad6, hhad8, hhad10, hhad12, hhad14, hhad16, hhad18]; rfl)
            | 9, _ => first | rfl | (simp only [hhad2, hhad4, hhad6, hhad8, hhad10, hhad12, hhad14, hhad16, hhad18]; rfl)
            | 10, _ => first | rfl | (simp only [hhad2, hhad4, hhad6, hhad8, hhad10, hhad12, hhad14, hhad16, hhad18]; rfl)
            | 11, _ => first | rfl | (simp only [hhad2, hhad4, hhad6, hhad8, hhad10, hhad12, hhad14, hhad16, hhad18]; rfl)
            | 12, _ => first | rfl | (simp only [hhad2, hhad4, hhad6, hhad8, hhad10, hhad12, hhad14, hhad16, hhad18]; rfl)
            | 13, _ => first | rfl | (simp only [hhad2, hhad4, hhad6, hhad8, hhad10, hhad12, hhad14, hhad16, hhad18]; rfl)
            | 14, _ => first | rfl | (simp only [hhad2, hhad4, hhad6, hhad8, hhad10, hhad12, hhad14, hhad16, hhad18]; rfl)
            | 15, _ => first | rfl | (simp only [hhad2, hhad4, hhad6, hhad8, hhad10, hhad12, hhad14, hhad16, hhad18]; rfl)
            | 16, _ => first | rfl | (simp only [hhad2, hhad4, hhad6, hhad8, hhad10, hhad12, hhad14, hhad16, hhad18]; rfl)
            | 17, _ => first | rfl | (simp only [hhad2, hhad4, hhad6, hhad8, hhad10, hhad12, hhad14, hhad16, hhad18]; rfl)
            | 18, _ => first | rfl | (simp only [hhad2, hhad4, hhad6, hhad8, hhad10, hhad12, hhad14, hhad16, hhad18]; rfl)
            | 19, _ => first | rfl | (simp only [hhad2, hhad4, hhad6, hhad8, hhad10, hhad12, hhad14, hhad16, hhad18]; rfl)
            | 20, _ => first | rfl | (simp only [hhad2, hhad4, hhad6, hhad8, hhad10, hhad12, hhad14, hhad16, hhad18]; rfl)
            | 21, _ => first | rfl | (simp only [hhad2, hhad4, hhad6, hhad8, hhad10, hhad12, hhad14, hhad16, hhad18]; rfl)
            | 22, _ => first | rfl | (simp only [hhad2, hhad4, hhad6, hhad8, hhad10, hhad12, hhad14, hhad16, hhad18]; rfl)
            | 23, _ => first | rfl | (simp only [hhad2, hhad4, hhad6, hhad8, hhad10, hhad12, hhad14, hhad16, hhad18]; rfl)
            | 24, _ => first | rfl | (simp only [hhad2, hhad4, hhad6, hhad8, hhad10, hhad12, hhad14, hhad16, hhad18]; rfl)
            | 25, _ => first | rfl | (simp only [hhad2, hhad4, hhad6, hhad8, hhad10, hhad12, hhad14, hhad16, hhad18]; rfl)
            | 26, _ => first | rfl | (simp only [hhad2, hhad4, hhad6, hhad8, hhad10, hhad12, hhad14, hhad16, hhad18]; rfl)
            | 27, _ => first | rfl | (simp only [hhad2, hhad4, hhad6, hhad8, hhad10, hhad12, hhad14, hhad16, hhad18]; rfl)
            | 28, _ => first | rfl | (simp only [hhad2, hhad4, hhad6, hhad8, hhad10, hhad12, hhad14, hhad16, hhad18]; rfl)
            | 29, _ => first | rfl | (simp only [hhad2, hhad4, hhad6, hhad8, hhad10, hhad12, hhad14, hhad16, hhad18]; rfl)
            | 30, _ => first | rfl | (simp only [hhad2, hhad4, hhad6, hhad8, hhad10, hhad12, hhad14, hhad16, hhad18]; rfl)
            | 31, _ => first | rfl | (simp only [hhad2, hhad4, hhad6, hhad8, hhad10, hhad12, hhad14, hhad16, hhad18]; rfl)
            | 32, _ => first | rfl | (simp only [hhad2, hhad4, hhad6, hhad8, hhad10, hhad12, hhad14, hhad16, hhad18]; rfl)
            | 33, _ => first | rfl | (simp only [hhad2, hhad4, hhad6, hhad8, hhad10, hhad12, hhad14, hhad16, hhad18]; rfl)
            | 34, _ => first | rfl | (simp only [hhad2, hhad4, hhad6, hhad8, hhad10, hhad12, hhad14, hhad16, hhad18]; rfl)
            | 35, _ => first | rfl | (simp only [hhad2, hhad4, hhad6, hhad8, hhad10, hhad12, hhad14, hhad16, hhad18]; rfl)
            | 36, _ => first | rfl | (simp only [hhad2, hhad4, hhad6, hhad8, hhad10, hhad12, hhad14, hhad16, hhad18]; rfl)
            | 37, _ => first | rfl | (simp only [hhad2, hhad4, hhad6, hhad8, hhad10, hhad12, hhad14, hhad16, hhad18]; rfl)
            | 38, _ => first | rfl | (simp only [hhad2, hhad4, hhad6, hhad8, hhad10, hhad12, hhad14, hhad16, hhad18]; rfl)
            | 39, _ => first | rfl | (simp only [hhad2, hhad4, hhad6, hhad8, hhad10, hhad12, hhad14, hhad16, hhad18]; rfl)
            | 40, _ => first | rfl | (simp only [hhad2, hhad4, hhad6, hhad8, hhad10, hhad12, hhad14, hhad16, hhad18]; rfl)
            | 41, _ => first | rfl | (simp only [hhad2, hhad4, hhad6, hhad8, hhad10, hhad12, hhad14, hhad16, hhad18]; rfl)
            | 42, _ => first | rfl | (simp only [hhad2, hhad4, hhad6, hhad8, hhad10, hhad12, hhad14, hhad16, hhad18]; rfl)
            | c + 43, h9 => exact absurd h9 (by omega)
          · by_cases hq2 : c = 205
            · subst hq2
              rw [if_pos rfl]
              exact (congrArg (fun f => (Sum.inl (cy 4, 3, .inr (.inr (.inr (.inr f)))) : va_E)) (arr_end (K := 206) (n := 3))).trans rfl
            · rw [if_neg hq2]
              have hq0 : ¬ c = 0 := by omega
              refine Eq.trans (b := F_X0 cy ad18 (c - 43)) ?_ ?_
              · simp [va_up, cj, hq0, hq1, hq2]
              · rw [F_X10]
                rw [if_neg (show ¬ c < 1 by omega)]
                rw [if_neg (show ¬ c < 3 by omega)]
                rw [if_neg (show ¬ c < 9 by omega)]
                rw [if_neg (show ¬ c < 20 by omega)]
                rw [if_neg (show ¬ c < 24 by omega)]
                rw [if_neg (show ¬ c < 29 by omega)]
                rw [if_neg (show ¬ c < 34 by omega)]
                rw [if_neg (show ¬ c < 39 by omega)]
                rw [if_neg (show ¬ c < 43 by omega)]
                rw [if_pos (show c < 205 by omega)]
                refine F_X0_congr (fun j hj => ?_) (by omega)
                rw [if_pos (show 43 + j < 206 by omega)]
                simp only [va_up, cj]
                rw [if_neg (show ¬ 43 + j = 43 + 162 by omega), if_neg (show ¬ 43 + j < 43 by omega), Nat.add_sub_cancel_left]
        · rw [FL, if_neg h, F_X10]
          rw [if_neg (show ¬ c < 1 by omega)]
          rw [if_neg (show ¬ c < 3 by omega)]
          rw [if_neg (show ¬ c < 9 by omega)]
          rw [if_neg (show ¬ c < 20 by omega)]
          rw [if_neg (show ¬ c < 24 by omega)]
          rw [if_neg (show ¬ c < 29 by omega)]
          rw [if_neg (show ¬ c < 34 by omega)]
          rw [if_neg (show ¬ c < 39 by omega)]
          rw [if_neg (show ¬ c < 43 by omega)]
          rw [if_neg (show ¬ c < 205 by omega)]
          rw [if_neg (show ¬ c < 206 by omega)]
          exact F_X6_congr (fun j _ => (if_neg (show ¬ _ < 206 by omega)).symm) _)
      exact cr_ret (F' := F_X10 cy) X hw hlt (fun i hi => rfl) hr dX10_init_162
    | succ j ih =>
      intro i hi ad ls H locs hA hl hw
      refine lv_iload_n hx hb dX10_init_138 rfl (lv_at hl 1 rfl) ?_
      refine lv_iconst (v := 3) hx hb dX10_init_139 (by decide) ?_
      refine lv_icmp_ge (tgt := 162) hx hb dX10_init_140 (by decide) (fun c1 => absurd c1 (nI_ge (a := i) (b := 3) (by omega) (by decide))) (fun c1 => ?_)
      refine lv_aload_n hx hb dX10_init_143 rfl (lv_at hl 0 rfl) ?_
      refine cr_get X hw uw10 (ci := 10) rfl 0 (by omega) ((hA 0 (by decide)).trans hA0).symm (hfs : FL cy 206 205 3 i G0 ad 0 = _) 9 (by decide) ⟨rfl, rfl, rfl⟩ (v := .ref (ad0 205)) hget fl_X10_80 dX10_init_144 ?_
      refine lv_iload_n hx hb dX10_init_147 rfl (lv_at hl 1 rfl) ?_
      refine cr_new X hw uw6 tyX6 tyX6_ok cl_X10_66 inX6 ini_X6 (ci := 6) rfl (fs := bkX6) dfX6 (by dsimp only; omega) (by dsimp only; omega) dX10_init_148 (fun q H hw => ?_)
      refine lv_dup hx hb dX10_init_151 rfl ?_
      refine cr_callN (k := 206 + 4 * i) (k' := 4) (xs := []) (F' := F_X6 cy) (rest := [.ref q, .int (nI i), .ref (ad0 205)]) X hw hl.1 (by decide) (a := q) (by simp [va_up]) (fun sz => by rw [show va_up (FL cy 206 205 3 i G0 ad) (206 + 4 * i) (.inr (6, bkX6)) (206 + 4 * i) = .inr (6, bkX6) by simp [va_up]]; exact n_X6 (cH.b0 hw (k := 206 + 4 * i) (by omega) (by simp [va_up]) X)) rfl mn_X10_68 im_X6_init ini_X6 co_X6_init hdi_X6_init ⟨(Nat.le_of_ble_eq_true rfl), (Nat.le_of_ble_eq_true rfl)⟩ ⟨by dsimp only; omega, by dsimp only; omega⟩ (Nat.le_of_ble_eq_true rfl) dX10_init_152 rfl (fun ad2 H locs1 e2 hw => ?_)
      have hq : ad2 0 = q := by rw [e2]; simp [va_up]
      have had : ∀ c, c < 206 + 4 * i → cj (va_up ad (206 + 4 * i) q) (206 + 4 * i) ad2 c = ad c := fun c hc => by simp [cj, hc, va_up, Nat.ne_of_lt hc]
      have hFo : cj (va_up (FL cy 206 205 3 i G0 ad) (206 + 4 * i) (.inr (6, bkX6))) (206 + 4 * i) (F_X6 cy ad2) 205 = .inl (cy 4, 3, .inr (.inr (.inr (.inr (fun j => if j < i then some (ad (206 + 4 * j)) else none))))) := by
        rw [show cj _ (206 + 4 * i) _ 205 = _ from if_pos (by omega), show va_up _ (206 + 4 * i) _ 205 = _ from if_neg (by omega)]; rfl
      have hFq : cj (va_up (FL cy 206 205 3 i G0 ad) (206 + 4 * i) (.inr (6, bkX6))) (206 + 4 * i) (F_X6 cy ad2) (206 + 4 * i) = F_X6 cy ad2 0 := by simp [cj]
      refine cr_aast X hw 205 (by omega) (by rw [had 205 (by omega), hA 205 (by decide)]) hFo (206 + 4 * i) (by omega) (by rw [← hq]; simp [cj]) (hFq.trans rfl) (show vp_in (nI i) 3 from vp_in_nI (by omega) (by decide)) dX10_init_155 (fun H locs hw _ => ?_)
      refine lv_iinc (v := nI (i + 1)) (lv' := [(1, .int (nI (i + 1))), (0, .ref h0)]) hx hb dX10_init_156 hl (k := 1) rfl (by rw [nI_succ]; rfl) (by decide) rfl (fun ls hl => ?_)
      refine lv_goto (tgt := 138) hx hb dX10_init_159 (by decide) ?_
      refine W.widen (k := 205 + 4 * (i + 1)) (n := 6450 + 29 * (i + 1)) (by omega) (by omega) ?_
      refine ih (i + 1) (by omega) (cj (va_up ad (206 + 4 * i) q) (206 + 4 * i) ad2) ls H locs (fun c hc => (had c (by omega)).trans (hA c hc)) (lv_sub hl [1, 0] rfl) ?_
      rw [show 206 + 4 * (i + 1) = 206 + 4 * i + 4 by omega]
      exact hw.congr (fun c hc => FL_step (by decide) (nI_clamp (by omega)) hq hc)
  refine lo 3 0 rfl ad0 ls H _ (fun _ _ => rfl) (lv_sub hl [1, 0] rfl) (hw.congr (fun c hc => ?_))
  rw [FL, if_pos hc]
  by_cases h : c = 205
  · rw [if_pos h, h, hFa]; rfl
  · rw [if_neg h]

