def f_X2_spot (x0 : Int32) (x1 : Int32) (x2 : Int32) : Option (Int32) := some (((((x0 &&& (7 : Int32)) - (x0 &&& (7 : Int32)) / (7 : Int32) * (7 : Int32)) * (64 : Int32)) + ((x1 &&& (7 : Int32)) * (8 : Int32))) + ((x2 + (1 : Int32)) &&& (7 : Int32)))
theorem hd_X2_spot : yX2_spot.cls ≠ "java/lang/invoke/MethodHandle" ∧ yX2_spot.cls ≠ "java/lang/invoke/VarHandle" ∧ (parseMethodDescriptor yX2_spot.desc).map (fun d => d.parameters.length) = some 3 := by decide +kernel
set_option maxRecDepth 100000 in
set_option maxHeartbeats 4000000 in
theorem k_X2_spot {l : Launch} {ad : Nat → Nat} {D : va_G} {cy : Nat → ClassId} {z : wStr} (hI : wI WC ad) {σ : St} {x0 : Int32} {x1 : Int32} {x2 : Int32}  {res : Int32} (hf : f_X2_spot x0 x1 x2 = some res) : wC WC ad D cy z l yX2_spot (Cond.code yX2_spot cX2_spot 3 (Option.some Jvm.ClassFile.FieldType.int) :: aw) (1) (100) [.int x0, .int x1, .int x2] σ (wQi WC ad D cy res σ) := by
  unfold f_X2_spot at hf
  refine wr_start (own := RX2) hI (by decide +kernel) rfl (Nat.le_of_ble_eq_true rfl) rfl ?_
  intro p e s m below meth c ls X hw hr hl
  have hx := X.hx
  have hb := X.hb
  obtain ⟨H, eH⟩ : ∃ H : Heap, H = s.heap := ⟨_, rfl⟩
  obtain ⟨locs, el⟩ : ∃ locs : List Loc, locs = [] := ⟨_, rfl⟩
  rw [← eH, ← el] at hw ⊢
  clear eH el
  replace hl : lv_has ls 3 [(0, .int x0), (1, .int x1), (2, .int x2)] := hl
  refine lv_iload_n hx hb dX2_spot_0 rfl (lv_at hl 0 rfl) ?_
  refine lv_bipush (v := 7) hx hb dX2_spot_1 (by decide) ?_
  refine lv_iand hx hb dX2_spot_3 ?_
  refine lv_bipush (v := 7) hx hb dX2_spot_4 (by decide) ?_
  refine lv_irem hx hb dX2_spot_6 (by decide) ?_
  refine lv_bipush (v := 64) hx hb dX2_spot_7 (by decide) ?_
  refine lv_imul hx hb dX2_spot_9 ?_
  refine lv_iload_n hx hb dX2_spot_10 rfl (lv_at hl 1 rfl) ?_
  refine lv_bipush (v := 7) hx hb dX2_spot_11 (by decide) ?_
  refine lv_iand hx hb dX2_spot_13 ?_
  refine lv_bipush (v := 8) hx hb dX2_spot_14 (by decide) ?_
  refine lv_imul hx hb dX2_spot_16 ?_
  refine lv_iadd hx hb dX2_spot_17 ?_
  refine lv_iload_n hx hb dX2_spot_18 rfl (lv_at hl 2 rfl) ?_
  refine lv_iconst (v := 1) hx hb dX2_spot_19 (by decide) ?_
  refine lv_iadd hx hb dX2_spot_20 ?_
  refine lv_bipush (v := 7) hx hb dX2_spot_21 (by decide) ?_
  refine lv_iand hx hb dX2_spot_23 ?_
  refine lv_iadd hx hb dX2_spot_24 ?_
  have er := Option.some.inj hf
  subst er
  exact wr_iret X hw hr (Or.inl rfl) dX2_spot_25

def f_X2_layTables (σ : St) (o1 : Nat) : Option (St) := wlet (un2 (fun (σ2_1 : St) (x2_2_1 : Int32) => if (σ2_1.1 25 5) ≤ x2_2_1 then (some (.inr σ2_1)) else (if x2_2_1 = 0 then (wlet (un2 (fun (σ26_33 : St) (x4_26_33 : Int32) => if (σ26_33.1 25 5) ≤ x4_26_33 then (some (.inr σ26_33)) else (wlet (un2 (fun (σ38_36 : St) (x5_38_36 : Int32) => if (1 : Int32) ≤ x5_38_36 then (some (.inr σ38_36)) else (wlet (fun (s0_59_39 : Int32) => (if ib x4_26_33 7 = true then if s0_59_39 = (σ38_36.1 28 (Int32.toNatClampNeg x4_26_33)) then (wlet (x5_38_36 + (1 : Int32)) fun v42 => some (.inl (σ38_36, v42))) else (if ib x4_26_33 7 = true then Option.bind (f_X2_spot x2_2_1 (σ38_36.1 28 (Int32.toNatClampNeg x4_26_33)) s0_59_39) fun v45 => if ib x4_26_33 7 = true then bnd2 (f_X1_suffering σ38_36 o1 (σ38_36.1 28 (Int32.toNatClampNeg x4_26_33)) x2_2_1 s0_59_39) fun v48 σ49 => if ib v45 448 = true then wlet (si σ49 26 (Int32.toNatClampNeg v45) v48) fun σ51 => if ib x4_26_33 7 = true then bnd2 (f_X1_due σ51 o1 (σ51.1 28 (Int32.toNatClampNeg x4_26_33)) x2_2_1 s0_59_39) fun v54 σ55 => if ib v45 448 = true then wlet (si σ55 27 (Int32.toNatClampNeg v45) v54) fun σ57 => wlet (x5_38_36 + (1 : Int32)) fun v58 => some (.inl (σ57, v58)) else none else none else none else none else none) else none : Option ((St × Int32) ⊕ (St)))) fun k59_39 => if x2_2_1 = 0 then (k59_39 (-1 : Int32)) else (if ib x5_38_36 7 = true then k59_39 (σ38_36.1 28 (Int32.toNatClampNeg x5_38_36)) else none))) : St × Int32 → Option ((St × Int32) ⊕ (St))) fun st38_36 => Option.bind (lp st38_36 fuel (σ26_33, (0 : Int32))) ((fun (σe38_36 : St) => wlet (x4_26_33 + (1 : Int32)) fun v37 => some (.inl (σe38_36, v37)))))) : St × Int32 → Option ((St × Int32) ⊕ (St))) fun st26_33 => Option.bind (lp st26_33 fuel (σ2_1, (0 : Int32))) ((fun (σe26_33 : St) => wlet (x2_2_1 + (1 : Int32)) fun v34 => some (.inl (σe26_33, v34))))) else (wlet (σ2_1.1 25 5) fun v4 => wlet (un2 (fun (σ26_5 : St) (x4_26_5 : Int32) => if (σ26_5.1 25 5) ≤ x4_26_5 then (some (.inr σ26_5)) else (wlet (un2 (fun (σ38_8 : St) (x5_38_8 : Int32) => if v4 ≤ x5_38_8 then (some (.inr σ38_8)) else (wlet (fun (s0_59_11 : Int32) => (if ib x4_26_5 7 = true then if s0_59_11 = (σ38_8.1 28 (Int32.toNatClampNeg x4_26_5)) then (wlet (x5_38_8 + (1 : Int32)) fun v14 => some (.inl (σ38_8, v14))) else (if ib x4_26_5 7 = true then Option.bind (f_X2_spot x2_2_1 (σ38_8.1 28 (Int32.toNatClampNeg x4_26_5)) s0_59_11) fun v17 => if ib x4_26_5 7 = true then bnd2 (f_X1_suffering σ38_8 o1 (σ38_8.1 28 (Int32.toNatClampNeg x4_26_5)) x2_2_1 s0_59_11) fun v20 σ21 => if ib v17 448 = true then wlet (si σ21 26 (Int32.toNatClampNeg v17) v20) fun σ23 => if ib x4_26_5 7 = true then bnd2 (f_X1_due σ23 o1 (σ23.1 28 (Int32.toNatClampNeg x4_26_5)) x2_2_1 s0_59_11) fun v26 σ27 => if ib v17 448 = true then wlet (si σ27 27 (Int32.toNatClampNeg v17) v26) fun σ29 => wlet (x5_38_8 + (1 : Int32)) fun v30 => some (.inl (σ29, v30)) else none else none else none else none else none) else none : Option ((St × Int32) ⊕ (St)))) fun k59_11 => if x2_2_1 = 0 then (k59_11 (-1 : Int32)) else (if ib x5_38_8 7 = true then k59_11 (σ38_8.1 28 (Int32.toNatClampNeg x5_38_8)) else none))) : St × Int32 → Option ((St × Int32) ⊕ (St))) fun st38_8 => Option.bind (lp st38_8 fuel (σ26_5, (0 : Int32))) ((fun (σe38_8 : St) => wlet (x4_26_5 + (1 : Int32)) fun v9 => some (.inl (σe38_8, v9)))))) : St × Int32 → Option ((St × Int32) ⊕ (St))) fun st26_5 => Option.bind (lp st26_5 fuel (σ2_1, (0 : Int32))) ((fun (σe26_5 : St) => wlet (x2_2_1 + (1 : Int32)) fun v6 => some (.inl (σe26_5, v6))))))) : St × Int32 → Option ((St × Int32) ⊕ (St))) fun st2_1 => Option.bind (lp st2_1 fuel (σ, (0 : Int32))) ((fun (σe2_1 : St) => some σe2_1))
theorem hd_X2_layTables : yX2_layTables.cls = RX2 ∧ yX2_layTables.cls ≠ "java/lang/invoke/MethodHandle" ∧ yX2_layTables.cls ≠ "java/lang/invoke/VarHandle" ∧ (parseMethodDescriptor yX2_layTables.desc).map (fun d => d.parameters.length) = some 1 := by decide +kernel
set_option maxRecDepth 100000 in
set_option maxHeartbeats 4000000 in
theorem k_X2_layTables {l : Launch} {ad : Nat → Nat} {D : va_G} {cy : Nat → ClassId} {z : wStr} (hI : wI WC ad) {σ : St} {o1 : Nat} (ho1 : isSt o1) {res : St} (hf : f_X2_layTables σ o1 = some res) : wC WC ad D cy z l yX2_layTables (Cond.code yX2_layTables cX2_layTables 8 (none) :: aw) (5) (199) [.ref (ad 25), .ref (ad o1)] σ (wQv WC ad D cy res) := by
  unfold f_X2_layTables at hf
  refine wr_start (own := RX2) hI (by decide +kernel) rfl (Nat.le_of_ble_eq_true rfl) rfl ?_
  intro p e s m below meth c ls X hw hr hl
  have hx := X.hx
  have hb := X.hb
  obtain ⟨H, eH⟩ : ∃ H : Heap, H = s.heap := ⟨_, rfl⟩
  obtain ⟨locs, el⟩ : ∃ locs : List Loc, locs = [] := ⟨_, rfl⟩
  rw [← eH, ← el] at hw ⊢
  clear eH el
  replace hl : lv_has ls 8 [(0, .ref (ad 25)), (1, .ref (ad o1))] := hl
  refine lv_iconst (v := 0) hx hb dX2_layTables_0 (by decide) ?_
  refine lv_istore_n (lv' := [(2, .int (0 : Int32)), (0, .ref (ad 25)), (1, .ref (ad o1))]) hx hb dX2_layTables_1 rfl hl (by decide) rfl (fun ls hl => ?_)
  obtain ⟨st2_1, est2_1, hf⟩ := wlet_some hf
  obtain ⟨E2_1, hq2_1, hE2_1⟩ := bind_some hf
  have hx2_1 : ∀ (σe2_1 : St) (_ : σe2_1 = E2_1) (ls : Array Slot) (H : Heap) (locs : List Loc), lv_has ls 8 [] → wH WC ad D cy s σe2_1 H locs → W p l e { frames := 5, cells := 0, slots := 0, locals := 199 } s m [.ref (ad 25), .ref (ad o1)].toArray below meth c H locs 0 0 (MQ below (wQv WC ad D cy res) [.ref (ad 25), .ref (ad o1)].toArray s 0 0 (wA WC ad)) (F0 m 156 ls []) := by
    intro σe2_1 e0 ls H locs hl hw
    subst e0
    have hf := hE2_1
    have er := Option.some.inj hf
    subst er
    exact wr_vret X hw hr dX2_layTables_156
  have lo2_1 : ∀ (n : Nat) (σ2_1 : St) (x2_2_1 : Int32) (_ : lp st2_1 n (σ2_1, x2_2_1) = some E2_1) (ls : Array Slot) (H : Heap) (locs : List Loc), lv_has ls 8 [(0, .ref (ad 25)), (1, .ref (ad o1)), (2, .int x2_2_1)] → wH WC ad D cy s σ2_1 H locs → W p l e { frames := 5, cells := 0, slots := 0, locals := 199 } s m [.ref (ad 25), .ref (ad o1)].toArray below meth c H locs 0 0 (MQ below (wQv WC ad D cy res) [.ref (ad 25), .ref (ad o1)].toArray s 0 0 (wA WC ad)) (F0 m 2 ls []) := by
    intro n
    induction n with
    | zero =>
      intro σ2_1 x2_2_1 hf ls H locs hl hw
      exact (lp_zero hf).elim
    | succ n ih2_1 =>
      intro σ2_1 x2_2_1 hf ls H locs hl hw
      obtain ⟨q2_1, hf, hz2_1⟩ := lp_succ hf
      rw [est2_1] at hf
      replace hf := un2_some hf
      refine lv_iload_n hx hb dX2_layTables_2 rfl (lv_at hl 2 rfl) ?_
      refine lv_aload_n hx hb dX2_layTables_3 rfl (lv_at hl 0 rfl) ?_
      refine gX2_5 X hw sC25 nC25 fl_X2_43 dX2_layTables_4 ?_
      refine lv_icmp_ge (tgt := 156) hx hb dX2_layTables_7 (by decide) (fun c2 => ?_) (fun c2 => ?_)
      · have hf := (if_pos c2).symm.trans hf
        exact hx2_1 σ2_1 (lpK_inr (lp_leaf hf hz2_1)) ls H locs (lv_sub hl [] rfl) hw
      · have hf := (if_neg c2).symm.trans hf
        refine lv_iload_n hx hb dX2_layTables_10 rfl (lv_at hl 2 rfl) ?_
        refine lv_if_ne (tgt := 18) hx hb dX2_layTables_11 (by decide) (fun c3 => ?_) (fun c3 => ?_)
        · have hf := (if_neg c3).symm.trans hf
          refine lv_aload_n hx hb dX2_layTables_18 rfl (lv_at hl 0 rfl) ?_
          refine gX2_5 X hw sC25 nC25 fl_X2_43 dX2_layTables_19 ?_
          obtain ⟨v4, ev4, hf⟩ := wlet_some hf
          refine wr_top ev4 ?_
          refine lv_istore_n (lv' := [(3, .int v4), (0, .ref (ad 25)), (1, .ref (ad o1)), (2, .int x2_2_1)]) hx hb dX2_layTables_22 rfl hl (by decide) rfl (fun ls hl => ?_)
          refine lv_iconst (v := 0) hx hb dX2_layTables_23 (by decide) ?_
          refine lv_istore (lv' := [(4, .int (0 : Int32)), (3, .int v4), (0, .ref (ad 25)), (1, .ref (ad o1)), (2, .int x2_2_1)]) hx hb dX2_layTables_24 hl (by decide) rfl (fun ls hl => ?_)
          obtain ⟨st26_5, est26_5, hf⟩ := wlet_some hf
          obtain ⟨E26_5, hq26_5, hE26_5⟩ := bind_some hf
          have hx26_5 : ∀ (σe26_5 : St) (_ : σe26_5 = E26_5) (ls : Array Slot) (H : Heap) (locs : List Loc), lv_has ls 8 [(0, .ref (ad 25)), (1, .ref (ad o1)), (2, .int x2_2_1)] → wH WC ad D cy s σe26_5 H locs → W p l e { frames := 5, cells := 0, slots := 0, locals := 199 } s m [.ref (ad 25), .ref (ad o1)].toArray below meth c H locs 0 0 (MQ below (wQv WC ad D cy res) [.ref (ad 25), .ref (ad o1)].toArray s 0 0 (wA WC ad)) (F0 m 150 ls []) := by
            intro σe26_5 e0 ls H locs hl hw
            subst e0
            have hf := hE26_5
            obtain ⟨v6, ev6, hf⟩ := wlet_some hf
            refine lv_iinc (v := v6) (lv' := [(2, .int v6), (0, .ref (ad 25)), (1, .ref (ad o1))]) hx hb dX2_layTables_150 hl (k := 2) rfl (by rw [ev6]; rfl) (by decide) rfl (fun ls hl => ?_)
            refine lv_goto (tgt := 2) hx hb dX2_layTables_153 (by decide) ?_
            exact ih2_1 σe26_5 v6 (lp_leaf hf hz2_1) ls H locs (lv_sub hl [1, 2, 0] rfl) hw
          have lo26_5 : ∀ (n : Nat) (σ26_5 : St) (x4_26_5 : Int32) (_ : lp st26_5 n (σ26_5, x4_26_5) = some E26_5) (ls : Array Slot) (H : Heap) (locs : List Loc), lv_has ls 8 [(0, .ref (ad 25)), (1, .ref (ad o1)), (2, .int x2_2_1), (3, .int v4), (4, .int x4_26_5)] → wH WC ad D cy s σ26_5 H locs → W p l e { frames := 5, cells := 0, slots := 0, locals := 199 } s m [.ref (ad 25), .ref (ad o1)].toArray below meth c H locs 0 0 (MQ below (wQv WC ad D cy res) [.ref (ad 25), .ref (ad o1)].toArray s 0 0 (wA WC ad)) (F0 m 26 ls []) := by
            intro n
            induction n with
            | zero =>
              intro σ26_5 x4_26_5 hf ls H locs hl hw
              exact (lp_zero hf).elim
            | succ n ih26_5 =>
              intro σ26_5 x4_26_5 hf ls H locs hl hw
              obtain ⟨q26_5, hf, hz26_5⟩ := lp_succ hf
              rw [est26_5] at hf
              replace hf := un2_some hf
              refine lv_iload hx hb dX2_layTables_26 (lv_at hl 4 rfl) ?_
              refine lv_aload_n hx hb dX2_layTables_28 rfl (lv_at hl 0 rfl) ?_
              refine gX2_5 X hw sC25 nC25 fl_X2_43 dX2_layTables_29 ?_
              refine lv_icmp_ge (tgt := 150) hx hb dX2_layTables_32 (by decide) (fun c7 => ?_) (fun c7 => ?_)
              · have hf := (if_pos c7).symm.trans hf
                exact hx26_5 σ26_5 (lpK_inr (lp_leaf hf hz26_5)) ls H locs (lv_sub hl [0, 1, 2] rfl) hw
              · have hf := (if_neg c7).symm.trans hf
                refine lv_iconst (v := 0) hx hb dX2_layTables_35 (by decide) ?_
                refine lv_istore (lv' := [(5, .int (0 : Int32)), (0, .ref (ad 25)), (1, .ref (ad o1)), (2, .int x2_2_1), (3, .int v4), (4, .int x4_26_5)]) hx hb dX2_layTables_36 hl (by decide) rfl (fun ls hl => ?_)
                obtain ⟨st38_8, est38_8, hf⟩ := wlet_some hf
                obtain ⟨E38_8, hq38_8, hE38_8⟩ := bind_some hf
                have hx38_8 : ∀ (σe38_8 : St) (_ : σe38_8 = E38_8) (ls : Array Slot) (H : Heap) (locs : List Loc), lv_has ls 8 [(0, .ref (ad 25)), (1, .ref (ad o1)), (2, .int x2_2_1), (3, .int v4), (4, .int x4_26_5)] → wH WC ad D cy s σe38_8 H locs → W p l e { frames := 5, cells := 0, slots := 0, locals := 199 } s m [.ref (ad 25), .ref (ad o1)].toArray below meth c H locs 0 0 (MQ below (wQv WC ad D cy res) [.ref (ad 25), .ref (ad o1)].toArray s 0 0 (wA WC ad)) (F0 m 144 ls []) := by
                  intro σe38_8 e0 ls H locs hl hw
                  subst e0
                  have hf := hE38_8
                  obtain ⟨v9, ev9, hf⟩ := wlet_some hf
                  refine lv_iinc (v := v9) (lv' := [(4, .int v9), (0, .ref (ad 25)), (1, .ref (ad o1)), (2, .int x2_2_1), (3, .int v4)]) hx hb dX2_layTables_144 hl (k := 4) rfl (by rw [ev9]; rfl) (by decide) rfl (fun ls hl => ?_)
                  refine lv_goto (tgt := 26) hx hb dX2_layTables_147 (by decide) ?_
                  exact ih26_5 σe38_8 v9 (lp_leaf hf hz26_5) ls H locs (lv_sub hl [1, 2, 3, 4, 0] rfl) hw
                have lo38_8 : ∀ (n : Nat) (σ38_8 : St) (x5_38_8 : Int32) (_ : lp st38_8 n (σ38_8, x5_38_8) = some E38_8) (ls : Array Slot) (H : Heap) (locs : List Loc), lv_has ls 8 [(0, .ref (ad 25)), (1, .ref (ad o1)), (2, .int x2_2_1), (3, .int v4), (4, .int x4_26_5), (5, .int x5_38_8)] → wH WC ad D cy s σ38_8 H locs → W p l e { frames := 5, cells := 0, slots := 0, locals := 199 } s m [.ref (ad 25), .ref (ad o1)].toArray below meth c H locs 0 0 (MQ below (wQv WC ad D cy res) [.ref (ad 25), .ref (ad o1)].toArray s 0 0 (wA WC ad)) (F0 m 38 ls []) := by
                  intro n
                  induction n with
                  | zero =>
                    intro σ38_8 x5_38_8 hf ls H locs hl hw
                    exact (lp_zero hf).elim
                  | succ n ih38_8 =>
                    intro σ38_8 x5_38_8 hf ls H locs hl hw
                    obtain ⟨q38_8, hf, hz38_8⟩ := lp_succ hf
                    rw [est38_8] at hf
                    replace hf := un2_some hf
                    refine lv_iload hx hb dX2_layTables_38 (lv_at hl 5 rfl) ?_
                    refine lv_iload_n hx hb dX2_layTables_40 rfl (lv_at hl 3 rfl) ?_
                    refine lv_icmp_ge (tgt := 144) hx hb dX2_layTables_41 (by decide) (fun c10 => ?_) (fun c10 => ?_)
                    · have hf := (if_pos c10).symm.trans hf
                      exact hx38_8 σ38_8 (lpK_inr (lp_leaf hf hz38_8)) ls H locs (lv_sub hl [0, 1, 2, 3, 4] rfl) hw
                    · have hf := (if_neg c10).symm.trans hf
                      refine lv_iload_n hx hb dX2_layTables_44 rfl (lv_at hl 2 rfl) ?_
                      obtain ⟨k59_11, ek59_11, hf0⟩ := wlet_some hf
                      have j59_11 : ∀ (s0_59_11 : Int32) (_ : k59_11 s0_59_11 = some q38_8) (ls : Array Slot) (H : Heap) (locs : List Loc), lv_has ls 8 [(0, .ref (ad 25)), (1, .ref (ad o1)), (2, .int x2_2_1), (3, .int v4), (4, .int x4_26_5), (5, .int x5_38_8)] → wH WC ad D cy s σ38_8 H locs → W p l e { frames := 5, cells := 0, slots := 0, locals := 199 } s m [.ref (ad 25), .ref (ad o1)].toArray below meth c H locs 0 0 (MQ below (wQv WC ad D cy res) [.ref (ad 25), .ref (ad o1)].toArray s 0 0 (wA WC ad)) (F0 m 59 ls [.int s0_59_11]) := by
                        intro s0_59_11 hf ls H locs hl hw
                        rw [ek59_11] at hf
                        refine lv_istore (lv' := [(6, .int s0_59_11), (0, .ref (ad 25)), (1, .ref (ad o1)), (2, .int x2_2_1), (3, .int v4), (4, .int x4_26_5), (5, .int x5_38_8)]) hx hb dX2_layTables_59 hl (by decide) rfl (fun ls hl => ?_)
                        refine lv_iload hx hb dX2_layTables_61 (lv_at hl 0 rfl) ?_
                        refine lv_aload_n hx hb dX2_layTables_63 rfl (lv_at hl 1 rfl) ?_
                        refine gX2_3 (b := 28) X hw sC25 nC25 rfl fl_X2_18 dX2_layTables_64 ?_
                        refine lv_iload hx hb dX2_layTables_67 (lv_at hl 5 rfl) ?_
                        obtain ⟨h12, hf⟩ := if_some hf
                        refine wr_iald X hw sC28 nC28 h12 dX2_layTables_69 ?_
                        refine lv_icmp_eq (tgt := 138) hx hb dX2_layTables_70 (by decide) (fun c13 => ?_) (fun c13 => ?_)
                        · have hf := (if_pos c13).symm.trans hf
                          obtain ⟨v14, ev14, hf⟩ := wlet_some hf
                          refine lv_iinc (v := v14) (lv' := [(5, .int v14), (6, .int s0_59_11), (0, .ref (ad 25)), (1, .ref (ad o1)), (2, .int x2_2_1), (3, .int v4), (4, .int x4_26_5)]) hx hb dX2_layTables_138 hl (k := 6) rfl (by rw [ev14]; rfl) (by decide) rfl (fun ls hl => ?_)
                          refine lv_goto (tgt := 38) hx hb dX2_layTables_141 (by decide) ?_
                          exact ih38_8 σ38_8 v14 (lp_leaf hf hz38_8) ls H locs (lv_sub hl [2, 3, 4, 5, 6, 0] rfl) hw
                        · have hf := (if_neg c13).symm.trans hf
                          refine lv_iload_n hx hb dX2_layTables_73 rfl (lv_at hl 3 rfl) ?_
                          refine lv_aload_n hx hb dX2_layTables_74 rfl (lv_at hl 1 rfl) ?_
                          refine gX2_3 (b := 28) X hw sC25 nC25 rfl fl_X2_18 dX2_layTables_75 ?_
                          refine lv_iload hx hb dX2_layTables_78 (lv_at hl 5 rfl) ?_
                          obtain ⟨h15, hf⟩ := if_some hf
                          refine wr_iald X hw sC28 nC28 h15 dX2_layTables_80 ?_
                          refine lv_iload hx hb dX2_layTables_81 (lv_at hl 0 rfl) ?_
                          obtain ⟨v17, hq16, hf⟩ := bind_some hf
                          refine wr_cSi (r := v17) (σ' := σ38_8) (av := [.int x2_2_1, .int (σ38_8.1 28 (Int32.toNatClampNeg x4_26_5)), .int s0_59_11]) (rest := []) X hw hl.1 (k_X2_spot hI hq16) rfl ml_X2_58 st_X2_spot ini_X2 co_X2_spot hd_X2_spot ⟨Nat.le_of_ble_eq_true rfl, Nat.le_of_ble_eq_true rfl⟩ (Nat.le_of_ble_eq_true rfl) dX2_layTables_83 rfl (fun H locs hw => ?_)
                          refine lv_istore (lv' := [(7, .int v17), (6, .int s0_59_11), (0, .ref (ad 25)), (1, .ref (ad o1)), (2, .int x2_2_1), (3, .int v4), (4, .int x4_26_5), (5, .int x5_38_8)]) hx hb dX2_layTables_86 hl (by decide) rfl (fun ls hl => ?_)
                          refine lv_aload_n hx hb dX2_layTables_88 rfl (lv_at hl 2 rfl) ?_
                          refine gX2_1 (b := 26) X hw sC25 nC25 rfl fl_X2_9 dX2_layTables_89 ?_
                          refine lv_iload hx hb dX2_layTables_92 (lv_at hl 0 rfl) ?_
                          refine lv_aload_n hx hb dX2_layTables_94 rfl (lv_at hl 2 rfl) ?_
                          refine gX2_0 (b := 21) X hw sC25 nC25 rfl fl_X2_24 dX2_layTables_95 ?_
                          refine lv_aload_n hx hb dX2_layTables_98 rfl (lv_at hl 3 rfl) ?_
                          refine lv_aload_n hx hb dX2_layTables_99 rfl (lv_at hl 2 rfl) ?_
                          refine gX2_3 (b := 28) X hw sC25 nC25 rfl fl_X2_18 dX2_layTables_100 ?_
                          refine lv_iload hx hb dX2_layTables_103 (lv_at hl 6 rfl) ?_
                          obtain ⟨h18, hf⟩ := if_some hf
                          refine wr_iald X hw sC28 nC28 h18 dX2_layTables_105 ?_
                          refine lv_iload_n hx hb dX2_layTables_106 rfl (lv_at hl 4 rfl) ?_
                          refine lv_iload hx hb dX2_layTables_107 (lv_at hl 1 rfl) ?_
                          obtain ⟨v20, σ21, hq19, hf⟩ := bnd2_some hf
                          refine wr_cNi (r := v20) (σ' := σ21) (av := [.ref (ad o1), .int (σ38_8.1 28 (Int32.toNatClampNeg x4_26_5)), .int x2_2_1, .int s0_59_11]) (rest := [.int v17, .ref (ad 26)]) X hw hl.1 sC21 nC21 rfl (k_X1_suffering hI ho1 hq19) rfl mn_X2_62 im_X1_suffering se_X1_suffering ini_X1 co_X1_suffering hd_X1_suffering ⟨Nat.le_of_ble_eq_true rfl, Nat.le_of_ble_eq_true rfl⟩ (Nat.le_of_ble_eq_true rfl) dX2_layTables_109 rfl (fun H locs hw => ?_)
                          obtain ⟨h22, hf⟩ := if_some hf
                          obtain ⟨σ23, eσ23, hf⟩ := wlet_some hf
                          refine wr_iast X hw sC26 nC26 h22 dX2_layTables_112 (fun H locs hw => ?_)
                          replace hw := hw.to eσ23
                          refine lv_aload_n hx hb dX2_layTables_113 rfl (lv_at hl 2 rfl) ?_
                          refine gX2_2 (b := 27) X hw sC25 nC25 rfl fl_X2_15 dX2_layTables_114 ?_
                          refine lv_iload hx hb dX2_layTables_117 (lv_at hl 0 rfl) ?_
                          refine lv_aload_n hx hb dX2_layTables_119 rfl (lv_at hl 2 rfl) ?_
                          refine gX2_0 (b := 21) X hw sC25 nC25 rfl fl_X2_24 dX2_layTables_120 ?_
                          refine lv_aload_n hx hb dX2_layTables_123 rfl (lv_at hl 3 rfl) ?_
                          refine lv_aload_n hx hb dX2_layTables_124 rfl (lv_at hl 2 rfl) ?_
                          refine gX2_3 (b := 28) X hw sC25 nC25 rfl fl_X2_18 dX2_layTables_125 ?_
                          refine lv_iload hx hb dX2_layTables_128 (lv_at hl 6 rfl) ?_
                          obtain ⟨h24, hf⟩ := if_some hf
                          refine wr_iald X hw sC28 nC28 h24 dX2_layTables_130 ?_
                          refine lv_iload_n hx hb dX2_layTables_131 rfl (lv_at hl 4 rfl) ?_
                          refine lv_iload hx hb dX2_layTables_132 (lv_at hl 1 rfl) ?_
                          obtain ⟨v26, σ27, hq25, hf⟩ := bnd2_some hf
                          refine wr_cNi (r := v26) (σ' := σ27) (av := [.ref (ad o1), .int (σ23.1 28 (Int32.toNatClampNeg x4_26_5)), .int x2_2_1, .int s0_59_11]) (rest := [.int v17, .ref (ad 27)]) X hw hl.1 sC21 nC21 rfl (k_X1_due hI ho1 hq25) rfl mn_X2_68 im_X1_due se_X1_due ini_X1 co_X1_due hd_X1_due ⟨Nat.le_of_ble_eq_true rfl, Nat.le_of_ble_eq_true rfl⟩ (Nat.le_of_ble_eq_true rfl) dX2_layTables_134 rfl (fun H locs hw => ?_)
                          obtain ⟨h28, hf⟩ := if_some hf
                          obtain ⟨σ29, eσ29, hf⟩ := wlet_some hf
                          refine wr_iast X hw sC27 nC27 h28 dX2_layTables_137 (fun H locs hw => ?_)
                          replace hw := hw.to eσ29
                          obtain ⟨v30, ev30, hf⟩ := wlet_some hf
                          refine lv_iinc (v := v30) (lv' := [(5, .int v30), (7, .int v17), (6, .int s0_59_11), (0, .ref (ad 25)), (1, .ref (ad o1)), (2, .int x2_2_1), (3, .int v4), (4, .int x4_26_5)]) hx hb dX2_layTables_138 hl (k := 7) rfl (by rw [ev30]; rfl) (by decide) rfl (fun ls hl => ?_)
                          refine lv_goto (tgt := 38) hx hb dX2_layTables_141 (by decide) ?_
                          exact ih38_8 σ29 v30 (lp_leaf hf hz38_8) ls H locs (lv_sub hl [3, 4, 5, 6, 7, 0] rfl) hw
                      replace hf := hf0
                      refine lv_if_ne (tgt := 52) hx hb dX2_layTables_45 (by decide) (fun c31 => ?_) (fun c31 => ?_)
                      · have hf := (if_neg c31).symm.trans hf
                        refine lv_aload_n hx hb dX2_layTables_52 rfl (lv_at hl 0 rfl) ?_
                        refine gX2_3 (b := 28) X hw sC25 nC25 rfl fl_X2_18 dX2_layTables_53 ?_
                        refine lv_iload hx hb dX2_layTables_56 (lv_at hl 5 rfl) ?_
                        obtain ⟨h32, hf⟩ := if_some hf
                        refine wr_iald X hw sC28 nC28 h32 dX2_layTables_58 ?_
                        exact j59_11 (σ38_8.1 28 (Int32.toNatClampNeg x5_38_8)) hf ls H locs (lv_sub hl [0, 1, 2, 3, 4, 5] rfl) hw
                      · have hf := (if_pos c31).symm.trans hf
                        refine lv_iconst (v := -1) hx hb dX2_layTables_48 (by decide) ?_
                        refine lv_goto (tgt := 59) hx hb dX2_layTables_49 (by decide) ?_
                        exact j59_11 (-1 : Int32) hf ls H locs (lv_sub hl [0, 1, 2, 3, 4, 5] rfl) hw
                exact lo38_8 fuel σ26_5 (0 : Int32) hq38_8 ls H locs (lv_sub hl [1, 2, 3, 4, 5, 0] rfl) hw
          exact lo26_5 fuel σ2_1 (0 : Int32) hq26_5 ls H locs (lv_sub hl [2, 3, 4, 1, 0] rfl) hw
        · have hf := (if_pos c3).symm.trans hf
          refine lv_iconst (v := 1) hx hb dX2_layTables_14 (by decide) ?_
          refine lv_goto (tgt := 22) hx hb dX2_layTables_15 (by decide) ?_
          refine lv_istore_n (lv' := [(3, .int (1 : Int32)), (0, .ref (ad 25)), (1, .ref (ad o1)), (2, .int x2_2_1)]) hx hb dX2_layTables_22 rfl hl (by decide) rfl (fun ls hl => ?_)
          refine lv_iconst (v := 0) hx hb dX2_layTables_23 (by decide) ?_
          refine lv_istore (lv' := [(4, .int (0 : Int32)), (3, .int (1 : Int32)), (0, .ref (ad 25)), (1, .ref (ad o1)), (2, .int x2_2_1)]) hx hb dX2_layTables_24 hl (by decide) rfl (fun ls hl => ?_)
          obtain ⟨st26_33, est26_33, hf⟩ := wlet_some hf
          obtain ⟨E26_33, hq26_33, hE26_33⟩ := bind_some hf
          have hx26_33 : ∀ (σe26_33 : St) (_ : σe26_33 = E26_33) (ls : Array Slot) (H : Heap) (locs : List Loc), lv_has ls 8 [(0, .ref (ad 25)), (1, .ref (ad o1)), (2, .int x2_2_1)] → wH WC ad D cy s σe26_33 H locs → W p l e { frames := 5, cells := 0, slots := 0, locals := 199 } s m [.ref (ad 25), .ref (ad o1)].toArray below meth c H locs 0 0 (MQ below (wQv WC ad D cy res) [.ref (ad 25), .ref (ad o1)].toArray s 0 0 (wA WC ad)) (F0 m 150 ls []) := by
            intro σe26_33 e0 ls H locs hl hw
            subst e0
            have hf := hE26_33
            obtain ⟨v34, ev34, hf⟩ := wlet_some hf
            refine lv_iinc (v := v34) (lv' := [(2, .int v34), (0, .ref (ad 25)), (1, .ref (ad o1))]) hx hb dX2_layTables_150 hl (k := 2) rfl (by rw [ev34]; rfl) (by decide) rfl (fun ls hl => ?_)
            refine lv_goto (tgt := 2) hx hb dX2_layTables_153 (by decide) ?_
            exact ih2_1 σe26_33 v34 (lp_leaf hf hz2_1) ls H locs (lv_sub hl [1, 2, 0] rfl) hw
          have lo26_33 : ∀ (n : Nat) (σ26_33 : St) (x4_26_33 : Int32) (_ : lp st26_33 n (σ26_33, x4_26_33) = some E26_33) (ls : Array Slot) (H : Heap) (locs : List Loc), lv_has ls 8 [(0, .ref (ad 25)), (1, .ref (ad o1)), (2, .int x2_2_1), (3, .int (1 : Int32)), (4, .int x4_26_33)] → wH WC ad D cy s σ26_33 H locs → W p l e { frames := 5, cells := 0, slots := 0, locals := 199 } s m [.ref (ad 25), .ref (ad o1)].toArray below meth c H locs 0 0 (MQ below (wQv WC ad D cy res) [.ref (ad 25), .ref (ad o1)].toArray s 0 0 (wA WC ad)) (F0 m 26 ls []) := by
            intro n
            induction n with
            | zero =>
              intro σ26_33 x4_26_33 hf ls H locs hl hw
              exact (lp_zero hf).elim
            | succ n ih26_33 =>
              intro σ26_33 x4_26_33 hf ls H locs hl hw
              obtain ⟨q26_33, hf, hz26_33⟩ := lp_succ hf
              rw [est26_33] at hf
              replace hf := un2_some hf
              refine lv_iload hx hb dX2_layTables_26 (lv_at hl 4 rfl) ?_
              refine lv_aload_n hx hb dX2_layTables_28 rfl (lv_at hl 0 rfl) ?_
              refine gX2_5 X hw sC25 nC25 fl_X2_43 dX2_layTables_29 ?_
              refine lv_icmp_ge (tgt := 150) hx hb dX2_layTables_32 (by decide) (fun c35 => ?_) (fun c35 => ?_)
              · have hf := (if_pos c35).symm.trans hf
                exact hx26_33 σ26_33 (lpK_inr (lp_leaf hf hz26_33)) ls H locs (lv_sub hl [0, 1, 2] rfl) hw
              · have hf := (if_neg c35).symm.trans hf
                refine lv_iconst (v := 0) hx hb dX2_layTables_35 (by decide) ?_
                refine lv_istore (lv' := [(5, .int (0 : Int32)), (0, .ref (ad 25)), (1, .ref (ad o1)), (2, .int x2_2_1), (3, .int (1 : Int32)), (4, .int x4_26_33)]) hx hb dX2_layTables_36 hl (by decide) rfl (fun ls hl => ?_)
                obtain ⟨st38_36, est38_36, hf⟩ := wlet_some hf
                obtain ⟨E38_36, hq38_36, hE38_36⟩ := bind_some hf
                have hx38_36 : ∀ (σe38_36 : St) (_ : σe38_36 = E38_36) (ls : Array Slot) (H : Heap) (locs : List Loc), lv_has ls 8 [(0, .ref (ad 25)), (1, .ref (ad o1)), (2, .int x2_2_1), (3, .int (1 : Int32)), (4, .int x4_26_33)] → wH WC ad D cy s σe38_36 H locs → W p l e { frames := 5, cells := 0, slots := 0, locals := 199 } s m [.ref (ad 25), .ref (ad o1)].toArray below meth c H locs 0 0 (MQ below (wQv WC ad D cy res) [.ref (ad 25), .ref (ad o1)].toArray s 0 0 (wA WC ad)) (F0 m 144 ls []) := by
                  intro σe38_36 e0 ls H locs hl hw
                  subst e0
                  have hf := hE38_36
                  obtain ⟨v37, ev37, hf⟩ := wlet_some hf
                  refine lv_iinc (v := v37) (lv' := [(4, .int v37), (0, .ref (ad 25)), (1, .ref (ad o1)), (2, .int x2_2_1), (3, .int (1 : Int32))]) hx hb dX2_layTables_144 hl (k := 4) rfl (by rw [ev37]; rfl) (by decide) rfl (fun ls hl => ?_)
                  refine lv_goto (tgt := 26) hx hb dX2_layTables_147 (by decide) ?_
                  exact ih26_33 σe38_36 v37 (lp_leaf hf hz26_33) ls H locs (lv_sub hl [1, 2, 3, 4, 0] rfl) hw
                have lo38_36 : ∀ (n : Nat) (σ38_36 : St) (x5_38_36 : Int32) (_ : lp st38_36 n (σ38_36, x5_38_36) = some E38_36) (ls : Array Slot) (H : Heap) (locs : List Loc), lv_has ls 8 [(0, .ref (ad 25)), (1, .ref (ad o1)), (2, .int x2_2_1), (3, .int (1 : Int32)), (4, .int x4_26_33), (5, .int x5_38_36)] → wH WC ad D cy s σ38_36 H locs → W p l e { frames := 5, cells := 0, slots := 0, locals := 199 } s m [.ref (ad 25), .ref (ad o1)].toArray below meth c H locs 0 0 (MQ below (wQv WC ad D cy res) [.ref (ad 25), .ref (ad o1)].toArray s 0 0 (wA WC ad)) (F0 m 38 ls []) := by
                  intro n
                  induction n with
                  | zero =>
                    intro σ38_36 x5_38_36 hf ls H locs hl hw
                    exact (lp_zero hf).elim
                  | succ n ih38_36 =>
                    intro σ38_36 x5_38_36 hf ls H locs hl hw
                    obtain ⟨q38_36, hf, hz38_36⟩ := lp_succ hf
                    rw [est38_36] at hf
                    replace hf := un2_some hf
                    refine lv_iload hx hb dX2_layTables_38 (lv_at hl 5 rfl) ?_
                    refine lv_iload_n hx hb dX2_layTables_40 rfl (lv_at hl 3 rfl) ?_
                    refine lv_icmp_ge (tgt := 144) hx hb dX2_layTables_41 (by decide) (fun c38 => ?_) (fun c38 => ?_)
                    · have hf := (if_pos c38).symm.trans hf
                      exact hx38_36 σ38_36 (lpK_inr (lp_leaf hf hz38_36)) ls H locs (lv_sub hl [0, 1, 2, 3, 4] rfl) hw
                    · have hf := (if_neg c38).symm.trans hf
                      refine lv_iload_n hx hb dX2_layTables_44 rfl (lv_at hl 2 rfl) ?_
                      obtain ⟨k59_39, ek59_39, hf0⟩ := wlet_some hf
                      have j59_39 : ∀ (s0_59_39 : Int32) (_ : k59_39 s0_59_39 = some q38_36) (ls : Array Slot) (H : Heap) (locs : List Loc), lv_has ls 8 [(0, .ref (ad 25)), (1, .ref (ad o1)), (2, .int x2_2_1), (3, .int (1 : Int32)), (4, .int x4_26_33), (5, .int x5_38_36)] → wH WC ad D cy s σ38_36 H locs → W p l e { frames := 5, cells := 0, slots := 0, locals := 199 } s m [.ref (ad 25), .ref (ad o1)].toArray below meth c H locs 0 0 (MQ below (wQv WC ad D cy res) [.ref (ad 25), .ref (ad o1)].toArray s 0 0 (wA WC ad)) (F0 m 59 ls [.int s0_59_39]) := by
                        intro s0_59_39 hf ls H locs hl hw
                        rw [ek59_39] at hf
                        refine lv_istore (lv' := [(6, .int s0_59_39), (0, .ref (ad 25)), (1, .ref (ad o1)), (2, .int x2_2_1), (3, .int (1 : Int32)), (4, .int x4_26_33), (5, .int x5_38_36)]) hx hb dX2_layTables_59 hl (by decide) rfl (fun ls hl => ?_)
                        refine lv_iload hx hb dX2_layTables_61 (lv_at hl 0 rfl) ?_
                        refine lv_aload_n hx hb dX2_layTables_63 rfl (lv_at hl 1 rfl) ?_
                        refine gX2_3 (b := 28) X hw sC25 nC25 rfl fl_X2_18 dX2_layTables_64 ?_
                        refine lv_iload hx hb dX2_layTables_67 (lv_at hl 5 rfl) ?_
                        obtain ⟨h40, hf⟩ := if_some hf
                        refine wr_iald X hw sC28 nC28 h40 dX2_layTables_69 ?_
                        refine lv_icmp_eq (tgt := 138) hx hb dX2_layTables_70 (by decide) (fun c41 => ?_) (fun c41 => ?_)
                        · have hf := (if_pos c41).symm.trans hf
                          obtain ⟨v42, ev42, hf⟩ := wlet_some hf
                          refine lv_iinc (v := v42) (lv' := [(5, .int v42), (6, .int s0_59_39), (0, .ref (ad 25)), (1, .ref (ad o1)), (2, .int x2_2_1), (3, .int (1 : Int32)), (4, .int x4_26_33)]) hx hb dX2_layTables_138 hl (k := 6) rfl (by rw [ev42]; rfl) (by decide) rfl (fun ls hl => ?_)
                          refine lv_goto (tgt := 38) hx hb dX2_layTables_141 (by decide) ?_
                          exact ih38_36 σ38_36 v42 (lp_leaf hf hz38_36) ls H locs (lv_sub hl [2, 3, 4, 5, 6, 0] rfl) hw
                        · have hf := (if_neg c41).symm.trans hf
                          refine lv_iload_n hx hb dX2_layTables_73 rfl (lv_at hl 3 rfl) ?_
                          refine lv_aload_n hx hb dX2_layTables_74 rfl (lv_at hl 1 rfl) ?_
                          refine gX2_3 (b := 28) X hw sC25 nC25 rfl fl_X2_18 dX2_layTables_75 ?_
                          refine lv_iload hx hb dX2_layTables_78 (lv_at hl 5 rfl) ?_
                          obtain ⟨h43, hf⟩ := if_some hf
                          refine wr_iald X hw sC28 nC28 h43 dX2_layTables_80 ?_
                          refine lv_iload hx hb dX2_layTables_81 (lv_at hl 0 rfl) ?_
                          obtain ⟨v45, hq44, hf⟩ := bind_some hf
                          refine wr_cSi (r := v45) (σ' := σ38_36) (av := [.int x2_2_1, .int (σ38_36.1 28 (Int32.toNatClampNeg x4_26_33)), .int s0_59_39]) (rest := []) X hw hl.1 (k_X2_spot hI hq44) rfl ml_X2_58 st_X2_spot ini_X2 co_X2_spot hd_X2_spot ⟨Nat.le_of_ble_eq_true rfl, Nat.le_of_ble_eq_true rfl⟩ (Nat.le_of_ble_eq_true rfl) dX2_layTables_83 rfl (fun H locs hw => ?_)
                          refine lv_istore (lv' := [(7, .int v45), (6, .int s0_59_39), (0, .ref (ad 25)), (1, .ref (ad o1)), (2, .int x2_2_1), (3, .int (1 : Int32)), (4, .int x4_26_33), (5, .int x5_38_36)]) hx hb dX2_layTables_86 hl (by decide) rfl (fun ls hl => ?_)
                          refine lv_aload_n hx hb dX2_layTables_88 rfl (lv_at hl 2 rfl) ?_
                          refine gX2_1 (b := 26) X hw sC25 nC25 rfl fl_X2_9 dX2_layTables_89 ?_
                          refine lv_iload hx hb dX2_layTables_92 (lv_at hl 0 rfl) ?_
                          refine lv_aload_n hx hb dX2_layTables_94 rfl (lv_at hl 2 rfl) ?_
                          refine gX2_0 (b := 21) X hw sC25 nC25 rfl fl_X2_24 dX2_layTables_95 ?_
                          refine lv_aload_n hx hb dX2_layTables_98 rfl (lv_at hl 3 rfl) ?_
                          refine lv_aload_n hx hb dX2_layTables_99 rfl (lv_at hl 2 rfl) ?_
                          refine gX2_3 (b := 28) X hw sC25 nC25 rfl fl_X2_18 dX2_layTables_100 ?_
                          refine lv_iload hx hb dX2_layTables_103 (lv_at hl 6 rfl) ?_
                          obtain ⟨h46, hf⟩ := if_some hf
                          refine wr_iald X hw sC28 nC28 h46 dX2_layTables_105 ?_
                          refine lv_iload_n hx hb dX2_layTables_106 rfl (lv_at hl 4 rfl) ?_
                          refine lv_iload hx hb dX2_layTables_107 (lv_at hl 1 rfl) ?_
                          obtain ⟨v48, σ49, hq47, hf⟩ := bnd2_some hf
                          refine wr_cNi (r := v48) (σ' := σ49) (av := [.ref (ad o1), .int (σ38_36.1 28 (Int32.toNatClampNeg x4_26_33)), .int x2_2_1, .int s0_59_39]) (rest := [.int v45, .ref (ad 26)]) X hw hl.1 sC21 nC21 rfl (k_X1_suffering hI ho1 hq47) rfl mn_X2_62 im_X1_suffering se_X1_suffering ini_X1 co_X1_suffering hd_X1_suffering ⟨Nat.le_of_ble_eq_true rfl, Nat.le_of_ble_eq_true rfl⟩ (Nat.le_of_ble_eq_true rfl) dX2_layTables_109 rfl (fun H locs hw => ?_)
                          obtain ⟨h50, hf⟩ := if_some hf
                          obtain ⟨σ51, eσ51, hf⟩ := wlet_some hf
                          refine wr_iast X hw sC26 nC26 h50 dX2_layTables_112 (fun H locs hw => ?_)
                          replace hw := hw.to eσ51
                          refine lv_aload_n hx hb dX2_layTables_113 rfl (lv_at hl 2 rfl) ?_
                          refine gX2_2 (b := 27) X hw sC25 nC25 rfl fl_X2_15 dX2_layTables_114 ?_
                          refine lv_iload hx hb dX2_layTables_117 (lv_at hl 0 rfl) ?_
                          refine lv_aload_n hx hb dX2_layTables_119 rfl (lv_at hl 2 rfl) ?_
                          refine gX2_0 (b := 21) X hw sC25 nC25 rfl fl_X2_24 dX2_layTables_120 ?_
                          refine lv_aload_n hx hb dX2_layTables_123 rfl (lv_at hl 3 rfl) ?_
                          refine lv_aload_n hx hb dX2_layTables_124 rfl (lv_at hl 2 rfl) ?_
                          refine gX2_3 (b := 28) X hw sC25 nC25 rfl fl_X2_18 dX2_layTables_125 ?_
                          refine lv_iload hx hb dX2_layTables_128 (lv_at hl 6 rfl) ?_
                          obtain ⟨h52, hf⟩ := if_some hf
                          refine wr_iald X hw sC28 nC28 h52 dX2_layTables_130 ?_
                          refine lv_iload_n hx hb dX2_layTables_131 rfl (lv_at hl 4 rfl) ?_
                          refine lv_iload hx hb dX2_layTables_132 (lv_at hl 1 rfl) ?_
                          obtain ⟨v54, σ55, hq53, hf⟩ := bnd2_some hf
                          refine wr_cNi (r := v54) (σ' := σ55) (av := [.ref (ad o1), .int (σ51.1 28 (Int32.toNatClampNeg x4_26_33)), .int x2_2_1, .int s0_59_39]) (rest := [.int v45, .ref (ad 27)]) X hw hl.1 sC21 nC21 rfl (k_X1_due hI ho1 hq53) rfl mn_X2_68 im_X1_due se_X1_due ini_X1 co_X1_due hd_X1_due ⟨Nat.le_of_ble_eq_true rfl, Nat.le_of_ble_eq_true rfl⟩ (Nat.le_of_ble_eq_true rfl) dX2_layTables_134 rfl (fun H locs hw => ?_)
                          obtain ⟨h56, hf⟩ := if_some hf
                          obtain ⟨σ57, eσ57, hf⟩ := wlet_some hf
                          refine wr_iast X hw sC27 nC27 h56 dX2_layTables_137 (fun H locs hw => ?_)
                          replace hw := hw.to eσ57
                          obtain ⟨v58, ev58, hf⟩ := wlet_some hf
                          refine lv_iinc (v := v58) (lv' := [(5, .int v58), (7, .int v45), (6, .int s0_59_39), (0, .ref (ad 25)), (1, .ref (ad o1)), (2, .int x2_2_1), (3, .int (1 : Int32)), (4, .int x4_26_33)]) hx hb dX2_layTables_138 hl (k := 7) rfl (by rw [ev58]; rfl) (by decide) rfl (fun ls hl => ?_)
                          refine lv_goto (tgt := 38) hx hb dX2_layTables_141 (by decide) ?_
                          exact ih38_36 σ57 v58 (lp_leaf hf hz38_36) ls H locs (lv_sub hl [3, 4, 5, 6, 7, 0] rfl) hw
                      replace hf := hf0
                      refine lv_if_ne (tgt := 52) hx hb dX2_layTables_45 (by decide) (fun c59 => ?_) (fun c59 => ?_)
                      · have hf := (if_neg c59).symm.trans hf
                        refine lv_aload_n hx hb dX2_layTables_52 rfl (lv_at hl 0 rfl) ?_
                        refine gX2_3 (b := 28) X hw sC25 nC25 rfl fl_X2_18 dX2_layTables_53 ?_
                        refine lv_iload hx hb dX2_layTables_56 (lv_at hl 5 rfl) ?_
                        obtain ⟨h60, hf⟩ := if_some hf
                        refine wr_iald X hw sC28 nC28 h60 dX2_layTables_58 ?_
                        exact j59_39 (σ38_36.1 28 (Int32.toNatClampNeg x5_38_36)) hf ls H locs (lv_sub hl [0, 1, 2, 3, 4, 5] rfl) hw
                      · have hf := (if_pos c59).symm.trans hf
                        refine lv_iconst (v := -1) hx hb dX2_layTables_48 (by decide) ?_
                        refine lv_goto (tgt := 59) hx hb dX2_layTables_49 (by decide) ?_
                        exact j59_39 (-1 : Int32) hf ls H locs (lv_sub hl [0, 1, 2, 3, 4, 5] rfl) hw
                exact lo38_36 fuel σ26_33 (0 : Int32) hq38_36 ls H locs (lv_sub hl [1, 2, 3, 4, 5, 0] rfl) hw
          exact lo26_33 fuel σ2_1 (0 : Int32) hq26_33 ls H locs (lv_sub hl [2, 3, 4, 1, 0] rfl) hw
  exact lo2_1 fuel σ (0 : Int32) hq2_1 ls H locs (lv_sub hl [1, 2, 0] rfl) hw

def f_X2_layFirst (σ : St) (o1 : Nat) : Option (St) := wlet (si σ 25 5 (0 : Int32)) fun σ1 => wlet (un2 (fun (σ7_2 : St) (x2_7_2 : Int32) => if (7 : Int32) ≤ x2_7_2 then (some (.inr σ7_2)) else (Option.bind (f_X6_isListed σ7_2 o1 x2_7_2) fun v7 => if v7 = 0 then (wlet (x2_7_2 + (1 : Int32)) fun v9 => some (.inl (σ7_2, v9))) else (if ib (σ7_2.1 25 5) 7 = true then wlet (si σ7_2 28 (Int32.toNatClampNeg (σ7_2.1 25 5)) x2_7_2) fun σ11 => wlet (si σ11 25 5 ((σ11.1 25 5) + (1 : Int32))) fun σ12 => wlet (x2_7_2 + (1 : Int32)) fun v13 => some (.inl (σ12, v13)) else none))) : St × Int32 → Option ((St × Int32) ⊕ (St))) fun st7_2 => Option.bind (lp st7_2 fuel (σ1, (0 : Int32))) ((fun (σe7_2 : St) => Option.bind (f_X2_layTables σe7_2 o1) fun σ4 => some σ4))
theorem hd_X2_layFirst : yX2_layFirst.cls = RX2 ∧ yX2_layFirst.cls ≠ "java/lang/invoke/MethodHandle" ∧ yX2_layFirst.cls ≠ "java/lang/invoke/VarHandle" ∧ (parseMethodDescriptor yX2_layFirst.desc).map (fun d => d.parameters.length) = some 1 := by decide +kernel
set_option maxRecDepth 100000 in
set_option maxHeartbeats 4000000 in
theorem k_X2_layFirst {l : Launch} {ad : Nat → Nat} {D : va_G} {cy : Nat → ClassId} {z : wStr} (hI : wI WC ad) {σ : St} {o1 : Nat} (ho1 : isSt o1) {res : St} (hf : f_X2_layFirst σ o1 = some res) : wC WC ad D cy z l yX2_layFirst (Cond.code yX2_layFirst cX2_layFirst 3 (none) :: aw) (6) (226) [.ref (ad 25), .ref (ad o1)] σ (wQv WC ad D cy res) := by
  unfold f_X2_layFirst at hf
  refine wr_start (own := RX2) hI (by decide +kernel) rfl (Nat.le_of_ble_eq_true rfl) rfl ?_
  intro p e s m below meth c ls X hw hr hl
  have hx := X.hx
  have hb := X.hb
  obtain ⟨H, eH⟩ : ∃ H : Heap, H = s.heap := ⟨_, rfl⟩
  obtain ⟨locs, el⟩ : ∃ locs : List Loc, locs = [] := ⟨_, rfl⟩
  rw [← eH, ← el] at hw ⊢
  clear eH el
  replace hl : lv_has ls 3 [(0, .ref (ad 25)), (1, .ref (ad o1))] := hl
  refine lv_aload_n hx hb dX2_layFirst_0 rfl (lv_at hl 0 rfl) ?_
  refine lv_iconst (v := 0) hx hb dX2_layFirst_1 (by decide) ?_
  obtain ⟨σ1, eσ1, hf⟩ := wlet_some hf
  refine pX2_5 X hw sC25 nC25 fl_X2_43 dX2_layFirst_2 (fun H locs hw => ?_)
  replace hw := hw.to eσ1
  refine lv_iconst (v := 0) hx hb dX2_layFirst_5 (by decide) ?_
  refine lv_istore_n (lv' := [(2, .int (0 : Int32)), (0, .ref (ad 25)), (1, .ref (ad o1))]) hx hb dX2_layFirst_6 rfl hl (by decide) rfl (fun ls hl => ?_)
  obtain ⟨st7_2, est7_2, hf⟩ := wlet_some hf
  obtain ⟨E7_2, hq7_2, hE7_2⟩ := bind_some hf
  have hx7_2 : ∀ (σe7_2 : St) (_ : σe7_2 = E7_2) (ls : Array Slot) (H : Heap) (locs : List Loc), lv_has ls 3 [(0, .ref (ad 25)), (1, .ref (ad o1))] → wH WC ad D cy s σe7_2 H locs → W p l e { frames := 6, cells := 0, slots := 0, locals := 226 } s m [.ref (ad 25), .ref (ad o1)].toArray below meth c H locs 0 0 (MQ below (wQv WC ad D cy res) [.ref (ad 25), .ref (ad o1)].toArray s 0 0 (wA WC ad)) (F0 m 47 ls []) := by
    intro σe7_2 e0 ls H locs hl hw
    subst e0
    have hf := hE7_2
    refine lv_aload_n hx hb dX2_layFirst_47 rfl (lv_at hl 0 rfl) ?_
    refine lv_aload_n hx hb dX2_layFirst_48 rfl (lv_at hl 1 rfl) ?_
    obtain ⟨σ4, hq3, hf⟩ := bind_some hf
    refine wr_cVv (σ' := σ4) (av := [.ref (ad o1)]) (rest := []) X hw hl.1 sC25 nC25 rfl (k_X2_layTables hI ho1 hq3) rfl ml_X2_50 im_X2_layTables se_X2_layTables ini_X2 co_X2_layTables hd_X2_layTables ⟨Nat.le_of_ble_eq_true rfl, Nat.le_of_ble_eq_true rfl⟩ (Nat.le_of_ble_eq_true rfl) dX2_layFirst_49 rfl (fun H locs hw => ?_)
    have er := Option.some.inj hf
    subst er
    exact wr_vret X hw hr dX2_layFirst_52
  have lo7_2 : ∀ (n : Nat) (σ7_2 : St) (x2_7_2 : Int32) (_ : lp st7_2 n (σ7_2, x2_7_2) = some E7_2) (ls : Array Slot) (H : Heap) (locs : List Loc), lv_has ls 3 [(0, .ref (ad 25)), (1, .ref (ad o1)), (2, .int x2_7_2)] → wH WC ad D cy s σ7_2 H locs → W p l e { frames := 6, cells := 0, slots := 0, locals := 226 } s m [.ref (ad 25), .ref (ad o1)].toArray below meth c H locs 0 0 (MQ below (wQv WC ad D cy res) [.ref (ad 25), .ref (ad o1)].toArray s 0 0 (wA WC ad)) (F0 m 7 ls []) := by
    intro n
    induction n with
    | zero =>
      intro σ7_2 x2_7_2 hf ls H locs hl hw
      exact (lp_zero hf).elim
    | succ n ih7_2 =>
      intro σ7_2 x2_7_2 hf ls H locs hl hw
      obtain ⟨q7_2, hf, hz7_2⟩ := lp_succ hf
      rw [est7_2] at hf
      replace hf := un2_some hf
      refine lv_iload_n hx hb dX2_layFirst_7 rfl (lv_at hl 2 rfl) ?_
      refine lv_bipush (v := 7) hx hb dX2_layFirst_8 (by decide) ?_
      refine lv_icmp_ge (tgt := 47) hx hb dX2_layFirst_10 (by decide) (fun c5 => ?_) (fun c5 => ?_)
      · have hf := (if_pos c5).symm.trans hf
        exact hx7_2 σ7_2 (lpK_inr (lp_leaf hf hz7_2)) ls H locs (lv_sub hl [0, 1] rfl) hw
      · have hf := (if_neg c5).symm.trans hf
        refine lv_aload_n hx hb dX2_layFirst_13 rfl (lv_at hl 1 rfl) ?_
        refine lv_iload_n hx hb dX2_layFirst_14 rfl (lv_at hl 2 rfl) ?_
        obtain ⟨v7, hq6, hf⟩ := bind_some hf
        refine wr_cNi (r := v7) (σ' := σ7_2) (av := [.int x2_7_2]) (rest := []) X hw hl.1 (isSt.s0 ho1) (isSt.n0 ho1) rfl (k_X6_isListed hI ho1 hq6) rfl mn_X2_54 im_X6_isListed se_X6_isListed ini_X6 co_X6_isListed hd_X6_isListed ⟨Nat.le_of_ble_eq_true rfl, Nat.le_of_ble_eq_true rfl⟩ (Nat.le_of_ble_eq_true rfl) dX2_layFirst_15 rfl (fun H locs hw => ?_)
        refine lv_if_eq (tgt := 41) hx hb dX2_layFirst_18 (by decide) (fun c8 => ?_) (fun c8 => ?_)
        · have hf := (if_pos c8).symm.trans hf
          obtain ⟨v9, ev9, hf⟩ := wlet_some hf
          refine lv_iinc (v := v9) (lv' := [(2, .int v9), (0, .ref (ad 25)), (1, .ref (ad o1))]) hx hb dX2_layFirst_41 hl (k := 2) rfl (by rw [ev9]; rfl) (by decide) rfl (fun ls hl => ?_)
          refine lv_goto (tgt := 7) hx hb dX2_layFirst_44 (by decide) ?_
          exact ih7_2 σ7_2 v9 (lp_leaf hf hz7_2) ls H locs (lv_sub hl [1, 2, 0] rfl) hw
        · have hf := (if_neg c8).symm.trans hf
          refine lv_aload_n hx hb dX2_layFirst_21 rfl (lv_at hl 0 rfl) ?_
          refine gX2_3 (b := 28) X hw sC25 nC25 rfl fl_X2_18 dX2_layFirst_22 ?_
          refine lv_aload_n hx hb dX2_layFirst_25 rfl (lv_at hl 0 rfl) ?_
          refine gX2_5 X hw sC25 nC25 fl_X2_43 dX2_layFirst_26 ?_
          refine lv_iload_n hx hb dX2_layFirst_29 rfl (lv_at hl 2 rfl) ?_
          obtain ⟨h10, hf⟩ := if_some hf
          obtain ⟨σ11, eσ11, hf⟩ := wlet_some hf
          refine wr_iast X hw sC28 nC28 h10 dX2_layFirst_30 (fun H locs hw => ?_)
          replace hw := hw.to eσ11
          refine lv_aload_n hx hb dX2_layFirst_31 rfl (lv_at hl 0 rfl) ?_
          refine lv_dup hx hb dX2_layFirst_32 rfl ?_
          refine gX2_5 X hw sC25 nC25 fl_X2_43 dX2_layFirst_33 ?_
          refine lv_iconst (v := 1) hx hb dX2_layFirst_36 (by decide) ?_
          refine lv_iadd hx hb dX2_layFirst_37 ?_
          obtain ⟨σ12, eσ12, hf⟩ := wlet_some hf
          refine pX2_5 X hw sC25 nC25 fl_X2_43 dX2_layFirst_38 (fun H locs hw => ?_)
          replace hw := hw.to eσ12
          obtain ⟨v13, ev13, hf⟩ := wlet_some hf
          refine lv_iinc (v := v13) (lv' := [(2, .int v13), (0, .ref (ad 25)), (1, .ref (ad o1))]) hx hb dX2_layFirst_41 hl (k := 2) rfl (by rw [ev13]; rfl) (by decide) rfl (fun ls hl => ?_)
          refine lv_goto (tgt := 7) hx hb dX2_layFirst_44 (by decide) ?_
          exact ih7_2 σ12 v13 (lp_leaf hf hz7_2) ls H locs (lv_sub hl [1, 2, 0] rfl) hw
  exact lo7_2 fuel σ1 (0 : Int32) hq7_2 ls H locs (lv_sub hl [1, 2, 0] rfl) hw

def f_X2_rowNumber (σ : St)  : Option (Int32) := wlet (un2 (fun (x1_4_1 : Int32) (x2_4_1 : Int32) => if (σ.1 25 5) ≤ x2_4_1 then (some (.inr x1_4_1)) else (if ib x2_4_1 7 = true then wlet (((8 : Int32) * x1_4_1) + (σ.1 28 (Int32.toNatClampNeg x2_4_1))) fun v4 => wlet (x2_4_1 + (1 : Int32)) fun v5 => some (.inl (v4, v5)) else none)) : Int32 × Int32 → Option ((Int32 × Int32) ⊕ (Int32))) fun st4_1 => Option.bind (lp st4_1 fuel ((0 : Int32), (0 : Int32))) ((fun (x1_e4_1 : Int32) => some x1_e4_1))
theorem hd_X2_rowNumber : yX2_rowNumber.cls = RX2 ∧ yX2_rowNumber.cls ≠ "java/lang/invoke/MethodHandle" ∧ yX2_rowNumber.cls ≠ "java/lang/invoke/VarHandle" ∧ (parseMethodDescriptor yX2_rowNumber.desc).map (fun d => d.parameters.length) = some 0 := by decide +kernel
set_option maxRecDepth 100000 in
set_option maxHeartbeats 4000000 in
theorem k_X2_rowNumber {l : Launch} {ad : Nat → Nat} {D : va_G} {cy : Nat → ClassId} {z : wStr} (hI : wI WC ad) {σ : St}   {res : Int32} (hf : f_X2_rowNumber σ  = some res) : wC WC ad D cy z l yX2_rowNumber (Cond.code yX2_rowNumber cX2_rowNumber 3 (Option.some Jvm.ClassFile.FieldType.int) :: aw) (1) (100) [.ref (ad 25)] σ (wQi WC ad D cy res σ) := by
  unfold f_X2_rowNumber at hf
  refine wr_start (own := RX2) hI (by decide +kernel) rfl (Nat.le_of_ble_eq_true rfl) rfl ?_
  intro p e s m below meth c ls X hw hr hl
  have hx := X.hx
  have hb := X.hb
  obtain ⟨H, eH⟩ : ∃ H : Heap, H = s.heap := ⟨_, rfl⟩
  obtain ⟨locs, el⟩ : ∃ locs : List Loc, locs = [] := ⟨_, rfl⟩
  rw [← eH, ← el] at hw ⊢
  clear eH el
  replace hl : lv_has ls 3 [(0, .ref (ad 25))] := hl
  refine lv_iconst (v := 0) hx hb dX2_rowNumber_0 (by decide) ?_
  refine lv_istore_n (lv' := [(1, .int (0 : Int32)), (0, .ref (ad 25))]) hx hb dX2_rowNumber_1 rfl hl (by decide) rfl (fun ls hl => ?_)
  refine lv_iconst (v := 0) hx hb dX2_rowNumber_2 (by decide) ?_
  refine lv_istore_n (lv' := [(2, .int (0 : Int32)), (1, .int (0 : Int32)), (0, .ref (ad 25))]) hx hb dX2_rowNumber_3 rfl hl (by decide) rfl (fun ls hl => ?_)
  obtain ⟨st4_1, est4_1, hf⟩ := wlet_some hf
  obtain ⟨E4_1, hq4_1, hE4_1⟩ := bind_some hf
  have hx4_1 : ∀ (x1_e4_1 : Int32) (_ : x1_e4_1 = E4_1) (ls : Array Slot) (H : Heap) (locs : List Loc), lv_has ls 3 [(1, .int x1_e4_1)] → wH WC ad D cy s σ H locs → W p l e { frames := 1, cells := 0, slots := 0, locals := 100 } s m [.ref (ad 25)].toArray below meth c H locs 0 0 (MQ below (wQi WC ad D cy res σ) [.ref (ad 25)].toArray s 0 0 (wA WC ad)) (F0 m 30 ls []) := by
    intro x1_e4_1 e0 ls H locs hl hw
    subst e0
    have hf := hE4_1
    refine lv_iload_n hx hb dX2_rowNumber_30 rfl (lv_at hl 0 rfl) ?_
    have er := Option.some.inj hf
    subst er
    exact wr_iret X hw hr (Or.inl rfl) dX2_rowNumber_31
  have lo4_1 : ∀ (n : Nat) (x1_4_1 : Int32) (x2_4_1 : Int32) (_ : lp st4_1 n (x1_4_1, x2_4_1) = some E4_1) (ls : Array Slot) (H : Heap) (locs : List Loc), lv_has ls 3 [(0, .ref (ad 25)), (1, .int x1_4_1), (2, .int x2_4_1)] → wH WC ad D cy s σ H locs → W p l e { frames := 1, cells := 0, slots := 0, locals := 100 } s m [.ref (ad 25)].toArray below meth c H locs 0 0 (MQ below (wQi WC ad D cy res σ) [.ref (ad 25)].toArray s 0 0 (wA WC ad)) (F0 m 4 ls []) := by
    intro n
    induction n with
    | zero =>
      intro x1_4_1 x2_4_1 hf ls H locs hl hw
      exact (lp_zero hf).elim
    | succ n ih4_1 =>
      intro x1_4_1 x2_4_1 hf ls H locs hl hw
      obtain ⟨q4_1, hf, hz4_1⟩ := lp_succ hf
      rw [est4_1] at hf
      replace hf := un2_some hf
      refine lv_iload_n hx hb dX2_rowNumber_4 rfl (lv_at hl 2 rfl) ?_
      refine lv_aload_n hx hb dX2_rowNumber_5 rfl (lv_at hl 0 rfl) ?_
      refine gX2_5 X hw sC25 nC25 fl_X2_43 dX2_rowNumber_6 ?_
      refine lv_icmp_ge (tgt := 30) hx hb dX2_rowNumber_9 (by decide) (fun c2 => ?_) (fun c2 => ?_)
      · have hf := (if_pos c2).symm.trans hf
        exact hx4_1 x1_4_1 (lpK_inr (lp_leaf hf hz4_1)) ls H locs (lv_sub hl [1] rfl) hw
      · have hf := (if_neg c2).symm.trans hf
        refine lv_bipush (v := 8) hx hb dX2_rowNumber_12 (by decide) ?_
        refine lv_iload_n hx hb dX2_rowNumber_14 rfl (lv_at hl 1 rfl) ?_
        refine lv_imul hx hb dX2_rowNumber_15 ?_
        refine lv_aload_n hx hb dX2_rowNumber_16 rfl (lv_at hl 0 rfl) ?_
        refine gX2_3 (b := 28) X hw sC25 nC25 rfl fl_X2_18 dX2_rowNumber_17 ?_
        refine lv_iload_n hx hb dX2_rowNumber_20 rfl (lv_at hl 2 rfl) ?_
        obtain ⟨h3, hf⟩ := if_some hf
        refine wr_iald X hw sC28 nC28 h3 dX2_rowNumber_21 ?_
        refine lv_iadd hx hb dX2_rowNumber_22 ?_
        obtain ⟨v4, ev4, hf⟩ := wlet_some hf
        refine wr_top ev4 ?_
        refine lv_istore_n (lv' := [(1, .int v4), (0, .ref (ad 25)), (2, .int x2_4_1)]) hx hb dX2_rowNumber_23 rfl hl (by decide) rfl (fun ls hl => ?_)
        obtain ⟨v5, ev5, hf⟩ := wlet_some hf
        refine lv_iinc (v := v5) (lv' := [(2, .int v5), (1, .int v4), (0, .ref (ad 25))]) hx hb dX2_rowNumber_24 hl (k := 2) rfl (by rw [ev5]; rfl) (by decide) rfl (fun ls hl => ?_)
        refine lv_goto (tgt := 4) hx hb dX2_rowNumber_27 (by decide) ?_
        exact ih4_1 v4 v5 (lp_leaf hf hz4_1) ls H locs (lv_sub hl [2, 1, 0] rfl) hw
  exact lo4_1 fuel (0 : Int32) (0 : Int32) hq4_1 ls H locs (lv_sub hl [2, 1, 0] rfl) hw

def f_X2_exchange (σ : St) (x1 : Int32) (x2 : Int32) : Option (St) := if x1 < 0 then (some σ) else (if (σ.1 25 5) ≤ x1 then (some σ) else (if x2 < 0 then (some σ) else (if (σ.1 25 5) ≤ x2 then (some σ) else (if ib x1 7 = true then wlet (σ.1 28 (Int32.toNatClampNeg x1)) fun v6 => if ib x2 7 = true then if ib x1 7 = true then wlet (si σ 28 (Int32.toNatClampNeg x1) (σ.1 28 (Int32.toNatClampNeg x2))) fun σ9 => if ib x2 7 = true then wlet (si σ9 28 (Int32.toNatClampNeg x2) v6) fun σ11 => some σ11 else none else none else none else none))))
theorem hd_X2_exchange : yX2_exchange.cls = RX2 ∧ yX2_exchange.cls ≠ "java/lang/invoke/MethodHandle" ∧ yX2_exchange.cls ≠ "java/lang/invoke/VarHandle" ∧ (parseMethodDescriptor yX2_exchange.desc).map (fun d => d.parameters.length) = some 2 := by decide +kernel
set_option maxRecDepth 100000 in
set_option maxHeartbeats 4000000 in
theorem k_X2_exchange {l : Launch} {ad : Nat → Nat} {D : va_G} {cy : Nat → ClassId} {z : wStr} (hI : wI WC ad) {σ : St} {x1 : Int32} {x2 : Int32}  {res : St} (hf : f_X2_exchange σ x1 x2 = some res) : wC WC ad D cy z l yX2_exchange (Cond.code yX2_exchange cX2_exchange 4 (none) :: aw) (1) (100) [.ref (ad 25), .int x1, .int x2] σ (wQv WC ad D cy res) := by
  unfold f_X2_exchange at hf
  refine wr_start (own := RX2) hI (by decide +kernel) rfl (Nat.le_of_ble_eq_true rfl) rfl ?_
  intro p e s m below meth c ls X hw hr hl
  have hx := X.hx
  have hb := X.hb
  obtain ⟨H, eH⟩ : ∃ H : Heap, H = s.heap := ⟨_, rfl⟩
  obtain ⟨locs, el⟩ : ∃ locs : List Loc, locs = [] := ⟨_, rfl⟩
  rw [← eH, ← el] at hw ⊢
  clear eH el
  replace hl : lv_has ls 4 [(0, .ref (ad 25)), (1, .int x1), (2, .int x2)] := hl
  refine lv_iload_n hx hb dX2_exchange_0 rfl (lv_at hl 1 rfl) ?_
  refine lv_if_lt (tgt := 50) hx hb dX2_exchange_1 (by decide) (fun c1 => ?_) (fun c1 => ?_)
  · have hf := (if_pos c1).symm.trans hf
    have er := Option.some.inj hf
    subst er
    exact wr_vret X hw hr dX2_exchange_50
  · have hf := (if_neg c1).symm.trans hf
    refine lv_iload_n hx hb dX2_exchange_4 rfl (lv_at hl 1 rfl) ?_
    refine lv_aload_n hx hb dX2_exchange_5 rfl (lv_at hl 0 rfl) ?_
    refine gX2_5 X hw sC25 nC25 fl_X2_43 dX2_exchange_6 ?_
    refine lv_icmp_ge (tgt := 50) hx hb dX2_exchange_9 (by decide) (fun c2 => ?_) (fun c2 => ?_)
    · have hf := (if_pos c2).symm.trans hf
      have er := Option.some.inj hf
      subst er
      exact wr_vret X hw hr dX2_exchange_50
    · have hf := (if_neg c2).symm.trans hf
      refine lv_iload_n hx hb dX2_exchange_12 rfl (lv_at hl 2 rfl) ?_
      refine lv_if_lt (tgt := 50) hx hb dX2_exchange_13 (by decide) (fun c3 => ?_) (fun c3 => ?_)
      · have hf := (if_pos c3).symm.trans hf
        have er := Option.some.inj hf
        subst er
        exact wr_vret X hw hr dX2_exchange_50
      · have hf := (if_neg c3).symm.trans hf
        refine lv_iload_n hx hb dX2_exchange_16 rfl (lv_at hl 2 rfl) ?_
        refine lv_aload_n hx hb dX2_exchange_17 rfl (lv_at hl 0 rfl) ?_
        refine gX2_5 X hw sC25 nC25 fl_X2_43 dX2_exchange_18 ?_
        refine lv_icmp_ge (tgt := 50) hx hb dX2_exchange_21 (by decide) (fun c4 => ?_) (fun c4 => ?_)
        · have hf := (if_pos c4).symm.trans hf
          have er := Option.some.inj hf
          subst er
          exact wr_vret X hw hr dX2_exchange_50
        · have hf := (if_neg c4).symm.trans hf
          refine lv_aload_n hx hb dX2_exchange_24 rfl (lv_at hl 0 rfl) ?_
          refine gX2_3 (b := 28) X hw sC25 nC25 rfl fl_X2_18 dX2_exchange_25 ?_
          refine lv_iload_n hx hb dX2_exchange_28 rfl (lv_at hl 1 rfl) ?_
          obtain ⟨h5, hf⟩ := if_some hf
          refine wr_iald X hw sC28 nC28 h5 dX2_exchange_29 ?_
          obtain ⟨v6, ev6, hf⟩ := wlet_some hf
          refine wr_top ev6 ?_
          refine lv_istore_n (lv' := [(3, .int v6), (0, .ref (ad 25)), (1, .int x1), (2, .int x2)]) hx hb dX2_exchange_30 rfl hl (by decide) rfl (fun ls hl => ?_)
          refine lv_aload_n hx hb dX2_exchange_31 rfl (lv_at hl 1 rfl) ?_
          refine gX2_3 (b := 28) X hw sC25 nC25 rfl fl_X2_18 dX2_exchange_32 ?_
          refine lv_iload_n hx hb dX2_exchange_35 rfl (lv_at hl 2 rfl) ?_
          refine lv_aload_n hx hb dX2_exchange_36 rfl (lv_at hl 1 rfl) ?_
          refine gX2_3 (b := 28) X hw sC25 nC25 rfl fl_X2_18 dX2_exchange_37 ?_
          refine lv_iload_n hx hb dX2_exchange_40 rfl (lv_at hl 3 rfl) ?_
          obtain ⟨h7, hf⟩ := if_some hf
          refine wr_iald X hw sC28 nC28 h7 dX2_exchange_41 ?_
          obtain ⟨h8, hf⟩ := if_some hf
          obtain ⟨σ9, eσ9, hf⟩ := wlet_some hf
          refine wr_iast X hw sC28 nC28 h8 dX2_exchange_42 (fun H locs hw => ?_)
          replace hw := hw.to eσ9
          refine lv_aload_n hx hb dX2_exchange_43 rfl (lv_at hl 1 rfl) ?_
          refine gX2_3 (b := 28) X hw sC25 nC25 rfl fl_X2_18 dX2_exchange_44 ?_
          refine lv_iload_n hx hb dX2_exchange_47 rfl (lv_at hl 3 rfl) ?_
          refine lv_iload_n hx hb dX2_exchange_48 rfl (lv_at hl 0 rfl) ?_
          obtain ⟨h10, hf⟩ := if_some hf
          obtain ⟨σ11, eσ11, hf⟩ := wlet_some hf
          refine wr_iast X hw sC28 nC28 h10 dX2_exchange_49 (fun H locs hw => ?_)
          replace hw := hw.to eσ11
          have er := Option.some.inj hf
          subst er
          exact wr_vret X hw hr dX2_exchange_50

def f_X2_stepOn (σ : St)  : Option (Int32 × St) := wlet ((σ.1 25 5) - (2 : Int32)) fun v1 => wlet (fun (x1_7_2 : Int32) => if x1_7_2 < 0 then (some (.inr x1_7_2)) else (if ib x1_7_2 7 = true then if ib (x1_7_2 + (1 : Int32)) 7 = true then if (σ.1 28 (Int32.toNatClampNeg x1_7_2)) ≤ (σ.1 28 (Int32.toNatClampNeg (x1_7_2 + (1 : Int32)))) then (some (.inr x1_7_2)) else (wlet (x1_7_2 + (-1 : Int32)) fun v25 => some (.inl v25)) else none else none) : Int32 → Option ((Int32) ⊕ (Int32))) fun st7_2 => Option.bind (lp st7_2 fuel v1) ((fun (x1_e7_2 : Int32) => if 0 ≤ x1_e7_2 then (wlet ((σ.1 25 5) - (1 : Int32)) fun v4 => wlet (fun (x2_47_5 : Int32) => if x2_47_5 ≤ x1_e7_2 then (some (.inr x2_47_5)) else (if ib x2_47_5 7 = true then if ib x1_e7_2 7 = true then if (σ.1 28 (Int32.toNatClampNeg x1_e7_2)) ≤ (σ.1 28 (Int32.toNatClampNeg x2_47_5)) then (some (.inr x2_47_5)) else (wlet (x2_47_5 + (-1 : Int32)) fun v20 => some (.inl v20)) else none else none) : Int32 → Option ((Int32) ⊕ (Int32))) fun st47_5 => Option.bind (lp st47_5 fuel v4) ((fun (x2_e47_5 : Int32) => Option.bind (f_X2_exchange σ x1_e7_2 x2_e47_5) fun σ7 => wlet (x1_e7_2 + (1 : Int32)) fun v8 => wlet ((σ7.1 25 5) - (1 : Int32)) fun v9 => wlet (un3 (fun (σ91_10 : St) (x3_91_10 : Int32) (x4_91_10 : Int32) => if x4_91_10 ≤ x3_91_10 then (some (.inr σ91_10)) else (Option.bind (f_X2_exchange σ91_10 x3_91_10 x4_91_10) fun σ13 => wlet (x3_91_10 + (1 : Int32)) fun v14 => wlet (x4_91_10 + (-1 : Int32)) fun v15 => some (.inl (σ13, v14, v15)))) : St × Int32 × Int32 → Option ((St × Int32 × Int32) ⊕ (St))) fun st91_10 => Option.bind (lp st91_10 fuel (σ7, v8, v9)) ((fun (σe91_10 : St) => some ((1 : Int32), σe91_10)))))) else (some ((0 : Int32), σ))))
theorem hd_X2_stepOn : yX2_stepOn.cls = RX2 ∧ yX2_stepOn.cls ≠ "java/lang/invoke/MethodHandle" ∧ yX2_stepOn.cls ≠ "java/lang/invoke/VarHandle" ∧ (parseMethodDescriptor yX2_stepOn.desc).map (fun d => d.parameters.length) = some 0 := by decide +kernel
set_option maxRecDepth 100000 in
set_option maxHeartbeats 4000000 in
theorem k_X2_stepOn {l : Launch} {ad : Nat → Nat} {D : va_G} {cy : Nat → ClassId} {z : wStr} (hI : wI WC ad) {σ : St}   {res : Int32 × St} (hf : f_X2_stepOn σ  = some res) : wC WC ad D cy z l yX2_stepOn (Cond.code yX2_stepOn cX2_stepOn 5 (Option.some Jvm.ClassFile.FieldType.boolean) :: aw) (2) (123) [.ref (ad 25)] σ (wQi WC ad D cy res.1 res.2) := by
  unfold f_X2_stepOn at hf
  refine wr_start (own := RX2) hI (by decide +kernel) rfl (Nat.le_of_ble_eq_true rfl) rfl ?_
  intro p e s m below meth c ls X hw hr hl
  have hx := X.hx
  have hb := X.hb
  obtain ⟨H, eH⟩ : ∃ H : Heap, H = s.heap := ⟨_, rfl⟩
  obtain ⟨locs, el⟩ : ∃ locs : List Loc, locs = [] := ⟨_, rfl⟩
  rw [← eH, ← el] at hw ⊢
  clear eH el
  replace hl : lv_has ls 5 [(0, .ref (ad 25))] := hl
  refine lv_aload_n hx hb dX2_stepOn_0 rfl (lv_at hl 0 rfl) ?_
  refine gX2_5 X hw sC25 nC25 fl_X2_43 dX2_stepOn_1 ?_
  refine lv_iconst (v := 2) hx hb dX2_stepOn_4 (by decide) ?_
  refine lv_isub hx hb dX2_stepOn_5 ?_
  obtain ⟨v1, ev1, hf⟩ := wlet_some hf
  refine wr_top ev1 ?_
  refine lv_istore_n (lv' := [(1, .int v1), (0, .ref (ad 25))]) hx hb dX2_stepOn_6 rfl hl (by decide) rfl (fun ls hl => ?_)
  obtain ⟨st7_2, est7_2, hf⟩ := wlet_some hf
  obtain ⟨E7_2, hq7_2, hE7_2⟩ := bind_some hf
  have hx7_2 : ∀ (x1_e7_2 : Int32) (_ : x1_e7_2 = E7_2) (ls : Array Slot) (H : Heap) (locs : List Loc), lv_has ls 5 [(0, .ref (ad 25)), (1, .int x1_e7_2)] → wH WC ad D cy s σ H locs → W p l e { frames := 2, cells := 0, slots := 0, locals := 123 } s m [.ref (ad 25)].toArray below meth c H locs 0 0 (MQ below (wQi WC ad D cy res.1 res.2) [.ref (ad 25)].toArray s 0 0 (wA WC ad)) (F0 m 34 ls []) := by
    intro x1_e7_2 e0 ls H locs hl hw
    subst e0
    have hf := hE7_2
    refine lv_iload_n hx hb dX2_stepOn_34 rfl (lv_at hl 1 rfl) ?_
    refine lv_if_ge (tgt := 40) hx hb dX2_stepOn_35 (by decide) (fun c3 => ?_) (fun c3 => ?_)
    · have hf := (if_pos c3).symm.trans hf
      refine lv_aload_n hx hb dX2_stepOn_40 rfl (lv_at hl 0 rfl) ?_
      refine gX2_5 X hw sC25 nC25 fl_X2_43 dX2_stepOn_41 ?_
      refine lv_iconst (v := 1) hx hb dX2_stepOn_44 (by decide) ?_
      refine lv_isub hx hb dX2_stepOn_45 ?_
      obtain ⟨v4, ev4, hf⟩ := wlet_some hf
      refine wr_top ev4 ?_
      refine lv_istore_n (lv' := [(2, .int v4), (0, .ref (ad 25)), (1, .int x1_e7_2)]) hx hb dX2_stepOn_46 rfl hl (by decide) rfl (fun ls hl => ?_)
      obtain ⟨st47_5, est47_5, hf⟩ := wlet_some hf
      obtain ⟨E47_5, hq47_5, hE47_5⟩ := bind_some hf
      have hx47_5 : ∀ (x2_e47_5 : Int32) (_ : x2_e47_5 = E47_5) (ls : Array Slot) (H : Heap) (locs : List Loc), lv_has ls 5 [(0, .ref (ad 25)), (1, .int x1_e7_2), (2, .int x2_e47_5)] → wH WC ad D cy s σ H locs → W p l e { frames := 2, cells := 0, slots := 0, locals := 123 } s m [.ref (ad 25)].toArray below meth c H locs 0 0 (MQ below (wQi WC ad D cy res.1 res.2) [.ref (ad 25)].toArray s 0 0 (wA WC ad)) (F0 m 73 ls []) := by
        intro x2_e47_5 e0 ls H locs hl hw
        subst e0
        have hf := hE47_5
        refine lv_aload_n hx hb dX2_stepOn_73 rfl (lv_at hl 0 rfl) ?_
        refine lv_iload_n hx hb dX2_stepOn_74 rfl (lv_at hl 1 rfl) ?_
        refine lv_iload_n hx hb dX2_stepOn_75 rfl (lv_at hl 2 rfl) ?_
        obtain ⟨σ7, hq6, hf⟩ := bind_some hf
        refine wr_cVv (σ' := σ7) (av := [.int x1_e7_2, .int x2_e47_5]) (rest := []) X hw hl.1 sC25 nC25 rfl (k_X2_exchange hI hq6) rfl ml_X2_74 im_X2_exchange se_X2_exchange ini_X2 co_X2_exchange hd_X2_exchange ⟨Nat.le_of_ble_eq_true rfl, Nat.le_of_ble_eq_true rfl⟩ (Nat.le_of_ble_eq_true rfl) dX2_stepOn_76 rfl (fun H locs hw => ?_)
        refine lv_iload_n hx hb dX2_stepOn_79 rfl (lv_at hl 1 rfl) ?_
        refine lv_iconst (v := 1) hx hb dX2_stepOn_80 (by decide) ?_
        refine lv_iadd hx hb dX2_stepOn_81 ?_
        obtain ⟨v8, ev8, hf⟩ := wlet_some hf
        refine wr_top ev8 ?_
        refine lv_istore_n (lv' := [(3, .int v8), (0, .ref (ad 25)), (1, .int x1_e7_2), (2, .int x2_e47_5)]) hx hb dX2_stepOn_82 rfl hl (by decide) rfl (fun ls hl => ?_)
        refine lv_aload_n hx hb dX2_stepOn_83 rfl (lv_at hl 1 rfl) ?_
        refine gX2_5 X hw sC25 nC25 fl_X2_43 dX2_stepOn_84 ?_
        refine lv_iconst (v := 1) hx hb dX2_stepOn_87 (by decide) ?_
        refine lv_isub hx hb dX2_stepOn_88 ?_
        obtain ⟨v9, ev9, hf⟩ := wlet_some hf
        refine wr_top ev9 ?_
        refine lv_istore (lv' := [(4, .int v9), (3, .int v8), (0, .ref (ad 25)), (1, .int x1_e7_2), (2, .int x2_e47_5)]) hx hb dX2_stepOn_89 hl (by decide) rfl (fun ls hl => ?_)
        obtain ⟨st91_10, est91_10, hf⟩ := wlet_some hf
        obtain ⟨E91_10, hq91_10, hE91_10⟩ := bind_some hf
        have hx91_10 : ∀ (σe91_10 : St) (_ : σe91_10 = E91_10) (ls : Array Slot) (H : Heap) (locs : List Loc), lv_has ls 5 [] → wH WC ad D cy s σe91_10 H locs → W p l e { frames := 2, cells := 0, slots := 0, locals := 123 } s m [.ref (ad 25)].toArray below meth c H locs 0 0 (MQ below (wQi WC ad D cy res.1 res.2) [.ref (ad 25)].toArray s 0 0 (wA WC ad)) (F0 m 113 ls []) := by
          intro σe91_10 e0 ls H locs hl hw
          subst e0
          have hf := hE91_10
          refine lv_iconst (v := 1) hx hb dX2_stepOn_113 (by decide) ?_
          have er := Option.some.inj hf
          subst er
          exact wr_iret X hw hr (Or.inr ⟨rfl, (show bz (1 : Int32) = true from rfl)⟩) dX2_stepOn_114
        have lo91_10 : ∀ (n : Nat) (σ91_10 : St) (x3_91_10 : Int32) (x4_91_10 : Int32) (_ : lp st91_10 n (σ91_10, x3_91_10, x4_91_10) = some E91_10) (ls : Array Slot) (H : Heap) (locs : List Loc), lv_has ls 5 [(0, .ref (ad 25)), (3, .int x3_91_10), (4, .int x4_91_10)] → wH WC ad D cy s σ91_10 H locs → W p l e { frames := 2, cells := 0, slots := 0, locals := 123 } s m [.ref (ad 25)].toArray below meth c H locs 0 0 (MQ below (wQi WC ad D cy res.1 res.2) [.ref (ad 25)].toArray s 0 0 (wA WC ad)) (F0 m 91 ls []) := by
          intro n
          induction n with
          | zero =>
            intro σ91_10 x3_91_10 x4_91_10 hf ls H locs hl hw
            exact (lp_zero hf).elim
          | succ n ih91_10 =>
            intro σ91_10 x3_91_10 x4_91_10 hf ls H locs hl hw
            obtain ⟨q91_10, hf, hz91_10⟩ := lp_succ hf
            rw [est91_10] at hf
            replace hf := un3_some hf
            refine lv_iload_n hx hb dX2_stepOn_91 rfl (lv_at hl 1 rfl) ?_
            refine lv_iload hx hb dX2_stepOn_92 (lv_at hl 2 rfl) ?_
            refine lv_icmp_ge (tgt := 113) hx hb dX2_stepOn_94 (by decide) (fun c11 => ?_) (fun c11 => ?_)
            · have hf := (if_pos c11).symm.trans hf
              exact hx91_10 σ91_10 (lpK_inr (lp_leaf hf hz91_10)) ls H locs (lv_sub hl [] rfl) hw
            · have hf := (if_neg c11).symm.trans hf
              refine lv_aload_n hx hb dX2_stepOn_97 rfl (lv_at hl 0 rfl) ?_
              refine lv_iload_n hx hb dX2_stepOn_98 rfl (lv_at hl 1 rfl) ?_
              refine lv_iload hx hb dX2_stepOn_99 (lv_at hl 2 rfl) ?_
              obtain ⟨σ13, hq12, hf⟩ := bind_some hf
              refine wr_cVv (σ' := σ13) (av := [.int x3_91_10, .int x4_91_10]) (rest := []) X hw hl.1 sC25 nC25 rfl (k_X2_exchange hI hq12) rfl ml_X2_74 im_X2_exchange se_X2_exchange ini_X2 co_X2_exchange hd_X2_exchange ⟨Nat.le_of_ble_eq_true rfl, Nat.le_of_ble_eq_true rfl⟩ (Nat.le_of_ble_eq_true rfl) dX2_stepOn_101 rfl (fun H locs hw => ?_)
              obtain ⟨v14, ev14, hf⟩ := wlet_some hf
              refine lv_iinc (v := v14) (lv' := [(3, .int v14), (0, .ref (ad 25)), (4, .int x4_91_10)]) hx hb dX2_stepOn_104 hl (k := 1) rfl (by rw [ev14]; rfl) (by decide) rfl (fun ls hl => ?_)
              obtain ⟨v15, ev15, hf⟩ := wlet_some hf
              refine lv_iinc (v := v15) (lv' := [(4, .int v15), (3, .int v14), (0, .ref (ad 25))]) hx hb dX2_stepOn_107 hl (k := 2) rfl (by rw [ev15]; rfl) (by decide) rfl (fun ls hl => ?_)
              refine lv_goto (tgt := 91) hx hb dX2_stepOn_110 (by decide) ?_
              exact ih91_10 σ13 v14 v15 (lp_leaf hf hz91_10) ls H locs (lv_sub hl [2, 1, 0] rfl) hw
        exact lo91_10 fuel σ7 v8 v9 hq91_10 ls H locs (lv_sub hl [2, 1, 0] rfl) hw
      have lo47_5 : ∀ (n : Nat) (x2_47_5 : Int32) (_ : lp st47_5 n x2_47_5 = some E47_5) (ls : Array Slot) (H : Heap) (locs : List Loc), lv_has ls 5 [(0, .ref (ad 25)), (1, .int x1_e7_2), (2, .int x2_47_5)] → wH WC ad D cy s σ H locs → W p l e { frames := 2, cells := 0, slots := 0, locals := 123 } s m [.ref (ad 25)].toArray below meth c H locs 0 0 (MQ below (wQi WC ad D cy res.1 res.2) [.ref (ad 25)].toArray s 0 0 (wA WC ad)) (F0 m 47 ls []) := by
        intro n
        induction n with
        | zero =>
          intro x2_47_5 hf ls H locs hl hw
          exact (lp_zero hf).elim
        | succ n ih47_5 =>
          intro x2_47_5 hf ls H locs hl hw
          obtain ⟨q47_5, hf, hz47_5⟩ := lp_succ hf
          rw [est47_5] at hf
          refine lv_iload_n hx hb dX2_stepOn_47 rfl (lv_at hl 2 rfl) ?_
          refine lv_iload_n hx hb dX2_stepOn_48 rfl (lv_at hl 1 rfl) ?_
          refine lv_icmp_le (tgt := 73) hx hb dX2_stepOn_49 (by decide) (fun c16 => ?_) (fun c16 => ?_)
          · have hf := (if_pos c16).symm.trans hf
            exact hx47_5 x2_47_5 (lpK_inr (lp_leaf hf hz47_5)) ls H locs (lv_sub hl [0, 1, 2] rfl) hw
          · have hf := (if_neg c16).symm.trans hf
            refine lv_aload_n hx hb dX2_stepOn_52 rfl (lv_at hl 0 rfl) ?_
            refine gX2_3 (b := 28) X hw sC25 nC25 rfl fl_X2_18 dX2_stepOn_53 ?_
            refine lv_iload_n hx hb dX2_stepOn_56 rfl (lv_at hl 2 rfl) ?_
            obtain ⟨h17, hf⟩ := if_some hf
            refine wr_iald X hw sC28 nC28 h17 dX2_stepOn_57 ?_
            refine lv_aload_n hx hb dX2_stepOn_58 rfl (lv_at hl 0 rfl) ?_
            refine gX2_3 (b := 28) X hw sC25 nC25 rfl fl_X2_18 dX2_stepOn_59 ?_
            refine lv_iload_n hx hb dX2_stepOn_62 rfl (lv_at hl 1 rfl) ?_
            obtain ⟨h18, hf⟩ := if_some hf
            refine wr_iald X hw sC28 nC28 h18 dX2_stepOn_63 ?_
            refine lv_icmp_ge (tgt := 73) hx hb dX2_stepOn_64 (by decide) (fun c19 => ?_) (fun c19 => ?_)
            · have hf := (if_pos c19).symm.trans hf
              exact hx47_5 x2_47_5 (lpK_inr (lp_leaf hf hz47_5)) ls H locs (lv_sub hl [0, 1, 2] rfl) hw
            · have hf := (if_neg c19).symm.trans hf
              obtain ⟨v20, ev20, hf⟩ := wlet_some hf
              refine lv_iinc (v := v20) (lv' := [(2, .int v20), (0, .ref (ad 25)), (1, .int x1_e7_2)]) hx hb dX2_stepOn_67 hl (k := 2) rfl (by rw [ev20]; rfl) (by decide) rfl (fun ls hl => ?_)
              refine lv_goto (tgt := 47) hx hb dX2_stepOn_70 (by decide) ?_
              exact ih47_5 v20 (lp_leaf hf hz47_5) ls H locs (lv_sub hl [1, 2, 0] rfl) hw
      exact lo47_5 fuel v4 hq47_5 ls H locs (lv_sub hl [1, 2, 0] rfl) hw
    · have hf := (if_neg c3).symm.trans hf
      refine lv_iconst (v := 0) hx hb dX2_stepOn_38 (by decide) ?_
      have er := Option.some.inj hf
      subst er
      exact wr_iret X hw hr (Or.inr ⟨rfl, (show bz (0 : Int32) = true from rfl)⟩) dX2_stepOn_39
  have lo7_2 : ∀ (n : Nat) (x1_7_2 : Int32) (_ : lp st7_2 n x1_7_2 = some E7_2) (ls : Array Slot) (H : Heap) (locs : List Loc), lv_has ls 5 [(0, .ref (ad 25)), (1, .int x1_7_2)] → wH WC ad D cy s σ H locs → W p l e { frames := 2, cells := 0, slots := 0, locals := 123 } s m [.ref (ad 25)].toArray below meth c H locs 0 0 (MQ below (wQi WC ad D cy res.1 res.2) [.ref (ad 25)].toArray s 0 0 (wA WC ad)) (F0 m 7 ls []) := by
    intro n
    induction n with
    | zero =>
      intro x1_7_2 hf ls H locs hl hw
      exact (lp_zero hf).elim
    | succ n ih7_2 =>
      intro x1_7_2 hf ls H locs hl hw
      obtain ⟨q7_2, hf, hz7_2⟩ := lp_succ hf
      rw [est7_2] at hf
      refine lv_iload_n hx hb dX2_stepOn_7 rfl (lv_at hl 1 rfl) ?_
      refine lv_if_lt (tgt := 34) hx hb dX2_stepOn_8 (by decide) (fun c21 => ?_) (fun c21 => ?_)
      · have hf := (if_pos c21).symm.trans hf
        exact hx7_2 x1_7_2 (lpK_inr (lp_leaf hf hz7_2)) ls H locs (lv_sub hl [0, 1] rfl) hw
      · have hf := (if_neg c21).symm.trans hf
        refine lv_aload_n hx hb dX2_stepOn_11 rfl (lv_at hl 0 rfl) ?_
        refine gX2_3 (b := 28) X hw sC25 nC25 rfl fl_X2_18 dX2_stepOn_12 ?_
        refine lv_iload_n hx hb dX2_stepOn_15 rfl (lv_at hl 1 rfl) ?_
        obtain ⟨h22, hf⟩ := if_some hf
        refine wr_iald X hw sC28 nC28 h22 dX2_stepOn_16 ?_
        refine lv_aload_n hx hb dX2_stepOn_17 rfl (lv_at hl 0 rfl) ?_
        refine gX2_3 (b := 28) X hw sC25 nC25 rfl fl_X2_18 dX2_stepOn_18 ?_
        refine lv_iload_n hx hb dX2_stepOn_21 rfl (lv_at hl 1 rfl) ?_
        refine lv_iconst (v := 1) hx hb dX2_stepOn_22 (by decide) ?_
        refine lv_iadd hx hb dX2_stepOn_23 ?_
        obtain ⟨h23, hf⟩ := if_some hf
        refine wr_iald X hw sC28 nC28 h23 dX2_stepOn_24 ?_
        refine lv_icmp_le (tgt := 34) hx hb dX2_stepOn_25 (by decide) (fun c24 => ?_) (fun c24 => ?_)
        · have hf := (if_pos c24).symm.trans hf
          exact hx7_2 x1_7_2 (lpK_inr (lp_leaf hf hz7_2)) ls H locs (lv_sub hl [0, 1] rfl) hw
        · have hf := (if_neg c24).symm.trans hf
          obtain ⟨v25, ev25, hf⟩ := wlet_some hf
          refine lv_iinc (v := v25) (lv' := [(1, .int v25), (0, .ref (ad 25))]) hx hb dX2_stepOn_28 hl (k := 1) rfl (by rw [ev25]; rfl) (by decide) rfl (fun ls hl => ?_)
          refine lv_goto (tgt := 7) hx hb dX2_stepOn_31 (by decide) ?_
          exact ih7_2 v25 (lp_leaf hf hz7_2) ls H locs (lv_sub hl [1, 0] rfl) hw
  exact lo7_2 fuel v1 hq7_2 ls H locs (lv_sub hl [1, 0] rfl) hw

def f_X2_spotAt (σ : St) (x1 : Int32) : Option (Int32) := if ib x1 7 = true then wlet (fun (s0_23_2 : Int32) (s1_23_2 : Int32) (s2_23_2 : Int32) => (Option.bind (f_X2_spot s0_23_2 s1_23_2 s2_23_2) fun v4 => some v4 : Option (Int32))) fun k23_2 => if x1 ≤ 0 then (k23_2 x1 (σ.1 28 (Int32.toNatClampNeg x1)) (-1 : Int32)) else (if ib (x1 - (1 : Int32)) 7 = true then k23_2 x1 (σ.1 28 (Int32.toNatClampNeg x1)) (σ.1 28 (Int32.toNatClampNeg (x1 - (1 : Int32)))) else none) else none
theorem hd_X2_spotAt : yX2_spotAt.cls = RX2 ∧ yX2_spotAt.cls ≠ "java/lang/invoke/MethodHandle" ∧ yX2_spotAt.cls ≠ "java/lang/invoke/VarHandle" ∧ (parseMethodDescriptor yX2_spotAt.desc).map (fun d => d.parameters.length) = some 1 := by decide +kernel
set_option maxRecDepth 100000 in
set_option maxHeartbeats 4000000 in
theorem k_X2_spotAt {l : Launch} {ad : Nat → Nat} {D : va_G} {cy : Nat → ClassId} {z : wStr} (hI : wI WC ad) {σ : St} {x1 : Int32}  {res : Int32} (hf : f_X2_spotAt σ x1 = some res) : wC WC ad D cy z l yX2_spotAt (Cond.code yX2_spotAt cX2_spotAt 2 (Option.some Jvm.ClassFile.FieldType.int) :: aw) (2) (122) [.ref (ad 25), .int x1] σ (wQi WC ad D cy res σ) := by
  unfold f_X2_spotAt at hf
  refine wr_start (own := RX2) hI (by decide +kernel) rfl (Nat.le_of_ble_eq_true rfl) rfl ?_
  intro p e s m below meth c ls X hw hr hl
  have hx := X.hx
  have hb := X.hb
  obtain ⟨H, eH⟩ : ∃ H : Heap, H = s.heap := ⟨_, rfl⟩
  obtain ⟨locs, el⟩ : ∃ locs : List Loc, locs = [] := ⟨_, rfl⟩
  rw [← eH, ← el] at hw ⊢
  clear eH el
  replace hl : lv_has ls 2 [(0, .ref (ad 25)), (1, .int x1)] := hl
  refine lv_iload_n hx hb dX2_spotAt_0 rfl (lv_at hl 1 rfl) ?_
  refine lv_aload_n hx hb dX2_spotAt_1 rfl (lv_at hl 0 rfl) ?_
  refine gX2_3 (b := 28) X hw sC25 nC25 rfl fl_X2_18 dX2_spotAt_2 ?_
  refine lv_iload_n hx hb dX2_spotAt_5 rfl (lv_at hl 1 rfl) ?_
  obtain ⟨h1, hf⟩ := if_some hf
  refine wr_iald X hw sC28 nC28 h1 dX2_spotAt_6 ?_
  refine lv_iload_n hx hb dX2_spotAt_7 rfl (lv_at hl 1 rfl) ?_
  obtain ⟨k23_2, ek23_2, hf0⟩ := wlet_some hf
  have j23_2 : ∀ (s0_23_2 : Int32) (s1_23_2 : Int32) (s2_23_2 : Int32) (_ : k23_2 s0_23_2 s1_23_2 s2_23_2 = some res) (ls : Array Slot) (H : Heap) (locs : List Loc), lv_has ls 2 [] → wH WC ad D cy s σ H locs → W p l e { frames := 2, cells := 0, slots := 0, locals := 122 } s m [.ref (ad 25), .int x1].toArray below meth c H locs 0 0 (MQ below (wQi WC ad D cy res σ) [.ref (ad 25), .int x1].toArray s 0 0 (wA WC ad)) (F0 m 23 ls [.int s2_23_2, .int s1_23_2, .int s0_23_2]) := by
    intro s0_23_2 s1_23_2 s2_23_2 hf ls H locs hl hw
    rw [ek23_2] at hf
    obtain ⟨v4, hq3, hf⟩ := bind_some hf
    refine wr_cSi (r := v4) (σ' := σ) (av := [.int s0_23_2, .int s1_23_2, .int s2_23_2]) (rest := []) X hw hl.1 (k_X2_spot hI hq3) rfl ml_X2_58 st_X2_spot ini_X2 co_X2_spot hd_X2_spot ⟨Nat.le_of_ble_eq_true rfl, Nat.le_of_ble_eq_true rfl⟩ (Nat.le_of_ble_eq_true rfl) dX2_spotAt_23 rfl (fun H locs hw => ?_)
    have er := Option.some.inj hf
    subst er
    exact wr_iret X hw hr (Or.inl rfl) dX2_spotAt_26
  replace hf := hf0
  refine lv_if_le (tgt := 22) hx hb dX2_spotAt_8 (by decide) (fun c5 => ?_) (fun c5 => ?_)
  · have hf := (if_pos c5).symm.trans hf
    refine lv_iconst (v := -1) hx hb dX2_spotAt_22 (by decide) ?_
    exact j23_2 x1 (σ.1 28 (Int32.toNatClampNeg x1)) (-1 : Int32) hf ls H locs (lv_sub hl [] rfl) hw
  · have hf := (if_neg c5).symm.trans hf
    refine lv_aload_n hx hb dX2_spotAt_11 rfl (lv_at hl 0 rfl) ?_
    refine gX2_3 (b := 28) X hw sC25 nC25 rfl fl_X2_18 dX2_spotAt_12 ?_
    refine lv_iload_n hx hb dX2_spotAt_15 rfl (lv_at hl 1 rfl) ?_
    refine lv_iconst (v := 1) hx hb dX2_spotAt_16 (by decide) ?_
    refine lv_isub hx hb dX2_spotAt_17 ?_
    obtain ⟨h6, hf⟩ := if_some hf
    refine wr_iald X hw sC28 nC28 h6 dX2_spotAt_18 ?_
    refine lv_goto (tgt := 23) hx hb dX2_spotAt_19 (by decide) ?_
    exact j23_2 x1 (σ.1 28 (Int32.toNatClampNeg x1)) (σ.1 28 (Int32.toNatClampNeg (x1 - (1 : Int32)))) hf ls H locs (lv_sub hl [] rfl) hw

def f_X2_sufferingAt (σ : St) (x1 : Int32) : Option (Int32) := if x1 < 0 then (some (0 : Int32)) else (if (σ.1 25 5) ≤ x1 then (some (0 : Int32)) else (Option.bind (f_X2_spotAt σ x1) fun v4 => if ib v4 448 = true then some (σ.1 26 (Int32.toNatClampNeg v4)) else none))
theorem hd_X2_sufferingAt : yX2_sufferingAt.cls = RX2 ∧ yX2_sufferingAt.cls ≠ "java/lang/invoke/MethodHandle" ∧ yX2_sufferingAt.cls ≠ "java/lang/invoke/VarHandle" ∧ (parseMethodDescriptor yX2_sufferingAt.desc).map (fun d => d.parameters.length) = some 1 := by decide +kernel
set_option maxRecDepth 100000 in
set_option maxHeartbeats 4000000 in
theorem k_X2_sufferingAt {l : Launch} {ad : Nat → Nat} {D : va_G} {cy : Nat → ClassId} {z : wStr} (hI : wI WC ad) {σ : St} {x1 : Int32}  {res : Int32} (hf : f_X2_sufferingAt σ x1 = some res) : wC WC ad D cy z l yX2_sufferingAt (Cond.code yX2_sufferingAt cX2_sufferingAt 2 (Option.some Jvm.ClassFile.FieldType.int) :: aw) (3) (143) [.ref (ad 25), .int x1] σ (wQi WC ad D cy res σ) := by
  unfold f_X2_sufferingAt at hf
  refine wr_start (own := RX2) hI (by decide +kernel) rfl (Nat.le_of_ble_eq_true rfl) rfl ?_
  intro p e s m below meth c ls X hw hr hl
  have hx := X.hx
  have hb := X.hb
  obtain ⟨H, eH⟩ : ∃ H : Heap, H = s.heap := ⟨_, rfl⟩
  obtain ⟨locs, el⟩ : ∃ locs : List Loc, locs = [] := ⟨_, rfl⟩
  rw [← eH, ← el] at hw ⊢
  clear eH el
  replace hl : lv_has ls 2 [(0, .ref (ad 25)), (1, .int x1)] := hl
  refine lv_iload_n hx hb dX2_sufferingAt_0 rfl (lv_at hl 1 rfl) ?_
  refine lv_if_lt (tgt := 25) hx hb dX2_sufferingAt_1 (by decide) (fun c1 => ?_) (fun c1 => ?_)
  · have hf := (if_pos c1).symm.trans hf
    refine lv_iconst (v := 0) hx hb dX2_sufferingAt_25 (by decide) ?_
    have er := Option.some.inj hf
    subst er
    exact wr_iret X hw hr (Or.inl rfl) dX2_sufferingAt_26
  · have hf := (if_neg c1).symm.trans hf
    refine lv_iload_n hx hb dX2_sufferingAt_4 rfl (lv_at hl 1 rfl) ?_
    refine lv_aload_n hx hb dX2_sufferingAt_5 rfl (lv_at hl 0 rfl) ?_
    refine gX2_5 X hw sC25 nC25 fl_X2_43 dX2_sufferingAt_6 ?_
    refine lv_icmp_ge (tgt := 25) hx hb dX2_sufferingAt_9 (by decide) (fun c2 => ?_) (fun c2 => ?_)
    · have hf := (if_pos c2).symm.trans hf
      refine lv_iconst (v := 0) hx hb dX2_sufferingAt_25 (by decide) ?_
      have er := Option.some.inj hf
      subst er
      exact wr_iret X hw hr (Or.inl rfl) dX2_sufferingAt_26
    · have hf := (if_neg c2).symm.trans hf
      refine lv_aload_n hx hb dX2_sufferingAt_12 rfl (lv_at hl 0 rfl) ?_
      refine gX2_1 (b := 26) X hw sC25 nC25 rfl fl_X2_9 dX2_sufferingAt_13 ?_
      refine lv_aload_n hx hb dX2_sufferingAt_16 rfl (lv_at hl 0 rfl) ?_
      refine lv_iload_n hx hb dX2_sufferingAt_17 rfl (lv_at hl 1 rfl) ?_
      obtain ⟨v4, hq3, hf⟩ := bind_some hf
      refine wr_cVi (r := v4) (σ' := σ) (av := [.int x1]) (rest := [.ref (ad 26)]) X hw hl.1 sC25 nC25 rfl (k_X2_spotAt hI hq3) rfl ml_X2_71 im_X2_spotAt se_X2_spotAt ini_X2 co_X2_spotAt hd_X2_spotAt ⟨Nat.le_of_ble_eq_true rfl, Nat.le_of_ble_eq_true rfl⟩ (Nat.le_of_ble_eq_true rfl) dX2_sufferingAt_18 rfl (fun H locs hw => ?_)
      obtain ⟨h5, hf⟩ := if_some hf
      refine wr_iald X hw sC26 nC26 h5 dX2_sufferingAt_21 ?_
      refine lv_goto (tgt := 26) hx hb dX2_sufferingAt_22 (by decide) ?_
      have er := Option.some.inj hf
      subst er
      exact wr_iret X hw hr (Or.inl rfl) dX2_sufferingAt_26

def f_X2_bestAt (σ : St) (x1 : Int32) : Option (Int32) := if x1 < 0 then (some (-1 : Int32)) else (if (σ.1 25 5) ≤ x1 then (some (-1 : Int32)) else (if ib x1 7 = true then some (σ.1 29 (Int32.toNatClampNeg x1)) else none))
theorem hd_X2_bestAt : yX2_bestAt.cls = RX2 ∧ yX2_bestAt.cls ≠ "java/lang/invoke/MethodHandle" ∧ yX2_bestAt.cls ≠ "java/lang/invoke/VarHandle" ∧ (parseMethodDescriptor yX2_bestAt.desc).map (fun d => d.parameters.length) = some 1 := by decide +kernel
set_option maxRecDepth 100000 in
set_option maxHeartbeats 4000000 in
theorem k_X2_bestAt {l : Launch} {ad : Nat → Nat} {D : va_G} {cy : Nat → ClassId} {z : wStr} (hI : wI WC ad) {σ : St} {x1 : Int32}  {res : Int32} (hf : f_X2_bestAt σ x1 = some res) : wC WC ad D cy z l yX2_bestAt (Cond.code yX2_bestAt cX2_bestAt 2 (Option.some Jvm.ClassFile.FieldType.int) :: aw) (1) (100) [.ref (ad 25), .int x1] σ (wQi WC ad D cy res σ) := by
  unfold f_X2_bestAt at hf
  refine wr_start (own := RX2) hI (by decide +kernel) rfl (Nat.le_of_ble_eq_true rfl) rfl ?_
  intro p e s m below meth c ls X hw hr hl
  have hx := X.hx
  have hb := X.hb
  obtain ⟨H, eH⟩ : ∃ H : Heap, H = s.heap := ⟨_, rfl⟩
  obtain ⟨locs, el⟩ : ∃ locs : List Loc, locs = [] := ⟨_, rfl⟩
  rw [← eH, ← el] at hw ⊢
  clear eH el
  replace hl : lv_has ls 2 [(0, .ref (ad 25)), (1, .int x1)] := hl
  refine lv_iload_n hx hb dX2_bestAt_0 rfl (lv_at hl 1 rfl) ?_
  refine lv_if_lt (tgt := 21) hx hb dX2_bestAt_1 (by decide) (fun c1 => ?_) (fun c1 => ?_)
  · have hf := (if_pos c1).symm.trans hf
    refine lv_iconst (v := -1) hx hb dX2_bestAt_21 (by decide) ?_
    have er := Option.some.inj hf
    subst er
    exact wr_iret X hw hr (Or.inl rfl) dX2_bestAt_22
  · have hf := (if_neg c1).symm.trans hf
    refine lv_iload_n hx hb dX2_bestAt_4 rfl (lv_at hl 1 rfl) ?_
    refine lv_aload_n hx hb dX2_bestAt_5 rfl (lv_at hl 0 rfl) ?_
    refine gX2_5 X hw sC25 nC25 fl_X2_43 dX2_bestAt_6 ?_
    refine lv_icmp_ge (tgt := 21) hx hb dX2_bestAt_9 (by decide) (fun c2 => ?_) (fun c2 => ?_)
    · have hf := (if_pos c2).symm.trans hf
      refine lv_iconst (v := -1) hx hb dX2_bestAt_21 (by decide) ?_
      have er := Option.some.inj hf
      subst er
      exact wr_iret X hw hr (Or.inl rfl) dX2_bestAt_22
    · have hf := (if_neg c2).symm.trans hf
      refine lv_aload_n hx hb dX2_bestAt_12 rfl (lv_at hl 0 rfl) ?_
      refine gX2_4 (b := 29) X hw sC25 nC25 rfl fl_X2_21 dX2_bestAt_13 ?_
      refine lv_iload_n hx hb dX2_bestAt_16 rfl (lv_at hl 1 rfl) ?_
      obtain ⟨h3, hf⟩ := if_some hf
      refine wr_iald X hw sC29 nC29 h3 dX2_bestAt_17 ?_
      refine lv_goto (tgt := 22) hx hb dX2_bestAt_18 (by decide) ?_
      have er := Option.some.inj hf
      subst er
      exact wr_iret X hw hr (Or.inl rfl) dX2_bestAt_22

def f_X2_dueAt (σ : St) (x1 : Int32) : Option (Int32) := if x1 < 0 then (some (0 : Int32)) else (if (σ.1 25 5) ≤ x1 then (some (0 : Int32)) else (Option.bind (f_X2_spotAt σ x1) fun v4 => if ib v4 448 = true then some (σ.1 27 (Int32.toNatClampNeg v4)) else none))
theorem hd_X2_dueAt : yX2_dueAt.cls = RX2 ∧ yX2_dueAt.cls ≠ "java/lang/invoke/MethodHandle" ∧ yX2_dueAt.cls ≠ "java/lang/invoke/VarHandle" ∧ (parseMethodDescriptor yX2_dueAt.desc).map (fun d => d.parameters.length) = some 1 := by decide +kernel
set_option maxRecDepth 100000 in
set_option maxHeartbeats 4000000 in
theorem k_X2_dueAt {l : Launch} {ad : Nat → Nat} {D : va_G} {cy : Nat → ClassId} {z : wStr} (hI : wI WC ad) {σ : St} {x1 : Int32}  {res : Int32} (hf : f_X2_dueAt σ x1 = some res) : wC WC ad D cy z l yX2_dueAt (Cond.code yX2_dueAt cX2_dueAt 2 (Option.some Jvm.ClassFile.FieldType.int) :: aw) (3) (143) [.ref (ad 25), .int x1] σ (wQi WC ad D cy res σ) := by
  unfold f_X2_dueAt at hf
  refine wr_start (own := RX2) hI (by decide +kernel) rfl (Nat.le_of_ble_eq_true rfl) rfl ?_
  intro p e s m below meth c ls X hw hr hl
  have hx := X.hx
  have hb := X.hb
  obtain ⟨H, eH⟩ : ∃ H : Heap, H = s.heap := ⟨_, rfl⟩
  obtain ⟨locs, el⟩ : ∃ locs : List Loc, locs = [] := ⟨_, rfl⟩
  rw [← eH, ← el] at hw ⊢
  clear eH el
  replace hl : lv_has ls 2 [(0, .ref (ad 25)), (1, .int x1)] := hl
  refine lv_iload_n hx hb dX2_dueAt_0 rfl (lv_at hl 1 rfl) ?_
  refine lv_if_lt (tgt := 25) hx hb dX2_dueAt_1 (by decide) (fun c1 => ?_) (fun c1 => ?_)
  · have hf := (if_pos c1).symm.trans hf
    refine lv_iconst (v := 0) hx hb dX2_dueAt_25 (by decide) ?_
    have er := Option.some.inj hf
    subst er
    exact wr_iret X hw hr (Or.inl rfl) dX2_dueAt_26
  · have hf := (if_neg c1).symm.trans hf
    refine lv_iload_n hx hb dX2_dueAt_4 rfl (lv_at hl 1 rfl) ?_
    refine lv_aload_n hx hb dX2_dueAt_5 rfl (lv_at hl 0 rfl) ?_
    refine gX2_5 X hw sC25 nC25 fl_X2_43 dX2_dueAt_6 ?_
    refine lv_icmp_ge (tgt := 25) hx hb dX2_dueAt_9 (by decide) (fun c2 => ?_) (fun c2 => ?_)
    · have hf := (if_pos c2).symm.trans hf
      refine lv_iconst (v := 0) hx hb dX2_dueAt_25 (by decide) ?_
      have er := Option.some.inj hf
      subst er
      exact wr_iret X hw hr (Or.inl rfl) dX2_dueAt_26
    · have hf := (if_neg c2).symm.trans hf
      refine lv_aload_n hx hb dX2_dueAt_12 rfl (lv_at hl 0 rfl) ?_
      refine gX2_2 (b := 27) X hw sC25 nC25 rfl fl_X2_15 dX2_dueAt_13 ?_
      refine lv_aload_n hx hb dX2_dueAt_16 rfl (lv_at hl 0 rfl) ?_
      refine lv_iload_n hx hb dX2_dueAt_17 rfl (lv_at hl 1 rfl) ?_
      obtain ⟨v4, hq3, hf⟩ := bind_some hf
      refine wr_cVi (r := v4) (σ' := σ) (av := [.int x1]) (rest := [.ref (ad 27)]) X hw hl.1 sC25 nC25 rfl (k_X2_spotAt hI hq3) rfl ml_X2_71 im_X2_spotAt se_X2_spotAt ini_X2 co_X2_spotAt hd_X2_spotAt ⟨Nat.le_of_ble_eq_true rfl, Nat.le_of_ble_eq_true rfl⟩ (Nat.le_of_ble_eq_true rfl) dX2_dueAt_18 rfl (fun H locs hw => ?_)
      obtain ⟨h5, hf⟩ := if_some hf
      refine wr_iald X hw sC27 nC27 h5 dX2_dueAt_21 ?_
      refine lv_goto (tgt := 26) hx hb dX2_dueAt_22 (by decide) ?_
      have er := Option.some.inj hf
      subst er
      exact wr_iret X hw hr (Or.inl rfl) dX2_dueAt_26

def f_X2_muchFor (σ : St) (x1 : Int32) : Option (Int32) := wlet (un2 (fun (x2_4_1 : Int32) (x3_4_1 : Int32) => if (σ.1 25 5) ≤ x3_4_1 then (some (.inr x2_4_1)) else (Option.bind (f_X2_sufferingAt σ x3_4_1) fun v4 => if x1 = (3 : Int32) then (wlet (mx x2_4_1 v4) fun v13 => wlet (x3_4_1 + (1 : Int32)) fun v14 => some (.inl (v13, v14))) else (if x1 = (2 : Int32) then (Option.bind (f_X2_dueAt σ x3_4_1) fun v10 => wlet (x2_4_1 + (ab (v4 - v10))) fun v11 => wlet (x3_4_1 + (1 : Int32)) fun v12 => some (.inl (v11, v12))) else (wlet (x2_4_1 + v4) fun v7 => wlet (x3_4_1 + (1 : Int32)) fun v8 => some (.inl (v7, v8)))))) : Int32 × Int32 → Option ((Int32 × Int32) ⊕ (Int32))) fun st4_1 => Option.bind (lp st4_1 fuel ((0 : Int32), (0 : Int32))) ((fun (x2_e4_1 : Int32) => some x2_e4_1))
theorem hd_X2_muchFor : yX2_muchFor.cls = RX2 ∧ yX2_muchFor.cls ≠ "java/lang/invoke/MethodHandle" ∧ yX2_muchFor.cls ≠ "java/lang/invoke/VarHandle" ∧ (parseMethodDescriptor yX2_muchFor.desc).map (fun d => d.parameters.length) = some 1 := by decide +kernel
set_option maxRecDepth 100000 in
set_option maxHeartbeats 4000000 in
theorem k_X2_muchFor {l : Launch} {ad : Nat → Nat} {D : va_G} {cy : Nat → ClassId} {z : wStr} (hI : wI WC ad) {σ : St} {x1 : Int32}  {res : Int32} (hf : f_X2_muchFor σ x1 = some res) : wC WC ad D cy z l yX2_muchFor (Cond.code yX2_muchFor cX2_muchFor 5 (Option.some Jvm.ClassFile.FieldType.int) :: aw) (4) (164) [.ref (ad 25), .int x1] σ (wQi WC ad D cy res σ) := by
  unfold f_X2_muchFor at hf
  refine wr_start (own := RX2) hI (by decide +kernel) rfl (Nat.le_of_ble_eq_true rfl) rfl ?_
  intro p e s m below meth c ls X hw hr hl
  have hx := X.hx
  have hb := X.hb
  obtain ⟨H, eH⟩ : ∃ H : Heap, H = s.heap := ⟨_, rfl⟩
  obtain ⟨locs, el⟩ : ∃ locs : List Loc, locs = [] := ⟨_, rfl⟩
  rw [← eH, ← el] at hw ⊢
  clear eH el
  replace hl : lv_has ls 5 [(0, .ref (ad 25)), (1, .int x1)] := hl
  refine lv_iconst (v := 0) hx hb dX2_muchFor_0 (by decide) ?_
  refine lv_istore_n (lv' := [(2, .int (0 : Int32)), (0, .ref (ad 25)), (1, .int x1)]) hx hb dX2_muchFor_1 rfl hl (by decide) rfl (fun ls hl => ?_)
  refine lv_iconst (v := 0) hx hb dX2_muchFor_2 (by decide) ?_
  refine lv_istore_n (lv' := [(3, .int (0 : Int32)), (2, .int (0 : Int32)), (0, .ref (ad 25)), (1, .int x1)]) hx hb dX2_muchFor_3 rfl hl (by decide) rfl (fun ls hl => ?_)
  obtain ⟨st4_1, est4_1, hf⟩ := wlet_some hf
  obtain ⟨E4_1, hq4_1, hE4_1⟩ := bind_some hf
  have hx4_1 : ∀ (x2_e4_1 : Int32) (_ : x2_e4_1 = E4_1) (ls : Array Slot) (H : Heap) (locs : List Loc), lv_has ls 5 [(2, .int x2_e4_1)] → wH WC ad D cy s σ H locs → W p l e { frames := 4, cells := 0, slots := 0, locals := 164 } s m [.ref (ad 25), .int x1].toArray below meth c H locs 0 0 (MQ below (wQi WC ad D cy res σ) [.ref (ad 25), .int x1].toArray s 0 0 (wA WC ad)) (F0 m 64 ls []) := by
    intro x2_e4_1 e0 ls H locs hl hw
    subst e0
    have hf := hE4_1
    refine lv_iload_n hx hb dX2_muchFor_64 rfl (lv_at hl 0 rfl) ?_
    have er := Option.some.inj hf
    subst er
    exact wr_iret X hw hr (Or.inl rfl) dX2_muchFor_65
  have lo4_1 : ∀ (n : Nat) (x2_4_1 : Int32) (x3_4_1 : Int32) (_ : lp st4_1 n (x2_4_1, x3_4_1) = some E4_1) (ls : Array Slot) (H : Heap) (locs : List Loc), lv_has ls 5 [(0, .ref (ad 25)), (1, .int x1), (2, .int x2_4_1), (3, .int x3_4_1)] → wH WC ad D cy s σ H locs → W p l e { frames := 4, cells := 0, slots := 0, locals := 164 } s m [.ref (ad 25), .int x1].toArray below meth c H locs 0 0 (MQ below (wQi WC ad D cy res σ) [.ref (ad 25), .int x1].toArray s 0 0 (wA WC ad)) (F0 m 4 ls []) := by
    intro n
    induction n with
    | zero =>
      intro x2_4_1 x3_4_1 hf ls H locs hl hw
      exact (lp_zero hf).elim
    | succ n ih4_1 =>
      intro x2_4_1 x3_4_1 hf ls H locs hl hw
      obtain ⟨q4_1, hf, hz4_1⟩ := lp_succ hf
      rw [est4_1] at hf
      replace hf := un2_some hf
      refine lv_iload_n hx hb dX2_muchFor_4 rfl (lv_at hl 3 rfl) ?_
      refine lv_aload_n hx hb dX2_muchFor_5 rfl (lv_at hl 0 rfl) ?_
      refine gX2_5 X hw sC25 nC25 fl_X2_43 dX2_muchFor_6 ?_
      refine lv_icmp_ge (tgt := 64) hx hb dX2_muchFor_9 (by decide) (fun c2 => ?_) (fun c2 => ?_)
      · have hf := (if_pos c2).symm.trans hf
        exact hx4_1 x2_4_1 (lpK_inr (lp_leaf hf hz4_1)) ls H locs (lv_sub hl [2] rfl) hw
      · have hf := (if_neg c2).symm.trans hf
        refine lv_aload_n hx hb dX2_muchFor_12 rfl (lv_at hl 0 rfl) ?_
        refine lv_iload_n hx hb dX2_muchFor_13 rfl (lv_at hl 3 rfl) ?_
        obtain ⟨v4, hq3, hf⟩ := bind_some hf
        refine wr_cVi (r := v4) (σ' := σ) (av := [.int x3_4_1]) (rest := []) X hw hl.1 sC25 nC25 rfl (k_X2_sufferingAt hI hq3) rfl ml_X2_97 im_X2_sufferingAt se_X2_sufferingAt ini_X2 co_X2_sufferingAt hd_X2_sufferingAt ⟨Nat.le_of_ble_eq_true rfl, Nat.le_of_ble_eq_true rfl⟩ (Nat.le_of_ble_eq_true rfl) dX2_muchFor_14 rfl (fun H locs hw => ?_)
        refine lv_istore (lv' := [(4, .int v4), (0, .ref (ad 25)), (1, .int x1), (2, .int x2_4_1), (3, .int x3_4_1)]) hx hb dX2_muchFor_17 hl (by decide) rfl (fun ls hl => ?_)
        refine lv_iload_n hx hb dX2_muchFor_19 rfl (lv_at hl 2 rfl) ?_
        refine lv_iconst (v := 3) hx hb dX2_muchFor_20 (by decide) ?_
        refine lv_icmp_ne (tgt := 34) hx hb dX2_muchFor_21 (by decide) (fun c5 => ?_) (fun c5 => ?_)
        · have hf := (if_neg c5).symm.trans hf
          refine lv_iload_n hx hb dX2_muchFor_34 rfl (lv_at hl 3 rfl) ?_
          refine lv_iload_n hx hb dX2_muchFor_35 rfl (lv_at hl 2 rfl) ?_
          refine lv_iconst (v := 2) hx hb dX2_muchFor_36 (by decide) ?_
          refine lv_icmp_ne (tgt := 54) hx hb dX2_muchFor_37 (by decide) (fun c6 => ?_) (fun c6 => ?_)
          · have hf := (if_neg c6).symm.trans hf
            refine lv_iload hx hb dX2_muchFor_54 (lv_at hl 0 rfl) ?_
            refine lv_iadd hx hb dX2_muchFor_56 ?_
            obtain ⟨v7, ev7, hf⟩ := wlet_some hf
            refine wr_top ev7 ?_
            refine lv_istore_n (lv' := [(2, .int v7), (4, .int v4), (0, .ref (ad 25)), (1, .int x1), (3, .int x3_4_1)]) hx hb dX2_muchFor_57 rfl hl (by decide) rfl (fun ls hl => ?_)
            obtain ⟨v8, ev8, hf⟩ := wlet_some hf
            refine lv_iinc (v := v8) (lv' := [(3, .int v8), (2, .int v7), (4, .int v4), (0, .ref (ad 25)), (1, .int x1)]) hx hb dX2_muchFor_58 hl (k := 4) rfl (by rw [ev8]; rfl) (by decide) rfl (fun ls hl => ?_)
            refine lv_goto (tgt := 4) hx hb dX2_muchFor_61 (by decide) ?_
            exact ih4_1 v7 v8 (lp_leaf hf hz4_1) ls H locs (lv_sub hl [3, 4, 1, 0] rfl) hw
          · have hf := (if_pos c6).symm.trans hf
            refine lv_iload hx hb dX2_muchFor_40 (lv_at hl 0 rfl) ?_
            refine lv_aload_n hx hb dX2_muchFor_42 rfl (lv_at hl 1 rfl) ?_
            refine lv_iload_n hx hb dX2_muchFor_43 rfl (lv_at hl 4 rfl) ?_
            obtain ⟨v10, hq9, hf⟩ := bind_some hf
            refine wr_cVi (r := v10) (σ' := σ) (av := [.int x3_4_1]) (rest := [.int v4, .int x2_4_1]) X hw hl.1 sC25 nC25 rfl (k_X2_dueAt hI hq9) rfl ml_X2_100 im_X2_dueAt se_X2_dueAt ini_X2 co_X2_dueAt hd_X2_dueAt ⟨Nat.le_of_ble_eq_true rfl, Nat.le_of_ble_eq_true rfl⟩ (Nat.le_of_ble_eq_true rfl) dX2_muchFor_44 rfl (fun H locs hw => ?_)
            refine lv_isub hx hb dX2_muchFor_47 ?_
            refine wr_abs X hl.1 ml_X2_103 (Nat.le_of_ble_eq_true rfl) (Nat.le_of_ble_eq_true rfl) dX2_muchFor_48 ?_
            refine lv_goto (tgt := 56) hx hb dX2_muchFor_51 (by decide) ?_
            refine lv_iadd hx hb dX2_muchFor_56 ?_
            obtain ⟨v11, ev11, hf⟩ := wlet_some hf
            refine wr_top ev11 ?_
            refine lv_istore_n (lv' := [(2, .int v11), (4, .int v4), (0, .ref (ad 25)), (1, .int x1), (3, .int x3_4_1)]) hx hb dX2_muchFor_57 rfl hl (by decide) rfl (fun ls hl => ?_)
            obtain ⟨v12, ev12, hf⟩ := wlet_some hf
            refine lv_iinc (v := v12) (lv' := [(3, .int v12), (2, .int v11), (4, .int v4), (0, .ref (ad 25)), (1, .int x1)]) hx hb dX2_muchFor_58 hl (k := 4) rfl (by rw [ev12]; rfl) (by decide) rfl (fun ls hl => ?_)
            refine lv_goto (tgt := 4) hx hb dX2_muchFor_61 (by decide) ?_
            exact ih4_1 v11 v12 (lp_leaf hf hz4_1) ls H locs (lv_sub hl [3, 4, 1, 0] rfl) hw
        · have hf := (if_pos c5).symm.trans hf
          refine lv_iload_n hx hb dX2_muchFor_24 rfl (lv_at hl 3 rfl) ?_
          refine lv_iload hx hb dX2_muchFor_25 (lv_at hl 0 rfl) ?_
          refine wr_max X hl.1 ml_X2_40 (Nat.le_of_ble_eq_true rfl) (Nat.le_of_ble_eq_true rfl) dX2_muchFor_27 ?_
          obtain ⟨v13, ev13, hf⟩ := wlet_some hf
          refine wr_top ev13 ?_
          refine lv_istore_n (lv' := [(2, .int v13), (4, .int v4), (0, .ref (ad 25)), (1, .int x1), (3, .int x3_4_1)]) hx hb dX2_muchFor_30 rfl hl (by decide) rfl (fun ls hl => ?_)
          refine lv_goto (tgt := 58) hx hb dX2_muchFor_31 (by decide) ?_
          obtain ⟨v14, ev14, hf⟩ := wlet_some hf
          refine lv_iinc (v := v14) (lv' := [(3, .int v14), (2, .int v13), (4, .int v4), (0, .ref (ad 25)), (1, .int x1)]) hx hb dX2_muchFor_58 hl (k := 4) rfl (by rw [ev14]; rfl) (by decide) rfl (fun ls hl => ?_)
          refine lv_goto (tgt := 4) hx hb dX2_muchFor_61 (by decide) ?_
          exact ih4_1 v13 v14 (lp_leaf hf hz4_1) ls H locs (lv_sub hl [3, 4, 1, 0] rfl) hw
  exact lo4_1 fuel (0 : Int32) (0 : Int32) hq4_1 ls H locs (lv_sub hl [2, 3, 1, 0] rfl) hw

def f_X2_seekBest (σ : St) (x1 : Int32) : Option (St) := wlet (si σ 25 7 (0 : Int32)) fun σ1 => wlet (un3 (fun (σ9_2 : St) (x2_9_2 : Int32) (x3_9_2 : Int32) => if (5040 : Int32) ≤ x3_9_2 then (some (.inr σ9_2)) else (if x2_9_2 = 0 then (some (.inr σ9_2)) else (Option.bind (f_X2_muchFor σ9_2 x1) fun v6 => wlet (fun (s0_63_7 : Int32) => (wlet (fun (σ_125_8 : St) => (bnd2 (f_X2_stepOn σ_125_8) fun v10 σ11 => wlet (x3_9_2 + (1 : Int32)) fun v12 => some (.inl (σ11, v10, v12)) : Option ((St × Int32 × Int32) ⊕ (St)))) fun k125_8 => wlet (fun (_ : Unit) => (wlet (si σ9_2 25 6 v6) fun σ14 => wlet (si σ14 25 7 (1 : Int32)) fun σ15 => wlet (sci σ15 28 29 (Int32.toNatClampNeg (0 : Int32)) (Int32.toNatClampNeg (0 : Int32)) (Int32.toNatClampNeg (7 : Int32))) fun σ16 => k125_8 σ16 : Option ((St × Int32 × Int32) ⊕ (St)))) fun k77_13 => if (σ9_2.1 25 7) = 0 then (k77_13 ()) else (if s0_63_7 = 0 then (if v6 = (σ9_2.1 25 6) then (wlet (si σ9_2 25 7 ((σ9_2.1 25 7) + (1 : Int32))) fun σ20 => k125_8 σ20) else (k125_8 σ9_2)) else (k77_13 ())) : Option ((St × Int32 × Int32) ⊕ (St)))) fun k63_7 => if x1 = (1 : Int32) then (if v6 ≤ (σ9_2.1 25 6) then (k63_7 (0 : Int32)) else (k63_7 (1 : Int32))) else (if (σ9_2.1 25 6) ≤ v6 then (k63_7 (0 : Int32)) else (k63_7 (1 : Int32)))))) : St × Int32 × Int32 → Option ((St × Int32 × Int32) ⊕ (St))) fun st9_2 => Option.bind (lp st9_2 fuel (σ1, (1 : Int32), (0 : Int32))) ((fun (σe9_2 : St) => some σe9_2))
theorem hd_X2_seekBest : yX2_seekBest.cls = RX2 ∧ yX2_seekBest.cls ≠ "java/lang/invoke/MethodHandle" ∧ yX2_seekBest.cls ≠ "java/lang/invoke/VarHandle" ∧ (parseMethodDescriptor yX2_seekBest.desc).map (fun d => d.parameters.length) = some 1 := by decide +kernel
set_option maxRecDepth 100000 in
set_option maxHeartbeats 4000000 in
theorem k_X2_seekBest {l : Launch} {ad : Nat → Nat} {D : va_G} {cy : Nat → ClassId} {z : wStr} (hI : wI WC ad) {σ : St} {x1 : Int32}  {res : St} (hf : f_X2_seekBest σ x1 = some res) : wC WC ad D cy z l yX2_seekBest (Cond.code yX2_seekBest cX2_seekBest 6 (none) :: aw) (5) (188) [.ref (ad 25), .int x1] σ (wQv WC ad D cy res) := by
  unfold f_X2_seekBest at hf
  refine wr_start (own := RX2) hI (by decide +kernel) rfl (Nat.le_of_ble_eq_true rfl) rfl ?_
  intro p e s m below meth c ls X hw hr hl
  have hx := X.hx
  have hb := X.hb
  obtain ⟨H, eH⟩ : ∃ H : Heap, H = s.heap := ⟨_, rfl⟩
  obtain ⟨locs, el⟩ : ∃ locs : List Loc, locs = [] := ⟨_, rfl⟩
  rw [← eH, ← el] at hw ⊢
  clear eH el
  replace hl : lv_has ls 6 [(0, .ref (ad 25)), (1, .int x1)] := hl
  refine lv_aload_n hx hb dX2_seekBest_0 rfl (lv_at hl 0 rfl) ?_
  refine lv_iconst (v := 0) hx hb dX2_seekBest_1 (by decide) ?_
  obtain ⟨σ1, eσ1, hf⟩ := wlet_some hf
  refine pX2_7 X hw sC25 nC25 fl_X2_78 dX2_seekBest_2 (fun H locs hw => ?_)
  replace hw := hw.to eσ1
  refine lv_iconst (v := 1) hx hb dX2_seekBest_5 (by decide) ?_
  refine lv_istore_n (lv' := [(2, .int (1 : Int32)), (0, .ref (ad 25)), (1, .int x1)]) hx hb dX2_seekBest_6 rfl hl (by decide) rfl (fun ls hl => ?_)
  refine lv_iconst (v := 0) hx hb dX2_seekBest_7 (by decide) ?_
  refine lv_istore_n (lv' := [(3, .int (0 : Int32)), (2, .int (1 : Int32)), (0, .ref (ad 25)), (1, .int x1)]) hx hb dX2_seekBest_8 rfl hl (by decide) rfl (fun ls hl => ?_)
  obtain ⟨st9_2, est9_2, hf⟩ := wlet_some hf
  obtain ⟨E9_2, hq9_2, hE9_2⟩ := bind_some hf
  have hx9_2 : ∀ (σe9_2 : St) (_ : σe9_2 = E9_2) (ls : Array Slot) (H : Heap) (locs : List Loc), lv_has ls 6 [] → wH WC ad D cy s σe9_2 H locs → W p l e { frames := 5, cells := 0, slots := 0, locals := 188 } s m [.ref (ad 25), .int x1].toArray below meth c H locs 0 0 (MQ below (wQv WC ad D cy res) [.ref (ad 25), .int x1].toArray s 0 0 (wA WC ad)) (F0 m 136 ls []) := by
    intro σe9_2 e0 ls H locs hl hw
    subst e0
    have hf := hE9_2
    have er := Option.some.inj hf
    subst er
    exact wr_vret X hw hr dX2_seekBest_136
  have lo9_2 : ∀ (n : Nat) (σ9_2 : St) (x2_9_2 : Int32) (x3_9_2 : Int32) (_ : lp st9_2 n (σ9_2, x2_9_2, x3_9_2) = some E9_2) (ls : Array Slot) (H : Heap) (locs : List Loc), lv_has ls 6 [(0, .ref (ad 25)), (1, .int x1), (2, .int x2_9_2), (3, .int x3_9_2)] → wH WC ad D cy s σ9_2 H locs → W p l e { frames := 5, cells := 0, slots := 0, locals := 188 } s m [.ref (ad 25), .int x1].toArray below meth c H locs 0 0 (MQ below (wQv WC ad D cy res) [.ref (ad 25), .int x1].toArray s 0 0 (wA WC ad)) (F0 m 9 ls []) := by
    intro n
    induction n with
    | zero =>
      intro σ9_2 x2_9_2 x3_9_2 hf ls H locs hl hw
      exact (lp_zero hf).elim
    | succ n ih9_2 =>
      intro σ9_2 x2_9_2 x3_9_2 hf ls H locs hl hw
      obtain ⟨q9_2, hf, hz9_2⟩ := lp_succ hf
      rw [est9_2] at hf
      replace hf := un3_some hf
      refine lv_iload_n hx hb dX2_seekBest_9 rfl (lv_at hl 3 rfl) ?_
      refine lv_sipush (v := 5040) hx hb dX2_seekBest_10 (by decide) ?_
      refine lv_icmp_ge (tgt := 136) hx hb dX2_seekBest_13 (by decide) (fun c3 => ?_) (fun c3 => ?_)
      · have hf := (if_pos c3).symm.trans hf
        exact hx9_2 σ9_2 (lpK_inr (lp_leaf hf hz9_2)) ls H locs (lv_sub hl [] rfl) hw
      · have hf := (if_neg c3).symm.trans hf
        refine lv_iload_n hx hb dX2_seekBest_16 rfl (lv_at hl 2 rfl) ?_
        refine lv_if_eq (tgt := 136) hx hb dX2_seekBest_17 (by decide) (fun c4 => ?_) (fun c4 => ?_)
        · have hf := (if_pos c4).symm.trans hf
          exact hx9_2 σ9_2 (lpK_inr (lp_leaf hf hz9_2)) ls H locs (lv_sub hl [] rfl) hw
        · have hf := (if_neg c4).symm.trans hf
          refine lv_aload_n hx hb dX2_seekBest_20 rfl (lv_at hl 0 rfl) ?_
          refine lv_iload_n hx hb dX2_seekBest_21 rfl (lv_at hl 1 rfl) ?_
          obtain ⟨v6, hq5, hf⟩ := bind_some hf
          refine wr_cVi (r := v6) (σ' := σ9_2) (av := [.int x1]) (rest := []) X hw hl.1 sC25 nC25 rfl (k_X2_muchFor hI hq5) rfl ml_X2_81 im_X2_muchFor se_X2_muchFor ini_X2 co_X2_muchFor hd_X2_muchFor ⟨Nat.le_of_ble_eq_true rfl, Nat.le_of_ble_eq_true rfl⟩ (Nat.le_of_ble_eq_true rfl) dX2_seekBest_22 rfl (fun H locs hw => ?_)
          refine lv_istore (lv' := [(4, .int v6), (0, .ref (ad 25)), (1, .int x1), (2, .int x2_9_2), (3, .int x3_9_2)]) hx hb dX2_seekBest_25 hl (by decide) rfl (fun ls hl => ?_)
          refine lv_iload_n hx hb dX2_seekBest_27 rfl (lv_at hl 2 rfl) ?_
          refine lv_iconst (v := 1) hx hb dX2_seekBest_28 (by decide) ?_
          obtain ⟨k63_7, ek63_7, hf0⟩ := wlet_some hf
          have j63_7 : ∀ (s0_63_7 : Int32) (_ : k63_7 s0_63_7 = some q9_2) (ls : Array Slot) (H : Heap) (locs : List Loc), lv_has ls 6 [(0, .ref (ad 25)), (1, .int x1), (3, .int x3_9_2), (4, .int v6)] → wH WC ad D cy s σ9_2 H locs → W p l e { frames := 5, cells := 0, slots := 0, locals := 188 } s m [.ref (ad 25), .int x1].toArray below meth c H locs 0 0 (MQ below (wQv WC ad D cy res) [.ref (ad 25), .int x1].toArray s 0 0 (wA WC ad)) (F0 m 63 ls [.int s0_63_7]) := by
            intro s0_63_7 hf ls H locs hl hw
            rw [ek63_7] at hf
            refine lv_istore (lv' := [(5, .int s0_63_7), (0, .ref (ad 25)), (1, .int x1), (3, .int x3_9_2), (4, .int v6)]) hx hb dX2_seekBest_63 hl (by decide) rfl (fun ls hl => ?_)
            refine lv_aload_n hx hb dX2_seekBest_65 rfl (lv_at hl 1 rfl) ?_
            refine gX2_7 X hw sC25 nC25 fl_X2_78 dX2_seekBest_66 ?_
            obtain ⟨k125_8, ek125_8, hf0⟩ := wlet_some hf
            have j125_8 : ∀ (σ_125_8 : St) (_ : k125_8 σ_125_8 = some q9_2) (ls : Array Slot) (H : Heap) (locs : List Loc), lv_has ls 6 [(0, .ref (ad 25)), (1, .int x1), (3, .int x3_9_2)] → wH WC ad D cy s σ_125_8 H locs → W p l e { frames := 5, cells := 0, slots := 0, locals := 188 } s m [.ref (ad 25), .int x1].toArray below meth c H locs 0 0 (MQ below (wQv WC ad D cy res) [.ref (ad 25), .int x1].toArray s 0 0 (wA WC ad)) (F0 m 125 ls []) := by
              intro σ_125_8 hf ls H locs hl hw
              rw [ek125_8] at hf
              refine lv_aload_n hx hb dX2_seekBest_125 rfl (lv_at hl 0 rfl) ?_
              obtain ⟨v10, σ11, hq9, hf⟩ := bnd2_some hf
              refine wr_cVi (r := v10) (σ' := σ11) (av := []) (rest := []) X hw hl.1 sC25 nC25 rfl (k_X2_stepOn hI hq9) rfl ml_X2_93 im_X2_stepOn se_X2_stepOn ini_X2 co_X2_stepOn hd_X2_stepOn ⟨Nat.le_of_ble_eq_true rfl, Nat.le_of_ble_eq_true rfl⟩ (Nat.le_of_ble_eq_true rfl) dX2_seekBest_126 rfl (fun H locs hw => ?_)
              refine lv_istore_n (lv' := [(2, .int v10), (0, .ref (ad 25)), (1, .int x1), (3, .int x3_9_2)]) hx hb dX2_seekBest_129 rfl hl (by decide) rfl (fun ls hl => ?_)
              obtain ⟨v12, ev12, hf⟩ := wlet_some hf
              refine lv_iinc (v := v12) (lv' := [(3, .int v12), (2, .int v10), (0, .ref (ad 25)), (1, .int x1)]) hx hb dX2_seekBest_130 hl (k := 3) rfl (by rw [ev12]; rfl) (by decide) rfl (fun ls hl => ?_)
              refine lv_goto (tgt := 9) hx hb dX2_seekBest_133 (by decide) ?_
              exact ih9_2 σ11 v10 v12 (lp_leaf hf hz9_2) ls H locs (lv_sub hl [2, 3, 1, 0] rfl) hw
            replace hf := hf0
            obtain ⟨k77_13, ek77_13, hf0⟩ := wlet_some hf
            have j77_13 : ∀ (_ : k77_13 () = some q9_2) (ls : Array Slot) (H : Heap) (locs : List Loc), lv_has ls 6 [(0, .ref (ad 25)), (1, .int x1), (3, .int x3_9_2), (4, .int v6)] → wH WC ad D cy s σ9_2 H locs → W p l e { frames := 5, cells := 0, slots := 0, locals := 188 } s m [.ref (ad 25), .int x1].toArray below meth c H locs 0 0 (MQ below (wQv WC ad D cy res) [.ref (ad 25), .int x1].toArray s 0 0 (wA WC ad)) (F0 m 77 ls []) := by
              intro  hf ls H locs hl hw
              rw [ek77_13] at hf
              refine lv_aload_n hx hb dX2_seekBest_77 rfl (lv_at hl 0 rfl) ?_
              refine lv_iload hx hb dX2_seekBest_78 (lv_at hl 3 rfl) ?_
              obtain ⟨σ14, eσ14, hf⟩ := wlet_some hf
              refine pX2_6 X hw sC25 nC25 fl_X2_84 dX2_seekBest_80 (fun H locs hw => ?_)
              replace hw := hw.to eσ14
              refine lv_aload_n hx hb dX2_seekBest_83 rfl (lv_at hl 0 rfl) ?_
              refine lv_iconst (v := 1) hx hb dX2_seekBest_84 (by decide) ?_
              obtain ⟨σ15, eσ15, hf⟩ := wlet_some hf
              refine pX2_7 X hw sC25 nC25 fl_X2_78 dX2_seekBest_85 (fun H locs hw => ?_)
              replace hw := hw.to eσ15
              refine lv_aload_n hx hb dX2_seekBest_88 rfl (lv_at hl 0 rfl) ?_
              refine gX2_3 (b := 28) X hw sC25 nC25 rfl fl_X2_18 dX2_seekBest_89 ?_
              refine lv_iconst (v := 0) hx hb dX2_seekBest_92 (by decide) ?_
              refine lv_aload_n hx hb dX2_seekBest_93 rfl (lv_at hl 0 rfl) ?_
              refine gX2_4 (b := 29) X hw sC25 nC25 rfl fl_X2_21 dX2_seekBest_94 ?_
              refine lv_iconst (v := 0) hx hb dX2_seekBest_97 (by decide) ?_
              refine lv_bipush (v := 7) hx hb dX2_seekBest_98 (by decide) ?_
              obtain ⟨σ16, eσ16, hf⟩ := wlet_some hf
              refine wr_copyi X hw hl.1 sC28 sC29 nC28 nC29 ml_X2_87 (by decide) (by decide) (by decide) (by decide) (by decide) (Nat.le_of_ble_eq_true rfl) (Nat.le_of_ble_eq_true rfl) dX2_seekBest_100 (fun H locs hw => ?_)
              replace hw := hw.to eσ16
              refine lv_goto (tgt := 125) hx hb dX2_seekBest_103 (by decide) ?_
              exact j125_8 σ16 hf ls H locs (lv_sub hl [0, 1, 2] rfl) hw
            replace hf := hf0
            refine lv_if_eq (tgt := 77) hx hb dX2_seekBest_69 (by decide) (fun c17 => ?_) (fun c17 => ?_)
            · have hf := (if_pos c17).symm.trans hf
              exact j77_13 hf ls H locs (lv_sub hl [1, 2, 3, 4] rfl) hw
            · have hf := (if_neg c17).symm.trans hf
              refine lv_iload hx hb dX2_seekBest_72 (lv_at hl 0 rfl) ?_
              refine lv_if_eq (tgt := 106) hx hb dX2_seekBest_74 (by decide) (fun c18 => ?_) (fun c18 => ?_)
              · have hf := (if_pos c18).symm.trans hf
                refine lv_iload hx hb dX2_seekBest_106 (lv_at hl 4 rfl) ?_
                refine lv_aload_n hx hb dX2_seekBest_108 rfl (lv_at hl 1 rfl) ?_
                refine gX2_6 X hw sC25 nC25 fl_X2_84 dX2_seekBest_109 ?_
                refine lv_icmp_ne (tgt := 125) hx hb dX2_seekBest_112 (by decide) (fun c19 => ?_) (fun c19 => ?_)
                · have hf := (if_neg c19).symm.trans hf
                  exact j125_8 σ9_2 hf ls H locs (lv_sub hl [1, 2, 3] rfl) hw
                · have hf := (if_pos c19).symm.trans hf
                  refine lv_aload_n hx hb dX2_seekBest_115 rfl (lv_at hl 1 rfl) ?_
                  refine lv_dup hx hb dX2_seekBest_116 rfl ?_
                  refine gX2_7 X hw sC25 nC25 fl_X2_78 dX2_seekBest_117 ?_
                  refine lv_iconst (v := 1) hx hb dX2_seekBest_120 (by decide) ?_
                  refine lv_iadd hx hb dX2_seekBest_121 ?_
                  obtain ⟨σ20, eσ20, hf⟩ := wlet_some hf
                  refine pX2_7 X hw sC25 nC25 fl_X2_78 dX2_seekBest_122 (fun H locs hw => ?_)
                  replace hw := hw.to eσ20
                  exact j125_8 σ20 hf ls H locs (lv_sub hl [1, 2, 3] rfl) hw
              · have hf := (if_neg c18).symm.trans hf
                exact j77_13 hf ls H locs (lv_sub hl [1, 2, 3, 4] rfl) hw
          replace hf := hf0
          refine lv_icmp_ne (tgt := 49) hx hb dX2_seekBest_29 (by decide) (fun c21 => ?_) (fun c21 => ?_)
          · have hf := (if_neg c21).symm.trans hf
            refine lv_iload hx hb dX2_seekBest_49 (lv_at hl 0 rfl) ?_
            refine lv_aload_n hx hb dX2_seekBest_51 rfl (lv_at hl 1 rfl) ?_
            refine gX2_6 X hw sC25 nC25 fl_X2_84 dX2_seekBest_52 ?_
            refine lv_icmp_ge (tgt := 62) hx hb dX2_seekBest_55 (by decide) (fun c22 => ?_) (fun c22 => ?_)
            · have hf := (if_pos c22).symm.trans hf
              refine lv_iconst (v := 0) hx hb dX2_seekBest_62 (by decide) ?_
              exact j63_7 (0 : Int32) hf ls H locs (lv_sub hl [1, 2, 4, 0] rfl) hw
            · have hf := (if_neg c22).symm.trans hf
              refine lv_iconst (v := 1) hx hb dX2_seekBest_58 (by decide) ?_
              refine lv_goto (tgt := 63) hx hb dX2_seekBest_59 (by decide) ?_
              exact j63_7 (1 : Int32) hf ls H locs (lv_sub hl [1, 2, 4, 0] rfl) hw
          · have hf := (if_pos c21).symm.trans hf
            refine lv_iload hx hb dX2_seekBest_32 (lv_at hl 0 rfl) ?_
            refine lv_aload_n hx hb dX2_seekBest_34 rfl (lv_at hl 1 rfl) ?_
            refine gX2_6 X hw sC25 nC25 fl_X2_84 dX2_seekBest_35 ?_
            refine lv_icmp_le (tgt := 45) hx hb dX2_seekBest_38 (by decide) (fun c23 => ?_) (fun c23 => ?_)
            · have hf := (if_pos c23).symm.trans hf
              refine lv_iconst (v := 0) hx hb dX2_seekBest_45 (by decide) ?_
              refine lv_goto (tgt := 63) hx hb dX2_seekBest_46 (by decide) ?_
              exact j63_7 (0 : Int32) hf ls H locs (lv_sub hl [1, 2, 4, 0] rfl) hw
            · have hf := (if_neg c23).symm.trans hf
              refine lv_iconst (v := 1) hx hb dX2_seekBest_41 (by decide) ?_
              refine lv_goto (tgt := 63) hx hb dX2_seekBest_42 (by decide) ?_
              exact j63_7 (1 : Int32) hf ls H locs (lv_sub hl [1, 2, 4, 0] rfl) hw
  exact lo9_2 fuel σ1 (1 : Int32) (0 : Int32) hq9_2 ls H locs (lv_sub hl [2, 3, 1, 0] rfl) hw

def f_X2_isTrade (σ : St) (x1 : Int32) (x2 : Int32) : Option (Int32 × St) := Option.bind (f_X2_sufferingAt σ x1) fun v2 => Option.bind (f_X2_sufferingAt σ x2) fun v4 => Option.bind (f_X2_exchange σ x1 x2) fun σ6 => Option.bind (f_X2_sufferingAt σ6 x2) fun v8 => wlet (fun (s0_43_9 : Int32) => (Option.bind (f_X2_exchange σ6 x1 x2) fun σ11 => if bz s0_43_9 = true then some (s0_43_9, σ11) else none : Option (Int32 × St))) fun k43_9 => wlet (fun (_ : Unit) => (k43_9 (0 : Int32) : Option (Int32 × St))) fun k42_12 => if v2 ≤ v8 then (k42_12 ()) else (Option.bind (f_X2_sufferingAt σ6 x1) fun v15 => if v4 ≤ v15 then (k42_12 ()) else (k43_9 (1 : Int32)))
theorem hd_X2_isTrade : yX2_isTrade.cls = RX2 ∧ yX2_isTrade.cls ≠ "java/lang/invoke/MethodHandle" ∧ yX2_isTrade.cls ≠ "java/lang/invoke/VarHandle" ∧ (parseMethodDescriptor yX2_isTrade.desc).map (fun d => d.parameters.length) = some 2 := by decide +kernel
set_option maxRecDepth 100000 in
set_option maxHeartbeats 4000000 in
theorem k_X2_isTrade {l : Launch} {ad : Nat → Nat} {D : va_G} {cy : Nat → ClassId} {z : wStr} (hI : wI WC ad) {σ : St} {x1 : Int32} {x2 : Int32}  {res : Int32 × St} (hf : f_X2_isTrade σ x1 x2 = some res) : wC WC ad D cy z l yX2_isTrade (Cond.code yX2_isTrade cX2_isTrade 6 (Option.some Jvm.ClassFile.FieldType.boolean) :: aw) (4) (164) [.ref (ad 25), .int x1, .int x2] σ (wQi WC ad D cy res.1 res.2) := by
  unfold f_X2_isTrade at hf
  refine wr_start (own := RX2) hI (by decide +kernel) rfl (Nat.le_of_ble_eq_true rfl) rfl ?_
  intro p e s m below meth c ls X hw hr hl
  have hx := X.hx
  have hb := X.hb
  obtain ⟨H, eH⟩ : ∃ H : Heap, H = s.heap := ⟨_, rfl⟩
  obtain ⟨locs, el⟩ : ∃ locs : List Loc, locs = [] := ⟨_, rfl⟩
  rw [← eH, ← el] at hw ⊢
  clear eH el
  replace hl : lv_has ls 6 [(0, .ref (ad 25)), (1, .int x1), (2, .int x2)] := hl
  refine lv_aload_n hx hb dX2_isTrade_0 rfl (lv_at hl 0 rfl) ?_
  refine lv_iload_n hx hb dX2_isTrade_1 rfl (lv_at hl 1 rfl) ?_
  obtain ⟨v2, hq1, hf⟩ := bind_some hf
  refine wr_cVi (r := v2) (σ' := σ) (av := [.int x1]) (rest := []) X hw hl.1 sC25 nC25 rfl (k_X2_sufferingAt hI hq1) rfl ml_X2_97 im_X2_sufferingAt se_X2_sufferingAt ini_X2 co_X2_sufferingAt hd_X2_sufferingAt ⟨Nat.le_of_ble_eq_true rfl, Nat.le_of_ble_eq_true rfl⟩ (Nat.le_of_ble_eq_true rfl) dX2_isTrade_2 rfl (fun H locs hw => ?_)
  refine lv_istore_n (lv' := [(3, .int v2), (0, .ref (ad 25)), (1, .int x1), (2, .int x2)]) hx hb dX2_isTrade_5 rfl hl (by decide) rfl (fun ls hl => ?_)
  refine lv_aload_n hx hb dX2_isTrade_6 rfl (lv_at hl 1 rfl) ?_
  refine lv_iload_n hx hb dX2_isTrade_7 rfl (lv_at hl 3 rfl) ?_
  obtain ⟨v4, hq3, hf⟩ := bind_some hf
  refine wr_cVi (r := v4) (σ' := σ) (av := [.int x2]) (rest := []) X hw hl.1 sC25 nC25 rfl (k_X2_sufferingAt hI hq3) rfl ml_X2_97 im_X2_sufferingAt se_X2_sufferingAt ini_X2 co_X2_sufferingAt hd_X2_sufferingAt ⟨Nat.le_of_ble_eq_true rfl, Nat.le_of_ble_eq_true rfl⟩ (Nat.le_of_ble_eq_true rfl) dX2_isTrade_8 rfl (fun H locs hw => ?_)
  refine lv_istore (lv' := [(4, .int v4), (3, .int v2), (0, .ref (ad 25)), (1, .int x1), (2, .int x2)]) hx hb dX2_isTrade_11 hl (by decide) rfl (fun ls hl => ?_)
  refine lv_aload_n hx hb dX2_isTrade_13 rfl (lv_at hl 2 rfl) ?_
  refine lv_iload_n hx hb dX2_isTrade_14 rfl (lv_at hl 3 rfl) ?_
  refine lv_iload_n hx hb dX2_isTrade_15 rfl (lv_at hl 4 rfl) ?_
  obtain ⟨σ6, hq5, hf⟩ := bind_some hf
  refine wr_cVv (σ' := σ6) (av := [.int x1, .int x2]) (rest := []) X hw hl.1 sC25 nC25 rfl (k_X2_exchange hI hq5) rfl ml_X2_74 im_X2_exchange se_X2_exchange ini_X2 co_X2_exchange hd_X2_exchange ⟨Nat.le_of_ble_eq_true rfl, Nat.le_of_ble_eq_true rfl⟩ (Nat.le_of_ble_eq_true rfl) dX2_isTrade_16 rfl (fun H locs hw => ?_)
  refine lv_aload_n hx hb dX2_isTrade_19 rfl (lv_at hl 2 rfl) ?_
  refine lv_iload_n hx hb dX2_isTrade_20 rfl (lv_at hl 4 rfl) ?_
  obtain ⟨v8, hq7, hf⟩ := bind_some hf
  refine wr_cVi (r := v8) (σ' := σ6) (av := [.int x2]) (rest := []) X hw hl.1 sC25 nC25 rfl (k_X2_sufferingAt hI hq7) rfl ml_X2_97 im_X2_sufferingAt se_X2_sufferingAt ini_X2 co_X2_sufferingAt hd_X2_sufferingAt ⟨Nat.le_of_ble_eq_true rfl, Nat.le_of_ble_eq_true rfl⟩ (Nat.le_of_ble_eq_true rfl) dX2_isTrade_21 rfl (fun H locs hw => ?_)
  refine lv_iload_n hx hb dX2_isTrade_24 rfl (lv_at hl 1 rfl) ?_
  obtain ⟨k43_9, ek43_9, hf0⟩ := wlet_some hf
  have j43_9 : ∀ (s0_43_9 : Int32) (_ : k43_9 s0_43_9 = some res) (ls : Array Slot) (H : Heap) (locs : List Loc), lv_has ls 6 [(0, .ref (ad 25)), (1, .int x1), (2, .int x2)] → wH WC ad D cy s σ6 H locs → W p l e { frames := 4, cells := 0, slots := 0, locals := 164 } s m [.ref (ad 25), .int x1, .int x2].toArray below meth c H locs 0 0 (MQ below (wQi WC ad D cy res.1 res.2) [.ref (ad 25), .int x1, .int x2].toArray s 0 0 (wA WC ad)) (F0 m 43 ls [.int s0_43_9]) := by
    intro s0_43_9 hf ls H locs hl hw
    rw [ek43_9] at hf
    refine lv_istore (lv' := [(5, .int s0_43_9), (0, .ref (ad 25)), (1, .int x1), (2, .int x2)]) hx hb dX2_isTrade_43 hl (by decide) rfl (fun ls hl => ?_)
    refine lv_aload_n hx hb dX2_isTrade_45 rfl (lv_at hl 1 rfl) ?_
    refine lv_iload_n hx hb dX2_isTrade_46 rfl (lv_at hl 2 rfl) ?_
    refine lv_iload_n hx hb dX2_isTrade_47 rfl (lv_at hl 3 rfl) ?_
    obtain ⟨σ11, hq10, hf⟩ := bind_some hf
    refine wr_cVv (σ' := σ11) (av := [.int x1, .int x2]) (rest := []) X hw hl.1 sC25 nC25 rfl (k_X2_exchange hI hq10) rfl ml_X2_74 im_X2_exchange se_X2_exchange ini_X2 co_X2_exchange hd_X2_exchange ⟨Nat.le_of_ble_eq_true rfl, Nat.le_of_ble_eq_true rfl⟩ (Nat.le_of_ble_eq_true rfl) dX2_isTrade_48 rfl (fun H locs hw => ?_)
    refine lv_iload hx hb dX2_isTrade_51 (lv_at hl 0 rfl) ?_
    obtain ⟨hz, hf⟩ := if_some hf
    have er := Option.some.inj hf
    subst er
    exact wr_iret X hw hr (Or.inr ⟨rfl, hz⟩) dX2_isTrade_53
  replace hf := hf0
  obtain ⟨k42_12, ek42_12, hf0⟩ := wlet_some hf
  have j42_12 : ∀ (_ : k42_12 () = some res) (ls : Array Slot) (H : Heap) (locs : List Loc), lv_has ls 6 [(0, .ref (ad 25)), (1, .int x1), (2, .int x2)] → wH WC ad D cy s σ6 H locs → W p l e { frames := 4, cells := 0, slots := 0, locals := 164 } s m [.ref (ad 25), .int x1, .int x2].toArray below meth c H locs 0 0 (MQ below (wQi WC ad D cy res.1 res.2) [.ref (ad 25), .int x1, .int x2].toArray s 0 0 (wA WC ad)) (F0 m 42 ls []) := by
    intro  hf ls H locs hl hw
    rw [ek42_12] at hf
    refine lv_iconst (v := 0) hx hb dX2_isTrade_42 (by decide) ?_
    exact j43_9 (0 : Int32) hf ls H locs (lv_sub hl [0, 1, 2] rfl) hw
  replace hf := hf0
  refine lv_icmp_ge (tgt := 42) hx hb dX2_isTrade_25 (by decide) (fun c13 => ?_) (fun c13 => ?_)
  · have hf := (if_pos c13).symm.trans hf
    exact j42_12 hf ls H locs (lv_sub hl [2, 3, 4] rfl) hw
  · have hf := (if_neg c13).symm.trans hf
    refine lv_aload_n hx hb dX2_isTrade_28 rfl (lv_at hl 2 rfl) ?_
    refine lv_iload_n hx hb dX2_isTrade_29 rfl (lv_at hl 3 rfl) ?_
    obtain ⟨v15, hq14, hf⟩ := bind_some hf
    refine wr_cVi (r := v15) (σ' := σ6) (av := [.int x1]) (rest := []) X hw hl.1 sC25 nC25 rfl (k_X2_sufferingAt hI hq14) rfl ml_X2_97 im_X2_sufferingAt se_X2_sufferingAt ini_X2 co_X2_sufferingAt hd_X2_sufferingAt ⟨Nat.le_of_ble_eq_true rfl, Nat.le_of_ble_eq_true rfl⟩ (Nat.le_of_ble_eq_true rfl) dX2_isTrade_30 rfl (fun H locs hw => ?_)
    refine lv_iload hx hb dX2_isTrade_33 (lv_at hl 0 rfl) ?_
    refine lv_icmp_ge (tgt := 42) hx hb dX2_isTrade_35 (by decide) (fun c16 => ?_) (fun c16 => ?_)
    · have hf := (if_pos c16).symm.trans hf
      exact j42_12 hf ls H locs (lv_sub hl [2, 3, 4] rfl) hw
    · have hf := (if_neg c16).symm.trans hf
      refine lv_iconst (v := 1) hx hb dX2_isTrade_38 (by decide) ?_
      refine lv_goto (tgt := 43) hx hb dX2_isTrade_39 (by decide) ?_
      exact j43_9 (1 : Int32) hf ls H locs (lv_sub hl [2, 3, 4] rfl) hw

def f_X2_isResting (σ : St)  : Option (Int32 × St) := wlet (un2 (fun (σ2_1 : St) (x1_2_1 : Int32) => if (σ2_1.1 25 5) ≤ x1_2_1 then (some (.inr (.inl σ2_1))) else (wlet (x1_2_1 + (1 : Int32)) fun v3 => wlet (un2 (fun (σ14_4 : St) (x2_14_4 : Int32) => if (σ14_4.1 25 5) ≤ x2_14_4 then (some (.inr (.inl σ14_4))) else (bnd2 (f_X2_isTrade σ14_4 x1_2_1 x2_14_4) fun v8 σ9 => if v8 = 0 then (wlet (x2_14_4 + (1 : Int32)) fun v11 => some (.inl (σ9, v11))) else (some (.inr (.inr ((0 : Int32), σ9)))))) : St × Int32 → Option ((St × Int32) ⊕ ((St) ⊕ (Int32 × St)))) fun st14_4 => Option.bind (lp st14_4 fuel (σ2_1, v3)) (sumk (fun (σe14_4 : St) => wlet (x1_2_1 + (1 : Int32)) fun v5 => some (.inl (σe14_4, v5))) (fun m => some (.inr (.inr m)))))) : St × Int32 → Option ((St × Int32) ⊕ ((St) ⊕ (Int32 × St)))) fun st2_1 => Option.bind (lp st2_1 fuel (σ, (0 : Int32))) (sumk (fun (σe2_1 : St) => some ((1 : Int32), σe2_1)) (fun m => some m))
theorem hd_X2_isResting : yX2_isResting.cls = RX2 ∧ yX2_isResting.cls ≠ "java/lang/invoke/MethodHandle" ∧ yX2_isResting.cls ≠ "java/lang/invoke/VarHandle" ∧ (parseMethodDescriptor yX2_isResting.desc).map (fun d => d.parameters.length) = some 0 := by decide +kernel
set_option maxRecDepth 100000 in
set_option maxHeartbeats 4000000 in
theorem k_X2_isResting {l : Launch} {ad : Nat → Nat} {D : va_G} {cy : Nat → ClassId} {z : wStr} (hI : wI WC ad) {σ : St}   {res : Int32 × St} (hf : f_X2_isResting σ  = some res) : wC WC ad D cy z l yX2_isResting (Cond.code yX2_isResting cX2_isResting 3 (Option.some Jvm.ClassFile.FieldType.boolean) :: aw) (5) (189) [.ref (ad 25)] σ (wQi WC ad D cy res.1 res.2) := by
  unfold f_X2_isResting at hf
  refine wr_start (own := RX2) hI (by decide +kernel) rfl (Nat.le_of_ble_eq_true rfl) rfl ?_
  intro p e s m below meth c ls X hw hr hl
  have hx := X.hx
  have hb := X.hb
  obtain ⟨H, eH⟩ : ∃ H : Heap, H = s.heap := ⟨_, rfl⟩
  obtain ⟨locs, el⟩ : ∃ locs : List Loc, locs = [] := ⟨_, rfl⟩
  rw [← eH, ← el] at hw ⊢
  clear eH el
  replace hl : lv_has ls 3 [(0, .ref (ad 25))] := hl
  refine lv_iconst (v := 0) hx hb dX2_isResting_0 (by decide) ?_
  refine lv_istore_n (lv' := [(1, .int (0 : Int32)), (0, .ref (ad 25))]) hx hb dX2_isResting_1 rfl hl (by decide) rfl (fun ls hl => ?_)
  obtain ⟨st2_1, est2_1, hf⟩ := wlet_some hf
  obtain ⟨E2_1, hq2_1, hE2_1⟩ := bind_some hf
  have hx2_1 : ∀ (σe2_1 : St) (_ : Sum.inl σe2_1 = E2_1) (ls : Array Slot) (H : Heap) (locs : List Loc), lv_has ls 3 [] → wH WC ad D cy s σe2_1 H locs → W p l e { frames := 5, cells := 0, slots := 0, locals := 189 } s m [.ref (ad 25)].toArray below meth c H locs 0 0 (MQ below (wQi WC ad D cy res.1 res.2) [.ref (ad 25)].toArray s 0 0 (wA WC ad)) (F0 m 45 ls []) := by
    intro σe2_1 e0 ls H locs hl hw
    have hf := sumk_l hE2_1 e0
    refine lv_iconst (v := 1) hx hb dX2_isResting_45 (by decide) ?_
    have er := Option.some.inj hf
    subst er
    exact wr_iret X hw hr (Or.inr ⟨rfl, (show bz (1 : Int32) = true from rfl)⟩) dX2_isResting_46
  have lo2_1 : ∀ (n : Nat) (σ2_1 : St) (x1_2_1 : Int32) (_ : lp st2_1 n (σ2_1, x1_2_1) = some E2_1) (ls : Array Slot) (H : Heap) (locs : List Loc), lv_has ls 3 [(0, .ref (ad 25)), (1, .int x1_2_1)] → wH WC ad D cy s σ2_1 H locs → W p l e { frames := 5, cells := 0, slots := 0, locals := 189 } s m [.ref (ad 25)].toArray below meth c H locs 0 0 (MQ below (wQi WC ad D cy res.1 res.2) [.ref (ad 25)].toArray s 0 0 (wA WC ad)) (F0 m 2 ls []) := by
    intro n
    induction n with
    | zero =>
      intro σ2_1 x1_2_1 hf ls H locs hl hw
      exact (lp_zero hf).elim
    | succ n ih2_1 =>
      intro σ2_1 x1_2_1 hf ls H locs hl hw
      obtain ⟨q2_1, hf, hz2_1⟩ := lp_succ hf
      rw [est2_1] at hf
      replace hf := un2_some hf
      refine lv_iload_n hx hb dX2_isResting_2 rfl (lv_at hl 1 rfl) ?_
      refine lv_aload_n hx hb dX2_isResting_3 rfl (lv_at hl 0 rfl) ?_
      refine gX2_5 X hw sC25 nC25 fl_X2_43 dX2_isResting_4 ?_
      refine lv_icmp_ge (tgt := 45) hx hb dX2_isResting_7 (by decide) (fun c2 => ?_) (fun c2 => ?_)
      · have hf := (if_pos c2).symm.trans hf
        exact hx2_1 σ2_1 (lpK_inr (lp_leaf hf hz2_1)) ls H locs (lv_sub hl [] rfl) hw
      · have hf := (if_neg c2).symm.trans hf
        refine lv_iload_n hx hb dX2_isResting_10 rfl (lv_at hl 1 rfl) ?_
        refine lv_iconst (v := 1) hx hb dX2_isResting_11 (by decide) ?_
        refine lv_iadd hx hb dX2_isResting_12 ?_
        obtain ⟨v3, ev3, hf⟩ := wlet_some hf
        refine wr_top ev3 ?_
        refine lv_istore_n (lv' := [(2, .int v3), (0, .ref (ad 25)), (1, .int x1_2_1)]) hx hb dX2_isResting_13 rfl hl (by decide) rfl (fun ls hl => ?_)
        obtain ⟨st14_4, est14_4, hf⟩ := wlet_some hf
        obtain ⟨E14_4, hq14_4, hE14_4⟩ := bind_some hf
        have hx14_4 : ∀ (σe14_4 : St) (_ : Sum.inl σe14_4 = E14_4) (ls : Array Slot) (H : Heap) (locs : List Loc), lv_has ls 3 [(0, .ref (ad 25)), (1, .int x1_2_1)] → wH WC ad D cy s σe14_4 H locs → W p l e { frames := 5, cells := 0, slots := 0, locals := 189 } s m [.ref (ad 25)].toArray below meth c H locs 0 0 (MQ below (wQi WC ad D cy res.1 res.2) [.ref (ad 25)].toArray s 0 0 (wA WC ad)) (F0 m 39 ls []) := by
          intro σe14_4 e0 ls H locs hl hw
          have hf := sumk_l hE14_4 e0
          obtain ⟨v5, ev5, hf⟩ := wlet_some hf
          refine lv_iinc (v := v5) (lv' := [(1, .int v5), (0, .ref (ad 25))]) hx hb dX2_isResting_39 hl (k := 1) rfl (by rw [ev5]; rfl) (by decide) rfl (fun ls hl => ?_)
          refine lv_goto (tgt := 2) hx hb dX2_isResting_42 (by decide) ?_
          exact ih2_1 σe14_4 v5 (lp_leaf hf hz2_1) ls H locs (lv_sub hl [1, 0] rfl) hw
        have lo14_4 : ∀ (n : Nat) (σ14_4 : St) (x2_14_4 : Int32) (_ : lp st14_4 n (σ14_4, x2_14_4) = some E14_4) (ls : Array Slot) (H : Heap) (locs : List Loc), lv_has ls 3 [(0, .ref (ad 25)), (1, .int x1_2_1), (2, .int x2_14_4)] → wH WC ad D cy s σ14_4 H locs → W p l e { frames := 5, cells := 0, slots := 0, locals := 189 } s m [.ref (ad 25)].toArray below meth c H locs 0 0 (MQ below (wQi WC ad D cy res.1 res.2) [.ref (ad 25)].toArray s 0 0 (wA WC ad)) (F0 m 14 ls []) := by
          intro n
          induction n with
          | zero =>
            intro σ14_4 x2_14_4 hf ls H locs hl hw
            exact (lp_zero hf).elim
          | succ n ih14_4 =>
            intro σ14_4 x2_14_4 hf ls H locs hl hw
            obtain ⟨q14_4, hf, hz14_4⟩ := lp_succ hf
            rw [est14_4] at hf
            replace hf := un2_some hf
            refine lv_iload_n hx hb dX2_isResting_14 rfl (lv_at hl 2 rfl) ?_
            refine lv_aload_n hx hb dX2_isResting_15 rfl (lv_at hl 0 rfl) ?_
            refine gX2_5 X hw sC25 nC25 fl_X2_43 dX2_isResting_16 ?_
            refine lv_icmp_ge (tgt := 39) hx hb dX2_isResting_19 (by decide) (fun c6 => ?_) (fun c6 => ?_)
            · have hf := (if_pos c6).symm.trans hf
              exact hx14_4 σ14_4 (lpK_inr (lp_leaf hf hz14_4)) ls H locs (lv_sub hl [0, 1] rfl) hw
            · have hf := (if_neg c6).symm.trans hf
              refine lv_aload_n hx hb dX2_isResting_22 rfl (lv_at hl 0 rfl) ?_
              refine lv_iload_n hx hb dX2_isResting_23 rfl (lv_at hl 1 rfl) ?_
              refine lv_iload_n hx hb dX2_isResting_24 rfl (lv_at hl 2 rfl) ?_
              obtain ⟨v8, σ9, hq7, hf⟩ := bnd2_some hf
              refine wr_cVi (r := v8) (σ' := σ9) (av := [.int x1_2_1, .int x2_14_4]) (rest := []) X hw hl.1 sC25 nC25 rfl (k_X2_isTrade hI hq7) rfl ml_X2_109 im_X2_isTrade se_X2_isTrade ini_X2 co_X2_isTrade hd_X2_isTrade ⟨Nat.le_of_ble_eq_true rfl, Nat.le_of_ble_eq_true rfl⟩ (Nat.le_of_ble_eq_true rfl) dX2_isResting_25 rfl (fun H locs hw => ?_)
              refine lv_if_eq (tgt := 33) hx hb dX2_isResting_28 (by decide) (fun c10 => ?_) (fun c10 => ?_)
              · have hf := (if_pos c10).symm.trans hf
                obtain ⟨v11, ev11, hf⟩ := wlet_some hf
                refine lv_iinc (v := v11) (lv' := [(2, .int v11), (0, .ref (ad 25)), (1, .int x1_2_1)]) hx hb dX2_isResting_33 hl (k := 2) rfl (by rw [ev11]; rfl) (by decide) rfl (fun ls hl => ?_)
                refine lv_goto (tgt := 14) hx hb dX2_isResting_36 (by decide) ?_
                exact ih14_4 σ9 v11 (lp_leaf hf hz14_4) ls H locs (lv_sub hl [1, 2, 0] rfl) hw
              · have hf := (if_neg c10).symm.trans hf
                refine lv_iconst (v := 0) hx hb dX2_isResting_31 (by decide) ?_
                have e14_4 := lpK_inr (lp_leaf hf hz14_4)
                have hf := sumk_r hE14_4 e14_4
                have e2_1 := lpK_inr (lp_leaf hf hz2_1)
                have hf := sumk_r hE2_1 e2_1
                have er := Option.some.inj hf
                subst er
                exact wr_iret X hw hr (Or.inr ⟨rfl, (show bz (0 : Int32) = true from rfl)⟩) dX2_isResting_32
        exact lo14_4 fuel σ2_1 v3 hq14_4 ls H locs (lv_sub hl [1, 2, 0] rfl) hw
  exact lo2_1 fuel σ (0 : Int32) hq2_1 ls H locs (lv_sub hl [1, 0] rfl) hw

def f_X2_layAsListed (σ : St) (o1 : Nat) : Option (St) := wlet (si σ 25 5 (mx (0 : Int32) (mn (7 : Int32) (σ.1 o1 3)))) fun σ1 => wlet (un2 (fun (σ19_2 : St) (x2_19_2 : Int32) => if (σ19_2.1 25 5) ≤ x2_19_2 then (some (.inr σ19_2)) else (Option.bind (f_X6_docketAt σ19_2 o1 x2_19_2) fun v7 => if ib x2_19_2 7 = true then wlet (si σ19_2 28 (Int32.toNatClampNeg x2_19_2) v7) fun σ9 => wlet (x2_19_2 + (1 : Int32)) fun v10 => some (.inl (σ9, v10)) else none)) : St × Int32 → Option ((St × Int32) ⊕ (St))) fun st19_2 => Option.bind (lp st19_2 fuel (σ1, (0 : Int32))) ((fun (σe19_2 : St) => Option.bind (f_X2_layTables σe19_2 o1) fun σ4 => some σ4))
theorem hd_X2_layAsListed : yX2_layAsListed.cls = RX2 ∧ yX2_layAsListed.cls ≠ "java/lang/invoke/MethodHandle" ∧ yX2_layAsListed.cls ≠ "java/lang/invoke/VarHandle" ∧ (parseMethodDescriptor yX2_layAsListed.desc).map (fun d => d.parameters.length) = some 1 := by decide +kernel
set_option maxRecDepth 100000 in
set_option maxHeartbeats 4000000 in
theorem k_X2_layAsListed {l : Launch} {ad : Nat → Nat} {D : va_G} {cy : Nat → ClassId} {z : wStr} (hI : wI WC ad) {σ : St} {o1 : Nat} (ho1 : isSt o1) {res : St} (hf : f_X2_layAsListed σ o1 = some res) : wC WC ad D cy z l yX2_layAsListed (Cond.code yX2_layAsListed cX2_layAsListed 3 (none) :: aw) (6) (226) [.ref (ad 25), .ref (ad o1)] σ (wQv WC ad D cy res) := by
  unfold f_X2_layAsListed at hf
  refine wr_start (own := RX2) hI (by decide +kernel) rfl (Nat.le_of_ble_eq_true rfl) rfl ?_
  intro p e s m below meth c ls X hw hr hl
  have hx := X.hx
  have hb := X.hb
  obtain ⟨H, eH⟩ : ∃ H : Heap, H = s.heap := ⟨_, rfl⟩
  obtain ⟨locs, el⟩ : ∃ locs : List Loc, locs = [] := ⟨_, rfl⟩
  rw [← eH, ← el] at hw ⊢
  clear eH el
  replace hl : lv_has ls 3 [(0, .ref (ad 25)), (1, .ref (ad o1))] := hl
  refine lv_aload_n hx hb dX2_layAsListed_0 rfl (lv_at hl 0 rfl) ?_
  refine lv_iconst (v := 0) hx hb dX2_layAsListed_1 (by decide) ?_
  refine lv_bipush (v := 7) hx hb dX2_layAsListed_2 (by decide) ?_
  refine lv_aload_n hx hb dX2_layAsListed_4 rfl (lv_at hl 1 rfl) ?_
  refine gnX6_3 X hw (isSt.s0 ho1) (isSt.n0 ho1) fn_X2_28 dX2_layAsListed_5 ?_
  refine wr_min X hl.1 ml_X2_34 (Nat.le_of_ble_eq_true rfl) (Nat.le_of_ble_eq_true rfl) dX2_layAsListed_8 ?_
  refine wr_max X hl.1 ml_X2_40 (Nat.le_of_ble_eq_true rfl) (Nat.le_of_ble_eq_true rfl) dX2_layAsListed_11 ?_
  obtain ⟨σ1, eσ1, hf⟩ := wlet_some hf
  refine pX2_5 X hw sC25 nC25 fl_X2_43 dX2_layAsListed_14 (fun H locs hw => ?_)
  replace hw := hw.to eσ1
  refine lv_iconst (v := 0) hx hb dX2_layAsListed_17 (by decide) ?_
  refine lv_istore_n (lv' := [(2, .int (0 : Int32)), (0, .ref (ad 25)), (1, .ref (ad o1))]) hx hb dX2_layAsListed_18 rfl hl (by decide) rfl (fun ls hl => ?_)
  obtain ⟨st19_2, est19_2, hf⟩ := wlet_some hf
  obtain ⟨E19_2, hq19_2, hE19_2⟩ := bind_some hf
  have hx19_2 : ∀ (σe19_2 : St) (_ : σe19_2 = E19_2) (ls : Array Slot) (H : Heap) (locs : List Loc), lv_has ls 3 [(0, .ref (ad 25)), (1, .ref (ad o1))] → wH WC ad D cy s σe19_2 H locs → W p l e { frames := 6, cells := 0, slots := 0, locals := 226 } s m [.ref (ad 25), .ref (ad o1)].toArray below meth c H locs 0 0 (MQ below (wQv WC ad D cy res) [.ref (ad 25), .ref (ad o1)].toArray s 0 0 (wA WC ad)) (F0 m 44 ls []) := by
    intro σe19_2 e0 ls H locs hl hw
    subst e0
    have hf := hE19_2
    refine lv_aload_n hx hb dX2_layAsListed_44 rfl (lv_at hl 0 rfl) ?_
    refine lv_aload_n hx hb dX2_layAsListed_45 rfl (lv_at hl 1 rfl) ?_
    obtain ⟨σ4, hq3, hf⟩ := bind_some hf
    refine wr_cVv (σ' := σ4) (av := [.ref (ad o1)]) (rest := []) X hw hl.1 sC25 nC25 rfl (k_X2_layTables hI ho1 hq3) rfl ml_X2_50 im_X2_layTables se_X2_layTables ini_X2 co_X2_layTables hd_X2_layTables ⟨Nat.le_of_ble_eq_true rfl, Nat.le_of_ble_eq_true rfl⟩ (Nat.le_of_ble_eq_true rfl) dX2_layAsListed_46 rfl (fun H locs hw => ?_)
    have er := Option.some.inj hf
    subst er
    exact wr_vret X hw hr dX2_layAsListed_49
  have lo19_2 : ∀ (n : Nat) (σ19_2 : St) (x2_19_2 : Int32) (_ : lp st19_2 n (σ19_2, x2_19_2) = some E19_2) (ls : Array Slot) (H : Heap) (locs : List Loc), lv_has ls 3 [(0, .ref (ad 25)), (1, .ref (ad o1)), (2, .int x2_19_2)] → wH WC ad D cy s σ19_2 H locs → W p l e { frames := 6, cells := 0, slots := 0, locals := 226 } s m [.ref (ad 25), .ref (ad o1)].toArray below meth c H locs 0 0 (MQ below (wQv WC ad D cy res) [.ref (ad 25), .ref (ad o1)].toArray s 0 0 (wA WC ad)) (F0 m 19 ls []) := by
    intro n
    induction n with
    | zero =>
      intro σ19_2 x2_19_2 hf ls H locs hl hw
      exact (lp_zero hf).elim
    | succ n ih19_2 =>
      intro σ19_2 x2_19_2 hf ls H locs hl hw
      obtain ⟨q19_2, hf, hz19_2⟩ := lp_succ hf
      rw [est19_2] at hf
      replace hf := un2_some hf
      refine lv_iload_n hx hb dX2_layAsListed_19 rfl (lv_at hl 2 rfl) ?_
      refine lv_aload_n hx hb dX2_layAsListed_20 rfl (lv_at hl 0 rfl) ?_
      refine gX2_5 X hw sC25 nC25 fl_X2_43 dX2_layAsListed_21 ?_
      refine lv_icmp_ge (tgt := 44) hx hb dX2_layAsListed_24 (by decide) (fun c5 => ?_) (fun c5 => ?_)
      · have hf := (if_pos c5).symm.trans hf
        exact hx19_2 σ19_2 (lpK_inr (lp_leaf hf hz19_2)) ls H locs (lv_sub hl [0, 1] rfl) hw
      · have hf := (if_neg c5).symm.trans hf
        refine lv_aload_n hx hb dX2_layAsListed_27 rfl (lv_at hl 0 rfl) ?_
        refine gX2_3 (b := 28) X hw sC25 nC25 rfl fl_X2_18 dX2_layAsListed_28 ?_
        refine lv_iload_n hx hb dX2_layAsListed_31 rfl (lv_at hl 2 rfl) ?_
        refine lv_aload_n hx hb dX2_layAsListed_32 rfl (lv_at hl 1 rfl) ?_
        refine lv_iload_n hx hb dX2_layAsListed_33 rfl (lv_at hl 2 rfl) ?_
        obtain ⟨v7, hq6, hf⟩ := bind_some hf
        refine wr_cNi (r := v7) (σ' := σ19_2) (av := [.int x2_19_2]) (rest := [.int x2_19_2, .ref (ad 28)]) X hw hl.1 (isSt.s0 ho1) (isSt.n0 ho1) rfl (k_X6_docketAt hI ho1 hq6) rfl mn_X2_46 im_X6_docketAt se_X6_docketAt ini_X6 co_X6_docketAt hd_X6_docketAt ⟨Nat.le_of_ble_eq_true rfl, Nat.le_of_ble_eq_true rfl⟩ (Nat.le_of_ble_eq_true rfl) dX2_layAsListed_34 rfl (fun H locs hw => ?_)
        obtain ⟨h8, hf⟩ := if_some hf
        obtain ⟨σ9, eσ9, hf⟩ := wlet_some hf
        refine wr_iast X hw sC28 nC28 h8 dX2_layAsListed_37 (fun H locs hw => ?_)
        replace hw := hw.to eσ9
        obtain ⟨v10, ev10, hf⟩ := wlet_some hf
        refine lv_iinc (v := v10) (lv' := [(2, .int v10), (0, .ref (ad 25)), (1, .ref (ad o1))]) hx hb dX2_layAsListed_38 hl (k := 2) rfl (by rw [ev10]; rfl) (by decide) rfl (fun ls hl => ?_)
        refine lv_goto (tgt := 19) hx hb dX2_layAsListed_41 (by decide) ?_
        exact ih19_2 σ9 v10 (lp_leaf hf hz19_2) ls H locs (lv_sub hl [1, 2, 0] rfl) hw
  exact lo19_2 fuel σ1 (0 : Int32) hq19_2 ls H locs (lv_sub hl [1, 2, 0] rfl) hw

def f_X2_countResting (σ : St)  : Option (Int32 × St) := wlet (un4 (fun (σ6_1 : St) (x1_6_1 : Int32) (x2_6_1 : Int32) (x3_6_1 : Int32) => if (5040 : Int32) ≤ x3_6_1 then (some (.inr (σ6_1, x1_6_1))) else (if x2_6_1 = 0 then (some (.inr (σ6_1, x1_6_1))) else (bnd2 (f_X2_isResting σ6_1) fun v5 σ6 => wlet (fun (x1_27_7 : Int32) => (bnd2 (f_X2_stepOn σ6) fun v9 σ10 => wlet (x3_6_1 + (1 : Int32)) fun v11 => some (.inl (σ10, x1_27_7, v9, v11)) : Option ((St × Int32 × Int32 × Int32) ⊕ (St × Int32)))) fun k27_7 => if v5 = 0 then (k27_7 x1_6_1) else (wlet (x1_6_1 + (1 : Int32)) fun v13 => k27_7 v13)))) : St × Int32 × Int32 × Int32 → Option ((St × Int32 × Int32 × Int32) ⊕ (St × Int32))) fun st6_1 => Option.bind (lp st6_1 fuel (σ, (0 : Int32), (1 : Int32), (0 : Int32))) ((un2 (fun (σe6_1 : St) (x1_e6_1 : Int32) => some (x1_e6_1, σe6_1))))
theorem hd_X2_countResting : yX2_countResting.cls = RX2 ∧ yX2_countResting.cls ≠ "java/lang/invoke/MethodHandle" ∧ yX2_countResting.cls ≠ "java/lang/invoke/VarHandle" ∧ (parseMethodDescriptor yX2_countResting.desc).map (fun d => d.parameters.length) = some 0 := by decide +kernel
set_option maxRecDepth 100000 in
set_option maxHeartbeats 4000000 in
theorem k_X2_countResting {l : Launch} {ad : Nat → Nat} {D : va_G} {cy : Nat → ClassId} {z : wStr} (hI : wI WC ad) {σ : St}   {res : Int32 × St} (hf : f_X2_countResting σ  = some res) : wC WC ad D cy z l yX2_countResting (Cond.code yX2_countResting cX2_countResting 4 (Option.some Jvm.ClassFile.FieldType.int) :: aw) (6) (211) [.ref (ad 25)] σ (wQi WC ad D cy res.1 res.2) := by
  unfold f_X2_countResting at hf
  refine wr_start (own := RX2) hI (by decide +kernel) rfl (Nat.le_of_ble_eq_true rfl) rfl ?_
  intro p e s m below meth c ls X hw hr hl
  have hx := X.hx
  have hb := X.hb
  obtain ⟨H, eH⟩ : ∃ H : Heap, H = s.heap := ⟨_, rfl⟩
  obtain ⟨locs, el⟩ : ∃ locs : List Loc, locs = [] := ⟨_, rfl⟩
  rw [← eH, ← el] at hw ⊢
  clear eH el
  replace hl : lv_has ls 4 [(0, .ref (ad 25))] := hl
  refine lv_iconst (v := 0) hx hb dX2_countResting_0 (by decide) ?_
  refine lv_istore_n (lv' := [(1, .int (0 : Int32)), (0, .ref (ad 25))]) hx hb dX2_countResting_1 rfl hl (by decide) rfl (fun ls hl => ?_)
  refine lv_iconst (v := 1) hx hb dX2_countResting_2 (by decide) ?_
  refine lv_istore_n (lv' := [(2, .int (1 : Int32)), (1, .int (0 : Int32)), (0, .ref (ad 25))]) hx hb dX2_countResting_3 rfl hl (by decide) rfl (fun ls hl => ?_)
  refine lv_iconst (v := 0) hx hb dX2_countResting_4 (by decide) ?_
  refine lv_istore_n (lv' := [(3, .int (0 : Int32)), (2, .int (1 : Int32)), (1, .int (0 : Int32)), (0, .ref (ad 25))]) hx hb dX2_countResting_5 rfl hl (by decide) rfl (fun ls hl => ?_)
  obtain ⟨st6_1, est6_1, hf⟩ := wlet_some hf
  obtain ⟨E6_1, hq6_1, hE6_1⟩ := bind_some hf
  have hx6_1 : ∀ (σe6_1 : St) (x1_e6_1 : Int32) (_ : (σe6_1, x1_e6_1) = E6_1) (ls : Array Slot) (H : Heap) (locs : List Loc), lv_has ls 4 [(1, .int x1_e6_1)] → wH WC ad D cy s σe6_1 H locs → W p l e { frames := 6, cells := 0, slots := 0, locals := 211 } s m [.ref (ad 25)].toArray below meth c H locs 0 0 (MQ below (wQi WC ad D cy res.1 res.2) [.ref (ad 25)].toArray s 0 0 (wA WC ad)) (F0 m 38 ls []) := by
    intro σe6_1 x1_e6_1 e0 ls H locs hl hw
    subst e0
    have hf := hE6_1
    replace hf := un2_some hf
    refine lv_iload_n hx hb dX2_countResting_38 rfl (lv_at hl 0 rfl) ?_
    have er := Option.some.inj hf
    subst er
    exact wr_iret X hw hr (Or.inl rfl) dX2_countResting_39
  have lo6_1 : ∀ (n : Nat) (σ6_1 : St) (x1_6_1 : Int32) (x2_6_1 : Int32) (x3_6_1 : Int32) (_ : lp st6_1 n (σ6_1, x1_6_1, x2_6_1, x3_6_1) = some E6_1) (ls : Array Slot) (H : Heap) (locs : List Loc), lv_has ls 4 [(0, .ref (ad 25)), (1, .int x1_6_1), (2, .int x2_6_1), (3, .int x3_6_1)] → wH WC ad D cy s σ6_1 H locs → W p l e { frames := 6, cells := 0, slots := 0, locals := 211 } s m [.ref (ad 25)].toArray below meth c H locs 0 0 (MQ below (wQi WC ad D cy res.1 res.2) [.ref (ad 25)].toArray s 0 0 (wA WC ad)) (F0 m 6 ls []) := by
    intro n
    induction n with
    | zero =>
      intro σ6_1 x1_6_1 x2_6_1 x3_6_1 hf ls H locs hl hw
      exact (lp_zero hf).elim
    | succ n ih6_1 =>
      intro σ6_1 x1_6_1 x2_6_1 x3_6_1 hf ls H locs hl hw
      obtain ⟨q6_1, hf, hz6_1⟩ := lp_succ hf
      rw [est6_1] at hf
      replace hf := un4_some hf
      refine lv_iload_n hx hb dX2_countResting_6 rfl (lv_at hl 3 rfl) ?_
      refine lv_sipush (v := 5040) hx hb dX2_countResting_7 (by decide) ?_
      refine lv_icmp_ge (tgt := 38) hx hb dX2_countResting_10 (by decide) (fun c2 => ?_) (fun c2 => ?_)
      · have hf := (if_pos c2).symm.trans hf
        exact hx6_1 σ6_1 x1_6_1 (lpK_inr (lp_leaf hf hz6_1)) ls H locs (lv_sub hl [1] rfl) hw
      · have hf := (if_neg c2).symm.trans hf
        refine lv_iload_n hx hb dX2_countResting_13 rfl (lv_at hl 2 rfl) ?_
        refine lv_if_eq (tgt := 38) hx hb dX2_countResting_14 (by decide) (fun c3 => ?_) (fun c3 => ?_)
        · have hf := (if_pos c3).symm.trans hf
          exact hx6_1 σ6_1 x1_6_1 (lpK_inr (lp_leaf hf hz6_1)) ls H locs (lv_sub hl [1] rfl) hw
        · have hf := (if_neg c3).symm.trans hf
          refine lv_aload_n hx hb dX2_countResting_17 rfl (lv_at hl 0 rfl) ?_
          obtain ⟨v5, σ6, hq4, hf⟩ := bnd2_some hf
          refine wr_cVi (r := v5) (σ' := σ6) (av := []) (rest := []) X hw hl.1 sC25 nC25 rfl (k_X2_isResting hI hq4) rfl ml_X2_113 im_X2_isResting se_X2_isResting ini_X2 co_X2_isResting hd_X2_isResting ⟨Nat.le_of_ble_eq_true rfl, Nat.le_of_ble_eq_true rfl⟩ (Nat.le_of_ble_eq_true rfl) dX2_countResting_18 rfl (fun H locs hw => ?_)
          obtain ⟨k27_7, ek27_7, hf0⟩ := wlet_some hf
          have j27_7 : ∀ (x1_27_7 : Int32) (_ : k27_7 x1_27_7 = some q6_1) (ls : Array Slot) (H : Heap) (locs : List Loc), lv_has ls 4 [(0, .ref (ad 25)), (1, .int x1_27_7), (3, .int x3_6_1)] → wH WC ad D cy s σ6 H locs → W p l e { frames := 6, cells := 0, slots := 0, locals := 211 } s m [.ref (ad 25)].toArray below meth c H locs 0 0 (MQ below (wQi WC ad D cy res.1 res.2) [.ref (ad 25)].toArray s 0 0 (wA WC ad)) (F0 m 27 ls []) := by
            intro x1_27_7 hf ls H locs hl hw
            rw [ek27_7] at hf
            refine lv_aload_n hx hb dX2_countResting_27 rfl (lv_at hl 0 rfl) ?_
            obtain ⟨v9, σ10, hq8, hf⟩ := bnd2_some hf
            refine wr_cVi (r := v9) (σ' := σ10) (av := []) (rest := []) X hw hl.1 sC25 nC25 rfl (k_X2_stepOn hI hq8) rfl ml_X2_93 im_X2_stepOn se_X2_stepOn ini_X2 co_X2_stepOn hd_X2_stepOn ⟨Nat.le_of_ble_eq_true rfl, Nat.le_of_ble_eq_true rfl⟩ (Nat.le_of_ble_eq_true rfl) dX2_countResting_28 rfl (fun H locs hw => ?_)
            refine lv_istore_n (lv' := [(2, .int v9), (0, .ref (ad 25)), (1, .int x1_27_7), (3, .int x3_6_1)]) hx hb dX2_countResting_31 rfl hl (by decide) rfl (fun ls hl => ?_)
            obtain ⟨v11, ev11, hf⟩ := wlet_some hf
            refine lv_iinc (v := v11) (lv' := [(3, .int v11), (2, .int v9), (0, .ref (ad 25)), (1, .int x1_27_7)]) hx hb dX2_countResting_32 hl (k := 3) rfl (by rw [ev11]; rfl) (by decide) rfl (fun ls hl => ?_)
            refine lv_goto (tgt := 6) hx hb dX2_countResting_35 (by decide) ?_
            exact ih6_1 σ10 x1_27_7 v9 v11 (lp_leaf hf hz6_1) ls H locs (lv_sub hl [2, 3, 1, 0] rfl) hw
          replace hf := hf0
          refine lv_if_eq (tgt := 27) hx hb dX2_countResting_21 (by decide) (fun c12 => ?_) (fun c12 => ?_)
          · have hf := (if_pos c12).symm.trans hf
            exact j27_7 x1_6_1 hf ls H locs (lv_sub hl [0, 1, 3] rfl) hw
          · have hf := (if_neg c12).symm.trans hf
            obtain ⟨v13, ev13, hf⟩ := wlet_some hf
            refine lv_iinc (v := v13) (lv' := [(1, .int v13), (0, .ref (ad 25)), (2, .int x2_6_1), (3, .int x3_6_1)]) hx hb dX2_countResting_24 hl (k := 1) rfl (by rw [ev13]; rfl) (by decide) rfl (fun ls hl => ?_)
            exact j27_7 v13 hf ls H locs (lv_sub hl [1, 0, 3] rfl) hw
  exact lo6_1 fuel σ (0 : Int32) (1 : Int32) (0 : Int32) hq6_1 ls H locs (lv_sub hl [3, 2, 1, 0] rfl) hw

def f_X2_placeInRow (σ : St) (x1 : Int32) : Option (Int32) := wlet (fun (x2_2_1 : Int32) => if (σ.1 25 5) ≤ x2_2_1 then (some (.inr (.inl ()))) else (if ib x2_2_1 7 = true then if (σ.1 28 (Int32.toNatClampNeg x2_2_1)) = x1 then (some (.inr (.inr x2_2_1))) else (wlet (x2_2_1 + (1 : Int32)) fun v5 => some (.inl v5)) else none) : Int32 → Option ((Int32) ⊕ ((Unit) ⊕ (Int32)))) fun st2_1 => Option.bind (lp st2_1 fuel (0 : Int32)) (sumk (fun (_ : Unit) => some (-1 : Int32)) (fun m => some m))
theorem hd_X2_placeInRow : yX2_placeInRow.cls = RX2 ∧ yX2_placeInRow.cls ≠ "java/lang/invoke/MethodHandle" ∧ yX2_placeInRow.cls ≠ "java/lang/invoke/VarHandle" ∧ (parseMethodDescriptor yX2_placeInRow.desc).map (fun d => d.parameters.length) = some 1 := by decide +kernel
set_option maxRecDepth 100000 in
set_option maxHeartbeats 4000000 in
theorem k_X2_placeInRow {l : Launch} {ad : Nat → Nat} {D : va_G} {cy : Nat → ClassId} {z : wStr} (hI : wI WC ad) {σ : St} {x1 : Int32}  {res : Int32} (hf : f_X2_placeInRow σ x1 = some res) : wC WC ad D cy z l yX2_placeInRow (Cond.code yX2_placeInRow cX2_placeInRow 3 (Option.some Jvm.ClassFile.FieldType.int) :: aw) (1) (100) [.ref (ad 25), .int x1] σ (wQi WC ad D cy res σ) := by
  unfold f_X2_placeInRow at hf
  refine wr_start (own := RX2) hI (by decide +kernel) rfl (Nat.le_of_ble_eq_true rfl) rfl ?_
  intro p e s m below meth c ls X hw hr hl
  have hx := X.hx
  have hb := X.hb
  obtain ⟨H, eH⟩ : ∃ H : Heap, H = s.heap := ⟨_, rfl⟩
  obtain ⟨locs, el⟩ : ∃ locs : List Loc, locs = [] := ⟨_, rfl⟩
  rw [← eH, ← el] at hw ⊢
  clear eH el
  replace hl : lv_has ls 3 [(0, .ref (ad 25)), (1, .int x1)] := hl
  refine lv_iconst (v := 0) hx hb dX2_placeInRow_0 (by decide) ?_
  refine lv_istore_n (lv' := [(2, .int (0 : Int32)), (0, .ref (ad 25)), (1, .int x1)]) hx hb dX2_placeInRow_1 rfl hl (by decide) rfl (fun ls hl => ?_)
  obtain ⟨st2_1, est2_1, hf⟩ := wlet_some hf
  obtain ⟨E2_1, hq2_1, hE2_1⟩ := bind_some hf
  have hx2_1 : ∀ (_ : Sum.inl () = E2_1) (ls : Array Slot) (H : Heap) (locs : List Loc), lv_has ls 3 [] → wH WC ad D cy s σ H locs → W p l e { frames := 1, cells := 0, slots := 0, locals := 100 } s m [.ref (ad 25), .int x1].toArray below meth c H locs 0 0 (MQ below (wQi WC ad D cy res σ) [.ref (ad 25), .int x1].toArray s 0 0 (wA WC ad)) (F0 m 28 ls []) := by
    intro  e0 ls H locs hl hw
    have hf := sumk_l hE2_1 e0
    refine lv_iconst (v := -1) hx hb dX2_placeInRow_28 (by decide) ?_
    have er := Option.some.inj hf
    subst er
    exact wr_iret X hw hr (Or.inl rfl) dX2_placeInRow_29
  have lo2_1 : ∀ (n : Nat) (x2_2_1 : Int32) (_ : lp st2_1 n x2_2_1 = some E2_1) (ls : Array Slot) (H : Heap) (locs : List Loc), lv_has ls 3 [(0, .ref (ad 25)), (1, .int x1), (2, .int x2_2_1)] → wH WC ad D cy s σ H locs → W p l e { frames := 1, cells := 0, slots := 0, locals := 100 } s m [.ref (ad 25), .int x1].toArray below meth c H locs 0 0 (MQ below (wQi WC ad D cy res σ) [.ref (ad 25), .int x1].toArray s 0 0 (wA WC ad)) (F0 m 2 ls []) := by
    intro n
    induction n with
    | zero =>
      intro x2_2_1 hf ls H locs hl hw
      exact (lp_zero hf).elim
    | succ n ih2_1 =>
      intro x2_2_1 hf ls H locs hl hw
      obtain ⟨q2_1, hf, hz2_1⟩ := lp_succ hf
      rw [est2_1] at hf
      refine lv_iload_n hx hb dX2_placeInRow_2 rfl (lv_at hl 2 rfl) ?_
      refine lv_aload_n hx hb dX2_placeInRow_3 rfl (lv_at hl 0 rfl) ?_
      refine gX2_5 X hw sC25 nC25 fl_X2_43 dX2_placeInRow_4 ?_
      refine lv_icmp_ge (tgt := 28) hx hb dX2_placeInRow_7 (by decide) (fun c2 => ?_) (fun c2 => ?_)
      · have hf := (if_pos c2).symm.trans hf
        exact hx2_1  (lpK_inr (lp_leaf hf hz2_1)) ls H locs (lv_sub hl [] rfl) hw
      · have hf := (if_neg c2).symm.trans hf
        refine lv_aload_n hx hb dX2_placeInRow_10 rfl (lv_at hl 0 rfl) ?_
        refine gX2_3 (b := 28) X hw sC25 nC25 rfl fl_X2_18 dX2_placeInRow_11 ?_
        refine lv_iload_n hx hb dX2_placeInRow_14 rfl (lv_at hl 2 rfl) ?_
        obtain ⟨h3, hf⟩ := if_some hf
        refine wr_iald X hw sC28 nC28 h3 dX2_placeInRow_15 ?_
        refine lv_iload_n hx hb dX2_placeInRow_16 rfl (lv_at hl 1 rfl) ?_
        refine lv_icmp_ne (tgt := 22) hx hb dX2_placeInRow_17 (by decide) (fun c4 => ?_) (fun c4 => ?_)
        · have hf := (if_neg c4).symm.trans hf
          obtain ⟨v5, ev5, hf⟩ := wlet_some hf
          refine lv_iinc (v := v5) (lv' := [(2, .int v5), (0, .ref (ad 25)), (1, .int x1)]) hx hb dX2_placeInRow_22 hl (k := 2) rfl (by rw [ev5]; rfl) (by decide) rfl (fun ls hl => ?_)
          refine lv_goto (tgt := 2) hx hb dX2_placeInRow_25 (by decide) ?_
          exact ih2_1 v5 (lp_leaf hf hz2_1) ls H locs (lv_sub hl [1, 2, 0] rfl) hw
        · have hf := (if_pos c4).symm.trans hf
          refine lv_iload_n hx hb dX2_placeInRow_20 rfl (lv_at hl 2 rfl) ?_
          have e2_1 := lpK_inr (lp_leaf hf hz2_1)
          have hf := sumk_r hE2_1 e2_1
          have er := Option.some.inj hf
          subst er
          exact wr_iret X hw hr (Or.inl rfl) dX2_placeInRow_21
  exact lo2_1 fuel (0 : Int32) hq2_1 ls H locs (lv_sub hl [1, 2, 0] rfl) hw

def f_X2_tradersOf (σ : St) (x1 : Int32) : Option (Int32 × St) := Option.bind (f_X2_placeInRow σ x1) fun v2 => wlet (un3 (fun (σ11_3 : St) (x3_11_3 : Int32) (x4_11_3 : Int32) => if (σ11_3.1 25 5) ≤ x4_11_3 then (some (.inr (σ11_3, x3_11_3))) else (if v2 = (-1 : Int32) then (some (.inr (σ11_3, x3_11_3))) else (if x4_11_3 = v2 then (wlet (x4_11_3 + (1 : Int32)) fun v7 => some (.inl (σ11_3, x3_11_3, v7))) else (bnd2 (f_X2_isTrade σ11_3 v2 x4_11_3) fun v9 σ10 => if v9 = 0 then (wlet (x4_11_3 + (1 : Int32)) fun v12 => some (.inl (σ10, x3_11_3, v12))) else (if ib x4_11_3 7 = true then wlet (x3_11_3 ||| ((1 : Int32) <<< ((σ10.1 28 (Int32.toNatClampNeg x4_11_3)) &&& 31))) fun v14 => wlet (x4_11_3 + (1 : Int32)) fun v15 => some (.inl (σ10, v14, v15)) else none))))) : St × Int32 × Int32 → Option ((St × Int32 × Int32) ⊕ (St × Int32))) fun st11_3 => Option.bind (lp st11_3 fuel (σ, (0 : Int32), (0 : Int32))) ((un2 (fun (σe11_3 : St) (x3_e11_3 : Int32) => some (x3_e11_3, σe11_3))))
theorem hd_X2_tradersOf : yX2_tradersOf.cls = RX2 ∧ yX2_tradersOf.cls ≠ "java/lang/invoke/MethodHandle" ∧ yX2_tradersOf.cls ≠ "java/lang/invoke/VarHandle" ∧ (parseMethodDescriptor yX2_tradersOf.desc).map (fun d => d.parameters.length) = some 1 := by decide +kernel
set_option maxRecDepth 100000 in
set_option maxHeartbeats 4000000 in
theorem k_X2_tradersOf {l : Launch} {ad : Nat → Nat} {D : va_G} {cy : Nat → ClassId} {z : wStr} (hI : wI WC ad) {σ : St} {x1 : Int32}  {res : Int32 × St} (hf : f_X2_tradersOf σ x1 = some res) : wC WC ad D cy z l yX2_tradersOf (Cond.code yX2_tradersOf cX2_tradersOf 5 (Option.some Jvm.ClassFile.FieldType.int) :: aw) (5) (189) [.ref (ad 25), .int x1] σ (wQi WC ad D cy res.1 res.2) := by
  unfold f_X2_tradersOf at hf
  refine wr_start (own := RX2) hI (by decide +kernel) rfl (Nat.le_of_ble_eq_true rfl) rfl ?_
  intro p e s m below meth c ls X hw hr hl
  have hx := X.hx
  have hb := X.hb
  obtain ⟨H, eH⟩ : ∃ H : Heap, H = s.heap := ⟨_, rfl⟩
  obtain ⟨locs, el⟩ : ∃ locs : List Loc, locs = [] := ⟨_, rfl⟩
  rw [← eH, ← el] at hw ⊢
  clear eH el
  replace hl : lv_has ls 5 [(0, .ref (ad 25)), (1, .int x1)] := hl
  refine lv_aload_n hx hb dX2_tradersOf_0 rfl (lv_at hl 0 rfl) ?_
  refine lv_iload_n hx hb dX2_tradersOf_1 rfl (lv_at hl 1 rfl) ?_
  obtain ⟨v2, hq1, hf⟩ := bind_some hf
  refine wr_cVi (r := v2) (σ' := σ) (av := [.int x1]) (rest := []) X hw hl.1 sC25 nC25 rfl (k_X2_placeInRow hI hq1) rfl ml_X2_106 im_X2_placeInRow se_X2_placeInRow ini_X2 co_X2_placeInRow hd_X2_placeInRow ⟨Nat.le_of_ble_eq_true rfl, Nat.le_of_ble_eq_true rfl⟩ (Nat.le_of_ble_eq_true rfl) dX2_tradersOf_2 rfl (fun H locs hw => ?_)
  refine lv_istore_n (lv' := [(2, .int v2), (0, .ref (ad 25)), (1, .int x1)]) hx hb dX2_tradersOf_5 rfl hl (by decide) rfl (fun ls hl => ?_)
  refine lv_iconst (v := 0) hx hb dX2_tradersOf_6 (by decide) ?_
  refine lv_istore_n (lv' := [(3, .int (0 : Int32)), (2, .int v2), (0, .ref (ad 25)), (1, .int x1)]) hx hb dX2_tradersOf_7 rfl hl (by decide) rfl (fun ls hl => ?_)
  refine lv_iconst (v := 0) hx hb dX2_tradersOf_8 (by decide) ?_
  refine lv_istore (lv' := [(4, .int (0 : Int32)), (3, .int (0 : Int32)), (2, .int v2), (0, .ref (ad 25)), (1, .int x1)]) hx hb dX2_tradersOf_9 hl (by decide) rfl (fun ls hl => ?_)
  obtain ⟨st11_3, est11_3, hf⟩ := wlet_some hf
  obtain ⟨E11_3, hq11_3, hE11_3⟩ := bind_some hf
  have hx11_3 : ∀ (σe11_3 : St) (x3_e11_3 : Int32) (_ : (σe11_3, x3_e11_3) = E11_3) (ls : Array Slot) (H : Heap) (locs : List Loc), lv_has ls 5 [(3, .int x3_e11_3)] → wH WC ad D cy s σe11_3 H locs → W p l e { frames := 5, cells := 0, slots := 0, locals := 189 } s m [.ref (ad 25), .int x1].toArray below meth c H locs 0 0 (MQ below (wQi WC ad D cy res.1 res.2) [.ref (ad 25), .int x1].toArray s 0 0 (wA WC ad)) (F0 m 59 ls []) := by
    intro σe11_3 x3_e11_3 e0 ls H locs hl hw
    subst e0
    have hf := hE11_3
    replace hf := un2_some hf
    refine lv_iload_n hx hb dX2_tradersOf_59 rfl (lv_at hl 0 rfl) ?_
    have er := Option.some.inj hf
    subst er
    exact wr_iret X hw hr (Or.inl rfl) dX2_tradersOf_60
  have lo11_3 : ∀ (n : Nat) (σ11_3 : St) (x3_11_3 : Int32) (x4_11_3 : Int32) (_ : lp st11_3 n (σ11_3, x3_11_3, x4_11_3) = some E11_3) (ls : Array Slot) (H : Heap) (locs : List Loc), lv_has ls 5 [(0, .ref (ad 25)), (2, .int v2), (3, .int x3_11_3), (4, .int x4_11_3)] → wH WC ad D cy s σ11_3 H locs → W p l e { frames := 5, cells := 0, slots := 0, locals := 189 } s m [.ref (ad 25), .int x1].toArray below meth c H locs 0 0 (MQ below (wQi WC ad D cy res.1 res.2) [.ref (ad 25), .int x1].toArray s 0 0 (wA WC ad)) (F0 m 11 ls []) := by
    intro n
    induction n with
    | zero =>
      intro σ11_3 x3_11_3 x4_11_3 hf ls H locs hl hw
      exact (lp_zero hf).elim
    | succ n ih11_3 =>
      intro σ11_3 x3_11_3 x4_11_3 hf ls H locs hl hw
      obtain ⟨q11_3, hf, hz11_3⟩ := lp_succ hf
      rw [est11_3] at hf
      replace hf := un3_some hf
      refine lv_iload hx hb dX2_tradersOf_11 (lv_at hl 3 rfl) ?_
      refine lv_aload_n hx hb dX2_tradersOf_13 rfl (lv_at hl 0 rfl) ?_
      refine gX2_5 X hw sC25 nC25 fl_X2_43 dX2_tradersOf_14 ?_
      refine lv_icmp_ge (tgt := 59) hx hb dX2_tradersOf_17 (by decide) (fun c4 => ?_) (fun c4 => ?_)
      · have hf := (if_pos c4).symm.trans hf
        exact hx11_3 σ11_3 x3_11_3 (lpK_inr (lp_leaf hf hz11_3)) ls H locs (lv_sub hl [2] rfl) hw
      · have hf := (if_neg c4).symm.trans hf
        refine lv_iload_n hx hb dX2_tradersOf_20 rfl (lv_at hl 1 rfl) ?_
        refine lv_iconst (v := -1) hx hb dX2_tradersOf_21 (by decide) ?_
        refine lv_icmp_eq (tgt := 59) hx hb dX2_tradersOf_22 (by decide) (fun c5 => ?_) (fun c5 => ?_)
        · have hf := (if_pos c5).symm.trans hf
          exact hx11_3 σ11_3 x3_11_3 (lpK_inr (lp_leaf hf hz11_3)) ls H locs (lv_sub hl [2] rfl) hw
        · have hf := (if_neg c5).symm.trans hf
          refine lv_iload hx hb dX2_tradersOf_25 (lv_at hl 3 rfl) ?_
          refine lv_iload_n hx hb dX2_tradersOf_27 rfl (lv_at hl 1 rfl) ?_
          refine lv_icmp_eq (tgt := 53) hx hb dX2_tradersOf_28 (by decide) (fun c6 => ?_) (fun c6 => ?_)
          · have hf := (if_pos c6).symm.trans hf
            obtain ⟨v7, ev7, hf⟩ := wlet_some hf
            refine lv_iinc (v := v7) (lv' := [(4, .int v7), (0, .ref (ad 25)), (2, .int v2), (3, .int x3_11_3)]) hx hb dX2_tradersOf_53 hl (k := 3) rfl (by rw [ev7]; rfl) (by decide) rfl (fun ls hl => ?_)
            refine lv_goto (tgt := 11) hx hb dX2_tradersOf_56 (by decide) ?_
            exact ih11_3 σ11_3 x3_11_3 v7 (lp_leaf hf hz11_3) ls H locs (lv_sub hl [1, 2, 3, 0] rfl) hw
          · have hf := (if_neg c6).symm.trans hf
            refine lv_aload_n hx hb dX2_tradersOf_31 rfl (lv_at hl 0 rfl) ?_
            refine lv_iload_n hx hb dX2_tradersOf_32 rfl (lv_at hl 1 rfl) ?_
            refine lv_iload hx hb dX2_tradersOf_33 (lv_at hl 3 rfl) ?_
            obtain ⟨v9, σ10, hq8, hf⟩ := bnd2_some hf
            refine wr_cVi (r := v9) (σ' := σ10) (av := [.int v2, .int x4_11_3]) (rest := []) X hw hl.1 sC25 nC25 rfl (k_X2_isTrade hI hq8) rfl ml_X2_109 im_X2_isTrade se_X2_isTrade ini_X2 co_X2_isTrade hd_X2_isTrade ⟨Nat.le_of_ble_eq_true rfl, Nat.le_of_ble_eq_true rfl⟩ (Nat.le_of_ble_eq_true rfl) dX2_tradersOf_35 rfl (fun H locs hw => ?_)
            refine lv_if_eq (tgt := 53) hx hb dX2_tradersOf_38 (by decide) (fun c11 => ?_) (fun c11 => ?_)
            · have hf := (if_pos c11).symm.trans hf
              obtain ⟨v12, ev12, hf⟩ := wlet_some hf
              refine lv_iinc (v := v12) (lv' := [(4, .int v12), (0, .ref (ad 25)), (2, .int v2), (3, .int x3_11_3)]) hx hb dX2_tradersOf_53 hl (k := 3) rfl (by rw [ev12]; rfl) (by decide) rfl (fun ls hl => ?_)
              refine lv_goto (tgt := 11) hx hb dX2_tradersOf_56 (by decide) ?_
              exact ih11_3 σ10 x3_11_3 v12 (lp_leaf hf hz11_3) ls H locs (lv_sub hl [1, 2, 3, 0] rfl) hw
            · have hf := (if_neg c11).symm.trans hf
              refine lv_iload_n hx hb dX2_tradersOf_41 rfl (lv_at hl 2 rfl) ?_
              refine lv_iconst (v := 1) hx hb dX2_tradersOf_42 (by decide) ?_
              refine lv_aload_n hx hb dX2_tradersOf_43 rfl (lv_at hl 0 rfl) ?_
              refine gX2_3 (b := 28) X hw sC25 nC25 rfl fl_X2_18 dX2_tradersOf_44 ?_
              refine lv_iload hx hb dX2_tradersOf_47 (lv_at hl 3 rfl) ?_
              obtain ⟨h13, hf⟩ := if_some hf
              refine wr_iald X hw sC28 nC28 h13 dX2_tradersOf_49 ?_
              refine lv_ishl hx hb dX2_tradersOf_50 ?_
              refine lv_ior hx hb dX2_tradersOf_51 ?_
              obtain ⟨v14, ev14, hf⟩ := wlet_some hf
              refine wr_top ev14 ?_
              refine lv_istore_n (lv' := [(3, .int v14), (0, .ref (ad 25)), (2, .int v2), (4, .int x4_11_3)]) hx hb dX2_tradersOf_52 rfl hl (by decide) rfl (fun ls hl => ?_)
              obtain ⟨v15, ev15, hf⟩ := wlet_some hf
              refine lv_iinc (v := v15) (lv' := [(4, .int v15), (3, .int v14), (0, .ref (ad 25)), (2, .int v2)]) hx hb dX2_tradersOf_53 hl (k := 3) rfl (by rw [ev15]; rfl) (by decide) rfl (fun ls hl => ?_)
              refine lv_goto (tgt := 11) hx hb dX2_tradersOf_56 (by decide) ?_
              exact ih11_3 σ10 v14 v15 (lp_leaf hf hz11_3) ls H locs (lv_sub hl [2, 3, 1, 0] rfl) hw
  exact lo11_3 fuel σ (0 : Int32) (0 : Int32) hq11_3 ls H locs (lv_sub hl [3, 2, 1, 0] rfl) hw

def f_X2_tradeLowest (σ : St)  : Option (Int32 × St) := wlet (un2 (fun (σ2_1 : St) (x1_2_1 : Int32) => if (7 : Int32) ≤ x1_2_1 then (some (.inr (.inl σ2_1))) else (bnd2 (f_X2_tradersOf σ2_1 x1_2_1) fun v4 σ5 => if v4 = 0 then (wlet (x1_2_1 + (1 : Int32)) fun v7 => some (.inl (σ5, v7))) else (Option.bind (f_X2_placeInRow σ5 x1_2_1) fun v9 => Option.bind (f_J6_numberOfTrailingZeros_0f7a4 v4) fun v11 => Option.bind (f_X2_placeInRow σ5 v11) fun v13 => Option.bind (f_X2_exchange σ5 v9 v13) fun σ15 => some (.inr (.inr ((1 : Int32), σ15)))))) : St × Int32 → Option ((St × Int32) ⊕ ((St) ⊕ (Int32 × St)))) fun st2_1 => Option.bind (lp st2_1 fuel (σ, (0 : Int32))) (sumk (fun (σe2_1 : St) => some ((0 : Int32), σe2_1)) (fun m => some m))
theorem hd_X2_tradeLowest : yX2_tradeLowest.cls = RX2 ∧ yX2_tradeLowest.cls ≠ "java/lang/invoke/MethodHandle" ∧ yX2_tradeLowest.cls ≠ "java/lang/invoke/VarHandle" ∧ (parseMethodDescriptor yX2_tradeLowest.desc).map (fun d => d.parameters.length) = some 0 := by decide +kernel
set_option maxRecDepth 100000 in
set_option maxHeartbeats 4000000 in
theorem k_X2_tradeLowest {l : Launch} {ad : Nat → Nat} {D : va_G} {cy : Nat → ClassId} {z : wStr} (hI : wI WC ad) {σ : St}   {res : Int32 × St} (hf : f_X2_tradeLowest σ  = some res) : wC WC ad D cy z l yX2_tradeLowest (Cond.code yX2_tradeLowest cX2_tradeLowest 3 (Option.some Jvm.ClassFile.FieldType.boolean) :: aw) (6) (213) [.ref (ad 25)] σ (wQi WC ad D cy res.1 res.2) := by
  unfold f_X2_tradeLowest at hf
  refine wr_start (own := RX2) hI (by decide +kernel) rfl (Nat.le_of_ble_eq_true rfl) rfl ?_
  intro p e s m below meth c ls X hw hr hl
  have hx := X.hx
  have hb := X.hb
  obtain ⟨H, eH⟩ : ∃ H : Heap, H = s.heap := ⟨_, rfl⟩
  obtain ⟨locs, el⟩ : ∃ locs : List Loc, locs = [] := ⟨_, rfl⟩
  rw [← eH, ← el] at hw ⊢
  clear eH el
  replace hl : lv_has ls 3 [(0, .ref (ad 25))] := hl
  refine lv_iconst (v := 0) hx hb dX2_tradeLowest_0 (by decide) ?_
  refine lv_istore_n (lv' := [(1, .int (0 : Int32)), (0, .ref (ad 25))]) hx hb dX2_tradeLowest_1 rfl hl (by decide) rfl (fun ls hl => ?_)
  obtain ⟨st2_1, est2_1, hf⟩ := wlet_some hf
  obtain ⟨E2_1, hq2_1, hE2_1⟩ := bind_some hf
  have hx2_1 : ∀ (σe2_1 : St) (_ : Sum.inl σe2_1 = E2_1) (ls : Array Slot) (H : Heap) (locs : List Loc), lv_has ls 3 [] → wH WC ad D cy s σe2_1 H locs → W p l e { frames := 6, cells := 0, slots := 0, locals := 213 } s m [.ref (ad 25)].toArray below meth c H locs 0 0 (MQ below (wQi WC ad D cy res.1 res.2) [.ref (ad 25)].toArray s 0 0 (wA WC ad)) (F0 m 43 ls []) := by
    intro σe2_1 e0 ls H locs hl hw
    have hf := sumk_l hE2_1 e0
    refine lv_iconst (v := 0) hx hb dX2_tradeLowest_43 (by decide) ?_
    have er := Option.some.inj hf
    subst er
    exact wr_iret X hw hr (Or.inr ⟨rfl, (show bz (0 : Int32) = true from rfl)⟩) dX2_tradeLowest_44
  have lo2_1 : ∀ (n : Nat) (σ2_1 : St) (x1_2_1 : Int32) (_ : lp st2_1 n (σ2_1, x1_2_1) = some E2_1) (ls : Array Slot) (H : Heap) (locs : List Loc), lv_has ls 3 [(0, .ref (ad 25)), (1, .int x1_2_1)] → wH WC ad D cy s σ2_1 H locs → W p l e { frames := 6, cells := 0, slots := 0, locals := 213 } s m [.ref (ad 25)].toArray below meth c H locs 0 0 (MQ below (wQi WC ad D cy res.1 res.2) [.ref (ad 25)].toArray s 0 0 (wA WC ad)) (F0 m 2 ls []) := by
    intro n
    induction n with
    | zero =>
      intro σ2_1 x1_2_1 hf ls H locs hl hw
      exact (lp_zero hf).elim
    | succ n ih2_1 =>
      intro σ2_1 x1_2_1 hf ls H locs hl hw
      obtain ⟨q2_1, hf, hz2_1⟩ := lp_succ hf
      rw [est2_1] at hf
      replace hf := un2_some hf
      refine lv_iload_n hx hb dX2_tradeLowest_2 rfl (lv_at hl 1 rfl) ?_
      refine lv_bipush (v := 7) hx hb dX2_tradeLowest_3 (by decide) ?_
      refine lv_icmp_ge (tgt := 43) hx hb dX2_tradeLowest_5 (by decide) (fun c2 => ?_) (fun c2 => ?_)
      · have hf := (if_pos c2).symm.trans hf
        exact hx2_1 σ2_1 (lpK_inr (lp_leaf hf hz2_1)) ls H locs (lv_sub hl [] rfl) hw
      · have hf := (if_neg c2).symm.trans hf
        refine lv_aload_n hx hb dX2_tradeLowest_8 rfl (lv_at hl 0 rfl) ?_
        refine lv_iload_n hx hb dX2_tradeLowest_9 rfl (lv_at hl 1 rfl) ?_
        obtain ⟨v4, σ5, hq3, hf⟩ := bnd2_some hf
        refine wr_cVi (r := v4) (σ' := σ5) (av := [.int x1_2_1]) (rest := []) X hw hl.1 sC25 nC25 rfl (k_X2_tradersOf hI hq3) rfl ml_X2_119 im_X2_tradersOf se_X2_tradersOf ini_X2 co_X2_tradersOf hd_X2_tradersOf ⟨Nat.le_of_ble_eq_true rfl, Nat.le_of_ble_eq_true rfl⟩ (Nat.le_of_ble_eq_true rfl) dX2_tradeLowest_10 rfl (fun H locs hw => ?_)
        refine lv_istore_n (lv' := [(2, .int v4), (0, .ref (ad 25)), (1, .int x1_2_1)]) hx hb dX2_tradeLowest_13 rfl hl (by decide) rfl (fun ls hl => ?_)
        refine lv_iload_n hx hb dX2_tradeLowest_14 rfl (lv_at hl 0 rfl) ?_
        refine lv_if_eq (tgt := 37) hx hb dX2_tradeLowest_15 (by decide) (fun c6 => ?_) (fun c6 => ?_)
        · have hf := (if_pos c6).symm.trans hf
          obtain ⟨v7, ev7, hf⟩ := wlet_some hf
          refine lv_iinc (v := v7) (lv' := [(1, .int v7), (2, .int v4), (0, .ref (ad 25))]) hx hb dX2_tradeLowest_37 hl (k := 2) rfl (by rw [ev7]; rfl) (by decide) rfl (fun ls hl => ?_)
          refine lv_goto (tgt := 2) hx hb dX2_tradeLowest_40 (by decide) ?_
          exact ih2_1 σ5 v7 (lp_leaf hf hz2_1) ls H locs (lv_sub hl [2, 0] rfl) hw
        · have hf := (if_neg c6).symm.trans hf
          refine lv_aload_n hx hb dX2_tradeLowest_18 rfl (lv_at hl 1 rfl) ?_
          refine lv_aload_n hx hb dX2_tradeLowest_19 rfl (lv_at hl 1 rfl) ?_
          refine lv_iload_n hx hb dX2_tradeLowest_20 rfl (lv_at hl 2 rfl) ?_
          obtain ⟨v9, hq8, hf⟩ := bind_some hf
          refine wr_cVi (r := v9) (σ' := σ5) (av := [.int x1_2_1]) (rest := [.ref (ad 25)]) X hw hl.1 sC25 nC25 rfl (k_X2_placeInRow hI hq8) rfl ml_X2_106 im_X2_placeInRow se_X2_placeInRow ini_X2 co_X2_placeInRow hd_X2_placeInRow ⟨Nat.le_of_ble_eq_true rfl, Nat.le_of_ble_eq_true rfl⟩ (Nat.le_of_ble_eq_true rfl) dX2_tradeLowest_21 rfl (fun H locs hw => ?_)
          refine lv_aload_n hx hb dX2_tradeLowest_24 rfl (lv_at hl 1 rfl) ?_
          refine lv_iload_n hx hb dX2_tradeLowest_25 rfl (lv_at hl 0 rfl) ?_
          obtain ⟨v11, hq10, hf⟩ := bind_some hf
          refine wr_cSi (r := v11) (σ' := σ5) (av := [.int v4]) (rest := [.ref (ad 25), .int v9, .ref (ad 25)]) X hw hl.1 (k_J6_numberOfTrailingZeros_0f7a4 hI hq10) rfl ml_X2_122 st_J6_numberOfTrailingZeros_0f7a4 ini_J6 co_J6_numberOfTrailingZeros_0f7a4 hd_J6_numberOfTrailingZeros_0f7a4 ⟨Nat.le_of_ble_eq_true rfl, Nat.le_of_ble_eq_true rfl⟩ (Nat.le_of_ble_eq_true rfl) dX2_tradeLowest_26 rfl (fun H locs hw => ?_)
          obtain ⟨v13, hq12, hf⟩ := bind_some hf
          refine wr_cVi (r := v13) (σ' := σ5) (av := [.int v11]) (rest := [.int v9, .ref (ad 25)]) X hw hl.1 sC25 nC25 rfl (k_X2_placeInRow hI hq12) rfl ml_X2_106 im_X2_placeInRow se_X2_placeInRow ini_X2 co_X2_placeInRow hd_X2_placeInRow ⟨Nat.le_of_ble_eq_true rfl, Nat.le_of_ble_eq_true rfl⟩ (Nat.le_of_ble_eq_true rfl) dX2_tradeLowest_29 rfl (fun H locs hw => ?_)
          obtain ⟨σ15, hq14, hf⟩ := bind_some hf
          refine wr_cVv (σ' := σ15) (av := [.int v9, .int v13]) (rest := []) X hw hl.1 sC25 nC25 rfl (k_X2_exchange hI hq14) rfl ml_X2_74 im_X2_exchange se_X2_exchange ini_X2 co_X2_exchange hd_X2_exchange ⟨Nat.le_of_ble_eq_true rfl, Nat.le_of_ble_eq_true rfl⟩ (Nat.le_of_ble_eq_true rfl) dX2_tradeLowest_32 rfl (fun H locs hw => ?_)
          refine lv_iconst (v := 1) hx hb dX2_tradeLowest_35 (by decide) ?_
          have e2_1 := lpK_inr (lp_leaf hf hz2_1)
          have hf := sumk_r hE2_1 e2_1
          have er := Option.some.inj hf
          subst er
          exact wr_iret X hw hr (Or.inr ⟨rfl, (show bz (1 : Int32) = true from rfl)⟩) dX2_tradeLowest_36
  exact lo2_1 fuel σ (0 : Int32) hq2_1 ls H locs (lv_sub hl [1, 0] rfl) hw

def f_X2_countTrades (σ : St)  : Option (Int32 × St) := wlet (un2 (fun (σ2_1 : St) (x1_2_1 : Int32) => if (50 : Int32) < x1_2_1 then (some (.inr (.inl σ2_1))) else (bnd2 (f_X2_tradeLowest σ2_1) fun v4 σ5 => if v4 = 0 then (some (.inr (.inr (x1_2_1, σ5)))) else (wlet (x1_2_1 + (1 : Int32)) fun v7 => some (.inl (σ5, v7))))) : St × Int32 → Option ((St × Int32) ⊕ ((St) ⊕ (Int32 × St)))) fun st2_1 => Option.bind (lp st2_1 fuel (σ, (0 : Int32))) (sumk (fun (σe2_1 : St) => some ((-2 : Int32), σe2_1)) (fun m => some m))
theorem hd_X2_countTrades : yX2_countTrades.cls = RX2 ∧ yX2_countTrades.cls ≠ "java/lang/invoke/MethodHandle" ∧ yX2_countTrades.cls ≠ "java/lang/invoke/VarHandle" ∧ (parseMethodDescriptor yX2_countTrades.desc).map (fun d => d.parameters.length) = some 0 := by decide +kernel
set_option maxRecDepth 100000 in
set_option maxHeartbeats 4000000 in
theorem k_X2_countTrades {l : Launch} {ad : Nat → Nat} {D : va_G} {cy : Nat → ClassId} {z : wStr} (hI : wI WC ad) {σ : St}   {res : Int32 × St} (hf : f_X2_countTrades σ  = some res) : wC WC ad D cy z l yX2_countTrades (Cond.code yX2_countTrades cX2_countTrades 2 (Option.some Jvm.ClassFile.FieldType.int) :: aw) (7) (235) [.ref (ad 25)] σ (wQi WC ad D cy res.1 res.2) := by
  unfold f_X2_countTrades at hf
  refine wr_start (own := RX2) hI (by decide +kernel) rfl (Nat.le_of_ble_eq_true rfl) rfl ?_
  intro p e s m below meth c ls X hw hr hl
  have hx := X.hx
  have hb := X.hb
  obtain ⟨H, eH⟩ : ∃ H : Heap, H = s.heap := ⟨_, rfl⟩
  obtain ⟨locs, el⟩ : ∃ locs : List Loc, locs = [] := ⟨_, rfl⟩
  rw [← eH, ← el] at hw ⊢
  clear eH el
  replace hl : lv_has ls 2 [(0, .ref (ad 25))] := hl
  refine lv_iconst (v := 0) hx hb dX2_countTrades_0 (by decide) ?_
  refine lv_istore_n (lv' := [(1, .int (0 : Int32)), (0, .ref (ad 25))]) hx hb dX2_countTrades_1 rfl hl (by decide) rfl (fun ls hl => ?_)
  obtain ⟨st2_1, est2_1, hf⟩ := wlet_some hf
  obtain ⟨E2_1, hq2_1, hE2_1⟩ := bind_some hf
  have hx2_1 : ∀ (σe2_1 : St) (_ : Sum.inl σe2_1 = E2_1) (ls : Array Slot) (H : Heap) (locs : List Loc), lv_has ls 2 [] → wH WC ad D cy s σe2_1 H locs → W p l e { frames := 7, cells := 0, slots := 0, locals := 235 } s m [.ref (ad 25)].toArray below meth c H locs 0 0 (MQ below (wQi WC ad D cy res.1 res.2) [.ref (ad 25)].toArray s 0 0 (wA WC ad)) (F0 m 23 ls []) := by
    intro σe2_1 e0 ls H locs hl hw
    have hf := sumk_l hE2_1 e0
    refine lv_bipush (v := -2) hx hb dX2_countTrades_23 (by decide) ?_
    have er := Option.some.inj hf
    subst er
    exact wr_iret X hw hr (Or.inl rfl) dX2_countTrades_25
  have lo2_1 : ∀ (n : Nat) (σ2_1 : St) (x1_2_1 : Int32) (_ : lp st2_1 n (σ2_1, x1_2_1) = some E2_1) (ls : Array Slot) (H : Heap) (locs : List Loc), lv_has ls 2 [(0, .ref (ad 25)), (1, .int x1_2_1)] → wH WC ad D cy s σ2_1 H locs → W p l e { frames := 7, cells := 0, slots := 0, locals := 235 } s m [.ref (ad 25)].toArray below meth c H locs 0 0 (MQ below (wQi WC ad D cy res.1 res.2) [.ref (ad 25)].toArray s 0 0 (wA WC ad)) (F0 m 2 ls []) := by
    intro n
    induction n with
    | zero =>
      intro σ2_1 x1_2_1 hf ls H locs hl hw
      exact (lp_zero hf).elim
    | succ n ih2_1 =>
      intro σ2_1 x1_2_1 hf ls H locs hl hw
      obtain ⟨q2_1, hf, hz2_1⟩ := lp_succ hf
      rw [est2_1] at hf
      replace hf := un2_some hf
      refine lv_iload_n hx hb dX2_countTrades_2 rfl (lv_at hl 1 rfl) ?_
      refine lv_bipush (v := 50) hx hb dX2_countTrades_3 (by decide) ?_
      refine lv_icmp_gt (tgt := 23) hx hb dX2_countTrades_5 (by decide) (fun c2 => ?_) (fun c2 => ?_)
      · have hf := (if_pos c2).symm.trans hf
        exact hx2_1 σ2_1 (lpK_inr (lp_leaf hf hz2_1)) ls H locs (lv_sub hl [] rfl) hw
      · have hf := (if_neg c2).symm.trans hf
        refine lv_aload_n hx hb dX2_countTrades_8 rfl (lv_at hl 0 rfl) ?_
        obtain ⟨v4, σ5, hq3, hf⟩ := bnd2_some hf
        refine wr_cVi (r := v4) (σ' := σ5) (av := []) (rest := []) X hw hl.1 sC25 nC25 rfl (k_X2_tradeLowest hI hq3) rfl ml_X2_116 im_X2_tradeLowest se_X2_tradeLowest ini_X2 co_X2_tradeLowest hd_X2_tradeLowest ⟨Nat.le_of_ble_eq_true rfl, Nat.le_of_ble_eq_true rfl⟩ (Nat.le_of_ble_eq_true rfl) dX2_countTrades_9 rfl (fun H locs hw => ?_)
        refine lv_if_ne (tgt := 17) hx hb dX2_countTrades_12 (by decide) (fun c6 => ?_) (fun c6 => ?_)
        · have hf := (if_neg c6).symm.trans hf
          obtain ⟨v7, ev7, hf⟩ := wlet_some hf
          refine lv_iinc (v := v7) (lv' := [(1, .int v7), (0, .ref (ad 25))]) hx hb dX2_countTrades_17 hl (k := 1) rfl (by rw [ev7]; rfl) (by decide) rfl (fun ls hl => ?_)
          refine lv_goto (tgt := 2) hx hb dX2_countTrades_20 (by decide) ?_
          exact ih2_1 σ5 v7 (lp_leaf hf hz2_1) ls H locs (lv_sub hl [1, 0] rfl) hw
        · have hf := (if_pos c6).symm.trans hf
          refine lv_iload_n hx hb dX2_countTrades_15 rfl (lv_at hl 1 rfl) ?_
          have e2_1 := lpK_inr (lp_leaf hf hz2_1)
          have hf := sumk_r hE2_1 e2_1
          have er := Option.some.inj hf
          subst er
          exact wr_iret X hw hr (Or.inl rfl) dX2_countTrades_16
  exact lo2_1 fuel σ (0 : Int32) hq2_1 ls H locs (lv_sub hl [1, 0] rfl) hw
