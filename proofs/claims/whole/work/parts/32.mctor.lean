/-- the reference's object with the first j rows made -/
def wm (σ : St) (j : Nat) (ad : Nat → Nat) : List Value := (List.range 59).map fun k => if fk 11 k = 0 then Value.int (σ.1 0 k) else if fk 11 k = 1 then Value.long (σ.2 0 k) else if rfML.getD k 0 ≤ j then Value.ref (ad (rfML.getD k 0)) else Value.null
def Gm (cy : Nat → ClassId) (σ : St) (j : Nat) (ad : Nat → Nat) (i : Nat) : va_E := if i = 0 then .inr (11, wm σ j ad) else went WM ad cy σ i
theorem wm_len {σ : St} {j : Nat} {ad : Nat → Nat} : (wm σ j ad).length = 59 := by simp [wm]
theorem rfML_inj : ∀ a, a < 59 → ∀ b, b < 59 → fk 11 a = 2 → fk 11 b = 2 → rfML.getD a 0 = rfML.getD b 0 → a = b := by decide +kernel
theorem fk11 : ∀ a, a < 59 → fk 11 a = 0 ∨ fk 11 a = 2 := by decide +kernel
theorem wm_set {σ : St} {j k : Nat} {ad : Nat → Nat} (hk : k < 59) (h2 : fk 11 k = 2) (hj : rfML.getD k 0 = j + 1) : (wm σ j ad).set k (.ref (ad (j + 1))) = wm σ (j + 1) ad := by
  apply List.ext_getElem?
  intro i
  by_cases hi : i < 59
  · by_cases hik : i = k
    · subst hik
      rw [List.getElem?_set_self (by rw [wm_len]; exact hi)]
      simp only [wm, List.getElem?_map, List.getElem?_range hi, Option.map_some]
      rw [if_neg (by omega), if_neg (by omega), if_pos (by omega), hj]
    · rw [List.getElem?_set_ne (Ne.symm hik)]
      simp only [wm, List.getElem?_map, List.getElem?_range hi, Option.map_some]
      rcases fk11 i hi with h | h
      · rw [if_pos h, if_pos h]
      · have n0 : ¬ fk 11 i = 0 := by omega
        have n1 : ¬ fk 11 i = 1 := by omega
        rw [if_neg n0, if_neg n1, if_neg n0, if_neg n1]
        have hne : rfML.getD i 0 ≠ j + 1 := fun e => hik (rfML_inj i hi k hk h h2 (e.trans hj.symm))
        by_cases h3 : rfML.getD i 0 ≤ j
        · rw [if_pos h3, if_pos (by omega)]
        · rw [if_neg h3, if_neg (by omega)]
  · rw [List.getElem?_eq_none (by rw [List.length_set, wm_len]; omega), List.getElem?_eq_none (by rw [wm_len]; omega)]
theorem wm_put {σ : St} {j k : Nat} {ad : Nat → Nat} {v : Int32} (h0 : fk 11 k = 0) : (wm σ j ad).set k (.int v) = wm (si σ 0 k v) j ad := by
  apply List.ext_getElem?
  intro i
  by_cases hi : i < 59
  · by_cases hik : i = k
    · subst hik
      rw [List.getElem?_set_self (by rw [wm_len]; exact hi)]
      simp only [wm, List.getElem?_map, List.getElem?_range hi, Option.map_some]
      rw [if_pos h0]
      simp [si, upd]
    · rw [List.getElem?_set_ne (Ne.symm hik)]
      simp only [wm, List.getElem?_map, List.getElem?_range hi, Option.map_some]
      simp [si, upd, hik]
  · rw [List.getElem?_eq_none (by rw [List.length_set, wm_len]; omega), List.getElem?_eq_none (by rw [wm_len]; omega)]
theorem wm_up {σ : St} {j q : Nat} {ad : Nat → Nat} : wm σ j (va_up ad (j + 1) q) = wm σ j ad := by
  unfold wm
  apply List.map_congr_left
  intro k _
  by_cases h : rfML.getD k 0 ≤ j
  · rw [if_pos h, if_pos h, show va_up ad (j + 1) q (rfML.getD k 0) = ad (rfML.getD k 0) from if_neg (by omega)]
  · rw [if_neg h, if_neg h]
theorem rfML_le : ∀ a, a < 59 → rfML.getD a 0 ≤ 37 := by decide +kernel
theorem wm_all {σ : St} {ad : Nat → Nat} : wm σ 37 ad = wfld WM ad σ 11 59 0 := by
  unfold wm wfld
  apply List.map_congr_left
  intro k hk
  rw [if_pos (rfML_le k (List.mem_range.mp hk))]
  rfl
theorem WM_arr : ∀ i, i < 38 → 0 < i → 1 ≤ (WM.1 i).1 ∧ (WM.1 i).1 ≤ 4 := by decide +kernel
theorem went_arr {ad ad' : Nat → Nat} {cy : Nat → ClassId} {σ : St} {i : Nat} (h : i < 38) (h0 : 0 < i) : went WM ad cy σ i = went WM ad' cy σ i := by
  have h1 := WM_arr i h h0
  obtain ⟨t, n, x, e⟩ : ∃ t n x, WM.1 i = (t, n, x) := ⟨_, _, _, rfl⟩
  rw [e] at h1
  have h1 : 1 ≤ t ∧ t ≤ 4 := h1
  match t, h1, e with
  | 1, _, e => rw [went_i e, went_i e]
  | 2, _, e => rw [went_j e, went_j e]
  | 3, _, e => rw [went_b e, went_b e]
  | 4, _, e => rw [went_z e, went_z e]
section MROWS
variable {p : Program} {l : Launch} {e : Env} {R : Room} {s : State} {m : MethodId} {args : Array Value} {below : List Frame} {meth : Method} {c : Code} {H : Heap} {locs : List Loc} {cells slots : Nat} {Q : State → Prop} {cc : ByteArray} {pc nL : Nat} {ls : Array Slot} {rest : List Value} {y0 : Cond} {ad : Nat → Nat} {D : va_G} {cy : Nat → ClassId} {z : wStr} {b0 h0 j : Nat} {σ : St}
theorem mc_new {q : Nat} {e1 : va_E} (hw : cH D s h0 (va_up ad (j + 1) q) (va_up (Gm cy σ j ad) (j + 1) e1) (j + 1 + 1) H locs) (hj : j + 1 < 38) (he : ∀ ad, went WM ad cy σ (j + 1) = e1) : cH D s h0 (va_up ad (j + 1) q) (Gm cy σ j (va_up ad (j + 1) q)) (j + 1 + 1) H locs := by
  refine hw.congr (fun i hi => ?_)
  by_cases h1 : i = j + 1
  · subst h1
    rw [show va_up _ (j + 1) e1 (j + 1) = e1 from if_pos rfl, Gm, if_neg (by omega), he]
  · rw [show va_up _ (j + 1) e1 i = _ from if_neg h1, Gm, Gm]
    by_cases h2 : i = 0
    · rw [if_pos h2, if_pos h2, wm_up]
    · rw [if_neg h2, if_neg h2]
      exact went_arr (by omega) (by omega)
/-- a row made and put into its field -/
theorem mc_step (X : cX p m c cc nL s args meth y0 RX11 D cy z b0 h0) (hn : meth.name = "<init>") (hlt : h0 < s.heap.size) (hw : cH D s h0 ad (Gm cy σ j ad) (j + 1) H locs) (hj : j + 1 < 38) {atype : ArrayType} {ty : FieldType} (harr : Cond.arrayClass (newarray.typeOf atype) ∈ aw) (hty : newarray.typeOf atype = ty) (t : Nat) (ht : (wtys cy)[t]? = some (cy t, ty)) (htt : ty = .int ∨ ty = .long ∨ ty = .byte ∨ ty = .boolean ∨ ty = .object "CaseBefore$State") {n : Int32} {N' : Nat} {a0 : vp_A} (ha : ∀ cA : ClassId, vp_cell cA a0 = arrV cA N' (fun _ => defaultValue ty)) (hn0 : ¬ n < 0) (hN : n.toNatClampNeg = N') (hbytes : N' * componentBytes ty ≤ 536870912) (hcells : cells + 1 ≤ R.cells) (hslots : slots + N' ≤ R.slots) (hdg : decode cc pc = .ok (.newarray atype, 2)) (he : ∀ ad, went WM ad cy σ (j + 1) = .inl (cy t, a0))
    (k : Nat) (hk : k < 59) (h2 : fk 11 k = 2) (hkj : rfML.getD k 0 = j + 1) {nm ds : String} (hT : (TX11 k).1 = RX11 ∧ (TX11 k).2.1 = nm ∧ (TX11 k).2.2.1 = ds) (hfin : (TX11 k).2.2.2 = true) {q9 : FieldType} (hd : parseFieldDescriptor ds = some (.array q9)) {index : Nat} (hlink : Cond.fieldLink RX11 index RX11 nm ds ∈ aw) (hdg2 : decode cc (pc + 2) = .ok (.putfield index, 3))
    (kk : ∀ (ad' : Nat → Nat) (H1 : Heap) (locs1 : List Loc), cH D s h0 ad' (Gm cy σ (j + 1) ad') (j + 1 + 1) H1 locs1 → W p l e R s m args below meth c H1 locs1 (cells + 1) (slots + N') Q (F0 m (pc + 2 + 3) ls rest)) : W p l e R s m args below meth c H locs cells slots Q (F0 m pc ls (.int n :: .ref h0 :: rest)) := by
  refine cr_newa X hw harr hty t ht htt ha hn0 hN hbytes hcells hslots hdg (fun q H hw => ?_)
  have hw := mc_new hw hj he
  have h00 : va_up ad (j + 1) q 0 = h0 := (hw.2.2.2 hlt).2
  refine cr_putF (ty := .array q9) X hw hn uw11 tyX11 tyX11_ok nmX11 (ci := 11) rfl 0 (by omega) h00.symm (fs := wm σ j (va_up ad (j + 1) q)) (by rw [Gm, if_pos rfl]) k hk hT hfin rfl hd rfl rfl (by rw [wm_len]; exact hk) hlink hdg2 (fun H1 locs1 hw _ => kk (va_up ad (j + 1) q) H1 locs1 (hw.congr (fun i hi => ?_)))
  by_cases h3 : i = 0
  · subst h3
    rw [show va_up _ 0 _ 0 = _ from if_pos rfl, Gm, if_pos rfl]
    have e2 := wm_set (σ := σ) (ad := va_up ad (j + 1) q) hk h2 hkj
    rw [show va_up ad (j + 1) q (j + 1) = q from if_pos rfl] at e2
    rw [← e2]
  · rw [show va_up _ 0 _ i = _ from if_neg h3, Gm, Gm, if_neg h3, if_neg h3]
theorem mc_put (X : cX p m c cc nL s args meth y0 RX11 D cy z b0 h0) (hlt : h0 < s.heap.size) (hw : cH D s h0 ad (Gm cy σ j ad) (j + 1) H locs) (hj : j < 38) (k : Nat) (hk : k < 59) (h2 : fk 11 k = 0) {nm ds : String} (hT : (TX11 k).1 = RX11 ∧ (TX11 k).2.1 = nm ∧ (TX11 k).2.2.1 = ds) (hfin : (TX11 k).2.2.2 = false) (hd : parseFieldDescriptor ds = some .int) {v : Int32} {index : Nat} (hlink : Cond.fieldLink RX11 index RX11 nm ds ∈ aw) (hdg : decode cc pc = .ok (.putfield index, 3))
    (kk : ∀ (H1 : Heap) (locs1 : List Loc), cH D s h0 ad (Gm cy (si σ 0 k v) j ad) (j + 1) H1 locs1 → W p l e R s m args below meth c H1 locs1 cells slots Q (F0 m (pc + 3) ls rest)) : W p l e R s m args below meth c H locs cells slots Q (F0 m pc ls (.int v :: .ref h0 :: rest)) := by
  refine cr_put (ty := .int) (v := .int v) X hw uw11 tyX11 tyX11_ok nmX11 (ci := 11) rfl 0 (by omega) (hw.2.2.2 hlt).2.symm (fs := wm σ j ad) (by rw [Gm, if_pos rfl]) k hk hT hfin hd rfl rfl (by rw [wm_len]; exact hk) hlink hdg (fun H1 locs1 hw _ => kk H1 locs1 (hw.congr (fun i hi => ?_)))
  by_cases h3 : i = 0
  · subst h3
    rw [show va_up _ 0 _ 0 = _ from if_pos rfl, Gm, if_pos rfl, wm_put h2]
  · rw [show va_up _ 0 _ i = _ from if_neg h3, Gm, Gm, if_neg h3, if_neg h3]
    exact (went_same (si_ne h3) rfl).symm
end MROWS
def gs (o : Option St) : St := o.getD σz
theorem gs_ok {o : Option St} (h : o.isSome = true) : o = some (gs o) := by
  cases o with
  | none => cases h
  | some x => rfl
def σm0 : St := (si σz 0 17 (-1))
def σm1 : St := gs (f_X11_plain σm0 0)
theorem σm1_ok : f_X11_plain σm0 0 = some σm1 := gs_ok (by decide +kernel)
def σm2 : St := gs (f_X11_plain σm1 1)
theorem σm2_ok : f_X11_plain σm1 1 = some σm2 := gs_ok (by decide +kernel)
def σm3 : St := sj σm2 7 (Int32.toNatClampNeg 0) (60296)
def σm4 : St := sj σm3 7 (Int32.toNatClampNeg 1) (31484543)
def σm5 : St := sj σm4 7 (Int32.toNatClampNeg 2) (90085)
def σm6 : St := sj σm5 7 (Int32.toNatClampNeg 3) (323812)
def σm7 : St := sj σm6 7 (Int32.toNatClampNeg 4) (4514)
def σm8 : St := sj σm7 7 (Int32.toNatClampNeg 5) (12161922706)
def σm9 : St := sj σm8 7 (Int32.toNatClampNeg 6) (377761)
def σm10 : St := sj σm9 7 (Int32.toNatClampNeg 7) (249)
def σm11 : St := sj σm10 7 (Int32.toNatClampNeg 8) (399641)
def σm12 : St := sj σm11 7 (Int32.toNatClampNeg 9) (107681)
def σm13 : St := sj σm12 7 (Int32.toNatClampNeg 10) (82516)
def σm14 : St := sj σm13 7 (Int32.toNatClampNeg 11) (11570)
def σm15 : St := sj σm14 7 (Int32.toNatClampNeg 12) (8930039)
def σm16 : St := sj σm15 7 (Int32.toNatClampNeg 13) (8740067)
def σm17 : St := sj σm16 7 (Int32.toNatClampNeg 14) (7443212162)
def σm18 : St := sj σm17 7 (Int32.toNatClampNeg 15) (12387257)
def σm19 : St := sj σm18 7 (Int32.toNatClampNeg 16) (1628011)
def σm20 : St := sj σm19 7 (Int32.toNatClampNeg 17) (323815)
def σm21 : St := sj σm20 7 (Int32.toNatClampNeg 18) (149099)
def σm22 : St := gs (f_X11_begins σm21 )
theorem σm22_ok : f_X11_begins σm21  = some σm22 := gs_ok (by decide +kernel)
def σm23 : St := gs (f_X11_keepsRow σm22 )
theorem σm23_ok : f_X11_keepsRow σm22  = some σm23 := gs_ok (by decide +kernel)
/-- the reference as its constructor leaves it -/
def σM : St := σm23
set_option maxRecDepth 100000 in
set_option maxHeartbeats 4000000 in
theorem n_X11 {l : Launch} {D : va_G} {cy : Nat → ClassId} {z : wStr} {b0 h0 sz : Nat} (hb0 : b0 ≤ h0) : cC D cy z l yX11_init (Cond.code yX11_init cX11_init 1 none :: aw) 3 148 37 10402 b0 h0 sz [] (.inr (11, bkX11)) (fun ad => went WM ad cy σM) 38 := by
  refine cr_start (own := RX11) hb0 (by decide +kernel) rfl (Nat.le_of_ble_eq_true rfl) rfl rfl ?_
  intro p e s m below meth c ls X hn hsz hlt hw hr hl
  have hx := X.hx
  have hb := X.hb
  replace hl : lv_has ls 1 [(0, .ref h0)] := hl
  subst hsz
  obtain ⟨H, eH⟩ : ∃ H : Heap, H = s.heap := ⟨_, rfl⟩
  obtain ⟨locs, el⟩ : ∃ locs : List Loc, locs = [] := ⟨_, rfl⟩
  have hlo : ∀ x ∈ locs, cB (fun _ => h0) 1 x.base := by rw [el]; intro x hx; cases hx
  rw [← el] at hw ⊢
  rw [show cH D s h0 (fun _ => h0) (fun _ => .inr (11, bkX11)) 1 s.heap locs = cH D s h0 (fun _ => h0) (fun _ => .inr (11, bkX11)) 1 H locs by rw [eH]] at hw
  rw [show W p l e { frames := 3, cells := 37, slots := 10402, locals := 148 } s m (.ref h0 :: []).toArray below meth c s.heap locs = W p l e { frames := 3, cells := 37, slots := 10402, locals := 148 } s m (.ref h0 :: []).toArray below meth c H locs by rw [eH]]
  clear eH el
  refine lv_aload_n hx hb dX11_init_0 rfl (lv_at hl 0 rfl) ?_
  refine cr_obj X hl.1 ml_X11_7 dX11_init_1 (Nat.le_of_ble_eq_true rfl) (Nat.le_of_ble_eq_true rfl) ?_
  have hw := hw.congr (F2 := Gm cy σz 0 (fun _ => h0)) (fun i hi => by
    match i, hi with
    | 0, _ => rfl)
  obtain ⟨ad, eA, hw⟩ : ∃ ad, ad = (fun _ => h0) ∧ cH D s h0 ad (Gm cy σz 0 ad) (0 + 1) H locs := ⟨_, rfl, hw⟩
  clear eA hlo
  refine lv_aload_n hx hb dX11_init_4 rfl (lv_at hl 0 rfl) ?_
  refine lv_sipush (v := 2000) hx hb dX11_init_5 (by decide) ?_
  refine mc_step (atype := .byte) (ty := .byte) X hn hlt hw (by decide) arc_byte rfl 2 rfl (Or.inr (Or.inr (Or.inl rfl))) (N' := 2000) (a0 := (2000, .inl (fun _ => 0))) (fun _ => rfl) (by decide) (by decide) (by decide) (Nat.le_of_ble_eq_true rfl) (Nat.le_of_ble_eq_true rfl) dX11_init_8 (fun _ => rfl) 1 (by decide) rfl rfl ⟨rfl, rfl, rfl⟩ rfl (q9 := .byte) (tyX11_ok 1 (by decide)) fl_X11_13 dX11_init_10 (fun ad H locs hw => ?_)
  refine lv_aload_n hx hb dX11_init_13 rfl (lv_at hl 0 rfl) ?_
  refine lv_sipush (v := 2000) hx hb dX11_init_14 (by decide) ?_
  refine mc_step (atype := .byte) (ty := .byte) X hn hlt hw (by decide) arc_byte rfl 2 rfl (Or.inr (Or.inr (Or.inl rfl))) (N' := 2000) (a0 := (2000, .inl (fun _ => 0))) (fun _ => rfl) (by decide) (by decide) (by decide) (Nat.le_of_ble_eq_true rfl) (Nat.le_of_ble_eq_true rfl) dX11_init_17 (fun _ => rfl) 3 (by decide) rfl rfl ⟨rfl, rfl, rfl⟩ rfl (q9 := .byte) (tyX11_ok 3 (by decide)) fl_X11_17 dX11_init_19 (fun ad H locs hw => ?_)
  refine lv_aload_n hx hb dX11_init_22 rfl (lv_at hl 0 rfl) ?_
  refine lv_sipush (v := 403) hx hb dX11_init_23 (by decide) ?_
  refine mc_step (atype := .int) (ty := .int) X hn hlt hw (by decide) arc_int rfl 0 rfl (Or.inl rfl) (N' := 403) (a0 := (403, .inl (fun _ => 0))) (fun _ => rfl) (by decide) (by decide) (by decide) (Nat.le_of_ble_eq_true rfl) (Nat.le_of_ble_eq_true rfl) dX11_init_26 (fun _ => rfl) 5 (by decide) rfl rfl ⟨rfl, rfl, rfl⟩ rfl (q9 := .int) (tyX11_ok 5 (by decide)) fl_X11_20 dX11_init_28 (fun ad H locs hw => ?_)
  refine lv_aload_n hx hb dX11_init_31 rfl (lv_at hl 0 rfl) ?_
  refine lv_sipush (v := 403) hx hb dX11_init_32 (by decide) ?_
  refine mc_step (atype := .int) (ty := .int) X hn hlt hw (by decide) arc_int rfl 0 rfl (Or.inl rfl) (N' := 403) (a0 := (403, .inl (fun _ => 0))) (fun _ => rfl) (by decide) (by decide) (by decide) (Nat.le_of_ble_eq_true rfl) (Nat.le_of_ble_eq_true rfl) dX11_init_35 (fun _ => rfl) 6 (by decide) rfl rfl ⟨rfl, rfl, rfl⟩ rfl (q9 := .int) (tyX11_ok 6 (by decide)) fl_X11_24 dX11_init_37 (fun ad H locs hw => ?_)
  refine lv_aload_n hx hb dX11_init_40 rfl (lv_at hl 0 rfl) ?_
  refine lv_sipush (v := 403) hx hb dX11_init_41 (by decide) ?_
  refine mc_step (atype := .int) (ty := .int) X hn hlt hw (by decide) arc_int rfl 0 rfl (Or.inl rfl) (N' := 403) (a0 := (403, .inl (fun _ => 0))) (fun _ => rfl) (by decide) (by decide) (by decide) (Nat.le_of_ble_eq_true rfl) (Nat.le_of_ble_eq_true rfl) dX11_init_44 (fun _ => rfl) 7 (by decide) rfl rfl ⟨rfl, rfl, rfl⟩ rfl (q9 := .int) (tyX11_ok 7 (by decide)) fl_X11_27 dX11_init_46 (fun ad H locs hw => ?_)
  refine lv_aload_n hx hb dX11_init_49 rfl (lv_at hl 0 rfl) ?_
  refine lv_sipush (v := 403) hx hb dX11_init_50 (by decide) ?_
  refine mc_step (atype := .long) (ty := .long) X hn hlt hw (by decide) arc_long rfl 1 rfl (Or.inr (Or.inl rfl)) (N' := 403) (a0 := (403, .inr (.inl (fun _ => 0)))) (fun _ => rfl) (by decide) (by decide) (by decide) (Nat.le_of_ble_eq_true rfl) (Nat.le_of_ble_eq_true rfl) dX11_init_53 (fun _ => rfl) 8 (by decide) rfl rfl ⟨rfl, rfl, rfl⟩ rfl (q9 := .long) (tyX11_ok 8 (by decide)) fl_X11_30 dX11_init_55 (fun ad H locs hw => ?_)
  refine lv_aload_n hx hb dX11_init_58 rfl (lv_at hl 0 rfl) ?_
  refine lv_bipush (v := 19) hx hb dX11_init_59 (by decide) ?_
  refine mc_step (atype := .long) (ty := .long) X hn hlt hw (by decide) arc_long rfl 1 rfl (Or.inr (Or.inl rfl)) (N' := 19) (a0 := (19, .inr (.inl (fun _ => 0)))) (fun _ => rfl) (by decide) (by decide) (by decide) (Nat.le_of_ble_eq_true rfl) (Nat.le_of_ble_eq_true rfl) dX11_init_61 (fun _ => rfl) 9 (by decide) rfl rfl ⟨rfl, rfl, rfl⟩ rfl (q9 := .long) (tyX11_ok 9 (by decide)) fl_X11_34 dX11_init_63 (fun ad H locs hw => ?_)
  refine lv_aload_n hx hb dX11_init_66 rfl (lv_at hl 0 rfl) ?_
  refine lv_iconst (v := -1) hx hb dX11_init_67 (by decide) ?_
  refine mc_put X hlt hw (by decide) 17 (by decide) rfl ⟨rfl, rfl, rfl⟩ rfl rfl fl_X11_37 dX11_init_68 (fun H locs hw => ?_)
  refine lv_aload_n hx hb dX11_init_71 rfl (lv_at hl 0 rfl) ?_
  refine lv_bipush (v := 7) hx hb dX11_init_72 (by decide) ?_
  refine mc_step (atype := .long) (ty := .long) X hn hlt hw (by decide) arc_long rfl 1 rfl (Or.inr (Or.inl rfl)) (N' := 7) (a0 := (7, .inr (.inl (fun _ => 0)))) (fun _ => rfl) (by decide) (by decide) (by decide) (Nat.le_of_ble_eq_true rfl) (Nat.le_of_ble_eq_true rfl) dX11_init_74 (fun _ => rfl) 21 (by decide) rfl rfl ⟨rfl, rfl, rfl⟩ rfl (q9 := .long) (tyX11_ok 21 (by decide)) fl_X11_40 dX11_init_76 (fun ad H locs hw => ?_)
  refine lv_aload_n hx hb dX11_init_79 rfl (lv_at hl 0 rfl) ?_
  refine lv_iconst (v := 2) hx hb dX11_init_80 (by decide) ?_
  refine mc_step (atype := .int) (ty := .int) X hn hlt hw (by decide) arc_int rfl 0 rfl (Or.inl rfl) (N' := 2) (a0 := (2, .inl (fun _ => 0))) (fun _ => rfl) (by decide) (by decide) (by decide) (Nat.le_of_ble_eq_true rfl) (Nat.le_of_ble_eq_true rfl) dX11_init_81 (fun _ => rfl) 22 (by decide) rfl rfl ⟨rfl, rfl, rfl⟩ rfl (q9 := .int) (tyX11_ok 22 (by decide)) fl_X11_43 dX11_init_83 (fun ad H locs hw => ?_)
  refine lv_aload_n hx hb dX11_init_86 rfl (lv_at hl 0 rfl) ?_
  refine lv_bipush (v := 14) hx hb dX11_init_87 (by decide) ?_
  refine mc_step (atype := .int) (ty := .int) X hn hlt hw (by decide) arc_int rfl 0 rfl (Or.inl rfl) (N' := 14) (a0 := (14, .inl (fun _ => 0))) (fun _ => rfl) (by decide) (by decide) (by decide) (Nat.le_of_ble_eq_true rfl) (Nat.le_of_ble_eq_true rfl) dX11_init_89 (fun _ => rfl) 23 (by decide) rfl rfl ⟨rfl, rfl, rfl⟩ rfl (q9 := .int) (tyX11_ok 23 (by decide)) fl_X11_46 dX11_init_91 (fun ad H locs hw => ?_)
  refine lv_aload_n hx hb dX11_init_94 rfl (lv_at hl 0 rfl) ?_
  refine lv_bipush (v := 14) hx hb dX11_init_95 (by decide) ?_
  refine mc_step (atype := .int) (ty := .int) X hn hlt hw (by decide) arc_int rfl 0 rfl (Or.inl rfl) (N' := 14) (a0 := (14, .inl (fun _ => 0))) (fun _ => rfl) (by decide) (by decide) (by decide) (Nat.le_of_ble_eq_true rfl) (Nat.le_of_ble_eq_true rfl) dX11_init_97 (fun _ => rfl) 24 (by decide) rfl rfl ⟨rfl, rfl, rfl⟩ rfl (q9 := .int) (tyX11_ok 24 (by decide)) fl_X11_49 dX11_init_99 (fun ad H locs hw => ?_)
  refine lv_aload_n hx hb dX11_init_102 rfl (lv_at hl 0 rfl) ?_
  refine lv_iconst (v := 2) hx hb dX11_init_103 (by decide) ?_
  refine mc_step (atype := .int) (ty := .int) X hn hlt hw (by decide) arc_int rfl 0 rfl (Or.inl rfl) (N' := 2) (a0 := (2, .inl (fun _ => 0))) (fun _ => rfl) (by decide) (by decide) (by decide) (Nat.le_of_ble_eq_true rfl) (Nat.le_of_ble_eq_true rfl) dX11_init_104 (fun _ => rfl) 25 (by decide) rfl rfl ⟨rfl, rfl, rfl⟩ rfl (q9 := .int) (tyX11_ok 25 (by decide)) fl_X11_52 dX11_init_106 (fun ad H locs hw => ?_)
  refine lv_aload_n hx hb dX11_init_109 rfl (lv_at hl 0 rfl) ?_
  refine lv_iconst (v := 2) hx hb dX11_init_110 (by decide) ?_
  refine mc_step (atype := .int) (ty := .int) X hn hlt hw (by decide) arc_int rfl 0 rfl (Or.inl rfl) (N' := 2) (a0 := (2, .inl (fun _ => 0))) (fun _ => rfl) (by decide) (by decide) (by decide) (Nat.le_of_ble_eq_true rfl) (Nat.le_of_ble_eq_true rfl) dX11_init_111 (fun _ => rfl) 26 (by decide) rfl rfl ⟨rfl, rfl, rfl⟩ rfl (q9 := .int) (tyX11_ok 26 (by decide)) fl_X11_55 dX11_init_113 (fun ad H locs hw => ?_)
  refine lv_aload_n hx hb dX11_init_116 rfl (lv_at hl 0 rfl) ?_
  refine lv_bipush (v := 8) hx hb dX11_init_117 (by decide) ?_
  refine mc_step (atype := .int) (ty := .int) X hn hlt hw (by decide) arc_int rfl 0 rfl (Or.inl rfl) (N' := 8) (a0 := (8, .inl (fun _ => 0))) (fun _ => rfl) (by decide) (by decide) (by decide) (Nat.le_of_ble_eq_true rfl) (Nat.le_of_ble_eq_true rfl) dX11_init_119 (fun _ => rfl) 27 (by decide) rfl rfl ⟨rfl, rfl, rfl⟩ rfl (q9 := .int) (tyX11_ok 27 (by decide)) fl_X11_58 dX11_init_121 (fun ad H locs hw => ?_)
  refine lv_aload_n hx hb dX11_init_124 rfl (lv_at hl 0 rfl) ?_
  refine lv_bipush (v := 8) hx hb dX11_init_125 (by decide) ?_
  refine mc_step (atype := .int) (ty := .int) X hn hlt hw (by decide) arc_int rfl 0 rfl (Or.inl rfl) (N' := 8) (a0 := (8, .inl (fun _ => 0))) (fun _ => rfl) (by decide) (by decide) (by decide) (Nat.le_of_ble_eq_true rfl) (Nat.le_of_ble_eq_true rfl) dX11_init_127 (fun _ => rfl) 28 (by decide) rfl rfl ⟨rfl, rfl, rfl⟩ rfl (q9 := .int) (tyX11_ok 28 (by decide)) fl_X11_61 dX11_init_129 (fun ad H locs hw => ?_)
  refine lv_aload_n hx hb dX11_init_132 rfl (lv_at hl 0 rfl) ?_
  refine lv_sipush (v := 260) hx hb dX11_init_133 (by decide) ?_
  refine mc_step (atype := .boolean) (ty := .boolean) X hn hlt hw (by decide) arc_boolean rfl 3 rfl (Or.inr (Or.inr (Or.inr (Or.inl rfl)))) (N' := 260) (a0 := (260, .inl (fun _ => 0))) (fun _ => rfl) (by decide) (by decide) (by decide) (Nat.le_of_ble_eq_true rfl) (Nat.le_of_ble_eq_true rfl) dX11_init_136 (fun _ => rfl) 30 (by decide) rfl rfl ⟨rfl, rfl, rfl⟩ rfl (q9 := .boolean) (tyX11_ok 30 (by decide)) fl_X11_64 dX11_init_138 (fun ad H locs hw => ?_)
  refine lv_aload_n hx hb dX11_init_141 rfl (lv_at hl 0 rfl) ?_
  refine lv_sipush (v := 260) hx hb dX11_init_142 (by decide) ?_
  refine mc_step (atype := .int) (ty := .int) X hn hlt hw (by decide) arc_int rfl 0 rfl (Or.inl rfl) (N' := 260) (a0 := (260, .inl (fun _ => 0))) (fun _ => rfl) (by decide) (by decide) (by decide) (Nat.le_of_ble_eq_true rfl) (Nat.le_of_ble_eq_true rfl) dX11_init_145 (fun _ => rfl) 31 (by decide) rfl rfl ⟨rfl, rfl, rfl⟩ rfl (q9 := .int) (tyX11_ok 31 (by decide)) fl_X11_68 dX11_init_147 (fun ad H locs hw => ?_)
  refine lv_aload_n hx hb dX11_init_150 rfl (lv_at hl 0 rfl) ?_
  refine lv_sipush (v := 260) hx hb dX11_init_151 (by decide) ?_
  refine mc_step (atype := .int) (ty := .int) X hn hlt hw (by decide) arc_int rfl 0 rfl (Or.inl rfl) (N' := 260) (a0 := (260, .inl (fun _ => 0))) (fun _ => rfl) (by decide) (by decide) (by decide) (Nat.le_of_ble_eq_true rfl) (Nat.le_of_ble_eq_true rfl) dX11_init_154 (fun _ => rfl) 32 (by decide) rfl rfl ⟨rfl, rfl, rfl⟩ rfl (q9 := .int) (tyX11_ok 32 (by decide)) fl_X11_71 dX11_init_156 (fun ad H locs hw => ?_)
  refine lv_aload_n hx hb dX11_init_159 rfl (lv_at hl 0 rfl) ?_
  refine lv_sipush (v := 260) hx hb dX11_init_160 (by decide) ?_
  refine mc_step (atype := .int) (ty := .int) X hn hlt hw (by decide) arc_int rfl 0 rfl (Or.inl rfl) (N' := 260) (a0 := (260, .inl (fun _ => 0))) (fun _ => rfl) (by decide) (by decide) (by decide) (Nat.le_of_ble_eq_true rfl) (Nat.le_of_ble_eq_true rfl) dX11_init_163 (fun _ => rfl) 33 (by decide) rfl rfl ⟨rfl, rfl, rfl⟩ rfl (q9 := .int) (tyX11_ok 33 (by decide)) fl_X11_74 dX11_init_165 (fun ad H locs hw => ?_)
  refine lv_aload_n hx hb dX11_init_168 rfl (lv_at hl 0 rfl) ?_
  refine lv_sipush (v := 260) hx hb dX11_init_169 (by decide) ?_
  refine mc_step (atype := .int) (ty := .int) X hn hlt hw (by decide) arc_int rfl 0 rfl (Or.inl rfl) (N' := 260) (a0 := (260, .inl (fun _ => 0))) (fun _ => rfl) (by decide) (by decide) (by decide) (Nat.le_of_ble_eq_true rfl) (Nat.le_of_ble_eq_true rfl) dX11_init_172 (fun _ => rfl) 34 (by decide) rfl rfl ⟨rfl, rfl, rfl⟩ rfl (q9 := .int) (tyX11_ok 34 (by decide)) fl_X11_77 dX11_init_174 (fun ad H locs hw => ?_)
  refine lv_aload_n hx hb dX11_init_177 rfl (lv_at hl 0 rfl) ?_
  refine lv_sipush (v := 840) hx hb dX11_init_178 (by decide) ?_
  refine mc_step (atype := .int) (ty := .int) X hn hlt hw (by decide) arc_int rfl 0 rfl (Or.inl rfl) (N' := 840) (a0 := (840, .inl (fun _ => 0))) (fun _ => rfl) (by decide) (by decide) (by decide) (Nat.le_of_ble_eq_true rfl) (Nat.le_of_ble_eq_true rfl) dX11_init_181 (fun _ => rfl) 36 (by decide) rfl rfl ⟨rfl, rfl, rfl⟩ rfl (q9 := .int) (tyX11_ok 36 (by decide)) fl_X11_80 dX11_init_183 (fun ad H locs hw => ?_)
  refine lv_aload_n hx hb dX11_init_186 rfl (lv_at hl 0 rfl) ?_
  refine lv_sipush (v := 840) hx hb dX11_init_187 (by decide) ?_
  refine mc_step (atype := .int) (ty := .int) X hn hlt hw (by decide) arc_int rfl 0 rfl (Or.inl rfl) (N' := 840) (a0 := (840, .inl (fun _ => 0))) (fun _ => rfl) (by decide) (by decide) (by decide) (Nat.le_of_ble_eq_true rfl) (Nat.le_of_ble_eq_true rfl) dX11_init_190 (fun _ => rfl) 37 (by decide) rfl rfl ⟨rfl, rfl, rfl⟩ rfl (q9 := .int) (tyX11_ok 37 (by decide)) fl_X11_83 dX11_init_192 (fun ad H locs hw => ?_)
  refine lv_aload_n hx hb dX11_init_195 rfl (lv_at hl 0 rfl) ?_
  refine lv_bipush (v := 64) hx hb dX11_init_196 (by decide) ?_
  refine mc_step (atype := .int) (ty := .int) X hn hlt hw (by decide) arc_int rfl 0 rfl (Or.inl rfl) (N' := 64) (a0 := (64, .inl (fun _ => 0))) (fun _ => rfl) (by decide) (by decide) (by decide) (Nat.le_of_ble_eq_true rfl) (Nat.le_of_ble_eq_true rfl) dX11_init_198 (fun _ => rfl) 38 (by decide) rfl rfl ⟨rfl, rfl, rfl⟩ rfl (q9 := .int) (tyX11_ok 38 (by decide)) fl_X11_86 dX11_init_200 (fun ad H locs hw => ?_)
  refine lv_aload_n hx hb dX11_init_203 rfl (lv_at hl 0 rfl) ?_
  refine lv_bipush (v := 9) hx hb dX11_init_204 (by decide) ?_
  refine mc_step (atype := .int) (ty := .int) X hn hlt hw (by decide) arc_int rfl 0 rfl (Or.inl rfl) (N' := 9) (a0 := (9, .inl (fun _ => 0))) (fun _ => rfl) (by decide) (by decide) (by decide) (Nat.le_of_ble_eq_true rfl) (Nat.le_of_ble_eq_true rfl) dX11_init_206 (fun _ => rfl) 40 (by decide) rfl rfl ⟨rfl, rfl, rfl⟩ rfl (q9 := .int) (tyX11_ok 40 (by decide)) fl_X11_89 dX11_init_208 (fun ad H locs hw => ?_)
  refine lv_aload_n hx hb dX11_init_211 rfl (lv_at hl 0 rfl) ?_
  refine lv_sipush (v := 400) hx hb dX11_init_212 (by decide) ?_
  refine mc_step (atype := .int) (ty := .int) X hn hlt hw (by decide) arc_int rfl 0 rfl (Or.inl rfl) (N' := 400) (a0 := (400, .inl (fun _ => 0))) (fun _ => rfl) (by decide) (by decide) (by decide) (Nat.le_of_ble_eq_true rfl) (Nat.le_of_ble_eq_true rfl) dX11_init_215 (fun _ => rfl) 41 (by decide) rfl rfl ⟨rfl, rfl, rfl⟩ rfl (q9 := .int) (tyX11_ok 41 (by decide)) fl_X11_92 dX11_init_217 (fun ad H locs hw => ?_)
  refine lv_aload_n hx hb dX11_init_220 rfl (lv_at hl 0 rfl) ?_
  refine lv_bipush (v := 26) hx hb dX11_init_221 (by decide) ?_
  refine mc_step (atype := .int) (ty := .int) X hn hlt hw (by decide) arc_int rfl 0 rfl (Or.inl rfl) (N' := 26) (a0 := (26, .inl (fun _ => 0))) (fun _ => rfl) (by decide) (by decide) (by decide) (Nat.le_of_ble_eq_true rfl) (Nat.le_of_ble_eq_true rfl) dX11_init_223 (fun _ => rfl) 43 (by decide) rfl rfl ⟨rfl, rfl, rfl⟩ rfl (q9 := .int) (tyX11_ok 43 (by decide)) fl_X11_95 dX11_init_225 (fun ad H locs hw => ?_)
  refine lv_aload_n hx hb dX11_init_228 rfl (lv_at hl 0 rfl) ?_
  refine lv_bipush (v := 26) hx hb dX11_init_229 (by decide) ?_
  refine mc_step (atype := .int) (ty := .int) X hn hlt hw (by decide) arc_int rfl 0 rfl (Or.inl rfl) (N' := 26) (a0 := (26, .inl (fun _ => 0))) (fun _ => rfl) (by decide) (by decide) (by decide) (Nat.le_of_ble_eq_true rfl) (Nat.le_of_ble_eq_true rfl) dX11_init_231 (fun _ => rfl) 44 (by decide) rfl rfl ⟨rfl, rfl, rfl⟩ rfl (q9 := .int) (tyX11_ok 44 (by decide)) fl_X11_98 dX11_init_233 (fun ad H locs hw => ?_)
  refine lv_aload_n hx hb dX11_init_236 rfl (lv_at hl 0 rfl) ?_
  refine lv_bipush (v := 7) hx hb dX11_init_237 (by decide) ?_
  refine mc_step (atype := .int) (ty := .int) X hn hlt hw (by decide) arc_int rfl 0 rfl (Or.inl rfl) (N' := 7) (a0 := (7, .inl (fun _ => 0))) (fun _ => rfl) (by decide) (by decide) (by decide) (Nat.le_of_ble_eq_true rfl) (Nat.le_of_ble_eq_true rfl) dX11_init_239 (fun _ => rfl) 46 (by decide) rfl rfl ⟨rfl, rfl, rfl⟩ rfl (q9 := .int) (tyX11_ok 46 (by decide)) fl_X11_101 dX11_init_241 (fun ad H locs hw => ?_)
  refine lv_aload_n hx hb dX11_init_244 rfl (lv_at hl 0 rfl) ?_
  refine lv_sipush (v := 1040) hx hb dX11_init_245 (by decide) ?_
  refine mc_step (atype := .int) (ty := .int) X hn hlt hw (by decide) arc_int rfl 0 rfl (Or.inl rfl) (N' := 1040) (a0 := (1040, .inl (fun _ => 0))) (fun _ => rfl) (by decide) (by decide) (by decide) (Nat.le_of_ble_eq_true rfl) (Nat.le_of_ble_eq_true rfl) dX11_init_248 (fun _ => rfl) 48 (by decide) rfl rfl ⟨rfl, rfl, rfl⟩ rfl (q9 := .int) (tyX11_ok 48 (by decide)) fl_X11_104 dX11_init_250 (fun ad H locs hw => ?_)
  refine lv_aload_n hx hb dX11_init_253 rfl (lv_at hl 0 rfl) ?_
  refine lv_bipush (v := 7) hx hb dX11_init_254 (by decide) ?_
  refine mc_step (atype := .int) (ty := .int) X hn hlt hw (by decide) arc_int rfl 0 rfl (Or.inl rfl) (N' := 7) (a0 := (7, .inl (fun _ => 0))) (fun _ => rfl) (by decide) (by decide) (by decide) (Nat.le_of_ble_eq_true rfl) (Nat.le_of_ble_eq_true rfl) dX11_init_256 (fun _ => rfl) 49 (by decide) rfl rfl ⟨rfl, rfl, rfl⟩ rfl (q9 := .int) (tyX11_ok 49 (by decide)) fl_X11_107 dX11_init_258 (fun ad H locs hw => ?_)
  refine lv_aload_n hx hb dX11_init_261 rfl (lv_at hl 0 rfl) ?_
  refine lv_bipush (v := 20) hx hb dX11_init_262 (by decide) ?_
  refine mc_step (atype := .int) (ty := .int) X hn hlt hw (by decide) arc_int rfl 0 rfl (Or.inl rfl) (N' := 20) (a0 := (20, .inl (fun _ => 0))) (fun _ => rfl) (by decide) (by decide) (by decide) (Nat.le_of_ble_eq_true rfl) (Nat.le_of_ble_eq_true rfl) dX11_init_264 (fun _ => rfl) 52 (by decide) rfl rfl ⟨rfl, rfl, rfl⟩ rfl (q9 := .int) (tyX11_ok 52 (by decide)) fl_X11_110 dX11_init_266 (fun ad H locs hw => ?_)
  refine lv_aload_n hx hb dX11_init_269 rfl (lv_at hl 0 rfl) ?_
  refine lv_bipush (v := 20) hx hb dX11_init_270 (by decide) ?_
  refine mc_step (atype := .int) (ty := .int) X hn hlt hw (by decide) arc_int rfl 0 rfl (Or.inl rfl) (N' := 20) (a0 := (20, .inl (fun _ => 0))) (fun _ => rfl) (by decide) (by decide) (by decide) (Nat.le_of_ble_eq_true rfl) (Nat.le_of_ble_eq_true rfl) dX11_init_272 (fun _ => rfl) 53 (by decide) rfl rfl ⟨rfl, rfl, rfl⟩ rfl (q9 := .int) (tyX11_ok 53 (by decide)) fl_X11_113 dX11_init_274 (fun ad H locs hw => ?_)
  refine lv_aload_n hx hb dX11_init_277 rfl (lv_at hl 0 rfl) ?_
  refine lv_bipush (v := 20) hx hb dX11_init_278 (by decide) ?_
  refine mc_step (atype := .boolean) (ty := .boolean) X hn hlt hw (by decide) arc_boolean rfl 3 rfl (Or.inr (Or.inr (Or.inr (Or.inl rfl)))) (N' := 20) (a0 := (20, .inl (fun _ => 0))) (fun _ => rfl) (by decide) (by decide) (by decide) (Nat.le_of_ble_eq_true rfl) (Nat.le_of_ble_eq_true rfl) dX11_init_280 (fun _ => rfl) 54 (by decide) rfl rfl ⟨rfl, rfl, rfl⟩ rfl (q9 := .boolean) (tyX11_ok 54 (by decide)) fl_X11_116 dX11_init_282 (fun ad H locs hw => ?_)
  refine lv_aload_n hx hb dX11_init_285 rfl (lv_at hl 0 rfl) ?_
  refine lv_bipush (v := 7) hx hb dX11_init_286 (by decide) ?_
  refine mc_step (atype := .int) (ty := .int) X hn hlt hw (by decide) arc_int rfl 0 rfl (Or.inl rfl) (N' := 7) (a0 := (7, .inl (fun _ => 0))) (fun _ => rfl) (by decide) (by decide) (by decide) (Nat.le_of_ble_eq_true rfl) (Nat.le_of_ble_eq_true rfl) dX11_init_288 (fun _ => rfl) 55 (by decide) rfl rfl ⟨rfl, rfl, rfl⟩ rfl (q9 := .int) (tyX11_ok 55 (by decide)) fl_X11_119 dX11_init_290 (fun ad H locs hw => ?_)
  refine lv_aload_n hx hb dX11_init_293 rfl (lv_at hl 0 rfl) ?_
  refine lv_bipush (v := 7) hx hb dX11_init_294 (by decide) ?_
  refine mc_step (atype := .int) (ty := .int) X hn hlt hw (by decide) arc_int rfl 0 rfl (Or.inl rfl) (N' := 7) (a0 := (7, .inl (fun _ => 0))) (fun _ => rfl) (by decide) (by decide) (by decide) (Nat.le_of_ble_eq_true rfl) (Nat.le_of_ble_eq_true rfl) dX11_init_296 (fun _ => rfl) 56 (by decide) rfl rfl ⟨rfl, rfl, rfl⟩ rfl (q9 := .int) (tyX11_ok 56 (by decide)) fl_X11_122 dX11_init_298 (fun ad H locs hw => ?_)
  refine lv_aload_n hx hb dX11_init_301 rfl (lv_at hl 0 rfl) ?_
  refine lv_iconst (v := 3) hx hb dX11_init_302 (by decide) ?_
  refine mc_step (atype := .boolean) (ty := .boolean) X hn hlt hw (by decide) arc_boolean rfl 3 rfl (Or.inr (Or.inr (Or.inr (Or.inl rfl)))) (N' := 3) (a0 := (3, .inl (fun _ => 0))) (fun _ => rfl) (by decide) (by decide) (by decide) (Nat.le_of_ble_eq_true rfl) (Nat.le_of_ble_eq_true rfl) dX11_init_303 (fun _ => rfl) 57 (by decide) rfl rfl ⟨rfl, rfl, rfl⟩ rfl (q9 := .boolean) (tyX11_ok 57 (by decide)) fl_X11_125 dX11_init_305 (fun ad H locs hw => ?_)
  refine lv_aload_n hx hb dX11_init_308 rfl (lv_at hl 0 rfl) ?_
  refine lv_bipush (v := 78) hx hb dX11_init_309 (by decide) ?_
  refine mc_step (atype := .int) (ty := .int) X hn hlt hw (by decide) arc_int rfl 0 rfl (Or.inl rfl) (N' := 78) (a0 := (78, .inl (fun _ => 0))) (fun _ => rfl) (by decide) (by decide) (by decide) (Nat.le_of_ble_eq_true rfl) (Nat.le_of_ble_eq_true rfl) dX11_init_311 (fun _ => rfl) 58 (by decide) rfl rfl ⟨rfl, rfl, rfl⟩ rfl (q9 := .int) (tyX11_ok 58 (by decide)) fl_X11_128 dX11_init_313 (fun ad H locs hw => ?_)
  obtain ⟨ad0, hw⟩ : ∃ ad0, cH D s h0 ad0 (went WM ad0 cy σm0) 38 H locs := ⟨ad, hw.congr (fun i hi => by
    rw [Gm]
    by_cases h1 : i = 0
    · subst h1
      rw [if_pos rfl, went_obj sM0]
      exact congrArg (fun x => (Sum.inr (11, x) : va_E)) wm_all
    · rw [if_neg h1]; rfl)⟩
  have hA0 : ad0 0 = h0 := (hw.2.2.2 hlt).2
  refine lv_aload_n hx hb dX11_init_316 rfl (lv_at hl 0 rfl) ?_
  refine lv_iconst (v := 0) hx hb dX11_init_317 (by decide) ?_
  refine cr_cV (w := WM) (σ := σm0) (σ' := σm1) (av := [.int 0]) (rest := []) X hw hl.1 (cid := 0) sM0 nM0 rfl hA0.symm (fun hI => k_X11_plain hI σm1_ok) rfl ml_X11_131 im_X11_plain se_X11_plain ini_X11 co_X11_plain hd_X11_plain ⟨(Nat.le_of_ble_eq_true rfl), (Nat.le_of_ble_eq_true rfl)⟩ ⟨(Nat.le_of_ble_eq_true rfl), (Nat.le_of_ble_eq_true rfl)⟩ (Nat.le_of_ble_eq_true rfl) dX11_init_318 rfl (fun H locs hw => ?_)
  refine lv_aload_n hx hb dX11_init_321 rfl (lv_at hl 0 rfl) ?_
  refine lv_iconst (v := 1) hx hb dX11_init_322 (by decide) ?_
  refine cr_cV (w := WM) (σ := σm1) (σ' := σm2) (av := [.int 1]) (rest := []) X hw hl.1 (cid := 0) sM0 nM0 rfl hA0.symm (fun hI => k_X11_plain hI σm2_ok) rfl ml_X11_131 im_X11_plain se_X11_plain ini_X11 co_X11_plain hd_X11_plain ⟨(Nat.le_of_ble_eq_true rfl), (Nat.le_of_ble_eq_true rfl)⟩ ⟨(Nat.le_of_ble_eq_true rfl), (Nat.le_of_ble_eq_true rfl)⟩ (Nat.le_of_ble_eq_true rfl) dX11_init_323 rfl (fun H locs hw => ?_)
  refine lv_aload_n hx hb dX11_init_326 rfl (lv_at hl 0 rfl) ?_
  refine cr_get X hw uw11 (ci := 11) rfl 0 (by decide) hA0.symm (went_obj sM0) 9 (by decide) ⟨rfl, rfl, rfl⟩ (v := .ref (ad0 7)) (wfld_ref (by decide) rfl rfl) fl_X11_34 dX11_init_327 ?_
  refine lv_iconst (v := 0) hx hb dX11_init_330 (by decide) ?_
  refine lv_bipush (v := 99) hx hb dX11_init_331 (by decide) ?_
  refine lv_bipush (v := 97) hx hb dX11_init_333 (by decide) ?_
  refine lv_bipush (v := 115) hx hb dX11_init_335 (by decide) ?_
  refine lv_bipush (v := 101) hx hb dX11_init_337 (by decide) ?_
  refine lv_iconst (v := 0) hx hb dX11_init_339 (by decide) ?_
  refine lv_iconst (v := 0) hx hb dX11_init_340 (by decide) ?_
  refine lv_iconst (v := 0) hx hb dX11_init_341 (by decide) ?_
  refine cr_cSl (w := WM) (σ := σm2) (r := 60296) (av := [.int 99, .int 97, .int 115, .int 101, .int 0, .int 0, .int 0]) (rest := [.int 0, .ref (ad0 7)]) X hw hl.1 (fun hI => k_X11_letters (σ := σm2) hI (show f_X11_letters 99 97 115 101 0 0 0 = some 60296 by decide +kernel)) rfl ml_X11_135 st_X11_letters ini_X11 co_X11_letters hd_X11_letters ⟨(Nat.le_of_ble_eq_true rfl), (Nat.le_of_ble_eq_true rfl)⟩ ⟨(Nat.le_of_ble_eq_true rfl), (Nat.le_of_ble_eq_true rfl)⟩ (Nat.le_of_ble_eq_true rfl) dX11_init_342 rfl (fun H locs hw => ?_)
  refine cr_last (σ := σm2) X hw (b := 7) sM7 nM7 rfl (ib_in (n := 19) (by decide)) dX11_init_345 (fun H locs hw => ?_)
  replace hw : cH D s h0 ad0 (went WM ad0 cy σm3) 38 H locs := hw
  refine lv_aload_n hx hb dX11_init_346 rfl (lv_at hl 0 rfl) ?_
  refine cr_get X hw uw11 (ci := 11) rfl 0 (by decide) hA0.symm (went_obj sM0) 9 (by decide) ⟨rfl, rfl, rfl⟩ (v := .ref (ad0 7)) (wfld_ref (by decide) rfl rfl) fl_X11_34 dX11_init_347 ?_
  refine lv_iconst (v := 1) hx hb dX11_init_350 (by decide) ?_
  refine lv_bipush (v := 98) hx hb dX11_init_351 (by decide) ?_
  refine lv_bipush (v := 101) hx hb dX11_init_353 (by decide) ?_
  refine lv_bipush (v := 102) hx hb dX11_init_355 (by decide) ?_
  refine lv_bipush (v := 111) hx hb dX11_init_357 (by decide) ?_
  refine lv_bipush (v := 114) hx hb dX11_init_359 (by decide) ?_
  refine lv_bipush (v := 101) hx hb dX11_init_361 (by decide) ?_
  refine lv_iconst (v := 0) hx hb dX11_init_363 (by decide) ?_
  refine cr_cSl (w := WM) (σ := σm3) (r := 31484543) (av := [.int 98, .int 101, .int 102, .int 111, .int 114, .int 101, .int 0]) (rest := [.int 1, .ref (ad0 7)]) X hw hl.1 (fun hI => k_X11_letters (σ := σm3) hI (show f_X11_letters 98 101 102 111 114 101 0 = some 31484543 by decide +kernel)) rfl ml_X11_135 st_X11_letters ini_X11 co_X11_letters hd_X11_letters ⟨(Nat.le_of_ble_eq_true rfl), (Nat.le_of_ble_eq_true rfl)⟩ ⟨(Nat.le_of_ble_eq_true rfl), (Nat.le_of_ble_eq_true rfl)⟩ (Nat.le_of_ble_eq_true rfl) dX11_init_364 rfl (fun H locs hw => ?_)
  refine cr_last (σ := σm3) X hw (b := 7) sM7 nM7 rfl (ib_in (n := 19) (by decide)) dX11_init_367 (fun H locs hw => ?_)
  replace hw : cH D s h0 ad0 (went WM ad0 cy σm4) 38 H locs := hw
  refine lv_aload_n hx hb dX11_init_368 rfl (lv_at hl 0 rfl) ?_
  refine cr_get X hw uw11 (ci := 11) rfl 0 (by decide) hA0.symm (went_obj sM0) 9 (by decide) ⟨rfl, rfl, rfl⟩ (v := .ref (ad0 7)) (wfld_ref (by decide) rfl rfl) fl_X11_34 dX11_init_369 ?_
  refine lv_iconst (v := 2) hx hb dX11_init_372 (by decide) ?_
  refine lv_bipush (v := 100) hx hb dX11_init_373 (by decide) ?_
  refine lv_bipush (v := 111) hx hb dX11_init_375 (by decide) ?_
  refine lv_bipush (v := 111) hx hb dX11_init_377 (by decide) ?_
  refine lv_bipush (v := 109) hx hb dX11_init_379 (by decide) ?_
  refine lv_iconst (v := 0) hx hb dX11_init_381 (by decide) ?_
  refine lv_iconst (v := 0) hx hb dX11_init_382 (by decide) ?_
  refine lv_iconst (v := 0) hx hb dX11_init_383 (by decide) ?_
  refine cr_cSl (w := WM) (σ := σm4) (r := 90085) (av := [.int 100, .int 111, .int 111, .int 109, .int 0, .int 0, .int 0]) (rest := [.int 2, .ref (ad0 7)]) X hw hl.1 (fun hI => k_X11_letters (σ := σm4) hI (show f_X11_letters 100 111 111 109 0 0 0 = some 90085 by decide +kernel)) rfl ml_X11_135 st_X11_letters ini_X11 co_X11_letters hd_X11_letters ⟨(Nat.le_of_ble_eq_true rfl), (Nat.le_of_ble_eq_true rfl)⟩ ⟨(Nat.le_of_ble_eq_true rfl), (Nat.le_of_ble_eq_true rfl)⟩ (Nat.le_of_ble_eq_true rfl) dX11_init_384 rfl (fun H locs hw => ?_)
  refine cr_last (σ := σm4) X hw (b := 7) sM7 nM7 rfl (ib_in (n := 19) (by decide)) dX11_init_387 (fun H locs hw => ?_)
  replace hw : cH D s h0 ad0 (went WM ad0 cy σm5) 38 H locs := hw
  refine lv_aload_n hx hb dX11_init_388 rfl (lv_at hl 0 rfl) ?_
  refine cr_get X hw uw11 (ci := 11) rfl 0 (by decide) hA0.symm (went_obj sM0) 9 (by decide) ⟨rfl, rfl, rfl⟩ (v := .ref (ad0 7)) (wfld_ref (by decide) rfl rfl) fl_X11_34 dX11_init_389 ?_
  refine lv_iconst (v := 3) hx hb dX11_init_392 (by decide) ?_
  refine lv_bipush (v := 112) hx hb dX11_init_393 (by decide) ?_
  refine lv_bipush (v := 108) hx hb dX11_init_395 (by decide) ?_
  refine lv_bipush (v := 101) hx hb dX11_init_397 (by decide) ?_
  refine lv_bipush (v := 97) hx hb dX11_init_399 (by decide) ?_
  refine lv_iconst (v := 0) hx hb dX11_init_401 (by decide) ?_
  refine lv_iconst (v := 0) hx hb dX11_init_402 (by decide) ?_
  refine lv_iconst (v := 0) hx hb dX11_init_403 (by decide) ?_
  refine cr_cSl (w := WM) (σ := σm5) (r := 323812) (av := [.int 112, .int 108, .int 101, .int 97, .int 0, .int 0, .int 0]) (rest := [.int 3, .ref (ad0 7)]) X hw hl.1 (fun hI => k_X11_letters (σ := σm5) hI (show f_X11_letters 112 108 101 97 0 0 0 = some 323812 by decide +kernel)) rfl ml_X11_135 st_X11_letters ini_X11 co_X11_letters hd_X11_letters ⟨(Nat.le_of_ble_eq_true rfl), (Nat.le_of_ble_eq_true rfl)⟩ ⟨(Nat.le_of_ble_eq_true rfl), (Nat.le_of_ble_eq_true rfl)⟩ (Nat.le_of_ble_eq_true rfl) dX11_init_404 rfl (fun H locs hw => ?_)
  refine cr_last (σ := σm5) X hw (b := 7) sM7 nM7 rfl (ib_in (n := 19) (by decide)) dX11_init_407 (fun H locs hw => ?_)
  replace hw : cH D s h0 ad0 (went WM ad0 cy σm6) 38 H locs := hw
  refine lv_aload_n hx hb dX11_init_408 rfl (lv_at hl 0 rfl) ?_
  refine cr_get X hw uw11 (ci := 11) rfl 0 (by decide) hA0.symm (went_obj sM0) 9 (by decide) ⟨rfl, rfl, rfl⟩ (v := .ref (ad0 7)) (wfld_ref (by decide) rfl rfl) fl_X11_34 dX11_init_409 ?_
  refine lv_iconst (v := 4) hx hb dX11_init_412 (by decide) ?_
  refine lv_bipush (v := 102) hx hb dX11_init_413 (by decide) ?_
  refine lv_bipush (v := 101) hx hb dX11_init_415 (by decide) ?_
  refine lv_bipush (v := 101) hx hb dX11_init_417 (by decide) ?_
  refine lv_iconst (v := 0) hx hb dX11_init_419 (by decide) ?_
  refine lv_iconst (v := 0) hx hb dX11_init_420 (by decide) ?_
  refine lv_iconst (v := 0) hx hb dX11_init_421 (by decide) ?_
  refine lv_iconst (v := 0) hx hb dX11_init_422 (by decide) ?_
  refine cr_cSl (w := WM) (σ := σm6) (r := 4514) (av := [.int 102, .int 101, .int 101, .int 0, .int 0, .int 0, .int 0]) (rest := [.int 4, .ref (ad0 7)]) X hw hl.1 (fun hI => k_X11_letters (σ := σm6) hI (show f_X11_letters 102 101 101 0 0 0 0 = some 4514 by decide +kernel)) rfl ml_X11_135 st_X11_letters ini_X11 co_X11_letters hd_X11_letters ⟨(Nat.le_of_ble_eq_true rfl), (Nat.le_of_ble_eq_true rfl)⟩ ⟨(Nat.le_of_ble_eq_true rfl), (Nat.le_of_ble_eq_true rfl)⟩ (Nat.le_of_ble_eq_true rfl) dX11_init_423 rfl (fun H locs hw => ?_)
  refine cr_last (σ := σm6) X hw (b := 7) sM7 nM7 rfl (ib_in (n := 19) (by decide)) dX11_init_426 (fun H locs hw => ?_)
  replace hw : cH D s h0 ad0 (went WM ad0 cy σm7) 38 H locs := hw
  refine lv_aload_n hx hb dX11_init_427 rfl (lv_at hl 0 rfl) ?_
  refine cr_get X hw uw11 (ci := 11) rfl 0 (by decide) hA0.symm (went_obj sM0) 9 (by decide) ⟨rfl, rfl, rfl⟩ (v := .ref (ad0 7)) (wfld_ref (by decide) rfl rfl) fl_X11_34 dX11_init_428 ?_
  refine lv_iconst (v := 5) hx hb dX11_init_431 (by decide) ?_
  refine lv_bipush (v := 97) hx hb dX11_init_432 (by decide) ?_
  refine lv_bipush (v := 100) hx hb dX11_init_434 (by decide) ?_
  refine lv_bipush (v := 106) hx hb dX11_init_436 (by decide) ?_
  refine lv_bipush (v := 111) hx hb dX11_init_438 (by decide) ?_
  refine lv_bipush (v := 117) hx hb dX11_init_440 (by decide) ?_
  refine lv_bipush (v := 114) hx hb dX11_init_442 (by decide) ?_
  refine lv_bipush (v := 110) hx hb dX11_init_444 (by decide) ?_
  refine cr_cSl (w := WM) (σ := σm7) (r := 450441581) (av := [.int 97, .int 100, .int 106, .int 111, .int 117, .int 114, .int 110]) (rest := [.int 5, .ref (ad0 7)]) X hw hl.1 (fun hI => k_X11_letters (σ := σm7) hI (show f_X11_letters 97 100 106 111 117 114 110 = some 450441581 by decide +kernel)) rfl ml_X11_135 st_X11_letters ini_X11 co_X11_letters hd_X11_letters ⟨(Nat.le_of_ble_eq_true rfl), (Nat.le_of_ble_eq_true rfl)⟩ ⟨(Nat.le_of_ble_eq_true rfl), (Nat.le_of_ble_eq_true rfl)⟩ (Nat.le_of_ble_eq_true rfl) dX11_init_446 rfl (fun H locs hw => ?_)
  refine lv_bipush (v := 115) hx hb dX11_init_449 (by decide) ?_
  refine cr_cSl (w := WM) (σ := σm7) (r := 12161922706) (av := [.long 450441581, .int 115]) (rest := [.int 5, .ref (ad0 7)]) X hw hl.1 (fun hI => k_X11_appends (σ := σm7) hI (show f_X11_appends 450441581 115 = some 12161922706 by decide +kernel)) rfl ml_X11_139 st_X11_appends ini_X11 co_X11_appends hd_X11_appends ⟨(Nat.le_of_ble_eq_true rfl), (Nat.le_of_ble_eq_true rfl)⟩ ⟨(Nat.le_of_ble_eq_true rfl), (Nat.le_of_ble_eq_true rfl)⟩ (Nat.le_of_ble_eq_true rfl) dX11_init_451 rfl (fun H locs hw => ?_)
  refine cr_last (σ := σm7) X hw (b := 7) sM7 nM7 rfl (ib_in (n := 19) (by decide)) dX11_init_454 (fun H locs hw => ?_)
  replace hw : cH D s h0 ad0 (went WM ad0 cy σm8) 38 H locs := hw
  refine lv_aload_n hx hb dX11_init_455 rfl (lv_at hl 0 rfl) ?_
  refine cr_get X hw uw11 (ci := 11) rfl 0 (by decide) hA0.symm (went_obj sM0) 9 (by decide) ⟨rfl, rfl, rfl⟩ (v := .ref (ad0 7)) (wfld_ref (by decide) rfl rfl) fl_X11_34 dX11_init_456 ?_
  refine lv_bipush (v := 6) hx hb dX11_init_459 (by decide) ?_
  refine lv_bipush (v := 115) hx hb dX11_init_461 (by decide) ?_
  refine lv_bipush (v := 101) hx hb dX11_init_463 (by decide) ?_
  refine lv_bipush (v := 101) hx hb dX11_init_465 (by decide) ?_
  refine lv_bipush (v := 100) hx hb dX11_init_467 (by decide) ?_
  refine lv_iconst (v := 0) hx hb dX11_init_469 (by decide) ?_
  refine lv_iconst (v := 0) hx hb dX11_init_470 (by decide) ?_
  refine lv_iconst (v := 0) hx hb dX11_init_471 (by decide) ?_
  refine cr_cSl (w := WM) (σ := σm8) (r := 377761) (av := [.int 115, .int 101, .int 101, .int 100, .int 0, .int 0, .int 0]) (rest := [.int 6, .ref (ad0 7)]) X hw hl.1 (fun hI => k_X11_letters (σ := σm8) hI (show f_X11_letters 115 101 101 100 0 0 0 = some 377761 by decide +kernel)) rfl ml_X11_135 st_X11_letters ini_X11 co_X11_letters hd_X11_letters ⟨(Nat.le_of_ble_eq_true rfl), (Nat.le_of_ble_eq_true rfl)⟩ ⟨(Nat.le_of_ble_eq_true rfl), (Nat.le_of_ble_eq_true rfl)⟩ (Nat.le_of_ble_eq_true rfl) dX11_init_472 rfl (fun H locs hw => ?_)
  refine cr_last (σ := σm8) X hw (b := 7) sM7 nM7 rfl (ib_in (n := 19) (by decide)) dX11_init_475 (fun H locs hw => ?_)
  replace hw : cH D s h0 ad0 (went WM ad0 cy σm9) 38 H locs := hw
  refine lv_aload_n hx hb dX11_init_476 rfl (lv_at hl 0 rfl) ?_
  refine cr_get X hw uw11 (ci := 11) rfl 0 (by decide) hA0.symm (went_obj sM0) 9 (by decide) ⟨rfl, rfl, rfl⟩ (v := .ref (ad0 7)) (wfld_ref (by decide) rfl rfl) fl_X11_34 dX11_init_477 ?_
  refine lv_bipush (v := 7) hx hb dX11_init_480 (by decide) ?_
  refine lv_bipush (v := 105) hx hb dX11_init_482 (by decide) ?_
  refine lv_bipush (v := 102) hx hb dX11_init_484 (by decide) ?_
  refine lv_iconst (v := 0) hx hb dX11_init_486 (by decide) ?_
  refine lv_iconst (v := 0) hx hb dX11_init_487 (by decide) ?_
  refine lv_iconst (v := 0) hx hb dX11_init_488 (by decide) ?_
  refine lv_iconst (v := 0) hx hb dX11_init_489 (by decide) ?_
  refine lv_iconst (v := 0) hx hb dX11_init_490 (by decide) ?_
  refine cr_cSl (w := WM) (σ := σm9) (r := 249) (av := [.int 105, .int 102, .int 0, .int 0, .int 0, .int 0, .int 0]) (rest := [.int 7, .ref (ad0 7)]) X hw hl.1 (fun hI => k_X11_letters (σ := σm9) hI (show f_X11_letters 105 102 0 0 0 0 0 = some 249 by decide +kernel)) rfl ml_X11_135 st_X11_letters ini_X11 co_X11_letters hd_X11_letters ⟨(Nat.le_of_ble_eq_true rfl), (Nat.le_of_ble_eq_true rfl)⟩ ⟨(Nat.le_of_ble_eq_true rfl), (Nat.le_of_ble_eq_true rfl)⟩ (Nat.le_of_ble_eq_true rfl) dX11_init_491 rfl (fun H locs hw => ?_)
  refine cr_last (σ := σm9) X hw (b := 7) sM7 nM7 rfl (ib_in (n := 19) (by decide)) dX11_init_494 (fun H locs hw => ?_)
  replace hw : cH D s h0 ad0 (went WM ad0 cy σm10) 38 H locs := hw
  refine lv_aload_n hx hb dX11_init_495 rfl (lv_at hl 0 rfl) ?_
  refine cr_get X hw uw11 (ci := 11) rfl 0 (by decide) hA0.symm (went_obj sM0) 9 (by decide) ⟨rfl, rfl, rfl⟩ (v := .ref (ad0 7)) (wfld_ref (by decide) rfl rfl) fl_X11_34 dX11_init_496 ?_
  refine lv_bipush (v := 8) hx hb dX11_init_499 (by decide) ?_
  refine lv_bipush (v := 116) hx hb dX11_init_501 (by decide) ?_
  refine lv_bipush (v := 104) hx hb dX11_init_503 (by decide) ?_
  refine lv_bipush (v := 101) hx hb dX11_init_505 (by decide) ?_
  refine lv_bipush (v := 110) hx hb dX11_init_507 (by decide) ?_
  refine lv_iconst (v := 0) hx hb dX11_init_509 (by decide) ?_
  refine lv_iconst (v := 0) hx hb dX11_init_510 (by decide) ?_
  refine lv_iconst (v := 0) hx hb dX11_init_511 (by decide) ?_
  refine cr_cSl (w := WM) (σ := σm10) (r := 399641) (av := [.int 116, .int 104, .int 101, .int 110, .int 0, .int 0, .int 0]) (rest := [.int 8, .ref (ad0 7)]) X hw hl.1 (fun hI => k_X11_letters (σ := σm10) hI (show f_X11_letters 116 104 101 110 0 0 0 = some 399641 by decide +kernel)) rfl ml_X11_135 st_X11_letters ini_X11 co_X11_letters hd_X11_letters ⟨(Nat.le_of_ble_eq_true rfl), (Nat.le_of_ble_eq_true rfl)⟩ ⟨(Nat.le_of_ble_eq_true rfl), (Nat.le_of_ble_eq_true rfl)⟩ (Nat.le_of_ble_eq_true rfl) dX11_init_512 rfl (fun H locs hw => ?_)
  refine cr_last (σ := σm10) X hw (b := 7) sM7 nM7 rfl (ib_in (n := 19) (by decide)) dX11_init_515 (fun H locs hw => ?_)
  replace hw : cH D s h0 ad0 (went WM ad0 cy σm11) 38 H locs := hw
  refine lv_aload_n hx hb dX11_init_516 rfl (lv_at hl 0 rfl) ?_
  refine cr_get X hw uw11 (ci := 11) rfl 0 (by decide) hA0.symm (went_obj sM0) 9 (by decide) ⟨rfl, rfl, rfl⟩ (v := .ref (ad0 7)) (wfld_ref (by decide) rfl rfl) fl_X11_34 dX11_init_517 ?_
  refine lv_bipush (v := 9) hx hb dX11_init_520 (by decide) ?_
  refine lv_bipush (v := 101) hx hb dX11_init_522 (by decide) ?_
  refine lv_bipush (v := 108) hx hb dX11_init_524 (by decide) ?_
  refine lv_bipush (v := 115) hx hb dX11_init_526 (by decide) ?_
  refine lv_bipush (v := 101) hx hb dX11_init_528 (by decide) ?_
  refine lv_iconst (v := 0) hx hb dX11_init_530 (by decide) ?_
  refine lv_iconst (v := 0) hx hb dX11_init_531 (by decide) ?_
  refine lv_iconst (v := 0) hx hb dX11_init_532 (by decide) ?_
  refine cr_cSl (w := WM) (σ := σm11) (r := 107681) (av := [.int 101, .int 108, .int 115, .int 101, .int 0, .int 0, .int 0]) (rest := [.int 9, .ref (ad0 7)]) X hw hl.1 (fun hI => k_X11_letters (σ := σm11) hI (show f_X11_letters 101 108 115 101 0 0 0 = some 107681 by decide +kernel)) rfl ml_X11_135 st_X11_letters ini_X11 co_X11_letters hd_X11_letters ⟨(Nat.le_of_ble_eq_true rfl), (Nat.le_of_ble_eq_true rfl)⟩ ⟨(Nat.le_of_ble_eq_true rfl), (Nat.le_of_ble_eq_true rfl)⟩ (Nat.le_of_ble_eq_true rfl) dX11_init_533 rfl (fun H locs hw => ?_)
  refine cr_last (σ := σm11) X hw (b := 7) sM7 nM7 rfl (ib_in (n := 19) (by decide)) dX11_init_536 (fun H locs hw => ?_)
  replace hw : cH D s h0 ad0 (went WM ad0 cy σm12) 38 H locs := hw
  refine lv_aload_n hx hb dX11_init_537 rfl (lv_at hl 0 rfl) ?_
  refine cr_get X hw uw11 (ci := 11) rfl 0 (by decide) hA0.symm (went_obj sM0) 9 (by decide) ⟨rfl, rfl, rfl⟩ (v := .ref (ad0 7)) (wfld_ref (by decide) rfl rfl) fl_X11_34 dX11_init_538 ?_
  refine lv_bipush (v := 10) hx hb dX11_init_541 (by decide) ?_
  refine lv_bipush (v := 100) hx hb dX11_init_543 (by decide) ?_
  refine lv_bipush (v := 101) hx hb dX11_init_545 (by decide) ?_
  refine lv_bipush (v := 101) hx hb dX11_init_547 (by decide) ?_
  refine lv_bipush (v := 100) hx hb dX11_init_549 (by decide) ?_
  refine lv_iconst (v := 0) hx hb dX11_init_551 (by decide) ?_
  refine lv_iconst (v := 0) hx hb dX11_init_552 (by decide) ?_
  refine lv_iconst (v := 0) hx hb dX11_init_553 (by decide) ?_
  refine cr_cSl (w := WM) (σ := σm12) (r := 82516) (av := [.int 100, .int 101, .int 101, .int 100, .int 0, .int 0, .int 0]) (rest := [.int 10, .ref (ad0 7)]) X hw hl.1 (fun hI => k_X11_letters (σ := σm12) hI (show f_X11_letters 100 101 101 100 0 0 0 = some 82516 by decide +kernel)) rfl ml_X11_135 st_X11_letters ini_X11 co_X11_letters hd_X11_letters ⟨(Nat.le_of_ble_eq_true rfl), (Nat.le_of_ble_eq_true rfl)⟩ ⟨(Nat.le_of_ble_eq_true rfl), (Nat.le_of_ble_eq_true rfl)⟩ (Nat.le_of_ble_eq_true rfl) dX11_init_554 rfl (fun H locs hw => ?_)
  refine cr_last (σ := σm12) X hw (b := 7) sM7 nM7 rfl (ib_in (n := 19) (by decide)) dX11_init_557 (fun H locs hw => ?_)
  replace hw : cH D s h0 ad0 (went WM ad0 cy σm13) 38 H locs := hw
  refine lv_aload_n hx hb dX11_init_558 rfl (lv_at hl 0 rfl) ?_
  refine cr_get X hw uw11 (ci := 11) rfl 0 (by decide) hA0.symm (went_obj sM0) 9 (by decide) ⟨rfl, rfl, rfl⟩ (v := .ref (ad0 7)) (wfld_ref (by decide) rfl rfl) fl_X11_34 dX11_init_559 ?_
  refine lv_bipush (v := 11) hx hb dX11_init_562 (by decide) ?_
  refine lv_bipush (v := 111) hx hb dX11_init_564 (by decide) ?_
  refine lv_bipush (v := 119) hx hb dX11_init_566 (by decide) ?_
  refine lv_bipush (v := 110) hx hb dX11_init_568 (by decide) ?_
  refine lv_iconst (v := 0) hx hb dX11_init_570 (by decide) ?_
  refine lv_iconst (v := 0) hx hb dX11_init_571 (by decide) ?_
  refine lv_iconst (v := 0) hx hb dX11_init_572 (by decide) ?_
  refine lv_iconst (v := 0) hx hb dX11_init_573 (by decide) ?_
  refine cr_cSl (w := WM) (σ := σm13) (r := 11570) (av := [.int 111, .int 119, .int 110, .int 0, .int 0, .int 0, .int 0]) (rest := [.int 11, .ref (ad0 7)]) X hw hl.1 (fun hI => k_X11_letters (σ := σm13) hI (show f_X11_letters 111 119 110 0 0 0 0 = some 11570 by decide +kernel)) rfl ml_X11_135 st_X11_letters ini_X11 co_X11_letters hd_X11_letters ⟨(Nat.le_of_ble_eq_true rfl), (Nat.le_of_ble_eq_true rfl)⟩ ⟨(Nat.le_of_ble_eq_true rfl), (Nat.le_of_ble_eq_true rfl)⟩ (Nat.le_of_ble_eq_true rfl) dX11_init_574 rfl (fun H locs hw => ?_)
  refine cr_last (σ := σm13) X hw (b := 7) sM7 nM7 rfl (ib_in (n := 19) (by decide)) dX11_init_577 (fun H locs hw => ?_)
  replace hw : cH D s h0 ad0 (went WM ad0 cy σm14) 38 H locs := hw
  refine lv_aload_n hx hb dX11_init_578 rfl (lv_at hl 0 rfl) ?_
  refine cr_get X hw uw11 (ci := 11) rfl 0 (by decide) hA0.symm (went_obj sM0) 9 (by decide) ⟨rfl, rfl, rfl⟩ (v := .ref (ad0 7)) (wfld_ref (by decide) rfl rfl) fl_X11_34 dX11_init_579 ?_
  refine lv_bipush (v := 12) hx hb dX11_init_582 (by decide) ?_
  refine lv_bipush (v := 112) hx hb dX11_init_584 (by decide) ?_
  refine lv_bipush (v := 117) hx hb dX11_init_586 (by decide) ?_
  refine lv_bipush (v := 114) hx hb dX11_init_588 (by decide) ?_
  refine lv_bipush (v := 115) hx hb dX11_init_590 (by decide) ?_
  refine lv_bipush (v := 101) hx hb dX11_init_592 (by decide) ?_
  refine lv_iconst (v := 0) hx hb dX11_init_594 (by decide) ?_
  refine lv_iconst (v := 0) hx hb dX11_init_595 (by decide) ?_
  refine cr_cSl (w := WM) (σ := σm14) (r := 8930039) (av := [.int 112, .int 117, .int 114, .int 115, .int 101, .int 0, .int 0]) (rest := [.int 12, .ref (ad0 7)]) X hw hl.1 (fun hI => k_X11_letters (σ := σm14) hI (show f_X11_letters 112 117 114 115 101 0 0 = some 8930039 by decide +kernel)) rfl ml_X11_135 st_X11_letters ini_X11 co_X11_letters hd_X11_letters ⟨(Nat.le_of_ble_eq_true rfl), (Nat.le_of_ble_eq_true rfl)⟩ ⟨(Nat.le_of_ble_eq_true rfl), (Nat.le_of_ble_eq_true rfl)⟩ (Nat.le_of_ble_eq_true rfl) dX11_init_596 rfl (fun H locs hw => ?_)
  refine cr_last (σ := σm14) X hw (b := 7) sM7 nM7 rfl (ib_in (n := 19) (by decide)) dX11_init_599 (fun H locs hw => ?_)
  replace hw : cH D s h0 ad0 (went WM ad0 cy σm15) 38 H locs := hw
  refine lv_aload_n hx hb dX11_init_600 rfl (lv_at hl 0 rfl) ?_
  refine cr_get X hw uw11 (ci := 11) rfl 0 (by decide) hA0.symm (went_obj sM0) 9 (by decide) ⟨rfl, rfl, rfl⟩ (v := .ref (ad0 7)) (wfld_ref (by decide) rfl rfl) fl_X11_34 dX11_init_601 ?_
  refine lv_bipush (v := 13) hx hb dX11_init_604 (by decide) ?_
  refine lv_bipush (v := 112) hx hb dX11_init_606 (by decide) ?_
  refine lv_bipush (v := 108) hx hb dX11_init_608 (by decide) ?_
  refine lv_bipush (v := 97) hx hb dX11_init_610 (by decide) ?_
  refine lv_bipush (v := 99) hx hb dX11_init_612 (by decide) ?_
  refine lv_bipush (v := 101) hx hb dX11_init_614 (by decide) ?_
  refine lv_iconst (v := 0) hx hb dX11_init_616 (by decide) ?_
  refine lv_iconst (v := 0) hx hb dX11_init_617 (by decide) ?_
  refine cr_cSl (w := WM) (σ := σm15) (r := 8740067) (av := [.int 112, .int 108, .int 97, .int 99, .int 101, .int 0, .int 0]) (rest := [.int 13, .ref (ad0 7)]) X hw hl.1 (fun hI => k_X11_letters (σ := σm15) hI (show f_X11_letters 112 108 97 99 101 0 0 = some 8740067 by decide +kernel)) rfl ml_X11_135 st_X11_letters ini_X11 co_X11_letters hd_X11_letters ⟨(Nat.le_of_ble_eq_true rfl), (Nat.le_of_ble_eq_true rfl)⟩ ⟨(Nat.le_of_ble_eq_true rfl), (Nat.le_of_ble_eq_true rfl)⟩ (Nat.le_of_ble_eq_true rfl) dX11_init_618 rfl (fun H locs hw => ?_)
  refine cr_last (σ := σm15) X hw (b := 7) sM7 nM7 rfl (ib_in (n := 19) (by decide)) dX11_init_621 (fun H locs hw => ?_)
  replace hw : cH D s h0 ad0 (went WM ad0 cy σm16) 38 H locs := hw
  refine lv_aload_n hx hb dX11_init_622 rfl (lv_at hl 0 rfl) ?_
  refine cr_get X hw uw11 (ci := 11) rfl 0 (by decide) hA0.symm (went_obj sM0) 9 (by decide) ⟨rfl, rfl, rfl⟩ (v := .ref (ad0 7)) (wfld_ref (by decide) rfl rfl) fl_X11_34 dX11_init_623 ?_
  refine lv_bipush (v := 14) hx hb dX11_init_626 (by decide) ?_
  refine lv_bipush (v := 115) hx hb dX11_init_628 (by decide) ?_
  refine lv_bipush (v := 101) hx hb dX11_init_630 (by decide) ?_
  refine lv_bipush (v := 115) hx hb dX11_init_632 (by decide) ?_
  refine lv_bipush (v := 115) hx hb dX11_init_634 (by decide) ?_
  refine lv_bipush (v := 105) hx hb dX11_init_636 (by decide) ?_
  refine lv_bipush (v := 111) hx hb dX11_init_638 (by decide) ?_
  refine lv_bipush (v := 110) hx hb dX11_init_640 (by decide) ?_
  refine cr_cSl (w := WM) (σ := σm16) (r := 7443212162) (av := [.int 115, .int 101, .int 115, .int 115, .int 105, .int 111, .int 110]) (rest := [.int 14, .ref (ad0 7)]) X hw hl.1 (fun hI => k_X11_letters (σ := σm16) hI (show f_X11_letters 115 101 115 115 105 111 110 = some 7443212162 by decide +kernel)) rfl ml_X11_135 st_X11_letters ini_X11 co_X11_letters hd_X11_letters ⟨(Nat.le_of_ble_eq_true rfl), (Nat.le_of_ble_eq_true rfl)⟩ ⟨(Nat.le_of_ble_eq_true rfl), (Nat.le_of_ble_eq_true rfl)⟩ (Nat.le_of_ble_eq_true rfl) dX11_init_642 rfl (fun H locs hw => ?_)
  refine cr_last (σ := σm16) X hw (b := 7) sM7 nM7 rfl (ib_in (n := 19) (by decide)) dX11_init_645 (fun H locs hw => ?_)
  replace hw : cH D s h0 ad0 (went WM ad0 cy σm17) 38 H locs := hw
  refine lv_aload_n hx hb dX11_init_646 rfl (lv_at hl 0 rfl) ?_
  refine cr_get X hw uw11 (ci := 11) rfl 0 (by decide) hA0.symm (went_obj sM0) 9 (by decide) ⟨rfl, rfl, rfl⟩ (v := .ref (ad0 7)) (wfld_ref (by decide) rfl rfl) fl_X11_34 dX11_init_647 ?_
  refine lv_bipush (v := 15) hx hb dX11_init_650 (by decide) ?_
  refine lv_bipush (v := 119) hx hb dX11_init_652 (by decide) ?_
  refine lv_bipush (v := 104) hx hb dX11_init_654 (by decide) ?_
  refine lv_bipush (v := 105) hx hb dX11_init_656 (by decide) ?_
  refine lv_bipush (v := 99) hx hb dX11_init_658 (by decide) ?_
  refine lv_bipush (v := 104) hx hb dX11_init_660 (by decide) ?_
  refine lv_iconst (v := 0) hx hb dX11_init_662 (by decide) ?_
  refine lv_iconst (v := 0) hx hb dX11_init_663 (by decide) ?_
  refine cr_cSl (w := WM) (σ := σm17) (r := 12387257) (av := [.int 119, .int 104, .int 105, .int 99, .int 104, .int 0, .int 0]) (rest := [.int 15, .ref (ad0 7)]) X hw hl.1 (fun hI => k_X11_letters (σ := σm17) hI (show f_X11_letters 119 104 105 99 104 0 0 = some 12387257 by decide +kernel)) rfl ml_X11_135 st_X11_letters ini_X11 co_X11_letters hd_X11_letters ⟨(Nat.le_of_ble_eq_true rfl), (Nat.le_of_ble_eq_true rfl)⟩ ⟨(Nat.le_of_ble_eq_true rfl), (Nat.le_of_ble_eq_true rfl)⟩ (Nat.le_of_ble_eq_true rfl) dX11_init_664 rfl (fun H locs hw => ?_)
  refine cr_last (σ := σm17) X hw (b := 7) sM7 nM7 rfl (ib_in (n := 19) (by decide)) dX11_init_667 (fun H locs hw => ?_)
  replace hw : cH D s h0 ad0 (went WM ad0 cy σm18) 38 H locs := hw
  refine lv_aload_n hx hb dX11_init_668 rfl (lv_at hl 0 rfl) ?_
  refine cr_get X hw uw11 (ci := 11) rfl 0 (by decide) hA0.symm (went_obj sM0) 9 (by decide) ⟨rfl, rfl, rfl⟩ (v := .ref (ad0 7)) (wfld_ref (by decide) rfl rfl) fl_X11_34 dX11_init_669 ?_
  refine lv_bipush (v := 16) hx hb dX11_init_672 (by decide) ?_
  refine lv_bipush (v := 99) hx hb dX11_init_674 (by decide) ?_
  refine lv_bipush (v := 97) hx hb dX11_init_676 (by decide) ?_
  refine lv_bipush (v := 115) hx hb dX11_init_678 (by decide) ?_
  refine lv_bipush (v := 101) hx hb dX11_init_680 (by decide) ?_
  refine lv_bipush (v := 115) hx hb dX11_init_682 (by decide) ?_
  refine lv_iconst (v := 0) hx hb dX11_init_684 (by decide) ?_
  refine lv_iconst (v := 0) hx hb dX11_init_685 (by decide) ?_
  refine cr_cSl (w := WM) (σ := σm18) (r := 1628011) (av := [.int 99, .int 97, .int 115, .int 101, .int 115, .int 0, .int 0]) (rest := [.int 16, .ref (ad0 7)]) X hw hl.1 (fun hI => k_X11_letters (σ := σm18) hI (show f_X11_letters 99 97 115 101 115 0 0 = some 1628011 by decide +kernel)) rfl ml_X11_135 st_X11_letters ini_X11 co_X11_letters hd_X11_letters ⟨(Nat.le_of_ble_eq_true rfl), (Nat.le_of_ble_eq_true rfl)⟩ ⟨(Nat.le_of_ble_eq_true rfl), (Nat.le_of_ble_eq_true rfl)⟩ (Nat.le_of_ble_eq_true rfl) dX11_init_686 rfl (fun H locs hw => ?_)
  refine cr_last (σ := σm18) X hw (b := 7) sM7 nM7 rfl (ib_in (n := 19) (by decide)) dX11_init_689 (fun H locs hw => ?_)
  replace hw : cH D s h0 ad0 (went WM ad0 cy σm19) 38 H locs := hw
  refine lv_aload_n hx hb dX11_init_690 rfl (lv_at hl 0 rfl) ?_
  refine cr_get X hw uw11 (ci := 11) rfl 0 (by decide) hA0.symm (went_obj sM0) 9 (by decide) ⟨rfl, rfl, rfl⟩ (v := .ref (ad0 7)) (wfld_ref (by decide) rfl rfl) fl_X11_34 dX11_init_691 ?_
  refine lv_bipush (v := 17) hx hb dX11_init_694 (by decide) ?_
  refine lv_bipush (v := 112) hx hb dX11_init_696 (by decide) ?_
  refine lv_bipush (v := 108) hx hb dX11_init_698 (by decide) ?_
  refine lv_bipush (v := 101) hx hb dX11_init_700 (by decide) ?_
  refine lv_bipush (v := 100) hx hb dX11_init_702 (by decide) ?_
  refine lv_iconst (v := 0) hx hb dX11_init_704 (by decide) ?_
  refine lv_iconst (v := 0) hx hb dX11_init_705 (by decide) ?_
  refine lv_iconst (v := 0) hx hb dX11_init_706 (by decide) ?_
  refine cr_cSl (w := WM) (σ := σm19) (r := 323815) (av := [.int 112, .int 108, .int 101, .int 100, .int 0, .int 0, .int 0]) (rest := [.int 17, .ref (ad0 7)]) X hw hl.1 (fun hI => k_X11_letters (σ := σm19) hI (show f_X11_letters 112 108 101 100 0 0 0 = some 323815 by decide +kernel)) rfl ml_X11_135 st_X11_letters ini_X11 co_X11_letters hd_X11_letters ⟨(Nat.le_of_ble_eq_true rfl), (Nat.le_of_ble_eq_true rfl)⟩ ⟨(Nat.le_of_ble_eq_true rfl), (Nat.le_of_ble_eq_true rfl)⟩ (Nat.le_of_ble_eq_true rfl) dX11_init_707 rfl (fun H locs hw => ?_)
  refine cr_last (σ := σm19) X hw (b := 7) sM7 nM7 rfl (ib_in (n := 19) (by decide)) dX11_init_710 (fun H locs hw => ?_)
  replace hw : cH D s h0 ad0 (went WM ad0 cy σm20) 38 H locs := hw
  refine lv_aload_n hx hb dX11_init_711 rfl (lv_at hl 0 rfl) ?_
  refine cr_get X hw uw11 (ci := 11) rfl 0 (by decide) hA0.symm (went_obj sM0) 9 (by decide) ⟨rfl, rfl, rfl⟩ (v := .ref (ad0 7)) (wfld_ref (by decide) rfl rfl) fl_X11_34 dX11_init_712 ?_
  refine lv_bipush (v := 18) hx hb dX11_init_715 (by decide) ?_
  refine lv_bipush (v := 103) hx hb dX11_init_717 (by decide) ?_
  refine lv_bipush (v := 111) hx hb dX11_init_719 (by decide) ?_
  refine lv_bipush (v := 110) hx hb dX11_init_721 (by decide) ?_
  refine lv_bipush (v := 101) hx hb dX11_init_723 (by decide) ?_
  refine lv_iconst (v := 0) hx hb dX11_init_725 (by decide) ?_
  refine lv_iconst (v := 0) hx hb dX11_init_726 (by decide) ?_
  refine lv_iconst (v := 0) hx hb dX11_init_727 (by decide) ?_
  refine cr_cSl (w := WM) (σ := σm20) (r := 149099) (av := [.int 103, .int 111, .int 110, .int 101, .int 0, .int 0, .int 0]) (rest := [.int 18, .ref (ad0 7)]) X hw hl.1 (fun hI => k_X11_letters (σ := σm20) hI (show f_X11_letters 103 111 110 101 0 0 0 = some 149099 by decide +kernel)) rfl ml_X11_135 st_X11_letters ini_X11 co_X11_letters hd_X11_letters ⟨(Nat.le_of_ble_eq_true rfl), (Nat.le_of_ble_eq_true rfl)⟩ ⟨(Nat.le_of_ble_eq_true rfl), (Nat.le_of_ble_eq_true rfl)⟩ (Nat.le_of_ble_eq_true rfl) dX11_init_728 rfl (fun H locs hw => ?_)
  refine cr_last (σ := σm20) X hw (b := 7) sM7 nM7 rfl (ib_in (n := 19) (by decide)) dX11_init_731 (fun H locs hw => ?_)
  replace hw : cH D s h0 ad0 (went WM ad0 cy σm21) 38 H locs := hw
  refine lv_aload_n hx hb dX11_init_732 rfl (lv_at hl 0 rfl) ?_
  refine cr_cV (w := WM) (σ := σm21) (σ' := σm22) (av := []) (rest := []) X hw hl.1 (cid := 0) sM0 nM0 rfl hA0.symm (fun hI => k_X11_begins hI σm22_ok) rfl ml_X11_143 im_X11_begins se_X11_begins ini_X11 co_X11_begins hd_X11_begins ⟨(Nat.le_of_ble_eq_true rfl), (Nat.le_of_ble_eq_true rfl)⟩ ⟨(Nat.le_of_ble_eq_true rfl), (Nat.le_of_ble_eq_true rfl)⟩ (Nat.le_of_ble_eq_true rfl) dX11_init_733 rfl (fun H locs hw => ?_)
  refine lv_aload_n hx hb dX11_init_736 rfl (lv_at hl 0 rfl) ?_
  refine cr_cV (w := WM) (σ := σm22) (σ' := σm23) (av := []) (rest := []) X hw hl.1 (cid := 0) sM0 nM0 rfl hA0.symm (fun hI => k_X11_keepsRow hI σm23_ok) rfl ml_X11_146 im_X11_keepsRow se_X11_keepsRow ini_X11 co_X11_keepsRow hd_X11_keepsRow ⟨(Nat.le_of_ble_eq_true rfl), (Nat.le_of_ble_eq_true rfl)⟩ ⟨(Nat.le_of_ble_eq_true rfl), (Nat.le_of_ble_eq_true rfl)⟩ (Nat.le_of_ble_eq_true rfl) dX11_init_737 rfl (fun H locs hw => ?_)
  exact cr_ret (F' := fun ad => went WM ad cy σM) X hw hlt (fun i hi => rfl) hr dX11_init_740
