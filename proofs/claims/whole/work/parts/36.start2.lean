theorem st_prim {args : Array Value} {s : State} {ty : FieldType} (h : (Cond.arrayClass ty).before args s = true) : ∃ c : ClassId, ArrOfT s c ty ∧ s.vm.findClass ("[" ++ ty.toString) = some c := by
  obtain ⟨c, k, comp, h1, h2, h3⟩ := Cond.arrayClass_spec h
  exact ⟨c, fun N z => ⟨fun k h => (by cases h), k, h2, comp, h3⟩, h1⟩
theorem start_K {p : Program} {s : State} {m : MethodId} {meth : Method} {c : Code} {b L : Nat} {xs : Nat → Int32} (C0 : lw_At p s m meth c b L xs) : ∃ (D : va_G) (cy : Nat → ClassId) (z : wStr), cK D cy z s.heap.size s := by
  obtain ⟨hx, hb, hr, hml, hown, hts, hX, hbl, hlocks, hgv⟩ := C0
  have hgs := flat_of_before _ hgv
  have tw : ∀ x ∈ aw, x.before #[Value.ref b] s = true := fun x h => hts x (List.mem_filter.mp h).1
  have hA : ∀ a : Nat, a < s.heap.size → ¬ (fun q => s.heap.size ≤ q) a := fun a h => Nat.not_le.mpr h
  obtain ⟨c0, i0, hKn0⟩ := u_known (C := RX0) (T := TX0) (N := 3) tw uw0 (tw _ inX0)
  obtain ⟨c1, i1, hKn1⟩ := u_known (C := RX1) (T := TX1) (N := 4) tw uw1 (tw _ inX1)
  obtain ⟨c2, i2, hKn2⟩ := u_known (C := RX2) (T := TX2) (N := 8) tw uw2 (tw _ inX2)
  obtain ⟨c3, i3, hKn3⟩ := u_known (C := RX3) (T := TX3) (N := 5) tw uw3 (tw _ inX3)
  obtain ⟨c4, i4, hKn4⟩ := u_known (C := RX4) (T := TX4) (N := 7) tw uw4 (tw _ inX4)
  obtain ⟨c5, i5, hKn5⟩ := u_known (C := RX5) (T := TX5) (N := 6) tw uw5 (tw _ inX5)
  obtain ⟨c6, i6, hKn6⟩ := u_known (C := RX6) (T := TX6) (N := 8) tw uw6 (tw _ inX6)
  obtain ⟨c7, i7, hKn7⟩ := u_known (C := RX7) (T := TX7) (N := 2) tw uw7 (tw _ inX7)
  obtain ⟨c8, i8, hKn8⟩ := u_known (C := RX8) (T := TX8) (N := 9) tw uw8 (tw _ inX8)
  obtain ⟨c9, i9, hKn9⟩ := u_known (C := RX9) (T := TX9) (N := 7) tw uw9 (tw _ inX9)
  obtain ⟨c10, i10, hKn10⟩ := u_known (C := RX10) (T := TX10) (N := 12) tw uw10 (tw _ inX10)
  obtain ⟨c11, i11, hKn11⟩ := u_known (C := RX11) (T := TX11) (N := 59) tw uw11 (tw _ inX11)
  obtain ⟨yi, qi1, qi2⟩ := st_prim (tw _ arc_int)
  obtain ⟨yl, ql1, ql2⟩ := st_prim (tw _ arc_long)
  obtain ⟨yb, qb1, qb2⟩ := st_prim (tw _ arc_byte)
  obtain ⟨yz, qz1, qz2⟩ := st_prim (tw _ arc_boolean)
  have hAO : (Cond.arrayOver (.object "CaseBefore$State")).before #[Value.ref b] s = true := hts _ (t2 _ (mh (i := 96) rfl))
  obtain ⟨co, yo, ko, e1, e2, e3, e4, e5⟩ := Cond.arrayOver_spec hAO
  obtain ⟨adK, adV, hS, hev⟩ := vk_Sof (args := #[Value.ref b]) (s := s) (N := 2) (tm := stm) (len := wlen) (byt := wbyt) (A := fun q => s.heap.size ≤ q) (by decide) (fun i hi => hgs _ (st_ex i hi)) (fun i hi => hgs _ (st_co i hi)) (fun i hi => hgs _ (st_ar i hi)) (fun i hi => hgs _ (st_le i hi)) (fun i hi j hj => by
    match i, hi with
    | 0, _ => exact hgs _ (st_el0 j hj)
    | 1, _ => exact hgs _ (st_el1 j hj)) (fun i j hi hj hij => by
    match i, hi, j, hj, hij with
    | 0, _, 0, _, h => exact absurd rfl h
    | 1, _, 1, _, h => exact absurd rfl h
    | 1, _, 0, _, _ => exact Or.inl (hgs _ st_ne)
    | 0, _, 1, _, _ => exact Or.inr (hgs _ st_ne)) hA
  refine ⟨(fun k => if k = 0 then c0 else if k = 1 then c1 else if k = 2 then c2 else if k = 3 then c3 else if k = 4 then c4 else if k = 5 then c5 else if k = 6 then c6 else if k = 7 then c7 else if k = 8 then c8 else if k = 9 then c9 else if k = 10 then c10 else c11, fun k => if k = 0 then i0 else if k = 1 then i1 else if k = 2 then i2 else if k = 3 then i3 else if k = 4 then i4 else if k = 5 then i5 else if k = 6 then i6 else if k = 7 then i7 else if k = 8 then i8 else if k = 9 then i9 else if k = 10 then i10 else i11), fun t => if t = 0 then yi else if t = 1 then yl else if t = 2 then yb else if t = 3 then yz else yo, (adK, adV), ⟨fun k q hq => ?_, fun k q hq => ?_⟩, hAO, fun x hx hn => ?_, hS, ?_, ?_, ?_, ?_⟩
  · match k, hq with
    | 0, hq => cases hq; exact hKn0
    | 1, hq => cases hq; exact hKn1
    | 2, hq => cases hq; exact hKn2
    | 3, hq => cases hq; exact hKn3
    | 4, hq => cases hq; exact hKn4
    | 5, hq => cases hq; exact hKn5
    | 6, hq => cases hq; exact hKn6
    | 7, hq => cases hq; exact hKn7
    | 8, hq => cases hq; exact hKn8
    | 9, hq => cases hq; exact hKn9
    | 10, hq => cases hq; exact hKn10
    | 11, hq => cases hq; exact hKn11
    | k + 12, hq => simp [vwCl] at hq
  · match k, hq with
    | 0, hq => cases hq; exact ⟨qi1, qi2⟩
    | 1, hq => cases hq; exact ⟨ql1, ql2⟩
    | 2, hq => cases hq; exact ⟨qb1, qb2⟩
    | 3, hq => cases hq; exact ⟨qz1, qz2⟩
    | 4, hq => cases hq; exact ⟨fun N z => ⟨fun k h => (by cases h), ko, e3, co, e4⟩, ko, co, e3, e4, e1, e5⟩
    | k + 5, hq => simp [wtys] at hq
  · refine va_Nw.of ?_ (hts x hx)
    cases x <;> first | rfl | cases hn
  · exact vk_R.of (hts _ (t3 _ (mh (i := 18) rfl))) (hev 0 (by decide))
  · exact vk_R.of (hts _ (t2 _ (mh (i := 201) rfl))) (hev 1 (by decide))
  · exact va_Zof (hts _ (t2 _ (mh (i := 211) rfl))) (tw _ ini_J0) (va_eqt (hgs _ st_cs)) hA
  · exact va_Zqof (hts _ (t2 _ (mh (i := 227) rfl))) (tw _ ini_J3) (hgs _ st_sf) hA
