theorem lr_top {p : Program} {l : Launch} {e : Env} {R : Room} {s : State} {m : MethodId} {args : Array Value} {below : List Frame} {meth : Method} {c : Code} {H : Heap} {locs : List Loc} {cells slots : Nat} {Q : State → Prop} {pc : Nat} {ls : Array Slot} {rest : List Value} {x y : Int32} (h : y = x) (k : W p l e R s m args below meth c H locs cells slots Q (F0 m pc ls (.int y :: rest))) : W p l e R s m args below meth c H locs cells slots Q (F0 m pc ls (.int x :: rest)) := by
  subst h; exact k
theorem law_lt {i L : Nat} (hL : L ≤ 3072) (hi : i ≤ L + 6) (h : ¬ Int32.ofNat L - 6 < nI i) : i + 6 ≤ L := by
  have h1 := Int32.le_iff_toInt_le.mp (Int32.not_lt.mp h)
  have h2 : (nI i).toInt = (i : Int) := nI_toInt (by omega)
  have h3 : (Int32.ofNat L).toInt = (L : Int) := nI_toInt (by omega)
  have h4 : (Int32.ofNat L - 6).toInt = (L : Int) - 6 := by
    rw [Int32.toInt_sub, h3, show (6 : Int32).toInt = 6 by decide]
    exact Int.bmod_eq_of_le (by omega) (by omega)
  rw [h2, h4] at h1
  omega
set_option maxRecDepth 100000 in
set_option maxHeartbeats 8000000 in
theorem law_loop {p : Program} {l : Launch} {e : Env} {s : State} {m : MethodId} {below : List Frame} {meth : Method} {c : Code} {D : va_G} {cy : Nat → ClassId} {z : wStr} {b L : Nat} {xs : Nat → Int32} (hL : L ≤ 3072) (C0 : lw_At p s m meth c b L xs) (X : CallFix p m c code 4 s #[Value.ref b] (Cond.initialized RL :: aw) RL) (K : cK D cy z s.heap.size s) {Inv : St → St → Prop} (hV : SimOK Inv) {adC adM : Nat → Nat} (hIC : wI WC adC) (hIM : wI WM adM) (hdis : ∀ i j, i < WC.2.2 → j < WM.2.2 → adC i ≠ adM j) (hgC : ∀ i, i < WC.2.2 → s.heap.size ≤ adC i) (hgM : ∀ i, i < WM.2.2 → s.heap.size ≤ adM i) :
    ∀ (n i : Nat), i ≤ L + 6 → L + 7 ≤ i + n → ∀ (σ τ : St), Inv σ τ → ∀ (H : Heap) (locs : List Loc), va_P D vwCl (wl WC adC cy σ) H → va_P D vwCl (wl WM adM cy τ) H → va_S (fun q => s.heap.size ≤ q) s.heap H locs → ∀ (ls : Array Slot), lv_has ls 4 [(0, .ref b), (1, .ref (adC 0)), (2, .ref (adM 0)), (3, .int (nI i))] → W p l e room_1 s m #[Value.ref b] below meth c H locs 256 17010 (lw_Z below #[Value.ref b] s) (F0 m 18 ls []) := by
  obtain ⟨hx, hb, hr, hml, hown, hts, hX, hbl, hlocks, hgv⟩ := C0
  have hbA : ¬ (fun q : Nat => s.heap.size ≤ q) b := Nat.not_le.mpr hbl
  have hdis' : ∀ i j, i < WM.2.2 → j < WC.2.2 → adM i ≠ adC j := fun i j hi hj e => hdis j i hj hi e.symm
  obtain ⟨hV0, hV_feed, hV_back, hV_read, hV_place, hV_docket, hV_suffers, hV_tells, hV_at, hV_change, hV_go, hV_off, hV_on, hV_plead, hV_sessions, hV_undo, hV_best, hV_traders, hV_gain, hV_behind, hV_rests, hV_settles, hV_shunned, hV_buyers, hV_lighter, hV_furthest, hV_then, hV_listIn, hV_year, hV_tell, hV_forget, hV_fits, hV_ask, hV_hold, hV_restore, hV_count⟩ := hV
  intro n
  induction n with
  | zero =>
    intro i h1 h2 σ τ hinv H locs h1 h2 hS ls hl
    exact absurd h2 (by omega)
  | succ n ih =>
    intro i hi hin σ τ hinv H locs h1 h2 hS ls hl
    refine lv_iload_n hx hb dL_law_18 rfl (lv_at hl 3 rfl) ?_
    refine lv_aload_n hx hb dL_law_19 rfl (lv_at hl 0 rfl) ?_
    refine va_slen hx hb hX hbl hbA hS dL_law_20 ?_
    refine lv_bipush (v := 6) hx hb dL_law_21 (by decide) ?_
    refine lv_isub hx hb dL_law_23 ?_
    refine lv_icmp_gt (tgt := 1155) hx hb dL_law_24 (by decide) (fun c1 => ?_) (fun c1 => ?_)
    · refine lv_iconst (v := 1) hx hb dL_law_1155 (by decide) ?_
      refine va_forget (fun q hq => hS.2.2 q hq) ?_
      refine W.widen (k := 600000) (n := 7302250) (by omega) (by omega) ?_
      exact lw_ret hx hb hr hlocks dL_law_1156
    · have hlt : i + 6 ≤ L := law_lt hL hi c1
      have hin0 : vp_in (nI i) L := by exact vp_in_nI (by omega) (by omega)
      have hin1 : vp_in (nI i + 1) L := by rw [show nI i + 1 = nI (i + 1) from nI_add i 1]; exact vp_in_nI (by omega) (by omega)
      have hin2 : vp_in (nI i + 2) L := by rw [show nI i + 2 = nI (i + 2) from nI_add i 2]; exact vp_in_nI (by omega) (by omega)
      have hin3 : vp_in (nI i + 3) L := by rw [show nI i + 3 = nI (i + 3) from nI_add i 3]; exact vp_in_nI (by omega) (by omega)
      have hin4 : vp_in (nI i + 4) L := by rw [show nI i + 4 = nI (i + 4) from nI_add i 4]; exact vp_in_nI (by omega) (by omega)
      have hin5 : vp_in (nI i + 5) L := by rw [show nI i + 5 = nI (i + 5) from nI_add i 5]; exact vp_in_nI (by omega) (by omega)
      refine lv_aload_n hx hb dL_law_27 rfl (lv_at hl 0 rfl) ?_
      refine lv_iload_n hx hb dL_law_28 rfl (lv_at hl 3 rfl) ?_
      refine va_sld hx hb hX hbl hbA hS hin0 dL_law_29 ?_
      refine lv_bipush (v := 63) hx hb dL_law_30 (by decide) ?_
      refine lv_iand hx hb dL_law_32 ?_
      generalize xs (nI i).toNatClampNeg &&& 63 = op
      obtain ⟨v1, hv1⟩ : ∃ v, v = xs (nI i + 1).toNatClampNeg := ⟨_, rfl⟩
      obtain ⟨v2, hv2⟩ : ∃ v, v = xs (nI i + 2).toNatClampNeg := ⟨_, rfl⟩
      obtain ⟨v3, hv3⟩ : ∃ v, v = xs (nI i + 3).toNatClampNeg := ⟨_, rfl⟩
      obtain ⟨v4, hv4⟩ : ∃ v, v = xs (nI i + 4).toNatClampNeg := ⟨_, rfl⟩
      obtain ⟨v5, hv5⟩ : ∃ v, v = xs (nI i + 5).toNatClampNeg := ⟨_, rfl⟩
      have go : ∀ (σ2 τ2 : St), Inv σ2 τ2 → ∀ (H : Heap) (locs : List Loc), va_P D vwCl (wl WC adC cy σ2) H → va_P D vwCl (wl WM adM cy τ2) H → va_S (fun q => s.heap.size ≤ q) s.heap H locs → W p l e room_1 s m #[Value.ref b] below meth c H locs 256 17010 (lw_Z below #[Value.ref b] s) (F0 m 1149 ls []) := by
        intro σ2 τ2 hinv2 H locs h1 h2 hS
        refine lv_iinc (v := nI (i + 6)) (lv' := [(3, .int (nI (i + 6))), (0, .ref b), (1, .ref (adC 0)), (2, .ref (adM 0))]) hx hb dL_law_1149 hl (k := 3) rfl (by rw [show nI (i + 6) = nI i + nI 6 from (nI_add i 6).symm]; rfl) (by decide) rfl (fun ls hl => ?_)
        refine lv_goto (tgt := 18) hx hb dL_law_1152 (by decide) ?_
        exact ih (i + 6) (by omega) (by omega) σ2 τ2 hinv2 H locs h1 h2 hS ls (lv_sub hl [1, 2, 3, 0] rfl)
      by_cases c0_ : op = (0 : Int32)
      · refine lv_tableIn (tgt := 188) (off := 155) hx hb dL_law_33 (by rw [c0_]; decide) (by rw [c0_]; decide) (by rw [c0_]; rfl) (by decide) ?_
        obtain ⟨r, σ', τ', e1, e2, hinv2⟩ := hV_feed σ τ hinv v1 v2 v3 v4 v5
        refine lv_aload_n hx hb dL_law_188 rfl (lv_at hl 1 rfl) ?_
        refine lv_aload_n hx hb dL_law_189 rfl (lv_at hl 0 rfl) ?_
        refine lv_iload_n hx hb dL_law_190 rfl (lv_at hl 3 rfl) ?_
        refine lv_iconst (v := 1) hx hb dL_law_191 (by decide) ?_
        refine lv_iadd hx hb dL_law_192 ?_
        refine va_sld hx hb hX hbl hbA hS hin1 dL_law_193 ?_
        refine lr_top hv1 ?_
        refine lv_aload_n hx hb dL_law_194 rfl (lv_at hl 0 rfl) ?_
        refine lv_iload_n hx hb dL_law_195 rfl (lv_at hl 3 rfl) ?_
        refine lv_iconst (v := 2) hx hb dL_law_196 (by decide) ?_
        refine lv_iadd hx hb dL_law_197 ?_
        refine va_sld hx hb hX hbl hbA hS hin2 dL_law_198 ?_
        refine lr_top hv2 ?_
        refine lv_aload_n hx hb dL_law_199 rfl (lv_at hl 0 rfl) ?_
        refine lv_iload_n hx hb dL_law_200 rfl (lv_at hl 3 rfl) ?_
        refine lv_iconst (v := 3) hx hb dL_law_201 (by decide) ?_
        refine lv_iadd hx hb dL_law_202 ?_
        refine va_sld hx hb hX hbl hbA hS hin3 dL_law_203 ?_
        refine lr_top hv3 ?_
        refine lv_aload_n hx hb dL_law_204 rfl (lv_at hl 0 rfl) ?_
        refine lv_iload_n hx hb dL_law_205 rfl (lv_at hl 3 rfl) ?_
        refine lv_iconst (v := 4) hx hb dL_law_206 (by decide) ?_
        refine lv_iadd hx hb dL_law_207 ?_
        refine va_sld hx hb hX hbl hbA hS hin4 dL_law_208 ?_
        refine lr_top hv4 ?_
        refine lv_aload_n hx hb dL_law_209 rfl (lv_at hl 0 rfl) ?_
        refine lv_iload_n hx hb dL_law_210 rfl (lv_at hl 3 rfl) ?_
        refine lv_iconst (v := 5) hx hb dL_law_211 (by decide) ?_
        refine lv_iadd hx hb dL_law_212 ?_
        refine va_sld hx hb hX hbl hbA hS hin5 dL_law_213 ?_
        refine lr_top hv5 ?_
        refine lr_call (w1 := WC) (w2 := WM) (r := r) (σ' := σ') (av := [.int v1, .int v2, .int v3, .int v4, .int v5]) (rest := []) X K h1 h2 hS hIC hdis hgC hl.1 sC0 nC0 rfl (k_X10_feed hIC e1) rfl ml_L_13 im_X10_feed se_X10_feed ini_X10 co_X10_feed hd_X10_feed ⟨(Nat.le_of_ble_eq_true rfl), (Nat.le_of_ble_eq_true rfl)⟩ ⟨(Nat.le_of_ble_eq_true rfl), (Nat.le_of_ble_eq_true rfl)⟩ (Nat.le_of_ble_eq_true rfl) dL_law_214 rfl (fun H locs h1 h2 hS => ?_)
        refine lv_aload_n hx hb dL_law_217 rfl (lv_at hl 2 rfl) ?_
        refine lv_aload_n hx hb dL_law_218 rfl (lv_at hl 0 rfl) ?_
        refine lv_iload_n hx hb dL_law_219 rfl (lv_at hl 3 rfl) ?_
        refine lv_iconst (v := 1) hx hb dL_law_220 (by decide) ?_
        refine lv_iadd hx hb dL_law_221 ?_
        refine va_sld hx hb hX hbl hbA hS hin1 dL_law_222 ?_
        refine lr_top hv1 ?_
        refine lv_aload_n hx hb dL_law_223 rfl (lv_at hl 0 rfl) ?_
        refine lv_iload_n hx hb dL_law_224 rfl (lv_at hl 3 rfl) ?_
        refine lv_iconst (v := 2) hx hb dL_law_225 (by decide) ?_
        refine lv_iadd hx hb dL_law_226 ?_
        refine va_sld hx hb hX hbl hbA hS hin2 dL_law_227 ?_
        refine lr_top hv2 ?_
        refine lv_aload_n hx hb dL_law_228 rfl (lv_at hl 0 rfl) ?_
        refine lv_iload_n hx hb dL_law_229 rfl (lv_at hl 3 rfl) ?_
        refine lv_iconst (v := 3) hx hb dL_law_230 (by decide) ?_
        refine lv_iadd hx hb dL_law_231 ?_
        refine va_sld hx hb hX hbl hbA hS hin3 dL_law_232 ?_
        refine lr_top hv3 ?_
        refine lv_aload_n hx hb dL_law_233 rfl (lv_at hl 0 rfl) ?_
        refine lv_iload_n hx hb dL_law_234 rfl (lv_at hl 3 rfl) ?_
        refine lv_iconst (v := 4) hx hb dL_law_235 (by decide) ?_
        refine lv_iadd hx hb dL_law_236 ?_
        refine va_sld hx hb hX hbl hbA hS hin4 dL_law_237 ?_
        refine lr_top hv4 ?_
        refine lv_aload_n hx hb dL_law_238 rfl (lv_at hl 0 rfl) ?_
        refine lv_iload_n hx hb dL_law_239 rfl (lv_at hl 3 rfl) ?_
        refine lv_iconst (v := 5) hx hb dL_law_240 (by decide) ?_
        refine lv_iadd hx hb dL_law_241 ?_
        refine va_sld hx hb hX hbl hbA hS hin5 dL_law_242 ?_
        refine lr_top hv5 ?_
        refine lr_call (w1 := WM) (w2 := WC) (r := r) (σ' := τ') (av := [.int v1, .int v2, .int v3, .int v4, .int v5]) (rest := [.int r]) X K h2 h1 hS hIM hdis' hgM hl.1 sM0 nM0 rfl (k_X11_feed hIM e2) rfl ml_L_17 im_X11_feed se_X11_feed ini_X11 co_X11_feed hd_X11_feed ⟨(Nat.le_of_ble_eq_true rfl), (Nat.le_of_ble_eq_true rfl)⟩ ⟨(Nat.le_of_ble_eq_true rfl), (Nat.le_of_ble_eq_true rfl)⟩ (Nat.le_of_ble_eq_true rfl) dL_law_243 rfl (fun H locs h2 h1 hS => ?_)
        exact lv_icmp_eq (tgt := 1149) hx hb dL_law_246 (by decide) (fun _ => go σ' τ' hinv2 H locs h1 h2 hS) (fun q => absurd rfl q)
      by_cases c1_ : op = (1 : Int32)
      · refine lv_tableIn (tgt := 251) (off := 218) hx hb dL_law_33 (by rw [c1_]; decide) (by rw [c1_]; decide) (by rw [c1_]; rfl) (by decide) ?_
        obtain ⟨r, σ', τ', e1, e2, hinv2⟩ := hV_back σ τ hinv v1
        refine lv_aload_n hx hb dL_law_251 rfl (lv_at hl 1 rfl) ?_
        refine lv_aload_n hx hb dL_law_252 rfl (lv_at hl 0 rfl) ?_
        refine lv_iload_n hx hb dL_law_253 rfl (lv_at hl 3 rfl) ?_
        refine lv_iconst (v := 1) hx hb dL_law_254 (by decide) ?_
        refine lv_iadd hx hb dL_law_255 ?_
        refine va_sld hx hb hX hbl hbA hS hin1 dL_law_256 ?_
        refine lr_top hv1 ?_
        refine lr_call (w1 := WC) (w2 := WM) (r := r) (σ' := σ') (av := [.int v1]) (rest := []) X K h1 h2 hS hIC hdis hgC hl.1 sC0 nC0 rfl (k_X10_back hIC e1) rfl ml_L_18 im_X10_back se_X10_back ini_X10 co_X10_back hd_X10_back ⟨(Nat.le_of_ble_eq_true rfl), (Nat.le_of_ble_eq_true rfl)⟩ ⟨(Nat.le_of_ble_eq_true rfl), (Nat.le_of_ble_eq_true rfl)⟩ (Nat.le_of_ble_eq_true rfl) dL_law_257 rfl (fun H locs h1 h2 hS => ?_)
        refine lv_aload_n hx hb dL_law_260 rfl (lv_at hl 2 rfl) ?_
        refine lv_aload_n hx hb dL_law_261 rfl (lv_at hl 0 rfl) ?_
        refine lv_iload_n hx hb dL_law_262 rfl (lv_at hl 3 rfl) ?_
        refine lv_iconst (v := 1) hx hb dL_law_263 (by decide) ?_
        refine lv_iadd hx hb dL_law_264 ?_
        refine va_sld hx hb hX hbl hbA hS hin1 dL_law_265 ?_
        refine lr_top hv1 ?_
        refine lr_call (w1 := WM) (w2 := WC) (r := r) (σ' := τ') (av := [.int v1]) (rest := [.int r]) X K h2 h1 hS hIM hdis' hgM hl.1 sM0 nM0 rfl (k_X11_back hIM e2) rfl ml_L_22 im_X11_back se_X11_back ini_X11 co_X11_back hd_X11_back ⟨(Nat.le_of_ble_eq_true rfl), (Nat.le_of_ble_eq_true rfl)⟩ ⟨(Nat.le_of_ble_eq_true rfl), (Nat.le_of_ble_eq_true rfl)⟩ (Nat.le_of_ble_eq_true rfl) dL_law_266 rfl (fun H locs h2 h1 hS => ?_)
        exact lv_icmp_eq (tgt := 1149) hx hb dL_law_269 (by decide) (fun _ => go σ' τ' hinv2 H locs h1 h2 hS) (fun q => absurd rfl q)
      by_cases c2_ : op = (2 : Int32)
      · refine lv_tableIn (tgt := 274) (off := 241) hx hb dL_law_33 (by rw [c2_]; decide) (by rw [c2_]; decide) (by rw [c2_]; rfl) (by decide) ?_
        obtain ⟨r, σ', τ', e1, e2, hinv2⟩ := hV_read σ τ hinv 
        refine lv_aload_n hx hb dL_law_274 rfl (lv_at hl 1 rfl) ?_
        refine lr_call (w1 := WC) (w2 := WM) (r := r) (σ' := σ') (av := []) (rest := []) X K h1 h2 hS hIC hdis hgC hl.1 sC0 nC0 rfl (k_X10_read hIC e1) rfl ml_L_23 im_X10_read se_X10_read ini_X10 co_X10_read hd_X10_read ⟨(Nat.le_of_ble_eq_true rfl), (Nat.le_of_ble_eq_true rfl)⟩ ⟨(Nat.le_of_ble_eq_true rfl), (Nat.le_of_ble_eq_true rfl)⟩ (Nat.le_of_ble_eq_true rfl) dL_law_275 rfl (fun H locs h1 h2 hS => ?_)
        refine lv_aload_n hx hb dL_law_278 rfl (lv_at hl 2 rfl) ?_
        refine lr_call (w1 := WM) (w2 := WC) (r := r) (σ' := τ') (av := []) (rest := [.int r]) X K h2 h1 hS hIM hdis' hgM hl.1 sM0 nM0 rfl (k_X11_read hIM e2) rfl ml_L_27 im_X11_read se_X11_read ini_X11 co_X11_read hd_X11_read ⟨(Nat.le_of_ble_eq_true rfl), (Nat.le_of_ble_eq_true rfl)⟩ ⟨(Nat.le_of_ble_eq_true rfl), (Nat.le_of_ble_eq_true rfl)⟩ (Nat.le_of_ble_eq_true rfl) dL_law_279 rfl (fun H locs h2 h1 hS => ?_)
        exact lv_icmp_eq (tgt := 1149) hx hb dL_law_282 (by decide) (fun _ => go σ' τ' hinv2 H locs h1 h2 hS) (fun q => absurd rfl q)
      by_cases c3_ : op = (3 : Int32)
      · refine lv_tableIn (tgt := 287) (off := 254) hx hb dL_law_33 (by rw [c3_]; decide) (by rw [c3_]; decide) (by rw [c3_]; rfl) (by decide) ?_
        obtain ⟨r, e1, e2, hinv2⟩ := hV_place σ τ hinv 
        refine lv_aload_n hx hb dL_law_287 rfl (lv_at hl 1 rfl) ?_
        refine lr_call (w1 := WC) (w2 := WM) (r := r) (σ' := σ) (av := []) (rest := []) X K h1 h2 hS hIC hdis hgC hl.1 sC0 nC0 rfl (k_X10_place hIC e1) rfl ml_L_28 im_X10_place se_X10_place ini_X10 co_X10_place hd_X10_place ⟨(Nat.le_of_ble_eq_true rfl), (Nat.le_of_ble_eq_true rfl)⟩ ⟨(Nat.le_of_ble_eq_true rfl), (Nat.le_of_ble_eq_true rfl)⟩ (Nat.le_of_ble_eq_true rfl) dL_law_288 rfl (fun H locs h1 h2 hS => ?_)
        refine lv_aload_n hx hb dL_law_291 rfl (lv_at hl 2 rfl) ?_
        refine lr_call (w1 := WM) (w2 := WC) (r := r) (σ' := τ) (av := []) (rest := [.int r]) X K h2 h1 hS hIM hdis' hgM hl.1 sM0 nM0 rfl (k_X11_place hIM e2) rfl ml_L_31 im_X11_place se_X11_place ini_X11 co_X11_place hd_X11_place ⟨(Nat.le_of_ble_eq_true rfl), (Nat.le_of_ble_eq_true rfl)⟩ ⟨(Nat.le_of_ble_eq_true rfl), (Nat.le_of_ble_eq_true rfl)⟩ (Nat.le_of_ble_eq_true rfl) dL_law_292 rfl (fun H locs h2 h1 hS => ?_)
        exact lv_icmp_eq (tgt := 1149) hx hb dL_law_295 (by decide) (fun _ => go σ τ hinv2 H locs h1 h2 hS) (fun q => absurd rfl q)
      by_cases c4_ : op = (4 : Int32)
      · refine lv_tableIn (tgt := 300) (off := 267) hx hb dL_law_33 (by rw [c4_]; decide) (by rw [c4_]; decide) (by rw [c4_]; rfl) (by decide) ?_
        obtain ⟨r, σ', τ', e1, e2, hinv2⟩ := hV_docket σ τ hinv v1 v2
        refine lv_aload_n hx hb dL_law_300 rfl (lv_at hl 1 rfl) ?_
        refine lv_aload_n hx hb dL_law_301 rfl (lv_at hl 0 rfl) ?_
        refine lv_iload_n hx hb dL_law_302 rfl (lv_at hl 3 rfl) ?_
        refine lv_iconst (v := 1) hx hb dL_law_303 (by decide) ?_
        refine lv_iadd hx hb dL_law_304 ?_
        refine va_sld hx hb hX hbl hbA hS hin1 dL_law_305 ?_
        refine lr_top hv1 ?_
        refine lv_aload_n hx hb dL_law_306 rfl (lv_at hl 0 rfl) ?_
        refine lv_iload_n hx hb dL_law_307 rfl (lv_at hl 3 rfl) ?_
        refine lv_iconst (v := 2) hx hb dL_law_308 (by decide) ?_
        refine lv_iadd hx hb dL_law_309 ?_
        refine va_sld hx hb hX hbl hbA hS hin2 dL_law_310 ?_
        refine lr_top hv2 ?_
        refine lr_call (w1 := WC) (w2 := WM) (r := r) (σ' := σ') (av := [.int v1, .int v2]) (rest := []) X K h1 h2 hS hIC hdis hgC hl.1 sC0 nC0 rfl (k_X10_docket hIC e1) rfl ml_L_32 im_X10_docket se_X10_docket ini_X10 co_X10_docket hd_X10_docket ⟨(Nat.le_of_ble_eq_true rfl), (Nat.le_of_ble_eq_true rfl)⟩ ⟨(Nat.le_of_ble_eq_true rfl), (Nat.le_of_ble_eq_true rfl)⟩ (Nat.le_of_ble_eq_true rfl) dL_law_311 rfl (fun H locs h1 h2 hS => ?_)
        refine lv_aload_n hx hb dL_law_314 rfl (lv_at hl 2 rfl) ?_
        refine lv_aload_n hx hb dL_law_315 rfl (lv_at hl 0 rfl) ?_
        refine lv_iload_n hx hb dL_law_316 rfl (lv_at hl 3 rfl) ?_
        refine lv_iconst (v := 1) hx hb dL_law_317 (by decide) ?_
        refine lv_iadd hx hb dL_law_318 ?_
        refine va_sld hx hb hX hbl hbA hS hin1 dL_law_319 ?_
        refine lr_top hv1 ?_
        refine lv_aload_n hx hb dL_law_320 rfl (lv_at hl 0 rfl) ?_
        refine lv_iload_n hx hb dL_law_321 rfl (lv_at hl 3 rfl) ?_
        refine lv_iconst (v := 2) hx hb dL_law_322 (by decide) ?_
        refine lv_iadd hx hb dL_law_323 ?_
        refine va_sld hx hb hX hbl hbA hS hin2 dL_law_324 ?_
        refine lr_top hv2 ?_
        refine lr_call (w1 := WM) (w2 := WC) (r := r) (σ' := τ') (av := [.int v1, .int v2]) (rest := [.int r]) X K h2 h1 hS hIM hdis' hgM hl.1 sM0 nM0 rfl (k_X11_docket hIM e2) rfl ml_L_36 im_X11_docket se_X11_docket ini_X11 co_X11_docket hd_X11_docket ⟨(Nat.le_of_ble_eq_true rfl), (Nat.le_of_ble_eq_true rfl)⟩ ⟨(Nat.le_of_ble_eq_true rfl), (Nat.le_of_ble_eq_true rfl)⟩ (Nat.le_of_ble_eq_true rfl) dL_law_325 rfl (fun H locs h2 h1 hS => ?_)
        exact lv_icmp_eq (tgt := 1149) hx hb dL_law_328 (by decide) (fun _ => go σ' τ' hinv2 H locs h1 h2 hS) (fun q => absurd rfl q)
      by_cases c5_ : op = (5 : Int32)
      · refine lv_tableIn (tgt := 333) (off := 300) hx hb dL_law_33 (by rw [c5_]; decide) (by rw [c5_]; decide) (by rw [c5_]; rfl) (by decide) ?_
        obtain ⟨r, σ', τ', e1, e2, hinv2⟩ := hV_suffers σ τ hinv v1 v2
        refine lv_aload_n hx hb dL_law_333 rfl (lv_at hl 1 rfl) ?_
        refine lv_aload_n hx hb dL_law_334 rfl (lv_at hl 0 rfl) ?_
        refine lv_iload_n hx hb dL_law_335 rfl (lv_at hl 3 rfl) ?_
        refine lv_iconst (v := 1) hx hb dL_law_336 (by decide) ?_
        refine lv_iadd hx hb dL_law_337 ?_
        refine va_sld hx hb hX hbl hbA hS hin1 dL_law_338 ?_
        refine lr_top hv1 ?_
        refine lv_aload_n hx hb dL_law_339 rfl (lv_at hl 0 rfl) ?_
        refine lv_iload_n hx hb dL_law_340 rfl (lv_at hl 3 rfl) ?_
        refine lv_iconst (v := 2) hx hb dL_law_341 (by decide) ?_
        refine lv_iadd hx hb dL_law_342 ?_
        refine va_sld hx hb hX hbl hbA hS hin2 dL_law_343 ?_
        refine lr_top hv2 ?_
        refine lr_call (w1 := WC) (w2 := WM) (r := r) (σ' := σ') (av := [.int v1, .int v2]) (rest := []) X K h1 h2 hS hIC hdis hgC hl.1 sC0 nC0 rfl (k_X10_suffers hIC e1) rfl ml_L_37 im_X10_suffers se_X10_suffers ini_X10 co_X10_suffers hd_X10_suffers ⟨(Nat.le_of_ble_eq_true rfl), (Nat.le_of_ble_eq_true rfl)⟩ ⟨(Nat.le_of_ble_eq_true rfl), (Nat.le_of_ble_eq_true rfl)⟩ (Nat.le_of_ble_eq_true rfl) dL_law_344 rfl (fun H locs h1 h2 hS => ?_)
        refine lv_aload_n hx hb dL_law_347 rfl (lv_at hl 2 rfl) ?_
        refine lv_aload_n hx hb dL_law_348 rfl (lv_at hl 0 rfl) ?_
        refine lv_iload_n hx hb dL_law_349 rfl (lv_at hl 3 rfl) ?_
        refine lv_iconst (v := 1) hx hb dL_law_350 (by decide) ?_
        refine lv_iadd hx hb dL_law_351 ?_
        refine va_sld hx hb hX hbl hbA hS hin1 dL_law_352 ?_
        refine lr_top hv1 ?_
        refine lv_aload_n hx hb dL_law_353 rfl (lv_at hl 0 rfl) ?_
        refine lv_iload_n hx hb dL_law_354 rfl (lv_at hl 3 rfl) ?_
        refine lv_iconst (v := 2) hx hb dL_law_355 (by decide) ?_
        refine lv_iadd hx hb dL_law_356 ?_
        refine va_sld hx hb hX hbl hbA hS hin2 dL_law_357 ?_
        refine lr_top hv2 ?_
        refine lr_call (w1 := WM) (w2 := WC) (r := r) (σ' := τ') (av := [.int v1, .int v2]) (rest := [.int r]) X K h2 h1 hS hIM hdis' hgM hl.1 sM0 nM0 rfl (k_X11_suffers hIM e2) rfl ml_L_40 im_X11_suffers se_X11_suffers ini_X11 co_X11_suffers hd_X11_suffers ⟨(Nat.le_of_ble_eq_true rfl), (Nat.le_of_ble_eq_true rfl)⟩ ⟨(Nat.le_of_ble_eq_true rfl), (Nat.le_of_ble_eq_true rfl)⟩ (Nat.le_of_ble_eq_true rfl) dL_law_358 rfl (fun H locs h2 h1 hS => ?_)
        exact lv_icmp_eq (tgt := 1149) hx hb dL_law_361 (by decide) (fun _ => go σ' τ' hinv2 H locs h1 h2 hS) (fun q => absurd rfl q)
      by_cases c6_ : op = (6 : Int32)
      · refine lv_tableIn (tgt := 366) (off := 333) hx hb dL_law_33 (by rw [c6_]; decide) (by rw [c6_]; decide) (by rw [c6_]; rfl) (by decide) ?_
        obtain ⟨r, σ', τ', e1, e2, hinv2⟩ := hV_tells σ τ hinv v1 v2 v3
        refine lv_aload_n hx hb dL_law_366 rfl (lv_at hl 1 rfl) ?_
        refine lv_aload_n hx hb dL_law_367 rfl (lv_at hl 0 rfl) ?_
        refine lv_iload_n hx hb dL_law_368 rfl (lv_at hl 3 rfl) ?_
        refine lv_iconst (v := 1) hx hb dL_law_369 (by decide) ?_
        refine lv_iadd hx hb dL_law_370 ?_
        refine va_sld hx hb hX hbl hbA hS hin1 dL_law_371 ?_
        refine lr_top hv1 ?_
        refine lv_aload_n hx hb dL_law_372 rfl (lv_at hl 0 rfl) ?_
        refine lv_iload_n hx hb dL_law_373 rfl (lv_at hl 3 rfl) ?_
        refine lv_iconst (v := 2) hx hb dL_law_374 (by decide) ?_
        refine lv_iadd hx hb dL_law_375 ?_
        refine va_sld hx hb hX hbl hbA hS hin2 dL_law_376 ?_
        refine lr_top hv2 ?_
        refine lv_aload_n hx hb dL_law_377 rfl (lv_at hl 0 rfl) ?_
        refine lv_iload_n hx hb dL_law_378 rfl (lv_at hl 3 rfl) ?_
        refine lv_iconst (v := 3) hx hb dL_law_379 (by decide) ?_
        refine lv_iadd hx hb dL_law_380 ?_
        refine va_sld hx hb hX hbl hbA hS hin3 dL_law_381 ?_
        refine lr_top hv3 ?_
        refine lr_call (w1 := WC) (w2 := WM) (r := r) (σ' := σ') (av := [.int v1, .int v2, .int v3]) (rest := []) X K h1 h2 hS hIC hdis hgC hl.1 sC0 nC0 rfl (k_X10_tells hIC e1) rfl ml_L_41 im_X10_tells se_X10_tells ini_X10 co_X10_tells hd_X10_tells ⟨(Nat.le_of_ble_eq_true rfl), (Nat.le_of_ble_eq_true rfl)⟩ ⟨(Nat.le_of_ble_eq_true rfl), (Nat.le_of_ble_eq_true rfl)⟩ (Nat.le_of_ble_eq_true rfl) dL_law_382 rfl (fun H locs h1 h2 hS => ?_)
        refine lv_aload_n hx hb dL_law_385 rfl (lv_at hl 2 rfl) ?_
        refine lv_aload_n hx hb dL_law_386 rfl (lv_at hl 0 rfl) ?_
        refine lv_iload_n hx hb dL_law_387 rfl (lv_at hl 3 rfl) ?_
        refine lv_iconst (v := 1) hx hb dL_law_388 (by decide) ?_
        refine lv_iadd hx hb dL_law_389 ?_
        refine va_sld hx hb hX hbl hbA hS hin1 dL_law_390 ?_
        refine lr_top hv1 ?_
        refine lv_aload_n hx hb dL_law_391 rfl (lv_at hl 0 rfl) ?_
        refine lv_iload_n hx hb dL_law_392 rfl (lv_at hl 3 rfl) ?_
        refine lv_iconst (v := 2) hx hb dL_law_393 (by decide) ?_
        refine lv_iadd hx hb dL_law_394 ?_
        refine va_sld hx hb hX hbl hbA hS hin2 dL_law_395 ?_
        refine lr_top hv2 ?_
        refine lv_aload_n hx hb dL_law_396 rfl (lv_at hl 0 rfl) ?_
        refine lv_iload_n hx hb dL_law_397 rfl (lv_at hl 3 rfl) ?_
        refine lv_iconst (v := 3) hx hb dL_law_398 (by decide) ?_
        refine lv_iadd hx hb dL_law_399 ?_
        refine va_sld hx hb hX hbl hbA hS hin3 dL_law_400 ?_
        refine lr_top hv3 ?_
        refine lr_call (w1 := WM) (w2 := WC) (r := r) (σ' := τ') (av := [.int v1, .int v2, .int v3]) (rest := [.int r]) X K h2 h1 hS hIM hdis' hgM hl.1 sM0 nM0 rfl (k_X11_tells hIM e2) rfl ml_L_45 im_X11_tells se_X11_tells ini_X11 co_X11_tells hd_X11_tells ⟨(Nat.le_of_ble_eq_true rfl), (Nat.le_of_ble_eq_true rfl)⟩ ⟨(Nat.le_of_ble_eq_true rfl), (Nat.le_of_ble_eq_true rfl)⟩ (Nat.le_of_ble_eq_true rfl) dL_law_401 rfl (fun H locs h2 h1 hS => ?_)
        exact lv_icmp_eq (tgt := 1149) hx hb dL_law_404 (by decide) (fun _ => go σ' τ' hinv2 H locs h1 h2 hS) (fun q => absurd rfl q)
      by_cases c7_ : op = (7 : Int32)
      · refine lv_tableIn (tgt := 409) (off := 376) hx hb dL_law_33 (by rw [c7_]; decide) (by rw [c7_]; decide) (by rw [c7_]; rfl) (by decide) ?_
        obtain ⟨r, e1, e2, hinv2⟩ := hV_at σ τ hinv v1
        refine lv_aload_n hx hb dL_law_409 rfl (lv_at hl 1 rfl) ?_
        refine lv_aload_n hx hb dL_law_410 rfl (lv_at hl 0 rfl) ?_
        refine lv_iload_n hx hb dL_law_411 rfl (lv_at hl 3 rfl) ?_
        refine lv_iconst (v := 1) hx hb dL_law_412 (by decide) ?_
        refine lv_iadd hx hb dL_law_413 ?_
        refine va_sld hx hb hX hbl hbA hS hin1 dL_law_414 ?_
        refine lr_top hv1 ?_
        refine lr_call (w1 := WC) (w2 := WM) (r := r) (σ' := σ) (av := [.int v1]) (rest := []) X K h1 h2 hS hIC hdis hgC hl.1 sC0 nC0 rfl (k_X10_at hIC e1) rfl ml_L_46 im_X10_at se_X10_at ini_X10 co_X10_at hd_X10_at ⟨(Nat.le_of_ble_eq_true rfl), (Nat.le_of_ble_eq_true rfl)⟩ ⟨(Nat.le_of_ble_eq_true rfl), (Nat.le_of_ble_eq_true rfl)⟩ (Nat.le_of_ble_eq_true rfl) dL_law_415 rfl (fun H locs h1 h2 hS => ?_)
        refine lv_aload_n hx hb dL_law_418 rfl (lv_at hl 2 rfl) ?_
        refine lv_aload_n hx hb dL_law_419 rfl (lv_at hl 0 rfl) ?_
        refine lv_iload_n hx hb dL_law_420 rfl (lv_at hl 3 rfl) ?_
        refine lv_iconst (v := 1) hx hb dL_law_421 (by decide) ?_
        refine lv_iadd hx hb dL_law_422 ?_
        refine va_sld hx hb hX hbl hbA hS hin1 dL_law_423 ?_
        refine lr_top hv1 ?_
        refine lr_call (w1 := WM) (w2 := WC) (r := r) (σ' := τ) (av := [.int v1]) (rest := [.int r]) X K h2 h1 hS hIM hdis' hgM hl.1 sM0 nM0 rfl (k_X11_at hIM e2) rfl ml_L_49 im_X11_at se_X11_at ini_X11 co_X11_at hd_X11_at ⟨(Nat.le_of_ble_eq_true rfl), (Nat.le_of_ble_eq_true rfl)⟩ ⟨(Nat.le_of_ble_eq_true rfl), (Nat.le_of_ble_eq_true rfl)⟩ (Nat.le_of_ble_eq_true rfl) dL_law_424 rfl (fun H locs h2 h1 hS => ?_)
        exact lv_icmp_eq (tgt := 1149) hx hb dL_law_427 (by decide) (fun _ => go σ τ hinv2 H locs h1 h2 hS) (fun q => absurd rfl q)
      by_cases c8_ : op = (8 : Int32)
      · refine lv_tableIn (tgt := 432) (off := 399) hx hb dL_law_33 (by rw [c8_]; decide) (by rw [c8_]; decide) (by rw [c8_]; rfl) (by decide) ?_
        obtain ⟨r, σ', τ', e1, e2, hinv2⟩ := hV_change σ τ hinv v1 v2
        refine lv_aload_n hx hb dL_law_432 rfl (lv_at hl 1 rfl) ?_
        refine lv_aload_n hx hb dL_law_433 rfl (lv_at hl 0 rfl) ?_
        refine lv_iload_n hx hb dL_law_434 rfl (lv_at hl 3 rfl) ?_
        refine lv_iconst (v := 1) hx hb dL_law_435 (by decide) ?_
        refine lv_iadd hx hb dL_law_436 ?_
        refine va_sld hx hb hX hbl hbA hS hin1 dL_law_437 ?_
        refine lr_top hv1 ?_
        refine lv_aload_n hx hb dL_law_438 rfl (lv_at hl 0 rfl) ?_
        refine lv_iload_n hx hb dL_law_439 rfl (lv_at hl 3 rfl) ?_
        refine lv_iconst (v := 2) hx hb dL_law_440 (by decide) ?_
        refine lv_iadd hx hb dL_law_441 ?_
        refine va_sld hx hb hX hbl hbA hS hin2 dL_law_442 ?_
        refine lr_top hv2 ?_
        refine lr_call (w1 := WC) (w2 := WM) (r := r) (σ' := σ') (av := [.int v1, .int v2]) (rest := []) X K h1 h2 hS hIC hdis hgC hl.1 sC0 nC0 rfl (k_X10_change hIC e1) rfl ml_L_50 im_X10_change se_X10_change ini_X10 co_X10_change hd_X10_change ⟨(Nat.le_of_ble_eq_true rfl), (Nat.le_of_ble_eq_true rfl)⟩ ⟨(Nat.le_of_ble_eq_true rfl), (Nat.le_of_ble_eq_true rfl)⟩ (Nat.le_of_ble_eq_true rfl) dL_law_443 rfl (fun H locs h1 h2 hS => ?_)
        refine lv_aload_n hx hb dL_law_446 rfl (lv_at hl 2 rfl) ?_
        refine lv_aload_n hx hb dL_law_447 rfl (lv_at hl 0 rfl) ?_
        refine lv_iload_n hx hb dL_law_448 rfl (lv_at hl 3 rfl) ?_
        refine lv_iconst (v := 1) hx hb dL_law_449 (by decide) ?_
        refine lv_iadd hx hb dL_law_450 ?_
        refine va_sld hx hb hX hbl hbA hS hin1 dL_law_451 ?_
        refine lr_top hv1 ?_
        refine lv_aload_n hx hb dL_law_452 rfl (lv_at hl 0 rfl) ?_
        refine lv_iload_n hx hb dL_law_453 rfl (lv_at hl 3 rfl) ?_
        refine lv_iconst (v := 2) hx hb dL_law_454 (by decide) ?_
        refine lv_iadd hx hb dL_law_455 ?_
        refine va_sld hx hb hX hbl hbA hS hin2 dL_law_456 ?_
        refine lr_top hv2 ?_
        refine lr_call (w1 := WM) (w2 := WC) (r := r) (σ' := τ') (av := [.int v1, .int v2]) (rest := [.int r]) X K h2 h1 hS hIM hdis' hgM hl.1 sM0 nM0 rfl (k_X11_change hIM e2) rfl ml_L_54 im_X11_change se_X11_change ini_X11 co_X11_change hd_X11_change ⟨(Nat.le_of_ble_eq_true rfl), (Nat.le_of_ble_eq_true rfl)⟩ ⟨(Nat.le_of_ble_eq_true rfl), (Nat.le_of_ble_eq_true rfl)⟩ (Nat.le_of_ble_eq_true rfl) dL_law_457 rfl (fun H locs h2 h1 hS => ?_)
        exact lv_icmp_eq (tgt := 1149) hx hb dL_law_460 (by decide) (fun _ => go σ' τ' hinv2 H locs h1 h2 hS) (fun q => absurd rfl q)
      by_cases c9_ : op = (9 : Int32)
      · refine lv_tableIn (tgt := 465) (off := 432) hx hb dL_law_33 (by rw [c9_]; decide) (by rw [c9_]; decide) (by rw [c9_]; rfl) (by decide) ?_
        obtain ⟨r, σ', τ', e1, e2, hinv2⟩ := hV_go σ τ hinv v1 v2
        refine lv_aload_n hx hb dL_law_465 rfl (lv_at hl 1 rfl) ?_
        refine lv_aload_n hx hb dL_law_466 rfl (lv_at hl 0 rfl) ?_
        refine lv_iload_n hx hb dL_law_467 rfl (lv_at hl 3 rfl) ?_
        refine lv_iconst (v := 1) hx hb dL_law_468 (by decide) ?_
        refine lv_iadd hx hb dL_law_469 ?_
        refine va_sld hx hb hX hbl hbA hS hin1 dL_law_470 ?_
        refine lr_top hv1 ?_
        refine lv_aload_n hx hb dL_law_471 rfl (lv_at hl 0 rfl) ?_
        refine lv_iload_n hx hb dL_law_472 rfl (lv_at hl 3 rfl) ?_
        refine lv_iconst (v := 2) hx hb dL_law_473 (by decide) ?_
        refine lv_iadd hx hb dL_law_474 ?_
        refine va_sld hx hb hX hbl hbA hS hin2 dL_law_475 ?_
        refine lr_top hv2 ?_
        refine lr_call (w1 := WC) (w2 := WM) (r := r) (σ' := σ') (av := [.int v1, .int v2]) (rest := []) X K h1 h2 hS hIC hdis hgC hl.1 sC0 nC0 rfl (k_X10_go hIC e1) rfl ml_L_55 im_X10_go se_X10_go ini_X10 co_X10_go hd_X10_go ⟨(Nat.le_of_ble_eq_true rfl), (Nat.le_of_ble_eq_true rfl)⟩ ⟨(Nat.le_of_ble_eq_true rfl), (Nat.le_of_ble_eq_true rfl)⟩ (Nat.le_of_ble_eq_true rfl) dL_law_476 rfl (fun H locs h1 h2 hS => ?_)
        refine lv_aload_n hx hb dL_law_479 rfl (lv_at hl 2 rfl) ?_
        refine lv_aload_n hx hb dL_law_480 rfl (lv_at hl 0 rfl) ?_
        refine lv_iload_n hx hb dL_law_481 rfl (lv_at hl 3 rfl) ?_
        refine lv_iconst (v := 1) hx hb dL_law_482 (by decide) ?_
        refine lv_iadd hx hb dL_law_483 ?_
        refine va_sld hx hb hX hbl hbA hS hin1 dL_law_484 ?_
        refine lr_top hv1 ?_
        refine lv_aload_n hx hb dL_law_485 rfl (lv_at hl 0 rfl) ?_
        refine lv_iload_n hx hb dL_law_486 rfl (lv_at hl 3 rfl) ?_
        refine lv_iconst (v := 2) hx hb dL_law_487 (by decide) ?_
        refine lv_iadd hx hb dL_law_488 ?_
        refine va_sld hx hb hX hbl hbA hS hin2 dL_law_489 ?_
        refine lr_top hv2 ?_
        refine lr_call (w1 := WM) (w2 := WC) (r := r) (σ' := τ') (av := [.int v1, .int v2]) (rest := [.int r]) X K h2 h1 hS hIM hdis' hgM hl.1 sM0 nM0 rfl (k_X11_go hIM e2) rfl ml_L_58 im_X11_go se_X11_go ini_X11 co_X11_go hd_X11_go ⟨(Nat.le_of_ble_eq_true rfl), (Nat.le_of_ble_eq_true rfl)⟩ ⟨(Nat.le_of_ble_eq_true rfl), (Nat.le_of_ble_eq_true rfl)⟩ (Nat.le_of_ble_eq_true rfl) dL_law_490 rfl (fun H locs h2 h1 hS => ?_)
        exact lv_icmp_eq (tgt := 1149) hx hb dL_law_493 (by decide) (fun _ => go σ' τ' hinv2 H locs h1 h2 hS) (fun q => absurd rfl q)
      by_cases c10_ : op = (10 : Int32)
      · refine lv_tableIn (tgt := 498) (off := 465) hx hb dL_law_33 (by rw [c10_]; decide) (by rw [c10_]; decide) (by rw [c10_]; rfl) (by decide) ?_
        obtain ⟨r, σ', τ', e1, e2, hinv2⟩ := hV_off σ τ hinv v1
        refine lv_aload_n hx hb dL_law_498 rfl (lv_at hl 1 rfl) ?_
        refine lv_aload_n hx hb dL_law_499 rfl (lv_at hl 0 rfl) ?_
        refine lv_iload_n hx hb dL_law_500 rfl (lv_at hl 3 rfl) ?_
        refine lv_iconst (v := 1) hx hb dL_law_501 (by decide) ?_
        refine lv_iadd hx hb dL_law_502 ?_
        refine va_sld hx hb hX hbl hbA hS hin1 dL_law_503 ?_
        refine lr_top hv1 ?_
        refine lr_call (w1 := WC) (w2 := WM) (r := r) (σ' := σ') (av := [.int v1]) (rest := []) X K h1 h2 hS hIC hdis hgC hl.1 sC0 nC0 rfl (k_X10_off hIC e1) rfl ml_L_59 im_X10_off se_X10_off ini_X10 co_X10_off hd_X10_off ⟨(Nat.le_of_ble_eq_true rfl), (Nat.le_of_ble_eq_true rfl)⟩ ⟨(Nat.le_of_ble_eq_true rfl), (Nat.le_of_ble_eq_true rfl)⟩ (Nat.le_of_ble_eq_true rfl) dL_law_504 rfl (fun H locs h1 h2 hS => ?_)
        refine lv_aload_n hx hb dL_law_507 rfl (lv_at hl 2 rfl) ?_
        refine lv_aload_n hx hb dL_law_508 rfl (lv_at hl 0 rfl) ?_
        refine lv_iload_n hx hb dL_law_509 rfl (lv_at hl 3 rfl) ?_
        refine lv_iconst (v := 1) hx hb dL_law_510 (by decide) ?_
        refine lv_iadd hx hb dL_law_511 ?_
        refine va_sld hx hb hX hbl hbA hS hin1 dL_law_512 ?_
        refine lr_top hv1 ?_
        refine lr_call (w1 := WM) (w2 := WC) (r := r) (σ' := τ') (av := [.int v1]) (rest := [.int r]) X K h2 h1 hS hIM hdis' hgM hl.1 sM0 nM0 rfl (k_X11_off hIM e2) rfl ml_L_63 im_X11_off se_X11_off ini_X11 co_X11_off hd_X11_off ⟨(Nat.le_of_ble_eq_true rfl), (Nat.le_of_ble_eq_true rfl)⟩ ⟨(Nat.le_of_ble_eq_true rfl), (Nat.le_of_ble_eq_true rfl)⟩ (Nat.le_of_ble_eq_true rfl) dL_law_513 rfl (fun H locs h2 h1 hS => ?_)
        exact lv_icmp_eq (tgt := 1149) hx hb dL_law_516 (by decide) (fun _ => go σ' τ' hinv2 H locs h1 h2 hS) (fun q => absurd rfl q)
      by_cases c11_ : op = (11 : Int32)
      · refine lv_tableIn (tgt := 521) (off := 488) hx hb dL_law_33 (by rw [c11_]; decide) (by rw [c11_]; decide) (by rw [c11_]; rfl) (by decide) ?_
        obtain ⟨r, σ', τ', e1, e2, hinv2⟩ := hV_on σ τ hinv v1
        refine lv_aload_n hx hb dL_law_521 rfl (lv_at hl 1 rfl) ?_
        refine lv_aload_n hx hb dL_law_522 rfl (lv_at hl 0 rfl) ?_
        refine lv_iload_n hx hb dL_law_523 rfl (lv_at hl 3 rfl) ?_
        refine lv_iconst (v := 1) hx hb dL_law_524 (by decide) ?_
        refine lv_iadd hx hb dL_law_525 ?_
        refine va_sld hx hb hX hbl hbA hS hin1 dL_law_526 ?_
        refine lr_top hv1 ?_
        refine lr_call (w1 := WC) (w2 := WM) (r := r) (σ' := σ') (av := [.int v1]) (rest := []) X K h1 h2 hS hIC hdis hgC hl.1 sC0 nC0 rfl (k_X10_on hIC e1) rfl ml_L_64 im_X10_on se_X10_on ini_X10 co_X10_on hd_X10_on ⟨(Nat.le_of_ble_eq_true rfl), (Nat.le_of_ble_eq_true rfl)⟩ ⟨(Nat.le_of_ble_eq_true rfl), (Nat.le_of_ble_eq_true rfl)⟩ (Nat.le_of_ble_eq_true rfl) dL_law_527 rfl (fun H locs h1 h2 hS => ?_)
        refine lv_aload_n hx hb dL_law_530 rfl (lv_at hl 2 rfl) ?_
        refine lv_aload_n hx hb dL_law_531 rfl (lv_at hl 0 rfl) ?_
        refine lv_iload_n hx hb dL_law_532 rfl (lv_at hl 3 rfl) ?_
        refine lv_iconst (v := 1) hx hb dL_law_533 (by decide) ?_
        refine lv_iadd hx hb dL_law_534 ?_
        refine va_sld hx hb hX hbl hbA hS hin1 dL_law_535 ?_
        refine lr_top hv1 ?_
        refine lr_call (w1 := WM) (w2 := WC) (r := r) (σ' := τ') (av := [.int v1]) (rest := [.int r]) X K h2 h1 hS hIM hdis' hgM hl.1 sM0 nM0 rfl (k_X11_on hIM e2) rfl ml_L_67 im_X11_on se_X11_on ini_X11 co_X11_on hd_X11_on ⟨(Nat.le_of_ble_eq_true rfl), (Nat.le_of_ble_eq_true rfl)⟩ ⟨(Nat.le_of_ble_eq_true rfl), (Nat.le_of_ble_eq_true rfl)⟩ (Nat.le_of_ble_eq_true rfl) dL_law_536 rfl (fun H locs h2 h1 hS => ?_)
        exact lv_icmp_eq (tgt := 1149) hx hb dL_law_539 (by decide) (fun _ => go σ' τ' hinv2 H locs h1 h2 hS) (fun q => absurd rfl q)
      by_cases c12_ : op = (12 : Int32)
      · refine lv_tableIn (tgt := 544) (off := 511) hx hb dL_law_33 (by rw [c12_]; decide) (by rw [c12_]; decide) (by rw [c12_]; rfl) (by decide) ?_
        obtain ⟨r, σ', τ', e1, e2, hinv2⟩ := hV_plead σ τ hinv v1
        refine lv_aload_n hx hb dL_law_544 rfl (lv_at hl 1 rfl) ?_
        refine lv_aload_n hx hb dL_law_545 rfl (lv_at hl 0 rfl) ?_
        refine lv_iload_n hx hb dL_law_546 rfl (lv_at hl 3 rfl) ?_
        refine lv_iconst (v := 1) hx hb dL_law_547 (by decide) ?_
        refine lv_iadd hx hb dL_law_548 ?_
        refine va_sld hx hb hX hbl hbA hS hin1 dL_law_549 ?_
        refine lr_top hv1 ?_
        refine lr_call (w1 := WC) (w2 := WM) (r := r) (σ' := σ') (av := [.int v1]) (rest := []) X K h1 h2 hS hIC hdis hgC hl.1 sC0 nC0 rfl (k_X10_plead hIC e1) rfl ml_L_68 im_X10_plead se_X10_plead ini_X10 co_X10_plead hd_X10_plead ⟨(Nat.le_of_ble_eq_true rfl), (Nat.le_of_ble_eq_true rfl)⟩ ⟨(Nat.le_of_ble_eq_true rfl), (Nat.le_of_ble_eq_true rfl)⟩ (Nat.le_of_ble_eq_true rfl) dL_law_550 rfl (fun H locs h1 h2 hS => ?_)
        refine lv_aload_n hx hb dL_law_553 rfl (lv_at hl 2 rfl) ?_
        refine lv_aload_n hx hb dL_law_554 rfl (lv_at hl 0 rfl) ?_
        refine lv_iload_n hx hb dL_law_555 rfl (lv_at hl 3 rfl) ?_
        refine lv_iconst (v := 1) hx hb dL_law_556 (by decide) ?_
        refine lv_iadd hx hb dL_law_557 ?_
        refine va_sld hx hb hX hbl hbA hS hin1 dL_law_558 ?_
        refine lr_top hv1 ?_
        refine lr_call (w1 := WM) (w2 := WC) (r := r) (σ' := τ') (av := [.int v1]) (rest := [.int r]) X K h2 h1 hS hIM hdis' hgM hl.1 sM0 nM0 rfl (k_X11_plead hIM e2) rfl ml_L_71 im_X11_plead se_X11_plead ini_X11 co_X11_plead hd_X11_plead ⟨(Nat.le_of_ble_eq_true rfl), (Nat.le_of_ble_eq_true rfl)⟩ ⟨(Nat.le_of_ble_eq_true rfl), (Nat.le_of_ble_eq_true rfl)⟩ (Nat.le_of_ble_eq_true rfl) dL_law_559 rfl (fun H locs h2 h1 hS => ?_)
        exact lv_icmp_eq (tgt := 1149) hx hb dL_law_562 (by decide) (fun _ => go σ' τ' hinv2 H locs h1 h2 hS) (fun q => absurd rfl q)
      by_cases c13_ : op = (13 : Int32)
      · refine lv_tableIn (tgt := 567) (off := 534) hx hb dL_law_33 (by rw [c13_]; decide) (by rw [c13_]; decide) (by rw [c13_]; rfl) (by decide) ?_
        obtain ⟨r, σ', τ', e1, e2, hinv2⟩ := hV_sessions σ τ hinv v1
        refine lv_aload_n hx hb dL_law_567 rfl (lv_at hl 1 rfl) ?_
        refine lv_aload_n hx hb dL_law_568 rfl (lv_at hl 0 rfl) ?_
        refine lv_iload_n hx hb dL_law_569 rfl (lv_at hl 3 rfl) ?_
        refine lv_iconst (v := 1) hx hb dL_law_570 (by decide) ?_
        refine lv_iadd hx hb dL_law_571 ?_
        refine va_sld hx hb hX hbl hbA hS hin1 dL_law_572 ?_
        refine lr_top hv1 ?_
        refine lr_call (w1 := WC) (w2 := WM) (r := r) (σ' := σ') (av := [.int v1]) (rest := []) X K h1 h2 hS hIC hdis hgC hl.1 sC0 nC0 rfl (k_X10_sessions hIC e1) rfl ml_L_72 im_X10_sessions se_X10_sessions ini_X10 co_X10_sessions hd_X10_sessions ⟨(Nat.le_of_ble_eq_true rfl), (Nat.le_of_ble_eq_true rfl)⟩ ⟨(Nat.le_of_ble_eq_true rfl), (Nat.le_of_ble_eq_true rfl)⟩ (Nat.le_of_ble_eq_true rfl) dL_law_573 rfl (fun H locs h1 h2 hS => ?_)
        refine lv_aload_n hx hb dL_law_576 rfl (lv_at hl 2 rfl) ?_
        refine lv_aload_n hx hb dL_law_577 rfl (lv_at hl 0 rfl) ?_
        refine lv_iload_n hx hb dL_law_578 rfl (lv_at hl 3 rfl) ?_
        refine lv_iconst (v := 1) hx hb dL_law_579 (by decide) ?_
        refine lv_iadd hx hb dL_law_580 ?_
        refine va_sld hx hb hX hbl hbA hS hin1 dL_law_581 ?_
        refine lr_top hv1 ?_
        refine lr_call (w1 := WM) (w2 := WC) (r := r) (σ' := τ') (av := [.int v1]) (rest := [.int r]) X K h2 h1 hS hIM hdis' hgM hl.1 sM0 nM0 rfl (k_X11_sessions hIM e2) rfl ml_L_75 im_X11_sessions se_X11_sessions ini_X11 co_X11_sessions hd_X11_sessions ⟨(Nat.le_of_ble_eq_true rfl), (Nat.le_of_ble_eq_true rfl)⟩ ⟨(Nat.le_of_ble_eq_true rfl), (Nat.le_of_ble_eq_true rfl)⟩ (Nat.le_of_ble_eq_true rfl) dL_law_582 rfl (fun H locs h2 h1 hS => ?_)
        exact lv_icmp_eq (tgt := 1149) hx hb dL_law_585 (by decide) (fun _ => go σ' τ' hinv2 H locs h1 h2 hS) (fun q => absurd rfl q)
      by_cases c14_ : op = (14 : Int32)
      · refine lv_tableIn (tgt := 590) (off := 557) hx hb dL_law_33 (by rw [c14_]; decide) (by rw [c14_]; decide) (by rw [c14_]; rfl) (by decide) ?_
        obtain ⟨r, σ', τ', e1, e2, hinv2⟩ := hV_undo σ τ hinv 
        refine lv_aload_n hx hb dL_law_590 rfl (lv_at hl 1 rfl) ?_
        refine lr_call (w1 := WC) (w2 := WM) (r := r) (σ' := σ') (av := []) (rest := []) X K h1 h2 hS hIC hdis hgC hl.1 sC0 nC0 rfl (k_X10_undo hIC e1) rfl ml_L_76 im_X10_undo se_X10_undo ini_X10 co_X10_undo hd_X10_undo ⟨(Nat.le_of_ble_eq_true rfl), (Nat.le_of_ble_eq_true rfl)⟩ ⟨(Nat.le_of_ble_eq_true rfl), (Nat.le_of_ble_eq_true rfl)⟩ (Nat.le_of_ble_eq_true rfl) dL_law_591 rfl (fun H locs h1 h2 hS => ?_)
        refine lv_aload_n hx hb dL_law_594 rfl (lv_at hl 2 rfl) ?_
        refine lr_call (w1 := WM) (w2 := WC) (r := r) (σ' := τ') (av := []) (rest := [.int r]) X K h2 h1 hS hIM hdis' hgM hl.1 sM0 nM0 rfl (k_X11_undo hIM e2) rfl ml_L_80 im_X11_undo se_X11_undo ini_X11 co_X11_undo hd_X11_undo ⟨(Nat.le_of_ble_eq_true rfl), (Nat.le_of_ble_eq_true rfl)⟩ ⟨(Nat.le_of_ble_eq_true rfl), (Nat.le_of_ble_eq_true rfl)⟩ (Nat.le_of_ble_eq_true rfl) dL_law_595 rfl (fun H locs h2 h1 hS => ?_)
        exact lv_icmp_eq (tgt := 1149) hx hb dL_law_598 (by decide) (fun _ => go σ' τ' hinv2 H locs h1 h2 hS) (fun q => absurd rfl q)
      by_cases c15_ : op = (15 : Int32)
      · refine lv_tableIn (tgt := 603) (off := 570) hx hb dL_law_33 (by rw [c15_]; decide) (by rw [c15_]; decide) (by rw [c15_]; rfl) (by decide) ?_
        obtain ⟨r, σ', τ', e1, e2, hinv2⟩ := hV_best σ τ hinv v1 v2
        refine lv_aload_n hx hb dL_law_603 rfl (lv_at hl 1 rfl) ?_
        refine lv_aload_n hx hb dL_law_604 rfl (lv_at hl 0 rfl) ?_
        refine lv_iload_n hx hb dL_law_605 rfl (lv_at hl 3 rfl) ?_
        refine lv_iconst (v := 1) hx hb dL_law_606 (by decide) ?_
        refine lv_iadd hx hb dL_law_607 ?_
        refine va_sld hx hb hX hbl hbA hS hin1 dL_law_608 ?_
        refine lr_top hv1 ?_
        refine lv_aload_n hx hb dL_law_609 rfl (lv_at hl 0 rfl) ?_
        refine lv_iload_n hx hb dL_law_610 rfl (lv_at hl 3 rfl) ?_
        refine lv_iconst (v := 2) hx hb dL_law_611 (by decide) ?_
        refine lv_iadd hx hb dL_law_612 ?_
        refine va_sld hx hb hX hbl hbA hS hin2 dL_law_613 ?_
        refine lr_top hv2 ?_
        refine lr_call (w1 := WC) (w2 := WM) (r := r) (σ' := σ') (av := [.int v1, .int v2]) (rest := []) X K h1 h2 hS hIC hdis hgC hl.1 sC0 nC0 rfl (k_X10_best hIC e1) rfl ml_L_81 im_X10_best se_X10_best ini_X10 co_X10_best hd_X10_best ⟨(Nat.le_of_ble_eq_true rfl), (Nat.le_of_ble_eq_true rfl)⟩ ⟨(Nat.le_of_ble_eq_true rfl), (Nat.le_of_ble_eq_true rfl)⟩ (Nat.le_of_ble_eq_true rfl) dL_law_614 rfl (fun H locs h1 h2 hS => ?_)
        refine lv_aload_n hx hb dL_law_617 rfl (lv_at hl 2 rfl) ?_
        refine lv_aload_n hx hb dL_law_618 rfl (lv_at hl 0 rfl) ?_
        refine lv_iload_n hx hb dL_law_619 rfl (lv_at hl 3 rfl) ?_
        refine lv_iconst (v := 1) hx hb dL_law_620 (by decide) ?_
        refine lv_iadd hx hb dL_law_621 ?_
        refine va_sld hx hb hX hbl hbA hS hin1 dL_law_622 ?_
        refine lr_top hv1 ?_
        refine lv_aload_n hx hb dL_law_623 rfl (lv_at hl 0 rfl) ?_
        refine lv_iload_n hx hb dL_law_624 rfl (lv_at hl 3 rfl) ?_
        refine lv_iconst (v := 2) hx hb dL_law_625 (by decide) ?_
        refine lv_iadd hx hb dL_law_626 ?_
        refine va_sld hx hb hX hbl hbA hS hin2 dL_law_627 ?_
        refine lr_top hv2 ?_
        refine lr_call (w1 := WM) (w2 := WC) (r := r) (σ' := τ') (av := [.int v1, .int v2]) (rest := [.int r]) X K h2 h1 hS hIM hdis' hgM hl.1 sM0 nM0 rfl (k_X11_best hIM e2) rfl ml_L_84 im_X11_best se_X11_best ini_X11 co_X11_best hd_X11_best ⟨(Nat.le_of_ble_eq_true rfl), (Nat.le_of_ble_eq_true rfl)⟩ ⟨(Nat.le_of_ble_eq_true rfl), (Nat.le_of_ble_eq_true rfl)⟩ (Nat.le_of_ble_eq_true rfl) dL_law_628 rfl (fun H locs h2 h1 hS => ?_)
        exact lv_icmp_eq (tgt := 1149) hx hb dL_law_631 (by decide) (fun _ => go σ' τ' hinv2 H locs h1 h2 hS) (fun q => absurd rfl q)
      by_cases c16_ : op = (16 : Int32)
      · refine lv_tableIn (tgt := 636) (off := 603) hx hb dL_law_33 (by rw [c16_]; decide) (by rw [c16_]; decide) (by rw [c16_]; rfl) (by decide) ?_
        obtain ⟨r, σ', τ', e1, e2, hinv2⟩ := hV_traders σ τ hinv v1
        refine lv_aload_n hx hb dL_law_636 rfl (lv_at hl 1 rfl) ?_
        refine lv_aload_n hx hb dL_law_637 rfl (lv_at hl 0 rfl) ?_
        refine lv_iload_n hx hb dL_law_638 rfl (lv_at hl 3 rfl) ?_
        refine lv_iconst (v := 1) hx hb dL_law_639 (by decide) ?_
        refine lv_iadd hx hb dL_law_640 ?_
        refine va_sld hx hb hX hbl hbA hS hin1 dL_law_641 ?_
        refine lr_top hv1 ?_
        refine lr_call (w1 := WC) (w2 := WM) (r := r) (σ' := σ') (av := [.int v1]) (rest := []) X K h1 h2 hS hIC hdis hgC hl.1 sC0 nC0 rfl (k_X10_traders hIC e1) rfl ml_L_85 im_X10_traders se_X10_traders ini_X10 co_X10_traders hd_X10_traders ⟨(Nat.le_of_ble_eq_true rfl), (Nat.le_of_ble_eq_true rfl)⟩ ⟨(Nat.le_of_ble_eq_true rfl), (Nat.le_of_ble_eq_true rfl)⟩ (Nat.le_of_ble_eq_true rfl) dL_law_642 rfl (fun H locs h1 h2 hS => ?_)
        refine lv_aload_n hx hb dL_law_645 rfl (lv_at hl 2 rfl) ?_
        refine lv_aload_n hx hb dL_law_646 rfl (lv_at hl 0 rfl) ?_
        refine lv_iload_n hx hb dL_law_647 rfl (lv_at hl 3 rfl) ?_
        refine lv_iconst (v := 1) hx hb dL_law_648 (by decide) ?_
        refine lv_iadd hx hb dL_law_649 ?_
        refine va_sld hx hb hX hbl hbA hS hin1 dL_law_650 ?_
        refine lr_top hv1 ?_
        refine lr_call (w1 := WM) (w2 := WC) (r := r) (σ' := τ') (av := [.int v1]) (rest := [.int r]) X K h2 h1 hS hIM hdis' hgM hl.1 sM0 nM0 rfl (k_X11_traders hIM e2) rfl ml_L_88 im_X11_traders se_X11_traders ini_X11 co_X11_traders hd_X11_traders ⟨(Nat.le_of_ble_eq_true rfl), (Nat.le_of_ble_eq_true rfl)⟩ ⟨(Nat.le_of_ble_eq_true rfl), (Nat.le_of_ble_eq_true rfl)⟩ (Nat.le_of_ble_eq_true rfl) dL_law_651 rfl (fun H locs h2 h1 hS => ?_)
        exact lv_icmp_eq (tgt := 1149) hx hb dL_law_654 (by decide) (fun _ => go σ' τ' hinv2 H locs h1 h2 hS) (fun q => absurd rfl q)
      by_cases c17_ : op = (17 : Int32)
      · refine lv_tableIn (tgt := 659) (off := 626) hx hb dL_law_33 (by rw [c17_]; decide) (by rw [c17_]; decide) (by rw [c17_]; rfl) (by decide) ?_
        obtain ⟨r, σ', τ', e1, e2, hinv2⟩ := hV_gain σ τ hinv v1 v2
        refine lv_aload_n hx hb dL_law_659 rfl (lv_at hl 1 rfl) ?_
        refine lv_aload_n hx hb dL_law_660 rfl (lv_at hl 0 rfl) ?_
        refine lv_iload_n hx hb dL_law_661 rfl (lv_at hl 3 rfl) ?_
        refine lv_iconst (v := 1) hx hb dL_law_662 (by decide) ?_
        refine lv_iadd hx hb dL_law_663 ?_
        refine va_sld hx hb hX hbl hbA hS hin1 dL_law_664 ?_
        refine lr_top hv1 ?_
        refine lv_aload_n hx hb dL_law_665 rfl (lv_at hl 0 rfl) ?_
        refine lv_iload_n hx hb dL_law_666 rfl (lv_at hl 3 rfl) ?_
        refine lv_iconst (v := 2) hx hb dL_law_667 (by decide) ?_
        refine lv_iadd hx hb dL_law_668 ?_
        refine va_sld hx hb hX hbl hbA hS hin2 dL_law_669 ?_
        refine lr_top hv2 ?_
        refine lr_call (w1 := WC) (w2 := WM) (r := r) (σ' := σ') (av := [.int v1, .int v2]) (rest := []) X K h1 h2 hS hIC hdis hgC hl.1 sC0 nC0 rfl (k_X10_gain hIC e1) rfl ml_L_89 im_X10_gain se_X10_gain ini_X10 co_X10_gain hd_X10_gain ⟨(Nat.le_of_ble_eq_true rfl), (Nat.le_of_ble_eq_true rfl)⟩ ⟨(Nat.le_of_ble_eq_true rfl), (Nat.le_of_ble_eq_true rfl)⟩ (Nat.le_of_ble_eq_true rfl) dL_law_670 rfl (fun H locs h1 h2 hS => ?_)
        refine lv_aload_n hx hb dL_law_673 rfl (lv_at hl 2 rfl) ?_
        refine lv_aload_n hx hb dL_law_674 rfl (lv_at hl 0 rfl) ?_
        refine lv_iload_n hx hb dL_law_675 rfl (lv_at hl 3 rfl) ?_
        refine lv_iconst (v := 1) hx hb dL_law_676 (by decide) ?_
        refine lv_iadd hx hb dL_law_677 ?_
        refine va_sld hx hb hX hbl hbA hS hin1 dL_law_678 ?_
        refine lr_top hv1 ?_
        refine lv_aload_n hx hb dL_law_679 rfl (lv_at hl 0 rfl) ?_
        refine lv_iload_n hx hb dL_law_680 rfl (lv_at hl 3 rfl) ?_
        refine lv_iconst (v := 2) hx hb dL_law_681 (by decide) ?_
        refine lv_iadd hx hb dL_law_682 ?_
        refine va_sld hx hb hX hbl hbA hS hin2 dL_law_683 ?_
        refine lr_top hv2 ?_
        refine lr_call (w1 := WM) (w2 := WC) (r := r) (σ' := τ') (av := [.int v1, .int v2]) (rest := [.int r]) X K h2 h1 hS hIM hdis' hgM hl.1 sM0 nM0 rfl (k_X11_gain hIM e2) rfl ml_L_92 im_X11_gain se_X11_gain ini_X11 co_X11_gain hd_X11_gain ⟨(Nat.le_of_ble_eq_true rfl), (Nat.le_of_ble_eq_true rfl)⟩ ⟨(Nat.le_of_ble_eq_true rfl), (Nat.le_of_ble_eq_true rfl)⟩ (Nat.le_of_ble_eq_true rfl) dL_law_684 rfl (fun H locs h2 h1 hS => ?_)
        exact lv_icmp_eq (tgt := 1149) hx hb dL_law_687 (by decide) (fun _ => go σ' τ' hinv2 H locs h1 h2 hS) (fun q => absurd rfl q)
      by_cases c18_ : op = (18 : Int32)
      · refine lv_tableIn (tgt := 692) (off := 659) hx hb dL_law_33 (by rw [c18_]; decide) (by rw [c18_]; decide) (by rw [c18_]; rfl) (by decide) ?_
        obtain ⟨r, τ', e1, e2, hinv2⟩ := hV_behind σ τ hinv v1
        refine lv_aload_n hx hb dL_law_692 rfl (lv_at hl 1 rfl) ?_
        refine lv_aload_n hx hb dL_law_693 rfl (lv_at hl 0 rfl) ?_
        refine lv_iload_n hx hb dL_law_694 rfl (lv_at hl 3 rfl) ?_
        refine lv_iconst (v := 1) hx hb dL_law_695 (by decide) ?_
        refine lv_iadd hx hb dL_law_696 ?_
        refine va_sld hx hb hX hbl hbA hS hin1 dL_law_697 ?_
        refine lr_top hv1 ?_
        refine lr_call (w1 := WC) (w2 := WM) (r := r) (σ' := σ) (av := [.int v1]) (rest := []) X K h1 h2 hS hIC hdis hgC hl.1 sC0 nC0 rfl (k_X10_behind hIC e1) rfl ml_L_93 im_X10_behind se_X10_behind ini_X10 co_X10_behind hd_X10_behind ⟨(Nat.le_of_ble_eq_true rfl), (Nat.le_of_ble_eq_true rfl)⟩ ⟨(Nat.le_of_ble_eq_true rfl), (Nat.le_of_ble_eq_true rfl)⟩ (Nat.le_of_ble_eq_true rfl) dL_law_698 rfl (fun H locs h1 h2 hS => ?_)
        refine lv_aload_n hx hb dL_law_701 rfl (lv_at hl 2 rfl) ?_
        refine lv_aload_n hx hb dL_law_702 rfl (lv_at hl 0 rfl) ?_
        refine lv_iload_n hx hb dL_law_703 rfl (lv_at hl 3 rfl) ?_
        refine lv_iconst (v := 1) hx hb dL_law_704 (by decide) ?_
        refine lv_iadd hx hb dL_law_705 ?_
        refine va_sld hx hb hX hbl hbA hS hin1 dL_law_706 ?_
        refine lr_top hv1 ?_
        refine lr_call (w1 := WM) (w2 := WC) (r := r) (σ' := τ') (av := [.int v1]) (rest := [.int r]) X K h2 h1 hS hIM hdis' hgM hl.1 sM0 nM0 rfl (k_X11_behind hIM e2) rfl ml_L_96 im_X11_behind se_X11_behind ini_X11 co_X11_behind hd_X11_behind ⟨(Nat.le_of_ble_eq_true rfl), (Nat.le_of_ble_eq_true rfl)⟩ ⟨(Nat.le_of_ble_eq_true rfl), (Nat.le_of_ble_eq_true rfl)⟩ (Nat.le_of_ble_eq_true rfl) dL_law_707 rfl (fun H locs h2 h1 hS => ?_)
        exact lv_icmp_eq (tgt := 1149) hx hb dL_law_710 (by decide) (fun _ => go σ τ' hinv2 H locs h1 h2 hS) (fun q => absurd rfl q)
      by_cases c19_ : op = (19 : Int32)
      · refine lv_tableIn (tgt := 715) (off := 682) hx hb dL_law_33 (by rw [c19_]; decide) (by rw [c19_]; decide) (by rw [c19_]; rfl) (by decide) ?_
        obtain ⟨r, σ', τ', e1, e2, hinv2⟩ := hV_rests σ τ hinv 
        refine lv_aload_n hx hb dL_law_715 rfl (lv_at hl 1 rfl) ?_
        refine lr_call (w1 := WC) (w2 := WM) (r := r) (σ' := σ') (av := []) (rest := []) X K h1 h2 hS hIC hdis hgC hl.1 sC0 nC0 rfl (k_X10_rests hIC e1) rfl ml_L_97 im_X10_rests se_X10_rests ini_X10 co_X10_rests hd_X10_rests ⟨(Nat.le_of_ble_eq_true rfl), (Nat.le_of_ble_eq_true rfl)⟩ ⟨(Nat.le_of_ble_eq_true rfl), (Nat.le_of_ble_eq_true rfl)⟩ (Nat.le_of_ble_eq_true rfl) dL_law_716 rfl (fun H locs h1 h2 hS => ?_)
        refine lv_aload_n hx hb dL_law_719 rfl (lv_at hl 2 rfl) ?_
        refine lr_call (w1 := WM) (w2 := WC) (r := r) (σ' := τ') (av := []) (rest := [.int r]) X K h2 h1 hS hIM hdis' hgM hl.1 sM0 nM0 rfl (k_X11_rests hIM e2) rfl ml_L_100 im_X11_rests se_X11_rests ini_X11 co_X11_rests hd_X11_rests ⟨(Nat.le_of_ble_eq_true rfl), (Nat.le_of_ble_eq_true rfl)⟩ ⟨(Nat.le_of_ble_eq_true rfl), (Nat.le_of_ble_eq_true rfl)⟩ (Nat.le_of_ble_eq_true rfl) dL_law_720 rfl (fun H locs h2 h1 hS => ?_)
        exact lv_icmp_eq (tgt := 1149) hx hb dL_law_723 (by decide) (fun _ => go σ' τ' hinv2 H locs h1 h2 hS) (fun q => absurd rfl q)
      by_cases c20_ : op = (20 : Int32)
      · refine lv_tableIn (tgt := 728) (off := 695) hx hb dL_law_33 (by rw [c20_]; decide) (by rw [c20_]; decide) (by rw [c20_]; rfl) (by decide) ?_
        obtain ⟨r, σ', τ', e1, e2, hinv2⟩ := hV_settles σ τ hinv 
        refine lv_aload_n hx hb dL_law_728 rfl (lv_at hl 1 rfl) ?_
        refine lr_call (w1 := WC) (w2 := WM) (r := r) (σ' := σ') (av := []) (rest := []) X K h1 h2 hS hIC hdis hgC hl.1 sC0 nC0 rfl (k_X10_settles hIC e1) rfl ml_L_101 im_X10_settles se_X10_settles ini_X10 co_X10_settles hd_X10_settles ⟨(Nat.le_of_ble_eq_true rfl), (Nat.le_of_ble_eq_true rfl)⟩ ⟨(Nat.le_of_ble_eq_true rfl), (Nat.le_of_ble_eq_true rfl)⟩ (Nat.le_of_ble_eq_true rfl) dL_law_729 rfl (fun H locs h1 h2 hS => ?_)
        refine lv_aload_n hx hb dL_law_732 rfl (lv_at hl 2 rfl) ?_
        refine lr_call (w1 := WM) (w2 := WC) (r := r) (σ' := τ') (av := []) (rest := [.int r]) X K h2 h1 hS hIM hdis' hgM hl.1 sM0 nM0 rfl (k_X11_settles hIM e2) rfl ml_L_104 im_X11_settles se_X11_settles ini_X11 co_X11_settles hd_X11_settles ⟨(Nat.le_of_ble_eq_true rfl), (Nat.le_of_ble_eq_true rfl)⟩ ⟨(Nat.le_of_ble_eq_true rfl), (Nat.le_of_ble_eq_true rfl)⟩ (Nat.le_of_ble_eq_true rfl) dL_law_733 rfl (fun H locs h2 h1 hS => ?_)
        exact lv_icmp_eq (tgt := 1149) hx hb dL_law_736 (by decide) (fun _ => go σ' τ' hinv2 H locs h1 h2 hS) (fun q => absurd rfl q)
      by_cases c21_ : op = (21 : Int32)
      · refine lv_tableIn (tgt := 741) (off := 708) hx hb dL_law_33 (by rw [c21_]; decide) (by rw [c21_]; decide) (by rw [c21_]; rfl) (by decide) ?_
        obtain ⟨r, σ', τ', e1, e2, hinv2⟩ := hV_shunned σ τ hinv v1
        refine lv_aload_n hx hb dL_law_741 rfl (lv_at hl 1 rfl) ?_
        refine lv_aload_n hx hb dL_law_742 rfl (lv_at hl 0 rfl) ?_
        refine lv_iload_n hx hb dL_law_743 rfl (lv_at hl 3 rfl) ?_
        refine lv_iconst (v := 1) hx hb dL_law_744 (by decide) ?_
        refine lv_iadd hx hb dL_law_745 ?_
        refine va_sld hx hb hX hbl hbA hS hin1 dL_law_746 ?_
        refine lr_top hv1 ?_
        refine lr_call (w1 := WC) (w2 := WM) (r := r) (σ' := σ') (av := [.int v1]) (rest := []) X K h1 h2 hS hIC hdis hgC hl.1 sC0 nC0 rfl (k_X10_shunned hIC e1) rfl ml_L_105 im_X10_shunned se_X10_shunned ini_X10 co_X10_shunned hd_X10_shunned ⟨(Nat.le_of_ble_eq_true rfl), (Nat.le_of_ble_eq_true rfl)⟩ ⟨(Nat.le_of_ble_eq_true rfl), (Nat.le_of_ble_eq_true rfl)⟩ (Nat.le_of_ble_eq_true rfl) dL_law_747 rfl (fun H locs h1 h2 hS => ?_)
        refine lv_aload_n hx hb dL_law_750 rfl (lv_at hl 2 rfl) ?_
        refine lv_aload_n hx hb dL_law_751 rfl (lv_at hl 0 rfl) ?_
        refine lv_iload_n hx hb dL_law_752 rfl (lv_at hl 3 rfl) ?_
        refine lv_iconst (v := 1) hx hb dL_law_753 (by decide) ?_
        refine lv_iadd hx hb dL_law_754 ?_
        refine va_sld hx hb hX hbl hbA hS hin1 dL_law_755 ?_
        refine lr_top hv1 ?_
        refine lr_call (w1 := WM) (w2 := WC) (r := r) (σ' := τ') (av := [.int v1]) (rest := [.int r]) X K h2 h1 hS hIM hdis' hgM hl.1 sM0 nM0 rfl (k_X11_shunned hIM e2) rfl ml_L_108 im_X11_shunned se_X11_shunned ini_X11 co_X11_shunned hd_X11_shunned ⟨(Nat.le_of_ble_eq_true rfl), (Nat.le_of_ble_eq_true rfl)⟩ ⟨(Nat.le_of_ble_eq_true rfl), (Nat.le_of_ble_eq_true rfl)⟩ (Nat.le_of_ble_eq_true rfl) dL_law_756 rfl (fun H locs h2 h1 hS => ?_)
        exact lv_icmp_eq (tgt := 1149) hx hb dL_law_759 (by decide) (fun _ => go σ' τ' hinv2 H locs h1 h2 hS) (fun q => absurd rfl q)
      by_cases c22_ : op = (22 : Int32)
      · refine lv_tableIn (tgt := 764) (off := 731) hx hb dL_law_33 (by rw [c22_]; decide) (by rw [c22_]; decide) (by rw [c22_]; rfl) (by decide) ?_
        obtain ⟨r, σ', τ', e1, e2, hinv2⟩ := hV_buyers σ τ hinv 
        refine lv_aload_n hx hb dL_law_764 rfl (lv_at hl 1 rfl) ?_
        refine lr_call (w1 := WC) (w2 := WM) (r := r) (σ' := σ') (av := []) (rest := []) X K h1 h2 hS hIC hdis hgC hl.1 sC0 nC0 rfl (k_X10_buyers hIC e1) rfl ml_L_109 im_X10_buyers se_X10_buyers ini_X10 co_X10_buyers hd_X10_buyers ⟨(Nat.le_of_ble_eq_true rfl), (Nat.le_of_ble_eq_true rfl)⟩ ⟨(Nat.le_of_ble_eq_true rfl), (Nat.le_of_ble_eq_true rfl)⟩ (Nat.le_of_ble_eq_true rfl) dL_law_765 rfl (fun H locs h1 h2 hS => ?_)
        refine lv_aload_n hx hb dL_law_768 rfl (lv_at hl 2 rfl) ?_
        refine lr_call (w1 := WM) (w2 := WC) (r := r) (σ' := τ') (av := []) (rest := [.int r]) X K h2 h1 hS hIM hdis' hgM hl.1 sM0 nM0 rfl (k_X11_buyers hIM e2) rfl ml_L_112 im_X11_buyers se_X11_buyers ini_X11 co_X11_buyers hd_X11_buyers ⟨(Nat.le_of_ble_eq_true rfl), (Nat.le_of_ble_eq_true rfl)⟩ ⟨(Nat.le_of_ble_eq_true rfl), (Nat.le_of_ble_eq_true rfl)⟩ (Nat.le_of_ble_eq_true rfl) dL_law_769 rfl (fun H locs h2 h1 hS => ?_)
        exact lv_icmp_eq (tgt := 1149) hx hb dL_law_772 (by decide) (fun _ => go σ' τ' hinv2 H locs h1 h2 hS) (fun q => absurd rfl q)
      by_cases c23_ : op = (23 : Int32)
      · refine lv_tableIn (tgt := 777) (off := 744) hx hb dL_law_33 (by rw [c23_]; decide) (by rw [c23_]; decide) (by rw [c23_]; rfl) (by decide) ?_
        obtain ⟨r, σ', τ', e1, e2, hinv2⟩ := hV_lighter σ τ hinv v1
        refine lv_aload_n hx hb dL_law_777 rfl (lv_at hl 1 rfl) ?_
        refine lv_aload_n hx hb dL_law_778 rfl (lv_at hl 0 rfl) ?_
        refine lv_iload_n hx hb dL_law_779 rfl (lv_at hl 3 rfl) ?_
        refine lv_iconst (v := 1) hx hb dL_law_780 (by decide) ?_
        refine lv_iadd hx hb dL_law_781 ?_
        refine va_sld hx hb hX hbl hbA hS hin1 dL_law_782 ?_
        refine lr_top hv1 ?_
        refine lr_call (w1 := WC) (w2 := WM) (r := r) (σ' := σ') (av := [.int v1]) (rest := []) X K h1 h2 hS hIC hdis hgC hl.1 sC0 nC0 rfl (k_X10_lighter hIC e1) rfl ml_L_113 im_X10_lighter se_X10_lighter ini_X10 co_X10_lighter hd_X10_lighter ⟨(Nat.le_of_ble_eq_true rfl), (Nat.le_of_ble_eq_true rfl)⟩ ⟨(Nat.le_of_ble_eq_true rfl), (Nat.le_of_ble_eq_true rfl)⟩ (Nat.le_of_ble_eq_true rfl) dL_law_783 rfl (fun H locs h1 h2 hS => ?_)
        refine lv_aload_n hx hb dL_law_786 rfl (lv_at hl 2 rfl) ?_
        refine lv_aload_n hx hb dL_law_787 rfl (lv_at hl 0 rfl) ?_
        refine lv_iload_n hx hb dL_law_788 rfl (lv_at hl 3 rfl) ?_
        refine lv_iconst (v := 1) hx hb dL_law_789 (by decide) ?_
        refine lv_iadd hx hb dL_law_790 ?_
        refine va_sld hx hb hX hbl hbA hS hin1 dL_law_791 ?_
        refine lr_top hv1 ?_
        refine lr_call (w1 := WM) (w2 := WC) (r := r) (σ' := τ') (av := [.int v1]) (rest := [.int r]) X K h2 h1 hS hIM hdis' hgM hl.1 sM0 nM0 rfl (k_X11_lighter hIM e2) rfl ml_L_116 im_X11_lighter se_X11_lighter ini_X11 co_X11_lighter hd_X11_lighter ⟨(Nat.le_of_ble_eq_true rfl), (Nat.le_of_ble_eq_true rfl)⟩ ⟨(Nat.le_of_ble_eq_true rfl), (Nat.le_of_ble_eq_true rfl)⟩ (Nat.le_of_ble_eq_true rfl) dL_law_792 rfl (fun H locs h2 h1 hS => ?_)
        exact lv_icmp_eq (tgt := 1149) hx hb dL_law_795 (by decide) (fun _ => go σ' τ' hinv2 H locs h1 h2 hS) (fun q => absurd rfl q)
      by_cases c24_ : op = (24 : Int32)
      · refine lv_tableIn (tgt := 800) (off := 767) hx hb dL_law_33 (by rw [c24_]; decide) (by rw [c24_]; decide) (by rw [c24_]; rfl) (by decide) ?_
        obtain ⟨r, σ', τ', e1, e2, hinv2⟩ := hV_furthest σ τ hinv v1 v2
        refine lv_aload_n hx hb dL_law_800 rfl (lv_at hl 1 rfl) ?_
        refine lv_aload_n hx hb dL_law_801 rfl (lv_at hl 0 rfl) ?_
        refine lv_iload_n hx hb dL_law_802 rfl (lv_at hl 3 rfl) ?_
        refine lv_iconst (v := 1) hx hb dL_law_803 (by decide) ?_
        refine lv_iadd hx hb dL_law_804 ?_
        refine va_sld hx hb hX hbl hbA hS hin1 dL_law_805 ?_
        refine lr_top hv1 ?_
        refine lv_aload_n hx hb dL_law_806 rfl (lv_at hl 0 rfl) ?_
        refine lv_iload_n hx hb dL_law_807 rfl (lv_at hl 3 rfl) ?_
        refine lv_iconst (v := 2) hx hb dL_law_808 (by decide) ?_
        refine lv_iadd hx hb dL_law_809 ?_
        refine va_sld hx hb hX hbl hbA hS hin2 dL_law_810 ?_
        refine lr_top hv2 ?_
        refine lr_call (w1 := WC) (w2 := WM) (r := r) (σ' := σ') (av := [.int v1, .int v2]) (rest := []) X K h1 h2 hS hIC hdis hgC hl.1 sC0 nC0 rfl (k_X10_furthest hIC e1) rfl ml_L_117 im_X10_furthest se_X10_furthest ini_X10 co_X10_furthest hd_X10_furthest ⟨(Nat.le_of_ble_eq_true rfl), (Nat.le_of_ble_eq_true rfl)⟩ ⟨(Nat.le_of_ble_eq_true rfl), (Nat.le_of_ble_eq_true rfl)⟩ (Nat.le_of_ble_eq_true rfl) dL_law_811 rfl (fun H locs h1 h2 hS => ?_)
        refine lv_aload_n hx hb dL_law_814 rfl (lv_at hl 2 rfl) ?_
        refine lv_aload_n hx hb dL_law_815 rfl (lv_at hl 0 rfl) ?_
        refine lv_iload_n hx hb dL_law_816 rfl (lv_at hl 3 rfl) ?_
        refine lv_iconst (v := 1) hx hb dL_law_817 (by decide) ?_
        refine lv_iadd hx hb dL_law_818 ?_
        refine va_sld hx hb hX hbl hbA hS hin1 dL_law_819 ?_
        refine lr_top hv1 ?_
        refine lv_aload_n hx hb dL_law_820 rfl (lv_at hl 0 rfl) ?_
        refine lv_iload_n hx hb dL_law_821 rfl (lv_at hl 3 rfl) ?_
        refine lv_iconst (v := 2) hx hb dL_law_822 (by decide) ?_
        refine lv_iadd hx hb dL_law_823 ?_
        refine va_sld hx hb hX hbl hbA hS hin2 dL_law_824 ?_
        refine lr_top hv2 ?_
        refine lr_call (w1 := WM) (w2 := WC) (r := r) (σ' := τ') (av := [.int v1, .int v2]) (rest := [.int r]) X K h2 h1 hS hIM hdis' hgM hl.1 sM0 nM0 rfl (k_X11_furthest hIM e2) rfl ml_L_120 im_X11_furthest se_X11_furthest ini_X11 co_X11_furthest hd_X11_furthest ⟨(Nat.le_of_ble_eq_true rfl), (Nat.le_of_ble_eq_true rfl)⟩ ⟨(Nat.le_of_ble_eq_true rfl), (Nat.le_of_ble_eq_true rfl)⟩ (Nat.le_of_ble_eq_true rfl) dL_law_825 rfl (fun H locs h2 h1 hS => ?_)
        exact lv_icmp_eq (tgt := 1149) hx hb dL_law_828 (by decide) (fun _ => go σ' τ' hinv2 H locs h1 h2 hS) (fun q => absurd rfl q)
      by_cases c25_ : op = (25 : Int32)
      · refine lv_tableIn (tgt := 833) (off := 800) hx hb dL_law_33 (by rw [c25_]; decide) (by rw [c25_]; decide) (by rw [c25_]; rfl) (by decide) ?_
        obtain ⟨r, σ', τ', e1, e2, hinv2⟩ := hV_then σ τ hinv v1 v2
        refine lv_aload_n hx hb dL_law_833 rfl (lv_at hl 1 rfl) ?_
        refine lv_aload_n hx hb dL_law_834 rfl (lv_at hl 0 rfl) ?_
        refine lv_iload_n hx hb dL_law_835 rfl (lv_at hl 3 rfl) ?_
        refine lv_iconst (v := 1) hx hb dL_law_836 (by decide) ?_
        refine lv_iadd hx hb dL_law_837 ?_
        refine va_sld hx hb hX hbl hbA hS hin1 dL_law_838 ?_
        refine lr_top hv1 ?_
        refine lv_aload_n hx hb dL_law_839 rfl (lv_at hl 0 rfl) ?_
        refine lv_iload_n hx hb dL_law_840 rfl (lv_at hl 3 rfl) ?_
        refine lv_iconst (v := 2) hx hb dL_law_841 (by decide) ?_
        refine lv_iadd hx hb dL_law_842 ?_
        refine va_sld hx hb hX hbl hbA hS hin2 dL_law_843 ?_
        refine lr_top hv2 ?_
        refine lr_call (w1 := WC) (w2 := WM) (r := r) (σ' := σ') (av := [.int v1, .int v2]) (rest := []) X K h1 h2 hS hIC hdis hgC hl.1 sC0 nC0 rfl (k_X10_then hIC e1) rfl ml_L_121 im_X10_then se_X10_then ini_X10 co_X10_then hd_X10_then ⟨(Nat.le_of_ble_eq_true rfl), (Nat.le_of_ble_eq_true rfl)⟩ ⟨(Nat.le_of_ble_eq_true rfl), (Nat.le_of_ble_eq_true rfl)⟩ (Nat.le_of_ble_eq_true rfl) dL_law_844 rfl (fun H locs h1 h2 hS => ?_)
        refine lv_aload_n hx hb dL_law_847 rfl (lv_at hl 2 rfl) ?_
        refine lv_aload_n hx hb dL_law_848 rfl (lv_at hl 0 rfl) ?_
        refine lv_iload_n hx hb dL_law_849 rfl (lv_at hl 3 rfl) ?_
        refine lv_iconst (v := 1) hx hb dL_law_850 (by decide) ?_
        refine lv_iadd hx hb dL_law_851 ?_
        refine va_sld hx hb hX hbl hbA hS hin1 dL_law_852 ?_
        refine lr_top hv1 ?_
        refine lv_aload_n hx hb dL_law_853 rfl (lv_at hl 0 rfl) ?_
        refine lv_iload_n hx hb dL_law_854 rfl (lv_at hl 3 rfl) ?_
        refine lv_iconst (v := 2) hx hb dL_law_855 (by decide) ?_
        refine lv_iadd hx hb dL_law_856 ?_
        refine va_sld hx hb hX hbl hbA hS hin2 dL_law_857 ?_
        refine lr_top hv2 ?_
        refine lr_call (w1 := WM) (w2 := WC) (r := r) (σ' := τ') (av := [.int v1, .int v2]) (rest := [.int r]) X K h2 h1 hS hIM hdis' hgM hl.1 sM0 nM0 rfl (k_X11_then hIM e2) rfl ml_L_124 im_X11_then se_X11_then ini_X11 co_X11_then hd_X11_then ⟨(Nat.le_of_ble_eq_true rfl), (Nat.le_of_ble_eq_true rfl)⟩ ⟨(Nat.le_of_ble_eq_true rfl), (Nat.le_of_ble_eq_true rfl)⟩ (Nat.le_of_ble_eq_true rfl) dL_law_858 rfl (fun H locs h2 h1 hS => ?_)
        exact lv_icmp_eq (tgt := 1149) hx hb dL_law_861 (by decide) (fun _ => go σ' τ' hinv2 H locs h1 h2 hS) (fun q => absurd rfl q)
      by_cases c26_ : op = (26 : Int32)
      · refine lv_tableIn (tgt := 866) (off := 833) hx hb dL_law_33 (by rw [c26_]; decide) (by rw [c26_]; decide) (by rw [c26_]; rfl) (by decide) ?_
        obtain ⟨r, σ', τ', e1, e2, hinv2⟩ := hV_listIn σ τ hinv v1 v2
        refine lv_aload_n hx hb dL_law_866 rfl (lv_at hl 1 rfl) ?_
        refine lv_aload_n hx hb dL_law_867 rfl (lv_at hl 0 rfl) ?_
        refine lv_iload_n hx hb dL_law_868 rfl (lv_at hl 3 rfl) ?_
        refine lv_iconst (v := 1) hx hb dL_law_869 (by decide) ?_
        refine lv_iadd hx hb dL_law_870 ?_
        refine va_sld hx hb hX hbl hbA hS hin1 dL_law_871 ?_
        refine lr_top hv1 ?_
        refine lv_aload_n hx hb dL_law_872 rfl (lv_at hl 0 rfl) ?_
        refine lv_iload_n hx hb dL_law_873 rfl (lv_at hl 3 rfl) ?_
        refine lv_iconst (v := 2) hx hb dL_law_874 (by decide) ?_
        refine lv_iadd hx hb dL_law_875 ?_
        refine va_sld hx hb hX hbl hbA hS hin2 dL_law_876 ?_
        refine lr_top hv2 ?_
        refine lr_call (w1 := WC) (w2 := WM) (r := r) (σ' := σ') (av := [.int v1, .int v2]) (rest := []) X K h1 h2 hS hIC hdis hgC hl.1 sC0 nC0 rfl (k_X10_listIn hIC e1) rfl ml_L_125 im_X10_listIn se_X10_listIn ini_X10 co_X10_listIn hd_X10_listIn ⟨(Nat.le_of_ble_eq_true rfl), (Nat.le_of_ble_eq_true rfl)⟩ ⟨(Nat.le_of_ble_eq_true rfl), (Nat.le_of_ble_eq_true rfl)⟩ (Nat.le_of_ble_eq_true rfl) dL_law_877 rfl (fun H locs h1 h2 hS => ?_)
        refine lv_aload_n hx hb dL_law_880 rfl (lv_at hl 2 rfl) ?_
        refine lv_aload_n hx hb dL_law_881 rfl (lv_at hl 0 rfl) ?_
        refine lv_iload_n hx hb dL_law_882 rfl (lv_at hl 3 rfl) ?_
        refine lv_iconst (v := 1) hx hb dL_law_883 (by decide) ?_
        refine lv_iadd hx hb dL_law_884 ?_
        refine va_sld hx hb hX hbl hbA hS hin1 dL_law_885 ?_
        refine lr_top hv1 ?_
        refine lv_aload_n hx hb dL_law_886 rfl (lv_at hl 0 rfl) ?_
        refine lv_iload_n hx hb dL_law_887 rfl (lv_at hl 3 rfl) ?_
        refine lv_iconst (v := 2) hx hb dL_law_888 (by decide) ?_
        refine lv_iadd hx hb dL_law_889 ?_
        refine va_sld hx hb hX hbl hbA hS hin2 dL_law_890 ?_
        refine lr_top hv2 ?_
        refine lr_call (w1 := WM) (w2 := WC) (r := r) (σ' := τ') (av := [.int v1, .int v2]) (rest := [.int r]) X K h2 h1 hS hIM hdis' hgM hl.1 sM0 nM0 rfl (k_X11_listIn hIM e2) rfl ml_L_128 im_X11_listIn se_X11_listIn ini_X11 co_X11_listIn hd_X11_listIn ⟨(Nat.le_of_ble_eq_true rfl), (Nat.le_of_ble_eq_true rfl)⟩ ⟨(Nat.le_of_ble_eq_true rfl), (Nat.le_of_ble_eq_true rfl)⟩ (Nat.le_of_ble_eq_true rfl) dL_law_891 rfl (fun H locs h2 h1 hS => ?_)
        exact lv_icmp_eq (tgt := 1149) hx hb dL_law_894 (by decide) (fun _ => go σ' τ' hinv2 H locs h1 h2 hS) (fun q => absurd rfl q)
      by_cases c27_ : op = (27 : Int32)
      · refine lv_tableIn (tgt := 899) (off := 866) hx hb dL_law_33 (by rw [c27_]; decide) (by rw [c27_]; decide) (by rw [c27_]; rfl) (by decide) ?_
        obtain ⟨r, σ', τ', e1, e2, hinv2⟩ := hV_year σ τ hinv v1 v2 v3
        refine lv_aload_n hx hb dL_law_899 rfl (lv_at hl 1 rfl) ?_
        refine lv_aload_n hx hb dL_law_900 rfl (lv_at hl 0 rfl) ?_
        refine lv_iload_n hx hb dL_law_901 rfl (lv_at hl 3 rfl) ?_
        refine lv_iconst (v := 1) hx hb dL_law_902 (by decide) ?_
        refine lv_iadd hx hb dL_law_903 ?_
        refine va_sld hx hb hX hbl hbA hS hin1 dL_law_904 ?_
        refine lr_top hv1 ?_
        refine lv_aload_n hx hb dL_law_905 rfl (lv_at hl 0 rfl) ?_
        refine lv_iload_n hx hb dL_law_906 rfl (lv_at hl 3 rfl) ?_
        refine lv_iconst (v := 2) hx hb dL_law_907 (by decide) ?_
        refine lv_iadd hx hb dL_law_908 ?_
        refine va_sld hx hb hX hbl hbA hS hin2 dL_law_909 ?_
        refine lr_top hv2 ?_
        refine lv_aload_n hx hb dL_law_910 rfl (lv_at hl 0 rfl) ?_
        refine lv_iload_n hx hb dL_law_911 rfl (lv_at hl 3 rfl) ?_
        refine lv_iconst (v := 3) hx hb dL_law_912 (by decide) ?_
        refine lv_iadd hx hb dL_law_913 ?_
        refine va_sld hx hb hX hbl hbA hS hin3 dL_law_914 ?_
        refine lr_top hv3 ?_
        refine lr_call (w1 := WC) (w2 := WM) (r := r) (σ' := σ') (av := [.int v1, .int v2, .int v3]) (rest := []) X K h1 h2 hS hIC hdis hgC hl.1 sC0 nC0 rfl (k_X10_year hIC e1) rfl ml_L_129 im_X10_year se_X10_year ini_X10 co_X10_year hd_X10_year ⟨(Nat.le_of_ble_eq_true rfl), (Nat.le_of_ble_eq_true rfl)⟩ ⟨(Nat.le_of_ble_eq_true rfl), (Nat.le_of_ble_eq_true rfl)⟩ (Nat.le_of_ble_eq_true rfl) dL_law_915 rfl (fun H locs h1 h2 hS => ?_)
        refine lv_aload_n hx hb dL_law_918 rfl (lv_at hl 2 rfl) ?_
        refine lv_aload_n hx hb dL_law_919 rfl (lv_at hl 0 rfl) ?_
        refine lv_iload_n hx hb dL_law_920 rfl (lv_at hl 3 rfl) ?_
        refine lv_iconst (v := 1) hx hb dL_law_921 (by decide) ?_
        refine lv_iadd hx hb dL_law_922 ?_
        refine va_sld hx hb hX hbl hbA hS hin1 dL_law_923 ?_
        refine lr_top hv1 ?_
        refine lv_aload_n hx hb dL_law_924 rfl (lv_at hl 0 rfl) ?_
        refine lv_iload_n hx hb dL_law_925 rfl (lv_at hl 3 rfl) ?_
        refine lv_iconst (v := 2) hx hb dL_law_926 (by decide) ?_
        refine lv_iadd hx hb dL_law_927 ?_
        refine va_sld hx hb hX hbl hbA hS hin2 dL_law_928 ?_
        refine lr_top hv2 ?_
        refine lv_aload_n hx hb dL_law_929 rfl (lv_at hl 0 rfl) ?_
        refine lv_iload_n hx hb dL_law_930 rfl (lv_at hl 3 rfl) ?_
        refine lv_iconst (v := 3) hx hb dL_law_931 (by decide) ?_
        refine lv_iadd hx hb dL_law_932 ?_
        refine va_sld hx hb hX hbl hbA hS hin3 dL_law_933 ?_
        refine lr_top hv3 ?_
        refine lr_call (w1 := WM) (w2 := WC) (r := r) (σ' := τ') (av := [.int v1, .int v2, .int v3]) (rest := [.int r]) X K h2 h1 hS hIM hdis' hgM hl.1 sM0 nM0 rfl (k_X11_year hIM e2) rfl ml_L_132 im_X11_year se_X11_year ini_X11 co_X11_year hd_X11_year ⟨(Nat.le_of_ble_eq_true rfl), (Nat.le_of_ble_eq_true rfl)⟩ ⟨(Nat.le_of_ble_eq_true rfl), (Nat.le_of_ble_eq_true rfl)⟩ (Nat.le_of_ble_eq_true rfl) dL_law_934 rfl (fun H locs h2 h1 hS => ?_)
        exact lv_icmp_eq (tgt := 1149) hx hb dL_law_937 (by decide) (fun _ => go σ' τ' hinv2 H locs h1 h2 hS) (fun q => absurd rfl q)
      by_cases c28_ : op = (28 : Int32)
      · refine lv_tableIn (tgt := 942) (off := 909) hx hb dL_law_33 (by rw [c28_]; decide) (by rw [c28_]; decide) (by rw [c28_]; rfl) (by decide) ?_
        by_cases hb0 : v3 = 0
        · skip
          obtain ⟨r, σ', τ', e1, e2, hinv2⟩ := hV_tell σ τ hinv v1 v2 (0 : Int32) (by decide)
          refine lv_aload_n hx hb dL_law_942 rfl (lv_at hl 1 rfl) ?_
          refine lv_aload_n hx hb dL_law_943 rfl (lv_at hl 0 rfl) ?_
          refine lv_iload_n hx hb dL_law_944 rfl (lv_at hl 3 rfl) ?_
          refine lv_iconst (v := 1) hx hb dL_law_945 (by decide) ?_
          refine lv_iadd hx hb dL_law_946 ?_
          refine va_sld hx hb hX hbl hbA hS hin1 dL_law_947 ?_
          refine lr_top hv1 ?_
          refine lv_aload_n hx hb dL_law_948 rfl (lv_at hl 0 rfl) ?_
          refine lv_iload_n hx hb dL_law_949 rfl (lv_at hl 3 rfl) ?_
          refine lv_iconst (v := 2) hx hb dL_law_950 (by decide) ?_
          refine lv_iadd hx hb dL_law_951 ?_
          refine va_sld hx hb hX hbl hbA hS hin2 dL_law_952 ?_
          refine lr_top hv2 ?_
          refine lv_aload_n hx hb dL_law_953 rfl (lv_at hl 0 rfl) ?_
          refine lv_iload_n hx hb dL_law_954 rfl (lv_at hl 3 rfl) ?_
          refine lv_iconst (v := 3) hx hb dL_law_955 (by decide) ?_
          refine lv_iadd hx hb dL_law_956 ?_
          refine va_sld hx hb hX hbl hbA hS hin3 dL_law_957 ?_
          refine lr_top hv3 ?_
          refine lv_if_eq (tgt := 965) hx hb dL_law_958 (by decide) (fun _ => ?_) (fun q => absurd hb0 q)
          refine lv_iconst (v := 0) hx hb dL_law_965 (by decide) ?_
          refine lr_call (w1 := WC) (w2 := WM) (r := r) (σ' := σ') (av := [.int v1, .int v2, .int (0 : Int32)]) (rest := []) X K h1 h2 hS hIC hdis hgC hl.1 sC0 nC0 rfl (k_X10_tell hIC e1) rfl ml_L_133 im_X10_tell se_X10_tell ini_X10 co_X10_tell hd_X10_tell ⟨(Nat.le_of_ble_eq_true rfl), (Nat.le_of_ble_eq_true rfl)⟩ ⟨(Nat.le_of_ble_eq_true rfl), (Nat.le_of_ble_eq_true rfl)⟩ (Nat.le_of_ble_eq_true rfl) dL_law_966 rfl (fun H locs h1 h2 hS => ?_)
          refine lv_aload_n hx hb dL_law_969 rfl (lv_at hl 2 rfl) ?_
          refine lv_aload_n hx hb dL_law_970 rfl (lv_at hl 0 rfl) ?_
          refine lv_iload_n hx hb dL_law_971 rfl (lv_at hl 3 rfl) ?_
          refine lv_iconst (v := 1) hx hb dL_law_972 (by decide) ?_
          refine lv_iadd hx hb dL_law_973 ?_
          refine va_sld hx hb hX hbl hbA hS hin1 dL_law_974 ?_
          refine lr_top hv1 ?_
          refine lv_aload_n hx hb dL_law_975 rfl (lv_at hl 0 rfl) ?_
          refine lv_iload_n hx hb dL_law_976 rfl (lv_at hl 3 rfl) ?_
          refine lv_iconst (v := 2) hx hb dL_law_977 (by decide) ?_
          refine lv_iadd hx hb dL_law_978 ?_
          refine va_sld hx hb hX hbl hbA hS hin2 dL_law_979 ?_
          refine lr_top hv2 ?_
          refine lv_aload_n hx hb dL_law_980 rfl (lv_at hl 0 rfl) ?_
          refine lv_iload_n hx hb dL_law_981 rfl (lv_at hl 3 rfl) ?_
          refine lv_iconst (v := 3) hx hb dL_law_982 (by decide) ?_
          refine lv_iadd hx hb dL_law_983 ?_
          refine va_sld hx hb hX hbl hbA hS hin3 dL_law_984 ?_
          refine lr_top hv3 ?_
          refine lv_if_eq (tgt := 992) hx hb dL_law_985 (by decide) (fun _ => ?_) (fun q => absurd hb0 q)
          refine lv_iconst (v := 0) hx hb dL_law_992 (by decide) ?_
          refine lr_call (w1 := WM) (w2 := WC) (r := r) (σ' := τ') (av := [.int v1, .int v2, .int (0 : Int32)]) (rest := [.int r]) X K h2 h1 hS hIM hdis' hgM hl.1 sM0 nM0 rfl (k_X11_tell hIM e2) rfl ml_L_137 im_X11_tell se_X11_tell ini_X11 co_X11_tell hd_X11_tell ⟨(Nat.le_of_ble_eq_true rfl), (Nat.le_of_ble_eq_true rfl)⟩ ⟨(Nat.le_of_ble_eq_true rfl), (Nat.le_of_ble_eq_true rfl)⟩ (Nat.le_of_ble_eq_true rfl) dL_law_993 rfl (fun H locs h2 h1 hS => ?_)
          exact lv_icmp_eq (tgt := 1149) hx hb dL_law_996 (by decide) (fun _ => go σ' τ' hinv2 H locs h1 h2 hS) (fun q => absurd rfl q)
        · skip
          obtain ⟨r, σ', τ', e1, e2, hinv2⟩ := hV_tell σ τ hinv v1 v2 (1 : Int32) (by decide)
          refine lv_aload_n hx hb dL_law_942 rfl (lv_at hl 1 rfl) ?_
          refine lv_aload_n hx hb dL_law_943 rfl (lv_at hl 0 rfl) ?_
          refine lv_iload_n hx hb dL_law_944 rfl (lv_at hl 3 rfl) ?_
          refine lv_iconst (v := 1) hx hb dL_law_945 (by decide) ?_
          refine lv_iadd hx hb dL_law_946 ?_
          refine va_sld hx hb hX hbl hbA hS hin1 dL_law_947 ?_
          refine lr_top hv1 ?_
          refine lv_aload_n hx hb dL_law_948 rfl (lv_at hl 0 rfl) ?_
          refine lv_iload_n hx hb dL_law_949 rfl (lv_at hl 3 rfl) ?_
          refine lv_iconst (v := 2) hx hb dL_law_950 (by decide) ?_
          refine lv_iadd hx hb dL_law_951 ?_
          refine va_sld hx hb hX hbl hbA hS hin2 dL_law_952 ?_
          refine lr_top hv2 ?_
          refine lv_aload_n hx hb dL_law_953 rfl (lv_at hl 0 rfl) ?_
          refine lv_iload_n hx hb dL_law_954 rfl (lv_at hl 3 rfl) ?_
          refine lv_iconst (v := 3) hx hb dL_law_955 (by decide) ?_
          refine lv_iadd hx hb dL_law_956 ?_
          refine va_sld hx hb hX hbl hbA hS hin3 dL_law_957 ?_
          refine lr_top hv3 ?_
          refine lv_if_eq (tgt := 965) hx hb dL_law_958 (by decide) (fun q => absurd q hb0) (fun _ => ?_)
          refine lv_iconst (v := 1) hx hb dL_law_961 (by decide) ?_
          refine lv_goto (tgt := 966) hx hb dL_law_962 (by decide) ?_
          refine lr_call (w1 := WC) (w2 := WM) (r := r) (σ' := σ') (av := [.int v1, .int v2, .int (1 : Int32)]) (rest := []) X K h1 h2 hS hIC hdis hgC hl.1 sC0 nC0 rfl (k_X10_tell hIC e1) rfl ml_L_133 im_X10_tell se_X10_tell ini_X10 co_X10_tell hd_X10_tell ⟨(Nat.le_of_ble_eq_true rfl), (Nat.le_of_ble_eq_true rfl)⟩ ⟨(Nat.le_of_ble_eq_true rfl), (Nat.le_of_ble_eq_true rfl)⟩ (Nat.le_of_ble_eq_true rfl) dL_law_966 rfl (fun H locs h1 h2 hS => ?_)
          refine lv_aload_n hx hb dL_law_969 rfl (lv_at hl 2 rfl) ?_
          refine lv_aload_n hx hb dL_law_970 rfl (lv_at hl 0 rfl) ?_
          refine lv_iload_n hx hb dL_law_971 rfl (lv_at hl 3 rfl) ?_
          refine lv_iconst (v := 1) hx hb dL_law_972 (by decide) ?_
          refine lv_iadd hx hb dL_law_973 ?_
          refine va_sld hx hb hX hbl hbA hS hin1 dL_law_974 ?_
          refine lr_top hv1 ?_
          refine lv_aload_n hx hb dL_law_975 rfl (lv_at hl 0 rfl) ?_
          refine lv_iload_n hx hb dL_law_976 rfl (lv_at hl 3 rfl) ?_
          refine lv_iconst (v := 2) hx hb dL_law_977 (by decide) ?_
          refine lv_iadd hx hb dL_law_978 ?_
          refine va_sld hx hb hX hbl hbA hS hin2 dL_law_979 ?_
          refine lr_top hv2 ?_
          refine lv_aload_n hx hb dL_law_980 rfl (lv_at hl 0 rfl) ?_
          refine lv_iload_n hx hb dL_law_981 rfl (lv_at hl 3 rfl) ?_
          refine lv_iconst (v := 3) hx hb dL_law_982 (by decide) ?_
          refine lv_iadd hx hb dL_law_983 ?_
          refine va_sld hx hb hX hbl hbA hS hin3 dL_law_984 ?_
          refine lr_top hv3 ?_
          refine lv_if_eq (tgt := 992) hx hb dL_law_985 (by decide) (fun q => absurd q hb0) (fun _ => ?_)
          refine lv_iconst (v := 1) hx hb dL_law_988 (by decide) ?_
          refine lv_goto (tgt := 993) hx hb dL_law_989 (by decide) ?_
          refine lr_call (w1 := WM) (w2 := WC) (r := r) (σ' := τ') (av := [.int v1, .int v2, .int (1 : Int32)]) (rest := [.int r]) X K h2 h1 hS hIM hdis' hgM hl.1 sM0 nM0 rfl (k_X11_tell hIM e2) rfl ml_L_137 im_X11_tell se_X11_tell ini_X11 co_X11_tell hd_X11_tell ⟨(Nat.le_of_ble_eq_true rfl), (Nat.le_of_ble_eq_true rfl)⟩ ⟨(Nat.le_of_ble_eq_true rfl), (Nat.le_of_ble_eq_true rfl)⟩ (Nat.le_of_ble_eq_true rfl) dL_law_993 rfl (fun H locs h2 h1 hS => ?_)
          exact lv_icmp_eq (tgt := 1149) hx hb dL_law_996 (by decide) (fun _ => go σ' τ' hinv2 H locs h1 h2 hS) (fun q => absurd rfl q)
      by_cases c29_ : op = (29 : Int32)
      · refine lv_tableIn (tgt := 1001) (off := 968) hx hb dL_law_33 (by rw [c29_]; decide) (by rw [c29_]; decide) (by rw [c29_]; rfl) (by decide) ?_
        obtain ⟨r, σ', τ', e1, e2, hinv2⟩ := hV_forget σ τ hinv 
        refine lv_aload_n hx hb dL_law_1001 rfl (lv_at hl 1 rfl) ?_
        refine lr_call (w1 := WC) (w2 := WM) (r := r) (σ' := σ') (av := []) (rest := []) X K h1 h2 hS hIC hdis hgC hl.1 sC0 nC0 rfl (k_X10_forget hIC e1) rfl ml_L_138 im_X10_forget se_X10_forget ini_X10 co_X10_forget hd_X10_forget ⟨(Nat.le_of_ble_eq_true rfl), (Nat.le_of_ble_eq_true rfl)⟩ ⟨(Nat.le_of_ble_eq_true rfl), (Nat.le_of_ble_eq_true rfl)⟩ (Nat.le_of_ble_eq_true rfl) dL_law_1002 rfl (fun H locs h1 h2 hS => ?_)
        refine lv_aload_n hx hb dL_law_1005 rfl (lv_at hl 2 rfl) ?_
        refine lr_call (w1 := WM) (w2 := WC) (r := r) (σ' := τ') (av := []) (rest := [.int r]) X K h2 h1 hS hIM hdis' hgM hl.1 sM0 nM0 rfl (k_X11_forget hIM e2) rfl ml_L_141 im_X11_forget se_X11_forget ini_X11 co_X11_forget hd_X11_forget ⟨(Nat.le_of_ble_eq_true rfl), (Nat.le_of_ble_eq_true rfl)⟩ ⟨(Nat.le_of_ble_eq_true rfl), (Nat.le_of_ble_eq_true rfl)⟩ (Nat.le_of_ble_eq_true rfl) dL_law_1006 rfl (fun H locs h2 h1 hS => ?_)
        exact lv_icmp_eq (tgt := 1149) hx hb dL_law_1009 (by decide) (fun _ => go σ' τ' hinv2 H locs h1 h2 hS) (fun q => absurd rfl q)
      by_cases c30_ : op = (30 : Int32)
      · refine lv_tableIn (tgt := 1014) (off := 981) hx hb dL_law_33 (by rw [c30_]; decide) (by rw [c30_]; decide) (by rw [c30_]; rfl) (by decide) ?_
        obtain ⟨r, σ', τ', e1, e2, hinv2⟩ := hV_fits σ τ hinv v1 v2
        refine lv_aload_n hx hb dL_law_1014 rfl (lv_at hl 1 rfl) ?_
        refine lv_aload_n hx hb dL_law_1015 rfl (lv_at hl 0 rfl) ?_
        refine lv_iload_n hx hb dL_law_1016 rfl (lv_at hl 3 rfl) ?_
        refine lv_iconst (v := 1) hx hb dL_law_1017 (by decide) ?_
        refine lv_iadd hx hb dL_law_1018 ?_
        refine va_sld hx hb hX hbl hbA hS hin1 dL_law_1019 ?_
        refine lr_top hv1 ?_
        refine lv_aload_n hx hb dL_law_1020 rfl (lv_at hl 0 rfl) ?_
        refine lv_iload_n hx hb dL_law_1021 rfl (lv_at hl 3 rfl) ?_
        refine lv_iconst (v := 2) hx hb dL_law_1022 (by decide) ?_
        refine lv_iadd hx hb dL_law_1023 ?_
        refine va_sld hx hb hX hbl hbA hS hin2 dL_law_1024 ?_
        refine lr_top hv2 ?_
        refine lr_call (w1 := WC) (w2 := WM) (r := r) (σ' := σ') (av := [.int v1, .int v2]) (rest := []) X K h1 h2 hS hIC hdis hgC hl.1 sC0 nC0 rfl (k_X10_fits hIC e1) rfl ml_L_142 im_X10_fits se_X10_fits ini_X10 co_X10_fits hd_X10_fits ⟨(Nat.le_of_ble_eq_true rfl), (Nat.le_of_ble_eq_true rfl)⟩ ⟨(Nat.le_of_ble_eq_true rfl), (Nat.le_of_ble_eq_true rfl)⟩ (Nat.le_of_ble_eq_true rfl) dL_law_1025 rfl (fun H locs h1 h2 hS => ?_)
        refine lv_aload_n hx hb dL_law_1028 rfl (lv_at hl 2 rfl) ?_
        refine lv_aload_n hx hb dL_law_1029 rfl (lv_at hl 0 rfl) ?_
        refine lv_iload_n hx hb dL_law_1030 rfl (lv_at hl 3 rfl) ?_
        refine lv_iconst (v := 1) hx hb dL_law_1031 (by decide) ?_
        refine lv_iadd hx hb dL_law_1032 ?_
        refine va_sld hx hb hX hbl hbA hS hin1 dL_law_1033 ?_
        refine lr_top hv1 ?_
        refine lv_aload_n hx hb dL_law_1034 rfl (lv_at hl 0 rfl) ?_
        refine lv_iload_n hx hb dL_law_1035 rfl (lv_at hl 3 rfl) ?_
        refine lv_iconst (v := 2) hx hb dL_law_1036 (by decide) ?_
        refine lv_iadd hx hb dL_law_1037 ?_
        refine va_sld hx hb hX hbl hbA hS hin2 dL_law_1038 ?_
        refine lr_top hv2 ?_
        refine lr_call (w1 := WM) (w2 := WC) (r := r) (σ' := τ') (av := [.int v1, .int v2]) (rest := [.int r]) X K h2 h1 hS hIM hdis' hgM hl.1 sM0 nM0 rfl (k_X11_fits hIM e2) rfl ml_L_145 im_X11_fits se_X11_fits ini_X11 co_X11_fits hd_X11_fits ⟨(Nat.le_of_ble_eq_true rfl), (Nat.le_of_ble_eq_true rfl)⟩ ⟨(Nat.le_of_ble_eq_true rfl), (Nat.le_of_ble_eq_true rfl)⟩ (Nat.le_of_ble_eq_true rfl) dL_law_1039 rfl (fun H locs h2 h1 hS => ?_)
        exact lv_icmp_eq (tgt := 1149) hx hb dL_law_1042 (by decide) (fun _ => go σ' τ' hinv2 H locs h1 h2 hS) (fun q => absurd rfl q)
      by_cases c31_ : op = (31 : Int32)
      · refine lv_tableIn (tgt := 1047) (off := 1014) hx hb dL_law_33 (by rw [c31_]; decide) (by rw [c31_]; decide) (by rw [c31_]; rfl) (by decide) ?_
        obtain ⟨r, σ', τ', e1, e2, hinv2⟩ := hV_ask σ τ hinv v1 v2
        refine lv_aload_n hx hb dL_law_1047 rfl (lv_at hl 1 rfl) ?_
        refine lv_aload_n hx hb dL_law_1048 rfl (lv_at hl 0 rfl) ?_
        refine lv_iload_n hx hb dL_law_1049 rfl (lv_at hl 3 rfl) ?_
        refine lv_iconst (v := 1) hx hb dL_law_1050 (by decide) ?_
        refine lv_iadd hx hb dL_law_1051 ?_
        refine va_sld hx hb hX hbl hbA hS hin1 dL_law_1052 ?_
        refine lr_top hv1 ?_
        refine lv_aload_n hx hb dL_law_1053 rfl (lv_at hl 0 rfl) ?_
        refine lv_iload_n hx hb dL_law_1054 rfl (lv_at hl 3 rfl) ?_
        refine lv_iconst (v := 2) hx hb dL_law_1055 (by decide) ?_
        refine lv_iadd hx hb dL_law_1056 ?_
        refine va_sld hx hb hX hbl hbA hS hin2 dL_law_1057 ?_
        refine lr_top hv2 ?_
        refine lr_call (w1 := WC) (w2 := WM) (r := r) (σ' := σ') (av := [.int v1, .int v2]) (rest := []) X K h1 h2 hS hIC hdis hgC hl.1 sC0 nC0 rfl (k_X10_ask hIC e1) rfl ml_L_146 im_X10_ask se_X10_ask ini_X10 co_X10_ask hd_X10_ask ⟨(Nat.le_of_ble_eq_true rfl), (Nat.le_of_ble_eq_true rfl)⟩ ⟨(Nat.le_of_ble_eq_true rfl), (Nat.le_of_ble_eq_true rfl)⟩ (Nat.le_of_ble_eq_true rfl) dL_law_1058 rfl (fun H locs h1 h2 hS => ?_)
        refine lv_aload_n hx hb dL_law_1061 rfl (lv_at hl 2 rfl) ?_
        refine lv_aload_n hx hb dL_law_1062 rfl (lv_at hl 0 rfl) ?_
        refine lv_iload_n hx hb dL_law_1063 rfl (lv_at hl 3 rfl) ?_
        refine lv_iconst (v := 1) hx hb dL_law_1064 (by decide) ?_
        refine lv_iadd hx hb dL_law_1065 ?_
        refine va_sld hx hb hX hbl hbA hS hin1 dL_law_1066 ?_
        refine lr_top hv1 ?_
        refine lv_aload_n hx hb dL_law_1067 rfl (lv_at hl 0 rfl) ?_
        refine lv_iload_n hx hb dL_law_1068 rfl (lv_at hl 3 rfl) ?_
        refine lv_iconst (v := 2) hx hb dL_law_1069 (by decide) ?_
        refine lv_iadd hx hb dL_law_1070 ?_
        refine va_sld hx hb hX hbl hbA hS hin2 dL_law_1071 ?_
        refine lr_top hv2 ?_
        refine lr_call (w1 := WM) (w2 := WC) (r := r) (σ' := τ') (av := [.int v1, .int v2]) (rest := [.int r]) X K h2 h1 hS hIM hdis' hgM hl.1 sM0 nM0 rfl (k_X11_ask hIM e2) rfl ml_L_149 im_X11_ask se_X11_ask ini_X11 co_X11_ask hd_X11_ask ⟨(Nat.le_of_ble_eq_true rfl), (Nat.le_of_ble_eq_true rfl)⟩ ⟨(Nat.le_of_ble_eq_true rfl), (Nat.le_of_ble_eq_true rfl)⟩ (Nat.le_of_ble_eq_true rfl) dL_law_1072 rfl (fun H locs h2 h1 hS => ?_)
        exact lv_icmp_eq (tgt := 1149) hx hb dL_law_1075 (by decide) (fun _ => go σ' τ' hinv2 H locs h1 h2 hS) (fun q => absurd rfl q)
      by_cases c32_ : op = (32 : Int32)
      · refine lv_tableIn (tgt := 1080) (off := 1047) hx hb dL_law_33 (by rw [c32_]; decide) (by rw [c32_]; decide) (by rw [c32_]; rfl) (by decide) ?_
        obtain ⟨r, σ', τ', e1, e2, hinv2⟩ := hV_hold σ τ hinv v1
        refine lv_aload_n hx hb dL_law_1080 rfl (lv_at hl 1 rfl) ?_
        refine lv_aload_n hx hb dL_law_1081 rfl (lv_at hl 0 rfl) ?_
        refine lv_iload_n hx hb dL_law_1082 rfl (lv_at hl 3 rfl) ?_
        refine lv_iconst (v := 1) hx hb dL_law_1083 (by decide) ?_
        refine lv_iadd hx hb dL_law_1084 ?_
        refine va_sld hx hb hX hbl hbA hS hin1 dL_law_1085 ?_
        refine lr_top hv1 ?_
        refine lr_call (w1 := WC) (w2 := WM) (r := r) (σ' := σ') (av := [.int v1]) (rest := []) X K h1 h2 hS hIC hdis hgC hl.1 sC0 nC0 rfl (k_X10_hold hIC e1) rfl ml_L_150 im_X10_hold se_X10_hold ini_X10 co_X10_hold hd_X10_hold ⟨(Nat.le_of_ble_eq_true rfl), (Nat.le_of_ble_eq_true rfl)⟩ ⟨(Nat.le_of_ble_eq_true rfl), (Nat.le_of_ble_eq_true rfl)⟩ (Nat.le_of_ble_eq_true rfl) dL_law_1086 rfl (fun H locs h1 h2 hS => ?_)
        refine lv_aload_n hx hb dL_law_1089 rfl (lv_at hl 2 rfl) ?_
        refine lv_aload_n hx hb dL_law_1090 rfl (lv_at hl 0 rfl) ?_
        refine lv_iload_n hx hb dL_law_1091 rfl (lv_at hl 3 rfl) ?_
        refine lv_iconst (v := 1) hx hb dL_law_1092 (by decide) ?_
        refine lv_iadd hx hb dL_law_1093 ?_
        refine va_sld hx hb hX hbl hbA hS hin1 dL_law_1094 ?_
        refine lr_top hv1 ?_
        refine lr_call (w1 := WM) (w2 := WC) (r := r) (σ' := τ') (av := [.int v1]) (rest := [.int r]) X K h2 h1 hS hIM hdis' hgM hl.1 sM0 nM0 rfl (k_X11_hold hIM e2) rfl ml_L_153 im_X11_hold se_X11_hold ini_X11 co_X11_hold hd_X11_hold ⟨(Nat.le_of_ble_eq_true rfl), (Nat.le_of_ble_eq_true rfl)⟩ ⟨(Nat.le_of_ble_eq_true rfl), (Nat.le_of_ble_eq_true rfl)⟩ (Nat.le_of_ble_eq_true rfl) dL_law_1095 rfl (fun H locs h2 h1 hS => ?_)
        exact lv_icmp_eq (tgt := 1149) hx hb dL_law_1098 (by decide) (fun _ => go σ' τ' hinv2 H locs h1 h2 hS) (fun q => absurd rfl q)
      by_cases c33_ : op = (33 : Int32)
      · refine lv_tableIn (tgt := 1103) (off := 1070) hx hb dL_law_33 (by rw [c33_]; decide) (by rw [c33_]; decide) (by rw [c33_]; rfl) (by decide) ?_
        obtain ⟨r, σ', τ', e1, e2, hinv2⟩ := hV_restore σ τ hinv v1
        refine lv_aload_n hx hb dL_law_1103 rfl (lv_at hl 1 rfl) ?_
        refine lv_aload_n hx hb dL_law_1104 rfl (lv_at hl 0 rfl) ?_
        refine lv_iload_n hx hb dL_law_1105 rfl (lv_at hl 3 rfl) ?_
        refine lv_iconst (v := 1) hx hb dL_law_1106 (by decide) ?_
        refine lv_iadd hx hb dL_law_1107 ?_
        refine va_sld hx hb hX hbl hbA hS hin1 dL_law_1108 ?_
        refine lr_top hv1 ?_
        refine lr_call (w1 := WC) (w2 := WM) (r := r) (σ' := σ') (av := [.int v1]) (rest := []) X K h1 h2 hS hIC hdis hgC hl.1 sC0 nC0 rfl (k_X10_restore hIC e1) rfl ml_L_154 im_X10_restore se_X10_restore ini_X10 co_X10_restore hd_X10_restore ⟨(Nat.le_of_ble_eq_true rfl), (Nat.le_of_ble_eq_true rfl)⟩ ⟨(Nat.le_of_ble_eq_true rfl), (Nat.le_of_ble_eq_true rfl)⟩ (Nat.le_of_ble_eq_true rfl) dL_law_1109 rfl (fun H locs h1 h2 hS => ?_)
        refine lv_aload_n hx hb dL_law_1112 rfl (lv_at hl 2 rfl) ?_
        refine lv_aload_n hx hb dL_law_1113 rfl (lv_at hl 0 rfl) ?_
        refine lv_iload_n hx hb dL_law_1114 rfl (lv_at hl 3 rfl) ?_
        refine lv_iconst (v := 1) hx hb dL_law_1115 (by decide) ?_
        refine lv_iadd hx hb dL_law_1116 ?_
        refine va_sld hx hb hX hbl hbA hS hin1 dL_law_1117 ?_
        refine lr_top hv1 ?_
        refine lr_call (w1 := WM) (w2 := WC) (r := r) (σ' := τ') (av := [.int v1]) (rest := [.int r]) X K h2 h1 hS hIM hdis' hgM hl.1 sM0 nM0 rfl (k_X11_restore hIM e2) rfl ml_L_157 im_X11_restore se_X11_restore ini_X11 co_X11_restore hd_X11_restore ⟨(Nat.le_of_ble_eq_true rfl), (Nat.le_of_ble_eq_true rfl)⟩ ⟨(Nat.le_of_ble_eq_true rfl), (Nat.le_of_ble_eq_true rfl)⟩ (Nat.le_of_ble_eq_true rfl) dL_law_1118 rfl (fun H locs h2 h1 hS => ?_)
        exact lv_icmp_eq (tgt := 1149) hx hb dL_law_1121 (by decide) (fun _ => go σ' τ' hinv2 H locs h1 h2 hS) (fun q => absurd rfl q)
      by_cases c34_ : op = (34 : Int32)
      · refine lv_tableIn (tgt := 1126) (off := 1093) hx hb dL_law_33 (by rw [c34_]; decide) (by rw [c34_]; decide) (by rw [c34_]; rfl) (by decide) ?_
        obtain ⟨r, σ', τ', e1, e2, hinv2⟩ := hV_count σ τ hinv v1
        refine lv_aload_n hx hb dL_law_1126 rfl (lv_at hl 1 rfl) ?_
        refine lv_aload_n hx hb dL_law_1127 rfl (lv_at hl 0 rfl) ?_
        refine lv_iload_n hx hb dL_law_1128 rfl (lv_at hl 3 rfl) ?_
        refine lv_iconst (v := 1) hx hb dL_law_1129 (by decide) ?_
        refine lv_iadd hx hb dL_law_1130 ?_
        refine va_sld hx hb hX hbl hbA hS hin1 dL_law_1131 ?_
        refine lr_top hv1 ?_
        refine lr_call (w1 := WC) (w2 := WM) (r := r) (σ' := σ') (av := [.int v1]) (rest := []) X K h1 h2 hS hIC hdis hgC hl.1 sC0 nC0 rfl (k_X10_count hIC e1) rfl ml_L_158 im_X10_count se_X10_count ini_X10 co_X10_count hd_X10_count ⟨(Nat.le_of_ble_eq_true rfl), (Nat.le_of_ble_eq_true rfl)⟩ ⟨(Nat.le_of_ble_eq_true rfl), (Nat.le_of_ble_eq_true rfl)⟩ (Nat.le_of_ble_eq_true rfl) dL_law_1132 rfl (fun H locs h1 h2 hS => ?_)
        refine lv_aload_n hx hb dL_law_1135 rfl (lv_at hl 2 rfl) ?_
        refine lv_aload_n hx hb dL_law_1136 rfl (lv_at hl 0 rfl) ?_
        refine lv_iload_n hx hb dL_law_1137 rfl (lv_at hl 3 rfl) ?_
        refine lv_iconst (v := 1) hx hb dL_law_1138 (by decide) ?_
        refine lv_iadd hx hb dL_law_1139 ?_
        refine va_sld hx hb hX hbl hbA hS hin1 dL_law_1140 ?_
        refine lr_top hv1 ?_
        refine lr_call (w1 := WM) (w2 := WC) (r := r) (σ' := τ') (av := [.int v1]) (rest := [.int r]) X K h2 h1 hS hIM hdis' hgM hl.1 sM0 nM0 rfl (k_X11_count hIM e2) rfl ml_L_161 im_X11_count se_X11_count ini_X11 co_X11_count hd_X11_count ⟨(Nat.le_of_ble_eq_true rfl), (Nat.le_of_ble_eq_true rfl)⟩ ⟨(Nat.le_of_ble_eq_true rfl), (Nat.le_of_ble_eq_true rfl)⟩ (Nat.le_of_ble_eq_true rfl) dL_law_1141 rfl (fun H locs h2 h1 hS => ?_)
        exact lv_icmp_eq (tgt := 1149) hx hb dL_law_1144 (by decide) (fun _ => go σ' τ' hinv2 H locs h1 h2 hS) (fun q => absurd rfl q)
      refine lv_tableOut (tgt := 1149) hx hb dL_law_33 (sw_out (by decide) (by decide) (fun k h1 h2 => ?_)) (by decide) ?_
      · have h3 : k = 0 ∨ k = 1 ∨ k = 2 ∨ k = 3 ∨ k = 4 ∨ k = 5 ∨ k = 6 ∨ k = 7 ∨ k = 8 ∨ k = 9 ∨ k = 10 ∨ k = 11 ∨ k = 12 ∨ k = 13 ∨ k = 14 ∨ k = 15 ∨ k = 16 ∨ k = 17 ∨ k = 18 ∨ k = 19 ∨ k = 20 ∨ k = 21 ∨ k = 22 ∨ k = 23 ∨ k = 24 ∨ k = 25 ∨ k = 26 ∨ k = 27 ∨ k = 28 ∨ k = 29 ∨ k = 30 ∨ k = 31 ∨ k = 32 ∨ k = 33 ∨ k = 34 := by omega
        rcases h3 with rfl | rfl | rfl | rfl | rfl | rfl | rfl | rfl | rfl | rfl | rfl | rfl | rfl | rfl | rfl | rfl | rfl | rfl | rfl | rfl | rfl | rfl | rfl | rfl | rfl | rfl | rfl | rfl | rfl | rfl | rfl | rfl | rfl | rfl | rfl
        · exact c0_
        · exact c1_
        · exact c2_
        · exact c3_
        · exact c4_
        · exact c5_
        · exact c6_
        · exact c7_
        · exact c8_
        · exact c9_
        · exact c10_
        · exact c11_
        · exact c12_
        · exact c13_
        · exact c14_
        · exact c15_
        · exact c16_
        · exact c17_
        · exact c18_
        · exact c19_
        · exact c20_
        · exact c21_
        · exact c22_
        · exact c23_
        · exact c24_
        · exact c25_
        · exact c26_
        · exact c27_
        · exact c28_
        · exact c29_
        · exact c30_
        · exact c31_
        · exact c32_
        · exact c33_
        · exact c34_
      · exact go σ τ hinv H locs h1 h2 hS
