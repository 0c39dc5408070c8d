theorem mh {i : Nat} {α : Type} {ts : List α} {x : α} (h : ts[i]? = some x) : x ∈ ts := List.mem_of_getElem? h
/-- the words that every method here has: the good ones of the tables -/
def aw : List Cond := lw_tbl.filter goodWord
theorem t1 : ∀ x ∈ tables_1_1, x ∈ lw_tbl := fun x h => List.mem_append.mpr (Or.inr (List.mem_append.mpr (Or.inl h)))
theorem a1 {x : Cond} (h : x ∈ tables_1_1) (hg : goodWord x = true) : x ∈ aw := List.mem_filter.mpr ⟨t1 x h, hg⟩
theorem t2 : ∀ x ∈ tables_1_2, x ∈ lw_tbl := fun x h => List.mem_append.mpr (Or.inr (List.mem_append.mpr (Or.inr (List.mem_append.mpr (Or.inl h)))))
theorem a2 {x : Cond} (h : x ∈ tables_1_2) (hg : goodWord x = true) : x ∈ aw := List.mem_filter.mpr ⟨t2 x h, hg⟩
theorem t3 : ∀ x ∈ tables_1_3, x ∈ lw_tbl := fun x h => List.mem_append.mpr (Or.inr (List.mem_append.mpr (Or.inr (List.mem_append.mpr (Or.inr (List.mem_append.mpr (Or.inl h)))))))
theorem a3 {x : Cond} (h : x ∈ tables_1_3) (hg : goodWord x = true) : x ∈ aw := List.mem_filter.mpr ⟨t3 x h, hg⟩
theorem t4 : ∀ x ∈ tables_1_4, x ∈ lw_tbl := fun x h => List.mem_append.mpr (Or.inr (List.mem_append.mpr (Or.inr (List.mem_append.mpr (Or.inr (List.mem_append.mpr (Or.inr (List.mem_append.mpr (Or.inl h)))))))))
theorem a4 {x : Cond} (h : x ∈ tables_1_4) (hg : goodWord x = true) : x ∈ aw := List.mem_filter.mpr ⟨t4 x h, hg⟩
theorem t5 : ∀ x ∈ tables_1_5, x ∈ lw_tbl := fun x h => List.mem_append.mpr (Or.inr (List.mem_append.mpr (Or.inr (List.mem_append.mpr (Or.inr (List.mem_append.mpr (Or.inr (List.mem_append.mpr (Or.inr (List.mem_append.mpr (Or.inl h)))))))))))
theorem a5 {x : Cond} (h : x ∈ tables_1_5) (hg : goodWord x = true) : x ∈ aw := List.mem_filter.mpr ⟨t5 x h, hg⟩
theorem t6 : ∀ x ∈ tables_1_6, x ∈ lw_tbl := fun x h => List.mem_append.mpr (Or.inr (List.mem_append.mpr (Or.inr (List.mem_append.mpr (Or.inr (List.mem_append.mpr (Or.inr (List.mem_append.mpr (Or.inr (List.mem_append.mpr (Or.inr (List.mem_append.mpr (Or.inl h)))))))))))))
theorem a6 {x : Cond} (h : x ∈ tables_1_6) (hg : goodWord x = true) : x ∈ aw := List.mem_filter.mpr ⟨t6 x h, hg⟩
theorem t7 : ∀ x ∈ tables_1_7, x ∈ lw_tbl := fun x h => List.mem_append.mpr (Or.inr (List.mem_append.mpr (Or.inr (List.mem_append.mpr (Or.inr (List.mem_append.mpr (Or.inr (List.mem_append.mpr (Or.inr (List.mem_append.mpr (Or.inr (List.mem_append.mpr (Or.inr (List.mem_append.mpr (Or.inl h)))))))))))))))
theorem a7 {x : Cond} (h : x ∈ tables_1_7) (hg : goodWord x = true) : x ∈ aw := List.mem_filter.mpr ⟨t7 x h, hg⟩
theorem t8 : ∀ x ∈ tables_1_8, x ∈ lw_tbl := fun x h => List.mem_append.mpr (Or.inr (List.mem_append.mpr (Or.inr (List.mem_append.mpr (Or.inr (List.mem_append.mpr (Or.inr (List.mem_append.mpr (Or.inr (List.mem_append.mpr (Or.inr (List.mem_append.mpr (Or.inr (List.mem_append.mpr (Or.inr (h))))))))))))))))
theorem a8 {x : Cond} (h : x ∈ tables_1_8) (hg : goodWord x = true) : x ∈ aw := List.mem_filter.mpr ⟨t8 x h, hg⟩
theorem asel {q : MethodName × Nat} (h : q ∈ lw_privs) : Cond.selects q.1.cls q.1 q.1 ∈ aw := List.mem_filter.mpr ⟨List.mem_append.mpr (Or.inl (List.mem_map.mpr ⟨q, h, rfl⟩)), rfl⟩
theorem p1 : ∀ x ∈ lw_privs_1, x ∈ lw_privs := fun x h => List.mem_append.mpr (Or.inl h)
theorem p2 : ∀ x ∈ lw_privs_2, x ∈ lw_privs := fun x h => List.mem_append.mpr (Or.inr (List.mem_append.mpr (Or.inl h)))
theorem p3 : ∀ x ∈ lw_privs_3, x ∈ lw_privs := fun x h => List.mem_append.mpr (Or.inr (List.mem_append.mpr (Or.inr (List.mem_append.mpr (Or.inl h)))))
theorem p4 : ∀ x ∈ lw_privs_4, x ∈ lw_privs := fun x h => List.mem_append.mpr (Or.inr (List.mem_append.mpr (Or.inr (List.mem_append.mpr (Or.inr (List.mem_append.mpr (Or.inl h)))))))
theorem p5 : ∀ x ∈ lw_privs_5, x ∈ lw_privs := fun x h => List.mem_append.mpr (Or.inr (List.mem_append.mpr (Or.inr (List.mem_append.mpr (Or.inr (List.mem_append.mpr (Or.inr (List.mem_append.mpr (Or.inl h)))))))))
theorem p6 : ∀ x ∈ lw_privs_6, x ∈ lw_privs := fun x h => List.mem_append.mpr (Or.inr (List.mem_append.mpr (Or.inr (List.mem_append.mpr (Or.inr (List.mem_append.mpr (Or.inr (List.mem_append.mpr (Or.inr (List.mem_append.mpr (Or.inl h)))))))))))
theorem p7 : ∀ x ∈ lw_privs_7, x ∈ lw_privs := fun x h => List.mem_append.mpr (Or.inr (List.mem_append.mpr (Or.inr (List.mem_append.mpr (Or.inr (List.mem_append.mpr (Or.inr (List.mem_append.mpr (Or.inr (List.mem_append.mpr (Or.inr (List.mem_append.mpr (Or.inl h)))))))))))))
theorem p8 : ∀ x ∈ lw_privs_8, x ∈ lw_privs := fun x h => List.mem_append.mpr (Or.inr (List.mem_append.mpr (Or.inr (List.mem_append.mpr (Or.inr (List.mem_append.mpr (Or.inr (List.mem_append.mpr (Or.inr (List.mem_append.mpr (Or.inr (List.mem_append.mpr (Or.inr (List.mem_append.mpr (Or.inl h)))))))))))))))
theorem p9 : ∀ x ∈ lw_privs_9, x ∈ lw_privs := fun x h => List.mem_append.mpr (Or.inr (List.mem_append.mpr (Or.inr (List.mem_append.mpr (Or.inr (List.mem_append.mpr (Or.inr (List.mem_append.mpr (Or.inr (List.mem_append.mpr (Or.inr (List.mem_append.mpr (Or.inr (List.mem_append.mpr (Or.inr (List.mem_append.mpr (Or.inl h)))))))))))))))))
theorem p10 : ∀ x ∈ lw_privs_10, x ∈ lw_privs := fun x h => List.mem_append.mpr (Or.inr (List.mem_append.mpr (Or.inr (List.mem_append.mpr (Or.inr (List.mem_append.mpr (Or.inr (List.mem_append.mpr (Or.inr (List.mem_append.mpr (Or.inr (List.mem_append.mpr (Or.inr (List.mem_append.mpr (Or.inr (List.mem_append.mpr (Or.inr (List.mem_append.mpr (Or.inl h)))))))))))))))))))
theorem p11 : ∀ x ∈ lw_privs_11, x ∈ lw_privs := fun x h => List.mem_append.mpr (Or.inr (List.mem_append.mpr (Or.inr (List.mem_append.mpr (Or.inr (List.mem_append.mpr (Or.inr (List.mem_append.mpr (Or.inr (List.mem_append.mpr (Or.inr (List.mem_append.mpr (Or.inr (List.mem_append.mpr (Or.inr (List.mem_append.mpr (Or.inr (List.mem_append.mpr (Or.inr (h))))))))))))))))))))
theorem cl_L_7 : Cond.classLink RL 7 RX10 ∈ aw := a1 (mh (i := 21) rfl) rfl
theorem ml_L_9 : Cond.methodLink RL 9 yX10_init ∈ aw := a1 (mh (i := 23) rfl) rfl
theorem ml_X10_1 : Cond.methodLink RX10 1 ⟨"java/lang/Object", "<init>", "()V"⟩ ∈ aw := a1 (mh (i := 26) rfl) rfl
theorem cl_X10_7 : Cond.classLink RX10 7 RX7 ∈ aw := a1 (mh (i := 29) rfl) rfl
theorem mn_X10_9 : Cond.methodLinkNest RX10 9 yX7_init RX10 ∈ lw_tbl := t1 _ (mh (i := 31) rfl)
theorem ml_X7_3 : Cond.methodLink RX7 3 ⟨"java/lang/Object", "<init>", "()V"⟩ ∈ aw := a1 (mh (i := 34) rfl) rfl
theorem fl_X7_9 : Cond.fieldLink RX7 9 RX7 "bytes" "[B" ∈ aw := a1 (mh (i := 35) rfl) rfl
theorem fn_X10_88 : Cond.fieldLinkNest RX10 88 RX7 "length" "I" RX10 ∈ lw_tbl := t1 _ (mh (i := 36) rfl)
theorem fl_X7_15 : Cond.fieldLink RX7 15 RX7 "length" "I" ∈ aw := a1 (mh (i := 37) rfl) rfl
theorem fn_X5_41 : Cond.fieldLinkNest RX5 41 RX7 "length" "I" RX10 ∈ lw_tbl := t1 _ (mh (i := 38) rfl)
theorem cl_X10_16 : Cond.classLink RX10 16 RX8 ∈ aw := a1 (mh (i := 45) rfl) rfl
theorem mn_X10_18 : Cond.methodLinkNest RX10 18 yX8_init RX10 ∈ lw_tbl := t1 _ (mh (i := 47) rfl)
theorem ml_X8_3 : Cond.methodLink RX8 3 ⟨"java/lang/Object", "<init>", "()V"⟩ ∈ aw := a1 (mh (i := 50) rfl) rfl
theorem ml_X8_28 : Cond.methodLink RX8 28 yX8_clear ∈ aw := a1 (mh (i := 51) rfl) rfl
theorem ml_X8_44 : Cond.methodLink RX8 44 yX8_beginLaw ∈ aw := a1 (mh (i := 55) rfl) rfl
theorem ml_X8_48 : Cond.methodLink RX8 48 yX8_addStep ∈ aw := a1 (mh (i := 59) rfl) rfl
theorem ml_X8_52 : Cond.methodLink RX8 52 yX8_addShareOfDeed ∈ aw := a1 (mh (i := 63) rfl) rfl
theorem fl_X8_9 : Cond.fieldLink RX8 9 RX8 "steps" "[I" ∈ aw := a1 (mh (i := 67) rfl) rfl
theorem fn_X1_82 : Cond.fieldLinkNest RX1 82 RX8 "steps" "[I" RX10 ∈ lw_tbl := t1 _ (mh (i := 68) rfl)
theorem fl_X8_15 : Cond.fieldLink RX8 15 RX8 "starts" "[I" ∈ aw := a1 (mh (i := 69) rfl) rfl
theorem fn_X1_76 : Cond.fieldLinkNest RX1 76 RX8 "starts" "[I" RX10 ∈ lw_tbl := t1 _ (mh (i := 70) rfl)
theorem fl_X8_18 : Cond.fieldLink RX8 18 RX8 "deeds" "[I" ∈ aw := a1 (mh (i := 71) rfl) rfl
theorem fn_X10_120 : Cond.fieldLinkNest RX10 120 RX8 "deeds" "[I" RX10 ∈ lw_tbl := t1 _ (mh (i := 72) rfl)
theorem fn_X1_134 : Cond.fieldLinkNest RX1 134 RX8 "deeds" "[I" RX10 ∈ lw_tbl := t1 _ (mh (i := 73) rfl)
theorem fl_X8_21 : Cond.fieldLink RX8 21 RX8 "purses" "[I" ∈ aw := a1 (mh (i := 74) rfl) rfl
theorem fn_X6_27 : Cond.fieldLinkNest RX6 27 RX8 "purses" "[I" RX10 ∈ lw_tbl := t1 _ (mh (i := 75) rfl)
theorem fl_X8_24 : Cond.fieldLink RX8 24 RX8 "names" "[J" ∈ aw := a1 (mh (i := 76) rfl) rfl
theorem fl_X8_31 : Cond.fieldLink RX8 31 RX8 "length" "I" ∈ aw := a1 (mh (i := 77) rfl) rfl
theorem fn_X1_79 : Cond.fieldLinkNest RX1 79 RX8 "length" "I" RX10 ∈ lw_tbl := t1 _ (mh (i := 78) rfl)
theorem fl_X8_35 : Cond.fieldLink RX8 35 RX8 "cases" "I" ∈ aw := a1 (mh (i := 79) rfl) rfl
theorem fn_X6_28 : Cond.fieldLinkNest RX6 28 RX8 "cases" "I" RX10 ∈ lw_tbl := t1 _ (mh (i := 80) rfl)
theorem fn_X4_100 : Cond.fieldLinkNest RX4 100 RX8 "cases" "I" RX10 ∈ lw_tbl := t1 _ (mh (i := 81) rfl)
theorem fn_X10_288 : Cond.fieldLinkNest RX10 288 RX8 "cases" "I" RX10 ∈ lw_tbl := t1 _ (mh (i := 82) rfl)
theorem fl_X8_38 : Cond.fieldLink RX8 38 RX8 "before" "I" ∈ aw := a1 (mh (i := 83) rfl) rfl
theorem fn_X6_38 : Cond.fieldLinkNest RX6 38 RX8 "before" "I" RX10 ∈ lw_tbl := t1 _ (mh (i := 84) rfl)
theorem fn_X4_55 : Cond.fieldLinkNest RX4 55 RX8 "before" "I" RX10 ∈ lw_tbl := t1 _ (mh (i := 85) rfl)
theorem fl_X8_41 : Cond.fieldLink RX8 41 RX8 "seed" "I" ∈ aw := a1 (mh (i := 86) rfl) rfl
theorem fn_X4_58 : Cond.fieldLinkNest RX4 58 RX8 "seed" "I" RX10 ∈ lw_tbl := t1 _ (mh (i := 87) rfl)
theorem fn_X3_105 : Cond.fieldLinkNest RX3 105 RX8 "seed" "I" RX10 ∈ lw_tbl := t1 _ (mh (i := 88) rfl)
theorem fn_X10_194 : Cond.fieldLinkNest RX10 194 RX8 "seed" "I" RX10 ∈ lw_tbl := t1 _ (mh (i := 89) rfl)
theorem cl_X10_23 : Cond.classLink RX10 23 RX4 ∈ aw := a1 (mh (i := 111) rfl) rfl
theorem mn_X10_25 : Cond.methodLinkNest RX10 25 yX4_init RX10 ∈ lw_tbl := t1 _ (mh (i := 113) rfl)
theorem ml_X4_3 : Cond.methodLink RX4 3 ⟨"java/lang/Object", "<init>", "()V"⟩ ∈ aw := a1 (mh (i := 116) rfl) rfl
theorem cl_X4_9 : Cond.classLink RX4 9 RX8 ∈ aw := a1 (mh (i := 117) rfl) rfl
theorem mn_X4_11 : Cond.methodLinkNest RX4 11 yX8_init RX10 ∈ lw_tbl := t1 _ (mh (i := 118) rfl)
theorem cl_X4_18 : Cond.classLink RX4 18 RX5 ∈ aw := a1 (mh (i := 119) rfl) rfl
theorem mn_X4_20 : Cond.methodLinkNest RX4 20 yX5_init RX10 ∈ lw_tbl := t1 _ (mh (i := 121) rfl)
theorem ml_X5_3 : Cond.methodLink RX5 3 ⟨"java/lang/Object", "<init>", "()V"⟩ ∈ aw := a1 (mh (i := 124) rfl) rfl
theorem fl_X5_22 : Cond.fieldLink RX5 22 RX5 "tape" "LCaseBefore$Tape;" ∈ aw := a1 (mh (i := 125) rfl) rfl
theorem fl_X5_9 : Cond.fieldLink RX5 9 RX5 "kinds" "[I" ∈ aw := a1 (mh (i := 126) rfl) rfl
theorem fn_X4_93 : Cond.fieldLinkNest RX4 93 RX5 "kinds" "[I" RX10 ∈ lw_tbl := t1 _ (mh (i := 127) rfl)
theorem fl_X5_15 : Cond.fieldLink RX5 15 RX5 "starts" "[I" ∈ aw := a1 (mh (i := 128) rfl) rfl
theorem fn_X4_83 : Cond.fieldLinkNest RX4 83 RX5 "starts" "[I" RX10 ∈ lw_tbl := t1 _ (mh (i := 129) rfl)
theorem fl_X5_18 : Cond.fieldLink RX5 18 RX5 "values" "[J" ∈ aw := a1 (mh (i := 130) rfl) rfl
theorem fn_X4_96 : Cond.fieldLinkNest RX4 96 RX5 "values" "[J" RX10 ∈ lw_tbl := t1 _ (mh (i := 131) rfl)
theorem fl_X5_26 : Cond.fieldLink RX5 26 RX5 "next" "I" ∈ aw := a1 (mh (i := 132) rfl) rfl
theorem fl_X5_33 : Cond.fieldLink RX5 33 RX5 "value" "J" ∈ aw := a1 (mh (i := 133) rfl) rfl
theorem fl_X4_23 : Cond.fieldLink RX4 23 RX4 "scanner" "LCaseBefore$Scanner;" ∈ aw := a1 (mh (i := 147) rfl) rfl
theorem fl_X4_12 : Cond.fieldLink RX4 12 RX4 "draft" "LCaseBefore$Text;" ∈ aw := a1 (mh (i := 148) rfl) rfl
theorem fn_X10_100 : Cond.fieldLinkNest RX10 100 RX4 "draft" "LCaseBefore$Text;" RX10 ∈ lw_tbl := t1 _ (mh (i := 149) rfl)
theorem fl_X4_77 : Cond.fieldLink RX4 77 RX4 "taken" "I" ∈ aw := a1 (mh (i := 150) rfl) rfl
theorem fl_X4_33 : Cond.fieldLink RX4 33 RX4 "fault" "I" ∈ aw := a1 (mh (i := 151) rfl) rfl
theorem fl_X4_87 : Cond.fieldLink RX4 87 RX4 "faultPlace" "I" ∈ aw := a1 (mh (i := 152) rfl) rfl
theorem fn_X10_99 : Cond.fieldLinkNest RX10 99 RX4 "faultPlace" "I" RX10 ∈ lw_tbl := t1 _ (mh (i := 153) rfl)
theorem fl_X4_80 : Cond.fieldLink RX4 80 RX4 "lateFault" "I" ∈ aw := a1 (mh (i := 154) rfl) rfl
theorem fl_X4_90 : Cond.fieldLink RX4 90 RX4 "latePlace" "I" ∈ aw := a1 (mh (i := 155) rfl) rfl
theorem cl_X10_32 : Cond.classLink RX10 32 RX1 ∈ aw := a1 (mh (i := 171) rfl) rfl
theorem mn_X10_34 : Cond.methodLinkNest RX10 34 yX1_init RX10 ∈ lw_tbl := t1 _ (mh (i := 173) rfl)
theorem ml_X1_3 : Cond.methodLink RX1 3 ⟨"java/lang/Object", "<init>", "()V"⟩ ∈ aw := a1 (mh (i := 176) rfl) rfl
theorem fl_X1_21 : Cond.fieldLink RX1 21 RX1 "text" "LCaseBefore$Text;" ∈ aw := a1 (mh (i := 177) rfl) rfl
theorem fl_X1_9 : Cond.fieldLink RX1 9 RX1 "vars" "[I" ∈ aw := a1 (mh (i := 178) rfl) rfl
theorem fl_X1_15 : Cond.fieldLink RX1 15 RX1 "stack" "[I" ∈ aw := a1 (mh (i := 179) rfl) rfl
theorem fl_X1_18 : Cond.fieldLink RX1 18 RX1 "verdicts" "[I" ∈ aw := a1 (mh (i := 180) rfl) rfl
theorem cl_X10_41 : Cond.classLink RX10 41 RX2 ∈ aw := a1 (mh (i := 190) rfl) rfl
theorem mn_X10_43 : Cond.methodLinkNest RX10 43 yX2_init RX10 ∈ lw_tbl := t1 _ (mh (i := 192) rfl)
theorem ml_X2_3 : Cond.methodLink RX2 3 ⟨"java/lang/Object", "<init>", "()V"⟩ ∈ aw := a1 (mh (i := 195) rfl) rfl
theorem fl_X2_24 : Cond.fieldLink RX2 24 RX2 "judge" "LCaseBefore$Judge;" ∈ aw := a1 (mh (i := 196) rfl) rfl
theorem fl_X2_9 : Cond.fieldLink RX2 9 RX2 "sufferings" "[I" ∈ aw := a1 (mh (i := 197) rfl) rfl
theorem fl_X2_15 : Cond.fieldLink RX2 15 RX2 "dues" "[I" ∈ aw := a1 (mh (i := 198) rfl) rfl
theorem fl_X2_18 : Cond.fieldLink RX2 18 RX2 "row" "[I" ∈ aw := a1 (mh (i := 199) rfl) rfl
theorem fl_X2_21 : Cond.fieldLink RX2 21 RX2 "bestRow" "[I" ∈ aw := a1 (mh (i := 200) rfl) rfl
theorem fl_X2_43 : Cond.fieldLink RX2 43 RX2 "size" "I" ∈ aw := a1 (mh (i := 201) rfl) rfl
theorem fn_X9_53 : Cond.fieldLinkNest RX9 53 RX2 "size" "I" RX10 ∈ lw_tbl := t1 _ (mh (i := 202) rfl)
theorem fl_X2_84 : Cond.fieldLink RX2 84 RX2 "bestMuch" "I" ∈ aw := a1 (mh (i := 203) rfl) rfl
theorem fn_X10_217 : Cond.fieldLinkNest RX10 217 RX2 "bestMuch" "I" RX10 ∈ lw_tbl := t1 _ (mh (i := 204) rfl)
theorem fl_X2_78 : Cond.fieldLink RX2 78 RX2 "bestWays" "I" ∈ aw := a1 (mh (i := 205) rfl) rfl
theorem fn_X10_220 : Cond.fieldLinkNest RX10 220 RX2 "bestWays" "I" RX10 ∈ lw_tbl := t1 _ (mh (i := 206) rfl)
theorem cl_X10_50 : Cond.classLink RX10 50 RX3 ∈ aw := a1 (mh (i := 224) rfl) rfl
theorem mn_X10_52 : Cond.methodLinkNest RX10 52 yX3_init RX10 ∈ lw_tbl := t1 _ (mh (i := 226) rfl)
theorem ml_X3_3 : Cond.methodLink RX3 3 ⟨"java/lang/Object", "<init>", "()V"⟩ ∈ aw := a1 (mh (i := 229) rfl) rfl
theorem cl_X3_9 : Cond.classLink RX3 9 RX6 ∈ aw := a1 (mh (i := 230) rfl) rfl
theorem mn_X3_11 : Cond.methodLinkNest RX3 11 yX6_init RX10 ∈ lw_tbl := t1 _ (mh (i := 232) rfl)
theorem ml_X6_3 : Cond.methodLink RX6 3 ⟨"java/lang/Object", "<init>", "()V"⟩ ∈ aw := a1 (mh (i := 235) rfl) rfl
theorem fl_X6_9 : Cond.fieldLink RX6 9 RX6 "list" "[I" ∈ aw := a1 (mh (i := 236) rfl) rfl
theorem fn_X1_121 : Cond.fieldLinkNest RX1 121 RX6 "list" "[I" RX10 ∈ lw_tbl := t1 _ (mh (i := 237) rfl)
theorem fl_X6_15 : Cond.fieldLink RX6 15 RX6 "purses" "[I" ∈ aw := a1 (mh (i := 238) rfl) rfl
theorem fn_X1_31 : Cond.fieldLinkNest RX1 31 RX6 "purses" "[I" RX10 ∈ lw_tbl := t1 _ (mh (i := 239) rfl)
theorem fn_X10_124 : Cond.fieldLinkNest RX10 124 RX6 "purses" "[I" RX10 ∈ lw_tbl := t2 _ (mh (i := 0) rfl)
theorem fn_X3_95 : Cond.fieldLinkNest RX3 95 RX6 "purses" "[I" RX10 ∈ lw_tbl := t2 _ (mh (i := 1) rfl)
theorem fl_X6_18 : Cond.fieldLink RX6 18 RX6 "suffered" "[I" ∈ aw := a2 (mh (i := 2) rfl) rfl
theorem fn_X10_134 : Cond.fieldLinkNest RX10 134 RX6 "suffered" "[I" RX10 ∈ lw_tbl := t2 _ (mh (i := 3) rfl)
theorem fn_X1_131 : Cond.fieldLinkNest RX1 131 RX6 "suffered" "[I" RX10 ∈ lw_tbl := t2 _ (mh (i := 4) rfl)
theorem fl_X6_32 : Cond.fieldLink RX6 32 RX6 "listed" "I" ∈ aw := a2 (mh (i := 5) rfl) rfl
theorem fn_X1_40 : Cond.fieldLinkNest RX1 40 RX6 "listed" "I" RX10 ∈ lw_tbl := t2 _ (mh (i := 6) rfl)
theorem fn_X2_28 : Cond.fieldLinkNest RX2 28 RX6 "listed" "I" RX10 ∈ lw_tbl := t2 _ (mh (i := 7) rfl)
theorem fn_X3_55 : Cond.fieldLinkNest RX3 55 RX6 "listed" "I" RX10 ∈ lw_tbl := t2 _ (mh (i := 8) rfl)
theorem fn_X10_208 : Cond.fieldLinkNest RX10 208 RX6 "listed" "I" RX10 ∈ lw_tbl := t2 _ (mh (i := 9) rfl)
theorem fl_X6_35 : Cond.fieldLink RX6 35 RX6 "pleading" "I" ∈ aw := a2 (mh (i := 10) rfl) rfl
theorem fn_X1_137 : Cond.fieldLinkNest RX1 137 RX6 "pleading" "I" RX10 ∈ lw_tbl := t2 _ (mh (i := 11) rfl)
theorem fn_X10_298 : Cond.fieldLinkNest RX10 298 RX6 "pleading" "I" RX10 ∈ lw_tbl := t2 _ (mh (i := 12) rfl)
theorem fl_X6_41 : Cond.fieldLink RX6 41 RX6 "before" "I" ∈ aw := a2 (mh (i := 13) rfl) rfl
theorem fn_X1_93 : Cond.fieldLinkNest RX1 93 RX6 "before" "I" RX10 ∈ lw_tbl := t2 _ (mh (i := 14) rfl)
theorem fn_X10_263 : Cond.fieldLinkNest RX10 263 RX6 "before" "I" RX10 ∈ lw_tbl := t2 _ (mh (i := 15) rfl)
theorem fn_X1_36 : Cond.fieldLinkNest RX1 36 RX6 "session" "I" RX10 ∈ lw_tbl := t2 _ (mh (i := 16) rfl)
theorem fl_X6_42 : Cond.fieldLink RX6 42 RX6 "session" "I" ∈ aw := a2 (mh (i := 17) rfl) rfl
theorem fn_X10_201 : Cond.fieldLinkNest RX10 201 RX6 "session" "I" RX10 ∈ lw_tbl := t2 _ (mh (i := 18) rfl)
theorem fl_X6_45 : Cond.fieldLink RX6 45 RX6 "judged" "I" ∈ aw := a2 (mh (i := 19) rfl) rfl
theorem fn_X1_47 : Cond.fieldLinkNest RX1 47 RX6 "judged" "I" RX10 ∈ lw_tbl := t2 _ (mh (i := 20) rfl)
theorem fn_X10_306 : Cond.fieldLinkNest RX10 306 RX6 "judged" "I" RX10 ∈ lw_tbl := t2 _ (mh (i := 21) rfl)
theorem fl_X3_18 : Cond.fieldLink RX3 18 RX3 "text" "LCaseBefore$Text;" ∈ aw := a2 (mh (i := 39) rfl) rfl
theorem fl_X3_22 : Cond.fieldLink RX3 22 RX3 "judge" "LCaseBefore$Judge;" ∈ aw := a2 (mh (i := 40) rfl) rfl
theorem fl_X3_12 : Cond.fieldLink RX3 12 RX3 "trial" "LCaseBefore$State;" ∈ aw := a2 (mh (i := 41) rfl) rfl
theorem fl_X3_26 : Cond.fieldLink RX3 26 RX3 "who" "I" ∈ aw := a2 (mh (i := 42) rfl) rfl
theorem fl_X3_30 : Cond.fieldLink RX3 30 RX3 "much" "I" ∈ aw := a2 (mh (i := 43) rfl) rfl
theorem cl_X10_59 : Cond.classLink RX10 59 RX9 ∈ aw := a2 (mh (i := 55) rfl) rfl
theorem mn_X10_61 : Cond.methodLinkNest RX10 61 yX9_init RX10 ∈ lw_tbl := t2 _ (mh (i := 57) rfl)
theorem ml_X9_3 : Cond.methodLink RX9 3 ⟨"java/lang/Object", "<init>", "()V"⟩ ∈ aw := a2 (mh (i := 60) rfl) rfl
theorem fl_X9_9 : Cond.fieldLink RX9 9 RX9 "places" "[I" ∈ aw := a2 (mh (i := 61) rfl) rfl
theorem fl_X9_15 : Cond.fieldLink RX9 15 RX9 "values" "[I" ∈ aw := a2 (mh (i := 62) rfl) rfl
theorem fl_X9_18 : Cond.fieldLink RX9 18 RX9 "sos" "[Z" ∈ aw := a2 (mh (i := 63) rfl) rfl
theorem fl_X9_22 : Cond.fieldLink RX9 22 RX9 "reaching" "[I" ∈ aw := a2 (mh (i := 64) rfl) rfl
theorem fl_X9_25 : Cond.fieldLink RX9 25 RX9 "size" "I" ∈ aw := a2 (mh (i := 65) rfl) rfl
theorem fn_X10_112 : Cond.fieldLinkNest RX10 112 RX9 "size" "I" RX10 ∈ lw_tbl := t2 _ (mh (i := 66) rfl)
theorem fl_X9_29 : Cond.fieldLink RX9 29 RX9 "fitting" "I" ∈ aw := a2 (mh (i := 67) rfl) rfl
theorem fn_X10_277 : Cond.fieldLinkNest RX10 277 RX9 "fitting" "I" RX10 ∈ lw_tbl := t2 _ (mh (i := 68) rfl)
theorem fl_X9_32 : Cond.fieldLink RX9 32 RX9 "firstFitting" "I" ∈ aw := a2 (mh (i := 69) rfl) rfl
theorem fn_X10_280 : Cond.fieldLinkNest RX10 280 RX9 "firstFitting" "I" RX10 ∈ lw_tbl := t2 _ (mh (i := 70) rfl)
theorem cl_X10_66 : Cond.classLink RX10 66 RX6 ∈ aw := a2 (mh (i := 87) rfl) rfl
theorem mn_X10_68 : Cond.methodLinkNest RX10 68 yX6_init RX10 ∈ lw_tbl := t2 _ (mh (i := 88) rfl)
theorem cl_X10_73 : Cond.classLink RX10 73 RX0 ∈ aw := a2 (mh (i := 89) rfl) rfl
theorem mn_X10_75 : Cond.methodLinkNest RX10 75 yX0_init RX10 ∈ lw_tbl := t2 _ (mh (i := 91) rfl)
theorem ml_X0_3 : Cond.methodLink RX0 3 ⟨"java/lang/Object", "<init>", "()V"⟩ ∈ aw := a2 (mh (i := 94) rfl) rfl
theorem cl_X0_9 : Cond.classLink RX0 9 RX6 ∈ aw := a2 (mh (i := 95) rfl) rfl
theorem mn_X0_17 : Cond.methodLinkNest RX0 17 yX6_init RX10 ∈ lw_tbl := t2 _ (mh (i := 97) rfl)
theorem fl_X0_11 : Cond.fieldLink RX0 11 RX0 "states" "[LCaseBefore$State;" ∈ aw := a2 (mh (i := 98) rfl) rfl
theorem fl_X0_32 : Cond.fieldLink RX0 32 RX0 "size" "I" ∈ aw := a2 (mh (i := 99) rfl) rfl
theorem fn_X10_109 : Cond.fieldLinkNest RX10 109 RX0 "size" "I" RX10 ∈ lw_tbl := t2 _ (mh (i := 100) rfl)
theorem fl_X0_18 : Cond.fieldLink RX0 18 RX0 "next" "I" ∈ aw := a2 (mh (i := 101) rfl) rfl
theorem fl_X10_10 : Cond.fieldLink RX10 10 RX10 "tape" "LCaseBefore$Tape;" ∈ aw := a2 (mh (i := 109) rfl) rfl
theorem fl_X10_19 : Cond.fieldLink RX10 19 RX10 "text" "LCaseBefore$Text;" ∈ aw := a2 (mh (i := 110) rfl) rfl
theorem fl_X10_28 : Cond.fieldLink RX10 28 RX10 "reader" "LCaseBefore$Reader;" ∈ aw := a2 (mh (i := 111) rfl) rfl
theorem fl_X10_37 : Cond.fieldLink RX10 37 RX10 "judge" "LCaseBefore$Judge;" ∈ aw := a2 (mh (i := 112) rfl) rfl
theorem fl_X10_46 : Cond.fieldLink RX10 46 RX10 "orders" "LCaseBefore$Orders;" ∈ aw := a2 (mh (i := 113) rfl) rfl
theorem fl_X10_55 : Cond.fieldLink RX10 55 RX10 "outlook" "LCaseBefore$Outlook;" ∈ aw := a2 (mh (i := 114) rfl) rfl
theorem fl_X10_62 : Cond.fieldLink RX10 62 RX10 "told" "LCaseBefore$Told;" ∈ aw := a2 (mh (i := 115) rfl) rfl
theorem fl_X10_69 : Cond.fieldLink RX10 69 RX10 "now" "LCaseBefore$State;" ∈ aw := a2 (mh (i := 116) rfl) rfl
theorem fl_X10_76 : Cond.fieldLink RX10 76 RX10 "history" "LCaseBefore$History;" ∈ aw := a2 (mh (i := 117) rfl) rfl
theorem fl_X10_80 : Cond.fieldLink RX10 80 RX10 "slots" "[LCaseBefore$State;" ∈ aw := a2 (mh (i := 118) rfl) rfl
theorem fl_X10_113 : Cond.fieldLink RX10 113 RX10 "heldSlots" "I" ∈ aw := a2 (mh (i := 119) rfl) rfl
theorem fl_X10_84 : Cond.fieldLink RX10 84 RX10 "faultPlace" "I" ∈ aw := a2 (mh (i := 120) rfl) rfl
theorem ml_L_13 : Cond.methodLink RL 13 yX10_feed ∈ aw := a2 (mh (i := 146) rfl) rfl
theorem mn_X10_91 : Cond.methodLinkNest RX10 91 yX7_putWord RX10 ∈ lw_tbl := t2 _ (mh (i := 150) rfl)
theorem ml_L_18 : Cond.methodLink RL 18 yX10_back ∈ aw := a2 (mh (i := 154) rfl) rfl
theorem ml_L_23 : Cond.methodLink RL 23 yX10_read ∈ aw := a2 (mh (i := 158) rfl) rfl
theorem mn_X10_95 : Cond.methodLinkNest RX10 95 yX4_readTape RX10 ∈ lw_tbl := t2 _ (mh (i := 162) rfl)
theorem mn_X4_27 : Cond.methodLinkNest RX4 27 yX5_scanTape RX10 ∈ lw_tbl := t2 _ (mh (i := 166) rfl)
theorem ml_X5_30 : Cond.methodLink RX5 30 yX5_passBlanks ∈ aw := a2 (mh (i := 170) rfl) rfl
theorem mn_X5_46 : Cond.methodLinkNest RX5 46 yX7_byteAt RX10 ∈ lw_tbl := t2 _ (mh (i := 174) rfl)
theorem ml_X5_50 : Cond.methodLink RX5 50 yX5_isBlank ∈ aw := a2 (mh (i := 178) rfl) rfl
theorem ml_X5_37 : Cond.methodLink RX5 37 yX5_scanToken ∈ aw := a2 (mh (i := 181) rfl) rfl
theorem ml_X5_54 : Cond.methodLink RX5 54 yX5_isLetter ∈ aw := a2 (mh (i := 185) rfl) rfl
theorem ml_X5_57 : Cond.methodLink RX5 57 yX5_scanLetters ∈ aw := a2 (mh (i := 188) rfl) rfl
theorem kl_X5_73 : Cond.constantLong RX5 73 (32 : Int64) ∈ aw := a2 (mh (i := 192) rfl) rfl
theorem ml_X5_75 : Cond.methodLink RX5 75 yX5_kindOfWord ∈ aw := a2 (mh (i := 193) rfl) rfl
theorem ml_X5_80 : Cond.methodLink RX5 80 yX5_isWord ∈ aw := a2 (mh (i := 197) rfl) rfl
theorem ml_X5_86 : Cond.methodLink RX5 86 yJ0_length_8abf5 ∈ aw := a2 (mh (i := 202) rfl) rfl
theorem ml_J0_335 : Cond.methodLink RJ0 335 yJ0_coder_7d493 ∈ aw := a2 (mh (i := 206) rfl) rfl
theorem fl_J0_38 : Cond.fieldLink RJ0 38 RJ0 "COMPACT_STRINGS" "Z" ∈ aw := a2 (mh (i := 210) rfl) rfl
theorem ml_X5_88 : Cond.methodLink RX5 88 yJ0_charAt_5068e ∈ aw := a2 (mh (i := 212) rfl) rfl
theorem ml_J0_492 : Cond.methodLink RJ0 492 yJ0_isLatin1_aae02 ∈ aw := a2 (mh (i := 216) rfl) rfl
theorem ml_J0_495 : Cond.methodLink RJ0 495 yJ1_charAt_3b067 ∈ aw := a2 (mh (i := 220) rfl) rfl
theorem ml_J1_9 : Cond.methodLink RJ1 9 yJ0_checkIndex_df160 ∈ aw := a2 (mh (i := 223) rfl) rfl
theorem fl_J0_1053 : Cond.fieldLink RJ0 1053 RJ3 "SIOOBE_FORMATTER" "Ljava/util/function/BiFunction;" ∈ aw := a2 (mh (i := 226) rfl) rfl
theorem ml_J0_1059 : Cond.methodLink RJ0 1059 yJ3_checkIndex_8e157 ∈ aw := a2 (mh (i := 228) rfl) rfl
theorem ml_J0_498 : Cond.methodLink RJ0 498 yJ2_charAt_3b067 ∈ aw := a2 (mh (i := 231) rfl) rfl
theorem ml_J2_67 : Cond.methodLink RJ2 67 yJ2_checkIndex_2214a ∈ aw := a2 (mh (i := 234) rfl) rfl
theorem ml_J2_48 : Cond.methodLink RJ2 48 yJ2_length_9d52b ∈ aw := a2 (mh (i := 237) rfl) rfl
theorem ml_J2_414 : Cond.methodLink RJ2 414 yJ0_checkIndex_df160 ∈ aw := a3 (mh (i := 0) rfl) rfl
theorem ml_J2_71 : Cond.methodLink RJ2 71 yJ2_getChar_3b067 ∈ aw := a3 (mh (i := 1) rfl) rfl
theorem fl_J2_44 : Cond.fieldLink RJ2 44 RJ2 "$assertionsDisabled" "Z" ∈ aw := a3 (mh (i := 4) rfl) rfl
theorem fl_J2_59 : Cond.fieldLink RJ2 59 RJ2 "HI_BYTE_SHIFT" "I" ∈ aw := a3 (mh (i := 6) rfl) rfl
theorem fl_J2_63 : Cond.fieldLink RJ2 63 RJ2 "LO_BYTE_SHIFT" "I" ∈ aw := a3 (mh (i := 8) rfl) rfl
theorem ml_X5_60 : Cond.methodLink RX5 60 yX5_isDigit ∈ aw := a3 (mh (i := 10) rfl) rfl
theorem ml_X5_63 : Cond.methodLink RX5 63 yX5_scanDigits ∈ aw := a3 (mh (i := 13) rfl) rfl
theorem kl_X5_78 : Cond.constantLong RX5 78 (10 : Int64) ∈ aw := a3 (mh (i := 17) rfl) rfl
theorem ml_X5_68 : Cond.methodLink RX5 68 yJ0_indexOf_0f7a4 ∈ aw := a3 (mh (i := 19) rfl) rfl
theorem ml_J0_633 : Cond.methodLink RJ0 633 yJ0_indexOf_7cf53 ∈ aw := a3 (mh (i := 23) rfl) rfl
theorem ml_J0_505 : Cond.methodLink RJ0 505 yJ0_length_8abf5 ∈ aw := a3 (mh (i := 27) rfl) rfl
theorem ml_J0_637 : Cond.methodLink RJ0 637 yJ1_indexOf_4cfef ∈ aw := a3 (mh (i := 28) rfl) rfl
theorem ml_J1_88 : Cond.methodLink RJ1 88 yJ1_canEncode_9a6ad ∈ aw := a3 (mh (i := 31) rfl) rfl
theorem ml_J1_92 : Cond.methodLink RJ1 92 yJ9_max_7cf53 ∈ aw := a3 (mh (i := 34) rfl) rfl
theorem ml_J1_38 : Cond.methodLink RJ1 38 yJ9_min_7cf53 ∈ aw := a3 (mh (i := 37) rfl) rfl
theorem ml_J1_95 : Cond.methodLink RJ1 95 yJ1_indexOfChar_4cfef ∈ aw := a3 (mh (i := 40) rfl) rfl
theorem ml_J0_640 : Cond.methodLink RJ0 640 yJ2_indexOf_4cfef ∈ aw := a3 (mh (i := 43) rfl) rfl
theorem ml_J2_224 : Cond.methodLink RJ2 224 yJ9_max_7cf53 ∈ aw := a3 (mh (i := 46) rfl) rfl
theorem ml_J2_183 : Cond.methodLink RJ2 183 yJ9_min_7cf53 ∈ aw := a3 (mh (i := 47) rfl) rfl
theorem kc_J2_227 : Cond.constant RJ2 227 (65536 : Int32) ∈ aw := a3 (mh (i := 48) rfl) rfl
theorem ml_J2_228 : Cond.methodLink RJ2 228 yJ2_indexOfChar_4cfef ∈ aw := a3 (mh (i := 49) rfl) rfl
theorem ml_J2_96 : Cond.methodLink RJ2 96 yJ2_checkBoundsBeginEnd_d044e ∈ aw := a3 (mh (i := 52) rfl) rfl
theorem ml_J2_241 : Cond.methodLink RJ2 241 yJ0_checkBoundsBeginEnd_23922 ∈ aw := a3 (mh (i := 55) rfl) rfl
theorem ml_J0_1062 : Cond.methodLink RJ0 1062 yJ3_checkFromToIndex_8c36e ∈ aw := a3 (mh (i := 58) rfl) rfl
theorem ml_J2_244 : Cond.methodLink RJ2 244 yJ2_indexOfCharUnsafe_4cfef ∈ aw := a3 (mh (i := 61) rfl) rfl
theorem ml_J2_232 : Cond.methodLink RJ2 232 yJ2_indexOfSupplementary_4cfef ∈ aw := a3 (mh (i := 64) rfl) rfl
theorem ml_J2_164 : Cond.methodLink RJ2 164 yJ11_isValidCodePoint_9a6ad ∈ aw := a3 (mh (i := 67) rfl) rfl
theorem ml_J2_157 : Cond.methodLink RJ2 157 yJ11_highSurrogate_5068e ∈ aw := a3 (mh (i := 70) rfl) rfl
theorem kc_J11_110 : Cond.constant RJ11 110 (55232 : Int32) ∈ aw := a3 (mh (i := 73) rfl) rfl
theorem ml_J2_161 : Cond.methodLink RJ2 161 yJ11_lowSurrogate_5068e ∈ aw := a3 (mh (i := 74) rfl) rfl
theorem kc_J11_76 : Cond.constant RJ11 76 (56320 : Int32) ∈ aw := a3 (mh (i := 77) rfl) rfl
theorem ml_X4_30 : Cond.methodLink RX4 30 yX4_begin ∈ aw := a3 (mh (i := 78) rfl) rfl
theorem mn_X4_74 : Cond.methodLinkNest RX4 74 yX8_clear RX10 ∈ lw_tbl := t3 _ (mh (i := 82) rfl)
theorem ml_X4_37 : Cond.methodLink RX4 37 yX4_isNext ∈ aw := a3 (mh (i := 83) rfl) rfl
theorem ml_X4_41 : Cond.methodLink RX4 41 yX4_kind ∈ aw := a3 (mh (i := 87) rfl) rfl
theorem ml_X4_45 : Cond.methodLink RX4 45 yX4_readCase ∈ aw := a3 (mh (i := 91) rfl) rfl
theorem ml_X4_65 : Cond.methodLink RX4 65 yX4_fail ∈ aw := a3 (mh (i := 95) rfl) rfl
theorem ml_X4_48 : Cond.methodLink RX4 48 yX4_take ∈ aw := a3 (mh (i := 99) rfl) rfl
theorem ml_X4_103 : Cond.methodLink RX4 103 yX4_value ∈ aw := a3 (mh (i := 103) rfl) rfl
theorem mn_X4_107 : Cond.methodLinkNest RX4 107 yX8_isNamed RX10 ∈ lw_tbl := t3 _ (mh (i := 107) rfl)
theorem ml_X4_111 : Cond.methodLink RX4 111 yX4_failLate ∈ aw := a3 (mh (i := 111) rfl) rfl
theorem ml_X4_68 : Cond.methodLink RX4 68 yX4_expect ∈ aw := a3 (mh (i := 115) rfl) rfl
theorem ml_X4_51 : Cond.methodLink RX4 51 yX4_readNumber ∈ aw := a3 (mh (i := 119) rfl) rfl
theorem mn_X4_114 : Cond.methodLinkNest RX4 114 yX8_addCase RX10 ∈ lw_tbl := t3 _ (mh (i := 123) rfl)
theorem ml_X4_61 : Cond.methodLink RX4 61 yX4_readLaw ∈ aw := a3 (mh (i := 127) rfl) rfl
theorem mn_X4_118 : Cond.methodLinkNest RX4 118 yX8_beginLaw RX10 ∈ lw_tbl := t3 _ (mh (i := 131) rfl)
theorem ml_X4_121 : Cond.methodLink RX4 121 yX4_readSum ∈ aw := a3 (mh (i := 132) rfl) rfl
theorem ml_X4_131 : Cond.methodLink RX4 131 yX4_readProduct ∈ aw := a3 (mh (i := 136) rfl) rfl
theorem ml_X4_134 : Cond.methodLink RX4 134 yX4_readUnit ∈ aw := a3 (mh (i := 140) rfl) rfl
theorem mn_X4_124 : Cond.methodLinkNest RX4 124 yX8_addStep RX10 ∈ lw_tbl := t3 _ (mh (i := 144) rfl)
theorem mn_X4_128 : Cond.methodLinkNest RX4 128 yX8_leadHere RX10 ∈ lw_tbl := t3 _ (mh (i := 145) rfl)
theorem ml_X4_71 : Cond.methodLink RX4 71 yX4_findFirstFault ∈ aw := a3 (mh (i := 149) rfl) rfl
theorem mn_X10_103 : Cond.methodLinkNest RX10 103 yX8_copyFrom RX10 ∈ lw_tbl := t3 _ (mh (i := 153) rfl)
theorem ml_X8_55 : Cond.methodLink RX8 55 ⟨"java/lang/System", "arraycopy", "(Ljava/lang/Object;ILjava/lang/Object;II)V"⟩ ∈ aw := a3 (mh (i := 157) rfl) rfl
theorem mn_X10_106 : Cond.methodLinkNest RX10 106 yX6_begin RX10 ∈ lw_tbl := t3 _ (mh (i := 160) rfl)
theorem mn_X6_21 : Cond.methodLinkNest RX6 21 yX8_has RX10 ∈ lw_tbl := t3 _ (mh (i := 164) rfl)
theorem ml_L_28 : Cond.methodLink RL 28 yX10_place ∈ aw := a3 (mh (i := 168) rfl) rfl
theorem ml_L_32 : Cond.methodLink RL 32 yX10_docket ∈ aw := a3 (mh (i := 172) rfl) rfl
theorem mn_X10_116 : Cond.methodLinkNest RX10 116 yX8_has RX10 ∈ lw_tbl := t3 _ (mh (i := 176) rfl)
theorem mn_X10_127 : Cond.methodLinkNest RX10 127 yX6_isListed RX10 ∈ lw_tbl := t3 _ (mh (i := 177) rfl)
theorem ml_X6_54 : Cond.methodLink RX6 54 yX6_placeOf ∈ aw := a3 (mh (i := 181) rfl) rfl
theorem mn_X10_130 : Cond.methodLinkNest RX10 130 yX6_placeOf RX10 ∈ lw_tbl := t3 _ (mh (i := 185) rfl)
theorem mn_X10_137 : Cond.methodLinkNest RX10 137 yX6_isPleading RX10 ∈ lw_tbl := t3 _ (mh (i := 186) rfl)
theorem mn_X10_140 : Cond.methodLinkNest RX10 140 yX1_dueAsListed RX10 ∈ lw_tbl := t3 _ (mh (i := 190) rfl)
theorem ml_X1_72 : Cond.methodLink RX1 72 yX1_seatAsListed ∈ aw := a3 (mh (i := 194) rfl) rfl
theorem mn_X1_50 : Cond.methodLinkNest RX1 50 yX6_placeOf RX10 ∈ lw_tbl := t3 _ (mh (i := 198) rfl)
theorem ml_X1_53 : Cond.methodLink RX1 53 yX1_seat ∈ aw := a3 (mh (i := 199) rfl) rfl
theorem mn_X1_25 : Cond.methodLinkNest RX1 25 yX8_deedOf RX10 ∈ lw_tbl := t3 _ (mh (i := 203) rfl)
theorem mn_X1_43 : Cond.methodLinkNest RX1 43 yX6_isPleading RX10 ∈ lw_tbl := t3 _ (mh (i := 207) rfl)
theorem mn_X1_57 : Cond.methodLinkNest RX1 57 yX6_aheadOf RX10 ∈ lw_tbl := t3 _ (mh (i := 208) rfl)
theorem ml_X6_58 : Cond.methodLink RX6 58 yX6_docketAt ∈ aw := a3 (mh (i := 212) rfl) rfl
theorem ml_X1_96 : Cond.methodLink RX1 96 yX1_sentence ∈ aw := a3 (mh (i := 216) rfl) rfl
theorem ml_X1_60 : Cond.methodLink RX1 60 yX1_lawFor ∈ aw := a3 (mh (i := 220) rfl) rfl
theorem ml_X1_69 : Cond.methodLink RX1 69 yJ9_max_7cf53 ∈ aw := a3 (mh (i := 224) rfl) rfl
theorem ml_X1_85 : Cond.methodLink RX1 85 yX1_reckon ∈ aw := a3 (mh (i := 225) rfl) rfl
theorem ml_X1_64 : Cond.methodLink RX1 64 yJ9_min_7cf53 ∈ aw := a3 (mh (i := 228) rfl) rfl
theorem mn_X10_144 : Cond.methodLinkNest RX10 144 yX1_chanceOfAdjourning RX10 ∈ lw_tbl := t3 _ (mh (i := 229) rfl)
theorem ml_L_37 : Cond.methodLink RL 37 yX10_suffers ∈ aw := a3 (mh (i := 233) rfl) rfl
theorem mn_X10_147 : Cond.methodLinkNest RX10 147 yX6_aheadOf RX10 ∈ lw_tbl := t3 _ (mh (i := 237) rfl)
theorem mn_X10_150 : Cond.methodLinkNest RX10 150 yX1_suffering RX10 ∈ lw_tbl := t3 _ (mh (i := 238) rfl)
theorem ml_X1_89 : Cond.methodLink RX1 89 yX1_kindOf ∈ aw := a4 (mh (i := 2) rfl) rfl
theorem mn_X10_154 : Cond.methodLinkNest RX10 154 yX1_kindOf RX10 ∈ lw_tbl := t4 _ (mh (i := 6) rfl)
theorem ml_L_41 : Cond.methodLink RL 41 yX10_tells ∈ aw := a4 (mh (i := 7) rfl) rfl
theorem mn_X10_157 : Cond.methodLinkNest RX10 157 yX1_seatAsListed RX10 ∈ lw_tbl := t4 _ (mh (i := 11) rfl)
theorem mn_X10_161 : Cond.methodLinkNest RX10 161 yX1_sentence RX10 ∈ lw_tbl := t4 _ (mh (i := 12) rfl)
theorem ml_L_46 : Cond.methodLink RL 46 yX10_at ∈ aw := a4 (mh (i := 13) rfl) rfl
theorem mn_X10_165 : Cond.methodLinkNest RX10 165 yX6_docketAt RX10 ∈ lw_tbl := t4 _ (mh (i := 17) rfl)
theorem ml_L_50 : Cond.methodLink RL 50 yX10_change ∈ aw := a4 (mh (i := 18) rfl) rfl
theorem mn_X10_168 : Cond.methodLinkNest RX10 168 yX0_remember RX10 ∈ lw_tbl := t4 _ (mh (i := 22) rfl)
theorem ml_X0_22 : Cond.methodLink RX0 22 yJ9_floorMod_7cf53 ∈ aw := a4 (mh (i := 26) rfl) rfl
theorem mn_X0_28 : Cond.methodLinkNest RX0 28 yX6_copyFrom RX10 ∈ lw_tbl := t4 _ (mh (i := 29) rfl)
theorem ml_X6_48 : Cond.methodLink RX6 48 ⟨"java/lang/System", "arraycopy", "(Ljava/lang/Object;ILjava/lang/Object;II)V"⟩ ∈ aw := a4 (mh (i := 33) rfl) rfl
theorem ml_X0_35 : Cond.methodLink RX0 35 yJ9_min_7cf53 ∈ aw := a4 (mh (i := 34) rfl) rfl
theorem mn_X10_172 : Cond.methodLinkNest RX10 172 yX6_swap RX10 ∈ lw_tbl := t4 _ (mh (i := 35) rfl)
theorem ml_L_55 : Cond.methodLink RL 55 yX10_go ∈ aw := a4 (mh (i := 39) rfl) rfl
theorem mn_X10_176 : Cond.methodLinkNest RX10 176 yX6_move RX10 ∈ lw_tbl := t4 _ (mh (i := 43) rfl)
theorem ml_L_59 : Cond.methodLink RL 59 yX10_off ∈ aw := a4 (mh (i := 47) rfl) rfl
theorem mn_X10_179 : Cond.methodLinkNest RX10 179 yX6_strike RX10 ∈ lw_tbl := t4 _ (mh (i := 51) rfl)
theorem ml_X6_61 : Cond.methodLink RX6 61 yX6_isListed ∈ aw := a4 (mh (i := 55) rfl) rfl
theorem ml_X6_64 : Cond.methodLink RX6 64 yX6_move ∈ aw := a4 (mh (i := 56) rfl) rfl
theorem ml_L_64 : Cond.methodLink RL 64 yX10_on ∈ aw := a4 (mh (i := 57) rfl) rfl
theorem mn_X10_182 : Cond.methodLinkNest RX10 182 yX6_append RX10 ∈ lw_tbl := t4 _ (mh (i := 61) rfl)
theorem ml_L_68 : Cond.methodLink RL 68 yX10_plead ∈ aw := a4 (mh (i := 65) rfl) rfl
theorem mn_X10_185 : Cond.methodLinkNest RX10 185 yX6_behindOf RX10 ∈ lw_tbl := t4 _ (mh (i := 69) rfl)
theorem mn_X10_188 : Cond.methodLinkNest RX10 188 yX8_deedOf RX10 ∈ lw_tbl := t4 _ (mh (i := 73) rfl)
theorem mn_X10_191 : Cond.methodLinkNest RX10 191 yX6_letPlead RX10 ∈ lw_tbl := t4 _ (mh (i := 74) rfl)
theorem ml_L_72 : Cond.methodLink RL 72 yX10_sessions ∈ aw := a4 (mh (i := 78) rfl) rfl
theorem mn_X10_197 : Cond.methodLinkNest RX10 197 yX1_goThrough RX10 ∈ lw_tbl := t4 _ (mh (i := 82) rfl)
theorem ml_X1_112 : Cond.methodLink RX1 112 yX1_sitOnce ∈ aw := a4 (mh (i := 86) rfl) rfl
theorem mn_X1_99 : Cond.methodLinkNest RX1 99 yX6_docketAt RX10 ∈ lw_tbl := t4 _ (mh (i := 90) rfl)
theorem ml_X1_102 : Cond.methodLink RX1 102 yX1_suffering ∈ aw := a4 (mh (i := 91) rfl) rfl
theorem ml_X1_115 : Cond.methodLink RX1 115 yX1_lot ∈ aw := a4 (mh (i := 92) rfl) rfl
theorem ml_X1_140 : Cond.methodLink RX1 140 yX1_mix ∈ aw := a4 (mh (i := 95) rfl) rfl
theorem kc_X1_143 : Cond.constant RX1 143 (1103515245 : Int32) ∈ aw := a4 (mh (i := 98) rfl) rfl
theorem ml_X1_118 : Cond.methodLink RX1 118 yX1_chanceOfAdjourning ∈ aw := a4 (mh (i := 99) rfl) rfl
theorem mn_X1_124 : Cond.methodLinkNest RX1 124 yX6_append RX10 ∈ lw_tbl := t4 _ (mh (i := 100) rfl)
theorem mn_X1_128 : Cond.methodLinkNest RX1 128 yX8_has RX10 ∈ lw_tbl := t4 _ (mh (i := 101) rfl)
theorem ml_L_76 : Cond.methodLink RL 76 yX10_undo ∈ aw := a4 (mh (i := 102) rfl) rfl
theorem mn_X10_204 : Cond.methodLinkNest RX10 204 yX0_takeBack RX10 ∈ lw_tbl := t4 _ (mh (i := 106) rfl)
theorem ml_L_81 : Cond.methodLink RL 81 yX10_best ∈ aw := a4 (mh (i := 110) rfl) rfl
theorem mn_X10_211 : Cond.methodLinkNest RX10 211 yX2_layFirst RX10 ∈ lw_tbl := t4 _ (mh (i := 114) rfl)
theorem mn_X2_54 : Cond.methodLinkNest RX2 54 yX6_isListed RX10 ∈ lw_tbl := t4 _ (mh (i := 118) rfl)
theorem ml_X2_50 : Cond.methodLink RX2 50 yX2_layTables ∈ aw := a4 (mh (i := 119) rfl) rfl
theorem ml_X2_58 : Cond.methodLink RX2 58 yX2_spot ∈ aw := a4 (mh (i := 123) rfl) rfl
theorem mn_X2_62 : Cond.methodLinkNest RX2 62 yX1_suffering RX10 ∈ lw_tbl := t4 _ (mh (i := 126) rfl)
theorem mn_X2_68 : Cond.methodLinkNest RX2 68 yX1_due RX10 ∈ lw_tbl := t4 _ (mh (i := 127) rfl)
theorem mn_X10_214 : Cond.methodLinkNest RX10 214 yX2_seekBest RX10 ∈ lw_tbl := t4 _ (mh (i := 131) rfl)
theorem ml_X2_81 : Cond.methodLink RX2 81 yX2_muchFor ∈ aw := a4 (mh (i := 135) rfl) rfl
theorem ml_X2_97 : Cond.methodLink RX2 97 yX2_sufferingAt ∈ aw := a4 (mh (i := 139) rfl) rfl
theorem ml_X2_71 : Cond.methodLink RX2 71 yX2_spotAt ∈ aw := a4 (mh (i := 143) rfl) rfl
theorem ml_X2_40 : Cond.methodLink RX2 40 yJ9_max_7cf53 ∈ aw := a4 (mh (i := 147) rfl) rfl
theorem ml_X2_100 : Cond.methodLink RX2 100 yX2_dueAt ∈ aw := a4 (mh (i := 148) rfl) rfl
theorem ml_X2_103 : Cond.methodLink RX2 103 yJ9_abs_0f7a4 ∈ aw := a4 (mh (i := 152) rfl) rfl
theorem ml_X2_87 : Cond.methodLink RX2 87 ⟨"java/lang/System", "arraycopy", "(Ljava/lang/Object;ILjava/lang/Object;II)V"⟩ ∈ aw := a4 (mh (i := 155) rfl) rfl
theorem ml_X2_93 : Cond.methodLink RX2 93 yX2_stepOn ∈ aw := a4 (mh (i := 156) rfl) rfl
theorem ml_X2_74 : Cond.methodLink RX2 74 yX2_exchange ∈ aw := a4 (mh (i := 160) rfl) rfl
theorem mn_X10_223 : Cond.methodLinkNest RX10 223 yX2_bestAt RX10 ∈ lw_tbl := t4 _ (mh (i := 164) rfl)
theorem ml_L_85 : Cond.methodLink RL 85 yX10_traders ∈ aw := a4 (mh (i := 168) rfl) rfl
theorem mn_X10_226 : Cond.methodLinkNest RX10 226 yX2_layAsListed RX10 ∈ lw_tbl := t4 _ (mh (i := 172) rfl)
theorem ml_X2_34 : Cond.methodLink RX2 34 yJ9_min_7cf53 ∈ aw := a4 (mh (i := 176) rfl) rfl
theorem mn_X2_46 : Cond.methodLinkNest RX2 46 yX6_docketAt RX10 ∈ lw_tbl := t4 _ (mh (i := 177) rfl)
theorem mn_X10_229 : Cond.methodLinkNest RX10 229 yX2_tradersOf RX10 ∈ lw_tbl := t4 _ (mh (i := 178) rfl)
theorem ml_X2_106 : Cond.methodLink RX2 106 yX2_placeInRow ∈ aw := a4 (mh (i := 182) rfl) rfl
theorem ml_X2_109 : Cond.methodLink RX2 109 yX2_isTrade ∈ aw := a4 (mh (i := 186) rfl) rfl
theorem ml_L_89 : Cond.methodLink RL 89 yX10_gain ∈ aw := a4 (mh (i := 190) rfl) rfl
theorem kc_X10_232 : Cond.constant RX10 232 (-100000 : Int32) ∈ aw := a4 (mh (i := 194) rfl) rfl
theorem mn_X10_233 : Cond.methodLinkNest RX10 233 yX3_gainOfSwap RX10 ∈ lw_tbl := t4 _ (mh (i := 195) rfl)
theorem mn_X3_33 : Cond.methodLinkNest RX3 33 yX6_copyFrom RX10 ∈ lw_tbl := t4 _ (mh (i := 199) rfl)
theorem mn_X3_37 : Cond.methodLinkNest RX3 37 yX6_swap RX10 ∈ lw_tbl := t4 _ (mh (i := 200) rfl)
theorem mn_X3_41 : Cond.methodLinkNest RX3 41 yX1_allSuffering RX10 ∈ lw_tbl := t4 _ (mh (i := 201) rfl)
theorem ml_X1_105 : Cond.methodLink RX1 105 yX1_sufferingAt ∈ aw := a4 (mh (i := 205) rfl) rfl
theorem ml_L_93 : Cond.methodLink RL 93 yX10_behind ∈ aw := a4 (mh (i := 209) rfl) rfl
theorem ml_L_97 : Cond.methodLink RL 97 yX10_rests ∈ aw := a4 (mh (i := 213) rfl) rfl
theorem mn_X10_237 : Cond.methodLinkNest RX10 237 yX2_countResting RX10 ∈ lw_tbl := t4 _ (mh (i := 217) rfl)
theorem ml_X2_113 : Cond.methodLink RX2 113 yX2_isResting ∈ aw := a4 (mh (i := 221) rfl) rfl
theorem ml_L_101 : Cond.methodLink RL 101 yX10_settles ∈ aw := a4 (mh (i := 225) rfl) rfl
theorem mn_X10_240 : Cond.methodLinkNest RX10 240 yX2_countTrades RX10 ∈ lw_tbl := t4 _ (mh (i := 229) rfl)
theorem ml_X2_116 : Cond.methodLink RX2 116 yX2_tradeLowest ∈ aw := a4 (mh (i := 233) rfl) rfl
theorem ml_X2_119 : Cond.methodLink RX2 119 yX2_tradersOf ∈ aw := a4 (mh (i := 237) rfl) rfl
theorem ml_X2_122 : Cond.methodLink RX2 122 yJ6_numberOfTrailingZeros_0f7a4 ∈ aw := a4 (mh (i := 238) rfl) rfl
theorem kc_J6_264 : Cond.constant RJ6 264 (65536 : Int32) ∈ aw := a5 (mh (i := 1) rfl) rfl
theorem ml_L_105 : Cond.methodLink RL 105 yX10_shunned ∈ aw := a5 (mh (i := 2) rfl) rfl
theorem mn_X10_243 : Cond.methodLinkNest RX10 243 yX3_seekShunned RX10 ∈ lw_tbl := t5 _ (mh (i := 6) rfl)
theorem mn_X3_47 : Cond.methodLinkNest RX3 47 yX6_isListed RX10 ∈ lw_tbl := t5 _ (mh (i := 10) rfl)
theorem ml_X3_51 : Cond.methodLink RX3 51 yX3_doomsBehind ∈ aw := a5 (mh (i := 11) rfl) rfl
theorem mn_X3_58 : Cond.methodLinkNest RX3 58 yX6_docketAt RX10 ∈ lw_tbl := t5 _ (mh (i := 15) rfl)
theorem mn_X3_62 : Cond.methodLinkNest RX3 62 yX6_aheadOf RX10 ∈ lw_tbl := t5 _ (mh (i := 16) rfl)
theorem mn_X3_65 : Cond.methodLinkNest RX3 65 yX1_seat RX10 ∈ lw_tbl := t5 _ (mh (i := 17) rfl)
theorem mn_X3_69 : Cond.methodLinkNest RX3 69 yX8_deedOf RX10 ∈ lw_tbl := t5 _ (mh (i := 18) rfl)
theorem mn_X3_74 : Cond.methodLinkNest RX3 74 yX1_sentence RX10 ∈ lw_tbl := t5 _ (mh (i := 19) rfl)
theorem mn_X10_246 : Cond.methodLinkNest RX10 246 yX3_answer RX10 ∈ lw_tbl := t5 _ (mh (i := 20) rfl)
theorem ml_L_109 : Cond.methodLink RL 109 yX10_buyers ∈ aw := a5 (mh (i := 24) rfl) rfl
theorem mn_X10_249 : Cond.methodLinkNest RX10 249 yX3_buyersOf RX10 ∈ lw_tbl := t5 _ (mh (i := 28) rfl)
theorem mn_X3_78 : Cond.methodLinkNest RX3 78 yX6_isPleading RX10 ∈ lw_tbl := t5 _ (mh (i := 32) rfl)
theorem ml_X3_81 : Cond.methodLink RX3 81 yX3_isBuyer ∈ aw := a5 (mh (i := 33) rfl) rfl
theorem mn_X3_85 : Cond.methodLinkNest RX3 85 yX6_letPlead RX10 ∈ lw_tbl := t5 _ (mh (i := 37) rfl)
theorem mn_X3_89 : Cond.methodLinkNest RX3 89 yX1_sufferingAt RX10 ∈ lw_tbl := t5 _ (mh (i := 38) rfl)
theorem mn_X3_92 : Cond.methodLinkNest RX3 92 yX8_has RX10 ∈ lw_tbl := t5 _ (mh (i := 39) rfl)
theorem ml_L_113 : Cond.methodLink RL 113 yX10_lighter ∈ aw := a5 (mh (i := 40) rfl) rfl
theorem mn_X10_253 : Cond.methodLinkNest RX10 253 yX3_seekLighter RX10 ∈ lw_tbl := t5 _ (mh (i := 44) rfl)
theorem mn_X3_99 : Cond.methodLinkNest RX3 99 yX6_strike RX10 ∈ lw_tbl := t5 _ (mh (i := 48) rfl)
theorem ml_L_117 : Cond.methodLink RL 117 yX10_furthest ∈ aw := a5 (mh (i := 49) rfl) rfl
theorem mn_X10_256 : Cond.methodLinkNest RX10 256 yX3_seekFurthest RX10 ∈ lw_tbl := t5 _ (mh (i := 53) rfl)
theorem mn_X3_102 : Cond.methodLinkNest RX3 102 yX6_move RX10 ∈ lw_tbl := t5 _ (mh (i := 57) rfl)
theorem ml_L_121 : Cond.methodLink RL 121 yX10_then ∈ aw := a5 (mh (i := 58) rfl) rfl
theorem mn_X10_259 : Cond.methodLinkNest RX10 259 yX3_inSessions RX10 ∈ lw_tbl := t5 _ (mh (i := 62) rfl)
theorem mn_X3_108 : Cond.methodLinkNest RX3 108 yX1_goThrough RX10 ∈ lw_tbl := t5 _ (mh (i := 66) rfl)
theorem ml_L_125 : Cond.methodLink RL 125 yX10_listIn ∈ aw := a5 (mh (i := 67) rfl) rfl
theorem ml_L_129 : Cond.methodLink RL 129 yX10_year ∈ aw := a5 (mh (i := 71) rfl) rfl
theorem mn_X10_266 : Cond.methodLinkNest RX10 266 yX3_seedsThatKeep RX10 ∈ lw_tbl := t5 _ (mh (i := 75) rfl)
theorem ml_L_133 : Cond.methodLink RL 133 yX10_tell ∈ aw := a5 (mh (i := 79) rfl) rfl
theorem mn_X10_269 : Cond.methodLinkNest RX10 269 yX9_add RX10 ∈ lw_tbl := t5 _ (mh (i := 83) rfl)
theorem ml_L_138 : Cond.methodLink RL 138 yX10_forget ∈ aw := a5 (mh (i := 87) rfl) rfl
theorem ml_L_142 : Cond.methodLink RL 142 yX10_fits ∈ aw := a5 (mh (i := 91) rfl) rfl
theorem mn_X10_273 : Cond.methodLinkNest RX10 273 yX9_seekFitting RX10 ∈ lw_tbl := t5 _ (mh (i := 95) rfl)
theorem ml_X9_35 : Cond.methodLink RX9 35 yX9_isFitting ∈ aw := a5 (mh (i := 99) rfl) rfl
theorem mn_X9_54 : Cond.methodLinkNest RX9 54 yX2_sufferingAt RX10 ∈ lw_tbl := t5 _ (mh (i := 103) rfl)
theorem mn_X9_39 : Cond.methodLinkNest RX9 39 yX2_rowNumber RX10 ∈ lw_tbl := t5 _ (mh (i := 104) rfl)
theorem ml_X9_45 : Cond.methodLink RX9 45 yX9_addReaching ∈ aw := a5 (mh (i := 108) rfl) rfl
theorem mn_X9_49 : Cond.methodLinkNest RX9 49 yX2_stepOn RX10 ∈ lw_tbl := t5 _ (mh (i := 112) rfl)
theorem ml_L_146 : Cond.methodLink RL 146 yX10_ask ∈ aw := a5 (mh (i := 113) rfl) rfl
theorem mn_X10_283 : Cond.methodLinkNest RX10 283 yX9_placeToAsk RX10 ∈ lw_tbl := t5 _ (mh (i := 117) rfl)
theorem ml_X9_58 : Cond.methodLink RX9 58 yJ9_max_7cf53 ∈ aw := a5 (mh (i := 121) rfl) rfl
theorem ml_L_150 : Cond.methodLink RL 150 yX10_hold ∈ aw := a5 (mh (i := 122) rfl) rfl
theorem mn_X10_286 : Cond.methodLinkNest RX10 286 yX6_copyFrom RX10 ∈ lw_tbl := t5 _ (mh (i := 126) rfl)
theorem ml_L_154 : Cond.methodLink RL 154 yX10_restore ∈ aw := a5 (mh (i := 127) rfl) rfl
theorem ml_L_158 : Cond.methodLink RL 158 yX10_count ∈ aw := a5 (mh (i := 131) rfl) rfl
theorem mn_X10_291 : Cond.methodLinkNest RX10 291 yX1_allSuffering RX10 ∈ lw_tbl := t5 _ (mh (i := 135) rfl)
theorem ml_X10_294 : Cond.methodLink RX10 294 yX10_added ∈ aw := a5 (mh (i := 136) rfl) rfl
theorem ml_X10_301 : Cond.methodLink RX10 301 yJ6_bitCount_0f7a4 ∈ aw := a5 (mh (i := 139) rfl) rfl
theorem kc_J6_265 : Cond.constant RJ6 265 (1431655765 : Int32) ∈ aw := a5 (mh (i := 142) rfl) rfl
theorem kc_J6_266 : Cond.constant RJ6 266 (858993459 : Int32) ∈ aw := a5 (mh (i := 143) rfl) rfl
theorem kc_J6_267 : Cond.constant RJ6 267 (252645135 : Int32) ∈ aw := a5 (mh (i := 144) rfl) rfl
theorem ml_X10_309 : Cond.methodLink RX10 309 yX10_isAtRest ∈ aw := a5 (mh (i := 145) rfl) rfl
theorem mn_X10_325 : Cond.methodLinkNest RX10 325 yX2_isResting RX10 ∈ lw_tbl := t5 _ (mh (i := 149) rfl)
theorem mn_X10_313 : Cond.methodLinkNest RX10 313 yX1_worstSuffering RX10 ∈ lw_tbl := t5 _ (mh (i := 150) rfl)
theorem ml_X10_316 : Cond.methodLink RX10 316 yX10_unlisted ∈ aw := a5 (mh (i := 154) rfl) rfl
theorem mn_X10_319 : Cond.methodLinkNest RX10 319 yX1_allDue RX10 ∈ lw_tbl := t5 _ (mh (i := 158) rfl)
theorem ml_X1_109 : Cond.methodLink RX1 109 yX1_dueAsListed ∈ aw := a5 (mh (i := 162) rfl) rfl
theorem ml_X10_322 : Cond.methodLink RX10 322 yX10_spared ∈ aw := a5 (mh (i := 163) rfl) rfl
theorem cl_L_10 : Cond.classLink RL 10 RX11 ∈ aw := a5 (mh (i := 167) rfl) rfl
theorem ml_L_12 : Cond.methodLink RL 12 yX11_init ∈ aw := a5 (mh (i := 169) rfl) rfl
theorem ml_X11_7 : Cond.methodLink RX11 7 ⟨"java/lang/Object", "<init>", "()V"⟩ ∈ aw := a5 (mh (i := 172) rfl) rfl
theorem ml_X11_131 : Cond.methodLink RX11 131 yX11_plain ∈ aw := a5 (mh (i := 173) rfl) rfl
theorem ml_X11_135 : Cond.methodLink RX11 135 yX11_letters ∈ aw := a5 (mh (i := 177) rfl) rfl
theorem ml_X11_139 : Cond.methodLink RX11 139 yX11_appends ∈ aw := a5 (mh (i := 180) rfl) rfl
theorem kl_X11_158 : Cond.constantLong RX11 158 (27 : Int64) ∈ aw := a5 (mh (i := 183) rfl) rfl
theorem ml_X11_143 : Cond.methodLink RX11 143 yX11_begins ∈ aw := a5 (mh (i := 184) rfl) rfl
theorem ml_X11_146 : Cond.methodLink RX11 146 yX11_keepsRow ∈ aw := a5 (mh (i := 188) rfl) rfl
theorem fl_X11_13 : Cond.fieldLink RX11 13 RX11 "tape" "[B" ∈ aw := a5 (mh (i := 192) rfl) rfl
theorem fl_X11_149 : Cond.fieldLink RX11 149 RX11 "taped" "I" ∈ aw := a5 (mh (i := 193) rfl) rfl
theorem fl_X11_17 : Cond.fieldLink RX11 17 RX11 "text" "[B" ∈ aw := a5 (mh (i := 194) rfl) rfl
theorem fl_X11_155 : Cond.fieldLink RX11 155 RX11 "size" "I" ∈ aw := a5 (mh (i := 195) rfl) rfl
theorem fl_X11_20 : Cond.fieldLink RX11 20 RX11 "tKind" "[I" ∈ aw := a5 (mh (i := 196) rfl) rfl
theorem fl_X11_24 : Cond.fieldLink RX11 24 RX11 "tPlace" "[I" ∈ aw := a5 (mh (i := 197) rfl) rfl
theorem fl_X11_27 : Cond.fieldLink RX11 27 RX11 "tValue" "[I" ∈ aw := a5 (mh (i := 198) rfl) rfl
theorem fl_X11_30 : Cond.fieldLink RX11 30 RX11 "tName" "[J" ∈ aw := a5 (mh (i := 199) rfl) rfl
theorem fl_X11_34 : Cond.fieldLink RX11 34 RX11 "keys" "[J" ∈ aw := a5 (mh (i := 200) rfl) rfl
theorem fl_X11_160 : Cond.fieldLink RX11 160 RX11 "tokens" "I" ∈ aw := a5 (mh (i := 201) rfl) rfl
theorem fl_X11_185 : Cond.fieldLink RX11 185 RX11 "t" "I" ∈ aw := a5 (mh (i := 202) rfl) rfl
theorem fl_X11_209 : Cond.fieldLink RX11 209 RX11 "open" "I" ∈ aw := a5 (mh (i := 203) rfl) rfl
theorem fl_X11_182 : Cond.fieldLink RX11 182 RX11 "fault" "I" ∈ aw := a5 (mh (i := 204) rfl) rfl
theorem fl_X11_188 : Cond.fieldLink RX11 188 RX11 "faultPlace" "I" ∈ aw := a5 (mh (i := 205) rfl) rfl
theorem fl_X11_191 : Cond.fieldLink RX11 191 RX11 "worst" "I" ∈ aw := a5 (mh (i := 206) rfl) rfl
theorem fl_X11_194 : Cond.fieldLink RX11 194 RX11 "worstPlace" "I" ∈ aw := a5 (mh (i := 207) rfl) rfl
theorem fl_X11_37 : Cond.fieldLink RX11 37 RX11 "place" "I" ∈ aw := a5 (mh (i := 208) rfl) rfl
theorem fl_X11_212 : Cond.fieldLink RX11 212 RX11 "live" "I" ∈ aw := a5 (mh (i := 209) rfl) rfl
theorem fl_X11_215 : Cond.fieldLink RX11 215 RX11 "side" "I" ∈ aw := a5 (mh (i := 210) rfl) rfl
theorem fl_X11_218 : Cond.fieldLink RX11 218 RX11 "names" "I" ∈ aw := a5 (mh (i := 211) rfl) rfl
theorem fl_X11_40 : Cond.fieldLink RX11 40 RX11 "nameOf" "[J" ∈ aw := a5 (mh (i := 212) rfl) rfl
theorem fl_X11_43 : Cond.fieldLink RX11 43 RX11 "cases" "[I" ∈ aw := a5 (mh (i := 213) rfl) rfl
theorem fl_X11_46 : Cond.fieldLink RX11 46 RX11 "deedOf" "[I" ∈ aw := a5 (mh (i := 214) rfl) rfl
theorem fl_X11_49 : Cond.fieldLink RX11 49 RX11 "firstPurse" "[I" ∈ aw := a5 (mh (i := 215) rfl) rfl
theorem fl_X11_52 : Cond.fieldLink RX11 52 RX11 "firstBefore" "[I" ∈ aw := a5 (mh (i := 216) rfl) rfl
theorem fl_X11_55 : Cond.fieldLink RX11 55 RX11 "seed" "[I" ∈ aw := a5 (mh (i := 217) rfl) rfl
theorem fl_X11_58 : Cond.fieldLink RX11 58 RX11 "lawFirst" "[I" ∈ aw := a5 (mh (i := 218) rfl) rfl
theorem fl_X11_61 : Cond.fieldLink RX11 61 RX11 "lawLast" "[I" ∈ aw := a5 (mh (i := 219) rfl) rfl
theorem fl_X11_221 : Cond.fieldLink RX11 221 RX11 "branches" "I" ∈ aw := a5 (mh (i := 220) rfl) rfl
theorem fl_X11_64 : Cond.fieldLink RX11 64 RX11 "hasTest" "[Z" ∈ aw := a5 (mh (i := 221) rfl) rfl
theorem fl_X11_68 : Cond.fieldLink RX11 68 RX11 "testFrom" "[I" ∈ aw := a5 (mh (i := 222) rfl) rfl
theorem fl_X11_71 : Cond.fieldLink RX11 71 RX11 "testMid" "[I" ∈ aw := a5 (mh (i := 223) rfl) rfl
theorem fl_X11_74 : Cond.fieldLink RX11 74 RX11 "testTo" "[I" ∈ aw := a5 (mh (i := 224) rfl) rfl
theorem fl_X11_77 : Cond.fieldLink RX11 77 RX11 "termTo" "[I" ∈ aw := a5 (mh (i := 225) rfl) rfl
theorem fl_X11_224 : Cond.fieldLink RX11 224 RX11 "codes" "I" ∈ aw := a5 (mh (i := 226) rfl) rfl
theorem fl_X11_80 : Cond.fieldLink RX11 80 RX11 "code" "[I" ∈ aw := a5 (mh (i := 227) rfl) rfl
theorem fl_X11_83 : Cond.fieldLink RX11 83 RX11 "codeInt" "[I" ∈ aw := a5 (mh (i := 228) rfl) rfl
theorem fl_X11_86 : Cond.fieldLink RX11 86 RX11 "waits" "[I" ∈ aw := a5 (mh (i := 229) rfl) rfl
theorem fl_X11_265 : Cond.fieldLink RX11 265 RX11 "waiting" "I" ∈ aw := a5 (mh (i := 230) rfl) rfl
theorem fl_X11_89 : Cond.fieldLink RX11 89 RX11 "variables" "[I" ∈ aw := a5 (mh (i := 231) rfl) rfl
theorem fl_X11_92 : Cond.fieldLink RX11 92 RX11 "pile" "[I" ∈ aw := a5 (mh (i := 232) rfl) rfl
theorem fl_X11_278 : Cond.fieldLink RX11 278 RX11 "isBroken" "Z" ∈ aw := a5 (mh (i := 233) rfl) rfl
theorem fl_X11_95 : Cond.fieldLink RX11 95 RX11 "now" "[I" ∈ aw := a5 (mh (i := 234) rfl) rfl
theorem fl_X11_98 : Cond.fieldLink RX11 98 RX11 "row" "[I" ∈ aw := a5 (mh (i := 235) rfl) rfl
theorem fl_X11_286 : Cond.fieldLink RX11 286 RX11 "lots" "I" ∈ aw := a5 (mh (i := 236) rfl) rfl
theorem fl_X11_101 : Cond.fieldLink RX11 101 RX11 "sufferedNow" "[I" ∈ aw := a5 (mh (i := 237) rfl) rfl
theorem fl_X11_230 : Cond.fieldLink RX11 230 RX11 "undos" "I" ∈ aw := a5 (mh (i := 238) rfl) rfl
theorem fl_X11_104 : Cond.fieldLink RX11 104 RX11 "history" "[I" ∈ aw := a5 (mh (i := 239) rfl) rfl
theorem fl_X11_107 : Cond.fieldLink RX11 107 RX11 "bestOrder" "[I" ∈ aw := a6 (mh (i := 0) rfl) rfl
theorem fl_X11_387 : Cond.fieldLink RX11 387 RX11 "bestMany" "I" ∈ aw := a6 (mh (i := 1) rfl) rfl
theorem fl_X11_233 : Cond.fieldLink RX11 233 RX11 "tolds" "I" ∈ aw := a6 (mh (i := 2) rfl) rfl
theorem fl_X11_110 : Cond.fieldLink RX11 110 RX11 "toldPlace" "[I" ∈ aw := a6 (mh (i := 3) rfl) rfl
theorem fl_X11_113 : Cond.fieldLink RX11 113 RX11 "toldBy" "[I" ∈ aw := a6 (mh (i := 4) rfl) rfl
theorem fl_X11_116 : Cond.fieldLink RX11 116 RX11 "toldSo" "[Z" ∈ aw := a6 (mh (i := 5) rfl) rfl
theorem fl_X11_119 : Cond.fieldLink RX11 119 RX11 "sufferBy" "[I" ∈ aw := a6 (mh (i := 6) rfl) rfl
theorem fl_X11_122 : Cond.fieldLink RX11 122 RX11 "aboveBy" "[I" ∈ aw := a6 (mh (i := 7) rfl) rfl
theorem fl_X11_125 : Cond.fieldLink RX11 125 RX11 "isHeld" "[Z" ∈ aw := a6 (mh (i := 8) rfl) rfl
theorem fl_X11_128 : Cond.fieldLink RX11 128 RX11 "heldRows" "[I" ∈ aw := a6 (mh (i := 9) rfl) rfl
theorem ml_L_17 : Cond.methodLink RL 17 yX11_feed ∈ aw := a6 (mh (i := 129) rfl) rfl
theorem ml_X11_152 : Cond.methodLink RX11 152 yX11_lays ∈ aw := a6 (mh (i := 133) rfl) rfl
theorem ml_L_22 : Cond.methodLink RL 22 yX11_back ∈ aw := a6 (mh (i := 137) rfl) rfl
theorem ml_L_27 : Cond.methodLink RL 27 yX11_read ∈ aw := a6 (mh (i := 141) rfl) rfl
theorem ml_X11_206 : Cond.methodLink RX11 206 yX11_cut ∈ aw := a6 (mh (i := 145) rfl) rfl
theorem ml_X11_163 : Cond.methodLink RX11 163 yX11_byteAt ∈ aw := a6 (mh (i := 149) rfl) rfl
theorem ml_X11_167 : Cond.methodLink RX11 167 yX11_token ∈ aw := a6 (mh (i := 153) rfl) rfl
theorem ml_X11_171 : Cond.methodLink RX11 171 yX11_isLetter ∈ aw := a6 (mh (i := 157) rfl) rfl
theorem ml_X11_175 : Cond.methodLink RX11 175 yX11_isDigit ∈ aw := a6 (mh (i := 160) rfl) rfl
theorem ml_X11_178 : Cond.methodLink RX11 178 yX11_sign ∈ aw := a6 (mh (i := 163) rfl) rfl
theorem ml_X11_200 : Cond.methodLink RX11 200 yX11_is ∈ aw := a6 (mh (i := 167) rfl) rfl
theorem ml_X11_227 : Cond.methodLink RX11 227 yX11_tellOne ∈ aw := a6 (mh (i := 171) rfl) rfl
theorem ml_X11_243 : Cond.methodLink RX11 243 yX11_roomFor ∈ aw := a6 (mh (i := 175) rfl) rfl
theorem ml_X11_197 : Cond.methodLink RX11 197 yX11_fail ∈ aw := a6 (mh (i := 179) rfl) rfl
theorem ml_X11_203 : Cond.methodLink RX11 203 yX11_goesOn ∈ aw := a6 (mh (i := 183) rfl) rfl
theorem ml_X11_247 : Cond.methodLink RX11 247 yX11_tellCase ∈ aw := a6 (mh (i := 187) rfl) rfl
theorem ml_X11_240 : Cond.methodLink RX11 240 yX11_must ∈ aw := a6 (mh (i := 191) rfl) rfl
theorem ml_X11_256 : Cond.methodLink RX11 256 yX11_wrong ∈ aw := a6 (mh (i := 195) rfl) rfl
theorem ml_X11_236 : Cond.methodLink RX11 236 yX11_bounded ∈ aw := a6 (mh (i := 199) rfl) rfl
theorem ml_X11_250 : Cond.methodLink RX11 250 yX11_toldInt ∈ aw := a6 (mh (i := 203) rfl) rfl
theorem ml_X11_253 : Cond.methodLink RX11 253 yX11_tellLaw ∈ aw := a6 (mh (i := 207) rfl) rfl
theorem ml_X11_259 : Cond.methodLink RX11 259 yX11_expression ∈ aw := a6 (mh (i := 211) rfl) rfl
theorem ml_X11_271 : Cond.methodLink RX11 271 yX11_unit ∈ aw := a6 (mh (i := 215) rfl) rfl
theorem ml_X11_268 : Cond.methodLink RX11 268 yX11_emit ∈ aw := a6 (mh (i := 219) rfl) rfl
theorem ml_X11_274 : Cond.methodLink RX11 274 yX11_comesOut ∈ aw := a6 (mh (i := 223) rfl) rfl
theorem ml_X11_262 : Cond.methodLink RX11 262 yX11_term ∈ aw := a6 (mh (i := 227) rfl) rfl
theorem ml_L_31 : Cond.methodLink RL 31 yX11_place ∈ aw := a6 (mh (i := 231) rfl) rfl
theorem ml_L_36 : Cond.methodLink RL 36 yX11_docket ∈ aw := a6 (mh (i := 235) rfl) rfl
theorem ml_X11_342 : Cond.methodLink RX11 342 yX11_isCase ∈ aw := a6 (mh (i := 239) rfl) rfl
theorem ml_X11_282 : Cond.methodLink RX11 282 yX11_in ∈ aw := a7 (mh (i := 3) rfl) rfl
theorem ml_X11_345 : Cond.methodLink RX11 345 yX11_copies ∈ aw := a7 (mh (i := 6) rfl) rfl
theorem ml_X11_293 : Cond.methodLink RX11 293 yX11_placeOf ∈ aw := a7 (mh (i := 10) rfl) rfl
theorem ml_X11_299 : Cond.methodLink RX11 299 yX11_deedAt ∈ aw := a7 (mh (i := 14) rfl) rfl
theorem ml_X11_302 : Cond.methodLink RX11 302 yX11_doesPlead ∈ aw := a7 (mh (i := 18) rfl) rfl
theorem ml_X11_318 : Cond.methodLink RX11 318 yX11_doomOf ∈ aw := a7 (mh (i := 22) rfl) rfl
theorem ml_X11_305 : Cond.methodLink RX11 305 yX11_views ∈ aw := a7 (mh (i := 26) rfl) rfl
theorem ml_X11_309 : Cond.methodLink RX11 309 yX11_lawTells ∈ aw := a7 (mh (i := 30) rfl) rfl
theorem ml_X11_296 : Cond.methodLink RX11 296 yX11_termOf ∈ aw := a7 (mh (i := 34) rfl) rfl
theorem ml_X11_312 : Cond.methodLink RX11 312 yX11_within ∈ aw := a7 (mh (i := 38) rfl) rfl
theorem ml_X11_336 : Cond.methodLink RX11 336 yX11_adjournsOf ∈ aw := a7 (mh (i := 41) rfl) rfl
theorem ml_L_40 : Cond.methodLink RL 40 yX11_suffers ∈ aw := a7 (mh (i := 45) rfl) rfl
theorem ml_X11_348 : Cond.methodLink RX11 348 yX11_isOn ∈ aw := a7 (mh (i := 49) rfl) rfl
theorem ml_X11_324 : Cond.methodLink RX11 324 yX11_sufferAt ∈ aw := a7 (mh (i := 53) rfl) rfl
theorem ml_X11_315 : Cond.methodLink RX11 315 yX11_kindAt ∈ aw := a7 (mh (i := 57) rfl) rfl
theorem ml_X11_321 : Cond.methodLink RX11 321 yX11_pleaOf ∈ aw := a7 (mh (i := 61) rfl) rfl
theorem ml_L_45 : Cond.methodLink RL 45 yX11_tells ∈ aw := a7 (mh (i := 65) rfl) rfl
theorem ml_X11_351 : Cond.methodLink RX11 351 yX11_feeOf ∈ aw := a7 (mh (i := 69) rfl) rfl
theorem ml_L_49 : Cond.methodLink RL 49 yX11_at ∈ aw := a7 (mh (i := 73) rfl) rfl
theorem ml_L_54 : Cond.methodLink RL 54 yX11_change ∈ aw := a7 (mh (i := 77) rfl) rfl
theorem ml_X11_354 : Cond.methodLink RX11 354 yX11_areTwo ∈ aw := a7 (mh (i := 81) rfl) rfl
theorem ml_X11_358 : Cond.methodLink RX11 358 yX11_changes ∈ aw := a7 (mh (i := 85) rfl) rfl
theorem ml_X11_361 : Cond.methodLink RX11 361 yX11_records ∈ aw := a7 (mh (i := 89) rfl) rfl
theorem ml_L_58 : Cond.methodLink RL 58 yX11_go ∈ aw := a7 (mh (i := 93) rfl) rfl
theorem ml_X11_330 : Cond.methodLink RX11 330 yX11_moves ∈ aw := a7 (mh (i := 97) rfl) rfl
theorem ml_L_63 : Cond.methodLink RL 63 yX11_off ∈ aw := a7 (mh (i := 101) rfl) rfl
theorem ml_X11_365 : Cond.methodLink RX11 365 yX11_putsOff ∈ aw := a7 (mh (i := 105) rfl) rfl
theorem ml_L_67 : Cond.methodLink RL 67 yX11_on ∈ aw := a7 (mh (i := 109) rfl) rfl
theorem ml_L_71 : Cond.methodLink RL 71 yX11_plead ∈ aw := a7 (mh (i := 113) rfl) rfl
theorem ml_L_75 : Cond.methodLink RL 75 yX11_sessions ∈ aw := a7 (mh (i := 117) rfl) rfl
theorem ml_X11_368 : Cond.methodLink RX11 368 yX11_isLong ∈ aw := a7 (mh (i := 121) rfl) rfl
theorem ml_X11_371 : Cond.methodLink RX11 371 yX11_goes ∈ aw := a7 (mh (i := 124) rfl) rfl
theorem ml_X11_339 : Cond.methodLink RX11 339 yX11_sessionGoes ∈ aw := a7 (mh (i := 128) rfl) rfl
theorem ml_X11_333 : Cond.methodLink RX11 333 yX11_lotOf ∈ aw := a7 (mh (i := 132) rfl) rfl
theorem ml_X11_290 : Cond.methodLink RX11 290 yX11_mixed ∈ aw := a7 (mh (i := 136) rfl) rfl
theorem kc_X11_289 : Cond.constant RX11 289 (1103515245 : Int32) ∈ aw := a7 (mh (i := 139) rfl) rfl
theorem ml_L_80 : Cond.methodLink RL 80 yX11_undo ∈ aw := a7 (mh (i := 140) rfl) rfl
theorem ml_L_84 : Cond.methodLink RL 84 yX11_best ∈ aw := a7 (mh (i := 144) rfl) rfl
theorem ml_X11_396 : Cond.methodLink RX11 396 yX11_bestOf ∈ aw := a7 (mh (i := 148) rfl) rfl
theorem ml_X11_384 : Cond.methodLink RX11 384 yX11_firstOrder ∈ aw := a7 (mh (i := 152) rfl) rfl
theorem ml_X11_390 : Cond.methodLink RX11 390 yX11_byGoal ∈ aw := a7 (mh (i := 156) rfl) rfl
theorem ml_X11_374 : Cond.methodLink RX11 374 yX11_sufferAll ∈ aw := a7 (mh (i := 160) rfl) rfl
theorem ml_X11_378 : Cond.methodLink RX11 378 yX11_farAll ∈ aw := a7 (mh (i := 164) rfl) rfl
theorem ml_X11_327 : Cond.methodLink RX11 327 yX11_dueAt ∈ aw := a7 (mh (i := 168) rfl) rfl
theorem ml_X11_381 : Cond.methodLink RX11 381 yX11_mostAny ∈ aw := a7 (mh (i := 172) rfl) rfl
theorem ml_X11_393 : Cond.methodLink RX11 393 yX11_nextOrder ∈ aw := a7 (mh (i := 176) rfl) rfl
theorem ml_L_88 : Cond.methodLink RL 88 yX11_traders ∈ aw := a7 (mh (i := 180) rfl) rfl
theorem ml_X11_402 : Cond.methodLink RX11 402 yX11_tradersOf ∈ aw := a7 (mh (i := 184) rfl) rfl
theorem ml_X11_399 : Cond.methodLink RX11 399 yX11_doTrade ∈ aw := a7 (mh (i := 188) rfl) rfl
theorem ml_L_92 : Cond.methodLink RL 92 yX11_gain ∈ aw := a7 (mh (i := 192) rfl) rfl
theorem kc_X11_405 : Cond.constant RX11 405 (-100000 : Int32) ∈ aw := a7 (mh (i := 196) rfl) rfl
theorem ml_L_96 : Cond.methodLink RL 96 yX11_behind ∈ aw := a7 (mh (i := 197) rfl) rfl
theorem ml_L_100 : Cond.methodLink RL 100 yX11_rests ∈ aw := a7 (mh (i := 201) rfl) rfl
theorem ml_X11_406 : Cond.methodLink RX11 406 yX11_isRest ∈ aw := a7 (mh (i := 205) rfl) rfl
theorem ml_L_104 : Cond.methodLink RL 104 yX11_settles ∈ aw := a7 (mh (i := 209) rfl) rfl
theorem ml_X11_412 : Cond.methodLink RX11 412 yX11_tradesOnce ∈ aw := a7 (mh (i := 213) rfl) rfl
theorem ml_X11_409 : Cond.methodLink RX11 409 yX11_lowestOf ∈ aw := a7 (mh (i := 217) rfl) rfl
theorem ml_L_108 : Cond.methodLink RL 108 yX11_shunned ∈ aw := a7 (mh (i := 220) rfl) rfl
theorem ml_X11_415 : Cond.methodLink RX11 415 yX11_dreadOf ∈ aw := a7 (mh (i := 224) rfl) rfl
theorem ml_L_112 : Cond.methodLink RL 112 yX11_buyers ∈ aw := a7 (mh (i := 228) rfl) rfl
theorem ml_X11_421 : Cond.methodLink RX11 421 yX11_buyersNow ∈ aw := a7 (mh (i := 232) rfl) rfl
theorem ml_X11_418 : Cond.methodLink RX11 418 yX11_doesBuy ∈ aw := a7 (mh (i := 236) rfl) rfl
theorem ml_L_116 : Cond.methodLink RL 116 yX11_lighter ∈ aw := a8 (mh (i := 0) rfl) rfl
theorem ml_X11_424 : Cond.methodLink RX11 424 yX11_without ∈ aw := a8 (mh (i := 4) rfl) rfl
theorem ml_L_120 : Cond.methodLink RL 120 yX11_furthest ∈ aw := a8 (mh (i := 8) rfl) rfl
theorem ml_L_124 : Cond.methodLink RL 124 yX11_then ∈ aw := a8 (mh (i := 12) rfl) rfl
theorem ml_L_128 : Cond.methodLink RL 128 yX11_listIn ∈ aw := a8 (mh (i := 16) rfl) rfl
theorem ml_L_132 : Cond.methodLink RL 132 yX11_year ∈ aw := a8 (mh (i := 20) rfl) rfl
theorem ml_L_137 : Cond.methodLink RL 137 yX11_tell ∈ aw := a8 (mh (i := 24) rfl) rfl
theorem ml_X11_427 : Cond.methodLink RX11 427 yX11_isMark ∈ aw := a8 (mh (i := 28) rfl) rfl
theorem ml_L_141 : Cond.methodLink RL 141 yX11_forget ∈ aw := a8 (mh (i := 31) rfl) rfl
theorem ml_L_145 : Cond.methodLink RL 145 yX11_fits ∈ aw := a8 (mh (i := 35) rfl) rfl
theorem ml_X11_430 : Cond.methodLink RX11 430 yX11_doesFit ∈ aw := a8 (mh (i := 39) rfl) rfl
theorem ml_X11_433 : Cond.methodLink RX11 433 yX11_numberNow ∈ aw := a8 (mh (i := 43) rfl) rfl
theorem ml_L_149 : Cond.methodLink RL 149 yX11_ask ∈ aw := a8 (mh (i := 47) rfl) rfl
theorem ml_L_153 : Cond.methodLink RL 153 yX11_hold ∈ aw := a8 (mh (i := 51) rfl) rfl
theorem ml_L_157 : Cond.methodLink RL 157 yX11_restore ∈ aw := a8 (mh (i := 55) rfl) rfl
theorem ml_L_161 : Cond.methodLink RL 161 yX11_count ∈ aw := a8 (mh (i := 59) rfl) rfl
theorem ml_X11_436 : Cond.methodLink RX11 436 yX11_sumNow ∈ aw := a8 (mh (i := 63) rfl) rfl
theorem ml_X11_439 : Cond.methodLink RX11 439 yX11_bits ∈ aw := a8 (mh (i := 67) rfl) rfl
theorem fl_J0_9 : Cond.fieldLink RJ0 9 RJ0 "value" "[B" ∈ aw := a8 (mh (i := 70) rfl) rfl
theorem fl_J0_15 : Cond.fieldLink RJ0 15 RJ0 "coder" "B" ∈ aw := a8 (mh (i := 71) rfl) rfl
theorem ini_X0 : Cond.initialized RX0 ∈ aw := a1 (mh (i := 11) rfl) rfl
theorem ini_X1 : Cond.initialized RX1 ∈ aw := a1 (mh (i := 6) rfl) rfl
theorem ini_X2 : Cond.initialized RX2 ∈ aw := a1 (mh (i := 7) rfl) rfl
theorem ini_X3 : Cond.initialized RX3 ∈ aw := a1 (mh (i := 8) rfl) rfl
theorem ini_X4 : Cond.initialized RX4 ∈ aw := a1 (mh (i := 4) rfl) rfl
theorem ini_X5 : Cond.initialized RX5 ∈ aw := a1 (mh (i := 5) rfl) rfl
theorem ini_X6 : Cond.initialized RX6 ∈ aw := a1 (mh (i := 9) rfl) rfl
theorem ini_X7 : Cond.initialized RX7 ∈ aw := a1 (mh (i := 2) rfl) rfl
theorem ini_X8 : Cond.initialized RX8 ∈ aw := a1 (mh (i := 3) rfl) rfl
theorem ini_X9 : Cond.initialized RX9 ∈ aw := a1 (mh (i := 10) rfl) rfl
theorem ini_X10 : Cond.initialized RX10 ∈ aw := a1 (mh (i := 1) rfl) rfl
theorem ini_X11 : Cond.initialized RX11 ∈ aw := a1 (mh (i := 12) rfl) rfl
theorem ini_J11 : Cond.initialized RJ11 ∈ aw := a1 (mh (i := 18) rfl) rfl
theorem ini_J6 : Cond.initialized RJ6 ∈ aw := a1 (mh (i := 20) rfl) rfl
theorem ini_J9 : Cond.initialized RJ9 ∈ aw := a1 (mh (i := 17) rfl) rfl
theorem ini_J0 : Cond.initialized RJ0 ∈ aw := a1 (mh (i := 13) rfl) rfl
theorem ini_J1 : Cond.initialized RJ1 ∈ aw := a1 (mh (i := 14) rfl) rfl
theorem ini_J2 : Cond.initialized RJ2 ∈ aw := a1 (mh (i := 16) rfl) rfl
theorem ini_J10 : Cond.initialized RJ10 ∈ aw := a1 (mh (i := 19) rfl) rfl
theorem ini_J3 : Cond.initialized RJ3 ∈ aw := a1 (mh (i := 15) rfl) rfl
theorem ini_L : Cond.initialized RL ∈ aw := a1 (mh (i := 0) rfl) rfl
theorem im_X0_init : Cond.instanceMethod yX0_init ∈ aw := a2 (mh (i := 92) rfl) rfl
theorem co_X0_init : Cond.code yX0_init cX0_init 2 (Option.none : Option Jvm.ClassFile.FieldType) ∈ aw := a2 (mh (i := 93) rfl) rfl
theorem im_X0_remember : Cond.instanceMethod yX0_remember ∈ aw := a4 (mh (i := 24) rfl) rfl
theorem se_X0_remember : Cond.selects RX0 yX0_remember yX0_remember ∈ aw := asel (p4 _ (mh (i := 1) rfl))
theorem co_X0_remember : Cond.code yX0_remember cX0_remember 2 (Option.none : Option Jvm.ClassFile.FieldType) ∈ aw := a4 (mh (i := 25) rfl) rfl
theorem im_X0_takeBack : Cond.instanceMethod yX0_takeBack ∈ aw := a4 (mh (i := 108) rfl) rfl
theorem se_X0_takeBack : Cond.selects RX0 yX0_takeBack yX0_takeBack ∈ aw := asel (p4 _ (mh (i := 11) rfl))
theorem co_X0_takeBack : Cond.code yX0_takeBack cX0_takeBack 2 (Option.some Jvm.ClassFile.FieldType.boolean) ∈ aw := a4 (mh (i := 109) rfl) rfl
theorem im_X1_init : Cond.instanceMethod yX1_init ∈ aw := a1 (mh (i := 174) rfl) rfl
theorem co_X1_init : Cond.code yX1_init cX1_init 2 (Option.none : Option Jvm.ClassFile.FieldType) ∈ aw := a1 (mh (i := 175) rfl) rfl
theorem im_X1_seat : Cond.instanceMethod yX1_seat ∈ aw := a3 (mh (i := 201) rfl) rfl
theorem se_X1_seat : Cond.selects RX1 yX1_seat yX1_seat ∈ aw := asel (p3 _ (mh (i := 8) rfl))
theorem co_X1_seat : Cond.code yX1_seat cX1_seat 5 (Option.none : Option Jvm.ClassFile.FieldType) ∈ aw := a3 (mh (i := 202) rfl) rfl
theorem im_X1_seatAsListed : Cond.instanceMethod yX1_seatAsListed ∈ aw := a3 (mh (i := 196) rfl) rfl
theorem se_X1_seatAsListed : Cond.selects RX1 yX1_seatAsListed yX1_seatAsListed ∈ aw := asel (p3 _ (mh (i := 7) rfl))
theorem co_X1_seatAsListed : Cond.code yX1_seatAsListed cX1_seatAsListed 4 (Option.none : Option Jvm.ClassFile.FieldType) ∈ aw := a3 (mh (i := 197) rfl) rfl
theorem im_X1_sentence : Cond.instanceMethod yX1_sentence ∈ aw := a3 (mh (i := 218) rfl) rfl
theorem se_X1_sentence : Cond.selects RX1 yX1_sentence yX1_sentence ∈ aw := asel (p3 _ (mh (i := 12) rfl))
theorem co_X1_sentence : Cond.code yX1_sentence cX1_sentence 3 (Option.some Jvm.ClassFile.FieldType.int) ∈ aw := a3 (mh (i := 219) rfl) rfl
theorem im_X1_chanceOfAdjourning : Cond.instanceMethod yX1_chanceOfAdjourning ∈ aw := a3 (mh (i := 231) rfl) rfl
theorem se_X1_chanceOfAdjourning : Cond.selects RX1 yX1_chanceOfAdjourning yX1_chanceOfAdjourning ∈ aw := asel (p3 _ (mh (i := 14) rfl))
theorem co_X1_chanceOfAdjourning : Cond.code yX1_chanceOfAdjourning cX1_chanceOfAdjourning 3 (Option.some Jvm.ClassFile.FieldType.int) ∈ aw := a3 (mh (i := 232) rfl) rfl
theorem im_X1_lawFor : Cond.instanceMethod yX1_lawFor ∈ aw := a3 (mh (i := 222) rfl) rfl
theorem se_X1_lawFor : Cond.selects RX1 yX1_lawFor yX1_lawFor ∈ aw := asel (p3 _ (mh (i := 13) rfl))
theorem co_X1_lawFor : Cond.code yX1_lawFor cX1_lawFor 10 (Option.some Jvm.ClassFile.FieldType.int) ∈ aw := a3 (mh (i := 223) rfl) rfl
theorem st_X1_reckon : Cond.static yX1_reckon ∈ aw := a3 (mh (i := 226) rfl) rfl
theorem co_X1_reckon : Cond.code yX1_reckon cX1_reckon 3 (Option.some Jvm.ClassFile.FieldType.int) ∈ aw := a3 (mh (i := 227) rfl) rfl
theorem im_X1_kindOf : Cond.instanceMethod yX1_kindOf ∈ aw := a4 (mh (i := 4) rfl) rfl
theorem se_X1_kindOf : Cond.selects RX1 yX1_kindOf yX1_kindOf ∈ aw := asel (p4 _ (mh (i := 0) rfl))
theorem co_X1_kindOf : Cond.code yX1_kindOf cX1_kindOf 6 (Option.some Jvm.ClassFile.FieldType.int) ∈ aw := a4 (mh (i := 5) rfl) rfl
theorem im_X1_suffering : Cond.instanceMethod yX1_suffering ∈ aw := a4 (mh (i := 0) rfl) rfl
theorem se_X1_suffering : Cond.selects RX1 yX1_suffering yX1_suffering ∈ aw := asel (p3 _ (mh (i := 15) rfl))
theorem co_X1_suffering : Cond.code yX1_suffering cX1_suffering 7 (Option.some Jvm.ClassFile.FieldType.int) ∈ aw := a4 (mh (i := 1) rfl) rfl
theorem im_X1_sufferingAt : Cond.instanceMethod yX1_sufferingAt ∈ aw := a4 (mh (i := 207) rfl) rfl
theorem se_X1_sufferingAt : Cond.selects RX1 yX1_sufferingAt yX1_sufferingAt ∈ aw := asel (p5 _ (mh (i := 13) rfl))
theorem co_X1_sufferingAt : Cond.code yX1_sufferingAt cX1_sufferingAt 3 (Option.some Jvm.ClassFile.FieldType.int) ∈ aw := a4 (mh (i := 208) rfl) rfl
theorem im_X1_due : Cond.instanceMethod yX1_due ∈ aw := a4 (mh (i := 129) rfl) rfl
theorem se_X1_due : Cond.selects RX1 yX1_due yX1_due ∈ aw := asel (p4 _ (mh (i := 14) rfl))
theorem co_X1_due : Cond.code yX1_due cX1_due 5 (Option.some Jvm.ClassFile.FieldType.int) ∈ aw := a4 (mh (i := 130) rfl) rfl
theorem im_X1_dueAsListed : Cond.instanceMethod yX1_dueAsListed ∈ aw := a3 (mh (i := 192) rfl) rfl
theorem se_X1_dueAsListed : Cond.selects RX1 yX1_dueAsListed yX1_dueAsListed ∈ aw := asel (p3 _ (mh (i := 6) rfl))
theorem co_X1_dueAsListed : Cond.code yX1_dueAsListed cX1_dueAsListed 3 (Option.some Jvm.ClassFile.FieldType.int) ∈ aw := a3 (mh (i := 193) rfl) rfl
theorem im_X1_allSuffering : Cond.instanceMethod yX1_allSuffering ∈ aw := a4 (mh (i := 203) rfl) rfl
theorem se_X1_allSuffering : Cond.selects RX1 yX1_allSuffering yX1_allSuffering ∈ aw := asel (p5 _ (mh (i := 12) rfl))
theorem co_X1_allSuffering : Cond.code yX1_allSuffering cX1_allSuffering 4 (Option.some Jvm.ClassFile.FieldType.int) ∈ aw := a4 (mh (i := 204) rfl) rfl
theorem im_X1_worstSuffering : Cond.instanceMethod yX1_worstSuffering ∈ aw := a5 (mh (i := 152) rfl) rfl
theorem se_X1_worstSuffering : Cond.selects RX1 yX1_worstSuffering yX1_worstSuffering ∈ aw := asel (p7 _ (mh (i := 2) rfl))
theorem co_X1_worstSuffering : Cond.code yX1_worstSuffering cX1_worstSuffering 4 (Option.some Jvm.ClassFile.FieldType.int) ∈ aw := a5 (mh (i := 153) rfl) rfl
theorem im_X1_allDue : Cond.instanceMethod yX1_allDue ∈ aw := a5 (mh (i := 160) rfl) rfl
theorem se_X1_allDue : Cond.selects RX1 yX1_allDue yX1_allDue ∈ aw := asel (p7 _ (mh (i := 4) rfl))
theorem co_X1_allDue : Cond.code yX1_allDue cX1_allDue 4 (Option.some Jvm.ClassFile.FieldType.int) ∈ aw := a5 (mh (i := 161) rfl) rfl
theorem im_X1_goThrough : Cond.instanceMethod yX1_goThrough ∈ aw := a4 (mh (i := 84) rfl) rfl
theorem se_X1_goThrough : Cond.selects RX1 yX1_goThrough yX1_goThrough ∈ aw := asel (p4 _ (mh (i := 9) rfl))
theorem co_X1_goThrough : Cond.code yX1_goThrough cX1_goThrough 5 (Option.none : Option Jvm.ClassFile.FieldType) ∈ aw := a4 (mh (i := 85) rfl) rfl
theorem im_X1_sitOnce : Cond.instanceMethod yX1_sitOnce ∈ aw := a4 (mh (i := 88) rfl) rfl
theorem se_X1_sitOnce : Cond.selects RX1 yX1_sitOnce yX1_sitOnce ∈ aw := asel (p4 _ (mh (i := 10) rfl))
theorem co_X1_sitOnce : Cond.code yX1_sitOnce cX1_sitOnce 7 (Option.none : Option Jvm.ClassFile.FieldType) ∈ aw := a4 (mh (i := 89) rfl) rfl
theorem st_X1_lot : Cond.static yX1_lot ∈ aw := a4 (mh (i := 93) rfl) rfl
theorem co_X1_lot : Cond.code yX1_lot cX1_lot 3 (Option.some Jvm.ClassFile.FieldType.int) ∈ aw := a4 (mh (i := 94) rfl) rfl
theorem st_X1_mix : Cond.static yX1_mix ∈ aw := a4 (mh (i := 96) rfl) rfl
theorem co_X1_mix : Cond.code yX1_mix cX1_mix 3 (Option.some Jvm.ClassFile.FieldType.int) ∈ aw := a4 (mh (i := 97) rfl) rfl
theorem im_X2_init : Cond.instanceMethod yX2_init ∈ aw := a1 (mh (i := 193) rfl) rfl
theorem co_X2_init : Cond.code yX2_init cX2_init 2 (Option.none : Option Jvm.ClassFile.FieldType) ∈ aw := a1 (mh (i := 194) rfl) rfl
theorem st_X2_spot : Cond.static yX2_spot ∈ aw := a4 (mh (i := 124) rfl) rfl
theorem co_X2_spot : Cond.code yX2_spot cX2_spot 3 (Option.some Jvm.ClassFile.FieldType.int) ∈ aw := a4 (mh (i := 125) rfl) rfl
theorem im_X2_layAsListed : Cond.instanceMethod yX2_layAsListed ∈ aw := a4 (mh (i := 174) rfl) rfl
theorem se_X2_layAsListed : Cond.selects RX2 yX2_layAsListed yX2_layAsListed ∈ aw := asel (p5 _ (mh (i := 7) rfl))
theorem co_X2_layAsListed : Cond.code yX2_layAsListed cX2_layAsListed 3 (Option.none : Option Jvm.ClassFile.FieldType) ∈ aw := a4 (mh (i := 175) rfl) rfl
theorem im_X2_layFirst : Cond.instanceMethod yX2_layFirst ∈ aw := a4 (mh (i := 116) rfl) rfl
theorem se_X2_layFirst : Cond.selects RX2 yX2_layFirst yX2_layFirst ∈ aw := asel (p4 _ (mh (i := 12) rfl))
theorem co_X2_layFirst : Cond.code yX2_layFirst cX2_layFirst 3 (Option.none : Option Jvm.ClassFile.FieldType) ∈ aw := a4 (mh (i := 117) rfl) rfl
theorem im_X2_layTables : Cond.instanceMethod yX2_layTables ∈ aw := a4 (mh (i := 121) rfl) rfl
theorem se_X2_layTables : Cond.selects RX2 yX2_layTables yX2_layTables ∈ aw := asel (p4 _ (mh (i := 13) rfl))
theorem co_X2_layTables : Cond.code yX2_layTables cX2_layTables 8 (Option.none : Option Jvm.ClassFile.FieldType) ∈ aw := a4 (mh (i := 122) rfl) rfl
theorem im_X2_spotAt : Cond.instanceMethod yX2_spotAt ∈ aw := a4 (mh (i := 145) rfl) rfl
theorem se_X2_spotAt : Cond.selects RX2 yX2_spotAt yX2_spotAt ∈ aw := asel (p5 _ (mh (i := 2) rfl))
theorem co_X2_spotAt : Cond.code yX2_spotAt cX2_spotAt 2 (Option.some Jvm.ClassFile.FieldType.int) ∈ aw := a4 (mh (i := 146) rfl) rfl
theorem im_X2_sufferingAt : Cond.instanceMethod yX2_sufferingAt ∈ aw := a4 (mh (i := 141) rfl) rfl
theorem se_X2_sufferingAt : Cond.selects RX2 yX2_sufferingAt yX2_sufferingAt ∈ aw := asel (p5 _ (mh (i := 1) rfl))
theorem co_X2_sufferingAt : Cond.code yX2_sufferingAt cX2_sufferingAt 2 (Option.some Jvm.ClassFile.FieldType.int) ∈ aw := a4 (mh (i := 142) rfl) rfl
theorem im_X2_dueAt : Cond.instanceMethod yX2_dueAt ∈ aw := a4 (mh (i := 150) rfl) rfl
theorem se_X2_dueAt : Cond.selects RX2 yX2_dueAt yX2_dueAt ∈ aw := asel (p5 _ (mh (i := 3) rfl))
theorem co_X2_dueAt : Cond.code yX2_dueAt cX2_dueAt 2 (Option.some Jvm.ClassFile.FieldType.int) ∈ aw := a4 (mh (i := 151) rfl) rfl
theorem im_X2_stepOn : Cond.instanceMethod yX2_stepOn ∈ aw := a4 (mh (i := 158) rfl) rfl
theorem se_X2_stepOn : Cond.selects RX2 yX2_stepOn yX2_stepOn ∈ aw := asel (p5 _ (mh (i := 4) rfl))
theorem co_X2_stepOn : Cond.code yX2_stepOn cX2_stepOn 5 (Option.some Jvm.ClassFile.FieldType.boolean) ∈ aw := a4 (mh (i := 159) rfl) rfl
theorem im_X2_exchange : Cond.instanceMethod yX2_exchange ∈ aw := a4 (mh (i := 162) rfl) rfl
theorem se_X2_exchange : Cond.selects RX2 yX2_exchange yX2_exchange ∈ aw := asel (p5 _ (mh (i := 5) rfl))
theorem co_X2_exchange : Cond.code yX2_exchange cX2_exchange 4 (Option.none : Option Jvm.ClassFile.FieldType) ∈ aw := a4 (mh (i := 163) rfl) rfl
theorem im_X2_seekBest : Cond.instanceMethod yX2_seekBest ∈ aw := a4 (mh (i := 133) rfl) rfl
theorem se_X2_seekBest : Cond.selects RX2 yX2_seekBest yX2_seekBest ∈ aw := asel (p4 _ (mh (i := 15) rfl))
theorem co_X2_seekBest : Cond.code yX2_seekBest cX2_seekBest 6 (Option.none : Option Jvm.ClassFile.FieldType) ∈ aw := a4 (mh (i := 134) rfl) rfl
theorem im_X2_muchFor : Cond.instanceMethod yX2_muchFor ∈ aw := a4 (mh (i := 137) rfl) rfl
theorem se_X2_muchFor : Cond.selects RX2 yX2_muchFor yX2_muchFor ∈ aw := asel (p5 _ (mh (i := 0) rfl))
theorem co_X2_muchFor : Cond.code yX2_muchFor cX2_muchFor 5 (Option.some Jvm.ClassFile.FieldType.int) ∈ aw := a4 (mh (i := 138) rfl) rfl
theorem im_X2_bestAt : Cond.instanceMethod yX2_bestAt ∈ aw := a4 (mh (i := 166) rfl) rfl
theorem se_X2_bestAt : Cond.selects RX2 yX2_bestAt yX2_bestAt ∈ aw := asel (p5 _ (mh (i := 6) rfl))
theorem co_X2_bestAt : Cond.code yX2_bestAt cX2_bestAt 2 (Option.some Jvm.ClassFile.FieldType.int) ∈ aw := a4 (mh (i := 167) rfl) rfl
theorem im_X2_isTrade : Cond.instanceMethod yX2_isTrade ∈ aw := a4 (mh (i := 188) rfl) rfl
theorem se_X2_isTrade : Cond.selects RX2 yX2_isTrade yX2_isTrade ∈ aw := asel (p5 _ (mh (i := 10) rfl))
theorem co_X2_isTrade : Cond.code yX2_isTrade cX2_isTrade 6 (Option.some Jvm.ClassFile.FieldType.boolean) ∈ aw := a4 (mh (i := 189) rfl) rfl
theorem im_X2_placeInRow : Cond.instanceMethod yX2_placeInRow ∈ aw := a4 (mh (i := 184) rfl) rfl
theorem se_X2_placeInRow : Cond.selects RX2 yX2_placeInRow yX2_placeInRow ∈ aw := asel (p5 _ (mh (i := 9) rfl))
theorem co_X2_placeInRow : Cond.code yX2_placeInRow cX2_placeInRow 3 (Option.some Jvm.ClassFile.FieldType.int) ∈ aw := a4 (mh (i := 185) rfl) rfl
theorem im_X2_tradersOf : Cond.instanceMethod yX2_tradersOf ∈ aw := a4 (mh (i := 180) rfl) rfl
theorem se_X2_tradersOf : Cond.selects RX2 yX2_tradersOf yX2_tradersOf ∈ aw := asel (p5 _ (mh (i := 8) rfl))
theorem co_X2_tradersOf : Cond.code yX2_tradersOf cX2_tradersOf 5 (Option.some Jvm.ClassFile.FieldType.int) ∈ aw := a4 (mh (i := 181) rfl) rfl
theorem im_X2_isResting : Cond.instanceMethod yX2_isResting ∈ aw := a4 (mh (i := 223) rfl) rfl
theorem se_X2_isResting : Cond.selects RX2 yX2_isResting yX2_isResting ∈ aw := asel (p5 _ (mh (i := 15) rfl))
theorem co_X2_isResting : Cond.code yX2_isResting cX2_isResting 3 (Option.some Jvm.ClassFile.FieldType.boolean) ∈ aw := a4 (mh (i := 224) rfl) rfl
theorem im_X2_countResting : Cond.instanceMethod yX2_countResting ∈ aw := a4 (mh (i := 219) rfl) rfl
theorem se_X2_countResting : Cond.selects RX2 yX2_countResting yX2_countResting ∈ aw := asel (p5 _ (mh (i := 14) rfl))
theorem co_X2_countResting : Cond.code yX2_countResting cX2_countResting 4 (Option.some Jvm.ClassFile.FieldType.int) ∈ aw := a4 (mh (i := 220) rfl) rfl
theorem im_X2_countTrades : Cond.instanceMethod yX2_countTrades ∈ aw := a4 (mh (i := 231) rfl) rfl
theorem se_X2_countTrades : Cond.selects RX2 yX2_countTrades yX2_countTrades ∈ aw := asel (p6 _ (mh (i := 0) rfl))
theorem co_X2_countTrades : Cond.code yX2_countTrades cX2_countTrades 2 (Option.some Jvm.ClassFile.FieldType.int) ∈ aw := a4 (mh (i := 232) rfl) rfl
theorem im_X2_tradeLowest : Cond.instanceMethod yX2_tradeLowest ∈ aw := a4 (mh (i := 235) rfl) rfl
theorem se_X2_tradeLowest : Cond.selects RX2 yX2_tradeLowest yX2_tradeLowest ∈ aw := asel (p6 _ (mh (i := 1) rfl))
theorem co_X2_tradeLowest : Cond.code yX2_tradeLowest cX2_tradeLowest 3 (Option.some Jvm.ClassFile.FieldType.boolean) ∈ aw := a4 (mh (i := 236) rfl) rfl
theorem im_X2_rowNumber : Cond.instanceMethod yX2_rowNumber ∈ aw := a5 (mh (i := 106) rfl) rfl
theorem se_X2_rowNumber : Cond.selects RX2 yX2_rowNumber yX2_rowNumber ∈ aw := asel (p6 _ (mh (i := 14) rfl))
theorem co_X2_rowNumber : Cond.code yX2_rowNumber cX2_rowNumber 3 (Option.some Jvm.ClassFile.FieldType.int) ∈ aw := a5 (mh (i := 107) rfl) rfl
theorem im_X3_init : Cond.instanceMethod yX3_init ∈ aw := a1 (mh (i := 227) rfl) rfl
theorem co_X3_init : Cond.code yX3_init cX3_init 3 (Option.none : Option Jvm.ClassFile.FieldType) ∈ aw := a1 (mh (i := 228) rfl) rfl
theorem im_X3_answer : Cond.instanceMethod yX3_answer ∈ aw := a5 (mh (i := 22) rfl) rfl
theorem se_X3_answer : Cond.selects RX3 yX3_answer yX3_answer ∈ aw := asel (p6 _ (mh (i := 4) rfl))
theorem co_X3_answer : Cond.code yX3_answer cX3_answer 2 (Option.some Jvm.ClassFile.FieldType.int) ∈ aw := a5 (mh (i := 23) rfl) rfl
theorem im_X3_gainOfSwap : Cond.instanceMethod yX3_gainOfSwap ∈ aw := a4 (mh (i := 197) rfl) rfl
theorem se_X3_gainOfSwap : Cond.selects RX3 yX3_gainOfSwap yX3_gainOfSwap ∈ aw := asel (p5 _ (mh (i := 11) rfl))
theorem co_X3_gainOfSwap : Cond.code yX3_gainOfSwap cX3_gainOfSwap 4 (Option.some Jvm.ClassFile.FieldType.int) ∈ aw := a4 (mh (i := 198) rfl) rfl
theorem im_X3_seekShunned : Cond.instanceMethod yX3_seekShunned ∈ aw := a5 (mh (i := 8) rfl) rfl
theorem se_X3_seekShunned : Cond.selects RX3 yX3_seekShunned yX3_seekShunned ∈ aw := asel (p6 _ (mh (i := 2) rfl))
theorem co_X3_seekShunned : Cond.code yX3_seekShunned cX3_seekShunned 4 (Option.none : Option Jvm.ClassFile.FieldType) ∈ aw := a5 (mh (i := 9) rfl) rfl
theorem im_X3_doomsBehind : Cond.instanceMethod yX3_doomsBehind ∈ aw := a5 (mh (i := 13) rfl) rfl
theorem se_X3_doomsBehind : Cond.selects RX3 yX3_doomsBehind yX3_doomsBehind ∈ aw := asel (p6 _ (mh (i := 3) rfl))
theorem co_X3_doomsBehind : Cond.code yX3_doomsBehind cX3_doomsBehind 6 (Option.some Jvm.ClassFile.FieldType.int) ∈ aw := a5 (mh (i := 14) rfl) rfl
theorem im_X3_buyersOf : Cond.instanceMethod yX3_buyersOf ∈ aw := a5 (mh (i := 30) rfl) rfl
theorem se_X3_buyersOf : Cond.selects RX3 yX3_buyersOf yX3_buyersOf ∈ aw := asel (p6 _ (mh (i := 5) rfl))
theorem co_X3_buyersOf : Cond.code yX3_buyersOf cX3_buyersOf 4 (Option.some Jvm.ClassFile.FieldType.int) ∈ aw := a5 (mh (i := 31) rfl) rfl
theorem im_X3_isBuyer : Cond.instanceMethod yX3_isBuyer ∈ aw := a5 (mh (i := 35) rfl) rfl
theorem se_X3_isBuyer : Cond.selects RX3 yX3_isBuyer yX3_isBuyer ∈ aw := asel (p6 _ (mh (i := 6) rfl))
theorem co_X3_isBuyer : Cond.code yX3_isBuyer cX3_isBuyer 7 (Option.some Jvm.ClassFile.FieldType.boolean) ∈ aw := a5 (mh (i := 36) rfl) rfl
theorem im_X3_seekLighter : Cond.instanceMethod yX3_seekLighter ∈ aw := a5 (mh (i := 46) rfl) rfl
theorem se_X3_seekLighter : Cond.selects RX3 yX3_seekLighter yX3_seekLighter ∈ aw := asel (p6 _ (mh (i := 7) rfl))
theorem co_X3_seekLighter : Cond.code yX3_seekLighter cX3_seekLighter 4 (Option.none : Option Jvm.ClassFile.FieldType) ∈ aw := a5 (mh (i := 47) rfl) rfl
theorem im_X3_seekFurthest : Cond.instanceMethod yX3_seekFurthest ∈ aw := a5 (mh (i := 55) rfl) rfl
theorem se_X3_seekFurthest : Cond.selects RX3 yX3_seekFurthest yX3_seekFurthest ∈ aw := asel (p6 _ (mh (i := 8) rfl))
theorem co_X3_seekFurthest : Cond.code yX3_seekFurthest cX3_seekFurthest 5 (Option.none : Option Jvm.ClassFile.FieldType) ∈ aw := a5 (mh (i := 56) rfl) rfl
theorem im_X3_inSessions : Cond.instanceMethod yX3_inSessions ∈ aw := a5 (mh (i := 64) rfl) rfl
theorem se_X3_inSessions : Cond.selects RX3 yX3_inSessions yX3_inSessions ∈ aw := asel (p6 _ (mh (i := 9) rfl))
theorem co_X3_inSessions : Cond.code yX3_inSessions cX3_inSessions 3 (Option.some (Jvm.ClassFile.FieldType.object "CaseBefore$State")) ∈ aw := a5 (mh (i := 65) rfl) rfl
theorem im_X3_seedsThatKeep : Cond.instanceMethod yX3_seedsThatKeep ∈ aw := a5 (mh (i := 77) rfl) rfl
theorem se_X3_seedsThatKeep : Cond.selects RX3 yX3_seedsThatKeep yX3_seedsThatKeep ∈ aw := asel (p6 _ (mh (i := 10) rfl))
theorem co_X3_seedsThatKeep : Cond.code yX3_seedsThatKeep cX3_seedsThatKeep 7 (Option.some Jvm.ClassFile.FieldType.int) ∈ aw := a5 (mh (i := 78) rfl) rfl
theorem im_X4_init : Cond.instanceMethod yX4_init ∈ aw := a1 (mh (i := 114) rfl) rfl
theorem co_X4_init : Cond.code yX4_init cX4_init 2 (Option.none : Option Jvm.ClassFile.FieldType) ∈ aw := a1 (mh (i := 115) rfl) rfl
theorem im_X4_readTape : Cond.instanceMethod yX4_readTape ∈ aw := a2 (mh (i := 164) rfl) rfl
theorem se_X4_readTape : Cond.selects RX4 yX4_readTape yX4_readTape ∈ aw := asel (p1 _ (mh (i := 5) rfl))
theorem co_X4_readTape : Cond.code yX4_readTape cX4_readTape 3 (Option.some Jvm.ClassFile.FieldType.int) ∈ aw := a2 (mh (i := 165) rfl) rfl
theorem im_X4_begin : Cond.instanceMethod yX4_begin ∈ aw := a3 (mh (i := 80) rfl) rfl
theorem se_X4_begin : Cond.selects RX4 yX4_begin yX4_begin ∈ aw := asel (p1 _ (mh (i := 14) rfl))
theorem co_X4_begin : Cond.code yX4_begin cX4_begin 1 (Option.none : Option Jvm.ClassFile.FieldType) ∈ aw := a3 (mh (i := 81) rfl) rfl
theorem im_X4_findFirstFault : Cond.instanceMethod yX4_findFirstFault ∈ aw := a3 (mh (i := 151) rfl) rfl
theorem se_X4_findFirstFault : Cond.selects RX4 yX4_findFirstFault yX4_findFirstFault ∈ aw := asel (p2 _ (mh (i := 15) rfl))
theorem co_X4_findFirstFault : Cond.code yX4_findFirstFault cX4_findFirstFault 1 (Option.none : Option Jvm.ClassFile.FieldType) ∈ aw := a3 (mh (i := 152) rfl) rfl
theorem im_X4_kind : Cond.instanceMethod yX4_kind ∈ aw := a3 (mh (i := 89) rfl) rfl
theorem se_X4_kind : Cond.selects RX4 yX4_kind yX4_kind ∈ aw := asel (p2 _ (mh (i := 0) rfl))
theorem co_X4_kind : Cond.code yX4_kind cX4_kind 1 (Option.some Jvm.ClassFile.FieldType.int) ∈ aw := a3 (mh (i := 90) rfl) rfl
theorem im_X4_value : Cond.instanceMethod yX4_value ∈ aw := a3 (mh (i := 105) rfl) rfl
theorem se_X4_value : Cond.selects RX4 yX4_value yX4_value ∈ aw := asel (p2 _ (mh (i := 4) rfl))
theorem co_X4_value : Cond.code yX4_value cX4_value 1 (Option.some Jvm.ClassFile.FieldType.long) ∈ aw := a3 (mh (i := 106) rfl) rfl
theorem im_X4_fail : Cond.instanceMethod yX4_fail ∈ aw := a3 (mh (i := 97) rfl) rfl
theorem se_X4_fail : Cond.selects RX4 yX4_fail yX4_fail ∈ aw := asel (p2 _ (mh (i := 2) rfl))
theorem co_X4_fail : Cond.code yX4_fail cX4_fail 2 (Option.none : Option Jvm.ClassFile.FieldType) ∈ aw := a3 (mh (i := 98) rfl) rfl
theorem im_X4_failLate : Cond.instanceMethod yX4_failLate ∈ aw := a3 (mh (i := 113) rfl) rfl
theorem se_X4_failLate : Cond.selects RX4 yX4_failLate yX4_failLate ∈ aw := asel (p2 _ (mh (i := 6) rfl))
theorem co_X4_failLate : Cond.code yX4_failLate cX4_failLate 2 (Option.none : Option Jvm.ClassFile.FieldType) ∈ aw := a3 (mh (i := 114) rfl) rfl
theorem im_X4_isNext : Cond.instanceMethod yX4_isNext ∈ aw := a3 (mh (i := 85) rfl) rfl
theorem se_X4_isNext : Cond.selects RX4 yX4_isNext yX4_isNext ∈ aw := asel (p1 _ (mh (i := 15) rfl))
theorem co_X4_isNext : Cond.code yX4_isNext cX4_isNext 2 (Option.some Jvm.ClassFile.FieldType.boolean) ∈ aw := a3 (mh (i := 86) rfl) rfl
theorem im_X4_take : Cond.instanceMethod yX4_take ∈ aw := a3 (mh (i := 101) rfl) rfl
theorem se_X4_take : Cond.selects RX4 yX4_take yX4_take ∈ aw := asel (p2 _ (mh (i := 3) rfl))
theorem co_X4_take : Cond.code yX4_take cX4_take 1 (Option.none : Option Jvm.ClassFile.FieldType) ∈ aw := a3 (mh (i := 102) rfl) rfl
theorem im_X4_expect : Cond.instanceMethod yX4_expect ∈ aw := a3 (mh (i := 117) rfl) rfl
theorem se_X4_expect : Cond.selects RX4 yX4_expect yX4_expect ∈ aw := asel (p2 _ (mh (i := 7) rfl))
theorem co_X4_expect : Cond.code yX4_expect cX4_expect 2 (Option.none : Option Jvm.ClassFile.FieldType) ∈ aw := a3 (mh (i := 118) rfl) rfl
theorem im_X4_readCase : Cond.instanceMethod yX4_readCase ∈ aw := a3 (mh (i := 93) rfl) rfl
theorem se_X4_readCase : Cond.selects RX4 yX4_readCase yX4_readCase ∈ aw := asel (p2 _ (mh (i := 1) rfl))
theorem co_X4_readCase : Cond.code yX4_readCase cX4_readCase 5 (Option.none : Option Jvm.ClassFile.FieldType) ∈ aw := a3 (mh (i := 94) rfl) rfl
theorem im_X4_readNumber : Cond.instanceMethod yX4_readNumber ∈ aw := a3 (mh (i := 121) rfl) rfl
theorem se_X4_readNumber : Cond.selects RX4 yX4_readNumber yX4_readNumber ∈ aw := asel (p2 _ (mh (i := 8) rfl))
theorem co_X4_readNumber : Cond.code yX4_readNumber cX4_readNumber 4 (Option.some Jvm.ClassFile.FieldType.int) ∈ aw := a3 (mh (i := 122) rfl) rfl
theorem im_X4_readLaw : Cond.instanceMethod yX4_readLaw ∈ aw := a3 (mh (i := 129) rfl) rfl
theorem se_X4_readLaw : Cond.selects RX4 yX4_readLaw yX4_readLaw ∈ aw := asel (p2 _ (mh (i := 10) rfl))
theorem co_X4_readLaw : Cond.code yX4_readLaw cX4_readLaw 4 (Option.none : Option Jvm.ClassFile.FieldType) ∈ aw := a3 (mh (i := 130) rfl) rfl
theorem im_X4_readSum : Cond.instanceMethod yX4_readSum ∈ aw := a3 (mh (i := 134) rfl) rfl
theorem se_X4_readSum : Cond.selects RX4 yX4_readSum yX4_readSum ∈ aw := asel (p2 _ (mh (i := 11) rfl))
theorem co_X4_readSum : Cond.code yX4_readSum cX4_readSum 4 (Option.none : Option Jvm.ClassFile.FieldType) ∈ aw := a3 (mh (i := 135) rfl) rfl
theorem im_X4_readProduct : Cond.instanceMethod yX4_readProduct ∈ aw := a3 (mh (i := 138) rfl) rfl
theorem se_X4_readProduct : Cond.selects RX4 yX4_readProduct yX4_readProduct ∈ aw := asel (p2 _ (mh (i := 12) rfl))
theorem co_X4_readProduct : Cond.code yX4_readProduct cX4_readProduct 4 (Option.none : Option Jvm.ClassFile.FieldType) ∈ aw := a3 (mh (i := 139) rfl) rfl
theorem im_X4_readUnit : Cond.instanceMethod yX4_readUnit ∈ aw := a3 (mh (i := 142) rfl) rfl
theorem se_X4_readUnit : Cond.selects RX4 yX4_readUnit yX4_readUnit ∈ aw := asel (p2 _ (mh (i := 13) rfl))
theorem co_X4_readUnit : Cond.code yX4_readUnit cX4_readUnit 3 (Option.none : Option Jvm.ClassFile.FieldType) ∈ aw := a3 (mh (i := 143) rfl) rfl
theorem im_X5_init : Cond.instanceMethod yX5_init ∈ aw := a1 (mh (i := 122) rfl) rfl
theorem co_X5_init : Cond.code yX5_init cX5_init 2 (Option.none : Option Jvm.ClassFile.FieldType) ∈ aw := a1 (mh (i := 123) rfl) rfl
theorem im_X5_scanTape : Cond.instanceMethod yX5_scanTape ∈ aw := a2 (mh (i := 168) rfl) rfl
theorem se_X5_scanTape : Cond.selects RX5 yX5_scanTape yX5_scanTape ∈ aw := asel (p1 _ (mh (i := 6) rfl))
theorem co_X5_scanTape : Cond.code yX5_scanTape cX5_scanTape 2 (Option.none : Option Jvm.ClassFile.FieldType) ∈ aw := a2 (mh (i := 169) rfl) rfl
theorem im_X5_passBlanks : Cond.instanceMethod yX5_passBlanks ∈ aw := a2 (mh (i := 172) rfl) rfl
theorem se_X5_passBlanks : Cond.selects RX5 yX5_passBlanks yX5_passBlanks ∈ aw := asel (p1 _ (mh (i := 7) rfl))
theorem co_X5_passBlanks : Cond.code yX5_passBlanks cX5_passBlanks 1 (Option.none : Option Jvm.ClassFile.FieldType) ∈ aw := a2 (mh (i := 173) rfl) rfl
theorem im_X5_scanToken : Cond.instanceMethod yX5_scanToken ∈ aw := a2 (mh (i := 183) rfl) rfl
theorem se_X5_scanToken : Cond.selects RX5 yX5_scanToken yX5_scanToken ∈ aw := asel (p1 _ (mh (i := 9) rfl))
theorem co_X5_scanToken : Cond.code yX5_scanToken cX5_scanToken 3 (Option.some Jvm.ClassFile.FieldType.int) ∈ aw := a2 (mh (i := 184) rfl) rfl
theorem im_X5_scanLetters : Cond.instanceMethod yX5_scanLetters ∈ aw := a2 (mh (i := 190) rfl) rfl
theorem se_X5_scanLetters : Cond.selects RX5 yX5_scanLetters yX5_scanLetters ∈ aw := asel (p1 _ (mh (i := 10) rfl))
theorem co_X5_scanLetters : Cond.code yX5_scanLetters cX5_scanLetters 2 (Option.some Jvm.ClassFile.FieldType.int) ∈ aw := a2 (mh (i := 191) rfl) rfl
theorem im_X5_scanDigits : Cond.instanceMethod yX5_scanDigits ∈ aw := a3 (mh (i := 15) rfl) rfl
theorem se_X5_scanDigits : Cond.selects RX5 yX5_scanDigits yX5_scanDigits ∈ aw := asel (p1 _ (mh (i := 13) rfl))
theorem co_X5_scanDigits : Cond.code yX5_scanDigits cX5_scanDigits 2 (Option.some Jvm.ClassFile.FieldType.int) ∈ aw := a3 (mh (i := 16) rfl) rfl
theorem im_X5_kindOfWord : Cond.instanceMethod yX5_kindOfWord ∈ aw := a2 (mh (i := 195) rfl) rfl
theorem se_X5_kindOfWord : Cond.selects RX5 yX5_kindOfWord yX5_kindOfWord ∈ aw := asel (p1 _ (mh (i := 11) rfl))
theorem co_X5_kindOfWord : Cond.code yX5_kindOfWord cX5_kindOfWord 3 (Option.some Jvm.ClassFile.FieldType.int) ∈ aw := a2 (mh (i := 196) rfl) rfl
theorem im_X5_isWord : Cond.instanceMethod yX5_isWord ∈ aw := a2 (mh (i := 199) rfl) rfl
theorem se_X5_isWord : Cond.selects RX5 yX5_isWord yX5_isWord ∈ aw := asel (p1 _ (mh (i := 12) rfl))
theorem co_X5_isWord : Cond.code yX5_isWord cX5_isWord 5 (Option.some Jvm.ClassFile.FieldType.boolean) ∈ aw := a2 (mh (i := 200) rfl) rfl
theorem st_X5_isBlank : Cond.static yX5_isBlank ∈ aw := a2 (mh (i := 179) rfl) rfl
theorem co_X5_isBlank : Cond.code yX5_isBlank cX5_isBlank 1 (Option.some Jvm.ClassFile.FieldType.boolean) ∈ aw := a2 (mh (i := 180) rfl) rfl
theorem st_X5_isLetter : Cond.static yX5_isLetter ∈ aw := a2 (mh (i := 186) rfl) rfl
theorem co_X5_isLetter : Cond.code yX5_isLetter cX5_isLetter 1 (Option.some Jvm.ClassFile.FieldType.boolean) ∈ aw := a2 (mh (i := 187) rfl) rfl
theorem st_X5_isDigit : Cond.static yX5_isDigit ∈ aw := a3 (mh (i := 11) rfl) rfl
theorem co_X5_isDigit : Cond.code yX5_isDigit cX5_isDigit 1 (Option.some Jvm.ClassFile.FieldType.boolean) ∈ aw := a3 (mh (i := 12) rfl) rfl
theorem im_X6_init : Cond.instanceMethod yX6_init ∈ aw := a1 (mh (i := 233) rfl) rfl
theorem co_X6_init : Cond.code yX6_init cX6_init 1 (Option.none : Option Jvm.ClassFile.FieldType) ∈ aw := a1 (mh (i := 234) rfl) rfl
theorem im_X6_begin : Cond.instanceMethod yX6_begin ∈ aw := a3 (mh (i := 162) rfl) rfl
theorem se_X6_begin : Cond.selects RX6 yX6_begin yX6_begin ∈ aw := asel (p3 _ (mh (i := 1) rfl))
theorem co_X6_begin : Cond.code yX6_begin cX6_begin 3 (Option.none : Option Jvm.ClassFile.FieldType) ∈ aw := a3 (mh (i := 163) rfl) rfl
theorem im_X6_copyFrom : Cond.instanceMethod yX6_copyFrom ∈ aw := a4 (mh (i := 31) rfl) rfl
theorem se_X6_copyFrom : Cond.selects RX6 yX6_copyFrom yX6_copyFrom ∈ aw := asel (p4 _ (mh (i := 2) rfl))
theorem co_X6_copyFrom : Cond.code yX6_copyFrom cX6_copyFrom 2 (Option.none : Option Jvm.ClassFile.FieldType) ∈ aw := a4 (mh (i := 32) rfl) rfl
theorem im_X6_docketAt : Cond.instanceMethod yX6_docketAt ∈ aw := a3 (mh (i := 214) rfl) rfl
theorem se_X6_docketAt : Cond.selects RX6 yX6_docketAt yX6_docketAt ∈ aw := asel (p3 _ (mh (i := 11) rfl))
theorem co_X6_docketAt : Cond.code yX6_docketAt cX6_docketAt 2 (Option.some Jvm.ClassFile.FieldType.int) ∈ aw := a3 (mh (i := 215) rfl) rfl
theorem im_X6_placeOf : Cond.instanceMethod yX6_placeOf ∈ aw := a3 (mh (i := 183) rfl) rfl
theorem se_X6_placeOf : Cond.selects RX6 yX6_placeOf yX6_placeOf ∈ aw := asel (p3 _ (mh (i := 4) rfl))
theorem co_X6_placeOf : Cond.code yX6_placeOf cX6_placeOf 3 (Option.some Jvm.ClassFile.FieldType.int) ∈ aw := a3 (mh (i := 184) rfl) rfl
theorem im_X6_isListed : Cond.instanceMethod yX6_isListed ∈ aw := a3 (mh (i := 179) rfl) rfl
theorem se_X6_isListed : Cond.selects RX6 yX6_isListed yX6_isListed ∈ aw := asel (p3 _ (mh (i := 3) rfl))
theorem co_X6_isListed : Cond.code yX6_isListed cX6_isListed 2 (Option.some Jvm.ClassFile.FieldType.boolean) ∈ aw := a3 (mh (i := 180) rfl) rfl
theorem im_X6_aheadOf : Cond.instanceMethod yX6_aheadOf ∈ aw := a3 (mh (i := 210) rfl) rfl
theorem se_X6_aheadOf : Cond.selects RX6 yX6_aheadOf yX6_aheadOf ∈ aw := asel (p3 _ (mh (i := 10) rfl))
theorem co_X6_aheadOf : Cond.code yX6_aheadOf cX6_aheadOf 2 (Option.some Jvm.ClassFile.FieldType.int) ∈ aw := a3 (mh (i := 211) rfl) rfl
theorem im_X6_behindOf : Cond.instanceMethod yX6_behindOf ∈ aw := a4 (mh (i := 71) rfl) rfl
theorem se_X6_behindOf : Cond.selects RX6 yX6_behindOf yX6_behindOf ∈ aw := asel (p4 _ (mh (i := 7) rfl))
theorem co_X6_behindOf : Cond.code yX6_behindOf cX6_behindOf 3 (Option.some Jvm.ClassFile.FieldType.int) ∈ aw := a4 (mh (i := 72) rfl) rfl
theorem im_X6_isPleading : Cond.instanceMethod yX6_isPleading ∈ aw := a3 (mh (i := 188) rfl) rfl
theorem se_X6_isPleading : Cond.selects RX6 yX6_isPleading yX6_isPleading ∈ aw := asel (p3 _ (mh (i := 5) rfl))
theorem co_X6_isPleading : Cond.code yX6_isPleading cX6_isPleading 2 (Option.some Jvm.ClassFile.FieldType.boolean) ∈ aw := a3 (mh (i := 189) rfl) rfl
theorem im_X6_letPlead : Cond.instanceMethod yX6_letPlead ∈ aw := a4 (mh (i := 76) rfl) rfl
theorem se_X6_letPlead : Cond.selects RX6 yX6_letPlead yX6_letPlead ∈ aw := asel (p4 _ (mh (i := 8) rfl))
theorem co_X6_letPlead : Cond.code yX6_letPlead cX6_letPlead 2 (Option.none : Option Jvm.ClassFile.FieldType) ∈ aw := a4 (mh (i := 77) rfl) rfl
theorem im_X6_swap : Cond.instanceMethod yX6_swap ∈ aw := a4 (mh (i := 37) rfl) rfl
theorem se_X6_swap : Cond.selects RX6 yX6_swap yX6_swap ∈ aw := asel (p4 _ (mh (i := 3) rfl))
theorem co_X6_swap : Cond.code yX6_swap cX6_swap 5 (Option.none : Option Jvm.ClassFile.FieldType) ∈ aw := a4 (mh (i := 38) rfl) rfl
theorem im_X6_move : Cond.instanceMethod yX6_move ∈ aw := a4 (mh (i := 45) rfl) rfl
theorem se_X6_move : Cond.selects RX6 yX6_move yX6_move ∈ aw := asel (p4 _ (mh (i := 4) rfl))
theorem co_X6_move : Cond.code yX6_move cX6_move 6 (Option.none : Option Jvm.ClassFile.FieldType) ∈ aw := a4 (mh (i := 46) rfl) rfl
theorem im_X6_strike : Cond.instanceMethod yX6_strike ∈ aw := a4 (mh (i := 53) rfl) rfl
theorem se_X6_strike : Cond.selects RX6 yX6_strike yX6_strike ∈ aw := asel (p4 _ (mh (i := 5) rfl))
theorem co_X6_strike : Cond.code yX6_strike cX6_strike 2 (Option.none : Option Jvm.ClassFile.FieldType) ∈ aw := a4 (mh (i := 54) rfl) rfl
theorem im_X6_append : Cond.instanceMethod yX6_append ∈ aw := a4 (mh (i := 63) rfl) rfl
theorem se_X6_append : Cond.selects RX6 yX6_append yX6_append ∈ aw := asel (p4 _ (mh (i := 6) rfl))
theorem co_X6_append : Cond.code yX6_append cX6_append 2 (Option.none : Option Jvm.ClassFile.FieldType) ∈ aw := a4 (mh (i := 64) rfl) rfl
theorem im_X7_init : Cond.instanceMethod yX7_init ∈ aw := a1 (mh (i := 32) rfl) rfl
theorem co_X7_init : Cond.code yX7_init cX7_init 1 (Option.none : Option Jvm.ClassFile.FieldType) ∈ aw := a1 (mh (i := 33) rfl) rfl
theorem im_X7_putWord : Cond.instanceMethod yX7_putWord ∈ aw := a2 (mh (i := 152) rfl) rfl
theorem se_X7_putWord : Cond.selects RX7 yX7_putWord yX7_putWord ∈ aw := asel (p1 _ (mh (i := 4) rfl))
theorem co_X7_putWord : Cond.code yX7_putWord cX7_putWord 3 (Option.none : Option Jvm.ClassFile.FieldType) ∈ aw := a2 (mh (i := 153) rfl) rfl
theorem im_X7_byteAt : Cond.instanceMethod yX7_byteAt ∈ aw := a2 (mh (i := 176) rfl) rfl
theorem se_X7_byteAt : Cond.selects RX7 yX7_byteAt yX7_byteAt ∈ aw := asel (p1 _ (mh (i := 8) rfl))
theorem co_X7_byteAt : Cond.code yX7_byteAt cX7_byteAt 2 (Option.some Jvm.ClassFile.FieldType.int) ∈ aw := a2 (mh (i := 177) rfl) rfl
theorem im_X8_init : Cond.instanceMethod yX8_init ∈ aw := a1 (mh (i := 48) rfl) rfl
theorem co_X8_init : Cond.code yX8_init cX8_init 1 (Option.none : Option Jvm.ClassFile.FieldType) ∈ aw := a1 (mh (i := 49) rfl) rfl
theorem im_X8_clear : Cond.instanceMethod yX8_clear ∈ aw := a1 (mh (i := 53) rfl) rfl
theorem se_X8_clear : Cond.selects RX8 yX8_clear yX8_clear ∈ aw := asel (p1 _ (mh (i := 0) rfl))
theorem co_X8_clear : Cond.code yX8_clear cX8_clear 1 (Option.none : Option Jvm.ClassFile.FieldType) ∈ aw := a1 (mh (i := 54) rfl) rfl
theorem im_X8_addShareOfDeed : Cond.instanceMethod yX8_addShareOfDeed ∈ aw := a1 (mh (i := 65) rfl) rfl
theorem se_X8_addShareOfDeed : Cond.selects RX8 yX8_addShareOfDeed yX8_addShareOfDeed ∈ aw := asel (p1 _ (mh (i := 3) rfl))
theorem co_X8_addShareOfDeed : Cond.code yX8_addShareOfDeed cX8_addShareOfDeed 2 (Option.none : Option Jvm.ClassFile.FieldType) ∈ aw := a1 (mh (i := 66) rfl) rfl
theorem im_X8_copyFrom : Cond.instanceMethod yX8_copyFrom ∈ aw := a3 (mh (i := 155) rfl) rfl
theorem se_X8_copyFrom : Cond.selects RX8 yX8_copyFrom yX8_copyFrom ∈ aw := asel (p3 _ (mh (i := 0) rfl))
theorem co_X8_copyFrom : Cond.code yX8_copyFrom cX8_copyFrom 2 (Option.none : Option Jvm.ClassFile.FieldType) ∈ aw := a3 (mh (i := 156) rfl) rfl
theorem im_X8_has : Cond.instanceMethod yX8_has ∈ aw := a3 (mh (i := 166) rfl) rfl
theorem se_X8_has : Cond.selects RX8 yX8_has yX8_has ∈ aw := asel (p3 _ (mh (i := 2) rfl))
theorem co_X8_has : Cond.code yX8_has cX8_has 2 (Option.some Jvm.ClassFile.FieldType.boolean) ∈ aw := a3 (mh (i := 167) rfl) rfl
theorem im_X8_deedOf : Cond.instanceMethod yX8_deedOf ∈ aw := a3 (mh (i := 205) rfl) rfl
theorem se_X8_deedOf : Cond.selects RX8 yX8_deedOf yX8_deedOf ∈ aw := asel (p3 _ (mh (i := 9) rfl))
theorem co_X8_deedOf : Cond.code yX8_deedOf cX8_deedOf 2 (Option.some Jvm.ClassFile.FieldType.int) ∈ aw := a3 (mh (i := 206) rfl) rfl
theorem im_X8_isNamed : Cond.instanceMethod yX8_isNamed ∈ aw := a3 (mh (i := 109) rfl) rfl
theorem se_X8_isNamed : Cond.selects RX8 yX8_isNamed yX8_isNamed ∈ aw := asel (p2 _ (mh (i := 5) rfl))
theorem co_X8_isNamed : Cond.code yX8_isNamed cX8_isNamed 4 (Option.some Jvm.ClassFile.FieldType.boolean) ∈ aw := a3 (mh (i := 110) rfl) rfl
theorem im_X8_addCase : Cond.instanceMethod yX8_addCase ∈ aw := a3 (mh (i := 125) rfl) rfl
theorem se_X8_addCase : Cond.selects RX8 yX8_addCase yX8_addCase ∈ aw := asel (p2 _ (mh (i := 9) rfl))
theorem co_X8_addCase : Cond.code yX8_addCase cX8_addCase 5 (Option.none : Option Jvm.ClassFile.FieldType) ∈ aw := a3 (mh (i := 126) rfl) rfl
theorem im_X8_beginLaw : Cond.instanceMethod yX8_beginLaw ∈ aw := a1 (mh (i := 57) rfl) rfl
theorem se_X8_beginLaw : Cond.selects RX8 yX8_beginLaw yX8_beginLaw ∈ aw := asel (p1 _ (mh (i := 1) rfl))
theorem co_X8_beginLaw : Cond.code yX8_beginLaw cX8_beginLaw 2 (Option.none : Option Jvm.ClassFile.FieldType) ∈ aw := a1 (mh (i := 58) rfl) rfl
theorem im_X8_addStep : Cond.instanceMethod yX8_addStep ∈ aw := a1 (mh (i := 61) rfl) rfl
theorem se_X8_addStep : Cond.selects RX8 yX8_addStep yX8_addStep ∈ aw := asel (p1 _ (mh (i := 2) rfl))
theorem co_X8_addStep : Cond.code yX8_addStep cX8_addStep 4 (Option.some Jvm.ClassFile.FieldType.int) ∈ aw := a1 (mh (i := 62) rfl) rfl
theorem im_X8_leadHere : Cond.instanceMethod yX8_leadHere ∈ aw := a3 (mh (i := 147) rfl) rfl
theorem se_X8_leadHere : Cond.selects RX8 yX8_leadHere yX8_leadHere ∈ aw := asel (p2 _ (mh (i := 14) rfl))
theorem co_X8_leadHere : Cond.code yX8_leadHere cX8_leadHere 2 (Option.none : Option Jvm.ClassFile.FieldType) ∈ aw := a3 (mh (i := 148) rfl) rfl
theorem im_X9_init : Cond.instanceMethod yX9_init ∈ aw := a2 (mh (i := 58) rfl) rfl
theorem co_X9_init : Cond.code yX9_init cX9_init 1 (Option.none : Option Jvm.ClassFile.FieldType) ∈ aw := a2 (mh (i := 59) rfl) rfl
theorem im_X9_add : Cond.instanceMethod yX9_add ∈ aw := a5 (mh (i := 85) rfl) rfl
theorem se_X9_add : Cond.selects RX9 yX9_add yX9_add ∈ aw := asel (p6 _ (mh (i := 11) rfl))
theorem co_X9_add : Cond.code yX9_add cX9_add 4 (Option.some Jvm.ClassFile.FieldType.int) ∈ aw := a5 (mh (i := 86) rfl) rfl
theorem im_X9_seekFitting : Cond.instanceMethod yX9_seekFitting ∈ aw := a5 (mh (i := 97) rfl) rfl
theorem se_X9_seekFitting : Cond.selects RX9 yX9_seekFitting yX9_seekFitting ∈ aw := asel (p6 _ (mh (i := 12) rfl))
theorem co_X9_seekFitting : Cond.code yX9_seekFitting cX9_seekFitting 6 (Option.none : Option Jvm.ClassFile.FieldType) ∈ aw := a5 (mh (i := 98) rfl) rfl
theorem im_X9_isFitting : Cond.instanceMethod yX9_isFitting ∈ aw := a5 (mh (i := 101) rfl) rfl
theorem se_X9_isFitting : Cond.selects RX9 yX9_isFitting yX9_isFitting ∈ aw := asel (p6 _ (mh (i := 13) rfl))
theorem co_X9_isFitting : Cond.code yX9_isFitting cX9_isFitting 5 (Option.some Jvm.ClassFile.FieldType.boolean) ∈ aw := a5 (mh (i := 102) rfl) rfl
theorem im_X9_addReaching : Cond.instanceMethod yX9_addReaching ∈ aw := a5 (mh (i := 110) rfl) rfl
theorem se_X9_addReaching : Cond.selects RX9 yX9_addReaching yX9_addReaching ∈ aw := asel (p6 _ (mh (i := 15) rfl))
theorem co_X9_addReaching : Cond.code yX9_addReaching cX9_addReaching 4 (Option.none : Option Jvm.ClassFile.FieldType) ∈ aw := a5 (mh (i := 111) rfl) rfl
theorem im_X9_placeToAsk : Cond.instanceMethod yX9_placeToAsk ∈ aw := a5 (mh (i := 119) rfl) rfl
theorem se_X9_placeToAsk : Cond.selects RX9 yX9_placeToAsk yX9_placeToAsk ∈ aw := asel (p7 _ (mh (i := 0) rfl))
theorem co_X9_placeToAsk : Cond.code yX9_placeToAsk cX9_placeToAsk 6 (Option.some Jvm.ClassFile.FieldType.int) ∈ aw := a5 (mh (i := 120) rfl) rfl
theorem im_X10_init : Cond.instanceMethod yX10_init ∈ aw := a1 (mh (i := 24) rfl) rfl
theorem co_X10_init : Cond.code yX10_init cX10_init 2 (Option.none : Option Jvm.ClassFile.FieldType) ∈ aw := a1 (mh (i := 25) rfl) rfl
theorem im_X10_feed : Cond.instanceMethod yX10_feed ∈ aw := a2 (mh (i := 147) rfl) rfl
theorem se_X10_feed : Cond.selects RX10 yX10_feed yX10_feed ∈ aw := a2 (mh (i := 148) rfl) rfl
theorem co_X10_feed : Cond.code yX10_feed cX10_feed 6 (Option.some Jvm.ClassFile.FieldType.int) ∈ aw := a2 (mh (i := 149) rfl) rfl
theorem im_X10_back : Cond.instanceMethod yX10_back ∈ aw := a2 (mh (i := 155) rfl) rfl
theorem se_X10_back : Cond.selects RX10 yX10_back yX10_back ∈ aw := a2 (mh (i := 156) rfl) rfl
theorem co_X10_back : Cond.code yX10_back cX10_back 2 (Option.some Jvm.ClassFile.FieldType.int) ∈ aw := a2 (mh (i := 157) rfl) rfl
theorem im_X10_read : Cond.instanceMethod yX10_read ∈ aw := a2 (mh (i := 159) rfl) rfl
theorem se_X10_read : Cond.selects RX10 yX10_read yX10_read ∈ aw := a2 (mh (i := 160) rfl) rfl
theorem co_X10_read : Cond.code yX10_read cX10_read 2 (Option.some Jvm.ClassFile.FieldType.int) ∈ aw := a2 (mh (i := 161) rfl) rfl
theorem im_X10_place : Cond.instanceMethod yX10_place ∈ aw := a3 (mh (i := 169) rfl) rfl
theorem se_X10_place : Cond.selects RX10 yX10_place yX10_place ∈ aw := a3 (mh (i := 170) rfl) rfl
theorem co_X10_place : Cond.code yX10_place cX10_place 1 (Option.some Jvm.ClassFile.FieldType.int) ∈ aw := a3 (mh (i := 171) rfl) rfl
theorem im_X10_docket : Cond.instanceMethod yX10_docket ∈ aw := a3 (mh (i := 173) rfl) rfl
theorem se_X10_docket : Cond.selects RX10 yX10_docket yX10_docket ∈ aw := a3 (mh (i := 174) rfl) rfl
theorem co_X10_docket : Cond.code yX10_docket cX10_docket 3 (Option.some Jvm.ClassFile.FieldType.int) ∈ aw := a3 (mh (i := 175) rfl) rfl
theorem im_X10_suffers : Cond.instanceMethod yX10_suffers ∈ aw := a3 (mh (i := 234) rfl) rfl
theorem se_X10_suffers : Cond.selects RX10 yX10_suffers yX10_suffers ∈ aw := a3 (mh (i := 235) rfl) rfl
theorem co_X10_suffers : Cond.code yX10_suffers cX10_suffers 4 (Option.some Jvm.ClassFile.FieldType.int) ∈ aw := a3 (mh (i := 236) rfl) rfl
theorem im_X10_tells : Cond.instanceMethod yX10_tells ∈ aw := a4 (mh (i := 8) rfl) rfl
theorem se_X10_tells : Cond.selects RX10 yX10_tells yX10_tells ∈ aw := a4 (mh (i := 9) rfl) rfl
theorem co_X10_tells : Cond.code yX10_tells cX10_tells 4 (Option.some Jvm.ClassFile.FieldType.int) ∈ aw := a4 (mh (i := 10) rfl) rfl
theorem im_X10_at : Cond.instanceMethod yX10_at ∈ aw := a4 (mh (i := 14) rfl) rfl
theorem se_X10_at : Cond.selects RX10 yX10_at yX10_at ∈ aw := a4 (mh (i := 15) rfl) rfl
theorem co_X10_at : Cond.code yX10_at cX10_at 2 (Option.some Jvm.ClassFile.FieldType.int) ∈ aw := a4 (mh (i := 16) rfl) rfl
theorem im_X10_change : Cond.instanceMethod yX10_change ∈ aw := a4 (mh (i := 19) rfl) rfl
theorem se_X10_change : Cond.selects RX10 yX10_change yX10_change ∈ aw := a4 (mh (i := 20) rfl) rfl
theorem co_X10_change : Cond.code yX10_change cX10_change 3 (Option.some Jvm.ClassFile.FieldType.boolean) ∈ aw := a4 (mh (i := 21) rfl) rfl
theorem im_X10_go : Cond.instanceMethod yX10_go ∈ aw := a4 (mh (i := 40) rfl) rfl
theorem se_X10_go : Cond.selects RX10 yX10_go yX10_go ∈ aw := a4 (mh (i := 41) rfl) rfl
theorem co_X10_go : Cond.code yX10_go cX10_go 3 (Option.some Jvm.ClassFile.FieldType.boolean) ∈ aw := a4 (mh (i := 42) rfl) rfl
theorem im_X10_off : Cond.instanceMethod yX10_off ∈ aw := a4 (mh (i := 48) rfl) rfl
theorem se_X10_off : Cond.selects RX10 yX10_off yX10_off ∈ aw := a4 (mh (i := 49) rfl) rfl
theorem co_X10_off : Cond.code yX10_off cX10_off 2 (Option.some Jvm.ClassFile.FieldType.boolean) ∈ aw := a4 (mh (i := 50) rfl) rfl
theorem im_X10_on : Cond.instanceMethod yX10_on ∈ aw := a4 (mh (i := 58) rfl) rfl
theorem se_X10_on : Cond.selects RX10 yX10_on yX10_on ∈ aw := a4 (mh (i := 59) rfl) rfl
theorem co_X10_on : Cond.code yX10_on cX10_on 2 (Option.some Jvm.ClassFile.FieldType.boolean) ∈ aw := a4 (mh (i := 60) rfl) rfl
theorem im_X10_plead : Cond.instanceMethod yX10_plead ∈ aw := a4 (mh (i := 66) rfl) rfl
theorem se_X10_plead : Cond.selects RX10 yX10_plead yX10_plead ∈ aw := a4 (mh (i := 67) rfl) rfl
theorem co_X10_plead : Cond.code yX10_plead cX10_plead 4 (Option.some Jvm.ClassFile.FieldType.int) ∈ aw := a4 (mh (i := 68) rfl) rfl
theorem im_X10_sessions : Cond.instanceMethod yX10_sessions ∈ aw := a4 (mh (i := 79) rfl) rfl
theorem se_X10_sessions : Cond.selects RX10 yX10_sessions yX10_sessions ∈ aw := a4 (mh (i := 80) rfl) rfl
theorem co_X10_sessions : Cond.code yX10_sessions cX10_sessions 2 (Option.some Jvm.ClassFile.FieldType.int) ∈ aw := a4 (mh (i := 81) rfl) rfl
theorem im_X10_undo : Cond.instanceMethod yX10_undo ∈ aw := a4 (mh (i := 103) rfl) rfl
theorem se_X10_undo : Cond.selects RX10 yX10_undo yX10_undo ∈ aw := a4 (mh (i := 104) rfl) rfl
theorem co_X10_undo : Cond.code yX10_undo cX10_undo 1 (Option.some Jvm.ClassFile.FieldType.boolean) ∈ aw := a4 (mh (i := 105) rfl) rfl
theorem im_X10_best : Cond.instanceMethod yX10_best ∈ aw := a4 (mh (i := 111) rfl) rfl
theorem se_X10_best : Cond.selects RX10 yX10_best yX10_best ∈ aw := a4 (mh (i := 112) rfl) rfl
theorem co_X10_best : Cond.code yX10_best cX10_best 3 (Option.some Jvm.ClassFile.FieldType.int) ∈ aw := a4 (mh (i := 113) rfl) rfl
theorem im_X10_traders : Cond.instanceMethod yX10_traders ∈ aw := a4 (mh (i := 169) rfl) rfl
theorem se_X10_traders : Cond.selects RX10 yX10_traders yX10_traders ∈ aw := a4 (mh (i := 170) rfl) rfl
theorem co_X10_traders : Cond.code yX10_traders cX10_traders 2 (Option.some Jvm.ClassFile.FieldType.int) ∈ aw := a4 (mh (i := 171) rfl) rfl
theorem im_X10_gain : Cond.instanceMethod yX10_gain ∈ aw := a4 (mh (i := 191) rfl) rfl
theorem se_X10_gain : Cond.selects RX10 yX10_gain yX10_gain ∈ aw := a4 (mh (i := 192) rfl) rfl
theorem co_X10_gain : Cond.code yX10_gain cX10_gain 3 (Option.some Jvm.ClassFile.FieldType.int) ∈ aw := a4 (mh (i := 193) rfl) rfl
theorem im_X10_behind : Cond.instanceMethod yX10_behind ∈ aw := a4 (mh (i := 210) rfl) rfl
theorem se_X10_behind : Cond.selects RX10 yX10_behind yX10_behind ∈ aw := a4 (mh (i := 211) rfl) rfl
theorem co_X10_behind : Cond.code yX10_behind cX10_behind 3 (Option.some Jvm.ClassFile.FieldType.int) ∈ aw := a4 (mh (i := 212) rfl) rfl
theorem im_X10_rests : Cond.instanceMethod yX10_rests ∈ aw := a4 (mh (i := 214) rfl) rfl
theorem se_X10_rests : Cond.selects RX10 yX10_rests yX10_rests ∈ aw := a4 (mh (i := 215) rfl) rfl
theorem co_X10_rests : Cond.code yX10_rests cX10_rests 1 (Option.some Jvm.ClassFile.FieldType.int) ∈ aw := a4 (mh (i := 216) rfl) rfl
theorem im_X10_settles : Cond.instanceMethod yX10_settles ∈ aw := a4 (mh (i := 226) rfl) rfl
theorem se_X10_settles : Cond.selects RX10 yX10_settles yX10_settles ∈ aw := a4 (mh (i := 227) rfl) rfl
theorem co_X10_settles : Cond.code yX10_settles cX10_settles 1 (Option.some Jvm.ClassFile.FieldType.int) ∈ aw := a4 (mh (i := 228) rfl) rfl
theorem im_X10_shunned : Cond.instanceMethod yX10_shunned ∈ aw := a5 (mh (i := 3) rfl) rfl
theorem se_X10_shunned : Cond.selects RX10 yX10_shunned yX10_shunned ∈ aw := a5 (mh (i := 4) rfl) rfl
theorem co_X10_shunned : Cond.code yX10_shunned cX10_shunned 2 (Option.some Jvm.ClassFile.FieldType.int) ∈ aw := a5 (mh (i := 5) rfl) rfl
theorem im_X10_buyers : Cond.instanceMethod yX10_buyers ∈ aw := a5 (mh (i := 25) rfl) rfl
theorem se_X10_buyers : Cond.selects RX10 yX10_buyers yX10_buyers ∈ aw := a5 (mh (i := 26) rfl) rfl
theorem co_X10_buyers : Cond.code yX10_buyers cX10_buyers 1 (Option.some Jvm.ClassFile.FieldType.int) ∈ aw := a5 (mh (i := 27) rfl) rfl
theorem im_X10_lighter : Cond.instanceMethod yX10_lighter ∈ aw := a5 (mh (i := 41) rfl) rfl
theorem se_X10_lighter : Cond.selects RX10 yX10_lighter yX10_lighter ∈ aw := a5 (mh (i := 42) rfl) rfl
theorem co_X10_lighter : Cond.code yX10_lighter cX10_lighter 2 (Option.some Jvm.ClassFile.FieldType.int) ∈ aw := a5 (mh (i := 43) rfl) rfl
theorem im_X10_furthest : Cond.instanceMethod yX10_furthest ∈ aw := a5 (mh (i := 50) rfl) rfl
theorem se_X10_furthest : Cond.selects RX10 yX10_furthest yX10_furthest ∈ aw := a5 (mh (i := 51) rfl) rfl
theorem co_X10_furthest : Cond.code yX10_furthest cX10_furthest 3 (Option.some Jvm.ClassFile.FieldType.int) ∈ aw := a5 (mh (i := 52) rfl) rfl
theorem im_X10_then : Cond.instanceMethod yX10_then ∈ aw := a5 (mh (i := 59) rfl) rfl
theorem se_X10_then : Cond.selects RX10 yX10_then yX10_then ∈ aw := a5 (mh (i := 60) rfl) rfl
theorem co_X10_then : Cond.code yX10_then cX10_then 3 (Option.some Jvm.ClassFile.FieldType.int) ∈ aw := a5 (mh (i := 61) rfl) rfl
theorem im_X10_listIn : Cond.instanceMethod yX10_listIn ∈ aw := a5 (mh (i := 68) rfl) rfl
theorem se_X10_listIn : Cond.selects RX10 yX10_listIn yX10_listIn ∈ aw := a5 (mh (i := 69) rfl) rfl
theorem co_X10_listIn : Cond.code yX10_listIn cX10_listIn 4 (Option.some Jvm.ClassFile.FieldType.int) ∈ aw := a5 (mh (i := 70) rfl) rfl
theorem im_X10_year : Cond.instanceMethod yX10_year ∈ aw := a5 (mh (i := 72) rfl) rfl
theorem se_X10_year : Cond.selects RX10 yX10_year yX10_year ∈ aw := a5 (mh (i := 73) rfl) rfl
theorem co_X10_year : Cond.code yX10_year cX10_year 4 (Option.some Jvm.ClassFile.FieldType.int) ∈ aw := a5 (mh (i := 74) rfl) rfl
theorem im_X10_tell : Cond.instanceMethod yX10_tell ∈ aw := a5 (mh (i := 80) rfl) rfl
theorem se_X10_tell : Cond.selects RX10 yX10_tell yX10_tell ∈ aw := a5 (mh (i := 81) rfl) rfl
theorem co_X10_tell : Cond.code yX10_tell cX10_tell 4 (Option.some Jvm.ClassFile.FieldType.int) ∈ aw := a5 (mh (i := 82) rfl) rfl
theorem im_X10_forget : Cond.instanceMethod yX10_forget ∈ aw := a5 (mh (i := 88) rfl) rfl
theorem se_X10_forget : Cond.selects RX10 yX10_forget yX10_forget ∈ aw := a5 (mh (i := 89) rfl) rfl
theorem co_X10_forget : Cond.code yX10_forget cX10_forget 2 (Option.some Jvm.ClassFile.FieldType.int) ∈ aw := a5 (mh (i := 90) rfl) rfl
theorem im_X10_fits : Cond.instanceMethod yX10_fits ∈ aw := a5 (mh (i := 92) rfl) rfl
theorem se_X10_fits : Cond.selects RX10 yX10_fits yX10_fits ∈ aw := a5 (mh (i := 93) rfl) rfl
theorem co_X10_fits : Cond.code yX10_fits cX10_fits 3 (Option.some Jvm.ClassFile.FieldType.int) ∈ aw := a5 (mh (i := 94) rfl) rfl
theorem im_X10_ask : Cond.instanceMethod yX10_ask ∈ aw := a5 (mh (i := 114) rfl) rfl
theorem se_X10_ask : Cond.selects RX10 yX10_ask yX10_ask ∈ aw := a5 (mh (i := 115) rfl) rfl
theorem co_X10_ask : Cond.code yX10_ask cX10_ask 3 (Option.some Jvm.ClassFile.FieldType.int) ∈ aw := a5 (mh (i := 116) rfl) rfl
theorem im_X10_hold : Cond.instanceMethod yX10_hold ∈ aw := a5 (mh (i := 123) rfl) rfl
theorem se_X10_hold : Cond.selects RX10 yX10_hold yX10_hold ∈ aw := a5 (mh (i := 124) rfl) rfl
theorem co_X10_hold : Cond.code yX10_hold cX10_hold 2 (Option.some Jvm.ClassFile.FieldType.boolean) ∈ aw := a5 (mh (i := 125) rfl) rfl
theorem im_X10_restore : Cond.instanceMethod yX10_restore ∈ aw := a5 (mh (i := 128) rfl) rfl
theorem se_X10_restore : Cond.selects RX10 yX10_restore yX10_restore ∈ aw := a5 (mh (i := 129) rfl) rfl
theorem co_X10_restore : Cond.code yX10_restore cX10_restore 2 (Option.some Jvm.ClassFile.FieldType.boolean) ∈ aw := a5 (mh (i := 130) rfl) rfl
theorem im_X10_count : Cond.instanceMethod yX10_count ∈ aw := a5 (mh (i := 132) rfl) rfl
theorem se_X10_count : Cond.selects RX10 yX10_count yX10_count ∈ aw := a5 (mh (i := 133) rfl) rfl
theorem co_X10_count : Cond.code yX10_count cX10_count 2 (Option.some Jvm.ClassFile.FieldType.int) ∈ aw := a5 (mh (i := 134) rfl) rfl
theorem st_X10_added : Cond.static yX10_added ∈ aw := a5 (mh (i := 137) rfl) rfl
theorem co_X10_added : Cond.code yX10_added cX10_added 6 (Option.some Jvm.ClassFile.FieldType.int) ∈ aw := a5 (mh (i := 138) rfl) rfl
theorem im_X10_isAtRest : Cond.instanceMethod yX10_isAtRest ∈ aw := a5 (mh (i := 147) rfl) rfl
theorem se_X10_isAtRest : Cond.selects RX10 yX10_isAtRest yX10_isAtRest ∈ aw := asel (p7 _ (mh (i := 1) rfl))
theorem co_X10_isAtRest : Cond.code yX10_isAtRest cX10_isAtRest 1 (Option.some Jvm.ClassFile.FieldType.boolean) ∈ aw := a5 (mh (i := 148) rfl) rfl
theorem im_X10_unlisted : Cond.instanceMethod yX10_unlisted ∈ aw := a5 (mh (i := 156) rfl) rfl
theorem se_X10_unlisted : Cond.selects RX10 yX10_unlisted yX10_unlisted ∈ aw := asel (p7 _ (mh (i := 3) rfl))
theorem co_X10_unlisted : Cond.code yX10_unlisted cX10_unlisted 3 (Option.some Jvm.ClassFile.FieldType.int) ∈ aw := a5 (mh (i := 157) rfl) rfl
theorem im_X10_spared : Cond.instanceMethod yX10_spared ∈ aw := a5 (mh (i := 165) rfl) rfl
theorem se_X10_spared : Cond.selects RX10 yX10_spared yX10_spared ∈ aw := asel (p7 _ (mh (i := 5) rfl))
theorem co_X10_spared : Cond.code yX10_spared cX10_spared 1 (Option.some Jvm.ClassFile.FieldType.int) ∈ aw := a5 (mh (i := 166) rfl) rfl
theorem im_X11_init : Cond.instanceMethod yX11_init ∈ aw := a5 (mh (i := 170) rfl) rfl
theorem co_X11_init : Cond.code yX11_init cX11_init 1 (Option.none : Option Jvm.ClassFile.FieldType) ∈ aw := a5 (mh (i := 171) rfl) rfl
theorem im_X11_feed : Cond.instanceMethod yX11_feed ∈ aw := a6 (mh (i := 130) rfl) rfl
theorem se_X11_feed : Cond.selects RX11 yX11_feed yX11_feed ∈ aw := a6 (mh (i := 131) rfl) rfl
theorem co_X11_feed : Cond.code yX11_feed cX11_feed 6 (Option.some Jvm.ClassFile.FieldType.int) ∈ aw := a6 (mh (i := 132) rfl) rfl
theorem im_X11_lays : Cond.instanceMethod yX11_lays ∈ aw := a6 (mh (i := 135) rfl) rfl
theorem se_X11_lays : Cond.selects RX11 yX11_lays yX11_lays ∈ aw := asel (p7 _ (mh (i := 9) rfl))
theorem co_X11_lays : Cond.code yX11_lays cX11_lays 3 (Option.none : Option Jvm.ClassFile.FieldType) ∈ aw := a6 (mh (i := 136) rfl) rfl
theorem im_X11_back : Cond.instanceMethod yX11_back ∈ aw := a6 (mh (i := 138) rfl) rfl
theorem se_X11_back : Cond.selects RX11 yX11_back yX11_back ∈ aw := a6 (mh (i := 139) rfl) rfl
theorem co_X11_back : Cond.code yX11_back cX11_back 2 (Option.some Jvm.ClassFile.FieldType.int) ∈ aw := a6 (mh (i := 140) rfl) rfl
theorem im_X11_byteAt : Cond.instanceMethod yX11_byteAt ∈ aw := a6 (mh (i := 151) rfl) rfl
theorem se_X11_byteAt : Cond.selects RX11 yX11_byteAt yX11_byteAt ∈ aw := asel (p7 _ (mh (i := 11) rfl))
theorem co_X11_byteAt : Cond.code yX11_byteAt cX11_byteAt 2 (Option.some Jvm.ClassFile.FieldType.int) ∈ aw := a6 (mh (i := 152) rfl) rfl
theorem st_X11_isDigit : Cond.static yX11_isDigit ∈ aw := a6 (mh (i := 161) rfl) rfl
theorem co_X11_isDigit : Cond.code yX11_isDigit cX11_isDigit 1 (Option.some Jvm.ClassFile.FieldType.boolean) ∈ aw := a6 (mh (i := 162) rfl) rfl
theorem st_X11_isLetter : Cond.static yX11_isLetter ∈ aw := a6 (mh (i := 158) rfl) rfl
theorem co_X11_isLetter : Cond.code yX11_isLetter cX11_isLetter 1 (Option.some Jvm.ClassFile.FieldType.boolean) ∈ aw := a6 (mh (i := 159) rfl) rfl
theorem st_X11_appends : Cond.static yX11_appends ∈ aw := a5 (mh (i := 181) rfl) rfl
theorem co_X11_appends : Cond.code yX11_appends cX11_appends 3 (Option.some Jvm.ClassFile.FieldType.long) ∈ aw := a5 (mh (i := 182) rfl) rfl
theorem st_X11_letters : Cond.static yX11_letters ∈ aw := a5 (mh (i := 178) rfl) rfl
theorem co_X11_letters : Cond.code yX11_letters cX11_letters 7 (Option.some Jvm.ClassFile.FieldType.long) ∈ aw := a5 (mh (i := 179) rfl) rfl
theorem im_X11_token : Cond.instanceMethod yX11_token ∈ aw := a6 (mh (i := 155) rfl) rfl
theorem se_X11_token : Cond.selects RX11 yX11_token yX11_token ∈ aw := asel (p7 _ (mh (i := 12) rfl))
theorem co_X11_token : Cond.code yX11_token cX11_token 6 (Option.none : Option Jvm.ClassFile.FieldType) ∈ aw := a6 (mh (i := 156) rfl) rfl
theorem im_X11_cut : Cond.instanceMethod yX11_cut ∈ aw := a6 (mh (i := 147) rfl) rfl
theorem se_X11_cut : Cond.selects RX11 yX11_cut yX11_cut ∈ aw := asel (p7 _ (mh (i := 10) rfl))
theorem co_X11_cut : Cond.code yX11_cut cX11_cut 8 (Option.none : Option Jvm.ClassFile.FieldType) ∈ aw := a6 (mh (i := 148) rfl) rfl
theorem im_X11_sign : Cond.instanceMethod yX11_sign ∈ aw := a6 (mh (i := 165) rfl) rfl
theorem se_X11_sign : Cond.selects RX11 yX11_sign yX11_sign ∈ aw := asel (p7 _ (mh (i := 13) rfl))
theorem co_X11_sign : Cond.code yX11_sign cX11_sign 5 (Option.some Jvm.ClassFile.FieldType.int) ∈ aw := a6 (mh (i := 166) rfl) rfl
theorem im_X11_is : Cond.instanceMethod yX11_is ∈ aw := a6 (mh (i := 169) rfl) rfl
theorem se_X11_is : Cond.selects RX11 yX11_is yX11_is ∈ aw := asel (p7 _ (mh (i := 14) rfl))
theorem co_X11_is : Cond.code yX11_is cX11_is 2 (Option.some Jvm.ClassFile.FieldType.boolean) ∈ aw := a6 (mh (i := 170) rfl) rfl
theorem im_X11_fail : Cond.instanceMethod yX11_fail ∈ aw := a6 (mh (i := 181) rfl) rfl
theorem se_X11_fail : Cond.selects RX11 yX11_fail yX11_fail ∈ aw := asel (p8 _ (mh (i := 1) rfl))
theorem co_X11_fail : Cond.code yX11_fail cX11_fail 2 (Option.none : Option Jvm.ClassFile.FieldType) ∈ aw := a6 (mh (i := 182) rfl) rfl
theorem im_X11_wrong : Cond.instanceMethod yX11_wrong ∈ aw := a6 (mh (i := 197) rfl) rfl
theorem se_X11_wrong : Cond.selects RX11 yX11_wrong yX11_wrong ∈ aw := asel (p8 _ (mh (i := 5) rfl))
theorem co_X11_wrong : Cond.code yX11_wrong cX11_wrong 4 (Option.none : Option Jvm.ClassFile.FieldType) ∈ aw := a6 (mh (i := 198) rfl) rfl
theorem im_X11_goesOn : Cond.instanceMethod yX11_goesOn ∈ aw := a6 (mh (i := 185) rfl) rfl
theorem se_X11_goesOn : Cond.selects RX11 yX11_goesOn yX11_goesOn ∈ aw := asel (p8 _ (mh (i := 2) rfl))
theorem co_X11_goesOn : Cond.code yX11_goesOn cX11_goesOn 1 (Option.none : Option Jvm.ClassFile.FieldType) ∈ aw := a6 (mh (i := 186) rfl) rfl
theorem im_X11_must : Cond.instanceMethod yX11_must ∈ aw := a6 (mh (i := 193) rfl) rfl
theorem se_X11_must : Cond.selects RX11 yX11_must yX11_must ∈ aw := asel (p8 _ (mh (i := 4) rfl))
theorem co_X11_must : Cond.code yX11_must cX11_must 2 (Option.none : Option Jvm.ClassFile.FieldType) ∈ aw := a6 (mh (i := 194) rfl) rfl
theorem im_X11_plain : Cond.instanceMethod yX11_plain ∈ aw := a5 (mh (i := 175) rfl) rfl
theorem se_X11_plain : Cond.selects RX11 yX11_plain yX11_plain ∈ aw := asel (p7 _ (mh (i := 6) rfl))
theorem co_X11_plain : Cond.code yX11_plain cX11_plain 3 (Option.none : Option Jvm.ClassFile.FieldType) ∈ aw := a5 (mh (i := 176) rfl) rfl
theorem im_X11_read : Cond.instanceMethod yX11_read ∈ aw := a6 (mh (i := 142) rfl) rfl
theorem se_X11_read : Cond.selects RX11 yX11_read yX11_read ∈ aw := a6 (mh (i := 143) rfl) rfl
theorem co_X11_read : Cond.code yX11_read cX11_read 2 (Option.some Jvm.ClassFile.FieldType.int) ∈ aw := a6 (mh (i := 144) rfl) rfl
theorem im_X11_place : Cond.instanceMethod yX11_place ∈ aw := a6 (mh (i := 232) rfl) rfl
theorem se_X11_place : Cond.selects RX11 yX11_place yX11_place ∈ aw := a6 (mh (i := 233) rfl) rfl
theorem co_X11_place : Cond.code yX11_place cX11_place 1 (Option.some Jvm.ClassFile.FieldType.int) ∈ aw := a6 (mh (i := 234) rfl) rfl
theorem im_X11_roomFor : Cond.instanceMethod yX11_roomFor ∈ aw := a6 (mh (i := 177) rfl) rfl
theorem se_X11_roomFor : Cond.selects RX11 yX11_roomFor yX11_roomFor ∈ aw := asel (p8 _ (mh (i := 0) rfl))
theorem co_X11_roomFor : Cond.code yX11_roomFor cX11_roomFor 3 (Option.none : Option Jvm.ClassFile.FieldType) ∈ aw := a6 (mh (i := 178) rfl) rfl
theorem im_X11_toldInt : Cond.instanceMethod yX11_toldInt ∈ aw := a6 (mh (i := 205) rfl) rfl
theorem se_X11_toldInt : Cond.selects RX11 yX11_toldInt yX11_toldInt ∈ aw := asel (p8 _ (mh (i := 7) rfl))
theorem co_X11_toldInt : Cond.code yX11_toldInt cX11_toldInt 3 (Option.some Jvm.ClassFile.FieldType.int) ∈ aw := a6 (mh (i := 206) rfl) rfl
theorem im_X11_tellOne : Cond.instanceMethod yX11_tellOne ∈ aw := a6 (mh (i := 173) rfl) rfl
theorem se_X11_tellOne : Cond.selects RX11 yX11_tellOne yX11_tellOne ∈ aw := asel (p7 _ (mh (i := 15) rfl))
theorem co_X11_tellOne : Cond.code yX11_tellOne cX11_tellOne 2 (Option.none : Option Jvm.ClassFile.FieldType) ∈ aw := a6 (mh (i := 174) rfl) rfl
theorem im_X11_bounded : Cond.instanceMethod yX11_bounded ∈ aw := a6 (mh (i := 201) rfl) rfl
theorem se_X11_bounded : Cond.selects RX11 yX11_bounded yX11_bounded ∈ aw := asel (p8 _ (mh (i := 6) rfl))
theorem co_X11_bounded : Cond.code yX11_bounded cX11_bounded 4 (Option.some Jvm.ClassFile.FieldType.int) ∈ aw := a6 (mh (i := 202) rfl) rfl
theorem im_X11_tellCase : Cond.instanceMethod yX11_tellCase ∈ aw := a6 (mh (i := 189) rfl) rfl
theorem se_X11_tellCase : Cond.selects RX11 yX11_tellCase yX11_tellCase ∈ aw := asel (p8 _ (mh (i := 3) rfl))
theorem co_X11_tellCase : Cond.code yX11_tellCase cX11_tellCase 4 (Option.none : Option Jvm.ClassFile.FieldType) ∈ aw := a6 (mh (i := 190) rfl) rfl
theorem im_X11_tellLaw : Cond.instanceMethod yX11_tellLaw ∈ aw := a6 (mh (i := 209) rfl) rfl
theorem se_X11_tellLaw : Cond.selects RX11 yX11_tellLaw yX11_tellLaw ∈ aw := asel (p8 _ (mh (i := 8) rfl))
theorem co_X11_tellLaw : Cond.code yX11_tellLaw cX11_tellLaw 4 (Option.none : Option Jvm.ClassFile.FieldType) ∈ aw := a6 (mh (i := 210) rfl) rfl
theorem im_X11_term : Cond.instanceMethod yX11_term ∈ aw := a6 (mh (i := 229) rfl) rfl
theorem se_X11_term : Cond.selects RX11 yX11_term yX11_term ∈ aw := asel (p8 _ (mh (i := 13) rfl))
theorem co_X11_term : Cond.code yX11_term cX11_term 1 (Option.none : Option Jvm.ClassFile.FieldType) ∈ aw := a6 (mh (i := 230) rfl) rfl
theorem im_X11_emit : Cond.instanceMethod yX11_emit ∈ aw := a6 (mh (i := 221) rfl) rfl
theorem se_X11_emit : Cond.selects RX11 yX11_emit yX11_emit ∈ aw := asel (p8 _ (mh (i := 11) rfl))
theorem co_X11_emit : Cond.code yX11_emit cX11_emit 3 (Option.none : Option Jvm.ClassFile.FieldType) ∈ aw := a6 (mh (i := 222) rfl) rfl
theorem im_X11_comesOut : Cond.instanceMethod yX11_comesOut ∈ aw := a6 (mh (i := 225) rfl) rfl
theorem se_X11_comesOut : Cond.selects RX11 yX11_comesOut yX11_comesOut ∈ aw := asel (p8 _ (mh (i := 12) rfl))
theorem co_X11_comesOut : Cond.code yX11_comesOut cX11_comesOut 3 (Option.none : Option Jvm.ClassFile.FieldType) ∈ aw := a6 (mh (i := 226) rfl) rfl
theorem im_X11_expression : Cond.instanceMethod yX11_expression ∈ aw := a6 (mh (i := 213) rfl) rfl
theorem se_X11_expression : Cond.selects RX11 yX11_expression yX11_expression ∈ aw := asel (p8 _ (mh (i := 9) rfl))
theorem co_X11_expression : Cond.code yX11_expression cX11_expression 3 (Option.none : Option Jvm.ClassFile.FieldType) ∈ aw := a6 (mh (i := 214) rfl) rfl
theorem im_X11_unit : Cond.instanceMethod yX11_unit ∈ aw := a6 (mh (i := 217) rfl) rfl
theorem se_X11_unit : Cond.selects RX11 yX11_unit yX11_unit ∈ aw := asel (p8 _ (mh (i := 10) rfl))
theorem co_X11_unit : Cond.code yX11_unit cX11_unit 1 (Option.none : Option Jvm.ClassFile.FieldType) ∈ aw := a6 (mh (i := 218) rfl) rfl
theorem im_X11_termOf : Cond.instanceMethod yX11_termOf ∈ aw := a7 (mh (i := 36) rfl) rfl
theorem se_X11_termOf : Cond.selects RX11 yX11_termOf yX11_termOf ∈ aw := asel (p9 _ (mh (i := 6) rfl))
theorem co_X11_termOf : Cond.code yX11_termOf cX11_termOf 8 (Option.some Jvm.ClassFile.FieldType.int) ∈ aw := a7 (mh (i := 37) rfl) rfl
theorem st_X11_in : Cond.static yX11_in ∈ aw := a7 (mh (i := 4) rfl) rfl
theorem co_X11_in : Cond.code yX11_in cX11_in 3 (Option.some Jvm.ClassFile.FieldType.boolean) ∈ aw := a7 (mh (i := 5) rfl) rfl
theorem st_X11_within : Cond.static yX11_within ∈ aw := a7 (mh (i := 39) rfl) rfl
theorem co_X11_within : Cond.code yX11_within cX11_within 3 (Option.some Jvm.ClassFile.FieldType.int) ∈ aw := a7 (mh (i := 40) rfl) rfl
theorem st_X11_bits : Cond.static yX11_bits ∈ aw := a8 (mh (i := 68) rfl) rfl
theorem co_X11_bits : Cond.code yX11_bits cX11_bits 3 (Option.some Jvm.ClassFile.FieldType.int) ∈ aw := a8 (mh (i := 69) rfl) rfl
theorem im_X11_isCase : Cond.instanceMethod yX11_isCase ∈ aw := a7 (mh (i := 1) rfl) rfl
theorem se_X11_isCase : Cond.selects RX11 yX11_isCase yX11_isCase ∈ aw := asel (p8 _ (mh (i := 14) rfl))
theorem co_X11_isCase : Cond.code yX11_isCase cX11_isCase 2 (Option.some Jvm.ClassFile.FieldType.boolean) ∈ aw := a7 (mh (i := 2) rfl) rfl
theorem im_X11_deedAt : Cond.instanceMethod yX11_deedAt ∈ aw := a7 (mh (i := 16) rfl) rfl
theorem se_X11_deedAt : Cond.selects RX11 yX11_deedAt yX11_deedAt ∈ aw := asel (p9 _ (mh (i := 1) rfl))
theorem co_X11_deedAt : Cond.code yX11_deedAt cX11_deedAt 2 (Option.some Jvm.ClassFile.FieldType.int) ∈ aw := a7 (mh (i := 17) rfl) rfl
theorem im_X11_begins : Cond.instanceMethod yX11_begins ∈ aw := a5 (mh (i := 186) rfl) rfl
theorem se_X11_begins : Cond.selects RX11 yX11_begins yX11_begins ∈ aw := asel (p7 _ (mh (i := 7) rfl))
theorem co_X11_begins : Cond.code yX11_begins cX11_begins 2 (Option.none : Option Jvm.ClassFile.FieldType) ∈ aw := a5 (mh (i := 187) rfl) rfl
theorem im_X11_keepsRow : Cond.instanceMethod yX11_keepsRow ∈ aw := a5 (mh (i := 190) rfl) rfl
theorem se_X11_keepsRow : Cond.selects RX11 yX11_keepsRow yX11_keepsRow ∈ aw := asel (p7 _ (mh (i := 8) rfl))
theorem co_X11_keepsRow : Cond.code yX11_keepsRow cX11_keepsRow 2 (Option.none : Option Jvm.ClassFile.FieldType) ∈ aw := a5 (mh (i := 191) rfl) rfl
theorem im_X11_copies : Cond.instanceMethod yX11_copies ∈ aw := a7 (mh (i := 8) rfl) rfl
theorem se_X11_copies : Cond.selects RX11 yX11_copies yX11_copies ∈ aw := asel (p8 _ (mh (i := 15) rfl))
theorem co_X11_copies : Cond.code yX11_copies cX11_copies 2 (Option.none : Option Jvm.ClassFile.FieldType) ∈ aw := a7 (mh (i := 9) rfl) rfl
theorem st_X11_mixed : Cond.static yX11_mixed ∈ aw := a7 (mh (i := 137) rfl) rfl
theorem co_X11_mixed : Cond.code yX11_mixed cX11_mixed 3 (Option.some Jvm.ClassFile.FieldType.int) ∈ aw := a7 (mh (i := 138) rfl) rfl
theorem im_X11_lotOf : Cond.instanceMethod yX11_lotOf ∈ aw := a7 (mh (i := 134) rfl) rfl
theorem se_X11_lotOf : Cond.selects RX11 yX11_lotOf yX11_lotOf ∈ aw := asel (p10 _ (mh (i := 4) rfl))
theorem co_X11_lotOf : Cond.code yX11_lotOf cX11_lotOf 2 (Option.some Jvm.ClassFile.FieldType.int) ∈ aw := a7 (mh (i := 135) rfl) rfl
theorem im_X11_placeOf : Cond.instanceMethod yX11_placeOf ∈ aw := a7 (mh (i := 12) rfl) rfl
theorem se_X11_placeOf : Cond.selects RX11 yX11_placeOf yX11_placeOf ∈ aw := asel (p9 _ (mh (i := 0) rfl))
theorem co_X11_placeOf : Cond.code yX11_placeOf cX11_placeOf 3 (Option.some Jvm.ClassFile.FieldType.int) ∈ aw := a7 (mh (i := 13) rfl) rfl
theorem im_X11_isOn : Cond.instanceMethod yX11_isOn ∈ aw := a7 (mh (i := 51) rfl) rfl
theorem se_X11_isOn : Cond.selects RX11 yX11_isOn yX11_isOn ∈ aw := asel (p9 _ (mh (i := 8) rfl))
theorem co_X11_isOn : Cond.code yX11_isOn cX11_isOn 2 (Option.some Jvm.ClassFile.FieldType.boolean) ∈ aw := a7 (mh (i := 52) rfl) rfl
theorem im_X11_doesPlead : Cond.instanceMethod yX11_doesPlead ∈ aw := a7 (mh (i := 20) rfl) rfl
theorem se_X11_doesPlead : Cond.selects RX11 yX11_doesPlead yX11_doesPlead ∈ aw := asel (p9 _ (mh (i := 2) rfl))
theorem co_X11_doesPlead : Cond.code yX11_doesPlead cX11_doesPlead 2 (Option.some Jvm.ClassFile.FieldType.boolean) ∈ aw := a7 (mh (i := 21) rfl) rfl
theorem im_X11_lawTells : Cond.instanceMethod yX11_lawTells ∈ aw := a7 (mh (i := 32) rfl) rfl
theorem se_X11_lawTells : Cond.selects RX11 yX11_lawTells yX11_lawTells ∈ aw := asel (p9 _ (mh (i := 5) rfl))
theorem co_X11_lawTells : Cond.code yX11_lawTells cX11_lawTells 7 (Option.some Jvm.ClassFile.FieldType.int) ∈ aw := a7 (mh (i := 33) rfl) rfl
theorem im_X11_views : Cond.instanceMethod yX11_views ∈ aw := a7 (mh (i := 28) rfl) rfl
theorem se_X11_views : Cond.selects RX11 yX11_views yX11_views ∈ aw := asel (p9 _ (mh (i := 4) rfl))
theorem co_X11_views : Cond.code yX11_views cX11_views 4 (Option.none : Option Jvm.ClassFile.FieldType) ∈ aw := a7 (mh (i := 29) rfl) rfl
theorem im_X11_doomOf : Cond.instanceMethod yX11_doomOf ∈ aw := a7 (mh (i := 24) rfl) rfl
theorem se_X11_doomOf : Cond.selects RX11 yX11_doomOf yX11_doomOf ∈ aw := asel (p9 _ (mh (i := 3) rfl))
theorem co_X11_doomOf : Cond.code yX11_doomOf cX11_doomOf 4 (Option.some Jvm.ClassFile.FieldType.int) ∈ aw := a7 (mh (i := 25) rfl) rfl
theorem im_X11_pleaOf : Cond.instanceMethod yX11_pleaOf ∈ aw := a7 (mh (i := 63) rfl) rfl
theorem se_X11_pleaOf : Cond.selects RX11 yX11_pleaOf yX11_pleaOf ∈ aw := asel (p9 _ (mh (i := 11) rfl))
theorem co_X11_pleaOf : Cond.code yX11_pleaOf cX11_pleaOf 4 (Option.some Jvm.ClassFile.FieldType.int) ∈ aw := a7 (mh (i := 64) rfl) rfl
theorem im_X11_feeOf : Cond.instanceMethod yX11_feeOf ∈ aw := a7 (mh (i := 71) rfl) rfl
theorem se_X11_feeOf : Cond.selects RX11 yX11_feeOf yX11_feeOf ∈ aw := asel (p9 _ (mh (i := 12) rfl))
theorem co_X11_feeOf : Cond.code yX11_feeOf cX11_feeOf 4 (Option.some Jvm.ClassFile.FieldType.int) ∈ aw := a7 (mh (i := 72) rfl) rfl
theorem im_X11_adjournsOf : Cond.instanceMethod yX11_adjournsOf ∈ aw := a7 (mh (i := 43) rfl) rfl
theorem se_X11_adjournsOf : Cond.selects RX11 yX11_adjournsOf yX11_adjournsOf ∈ aw := asel (p9 _ (mh (i := 7) rfl))
theorem co_X11_adjournsOf : Cond.code yX11_adjournsOf cX11_adjournsOf 3 (Option.some Jvm.ClassFile.FieldType.int) ∈ aw := a7 (mh (i := 44) rfl) rfl
theorem im_X11_kindAt : Cond.instanceMethod yX11_kindAt ∈ aw := a7 (mh (i := 59) rfl) rfl
theorem se_X11_kindAt : Cond.selects RX11 yX11_kindAt yX11_kindAt ∈ aw := asel (p9 _ (mh (i := 10) rfl))
theorem co_X11_kindAt : Cond.code yX11_kindAt cX11_kindAt 3 (Option.some Jvm.ClassFile.FieldType.int) ∈ aw := a7 (mh (i := 60) rfl) rfl
theorem im_X11_sufferAt : Cond.instanceMethod yX11_sufferAt ∈ aw := a7 (mh (i := 55) rfl) rfl
theorem se_X11_sufferAt : Cond.selects RX11 yX11_sufferAt yX11_sufferAt ∈ aw := asel (p9 _ (mh (i := 9) rfl))
theorem co_X11_sufferAt : Cond.code yX11_sufferAt cX11_sufferAt 6 (Option.some Jvm.ClassFile.FieldType.int) ∈ aw := a7 (mh (i := 56) rfl) rfl
theorem im_X11_dueAt : Cond.instanceMethod yX11_dueAt ∈ aw := a7 (mh (i := 170) rfl) rfl
theorem se_X11_dueAt : Cond.selects RX11 yX11_dueAt yX11_dueAt ∈ aw := asel (p10 _ (mh (i := 10) rfl))
theorem co_X11_dueAt : Cond.code yX11_dueAt cX11_dueAt 2 (Option.some Jvm.ClassFile.FieldType.int) ∈ aw := a7 (mh (i := 171) rfl) rfl
theorem im_X11_sufferAll : Cond.instanceMethod yX11_sufferAll ∈ aw := a7 (mh (i := 162) rfl) rfl
theorem se_X11_sufferAll : Cond.selects RX11 yX11_sufferAll yX11_sufferAll ∈ aw := asel (p10 _ (mh (i := 8) rfl))
theorem co_X11_sufferAll : Cond.code yX11_sufferAll cX11_sufferAll 3 (Option.some Jvm.ClassFile.FieldType.int) ∈ aw := a7 (mh (i := 163) rfl) rfl
theorem im_X11_mostAny : Cond.instanceMethod yX11_mostAny ∈ aw := a7 (mh (i := 174) rfl) rfl
theorem se_X11_mostAny : Cond.selects RX11 yX11_mostAny yX11_mostAny ∈ aw := asel (p10 _ (mh (i := 11) rfl))
theorem co_X11_mostAny : Cond.code yX11_mostAny cX11_mostAny 3 (Option.some Jvm.ClassFile.FieldType.int) ∈ aw := a7 (mh (i := 175) rfl) rfl
theorem im_X11_farAll : Cond.instanceMethod yX11_farAll ∈ aw := a7 (mh (i := 166) rfl) rfl
theorem se_X11_farAll : Cond.selects RX11 yX11_farAll yX11_farAll ∈ aw := asel (p10 _ (mh (i := 9) rfl))
theorem co_X11_farAll : Cond.code yX11_farAll cX11_farAll 4 (Option.some Jvm.ClassFile.FieldType.int) ∈ aw := a7 (mh (i := 167) rfl) rfl
theorem im_X11_changes : Cond.instanceMethod yX11_changes ∈ aw := a7 (mh (i := 87) rfl) rfl
theorem se_X11_changes : Cond.selects RX11 yX11_changes yX11_changes ∈ aw := asel (p9 _ (mh (i := 14) rfl))
theorem co_X11_changes : Cond.code yX11_changes cX11_changes 4 (Option.none : Option Jvm.ClassFile.FieldType) ∈ aw := a7 (mh (i := 88) rfl) rfl
theorem im_X11_moves : Cond.instanceMethod yX11_moves ∈ aw := a7 (mh (i := 99) rfl) rfl
theorem se_X11_moves : Cond.selects RX11 yX11_moves yX11_moves ∈ aw := asel (p10 _ (mh (i := 0) rfl))
theorem co_X11_moves : Cond.code yX11_moves cX11_moves 5 (Option.none : Option Jvm.ClassFile.FieldType) ∈ aw := a7 (mh (i := 100) rfl) rfl
theorem im_X11_putsOff : Cond.instanceMethod yX11_putsOff ∈ aw := a7 (mh (i := 107) rfl) rfl
theorem se_X11_putsOff : Cond.selects RX11 yX11_putsOff yX11_putsOff ∈ aw := asel (p10 _ (mh (i := 1) rfl))
theorem co_X11_putsOff : Cond.code yX11_putsOff cX11_putsOff 2 (Option.none : Option Jvm.ClassFile.FieldType) ∈ aw := a7 (mh (i := 108) rfl) rfl
theorem im_X11_sessionGoes : Cond.instanceMethod yX11_sessionGoes ∈ aw := a7 (mh (i := 130) rfl) rfl
theorem se_X11_sessionGoes : Cond.selects RX11 yX11_sessionGoes yX11_sessionGoes ∈ aw := asel (p10 _ (mh (i := 3) rfl))
theorem co_X11_sessionGoes : Cond.code yX11_sessionGoes cX11_sessionGoes 7 (Option.none : Option Jvm.ClassFile.FieldType) ∈ aw := a7 (mh (i := 131) rfl) rfl
theorem im_X11_goes : Cond.instanceMethod yX11_goes ∈ aw := a7 (mh (i := 126) rfl) rfl
theorem se_X11_goes : Cond.selects RX11 yX11_goes yX11_goes ∈ aw := asel (p10 _ (mh (i := 2) rfl))
theorem co_X11_goes : Cond.code yX11_goes cX11_goes 3 (Option.none : Option Jvm.ClassFile.FieldType) ∈ aw := a7 (mh (i := 127) rfl) rfl
theorem im_X11_docket : Cond.instanceMethod yX11_docket ∈ aw := a6 (mh (i := 236) rfl) rfl
theorem se_X11_docket : Cond.selects RX11 yX11_docket yX11_docket ∈ aw := a6 (mh (i := 237) rfl) rfl
theorem co_X11_docket : Cond.code yX11_docket cX11_docket 4 (Option.some Jvm.ClassFile.FieldType.int) ∈ aw := a6 (mh (i := 238) rfl) rfl
theorem im_X11_suffers : Cond.instanceMethod yX11_suffers ∈ aw := a7 (mh (i := 46) rfl) rfl
theorem se_X11_suffers : Cond.selects RX11 yX11_suffers yX11_suffers ∈ aw := a7 (mh (i := 47) rfl) rfl
theorem co_X11_suffers : Cond.code yX11_suffers cX11_suffers 3 (Option.some Jvm.ClassFile.FieldType.int) ∈ aw := a7 (mh (i := 48) rfl) rfl
theorem im_X11_tells : Cond.instanceMethod yX11_tells ∈ aw := a7 (mh (i := 66) rfl) rfl
theorem se_X11_tells : Cond.selects RX11 yX11_tells yX11_tells ∈ aw := a7 (mh (i := 67) rfl) rfl
theorem co_X11_tells : Cond.code yX11_tells cX11_tells 4 (Option.some Jvm.ClassFile.FieldType.int) ∈ aw := a7 (mh (i := 68) rfl) rfl
theorem im_X11_at : Cond.instanceMethod yX11_at ∈ aw := a7 (mh (i := 74) rfl) rfl
theorem se_X11_at : Cond.selects RX11 yX11_at yX11_at ∈ aw := a7 (mh (i := 75) rfl) rfl
theorem co_X11_at : Cond.code yX11_at cX11_at 2 (Option.some Jvm.ClassFile.FieldType.int) ∈ aw := a7 (mh (i := 76) rfl) rfl
theorem im_X11_records : Cond.instanceMethod yX11_records ∈ aw := a7 (mh (i := 91) rfl) rfl
theorem se_X11_records : Cond.selects RX11 yX11_records yX11_records ∈ aw := asel (p9 _ (mh (i := 15) rfl))
theorem co_X11_records : Cond.code yX11_records cX11_records 2 (Option.some Jvm.ClassFile.FieldType.boolean) ∈ aw := a7 (mh (i := 92) rfl) rfl
theorem im_X11_areTwo : Cond.instanceMethod yX11_areTwo ∈ aw := a7 (mh (i := 83) rfl) rfl
theorem se_X11_areTwo : Cond.selects RX11 yX11_areTwo yX11_areTwo ∈ aw := asel (p9 _ (mh (i := 13) rfl))
theorem co_X11_areTwo : Cond.code yX11_areTwo cX11_areTwo 3 (Option.some Jvm.ClassFile.FieldType.boolean) ∈ aw := a7 (mh (i := 84) rfl) rfl
theorem im_X11_change : Cond.instanceMethod yX11_change ∈ aw := a7 (mh (i := 78) rfl) rfl
theorem se_X11_change : Cond.selects RX11 yX11_change yX11_change ∈ aw := a7 (mh (i := 79) rfl) rfl
theorem co_X11_change : Cond.code yX11_change cX11_change 3 (Option.some Jvm.ClassFile.FieldType.boolean) ∈ aw := a7 (mh (i := 80) rfl) rfl
theorem im_X11_go : Cond.instanceMethod yX11_go ∈ aw := a7 (mh (i := 94) rfl) rfl
theorem se_X11_go : Cond.selects RX11 yX11_go yX11_go ∈ aw := a7 (mh (i := 95) rfl) rfl
theorem co_X11_go : Cond.code yX11_go cX11_go 3 (Option.some Jvm.ClassFile.FieldType.boolean) ∈ aw := a7 (mh (i := 96) rfl) rfl
theorem im_X11_off : Cond.instanceMethod yX11_off ∈ aw := a7 (mh (i := 102) rfl) rfl
theorem se_X11_off : Cond.selects RX11 yX11_off yX11_off ∈ aw := a7 (mh (i := 103) rfl) rfl
theorem co_X11_off : Cond.code yX11_off cX11_off 2 (Option.some Jvm.ClassFile.FieldType.boolean) ∈ aw := a7 (mh (i := 104) rfl) rfl
theorem im_X11_on : Cond.instanceMethod yX11_on ∈ aw := a7 (mh (i := 110) rfl) rfl
theorem se_X11_on : Cond.selects RX11 yX11_on yX11_on ∈ aw := a7 (mh (i := 111) rfl) rfl
theorem co_X11_on : Cond.code yX11_on cX11_on 2 (Option.some Jvm.ClassFile.FieldType.boolean) ∈ aw := a7 (mh (i := 112) rfl) rfl
theorem im_X11_plead : Cond.instanceMethod yX11_plead ∈ aw := a7 (mh (i := 114) rfl) rfl
theorem se_X11_plead : Cond.selects RX11 yX11_plead yX11_plead ∈ aw := a7 (mh (i := 115) rfl) rfl
theorem co_X11_plead : Cond.code yX11_plead cX11_plead 4 (Option.some Jvm.ClassFile.FieldType.int) ∈ aw := a7 (mh (i := 116) rfl) rfl
theorem st_X11_isLong : Cond.static yX11_isLong ∈ aw := a7 (mh (i := 122) rfl) rfl
theorem co_X11_isLong : Cond.code yX11_isLong cX11_isLong 1 (Option.some Jvm.ClassFile.FieldType.boolean) ∈ aw := a7 (mh (i := 123) rfl) rfl
theorem im_X11_sessions : Cond.instanceMethod yX11_sessions ∈ aw := a7 (mh (i := 118) rfl) rfl
theorem se_X11_sessions : Cond.selects RX11 yX11_sessions yX11_sessions ∈ aw := a7 (mh (i := 119) rfl) rfl
theorem co_X11_sessions : Cond.code yX11_sessions cX11_sessions 2 (Option.some Jvm.ClassFile.FieldType.int) ∈ aw := a7 (mh (i := 120) rfl) rfl
theorem im_X11_undo : Cond.instanceMethod yX11_undo ∈ aw := a7 (mh (i := 141) rfl) rfl
theorem se_X11_undo : Cond.selects RX11 yX11_undo yX11_undo ∈ aw := a7 (mh (i := 142) rfl) rfl
theorem co_X11_undo : Cond.code yX11_undo cX11_undo 2 (Option.some Jvm.ClassFile.FieldType.boolean) ∈ aw := a7 (mh (i := 143) rfl) rfl
theorem im_X11_firstOrder : Cond.instanceMethod yX11_firstOrder ∈ aw := a7 (mh (i := 154) rfl) rfl
theorem se_X11_firstOrder : Cond.selects RX11 yX11_firstOrder yX11_firstOrder ∈ aw := asel (p10 _ (mh (i := 6) rfl))
theorem co_X11_firstOrder : Cond.code yX11_firstOrder cX11_firstOrder 4 (Option.none : Option Jvm.ClassFile.FieldType) ∈ aw := a7 (mh (i := 155) rfl) rfl
theorem im_X11_nextOrder : Cond.instanceMethod yX11_nextOrder ∈ aw := a7 (mh (i := 178) rfl) rfl
theorem se_X11_nextOrder : Cond.selects RX11 yX11_nextOrder yX11_nextOrder ∈ aw := asel (p10 _ (mh (i := 12) rfl))
theorem co_X11_nextOrder : Cond.code yX11_nextOrder cX11_nextOrder 5 (Option.some Jvm.ClassFile.FieldType.boolean) ∈ aw := a7 (mh (i := 179) rfl) rfl
theorem im_X11_byGoal : Cond.instanceMethod yX11_byGoal ∈ aw := a7 (mh (i := 158) rfl) rfl
theorem se_X11_byGoal : Cond.selects RX11 yX11_byGoal yX11_byGoal ∈ aw := asel (p10 _ (mh (i := 7) rfl))
theorem co_X11_byGoal : Cond.code yX11_byGoal cX11_byGoal 2 (Option.some Jvm.ClassFile.FieldType.int) ∈ aw := a7 (mh (i := 159) rfl) rfl
theorem im_X11_bestOf : Cond.instanceMethod yX11_bestOf ∈ aw := a7 (mh (i := 150) rfl) rfl
theorem se_X11_bestOf : Cond.selects RX11 yX11_bestOf yX11_bestOf ∈ aw := asel (p10 _ (mh (i := 5) rfl))
theorem co_X11_bestOf : Cond.code yX11_bestOf cX11_bestOf 6 (Option.some Jvm.ClassFile.FieldType.int) ∈ aw := a7 (mh (i := 151) rfl) rfl
theorem im_X11_best : Cond.instanceMethod yX11_best ∈ aw := a7 (mh (i := 145) rfl) rfl
theorem se_X11_best : Cond.selects RX11 yX11_best yX11_best ∈ aw := a7 (mh (i := 146) rfl) rfl
theorem co_X11_best : Cond.code yX11_best cX11_best 4 (Option.some Jvm.ClassFile.FieldType.int) ∈ aw := a7 (mh (i := 147) rfl) rfl
theorem im_X11_doTrade : Cond.instanceMethod yX11_doTrade ∈ aw := a7 (mh (i := 190) rfl) rfl
theorem se_X11_doTrade : Cond.selects RX11 yX11_doTrade yX11_doTrade ∈ aw := asel (p10 _ (mh (i := 14) rfl))
theorem co_X11_doTrade : Cond.code yX11_doTrade cX11_doTrade 6 (Option.some Jvm.ClassFile.FieldType.boolean) ∈ aw := a7 (mh (i := 191) rfl) rfl
theorem im_X11_tradersOf : Cond.instanceMethod yX11_tradersOf ∈ aw := a7 (mh (i := 186) rfl) rfl
theorem se_X11_tradersOf : Cond.selects RX11 yX11_tradersOf yX11_tradersOf ∈ aw := asel (p10 _ (mh (i := 13) rfl))
theorem co_X11_tradersOf : Cond.code yX11_tradersOf cX11_tradersOf 5 (Option.some Jvm.ClassFile.FieldType.int) ∈ aw := a7 (mh (i := 187) rfl) rfl
theorem im_X11_isRest : Cond.instanceMethod yX11_isRest ∈ aw := a7 (mh (i := 207) rfl) rfl
theorem se_X11_isRest : Cond.selects RX11 yX11_isRest yX11_isRest ∈ aw := asel (p10 _ (mh (i := 15) rfl))
theorem co_X11_isRest : Cond.code yX11_isRest cX11_isRest 3 (Option.some Jvm.ClassFile.FieldType.boolean) ∈ aw := a7 (mh (i := 208) rfl) rfl
theorem im_X11_traders : Cond.instanceMethod yX11_traders ∈ aw := a7 (mh (i := 181) rfl) rfl
theorem se_X11_traders : Cond.selects RX11 yX11_traders yX11_traders ∈ aw := a7 (mh (i := 182) rfl) rfl
theorem co_X11_traders : Cond.code yX11_traders cX11_traders 2 (Option.some Jvm.ClassFile.FieldType.int) ∈ aw := a7 (mh (i := 183) rfl) rfl
theorem im_X11_gain : Cond.instanceMethod yX11_gain ∈ aw := a7 (mh (i := 193) rfl) rfl
theorem se_X11_gain : Cond.selects RX11 yX11_gain yX11_gain ∈ aw := a7 (mh (i := 194) rfl) rfl
theorem co_X11_gain : Cond.code yX11_gain cX11_gain 4 (Option.some Jvm.ClassFile.FieldType.int) ∈ aw := a7 (mh (i := 195) rfl) rfl
theorem im_X11_behind : Cond.instanceMethod yX11_behind ∈ aw := a7 (mh (i := 198) rfl) rfl
theorem se_X11_behind : Cond.selects RX11 yX11_behind yX11_behind ∈ aw := a7 (mh (i := 199) rfl) rfl
theorem co_X11_behind : Cond.code yX11_behind cX11_behind 2 (Option.some Jvm.ClassFile.FieldType.int) ∈ aw := a7 (mh (i := 200) rfl) rfl
theorem im_X11_rests : Cond.instanceMethod yX11_rests ∈ aw := a7 (mh (i := 202) rfl) rfl
theorem se_X11_rests : Cond.selects RX11 yX11_rests yX11_rests ∈ aw := a7 (mh (i := 203) rfl) rfl
theorem co_X11_rests : Cond.code yX11_rests cX11_rests 3 (Option.some Jvm.ClassFile.FieldType.int) ∈ aw := a7 (mh (i := 204) rfl) rfl
theorem st_X11_lowestOf : Cond.static yX11_lowestOf ∈ aw := a7 (mh (i := 218) rfl) rfl
theorem co_X11_lowestOf : Cond.code yX11_lowestOf cX11_lowestOf 2 (Option.some Jvm.ClassFile.FieldType.int) ∈ aw := a7 (mh (i := 219) rfl) rfl
theorem im_X11_tradesOnce : Cond.instanceMethod yX11_tradesOnce ∈ aw := a7 (mh (i := 215) rfl) rfl
theorem se_X11_tradesOnce : Cond.selects RX11 yX11_tradesOnce yX11_tradesOnce ∈ aw := asel (p11 _ (mh (i := 0) rfl))
theorem co_X11_tradesOnce : Cond.code yX11_tradesOnce cX11_tradesOnce 3 (Option.some Jvm.ClassFile.FieldType.boolean) ∈ aw := a7 (mh (i := 216) rfl) rfl
theorem im_X11_settles : Cond.instanceMethod yX11_settles ∈ aw := a7 (mh (i := 210) rfl) rfl
theorem se_X11_settles : Cond.selects RX11 yX11_settles yX11_settles ∈ aw := a7 (mh (i := 211) rfl) rfl
theorem co_X11_settles : Cond.code yX11_settles cX11_settles 2 (Option.some Jvm.ClassFile.FieldType.int) ∈ aw := a7 (mh (i := 212) rfl) rfl
theorem im_X11_dreadOf : Cond.instanceMethod yX11_dreadOf ∈ aw := a7 (mh (i := 226) rfl) rfl
theorem se_X11_dreadOf : Cond.selects RX11 yX11_dreadOf yX11_dreadOf ∈ aw := asel (p11 _ (mh (i := 1) rfl))
theorem co_X11_dreadOf : Cond.code yX11_dreadOf cX11_dreadOf 4 (Option.some Jvm.ClassFile.FieldType.int) ∈ aw := a7 (mh (i := 227) rfl) rfl
theorem im_X11_shunned : Cond.instanceMethod yX11_shunned ∈ aw := a7 (mh (i := 221) rfl) rfl
theorem se_X11_shunned : Cond.selects RX11 yX11_shunned yX11_shunned ∈ aw := a7 (mh (i := 222) rfl) rfl
theorem co_X11_shunned : Cond.code yX11_shunned cX11_shunned 5 (Option.some Jvm.ClassFile.FieldType.int) ∈ aw := a7 (mh (i := 223) rfl) rfl
theorem im_X11_doesBuy : Cond.instanceMethod yX11_doesBuy ∈ aw := a7 (mh (i := 238) rfl) rfl
theorem se_X11_doesBuy : Cond.selects RX11 yX11_doesBuy yX11_doesBuy ∈ aw := asel (p11 _ (mh (i := 3) rfl))
theorem co_X11_doesBuy : Cond.code yX11_doesBuy cX11_doesBuy 6 (Option.some Jvm.ClassFile.FieldType.boolean) ∈ aw := a7 (mh (i := 239) rfl) rfl
theorem im_X11_buyersNow : Cond.instanceMethod yX11_buyersNow ∈ aw := a7 (mh (i := 234) rfl) rfl
theorem se_X11_buyersNow : Cond.selects RX11 yX11_buyersNow yX11_buyersNow ∈ aw := asel (p11 _ (mh (i := 2) rfl))
theorem co_X11_buyersNow : Cond.code yX11_buyersNow cX11_buyersNow 3 (Option.some Jvm.ClassFile.FieldType.int) ∈ aw := a7 (mh (i := 235) rfl) rfl
theorem im_X11_buyers : Cond.instanceMethod yX11_buyers ∈ aw := a7 (mh (i := 229) rfl) rfl
theorem se_X11_buyers : Cond.selects RX11 yX11_buyers yX11_buyers ∈ aw := a7 (mh (i := 230) rfl) rfl
theorem co_X11_buyers : Cond.code yX11_buyers cX11_buyers 1 (Option.some Jvm.ClassFile.FieldType.int) ∈ aw := a7 (mh (i := 231) rfl) rfl
theorem im_X11_without : Cond.instanceMethod yX11_without ∈ aw := a8 (mh (i := 6) rfl) rfl
theorem se_X11_without : Cond.selects RX11 yX11_without yX11_without ∈ aw := asel (p11 _ (mh (i := 4) rfl))
theorem co_X11_without : Cond.code yX11_without cX11_without 2 (Option.some Jvm.ClassFile.FieldType.int) ∈ aw := a8 (mh (i := 7) rfl) rfl
theorem im_X11_lighter : Cond.instanceMethod yX11_lighter ∈ aw := a8 (mh (i := 1) rfl) rfl
theorem se_X11_lighter : Cond.selects RX11 yX11_lighter yX11_lighter ∈ aw := a8 (mh (i := 2) rfl) rfl
theorem co_X11_lighter : Cond.code yX11_lighter cX11_lighter 6 (Option.some Jvm.ClassFile.FieldType.int) ∈ aw := a8 (mh (i := 3) rfl) rfl
theorem im_X11_furthest : Cond.instanceMethod yX11_furthest ∈ aw := a8 (mh (i := 9) rfl) rfl
theorem se_X11_furthest : Cond.selects RX11 yX11_furthest yX11_furthest ∈ aw := a8 (mh (i := 10) rfl) rfl
theorem co_X11_furthest : Cond.code yX11_furthest cX11_furthest 7 (Option.some Jvm.ClassFile.FieldType.int) ∈ aw := a8 (mh (i := 11) rfl) rfl
theorem im_X11_then : Cond.instanceMethod yX11_then ∈ aw := a8 (mh (i := 13) rfl) rfl
theorem se_X11_then : Cond.selects RX11 yX11_then yX11_then ∈ aw := a8 (mh (i := 14) rfl) rfl
theorem co_X11_then : Cond.code yX11_then cX11_then 3 (Option.some Jvm.ClassFile.FieldType.int) ∈ aw := a8 (mh (i := 15) rfl) rfl
theorem im_X11_listIn : Cond.instanceMethod yX11_listIn ∈ aw := a8 (mh (i := 17) rfl) rfl
theorem se_X11_listIn : Cond.selects RX11 yX11_listIn yX11_listIn ∈ aw := a8 (mh (i := 18) rfl) rfl
theorem co_X11_listIn : Cond.code yX11_listIn cX11_listIn 3 (Option.some Jvm.ClassFile.FieldType.int) ∈ aw := a8 (mh (i := 19) rfl) rfl
theorem im_X11_year : Cond.instanceMethod yX11_year ∈ aw := a8 (mh (i := 21) rfl) rfl
theorem se_X11_year : Cond.selects RX11 yX11_year yX11_year ∈ aw := a8 (mh (i := 22) rfl) rfl
theorem co_X11_year : Cond.code yX11_year cX11_year 6 (Option.some Jvm.ClassFile.FieldType.int) ∈ aw := a8 (mh (i := 23) rfl) rfl
theorem st_X11_isMark : Cond.static yX11_isMark ∈ aw := a8 (mh (i := 29) rfl) rfl
theorem co_X11_isMark : Cond.code yX11_isMark cX11_isMark 1 (Option.some Jvm.ClassFile.FieldType.boolean) ∈ aw := a8 (mh (i := 30) rfl) rfl
theorem im_X11_tell : Cond.instanceMethod yX11_tell ∈ aw := a8 (mh (i := 25) rfl) rfl
theorem se_X11_tell : Cond.selects RX11 yX11_tell yX11_tell ∈ aw := a8 (mh (i := 26) rfl) rfl
theorem co_X11_tell : Cond.code yX11_tell cX11_tell 4 (Option.some Jvm.ClassFile.FieldType.int) ∈ aw := a8 (mh (i := 27) rfl) rfl
theorem im_X11_forget : Cond.instanceMethod yX11_forget ∈ aw := a8 (mh (i := 32) rfl) rfl
theorem se_X11_forget : Cond.selects RX11 yX11_forget yX11_forget ∈ aw := a8 (mh (i := 33) rfl) rfl
theorem co_X11_forget : Cond.code yX11_forget cX11_forget 2 (Option.some Jvm.ClassFile.FieldType.int) ∈ aw := a8 (mh (i := 34) rfl) rfl
theorem im_X11_doesFit : Cond.instanceMethod yX11_doesFit ∈ aw := a8 (mh (i := 41) rfl) rfl
theorem se_X11_doesFit : Cond.selects RX11 yX11_doesFit yX11_doesFit ∈ aw := asel (p11 _ (mh (i := 5) rfl))
theorem co_X11_doesFit : Cond.code yX11_doesFit cX11_doesFit 3 (Option.some Jvm.ClassFile.FieldType.boolean) ∈ aw := a8 (mh (i := 42) rfl) rfl
theorem im_X11_numberNow : Cond.instanceMethod yX11_numberNow ∈ aw := a8 (mh (i := 45) rfl) rfl
theorem se_X11_numberNow : Cond.selects RX11 yX11_numberNow yX11_numberNow ∈ aw := asel (p11 _ (mh (i := 6) rfl))
theorem co_X11_numberNow : Cond.code yX11_numberNow cX11_numberNow 3 (Option.some Jvm.ClassFile.FieldType.int) ∈ aw := a8 (mh (i := 46) rfl) rfl
theorem im_X11_fits : Cond.instanceMethod yX11_fits ∈ aw := a8 (mh (i := 36) rfl) rfl
theorem se_X11_fits : Cond.selects RX11 yX11_fits yX11_fits ∈ aw := a8 (mh (i := 37) rfl) rfl
theorem co_X11_fits : Cond.code yX11_fits cX11_fits 6 (Option.some Jvm.ClassFile.FieldType.int) ∈ aw := a8 (mh (i := 38) rfl) rfl
theorem im_X11_ask : Cond.instanceMethod yX11_ask ∈ aw := a8 (mh (i := 48) rfl) rfl
theorem se_X11_ask : Cond.selects RX11 yX11_ask yX11_ask ∈ aw := a8 (mh (i := 49) rfl) rfl
theorem co_X11_ask : Cond.code yX11_ask cX11_ask 9 (Option.some Jvm.ClassFile.FieldType.int) ∈ aw := a8 (mh (i := 50) rfl) rfl
theorem im_X11_hold : Cond.instanceMethod yX11_hold ∈ aw := a8 (mh (i := 52) rfl) rfl
theorem se_X11_hold : Cond.selects RX11 yX11_hold yX11_hold ∈ aw := a8 (mh (i := 53) rfl) rfl
theorem co_X11_hold : Cond.code yX11_hold cX11_hold 3 (Option.some Jvm.ClassFile.FieldType.boolean) ∈ aw := a8 (mh (i := 54) rfl) rfl
theorem im_X11_restore : Cond.instanceMethod yX11_restore ∈ aw := a8 (mh (i := 56) rfl) rfl
theorem se_X11_restore : Cond.selects RX11 yX11_restore yX11_restore ∈ aw := a8 (mh (i := 57) rfl) rfl
theorem co_X11_restore : Cond.code yX11_restore cX11_restore 3 (Option.some Jvm.ClassFile.FieldType.boolean) ∈ aw := a8 (mh (i := 58) rfl) rfl
theorem im_X11_sumNow : Cond.instanceMethod yX11_sumNow ∈ aw := a8 (mh (i := 65) rfl) rfl
theorem se_X11_sumNow : Cond.selects RX11 yX11_sumNow yX11_sumNow ∈ aw := asel (p11 _ (mh (i := 7) rfl))
theorem co_X11_sumNow : Cond.code yX11_sumNow cX11_sumNow 4 (Option.some Jvm.ClassFile.FieldType.int) ∈ aw := a8 (mh (i := 66) rfl) rfl
theorem im_X11_count : Cond.instanceMethod yX11_count ∈ aw := a8 (mh (i := 60) rfl) rfl
theorem se_X11_count : Cond.selects RX11 yX11_count yX11_count ∈ aw := a8 (mh (i := 61) rfl) rfl
theorem co_X11_count : Cond.code yX11_count cX11_count 4 (Option.some Jvm.ClassFile.FieldType.int) ∈ aw := a8 (mh (i := 62) rfl) rfl
theorem st_J11_isValidCodePoint_9a6ad : Cond.static yJ11_isValidCodePoint_9a6ad ∈ aw := a3 (mh (i := 68) rfl) rfl
theorem co_J11_isValidCodePoint_9a6ad : Cond.code yJ11_isValidCodePoint_9a6ad cJ11_isValidCodePoint_9a6ad 2 (Option.some Jvm.ClassFile.FieldType.boolean) ∈ aw := a3 (mh (i := 69) rfl) rfl
theorem st_J11_highSurrogate_5068e : Cond.static yJ11_highSurrogate_5068e ∈ aw := a3 (mh (i := 71) rfl) rfl
theorem co_J11_highSurrogate_5068e : Cond.code yJ11_highSurrogate_5068e cJ11_highSurrogate_5068e 1 (Option.some Jvm.ClassFile.FieldType.char) ∈ aw := a3 (mh (i := 72) rfl) rfl
theorem st_J11_lowSurrogate_5068e : Cond.static yJ11_lowSurrogate_5068e ∈ aw := a3 (mh (i := 75) rfl) rfl
theorem co_J11_lowSurrogate_5068e : Cond.code yJ11_lowSurrogate_5068e cJ11_lowSurrogate_5068e 1 (Option.some Jvm.ClassFile.FieldType.char) ∈ aw := a3 (mh (i := 76) rfl) rfl
theorem st_J6_numberOfTrailingZeros_0f7a4 : Cond.static yJ6_numberOfTrailingZeros_0f7a4 ∈ aw := a4 (mh (i := 239) rfl) rfl
theorem co_J6_numberOfTrailingZeros_0f7a4 : Cond.code yJ6_numberOfTrailingZeros_0f7a4 cJ6_numberOfTrailingZeros_0f7a4 2 (Option.some Jvm.ClassFile.FieldType.int) ∈ aw := a5 (mh (i := 0) rfl) rfl
theorem st_J6_bitCount_0f7a4 : Cond.static yJ6_bitCount_0f7a4 ∈ aw := a5 (mh (i := 140) rfl) rfl
theorem co_J6_bitCount_0f7a4 : Cond.code yJ6_bitCount_0f7a4 cJ6_bitCount_0f7a4 1 (Option.some Jvm.ClassFile.FieldType.int) ∈ aw := a5 (mh (i := 141) rfl) rfl
theorem st_J9_floorMod_7cf53 : Cond.static yJ9_floorMod_7cf53 ∈ aw := a4 (mh (i := 27) rfl) rfl
theorem co_J9_floorMod_7cf53 : Cond.code yJ9_floorMod_7cf53 cJ9_floorMod_7cf53 3 (Option.some Jvm.ClassFile.FieldType.int) ∈ aw := a4 (mh (i := 28) rfl) rfl
theorem st_J9_abs_0f7a4 : Cond.static yJ9_abs_0f7a4 ∈ aw := a4 (mh (i := 153) rfl) rfl
theorem co_J9_abs_0f7a4 : Cond.code yJ9_abs_0f7a4 cJ9_abs_0f7a4 1 (Option.some Jvm.ClassFile.FieldType.int) ∈ aw := a4 (mh (i := 154) rfl) rfl
theorem st_J9_max_7cf53 : Cond.static yJ9_max_7cf53 ∈ aw := a3 (mh (i := 35) rfl) rfl
theorem co_J9_max_7cf53 : Cond.code yJ9_max_7cf53 cJ9_max_7cf53 2 (Option.some Jvm.ClassFile.FieldType.int) ∈ aw := a3 (mh (i := 36) rfl) rfl
theorem st_J9_min_7cf53 : Cond.static yJ9_min_7cf53 ∈ aw := a3 (mh (i := 38) rfl) rfl
theorem co_J9_min_7cf53 : Cond.code yJ9_min_7cf53 cJ9_min_7cf53 2 (Option.some Jvm.ClassFile.FieldType.int) ∈ aw := a3 (mh (i := 39) rfl) rfl
theorem im_J0_length_8abf5 : Cond.instanceMethod yJ0_length_8abf5 ∈ aw := a2 (mh (i := 203) rfl) rfl
theorem se_J0_length_8abf5 : Cond.selects RJ0 yJ0_length_8abf5 yJ0_length_8abf5 ∈ aw := a2 (mh (i := 204) rfl) rfl
theorem co_J0_length_8abf5 : Cond.code yJ0_length_8abf5 cJ0_length_8abf5 1 (Option.some Jvm.ClassFile.FieldType.int) ∈ aw := a2 (mh (i := 205) rfl) rfl
theorem im_J0_charAt_5068e : Cond.instanceMethod yJ0_charAt_5068e ∈ aw := a2 (mh (i := 213) rfl) rfl
theorem se_J0_charAt_5068e : Cond.selects RJ0 yJ0_charAt_5068e yJ0_charAt_5068e ∈ aw := a2 (mh (i := 214) rfl) rfl
theorem co_J0_charAt_5068e : Cond.code yJ0_charAt_5068e cJ0_charAt_5068e 2 (Option.some Jvm.ClassFile.FieldType.char) ∈ aw := a2 (mh (i := 215) rfl) rfl
theorem im_J0_indexOf_0f7a4 : Cond.instanceMethod yJ0_indexOf_0f7a4 ∈ aw := a3 (mh (i := 20) rfl) rfl
theorem se_J0_indexOf_0f7a4 : Cond.selects RJ0 yJ0_indexOf_0f7a4 yJ0_indexOf_0f7a4 ∈ aw := a3 (mh (i := 21) rfl) rfl
theorem co_J0_indexOf_0f7a4 : Cond.code yJ0_indexOf_0f7a4 cJ0_indexOf_0f7a4 2 (Option.some Jvm.ClassFile.FieldType.int) ∈ aw := a3 (mh (i := 22) rfl) rfl
theorem im_J0_indexOf_7cf53 : Cond.instanceMethod yJ0_indexOf_7cf53 ∈ aw := a3 (mh (i := 24) rfl) rfl
theorem se_J0_indexOf_7cf53 : Cond.selects RJ0 yJ0_indexOf_7cf53 yJ0_indexOf_7cf53 ∈ aw := a3 (mh (i := 25) rfl) rfl
theorem co_J0_indexOf_7cf53 : Cond.code yJ0_indexOf_7cf53 cJ0_indexOf_7cf53 3 (Option.some Jvm.ClassFile.FieldType.int) ∈ aw := a3 (mh (i := 26) rfl) rfl
theorem im_J0_coder_7d493 : Cond.instanceMethod yJ0_coder_7d493 ∈ aw := a2 (mh (i := 207) rfl) rfl
theorem se_J0_coder_7d493 : Cond.selects RJ0 yJ0_coder_7d493 yJ0_coder_7d493 ∈ aw := a2 (mh (i := 208) rfl) rfl
theorem co_J0_coder_7d493 : Cond.code yJ0_coder_7d493 cJ0_coder_7d493 1 (Option.some Jvm.ClassFile.FieldType.byte) ∈ aw := a2 (mh (i := 209) rfl) rfl
theorem im_J0_isLatin1_aae02 : Cond.instanceMethod yJ0_isLatin1_aae02 ∈ aw := a2 (mh (i := 217) rfl) rfl
theorem se_J0_isLatin1_aae02 : Cond.selects RJ0 yJ0_isLatin1_aae02 yJ0_isLatin1_aae02 ∈ aw := a2 (mh (i := 218) rfl) rfl
theorem co_J0_isLatin1_aae02 : Cond.code yJ0_isLatin1_aae02 cJ0_isLatin1_aae02 1 (Option.some Jvm.ClassFile.FieldType.boolean) ∈ aw := a2 (mh (i := 219) rfl) rfl
theorem st_J0_checkIndex_df160 : Cond.static yJ0_checkIndex_df160 ∈ aw := a2 (mh (i := 224) rfl) rfl
theorem co_J0_checkIndex_df160 : Cond.code yJ0_checkIndex_df160 cJ0_checkIndex_df160 2 (Option.none : Option Jvm.ClassFile.FieldType) ∈ aw := a2 (mh (i := 225) rfl) rfl
theorem st_J0_checkBoundsBeginEnd_23922 : Cond.static yJ0_checkBoundsBeginEnd_23922 ∈ aw := a3 (mh (i := 56) rfl) rfl
theorem co_J0_checkBoundsBeginEnd_23922 : Cond.code yJ0_checkBoundsBeginEnd_23922 cJ0_checkBoundsBeginEnd_23922 3 (Option.none : Option Jvm.ClassFile.FieldType) ∈ aw := a3 (mh (i := 57) rfl) rfl
theorem st_J1_charAt_3b067 : Cond.static yJ1_charAt_3b067 ∈ aw := a2 (mh (i := 221) rfl) rfl
theorem co_J1_charAt_3b067 : Cond.code yJ1_charAt_3b067 cJ1_charAt_3b067 2 (Option.some Jvm.ClassFile.FieldType.char) ∈ aw := a2 (mh (i := 222) rfl) rfl
theorem st_J1_canEncode_9a6ad : Cond.static yJ1_canEncode_9a6ad ∈ aw := a3 (mh (i := 32) rfl) rfl
theorem co_J1_canEncode_9a6ad : Cond.code yJ1_canEncode_9a6ad cJ1_canEncode_9a6ad 1 (Option.some Jvm.ClassFile.FieldType.boolean) ∈ aw := a3 (mh (i := 33) rfl) rfl
theorem st_J1_indexOf_4cfef : Cond.static yJ1_indexOf_4cfef ∈ aw := a3 (mh (i := 29) rfl) rfl
theorem co_J1_indexOf_4cfef : Cond.code yJ1_indexOf_4cfef cJ1_indexOf_4cfef 4 (Option.some Jvm.ClassFile.FieldType.int) ∈ aw := a3 (mh (i := 30) rfl) rfl
theorem st_J1_indexOfChar_4cfef : Cond.static yJ1_indexOfChar_4cfef ∈ aw := a3 (mh (i := 41) rfl) rfl
theorem co_J1_indexOfChar_4cfef : Cond.code yJ1_indexOfChar_4cfef cJ1_indexOfChar_4cfef 6 (Option.some Jvm.ClassFile.FieldType.int) ∈ aw := a3 (mh (i := 42) rfl) rfl
theorem st_J2_getChar_3b067 : Cond.static yJ2_getChar_3b067 ∈ aw := a3 (mh (i := 2) rfl) rfl
theorem co_J2_getChar_3b067 : Cond.code yJ2_getChar_3b067 cJ2_getChar_3b067 2 (Option.some Jvm.ClassFile.FieldType.char) ∈ aw := a3 (mh (i := 3) rfl) rfl
theorem st_J2_length_9d52b : Cond.static yJ2_length_9d52b ∈ aw := a2 (mh (i := 238) rfl) rfl
theorem co_J2_length_9d52b : Cond.code yJ2_length_9d52b cJ2_length_9d52b 1 (Option.some Jvm.ClassFile.FieldType.int) ∈ aw := a2 (mh (i := 239) rfl) rfl
theorem st_J2_indexOf_4cfef : Cond.static yJ2_indexOf_4cfef ∈ aw := a3 (mh (i := 44) rfl) rfl
theorem co_J2_indexOf_4cfef : Cond.code yJ2_indexOf_4cfef cJ2_indexOf_4cfef 4 (Option.some Jvm.ClassFile.FieldType.int) ∈ aw := a3 (mh (i := 45) rfl) rfl
theorem st_J2_indexOfChar_4cfef : Cond.static yJ2_indexOfChar_4cfef ∈ aw := a3 (mh (i := 50) rfl) rfl
theorem co_J2_indexOfChar_4cfef : Cond.code yJ2_indexOfChar_4cfef cJ2_indexOfChar_4cfef 4 (Option.some Jvm.ClassFile.FieldType.int) ∈ aw := a3 (mh (i := 51) rfl) rfl
theorem st_J2_indexOfCharUnsafe_4cfef : Cond.static yJ2_indexOfCharUnsafe_4cfef ∈ aw := a3 (mh (i := 62) rfl) rfl
theorem co_J2_indexOfCharUnsafe_4cfef : Cond.code yJ2_indexOfCharUnsafe_4cfef cJ2_indexOfCharUnsafe_4cfef 5 (Option.some Jvm.ClassFile.FieldType.int) ∈ aw := a3 (mh (i := 63) rfl) rfl
theorem st_J2_indexOfSupplementary_4cfef : Cond.static yJ2_indexOfSupplementary_4cfef ∈ aw := a3 (mh (i := 65) rfl) rfl
theorem co_J2_indexOfSupplementary_4cfef : Cond.code yJ2_indexOfSupplementary_4cfef cJ2_indexOfSupplementary_4cfef 7 (Option.some Jvm.ClassFile.FieldType.int) ∈ aw := a3 (mh (i := 66) rfl) rfl
theorem st_J2_charAt_3b067 : Cond.static yJ2_charAt_3b067 ∈ aw := a2 (mh (i := 232) rfl) rfl
theorem co_J2_charAt_3b067 : Cond.code yJ2_charAt_3b067 cJ2_charAt_3b067 2 (Option.some Jvm.ClassFile.FieldType.char) ∈ aw := a2 (mh (i := 233) rfl) rfl
theorem st_J2_checkIndex_2214a : Cond.static yJ2_checkIndex_2214a ∈ aw := a2 (mh (i := 235) rfl) rfl
theorem co_J2_checkIndex_2214a : Cond.code yJ2_checkIndex_2214a cJ2_checkIndex_2214a 2 (Option.none : Option Jvm.ClassFile.FieldType) ∈ aw := a2 (mh (i := 236) rfl) rfl
theorem st_J2_checkBoundsBeginEnd_d044e : Cond.static yJ2_checkBoundsBeginEnd_d044e ∈ aw := a3 (mh (i := 53) rfl) rfl
theorem co_J2_checkBoundsBeginEnd_d044e : Cond.code yJ2_checkBoundsBeginEnd_d044e cJ2_checkBoundsBeginEnd_d044e 3 (Option.none : Option Jvm.ClassFile.FieldType) ∈ aw := a3 (mh (i := 54) rfl) rfl
theorem st_J3_checkIndex_8e157 : Cond.static yJ3_checkIndex_8e157 ∈ aw := a2 (mh (i := 229) rfl) rfl
theorem co_J3_checkIndex_8e157 : Cond.code yJ3_checkIndex_8e157 cJ3_checkIndex_8e157 3 (Option.some Jvm.ClassFile.FieldType.int) ∈ aw := a2 (mh (i := 230) rfl) rfl
theorem st_J3_checkFromToIndex_8c36e : Cond.static yJ3_checkFromToIndex_8c36e ∈ aw := a3 (mh (i := 59) rfl) rfl
theorem co_J3_checkFromToIndex_8c36e : Cond.code yJ3_checkFromToIndex_8c36e cJ3_checkFromToIndex_8c36e 4 (Option.some Jvm.ClassFile.FieldType.int) ∈ aw := a3 (mh (i := 60) rfl) rfl
theorem uw0 : ∀ x ∈ u_ws RX0 TX0 3, x ∈ aw := by
  intro x hx
  obtain ⟨k, hk, rfl⟩ := List.mem_map.mp hx
  have hk := List.mem_range.mp hk
  match k, hk with
  | 0, _ => exact a2 (mh (i := 102) rfl) rfl
  | 1, _ => exact a2 (mh (i := 104) rfl) rfl
  | 2, _ => exact a2 (mh (i := 106) rfl) rfl
theorem uw1 : ∀ x ∈ u_ws RX1 TX1 4, x ∈ aw := by
  intro x hx
  obtain ⟨k, hk, rfl⟩ := List.mem_map.mp hx
  have hk := List.mem_range.mp hk
  match k, hk with
  | 0, _ => exact a1 (mh (i := 181) rfl) rfl
  | 1, _ => exact a1 (mh (i := 183) rfl) rfl
  | 2, _ => exact a1 (mh (i := 185) rfl) rfl
  | 3, _ => exact a1 (mh (i := 187) rfl) rfl
theorem uw2 : ∀ x ∈ u_ws RX2 TX2 8, x ∈ aw := by
  intro x hx
  obtain ⟨k, hk, rfl⟩ := List.mem_map.mp hx
  have hk := List.mem_range.mp hk
  match k, hk with
  | 0, _ => exact a1 (mh (i := 207) rfl) rfl
  | 1, _ => exact a1 (mh (i := 209) rfl) rfl
  | 2, _ => exact a1 (mh (i := 211) rfl) rfl
  | 3, _ => exact a1 (mh (i := 213) rfl) rfl
  | 4, _ => exact a1 (mh (i := 215) rfl) rfl
  | 5, _ => exact a1 (mh (i := 217) rfl) rfl
  | 6, _ => exact a1 (mh (i := 219) rfl) rfl
  | 7, _ => exact a1 (mh (i := 221) rfl) rfl
theorem uw3 : ∀ x ∈ u_ws RX3 TX3 5, x ∈ aw := by
  intro x hx
  obtain ⟨k, hk, rfl⟩ := List.mem_map.mp hx
  have hk := List.mem_range.mp hk
  match k, hk with
  | 0, _ => exact a2 (mh (i := 44) rfl) rfl
  | 1, _ => exact a2 (mh (i := 46) rfl) rfl
  | 2, _ => exact a2 (mh (i := 48) rfl) rfl
  | 3, _ => exact a2 (mh (i := 50) rfl) rfl
  | 4, _ => exact a2 (mh (i := 52) rfl) rfl
theorem uw4 : ∀ x ∈ u_ws RX4 TX4 7, x ∈ aw := by
  intro x hx
  obtain ⟨k, hk, rfl⟩ := List.mem_map.mp hx
  have hk := List.mem_range.mp hk
  match k, hk with
  | 0, _ => exact a1 (mh (i := 156) rfl) rfl
  | 1, _ => exact a1 (mh (i := 158) rfl) rfl
  | 2, _ => exact a1 (mh (i := 160) rfl) rfl
  | 3, _ => exact a1 (mh (i := 162) rfl) rfl
  | 4, _ => exact a1 (mh (i := 164) rfl) rfl
  | 5, _ => exact a1 (mh (i := 166) rfl) rfl
  | 6, _ => exact a1 (mh (i := 168) rfl) rfl
theorem uw5 : ∀ x ∈ u_ws RX5 TX5 6, x ∈ aw := by
  intro x hx
  obtain ⟨k, hk, rfl⟩ := List.mem_map.mp hx
  have hk := List.mem_range.mp hk
  match k, hk with
  | 0, _ => exact a1 (mh (i := 134) rfl) rfl
  | 1, _ => exact a1 (mh (i := 136) rfl) rfl
  | 2, _ => exact a1 (mh (i := 138) rfl) rfl
  | 3, _ => exact a1 (mh (i := 140) rfl) rfl
  | 4, _ => exact a1 (mh (i := 142) rfl) rfl
  | 5, _ => exact a1 (mh (i := 144) rfl) rfl
theorem uw6 : ∀ x ∈ u_ws RX6 TX6 8, x ∈ aw := by
  intro x hx
  obtain ⟨k, hk, rfl⟩ := List.mem_map.mp hx
  have hk := List.mem_range.mp hk
  match k, hk with
  | 0, _ => exact a2 (mh (i := 22) rfl) rfl
  | 1, _ => exact a2 (mh (i := 24) rfl) rfl
  | 2, _ => exact a2 (mh (i := 26) rfl) rfl
  | 3, _ => exact a2 (mh (i := 28) rfl) rfl
  | 4, _ => exact a2 (mh (i := 30) rfl) rfl
  | 5, _ => exact a2 (mh (i := 32) rfl) rfl
  | 6, _ => exact a2 (mh (i := 34) rfl) rfl
  | 7, _ => exact a2 (mh (i := 36) rfl) rfl
theorem uw7 : ∀ x ∈ u_ws RX7 TX7 2, x ∈ aw := by
  intro x hx
  obtain ⟨k, hk, rfl⟩ := List.mem_map.mp hx
  have hk := List.mem_range.mp hk
  match k, hk with
  | 0, _ => exact a1 (mh (i := 39) rfl) rfl
  | 1, _ => exact a1 (mh (i := 41) rfl) rfl
theorem uw8 : ∀ x ∈ u_ws RX8 TX8 9, x ∈ aw := by
  intro x hx
  obtain ⟨k, hk, rfl⟩ := List.mem_map.mp hx
  have hk := List.mem_range.mp hk
  match k, hk with
  | 0, _ => exact a1 (mh (i := 90) rfl) rfl
  | 1, _ => exact a1 (mh (i := 92) rfl) rfl
  | 2, _ => exact a1 (mh (i := 94) rfl) rfl
  | 3, _ => exact a1 (mh (i := 96) rfl) rfl
  | 4, _ => exact a1 (mh (i := 98) rfl) rfl
  | 5, _ => exact a1 (mh (i := 100) rfl) rfl
  | 6, _ => exact a1 (mh (i := 102) rfl) rfl
  | 7, _ => exact a1 (mh (i := 104) rfl) rfl
  | 8, _ => exact a1 (mh (i := 106) rfl) rfl
theorem uw9 : ∀ x ∈ u_ws RX9 TX9 7, x ∈ aw := by
  intro x hx
  obtain ⟨k, hk, rfl⟩ := List.mem_map.mp hx
  have hk := List.mem_range.mp hk
  match k, hk with
  | 0, _ => exact a2 (mh (i := 71) rfl) rfl
  | 1, _ => exact a2 (mh (i := 73) rfl) rfl
  | 2, _ => exact a2 (mh (i := 75) rfl) rfl
  | 3, _ => exact a2 (mh (i := 77) rfl) rfl
  | 4, _ => exact a2 (mh (i := 79) rfl) rfl
  | 5, _ => exact a2 (mh (i := 81) rfl) rfl
  | 6, _ => exact a2 (mh (i := 83) rfl) rfl
theorem uw10 : ∀ x ∈ u_ws RX10 TX10 12, x ∈ aw := by
  intro x hx
  obtain ⟨k, hk, rfl⟩ := List.mem_map.mp hx
  have hk := List.mem_range.mp hk
  match k, hk with
  | 0, _ => exact a2 (mh (i := 121) rfl) rfl
  | 1, _ => exact a2 (mh (i := 123) rfl) rfl
  | 2, _ => exact a2 (mh (i := 125) rfl) rfl
  | 3, _ => exact a2 (mh (i := 127) rfl) rfl
  | 4, _ => exact a2 (mh (i := 129) rfl) rfl
  | 5, _ => exact a2 (mh (i := 131) rfl) rfl
  | 6, _ => exact a2 (mh (i := 133) rfl) rfl
  | 7, _ => exact a2 (mh (i := 135) rfl) rfl
  | 8, _ => exact a2 (mh (i := 137) rfl) rfl
  | 9, _ => exact a2 (mh (i := 139) rfl) rfl
  | 10, _ => exact a2 (mh (i := 141) rfl) rfl
  | 11, _ => exact a2 (mh (i := 143) rfl) rfl
theorem uw11 : ∀ x ∈ u_ws RX11 TX11 59, x ∈ aw := by
  intro x hx
  obtain ⟨k, hk, rfl⟩ := List.mem_map.mp hx
  have hk := List.mem_range.mp hk
  match k, hk with
  | 0, _ => exact a6 (mh (i := 10) rfl) rfl
  | 1, _ => exact a6 (mh (i := 12) rfl) rfl
  | 2, _ => exact a6 (mh (i := 14) rfl) rfl
  | 3, _ => exact a6 (mh (i := 16) rfl) rfl
  | 4, _ => exact a6 (mh (i := 18) rfl) rfl
  | 5, _ => exact a6 (mh (i := 20) rfl) rfl
  | 6, _ => exact a6 (mh (i := 22) rfl) rfl
  | 7, _ => exact a6 (mh (i := 24) rfl) rfl
  | 8, _ => exact a6 (mh (i := 26) rfl) rfl
  | 9, _ => exact a6 (mh (i := 28) rfl) rfl
  | 10, _ => exact a6 (mh (i := 30) rfl) rfl
  | 11, _ => exact a6 (mh (i := 32) rfl) rfl
  | 12, _ => exact a6 (mh (i := 34) rfl) rfl
  | 13, _ => exact a6 (mh (i := 36) rfl) rfl
  | 14, _ => exact a6 (mh (i := 38) rfl) rfl
  | 15, _ => exact a6 (mh (i := 40) rfl) rfl
  | 16, _ => exact a6 (mh (i := 42) rfl) rfl
  | 17, _ => exact a6 (mh (i := 44) rfl) rfl
  | 18, _ => exact a6 (mh (i := 46) rfl) rfl
  | 19, _ => exact a6 (mh (i := 48) rfl) rfl
  | 20, _ => exact a6 (mh (i := 50) rfl) rfl
  | 21, _ => exact a6 (mh (i := 52) rfl) rfl
  | 22, _ => exact a6 (mh (i := 54) rfl) rfl
  | 23, _ => exact a6 (mh (i := 56) rfl) rfl
  | 24, _ => exact a6 (mh (i := 58) rfl) rfl
  | 25, _ => exact a6 (mh (i := 60) rfl) rfl
  | 26, _ => exact a6 (mh (i := 62) rfl) rfl
  | 27, _ => exact a6 (mh (i := 64) rfl) rfl
  | 28, _ => exact a6 (mh (i := 66) rfl) rfl
  | 29, _ => exact a6 (mh (i := 68) rfl) rfl
  | 30, _ => exact a6 (mh (i := 70) rfl) rfl
  | 31, _ => exact a6 (mh (i := 72) rfl) rfl
  | 32, _ => exact a6 (mh (i := 74) rfl) rfl
  | 33, _ => exact a6 (mh (i := 76) rfl) rfl
  | 34, _ => exact a6 (mh (i := 78) rfl) rfl
  | 35, _ => exact a6 (mh (i := 80) rfl) rfl
  | 36, _ => exact a6 (mh (i := 82) rfl) rfl
  | 37, _ => exact a6 (mh (i := 84) rfl) rfl
  | 38, _ => exact a6 (mh (i := 86) rfl) rfl
  | 39, _ => exact a6 (mh (i := 88) rfl) rfl
  | 40, _ => exact a6 (mh (i := 90) rfl) rfl
  | 41, _ => exact a6 (mh (i := 92) rfl) rfl
  | 42, _ => exact a6 (mh (i := 94) rfl) rfl
  | 43, _ => exact a6 (mh (i := 96) rfl) rfl
  | 44, _ => exact a6 (mh (i := 98) rfl) rfl
  | 45, _ => exact a6 (mh (i := 100) rfl) rfl
  | 46, _ => exact a6 (mh (i := 102) rfl) rfl
  | 47, _ => exact a6 (mh (i := 104) rfl) rfl
  | 48, _ => exact a6 (mh (i := 106) rfl) rfl
  | 49, _ => exact a6 (mh (i := 108) rfl) rfl
  | 50, _ => exact a6 (mh (i := 110) rfl) rfl
  | 51, _ => exact a6 (mh (i := 112) rfl) rfl
  | 52, _ => exact a6 (mh (i := 114) rfl) rfl
  | 53, _ => exact a6 (mh (i := 116) rfl) rfl
  | 54, _ => exact a6 (mh (i := 118) rfl) rfl
  | 55, _ => exact a6 (mh (i := 120) rfl) rfl
  | 56, _ => exact a6 (mh (i := 122) rfl) rfl
  | 57, _ => exact a6 (mh (i := 124) rfl) rfl
  | 58, _ => exact a6 (mh (i := 126) rfl) rfl
  | k + 59, h => exact absurd h (by omega)
def fkL : List (List Nat) := [[2, 0, 0], [2, 2, 2, 2], [2, 2, 2, 2, 2, 0, 0, 0], [2, 2, 2, 0, 0], [2, 2, 0, 0, 0, 0, 0], [2, 2, 2, 2, 0, 1], [2, 2, 2, 0, 0, 0, 0, 0], [2, 0], [2, 2, 2, 2, 2, 0, 0, 0, 0], [2, 2, 2, 2, 0, 0, 0], [2, 2, 2, 2, 2, 2, 2, 2, 2, 2, 0, 0], [0, 2, 0, 2, 0, 2, 2, 2, 2, 2, 0, 0, 0, 0, 0, 0, 0, 0, 0, 0, 0, 2, 2, 2, 2, 2, 2, 2, 2, 0, 2, 2, 2, 2, 2, 0, 2, 2, 2, 0, 2, 2, 0, 2, 2, 0, 2, 0, 2, 2, 0, 0, 2, 2, 2, 2, 2, 2, 2]]
/-- what a field is: 0 int, 1 long, 2 a reference -/
def fk (ci k : Nat) : Nat := (fkL.getD ci []).getD k 0
