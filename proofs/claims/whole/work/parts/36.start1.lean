/-! THE START: what doesn't change, out of the Statement's premises -/
def stm (i : Nat) : Term := if i = 0 then .string "CaseBefore$Scanner" 66 else .string "CaseBefore$Scanner" 84
abbrev gvn : Cond := Jvm.Cond.and given_1 narrow_1
/-- one char of a constant -/
def stE (i j : Nat) (v : Int32) : Cond := .eq (.elem (.field (stm i) "java/lang/String" "value" "[B") (.int (Int32.ofNat j))) (.int v)
theorem st_cong {i j : Nat} {x v : Int32} (h : x = v) (hm : stE i j v ∈ flatC gvn) : stE i j x ∈ flatC gvn := by
  subst h; exact hm
theorem st_f0_0 : stE 0 0 ((wbyt.getD 0 []).getD 0 0) ∈ flatC gvn := st_cong (v := 59) (by decide +kernel) (mh (i := 169) rfl)
theorem st_f0_1 : stE 0 1 ((wbyt.getD 0 []).getD 1 0) ∈ flatC gvn := st_cong (v := 61) (by decide +kernel) (mh (i := 170) rfl)
theorem st_f0_2 : stE 0 2 ((wbyt.getD 0 []).getD 2 0) ∈ flatC gvn := st_cong (v := 43) (by decide +kernel) (mh (i := 171) rfl)
theorem st_f0_3 : stE 0 3 ((wbyt.getD 0 []).getD 3 0) ∈ flatC gvn := st_cong (v := 45) (by decide +kernel) (mh (i := 172) rfl)
theorem st_f0_4 : stE 0 4 ((wbyt.getD 0 []).getD 4 0) ∈ flatC gvn := st_cong (v := 42) (by decide +kernel) (mh (i := 173) rfl)
theorem st_f0_5 : stE 0 5 ((wbyt.getD 0 []).getD 5 0) ∈ flatC gvn := st_cong (v := 47) (by decide +kernel) (mh (i := 174) rfl)
theorem st_f0_6 : stE 0 6 ((wbyt.getD 0 []).getD 6 0) ∈ flatC gvn := st_cong (v := 60) (by decide +kernel) (mh (i := 175) rfl)
theorem st_f0_7 : stE 0 7 ((wbyt.getD 0 []).getD 7 0) ∈ flatC gvn := st_cong (v := 40) (by decide +kernel) (mh (i := 176) rfl)
theorem st_f0_8 : stE 0 8 ((wbyt.getD 0 []).getD 8 0) ∈ flatC gvn := st_cong (v := 41) (by decide +kernel) (mh (i := 177) rfl)
theorem st_f1_0 : stE 1 0 ((wbyt.getD 1 []).getD 0 0) ∈ flatC gvn := st_cong (v := 99) (by decide +kernel) (mh (i := 13) rfl)
theorem st_f1_1 : stE 1 1 ((wbyt.getD 1 []).getD 1 0) ∈ flatC gvn := st_cong (v := 97) (by decide +kernel) (mh (i := 14) rfl)
theorem st_f1_2 : stE 1 2 ((wbyt.getD 1 []).getD 2 0) ∈ flatC gvn := st_cong (v := 115) (by decide +kernel) (mh (i := 15) rfl)
theorem st_f1_3 : stE 1 3 ((wbyt.getD 1 []).getD 3 0) ∈ flatC gvn := st_cong (v := 101) (by decide +kernel) (mh (i := 16) rfl)
theorem st_f1_4 : stE 1 4 ((wbyt.getD 1 []).getD 4 0) ∈ flatC gvn := st_cong (v := 32) (by decide +kernel) (mh (i := 17) rfl)
theorem st_f1_5 : stE 1 5 ((wbyt.getD 1 []).getD 5 0) ∈ flatC gvn := st_cong (v := 32) (by decide +kernel) (mh (i := 18) rfl)
theorem st_f1_6 : stE 1 6 ((wbyt.getD 1 []).getD 6 0) ∈ flatC gvn := st_cong (v := 32) (by decide +kernel) (mh (i := 19) rfl)
theorem st_f1_7 : stE 1 7 ((wbyt.getD 1 []).getD 7 0) ∈ flatC gvn := st_cong (v := 32) (by decide +kernel) (mh (i := 20) rfl)
theorem st_f1_8 : stE 1 8 ((wbyt.getD 1 []).getD 8 0) ∈ flatC gvn := st_cong (v := 98) (by decide +kernel) (mh (i := 21) rfl)
theorem st_f1_9 : stE 1 9 ((wbyt.getD 1 []).getD 9 0) ∈ flatC gvn := st_cong (v := 101) (by decide +kernel) (mh (i := 22) rfl)
theorem st_f1_10 : stE 1 10 ((wbyt.getD 1 []).getD 10 0) ∈ flatC gvn := st_cong (v := 102) (by decide +kernel) (mh (i := 23) rfl)
theorem st_f1_11 : stE 1 11 ((wbyt.getD 1 []).getD 11 0) ∈ flatC gvn := st_cong (v := 111) (by decide +kernel) (mh (i := 24) rfl)
theorem st_f1_12 : stE 1 12 ((wbyt.getD 1 []).getD 12 0) ∈ flatC gvn := st_cong (v := 114) (by decide +kernel) (mh (i := 25) rfl)
theorem st_f1_13 : stE 1 13 ((wbyt.getD 1 []).getD 13 0) ∈ flatC gvn := st_cong (v := 101) (by decide +kernel) (mh (i := 26) rfl)
theorem st_f1_14 : stE 1 14 ((wbyt.getD 1 []).getD 14 0) ∈ flatC gvn := st_cong (v := 32) (by decide +kernel) (mh (i := 27) rfl)
theorem st_f1_15 : stE 1 15 ((wbyt.getD 1 []).getD 15 0) ∈ flatC gvn := st_cong (v := 32) (by decide +kernel) (mh (i := 28) rfl)
theorem st_f1_16 : stE 1 16 ((wbyt.getD 1 []).getD 16 0) ∈ flatC gvn := st_cong (v := 100) (by decide +kernel) (mh (i := 29) rfl)
theorem st_f1_17 : stE 1 17 ((wbyt.getD 1 []).getD 17 0) ∈ flatC gvn := st_cong (v := 111) (by decide +kernel) (mh (i := 30) rfl)
theorem st_f1_18 : stE 1 18 ((wbyt.getD 1 []).getD 18 0) ∈ flatC gvn := st_cong (v := 111) (by decide +kernel) (mh (i := 31) rfl)
theorem st_f1_19 : stE 1 19 ((wbyt.getD 1 []).getD 19 0) ∈ flatC gvn := st_cong (v := 109) (by decide +kernel) (mh (i := 32) rfl)
theorem st_f1_20 : stE 1 20 ((wbyt.getD 1 []).getD 20 0) ∈ flatC gvn := st_cong (v := 32) (by decide +kernel) (mh (i := 33) rfl)
theorem st_f1_21 : stE 1 21 ((wbyt.getD 1 []).getD 21 0) ∈ flatC gvn := st_cong (v := 32) (by decide +kernel) (mh (i := 34) rfl)
theorem st_f1_22 : stE 1 22 ((wbyt.getD 1 []).getD 22 0) ∈ flatC gvn := st_cong (v := 32) (by decide +kernel) (mh (i := 35) rfl)
theorem st_f1_23 : stE 1 23 ((wbyt.getD 1 []).getD 23 0) ∈ flatC gvn := st_cong (v := 32) (by decide +kernel) (mh (i := 36) rfl)
theorem st_f1_24 : stE 1 24 ((wbyt.getD 1 []).getD 24 0) ∈ flatC gvn := st_cong (v := 112) (by decide +kernel) (mh (i := 37) rfl)
theorem st_f1_25 : stE 1 25 ((wbyt.getD 1 []).getD 25 0) ∈ flatC gvn := st_cong (v := 108) (by decide +kernel) (mh (i := 38) rfl)
theorem st_f1_26 : stE 1 26 ((wbyt.getD 1 []).getD 26 0) ∈ flatC gvn := st_cong (v := 101) (by decide +kernel) (mh (i := 39) rfl)
theorem st_f1_27 : stE 1 27 ((wbyt.getD 1 []).getD 27 0) ∈ flatC gvn := st_cong (v := 97) (by decide +kernel) (mh (i := 40) rfl)
theorem st_f1_28 : stE 1 28 ((wbyt.getD 1 []).getD 28 0) ∈ flatC gvn := st_cong (v := 32) (by decide +kernel) (mh (i := 41) rfl)
theorem st_f1_29 : stE 1 29 ((wbyt.getD 1 []).getD 29 0) ∈ flatC gvn := st_cong (v := 32) (by decide +kernel) (mh (i := 42) rfl)
theorem st_f1_30 : stE 1 30 ((wbyt.getD 1 []).getD 30 0) ∈ flatC gvn := st_cong (v := 32) (by decide +kernel) (mh (i := 43) rfl)
theorem st_f1_31 : stE 1 31 ((wbyt.getD 1 []).getD 31 0) ∈ flatC gvn := st_cong (v := 32) (by decide +kernel) (mh (i := 44) rfl)
theorem st_f1_32 : stE 1 32 ((wbyt.getD 1 []).getD 32 0) ∈ flatC gvn := st_cong (v := 102) (by decide +kernel) (mh (i := 45) rfl)
theorem st_f1_33 : stE 1 33 ((wbyt.getD 1 []).getD 33 0) ∈ flatC gvn := st_cong (v := 101) (by decide +kernel) (mh (i := 46) rfl)
theorem st_f1_34 : stE 1 34 ((wbyt.getD 1 []).getD 34 0) ∈ flatC gvn := st_cong (v := 101) (by decide +kernel) (mh (i := 47) rfl)
theorem st_f1_35 : stE 1 35 ((wbyt.getD 1 []).getD 35 0) ∈ flatC gvn := st_cong (v := 32) (by decide +kernel) (mh (i := 48) rfl)
theorem st_f1_36 : stE 1 36 ((wbyt.getD 1 []).getD 36 0) ∈ flatC gvn := st_cong (v := 32) (by decide +kernel) (mh (i := 49) rfl)
theorem st_f1_37 : stE 1 37 ((wbyt.getD 1 []).getD 37 0) ∈ flatC gvn := st_cong (v := 32) (by decide +kernel) (mh (i := 50) rfl)
theorem st_f1_38 : stE 1 38 ((wbyt.getD 1 []).getD 38 0) ∈ flatC gvn := st_cong (v := 32) (by decide +kernel) (mh (i := 51) rfl)
theorem st_f1_39 : stE 1 39 ((wbyt.getD 1 []).getD 39 0) ∈ flatC gvn := st_cong (v := 32) (by decide +kernel) (mh (i := 52) rfl)
theorem st_f1_40 : stE 1 40 ((wbyt.getD 1 []).getD 40 0) ∈ flatC gvn := st_cong (v := 97) (by decide +kernel) (mh (i := 53) rfl)
theorem st_f1_41 : stE 1 41 ((wbyt.getD 1 []).getD 41 0) ∈ flatC gvn := st_cong (v := 100) (by decide +kernel) (mh (i := 54) rfl)
theorem st_f1_42 : stE 1 42 ((wbyt.getD 1 []).getD 42 0) ∈ flatC gvn := st_cong (v := 106) (by decide +kernel) (mh (i := 55) rfl)
theorem st_f1_43 : stE 1 43 ((wbyt.getD 1 []).getD 43 0) ∈ flatC gvn := st_cong (v := 111) (by decide +kernel) (mh (i := 56) rfl)
theorem st_f1_44 : stE 1 44 ((wbyt.getD 1 []).getD 44 0) ∈ flatC gvn := st_cong (v := 117) (by decide +kernel) (mh (i := 57) rfl)
theorem st_f1_45 : stE 1 45 ((wbyt.getD 1 []).getD 45 0) ∈ flatC gvn := st_cong (v := 114) (by decide +kernel) (mh (i := 58) rfl)
theorem st_f1_46 : stE 1 46 ((wbyt.getD 1 []).getD 46 0) ∈ flatC gvn := st_cong (v := 110) (by decide +kernel) (mh (i := 59) rfl)
theorem st_f1_47 : stE 1 47 ((wbyt.getD 1 []).getD 47 0) ∈ flatC gvn := st_cong (v := 115) (by decide +kernel) (mh (i := 60) rfl)
theorem st_f1_48 : stE 1 48 ((wbyt.getD 1 []).getD 48 0) ∈ flatC gvn := st_cong (v := 115) (by decide +kernel) (mh (i := 61) rfl)
theorem st_f1_49 : stE 1 49 ((wbyt.getD 1 []).getD 49 0) ∈ flatC gvn := st_cong (v := 101) (by decide +kernel) (mh (i := 62) rfl)
theorem st_f1_50 : stE 1 50 ((wbyt.getD 1 []).getD 50 0) ∈ flatC gvn := st_cong (v := 101) (by decide +kernel) (mh (i := 63) rfl)
theorem st_f1_51 : stE 1 51 ((wbyt.getD 1 []).getD 51 0) ∈ flatC gvn := st_cong (v := 100) (by decide +kernel) (mh (i := 64) rfl)
theorem st_f1_52 : stE 1 52 ((wbyt.getD 1 []).getD 52 0) ∈ flatC gvn := st_cong (v := 32) (by decide +kernel) (mh (i := 65) rfl)
theorem st_f1_53 : stE 1 53 ((wbyt.getD 1 []).getD 53 0) ∈ flatC gvn := st_cong (v := 32) (by decide +kernel) (mh (i := 66) rfl)
theorem st_f1_54 : stE 1 54 ((wbyt.getD 1 []).getD 54 0) ∈ flatC gvn := st_cong (v := 32) (by decide +kernel) (mh (i := 67) rfl)
theorem st_f1_55 : stE 1 55 ((wbyt.getD 1 []).getD 55 0) ∈ flatC gvn := st_cong (v := 32) (by decide +kernel) (mh (i := 68) rfl)
theorem st_f1_56 : stE 1 56 ((wbyt.getD 1 []).getD 56 0) ∈ flatC gvn := st_cong (v := 105) (by decide +kernel) (mh (i := 69) rfl)
theorem st_f1_57 : stE 1 57 ((wbyt.getD 1 []).getD 57 0) ∈ flatC gvn := st_cong (v := 102) (by decide +kernel) (mh (i := 70) rfl)
theorem st_f1_58 : stE 1 58 ((wbyt.getD 1 []).getD 58 0) ∈ flatC gvn := st_cong (v := 32) (by decide +kernel) (mh (i := 71) rfl)
theorem st_f1_59 : stE 1 59 ((wbyt.getD 1 []).getD 59 0) ∈ flatC gvn := st_cong (v := 32) (by decide +kernel) (mh (i := 72) rfl)
theorem st_f1_60 : stE 1 60 ((wbyt.getD 1 []).getD 60 0) ∈ flatC gvn := st_cong (v := 32) (by decide +kernel) (mh (i := 73) rfl)
theorem st_f1_61 : stE 1 61 ((wbyt.getD 1 []).getD 61 0) ∈ flatC gvn := st_cong (v := 32) (by decide +kernel) (mh (i := 74) rfl)
theorem st_f1_62 : stE 1 62 ((wbyt.getD 1 []).getD 62 0) ∈ flatC gvn := st_cong (v := 32) (by decide +kernel) (mh (i := 75) rfl)
theorem st_f1_63 : stE 1 63 ((wbyt.getD 1 []).getD 63 0) ∈ flatC gvn := st_cong (v := 32) (by decide +kernel) (mh (i := 76) rfl)
theorem st_f1_64 : stE 1 64 ((wbyt.getD 1 []).getD 64 0) ∈ flatC gvn := st_cong (v := 116) (by decide +kernel) (mh (i := 77) rfl)
theorem st_f1_65 : stE 1 65 ((wbyt.getD 1 []).getD 65 0) ∈ flatC gvn := st_cong (v := 104) (by decide +kernel) (mh (i := 78) rfl)
theorem st_f1_66 : stE 1 66 ((wbyt.getD 1 []).getD 66 0) ∈ flatC gvn := st_cong (v := 101) (by decide +kernel) (mh (i := 79) rfl)
theorem st_f1_67 : stE 1 67 ((wbyt.getD 1 []).getD 67 0) ∈ flatC gvn := st_cong (v := 110) (by decide +kernel) (mh (i := 80) rfl)
theorem st_f1_68 : stE 1 68 ((wbyt.getD 1 []).getD 68 0) ∈ flatC gvn := st_cong (v := 32) (by decide +kernel) (mh (i := 81) rfl)
theorem st_f1_69 : stE 1 69 ((wbyt.getD 1 []).getD 69 0) ∈ flatC gvn := st_cong (v := 32) (by decide +kernel) (mh (i := 82) rfl)
theorem st_f1_70 : stE 1 70 ((wbyt.getD 1 []).getD 70 0) ∈ flatC gvn := st_cong (v := 32) (by decide +kernel) (mh (i := 83) rfl)
theorem st_f1_71 : stE 1 71 ((wbyt.getD 1 []).getD 71 0) ∈ flatC gvn := st_cong (v := 32) (by decide +kernel) (mh (i := 84) rfl)
theorem st_f1_72 : stE 1 72 ((wbyt.getD 1 []).getD 72 0) ∈ flatC gvn := st_cong (v := 101) (by decide +kernel) (mh (i := 85) rfl)
theorem st_f1_73 : stE 1 73 ((wbyt.getD 1 []).getD 73 0) ∈ flatC gvn := st_cong (v := 108) (by decide +kernel) (mh (i := 86) rfl)
theorem st_f1_74 : stE 1 74 ((wbyt.getD 1 []).getD 74 0) ∈ flatC gvn := st_cong (v := 115) (by decide +kernel) (mh (i := 87) rfl)
theorem st_f1_75 : stE 1 75 ((wbyt.getD 1 []).getD 75 0) ∈ flatC gvn := st_cong (v := 101) (by decide +kernel) (mh (i := 88) rfl)
theorem st_f1_76 : stE 1 76 ((wbyt.getD 1 []).getD 76 0) ∈ flatC gvn := st_cong (v := 32) (by decide +kernel) (mh (i := 89) rfl)
theorem st_f1_77 : stE 1 77 ((wbyt.getD 1 []).getD 77 0) ∈ flatC gvn := st_cong (v := 32) (by decide +kernel) (mh (i := 90) rfl)
theorem st_f1_78 : stE 1 78 ((wbyt.getD 1 []).getD 78 0) ∈ flatC gvn := st_cong (v := 32) (by decide +kernel) (mh (i := 91) rfl)
theorem st_f1_79 : stE 1 79 ((wbyt.getD 1 []).getD 79 0) ∈ flatC gvn := st_cong (v := 32) (by decide +kernel) (mh (i := 92) rfl)
theorem st_f1_80 : stE 1 80 ((wbyt.getD 1 []).getD 80 0) ∈ flatC gvn := st_cong (v := 100) (by decide +kernel) (mh (i := 93) rfl)
theorem st_f1_81 : stE 1 81 ((wbyt.getD 1 []).getD 81 0) ∈ flatC gvn := st_cong (v := 101) (by decide +kernel) (mh (i := 94) rfl)
theorem st_f1_82 : stE 1 82 ((wbyt.getD 1 []).getD 82 0) ∈ flatC gvn := st_cong (v := 101) (by decide +kernel) (mh (i := 95) rfl)
theorem st_f1_83 : stE 1 83 ((wbyt.getD 1 []).getD 83 0) ∈ flatC gvn := st_cong (v := 100) (by decide +kernel) (mh (i := 96) rfl)
theorem st_f1_84 : stE 1 84 ((wbyt.getD 1 []).getD 84 0) ∈ flatC gvn := st_cong (v := 32) (by decide +kernel) (mh (i := 97) rfl)
theorem st_f1_85 : stE 1 85 ((wbyt.getD 1 []).getD 85 0) ∈ flatC gvn := st_cong (v := 32) (by decide +kernel) (mh (i := 98) rfl)
theorem st_f1_86 : stE 1 86 ((wbyt.getD 1 []).getD 86 0) ∈ flatC gvn := st_cong (v := 32) (by decide +kernel) (mh (i := 99) rfl)
theorem st_f1_87 : stE 1 87 ((wbyt.getD 1 []).getD 87 0) ∈ flatC gvn := st_cong (v := 32) (by decide +kernel) (mh (i := 100) rfl)
theorem st_f1_88 : stE 1 88 ((wbyt.getD 1 []).getD 88 0) ∈ flatC gvn := st_cong (v := 111) (by decide +kernel) (mh (i := 101) rfl)
theorem st_f1_89 : stE 1 89 ((wbyt.getD 1 []).getD 89 0) ∈ flatC gvn := st_cong (v := 119) (by decide +kernel) (mh (i := 102) rfl)
theorem st_f1_90 : stE 1 90 ((wbyt.getD 1 []).getD 90 0) ∈ flatC gvn := st_cong (v := 110) (by decide +kernel) (mh (i := 103) rfl)
theorem st_f1_91 : stE 1 91 ((wbyt.getD 1 []).getD 91 0) ∈ flatC gvn := st_cong (v := 32) (by decide +kernel) (mh (i := 104) rfl)
theorem st_f1_92 : stE 1 92 ((wbyt.getD 1 []).getD 92 0) ∈ flatC gvn := st_cong (v := 32) (by decide +kernel) (mh (i := 105) rfl)
theorem st_f1_93 : stE 1 93 ((wbyt.getD 1 []).getD 93 0) ∈ flatC gvn := st_cong (v := 32) (by decide +kernel) (mh (i := 106) rfl)
theorem st_f1_94 : stE 1 94 ((wbyt.getD 1 []).getD 94 0) ∈ flatC gvn := st_cong (v := 32) (by decide +kernel) (mh (i := 107) rfl)
theorem st_f1_95 : stE 1 95 ((wbyt.getD 1 []).getD 95 0) ∈ flatC gvn := st_cong (v := 32) (by decide +kernel) (mh (i := 108) rfl)
theorem st_f1_96 : stE 1 96 ((wbyt.getD 1 []).getD 96 0) ∈ flatC gvn := st_cong (v := 112) (by decide +kernel) (mh (i := 109) rfl)
theorem st_f1_97 : stE 1 97 ((wbyt.getD 1 []).getD 97 0) ∈ flatC gvn := st_cong (v := 117) (by decide +kernel) (mh (i := 110) rfl)
theorem st_f1_98 : stE 1 98 ((wbyt.getD 1 []).getD 98 0) ∈ flatC gvn := st_cong (v := 114) (by decide +kernel) (mh (i := 111) rfl)
theorem st_f1_99 : stE 1 99 ((wbyt.getD 1 []).getD 99 0) ∈ flatC gvn := st_cong (v := 115) (by decide +kernel) (mh (i := 112) rfl)
theorem st_f1_100 : stE 1 100 ((wbyt.getD 1 []).getD 100 0) ∈ flatC gvn := st_cong (v := 101) (by decide +kernel) (mh (i := 113) rfl)
theorem st_f1_101 : stE 1 101 ((wbyt.getD 1 []).getD 101 0) ∈ flatC gvn := st_cong (v := 32) (by decide +kernel) (mh (i := 114) rfl)
theorem st_f1_102 : stE 1 102 ((wbyt.getD 1 []).getD 102 0) ∈ flatC gvn := st_cong (v := 32) (by decide +kernel) (mh (i := 115) rfl)
theorem st_f1_103 : stE 1 103 ((wbyt.getD 1 []).getD 103 0) ∈ flatC gvn := st_cong (v := 32) (by decide +kernel) (mh (i := 116) rfl)
theorem st_f1_104 : stE 1 104 ((wbyt.getD 1 []).getD 104 0) ∈ flatC gvn := st_cong (v := 112) (by decide +kernel) (mh (i := 117) rfl)
theorem st_f1_105 : stE 1 105 ((wbyt.getD 1 []).getD 105 0) ∈ flatC gvn := st_cong (v := 108) (by decide +kernel) (mh (i := 118) rfl)
theorem st_f1_106 : stE 1 106 ((wbyt.getD 1 []).getD 106 0) ∈ flatC gvn := st_cong (v := 97) (by decide +kernel) (mh (i := 119) rfl)
theorem st_f1_107 : stE 1 107 ((wbyt.getD 1 []).getD 107 0) ∈ flatC gvn := st_cong (v := 99) (by decide +kernel) (mh (i := 120) rfl)
theorem st_f1_108 : stE 1 108 ((wbyt.getD 1 []).getD 108 0) ∈ flatC gvn := st_cong (v := 101) (by decide +kernel) (mh (i := 121) rfl)
theorem st_f1_109 : stE 1 109 ((wbyt.getD 1 []).getD 109 0) ∈ flatC gvn := st_cong (v := 32) (by decide +kernel) (mh (i := 122) rfl)
theorem st_f1_110 : stE 1 110 ((wbyt.getD 1 []).getD 110 0) ∈ flatC gvn := st_cong (v := 32) (by decide +kernel) (mh (i := 123) rfl)
theorem st_f1_111 : stE 1 111 ((wbyt.getD 1 []).getD 111 0) ∈ flatC gvn := st_cong (v := 32) (by decide +kernel) (mh (i := 124) rfl)
theorem st_f1_112 : stE 1 112 ((wbyt.getD 1 []).getD 112 0) ∈ flatC gvn := st_cong (v := 115) (by decide +kernel) (mh (i := 125) rfl)
theorem st_f1_113 : stE 1 113 ((wbyt.getD 1 []).getD 113 0) ∈ flatC gvn := st_cong (v := 101) (by decide +kernel) (mh (i := 126) rfl)
theorem st_f1_114 : stE 1 114 ((wbyt.getD 1 []).getD 114 0) ∈ flatC gvn := st_cong (v := 115) (by decide +kernel) (mh (i := 127) rfl)
theorem st_f1_115 : stE 1 115 ((wbyt.getD 1 []).getD 115 0) ∈ flatC gvn := st_cong (v := 115) (by decide +kernel) (mh (i := 128) rfl)
theorem st_f1_116 : stE 1 116 ((wbyt.getD 1 []).getD 116 0) ∈ flatC gvn := st_cong (v := 105) (by decide +kernel) (mh (i := 129) rfl)
theorem st_f1_117 : stE 1 117 ((wbyt.getD 1 []).getD 117 0) ∈ flatC gvn := st_cong (v := 111) (by decide +kernel) (mh (i := 130) rfl)
theorem st_f1_118 : stE 1 118 ((wbyt.getD 1 []).getD 118 0) ∈ flatC gvn := st_cong (v := 110) (by decide +kernel) (mh (i := 131) rfl)
theorem st_f1_119 : stE 1 119 ((wbyt.getD 1 []).getD 119 0) ∈ flatC gvn := st_cong (v := 32) (by decide +kernel) (mh (i := 132) rfl)
theorem st_f1_120 : stE 1 120 ((wbyt.getD 1 []).getD 120 0) ∈ flatC gvn := st_cong (v := 119) (by decide +kernel) (mh (i := 133) rfl)
theorem st_f1_121 : stE 1 121 ((wbyt.getD 1 []).getD 121 0) ∈ flatC gvn := st_cong (v := 104) (by decide +kernel) (mh (i := 134) rfl)
theorem st_f1_122 : stE 1 122 ((wbyt.getD 1 []).getD 122 0) ∈ flatC gvn := st_cong (v := 105) (by decide +kernel) (mh (i := 135) rfl)
theorem st_f1_123 : stE 1 123 ((wbyt.getD 1 []).getD 123 0) ∈ flatC gvn := st_cong (v := 99) (by decide +kernel) (mh (i := 136) rfl)
theorem st_f1_124 : stE 1 124 ((wbyt.getD 1 []).getD 124 0) ∈ flatC gvn := st_cong (v := 104) (by decide +kernel) (mh (i := 137) rfl)
theorem st_f1_125 : stE 1 125 ((wbyt.getD 1 []).getD 125 0) ∈ flatC gvn := st_cong (v := 32) (by decide +kernel) (mh (i := 138) rfl)
theorem st_f1_126 : stE 1 126 ((wbyt.getD 1 []).getD 126 0) ∈ flatC gvn := st_cong (v := 32) (by decide +kernel) (mh (i := 139) rfl)
theorem st_f1_127 : stE 1 127 ((wbyt.getD 1 []).getD 127 0) ∈ flatC gvn := st_cong (v := 32) (by decide +kernel) (mh (i := 140) rfl)
theorem st_f1_128 : stE 1 128 ((wbyt.getD 1 []).getD 128 0) ∈ flatC gvn := st_cong (v := 99) (by decide +kernel) (mh (i := 141) rfl)
theorem st_f1_129 : stE 1 129 ((wbyt.getD 1 []).getD 129 0) ∈ flatC gvn := st_cong (v := 97) (by decide +kernel) (mh (i := 142) rfl)
theorem st_f1_130 : stE 1 130 ((wbyt.getD 1 []).getD 130 0) ∈ flatC gvn := st_cong (v := 115) (by decide +kernel) (mh (i := 143) rfl)
theorem st_f1_131 : stE 1 131 ((wbyt.getD 1 []).getD 131 0) ∈ flatC gvn := st_cong (v := 101) (by decide +kernel) (mh (i := 144) rfl)
theorem st_f1_132 : stE 1 132 ((wbyt.getD 1 []).getD 132 0) ∈ flatC gvn := st_cong (v := 115) (by decide +kernel) (mh (i := 145) rfl)
theorem st_f1_133 : stE 1 133 ((wbyt.getD 1 []).getD 133 0) ∈ flatC gvn := st_cong (v := 32) (by decide +kernel) (mh (i := 146) rfl)
theorem st_f1_134 : stE 1 134 ((wbyt.getD 1 []).getD 134 0) ∈ flatC gvn := st_cong (v := 32) (by decide +kernel) (mh (i := 147) rfl)
theorem st_f1_135 : stE 1 135 ((wbyt.getD 1 []).getD 135 0) ∈ flatC gvn := st_cong (v := 32) (by decide +kernel) (mh (i := 148) rfl)
theorem st_f1_136 : stE 1 136 ((wbyt.getD 1 []).getD 136 0) ∈ flatC gvn := st_cong (v := 112) (by decide +kernel) (mh (i := 149) rfl)
theorem st_f1_137 : stE 1 137 ((wbyt.getD 1 []).getD 137 0) ∈ flatC gvn := st_cong (v := 108) (by decide +kernel) (mh (i := 150) rfl)
theorem st_f1_138 : stE 1 138 ((wbyt.getD 1 []).getD 138 0) ∈ flatC gvn := st_cong (v := 101) (by decide +kernel) (mh (i := 151) rfl)
theorem st_f1_139 : stE 1 139 ((wbyt.getD 1 []).getD 139 0) ∈ flatC gvn := st_cong (v := 100) (by decide +kernel) (mh (i := 152) rfl)
theorem st_f1_140 : stE 1 140 ((wbyt.getD 1 []).getD 140 0) ∈ flatC gvn := st_cong (v := 32) (by decide +kernel) (mh (i := 153) rfl)
theorem st_f1_141 : stE 1 141 ((wbyt.getD 1 []).getD 141 0) ∈ flatC gvn := st_cong (v := 32) (by decide +kernel) (mh (i := 154) rfl)
theorem st_f1_142 : stE 1 142 ((wbyt.getD 1 []).getD 142 0) ∈ flatC gvn := st_cong (v := 32) (by decide +kernel) (mh (i := 155) rfl)
theorem st_f1_143 : stE 1 143 ((wbyt.getD 1 []).getD 143 0) ∈ flatC gvn := st_cong (v := 32) (by decide +kernel) (mh (i := 156) rfl)
theorem st_f1_144 : stE 1 144 ((wbyt.getD 1 []).getD 144 0) ∈ flatC gvn := st_cong (v := 103) (by decide +kernel) (mh (i := 157) rfl)
theorem st_f1_145 : stE 1 145 ((wbyt.getD 1 []).getD 145 0) ∈ flatC gvn := st_cong (v := 111) (by decide +kernel) (mh (i := 158) rfl)
theorem st_f1_146 : stE 1 146 ((wbyt.getD 1 []).getD 146 0) ∈ flatC gvn := st_cong (v := 110) (by decide +kernel) (mh (i := 159) rfl)
theorem st_f1_147 : stE 1 147 ((wbyt.getD 1 []).getD 147 0) ∈ flatC gvn := st_cong (v := 101) (by decide +kernel) (mh (i := 160) rfl)
theorem st_f1_148 : stE 1 148 ((wbyt.getD 1 []).getD 148 0) ∈ flatC gvn := st_cong (v := 32) (by decide +kernel) (mh (i := 161) rfl)
theorem st_f1_149 : stE 1 149 ((wbyt.getD 1 []).getD 149 0) ∈ flatC gvn := st_cong (v := 32) (by decide +kernel) (mh (i := 162) rfl)
theorem st_f1_150 : stE 1 150 ((wbyt.getD 1 []).getD 150 0) ∈ flatC gvn := st_cong (v := 32) (by decide +kernel) (mh (i := 163) rfl)
theorem st_f1_151 : stE 1 151 ((wbyt.getD 1 []).getD 151 0) ∈ flatC gvn := st_cong (v := 32) (by decide +kernel) (mh (i := 164) rfl)
theorem st_el0 : ∀ j, j < 9 → stE 0 j ((wbyt.getD 0 []).getD j 0) ∈ flatC gvn := by
  intro j hj
  match j, hj with
  | 0, _ => exact st_f0_0
  | 1, _ => exact st_f0_1
  | 2, _ => exact st_f0_2
  | 3, _ => exact st_f0_3
  | 4, _ => exact st_f0_4
  | 5, _ => exact st_f0_5
  | 6, _ => exact st_f0_6
  | 7, _ => exact st_f0_7
  | 8, _ => exact st_f0_8
theorem st_el1 : ∀ j, j < 152 → stE 1 j ((wbyt.getD 1 []).getD j 0) ∈ flatC gvn := by
  intro j hj
  match j, hj with
  | 0, _ => exact st_f1_0
  | 1, _ => exact st_f1_1
  | 2, _ => exact st_f1_2
  | 3, _ => exact st_f1_3
  | 4, _ => exact st_f1_4
  | 5, _ => exact st_f1_5
  | 6, _ => exact st_f1_6
  | 7, _ => exact st_f1_7
  | 8, _ => exact st_f1_8
  | 9, _ => exact st_f1_9
  | 10, _ => exact st_f1_10
  | 11, _ => exact st_f1_11
  | 12, _ => exact st_f1_12
  | 13, _ => exact st_f1_13
  | 14, _ => exact st_f1_14
  | 15, _ => exact st_f1_15
  | 16, _ => exact st_f1_16
  | 17, _ => exact st_f1_17
  | 18, _ => exact st_f1_18
  | 19, _ => exact st_f1_19
  | 20, _ => exact st_f1_20
  | 21, _ => exact st_f1_21
  | 22, _ => exact st_f1_22
  | 23, _ => exact st_f1_23
  | 24, _ => exact st_f1_24
  | 25, _ => exact st_f1_25
  | 26, _ => exact st_f1_26
  | 27, _ => exact st_f1_27
  | 28, _ => exact st_f1_28
  | 29, _ => exact st_f1_29
  | 30, _ => exact st_f1_30
  | 31, _ => exact st_f1_31
  | 32, _ => exact st_f1_32
  | 33, _ => exact st_f1_33
  | 34, _ => exact st_f1_34
  | 35, _ => exact st_f1_35
  | 36, _ => exact st_f1_36
  | 37, _ => exact st_f1_37
  | 38, _ => exact st_f1_38
  | 39, _ => exact st_f1_39
  | 40, _ => exact st_f1_40
  | 41, _ => exact st_f1_41
  | 42, _ => exact st_f1_42
  | 43, _ => exact st_f1_43
  | 44, _ => exact st_f1_44
  | 45, _ => exact st_f1_45
  | 46, _ => exact st_f1_46
  | 47, _ => exact st_f1_47
  | 48, _ => exact st_f1_48
  | 49, _ => exact st_f1_49
  | 50, _ => exact st_f1_50
  | 51, _ => exact st_f1_51
  | 52, _ => exact st_f1_52
  | 53, _ => exact st_f1_53
  | 54, _ => exact st_f1_54
  | 55, _ => exact st_f1_55
  | 56, _ => exact st_f1_56
  | 57, _ => exact st_f1_57
  | 58, _ => exact st_f1_58
  | 59, _ => exact st_f1_59
  | 60, _ => exact st_f1_60
  | 61, _ => exact st_f1_61
  | 62, _ => exact st_f1_62
  | 63, _ => exact st_f1_63
  | 64, _ => exact st_f1_64
  | 65, _ => exact st_f1_65
  | 66, _ => exact st_f1_66
  | 67, _ => exact st_f1_67
  | 68, _ => exact st_f1_68
  | 69, _ => exact st_f1_69
  | 70, _ => exact st_f1_70
  | 71, _ => exact st_f1_71
  | 72, _ => exact st_f1_72
  | 73, _ => exact st_f1_73
  | 74, _ => exact st_f1_74
  | 75, _ => exact st_f1_75
  | 76, _ => exact st_f1_76
  | 77, _ => exact st_f1_77
  | 78, _ => exact st_f1_78
  | 79, _ => exact st_f1_79
  | 80, _ => exact st_f1_80
  | 81, _ => exact st_f1_81
  | 82, _ => exact st_f1_82
  | 83, _ => exact st_f1_83
  | 84, _ => exact st_f1_84
  | 85, _ => exact st_f1_85
  | 86, _ => exact st_f1_86
  | 87, _ => exact st_f1_87
  | 88, _ => exact st_f1_88
  | 89, _ => exact st_f1_89
  | 90, _ => exact st_f1_90
  | 91, _ => exact st_f1_91
  | 92, _ => exact st_f1_92
  | 93, _ => exact st_f1_93
  | 94, _ => exact st_f1_94
  | 95, _ => exact st_f1_95
  | 96, _ => exact st_f1_96
  | 97, _ => exact st_f1_97
  | 98, _ => exact st_f1_98
  | 99, _ => exact st_f1_99
  | 100, _ => exact st_f1_100
  | 101, _ => exact st_f1_101
  | 102, _ => exact st_f1_102
  | 103, _ => exact st_f1_103
  | 104, _ => exact st_f1_104
  | 105, _ => exact st_f1_105
  | 106, _ => exact st_f1_106
  | 107, _ => exact st_f1_107
  | 108, _ => exact st_f1_108
  | 109, _ => exact st_f1_109
  | 110, _ => exact st_f1_110
  | 111, _ => exact st_f1_111
  | 112, _ => exact st_f1_112
  | 113, _ => exact st_f1_113
  | 114, _ => exact st_f1_114
  | 115, _ => exact st_f1_115
  | 116, _ => exact st_f1_116
  | 117, _ => exact st_f1_117
  | 118, _ => exact st_f1_118
  | 119, _ => exact st_f1_119
  | 120, _ => exact st_f1_120
  | 121, _ => exact st_f1_121
  | 122, _ => exact st_f1_122
  | 123, _ => exact st_f1_123
  | 124, _ => exact st_f1_124
  | 125, _ => exact st_f1_125
  | 126, _ => exact st_f1_126
  | 127, _ => exact st_f1_127
  | 128, _ => exact st_f1_128
  | 129, _ => exact st_f1_129
  | 130, _ => exact st_f1_130
  | 131, _ => exact st_f1_131
  | 132, _ => exact st_f1_132
  | 133, _ => exact st_f1_133
  | 134, _ => exact st_f1_134
  | 135, _ => exact st_f1_135
  | 136, _ => exact st_f1_136
  | 137, _ => exact st_f1_137
  | 138, _ => exact st_f1_138
  | 139, _ => exact st_f1_139
  | 140, _ => exact st_f1_140
  | 141, _ => exact st_f1_141
  | 142, _ => exact st_f1_142
  | 143, _ => exact st_f1_143
  | 144, _ => exact st_f1_144
  | 145, _ => exact st_f1_145
  | 146, _ => exact st_f1_146
  | 147, _ => exact st_f1_147
  | 148, _ => exact st_f1_148
  | 149, _ => exact st_f1_149
  | 150, _ => exact st_f1_150
  | 151, _ => exact st_f1_151
  | j + 152, h => exact absurd h (by omega)
theorem st_ex : ∀ i, i < 2 → (Cond.exactly (stm i) "java/lang/String") ∈ flatC gvn := by decide +kernel
theorem st_co : ∀ i, i < 2 → (Cond.eq (.field (stm i) "java/lang/String" "coder" "B") (.int 0)) ∈ flatC gvn := by decide +kernel
theorem st_ar : ∀ i, i < 2 → (Cond.arrayOf (.field (stm i) "java/lang/String" "value" "[B") .byte) ∈ flatC gvn := by decide +kernel
theorem st_le : ∀ i, i < 2 → (Cond.eq (.length (.field (stm i) "java/lang/String" "value" "[B")) (.int (Int32.ofNat (wlen.getD i 0)))) ∈ flatC gvn := by decide +kernel
theorem st_ne : (Cond.not (Cond.eq (stm 1) (stm 0))) ∈ flatC gvn := by decide +kernel
theorem st_cs : (Cond.eq (.static "java/lang/String" "COMPACT_STRINGS" "Z") (.int 1)) ∈ flatC gvn := by decide +kernel
theorem st_sf : (Cond.isRef (.static "jdk/internal/util/Preconditions" "SIOOBE_FORMATTER" "Ljava/util/function/BiFunction;")) ∈ flatC gvn := by decide +kernel
