/-! the constructors -/
theorem wb_0 : Cond.code yX0_init cX0_init 2 none ∈ pmBig := pm_big (i := 157) (by decide +kernel) rfl
theorem wb_1 : Cond.initialized RX0 ∈ pmBig := pm_big (i := 63) (by decide +kernel) rfl
theorem wb_2 : Cond.code yX1_init cX1_init 1 none ∈ pmBig := pm_big (i := 122) (by decide +kernel) rfl
theorem wb_3 : Cond.initialized RX1 ∈ pmBig := pm_big (i := 62) (by decide +kernel) rfl
theorem wb_4 : Cond.code yX2_init cX2_init 2 none ∈ pmBig := pm_big (i := 115) (by decide +kernel) rfl
theorem wb_5 : Cond.initialized RX2 ∈ pmBig := pm_big (i := 61) (by decide +kernel) rfl
theorem wb_6 : Cond.code yX3_init cX3_init 1 none ∈ pmBig := pm_big (i := 201) (by decide +kernel) rfl
theorem wb_7 : Cond.initialized RX3 ∈ pmBig := pm_big (i := 64) (by decide +kernel) rfl
theorem wb_8 : Cond.code yX4_init cX4_init 1 none ∈ pmBig := pm_big (i := 84) (by decide +kernel) rfl
theorem wb_9 : Cond.initialized RX4 ∈ pmBig := pm_big (i := 60) (by decide +kernel) rfl
theorem wb_10 : Cond.code yX5_init cX5_init 2 none ∈ pmBig := pm_big (i := 250) (by decide +kernel) rfl
theorem wb_11 : Cond.initialized RX5 ∈ pmBig := pm_big (i := 65) (by decide +kernel) rfl
theorem wb_12 : Cond.code yX6_init cX6_init 2 none ∈ pmBig := pm_big (i := 74) (by decide +kernel) rfl
theorem wb_13 : Cond.initialized RX6 ∈ pmBig := pm_big (i := 59) (by decide +kernel) rfl
theorem wb_14 : Cond.code yX7_init cX7_init 2 none ∈ pmBig := pm_big (i := 811) (by decide +kernel) rfl
theorem wb_15 : Cond.initialized RX7 ∈ pmBig := pm_big (i := 66) (by decide +kernel) rfl
theorem wb_16 : Cond.methodLink RX1 3 Lib.objectInit ∈ pmBig := pm_big (i := 123) (by decide +kernel) rfl
theorem wb_17 : Cond.instanceMethod Lib.objectInit ∈ pmBig := pm_big (i := 76) (by decide +kernel) rfl
theorem wb_18 : Cond.code Lib.objectInit ⟨#[0xb1]⟩ 1 none ∈ pmBig := pm_big (i := 77) (by decide +kernel) rfl
theorem wb_19 : Cond.fieldLink RX1 9 "HillSeer$Hill" "kind" "I" ∈ pmBig := pm_big (i := 124) (by decide +kernel) rfl
theorem wb_20 : Cond.fieldLink RX1 15 "HillSeer$Hill" "first" "I" ∈ pmBig := pm_big (i := 128) (by decide +kernel) rfl
theorem wb_21 : Cond.fieldLink RX1 18 "HillSeer$Hill" "broad" "I" ∈ pmBig := pm_big (i := 131) (by decide +kernel) rfl
theorem wb_22 : Cond.methodLink RX5 1 Lib.objectInit ∈ pmBig := pm_big (i := 251) (by decide +kernel) rfl
theorem wb_23 : Cond.fieldLink RX5 9 "HillSeer$Sheet" "size" "I" ∈ pmBig := pm_big (i := 253) (by decide +kernel) rfl
theorem wb_24 : Cond.arrayClass .int ∈ pmBig := pm_big (i := 110) (by decide +kernel) rfl
theorem wb_25 : Cond.fieldLink RX5 13 "HillSeer$Sheet" "places" "[I" ∈ pmBig := pm_big (i := 252) (by decide +kernel) rfl
theorem wb_26 : Cond.methodLink RX0 3 Lib.objectInit ∈ pmBig := pm_big (i := 158) (by decide +kernel) rfl
theorem wb_27 : Cond.fieldLink RX0 9 "HillSeer$Camp" "pitched" "[I" ∈ pmBig := pm_big (i := 161) (by decide +kernel) rfl
theorem wb_28 : Cond.fieldLink RX0 15 "HillSeer$Camp" "givens" "[I" ∈ pmBig := pm_big (i := 162) (by decide +kernel) rfl
theorem wb_29 : Cond.fieldLink RX0 18 "HillSeer$Camp" "deeds" "[I" ∈ pmBig := pm_big (i := 164) (by decide +kernel) rfl
theorem wb_30 : Cond.fieldLink RX0 21 "HillSeer$Camp" "done" "I" ∈ pmBig := pm_big (i := 165) (by decide +kernel) rfl
theorem wb_31 : Cond.fieldLink RX0 25 "HillSeer$Camp" "day" "I" ∈ pmBig := pm_big (i := 167) (by decide +kernel) rfl
theorem wb_32 : Cond.fieldLink RX0 28 "HillSeer$Camp" "gold" "I" ∈ pmBig := pm_big (i := 169) (by decide +kernel) rfl
theorem wb_33 : Cond.fieldLink RX0 31 "HillSeer$Camp" "blessed" "I" ∈ pmBig := pm_big (i := 171) (by decide +kernel) rfl
theorem wb_34 : Cond.fieldLink RX0 34 "HillSeer$Camp" "cursed" "I" ∈ pmBig := pm_big (i := 174) (by decide +kernel) rfl
theorem wb_35 : Cond.fieldLink RX0 37 "HillSeer$Camp" "land" "LHillSeer$Land;" ∈ pmBig := pm_big (i := 159) (by decide +kernel) rfl
theorem wb_36 : Cond.methodLink RX4 3 Lib.objectInit ∈ pmBig := pm_big (i := 85) (by decide +kernel) rfl
theorem wb_37 : Cond.fieldLink RX4 9 "HillSeer$Reader" "givens" "[I" ∈ pmBig := pm_big (i := 86) (by decide +kernel) rfl
theorem wb_38 : Cond.fieldLink RX4 15 "HillSeer$Reader" "kinds" "[I" ∈ pmBig := pm_big (i := 88) (by decide +kernel) rfl
theorem wb_39 : Cond.fieldLink RX4 18 "HillSeer$Reader" "firsts" "[I" ∈ pmBig := pm_big (i := 90) (by decide +kernel) rfl
theorem wb_40 : Cond.fieldLink RX4 21 "HillSeer$Reader" "broads" "[I" ∈ pmBig := pm_big (i := 92) (by decide +kernel) rfl
theorem wb_41 : Cond.fieldLink RX4 24 "HillSeer$Reader" "hills" "I" ∈ pmBig := pm_big (i := 94) (by decide +kernel) rfl
theorem wb_42 : Cond.fieldLink RX4 28 "HillSeer$Reader" "place" "I" ∈ pmBig := pm_big (i := 96) (by decide +kernel) rfl
theorem wb_43 : Cond.methodLink RX2 3 Lib.objectInit ∈ pmBig := pm_big (i := 116) (by decide +kernel) rfl
theorem wb_44 : Cond.classLink RX2 9 RX1 ∈ pmBig := pm_big (i := 117) (by decide +kernel) rfl
theorem wb_45 : Cond.fieldLink RX2 11 "HillSeer$Land" "hills" "[LHillSeer$Hill;" ∈ pmBig := pm_big (i := 141) (by decide +kernel) rfl
theorem wb_46 : Cond.fieldLink RX2 17 "HillSeer$Land" "size" "I" ∈ pmBig := pm_big (i := 144) (by decide +kernel) rfl
theorem wb_47 : Cond.instantiable RX1 3 ∈ pmBig := pm_big (i := 119) (by decide +kernel) rfl
theorem wb_48 : Cond.methodLinkNest RX2 21 yX1_init "HillSeer" ∈ pmNest := pm_nst (i := 120) (by decide +kernel) rfl
theorem wb_49 : Cond.instanceMethod yX1_init ∈ pmBig := pm_big (i := 121) (by decide +kernel) rfl
theorem wb_50 : Cond.methodLink RX3 3 Lib.objectInit ∈ pmBig := pm_big (i := 202) (by decide +kernel) rfl
theorem wb_51 : Cond.fieldLink RX3 9 "HillSeer$OrderSearch" "seen" "[I" ∈ pmBig := pm_big (i := 203) (by decide +kernel) rfl
theorem wb_52 : Cond.fieldLink RX3 15 "HillSeer$OrderSearch" "words" "[I" ∈ pmBig := pm_big (i := 204) (by decide +kernel) rfl
theorem wb_53 : Cond.fieldLink RX3 18 "HillSeer$OrderSearch" "path" "[I" ∈ pmBig := pm_big (i := 205) (by decide +kernel) rfl
theorem wb_54 : Cond.fieldLink RX3 21 "HillSeer$OrderSearch" "mostPath" "[I" ∈ pmBig := pm_big (i := 206) (by decide +kernel) rfl
theorem wb_55 : Cond.fieldLink RX3 24 "HillSeer$OrderSearch" "leastPath" "[I" ∈ pmBig := pm_big (i := 208) (by decide +kernel) rfl
theorem wb_56 : Cond.fieldLink RX3 27 "HillSeer$OrderSearch" "size" "I" ∈ pmBig := pm_big (i := 210) (by decide +kernel) rfl
theorem wb_57 : Cond.fieldLink RX3 31 "HillSeer$OrderSearch" "used" "I" ∈ pmBig := pm_big (i := 211) (by decide +kernel) rfl
theorem wb_58 : Cond.fieldLink RX3 34 "HillSeer$OrderSearch" "wanted" "I" ∈ pmBig := pm_big (i := 212) (by decide +kernel) rfl
theorem wb_59 : Cond.fieldLink RX3 37 "HillSeer$OrderSearch" "most" "I" ∈ pmBig := pm_big (i := 213) (by decide +kernel) rfl
theorem wb_60 : Cond.fieldLink RX3 40 "HillSeer$OrderSearch" "least" "I" ∈ pmBig := pm_big (i := 215) (by decide +kernel) rfl
theorem wb_61 : Cond.fieldLink RX3 43 "HillSeer$OrderSearch" "found" "I" ∈ pmBig := pm_big (i := 217) (by decide +kernel) rfl
theorem wb_62 : Cond.fieldLink RX3 46 "HillSeer$OrderSearch" "common" "I" ∈ pmBig := pm_big (i := 219) (by decide +kernel) rfl
theorem wb_63 : Cond.methodLink RX6 1 Lib.objectInit ∈ pmBig := pm_big (i := 75) (by decide +kernel) rfl
theorem wb_64 : Cond.classLink RX6 9 RX5 ∈ pmBig := pm_big (i := 78) (by decide +kernel) rfl
theorem wb_65 : Cond.fieldLink RX6 11 "HillSeer" "rows" "[LHillSeer$Sheet;" ∈ pmBig := pm_big (i := 259) (by decide +kernel) rfl
theorem wb_66 : Cond.fieldLink RX6 15 "HillSeer" "texts" "[LHillSeer$Sheet;" ∈ pmBig := pm_big (i := 260) (by decide +kernel) rfl
theorem wb_67 : Cond.classLink RX6 18 RX4 ∈ pmBig := pm_big (i := 80) (by decide +kernel) rfl
theorem wb_68 : Cond.instantiable RX4 6 ∈ pmBig := pm_big (i := 81) (by decide +kernel) rfl
theorem wb_69 : Cond.methodLinkNest RX6 20 yX4_init "HillSeer" ∈ pmNest := pm_nst (i := 82) (by decide +kernel) rfl
theorem wb_70 : Cond.instanceMethod yX4_init ∈ pmBig := pm_big (i := 83) (by decide +kernel) rfl
theorem wb_71 : Cond.fieldLink RX6 21 "HillSeer" "reader" "LHillSeer$Reader;" ∈ pmBig := pm_big (i := 261) (by decide +kernel) rfl
theorem wb_72 : Cond.classLink RX6 25 RX2 ∈ pmBig := pm_big (i := 111) (by decide +kernel) rfl
theorem wb_73 : Cond.instantiable RX2 2 ∈ pmBig := pm_big (i := 112) (by decide +kernel) rfl
theorem wb_74 : Cond.methodLink RX6 27 yX2_init ∈ pmBig := pm_big (i := 113) (by decide +kernel) rfl
theorem wb_75 : Cond.instanceMethod yX2_init ∈ pmBig := pm_big (i := 114) (by decide +kernel) rfl
theorem wb_76 : Cond.fieldLink RX6 28 "HillSeer" "land" "LHillSeer$Land;" ∈ pmBig := pm_big (i := 262) (by decide +kernel) rfl
theorem wb_77 : Cond.classLink RX6 32 RX0 ∈ pmBig := pm_big (i := 153) (by decide +kernel) rfl
theorem wb_78 : Cond.instantiable RX0 9 ∈ pmBig := pm_big (i := 154) (by decide +kernel) rfl
theorem wb_79 : Cond.methodLink RX6 34 yX0_init ∈ pmBig := pm_big (i := 155) (by decide +kernel) rfl
theorem wb_80 : Cond.instanceMethod yX0_init ∈ pmBig := pm_big (i := 156) (by decide +kernel) rfl
theorem wb_81 : Cond.fieldLink RX6 37 "HillSeer" "camp" "LHillSeer$Camp;" ∈ pmBig := pm_big (i := 263) (by decide +kernel) rfl
theorem wb_82 : Cond.fieldLink RX6 41 "HillSeer" "trial" "LHillSeer$Camp;" ∈ pmBig := pm_big (i := 264) (by decide +kernel) rfl
theorem wb_83 : Cond.fieldLink RX6 44 "HillSeer" "kept" "[LHillSeer$Camp;" ∈ pmBig := pm_big (i := 265) (by decide +kernel) rfl
theorem wb_84 : Cond.arrayClass .boolean ∈ pmBig := pm_big (i := 246) (by decide +kernel) rfl
theorem wb_85 : Cond.fieldLink RX6 48 "HillSeer" "isKept" "[Z" ∈ pmBig := pm_big (i := 266) (by decide +kernel) rfl
theorem wb_86 : Cond.classLink RX6 52 RX3 ∈ pmBig := pm_big (i := 197) (by decide +kernel) rfl
theorem wb_87 : Cond.instantiable RX3 12 ∈ pmBig := pm_big (i := 198) (by decide +kernel) rfl
theorem wb_88 : Cond.methodLinkNest RX6 54 yX3_init "HillSeer" ∈ pmNest := pm_nst (i := 199) (by decide +kernel) rfl
theorem wb_89 : Cond.instanceMethod yX3_init ∈ pmBig := pm_big (i := 200) (by decide +kernel) rfl
theorem wb_90 : Cond.fieldLink RX6 55 "HillSeer" "search" "LHillSeer$OrderSearch;" ∈ pmBig := pm_big (i := 267) (by decide +kernel) rfl
theorem wb_91 : Cond.fieldLink RX6 59 "HillSeer" "findingCounts" "[I" ∈ pmBig := pm_big (i := 268) (by decide +kernel) rfl
theorem wb_92 : Cond.fieldLink RX6 63 "HillSeer" "latestFinding" "I" ∈ pmBig := pm_big (i := 269) (by decide +kernel) rfl
theorem wb_93 : Cond.fieldLink RX6 67 "HillSeer" "told" "I" ∈ pmBig := pm_big (i := 270) (by decide +kernel) rfl
theorem wb_94 : Cond.fieldLink RX6 70 "HillSeer" "toldUpper" "J" ∈ pmBig := pm_big (i := 271) (by decide +kernel) rfl
theorem wb_95 : Cond.fieldLink RX6 74 "HillSeer" "toldLower" "J" ∈ pmBig := pm_big (i := 272) (by decide +kernel) rfl
theorem wb_96 : Cond.instantiable RX5 2 ∈ pmBig := pm_big (i := 247) (by decide +kernel) rfl
theorem wb_97 : Cond.methodLink RX6 77 yX5_init ∈ pmBig := pm_big (i := 248) (by decide +kernel) rfl
theorem wb_98 : Cond.instanceMethod yX5_init ∈ pmBig := pm_big (i := 249) (by decide +kernel) rfl
theorem wb_99 : Cond.methodLink RX7 1 Lib.objectInit ∈ pmBig := pm_big (i := 812) (by decide +kernel) rfl
theorem wb_100 : Cond.fieldLink RX7 7 "HillSeerModel" "rows" "[I" ∈ pmBig := pm_big (i := 813) (by decide +kernel) rfl
theorem wb_101 : Cond.fieldLink RX7 13 "HillSeerModel" "rowSize" "[I" ∈ pmBig := pm_big (i := 814) (by decide +kernel) rfl
theorem wb_102 : Cond.fieldLink RX7 16 "HillSeerModel" "texts" "[I" ∈ pmBig := pm_big (i := 815) (by decide +kernel) rfl
theorem wb_103 : Cond.fieldLink RX7 19 "HillSeerModel" "textSize" "[I" ∈ pmBig := pm_big (i := 816) (by decide +kernel) rfl
theorem wb_104 : Cond.fieldLink RX7 22 "HillSeerModel" "kinds" "[I" ∈ pmBig := pm_big (i := 818) (by decide +kernel) rfl
theorem wb_105 : Cond.fieldLink RX7 25 "HillSeerModel" "firsts" "[I" ∈ pmBig := pm_big (i := 819) (by decide +kernel) rfl
theorem wb_106 : Cond.fieldLink RX7 28 "HillSeerModel" "broads" "[I" ∈ pmBig := pm_big (i := 820) (by decide +kernel) rfl
theorem wb_107 : Cond.fieldLink RX7 31 "HillSeerModel" "camped" "[I" ∈ pmBig := pm_big (i := 821) (by decide +kernel) rfl
theorem wb_108 : Cond.fieldLink RX7 34 "HillSeerModel" "deeds" "[I" ∈ pmBig := pm_big (i := 822) (by decide +kernel) rfl
theorem wb_109 : Cond.fieldLink RX7 37 "HillSeerModel" "keptDeeds" "[I" ∈ pmBig := pm_big (i := 824) (by decide +kernel) rfl
theorem wb_110 : Cond.fieldLink RX7 40 "HillSeerModel" "keptMany" "[I" ∈ pmBig := pm_big (i := 825) (by decide +kernel) rfl
theorem wb_111 : Cond.fieldLink RX7 43 "HillSeerModel" "now" "[I" ∈ pmBig := pm_big (i := 826) (by decide +kernel) rfl
theorem wb_112 : Cond.fieldLink RX7 46 "HillSeerModel" "state" "[I" ∈ pmBig := pm_big (i := 827) (by decide +kernel) rfl
theorem wb_113 : Cond.fieldLink RX7 49 "HillSeerModel" "given" "[I" ∈ pmBig := pm_big (i := 830) (by decide +kernel) rfl
theorem wb_114 : Cond.fieldLink RX7 52 "HillSeerModel" "marks" "[I" ∈ pmBig := pm_big (i := 831) (by decide +kernel) rfl
theorem wb_115 : Cond.fieldLink RX7 55 "HillSeerModel" "found" "[I" ∈ pmBig := pm_big (i := 836) (by decide +kernel) rfl
theorem wb_116 : Cond.fieldLink RX7 58 "HillSeerModel" "readOf" "[I" ∈ pmBig := pm_big (i := 840) (by decide +kernel) rfl
theorem wb_117 : Cond.fieldLink RX7 61 "HillSeerModel" "readGiven" "[I" ∈ pmBig := pm_big (i := 841) (by decide +kernel) rfl
theorem wb_118 : Cond.fieldLink RX7 64 "HillSeerModel" "order" "[I" ∈ pmBig := pm_big (i := 842) (by decide +kernel) rfl
theorem wb_119 : Cond.fieldLink RX7 67 "HillSeerModel" "heldGiven" "[I" ∈ pmBig := pm_big (i := 843) (by decide +kernel) rfl
theorem wb_120 : Cond.fieldLink RX7 70 "HillSeerModel" "heldMarks" "[I" ∈ pmBig := pm_big (i := 844) (by decide +kernel) rfl
theorem wb_121 : Cond.fieldLink RX7 73 "HillSeerModel" "lower" "J" ∈ pmBig := pm_big (i := 834) (by decide +kernel) rfl
theorem wb_122 : Cond.classLink RL 7 RX6 ∈ pmBig := pm_big (i := 70) (by decide +kernel) rfl
theorem wb_123 : Cond.instantiable RX6 14 ∈ pmBig := pm_big (i := 71) (by decide +kernel) rfl
theorem wb_124 : Cond.methodLink RL 9 yX6_init ∈ pmBig := pm_big (i := 72) (by decide +kernel) rfl
theorem wb_125 : Cond.instanceMethod yX6_init ∈ pmBig := pm_big (i := 73) (by decide +kernel) rfl
theorem wb_126 : Cond.classLink RL 10 RX7 ∈ pmBig := pm_big (i := 807) (by decide +kernel) rfl
theorem wb_127 : Cond.instantiable RX7 32 ∈ pmBig := pm_big (i := 808) (by decide +kernel) rfl
theorem wb_128 : Cond.methodLink RL 12 yX7_init ∈ pmBig := pm_big (i := 809) (by decide +kernel) rfl
theorem wb_129 : Cond.instanceMethod yX7_init ∈ pmBig := pm_big (i := 810) (by decide +kernel) rfl
def mX0_init : pmM := (yX0_init, cX0_init, 2, none, RX0)
def mX1_init : pmM := (yX1_init, cX1_init, 1, none, RX1)
def mX2_init : pmM := (yX2_init, cX2_init, 2, none, RX2)
def mX3_init : pmM := (yX3_init, cX3_init, 1, none, RX3)
def mX4_init : pmM := (yX4_init, cX4_init, 1, none, RX4)
def mX5_init : pmM := (yX5_init, cX5_init, 2, none, RX5)
def mX6_init : pmM := (yX6_init, cX6_init, 2, none, RX6)
def mX7_init : pmM := (yX7_init, cX7_init, 2, none, RX7)
theorem jX0_init : pm_J mX0_init 1 := ⟨by decide +kernel, rfl, Nat.le_of_ble_eq_true rfl, ⟨by decide, by decide, by decide +kernel⟩, wb_0, wb_1⟩
theorem jX1_init : pm_J mX1_init 0 := ⟨by decide +kernel, rfl, Nat.le_of_ble_eq_true rfl, ⟨by decide, by decide, by decide +kernel⟩, wb_2, wb_3⟩
theorem jX2_init : pm_J mX2_init 0 := ⟨by decide +kernel, rfl, Nat.le_of_ble_eq_true rfl, ⟨by decide, by decide, by decide +kernel⟩, wb_4, wb_5⟩
theorem jX3_init : pm_J mX3_init 0 := ⟨by decide +kernel, rfl, Nat.le_of_ble_eq_true rfl, ⟨by decide, by decide, by decide +kernel⟩, wb_6, wb_7⟩
theorem jX4_init : pm_J mX4_init 0 := ⟨by decide +kernel, rfl, Nat.le_of_ble_eq_true rfl, ⟨by decide, by decide, by decide +kernel⟩, wb_8, wb_9⟩
theorem jX5_init : pm_J mX5_init 1 := ⟨by decide +kernel, rfl, Nat.le_of_ble_eq_true rfl, ⟨by decide, by decide, by decide +kernel⟩, wb_10, wb_11⟩
theorem jX6_init : pm_J mX6_init 0 := ⟨by decide +kernel, rfl, Nat.le_of_ble_eq_true rfl, ⟨by decide, by decide, by decide +kernel⟩, wb_12, wb_13⟩
theorem jX7_init : pm_J mX7_init 0 := ⟨by decide +kernel, rfl, Nat.le_of_ble_eq_true rfl, ⟨by decide, by decide, by decide +kernel⟩, wb_14, wb_15⟩
theorem fs_X0 {k : Nat} (X : pmX) (j : Nat) (hj : j < 9) : defaultValue (tyX0 j) = vp_V (((pm_fs 0 k (mFi k) (mFl k)).map dfl).map (pm_tr X)) j := by
  rcases (show j = 0 ∨ j = 1 ∨ j = 2 ∨ j = 3 ∨ j = 4 ∨ j = 5 ∨ j = 6 ∨ j = 7 ∨ j = 8 by omega) with rfl | rfl | rfl | rfl | rfl | rfl | rfl | rfl | rfl <;> rfl
theorem fs_X1 {k : Nat} (X : pmX) (j : Nat) (hj : j < 3) : defaultValue (tyX1 j) = vp_V (((pm_fs 1 k (mFi k) (mFl k)).map dfl).map (pm_tr X)) j := by
  rcases (show j = 0 ∨ j = 1 ∨ j = 2 by omega) with rfl | rfl | rfl <;> rfl
theorem fs_X2 {k : Nat} (X : pmX) (j : Nat) (hj : j < 2) : defaultValue (tyX2 j) = vp_V (((pm_fs 2 k (mFi k) (mFl k)).map dfl).map (pm_tr X)) j := by
  rcases (show j = 0 ∨ j = 1 by omega) with rfl | rfl <;> rfl
theorem fs_X3 {k : Nat} (X : pmX) (j : Nat) (hj : j < 12) : defaultValue (tyX3 j) = vp_V (((pm_fs 3 k (mFi k) (mFl k)).map dfl).map (pm_tr X)) j := by
  rcases (show j = 0 ∨ j = 1 ∨ j = 2 ∨ j = 3 ∨ j = 4 ∨ j = 5 ∨ j = 6 ∨ j = 7 ∨ j = 8 ∨ j = 9 ∨ j = 10 ∨ j = 11 by omega) with rfl | rfl | rfl | rfl | rfl | rfl | rfl | rfl | rfl | rfl | rfl | rfl <;> rfl
theorem fs_X4 {k : Nat} (X : pmX) (j : Nat) (hj : j < 6) : defaultValue (tyX4 j) = vp_V (((pm_fs 4 k (mFi k) (mFl k)).map dfl).map (pm_tr X)) j := by
  rcases (show j = 0 ∨ j = 1 ∨ j = 2 ∨ j = 3 ∨ j = 4 ∨ j = 5 by omega) with rfl | rfl | rfl | rfl | rfl | rfl <;> rfl
theorem fs_X5 {k : Nat} (X : pmX) (j : Nat) (hj : j < 2) : defaultValue (tyX5 j) = vp_V (((pm_fs 5 k (mFi k) (mFl k)).map dfl).map (pm_tr X)) j := by
  rcases (show j = 0 ∨ j = 1 by omega) with rfl | rfl <;> rfl
theorem fs_X6 {k : Nat} (X : pmX) (j : Nat) (hj : j < 14) : defaultValue (tyX6 j) = vp_V (((pm_fs 6 k (mFi k) (mFl k)).map dfl).map (pm_tr X)) j := by
  rcases (show j = 0 ∨ j = 1 ∨ j = 2 ∨ j = 3 ∨ j = 4 ∨ j = 5 ∨ j = 6 ∨ j = 7 ∨ j = 8 ∨ j = 9 ∨ j = 10 ∨ j = 11 ∨ j = 12 ∨ j = 13 by omega) with rfl | rfl | rfl | rfl | rfl | rfl | rfl | rfl | rfl | rfl | rfl | rfl | rfl | rfl <;> rfl
theorem fs_X7 {k : Nat} (X : pmX) (j : Nat) (hj : j < 32) : defaultValue (tyX7 j) = vp_V (((pm_fs 7 k (mFi k) (mFl k)).map dfl).map (pm_tr X)) j := by
  rcases (show j = 0 ∨ j = 1 ∨ j = 2 ∨ j = 3 ∨ j = 4 ∨ j = 5 ∨ j = 6 ∨ j = 7 ∨ j = 8 ∨ j = 9 ∨ j = 10 ∨ j = 11 ∨ j = 12 ∨ j = 13 ∨ j = 14 ∨ j = 15 ∨ j = 16 ∨ j = 17 ∨ j = 18 ∨ j = 19 ∨ j = 20 ∨ j = 21 ∨ j = 22 ∨ j = 23 ∨ j = 24 ∨ j = 25 ∨ j = 26 ∨ j = 27 ∨ j = 28 ∨ j = 29 ∨ j = 30 ∨ j = 31 by omega) with rfl | rfl | rfl | rfl | rfl | rfl | rfl | rfl | rfl | rfl | rfl | rfl | rfl | rfl | rfl | rfl | rfl | rfl | rfl | rfl | rfl | rfl | rfl | rfl | rfl | rfl | rfl | rfl | rfl | rfl | rfl | rfl <;> rfl
theorem mFi_5 {a : Nat} (h : pm_kd a = 5) : mFi a 1 = -1 := by unfold mFi; rw [if_pos ⟨h, rfl⟩]
theorem kd_26 {a : Nat} (h : pm_kd a ≠ 3) : a ≠ 26 := fun z => h (by rw [z]; rfl)
theorem mFi_0 {a j : Nat} (h : pm_kd a = 0) : mFi a j = 0 := by
  have := kd_26 (a := a) (by omega)
  unfold mFi
  rw [if_neg (by omega), if_neg (by omega), if_neg (by omega), if_neg (by omega)]
theorem mFi_1_0 {a : Nat} (h : pm_kd a = 1) : mFi a 0 = 0 := by
  have := kd_26 (a := a) (by omega)
  unfold mFi
  rw [if_neg (by omega), if_neg (by omega), if_neg (by omega), if_neg (by omega)]
theorem mFi_1_1 {a : Nat} (h : pm_kd a = 1) : mFi a 1 = 0 := by
  have := kd_26 (a := a) (by omega)
  unfold mFi
  rw [if_neg (by omega), if_neg (by omega), if_neg (by omega), if_neg (by omega)]
theorem mFi_1_2 {a : Nat} (h : pm_kd a = 1) : mFi a 2 = 1 := by
  unfold mFi
  rw [if_neg (by omega), if_pos ⟨h, rfl⟩]
theorem b_X1 {d a : Nat} {N : Nat → Nat → Bool} {Q : Nat → (Nat → Nat → Bool) → Prop} (hk : pm_kd a = 1) (K : Q (a + 1) (stN (stN (stN N a 0) a 1) a 2)) : pm_B (d + 1) mX1_init 0 [some (.ref a)] [] (a + 1) N 0 0 0 0 (Qr mX1_init Q) := by
  refine B_aload_n rfl rfl (show decode cX1_init 0 = .ok (.aload_n 0, 1) by decide +kernel) ?_
  refine B_objInit wb_16 wb_17 wb_18 (show decode cX1_init 1 = .ok (.invokespecial 3, 3) by decide +kernel) ?_
  refine B_aload_n rfl rfl (show decode cX1_init 4 = .ok (.aload_n 0, 1) by decide +kernel) ?_
  refine B_iconst (v := 0) (by decide) (show decode cX1_init 5 = .ok (.iconst 0, 1) by decide +kernel) ?_
  refine B_put (ci := 1) (j := 0) (q := (RX1, TX1, 3)) (ty := .int) (show decode cX1_init 6 = .ok (.putfield 9, 3) by decide +kernel) hk (by decide) rfl iX1 tyX1_ok nmX1 (by decide) wb_19 rfl (by decide +kernel) (show some (Value.int (mFi a 0)) = some (.int 0) by rw [mFi_1_0 hk]) (fun _ => rfl) (fun _ => rfl) (by omega) ?_
  refine B_aload_n rfl rfl (show decode cX1_init 9 = .ok (.aload_n 0, 1) by decide +kernel) ?_
  refine B_iconst (v := 0) (by decide) (show decode cX1_init 10 = .ok (.iconst 0, 1) by decide +kernel) ?_
  refine B_put (ci := 1) (j := 1) (q := (RX1, TX1, 3)) (ty := .int) (show decode cX1_init 11 = .ok (.putfield 15, 3) by decide +kernel) hk (by decide) rfl iX1 tyX1_ok nmX1 (by decide) wb_20 rfl (by decide +kernel) (show some (Value.int (mFi a 1)) = some (.int 0) by rw [mFi_1_1 hk]) (fun _ => rfl) (fun _ => rfl) (by omega) ?_
  refine B_aload_n rfl rfl (show decode cX1_init 14 = .ok (.aload_n 0, 1) by decide +kernel) ?_
  refine B_iconst (v := 1) (by decide) (show decode cX1_init 15 = .ok (.iconst 1, 1) by decide +kernel) ?_
  refine B_put (ci := 1) (j := 2) (q := (RX1, TX1, 3)) (ty := .int) (show decode cX1_init 16 = .ok (.putfield 18, 3) by decide +kernel) hk (by decide) rfl iX1 tyX1_ok nmX1 (by decide) wb_21 rfl (by decide +kernel) (show some (Value.int (mFi a 2)) = some (.int 1) by rw [mFi_1_2 hk]) (fun _ => rfl) (fun _ => rfl) (by omega) ?_
  exact B_return (show decode cX1_init 19 = .ok (.return_, 1) by decide +kernel) rfl (by omega) (by omega) K
theorem b_X5 {d a : Nat} {n : Int32} {N : Nat → Nat → Bool} {Q : Nat → (Nat → Nat → Bool) → Prop} (hk : pm_kd a = 5) (h1 : pm_kd (a + 1) = 8) (hn1 : n = nI (pm_ln (a + 1))) (hl : pm_ln (a + 1) ≤ 60) (K : Q (a + 1 + 1) (stN (stN N a 1) a 0)) : pm_B (d + 1) mX5_init 0 [some (.ref a), some (.int n)] [] (a + 1) N 0 0 1 60 (Qr mX5_init Q) := by
  refine B_aload_n rfl rfl (show decode cX5_init 0 = .ok (.aload_n 0, 1) by decide +kernel) ?_
  refine B_objInit wb_22 wb_17 wb_18 (show decode cX5_init 1 = .ok (.invokespecial 1, 3) by decide +kernel) ?_
  refine B_aload_n rfl rfl (show decode cX5_init 4 = .ok (.aload_n 0, 1) by decide +kernel) ?_
  refine B_iconst (v := (-1)) (by decide) (show decode cX5_init 5 = .ok (.iconst (-1), 1) by decide +kernel) ?_
  refine B_put (ci := 5) (j := 1) (q := (RX5, TX5, 2)) (ty := .int) (show decode cX5_init 6 = .ok (.putfield 9, 3) by decide +kernel) hk (by decide) rfl iX5 tyX5_ok nmX5 (by decide) wb_23 rfl (by decide +kernel) (show some (Value.int (mFi a 1)) = some (.int (-1)) by rw [mFi_5 hk]) (fun _ => rfl) (fun _ => rfl) (by omega) ?_
  refine B_aload_n rfl rfl (show decode cX5_init 9 = .ok (.aload_n 0, 1) by decide +kernel) ?_
  refine B_iload_n rfl rfl (show decode cX5_init 10 = .ok (.iload_n 1, 1) by decide +kernel) ?_
  refine B_newi (show decode cX5_init 11 = .ok (.newarray .int, 2) by decide +kernel) (h1) wb_24 (hn1) (by omega) (by omega) (by omega) ?_
  refine B_putF (ci := 5) (j := 0) (q := (RX5, TX5, 2)) (ty := (.array .int)) (show decode cX5_init 13 = .ok (.putfield 13, 3) by decide +kernel) hk (by decide) rfl iX5 tyX5_ok nmX5 (by decide) wb_25 rfl rfl rfl (by decide +kernel) rfl (fun _ => rfl) (fun _ => rfl) (by omega) ?_
  exact B_return (show decode cX5_init 16 = .ok (.return_, 1) by decide +kernel) rfl (by omega) (by omega) K
theorem b_X0 {d a : Nat} {N : Nat → Nat → Bool} {Q : Nat → (Nat → Nat → Bool) → Prop} (hk : pm_kd a = 0) (hn1 : (12 : Int32) = nI (pm_ln (a + 1)) ∧ pm_ln (a + 1) = 12) (hn2 : (12 : Int32) = nI (pm_ln (a + 1 + 1)) ∧ pm_ln (a + 1 + 1) = 12) (hn3 : (40 : Int32) = nI (pm_ln (a + 1 + 1 + 1)) ∧ pm_ln (a + 1 + 1 + 1) = 40) (K : Q (a + 1 + 1 + 1 + 1) (stN (stN (stN (stN (stN (stN (stN (stN (stN N a 1) a 2) a 3) a 4) a 5) a 6) a 7) a 8) a 0)) : pm_B (d + 1) mX0_init 0 [some (.ref a), some (.ref 8)] [] (a + 1) N 0 0 3 64 (Qr mX0_init Q) := by
  have h1 := (pm_kc a hk).1
  have h2 := (pm_kc a hk).2.1
  have h3 := (pm_kc a hk).2.2
  refine B_aload_n rfl rfl (show decode cX0_init 0 = .ok (.aload_n 0, 1) by decide +kernel) ?_
  refine B_objInit wb_26 wb_17 wb_18 (show decode cX0_init 1 = .ok (.invokespecial 3, 3) by decide +kernel) ?_
  refine B_aload_n rfl rfl (show decode cX0_init 4 = .ok (.aload_n 0, 1) by decide +kernel) ?_
  refine B_bipush (v := 12) (by decide) (show decode cX0_init 5 = .ok (.bipush 12, 2) by decide +kernel) ?_
  refine B_newi (show decode cX0_init 7 = .ok (.newarray .int, 2) by decide +kernel) (h1) wb_24 hn1.1 (by omega) (by omega) (by omega) ?_
  refine B_putF (ci := 0) (j := 1) (q := (RX0, TX0, 9)) (ty := (.array .int)) (show decode cX0_init 9 = .ok (.putfield 9, 3) by decide +kernel) hk (by decide) rfl iX0 tyX0_ok nmX0 (by decide) wb_27 rfl rfl rfl (by decide +kernel) rfl (fun _ => rfl) (fun _ => rfl) (by omega) ?_
  refine B_aload_n rfl rfl (show decode cX0_init 12 = .ok (.aload_n 0, 1) by decide +kernel) ?_
  refine B_bipush (v := 12) (by decide) (show decode cX0_init 13 = .ok (.bipush 12, 2) by decide +kernel) ?_
  refine B_newi (show decode cX0_init 15 = .ok (.newarray .int, 2) by decide +kernel) (h2) wb_24 hn2.1 (by omega) (by omega) (by omega) ?_
  refine B_putF (ci := 0) (j := 2) (q := (RX0, TX0, 9)) (ty := (.array .int)) (show decode cX0_init 17 = .ok (.putfield 15, 3) by decide +kernel) hk (by decide) rfl iX0 tyX0_ok nmX0 (by decide) wb_28 rfl rfl rfl (by decide +kernel) rfl (fun _ => rfl) (fun _ => rfl) (by omega) ?_
  refine B_aload_n rfl rfl (show decode cX0_init 20 = .ok (.aload_n 0, 1) by decide +kernel) ?_
  refine B_bipush (v := 40) (by decide) (show decode cX0_init 21 = .ok (.bipush 40, 2) by decide +kernel) ?_
  refine B_newi (show decode cX0_init 23 = .ok (.newarray .int, 2) by decide +kernel) (h3) wb_24 hn3.1 (by omega) (by omega) (by omega) ?_
  refine B_putF (ci := 0) (j := 3) (q := (RX0, TX0, 9)) (ty := (.array .int)) (show decode cX0_init 25 = .ok (.putfield 18, 3) by decide +kernel) hk (by decide) rfl iX0 tyX0_ok nmX0 (by decide) wb_29 rfl rfl rfl (by decide +kernel) rfl (fun _ => rfl) (fun _ => rfl) (by omega) ?_
  refine B_aload_n rfl rfl (show decode cX0_init 28 = .ok (.aload_n 0, 1) by decide +kernel) ?_
  refine B_iconst (v := 0) (by decide) (show decode cX0_init 29 = .ok (.iconst 0, 1) by decide +kernel) ?_
  refine B_put (ci := 0) (j := 4) (q := (RX0, TX0, 9)) (ty := .int) (show decode cX0_init 30 = .ok (.putfield 21, 3) by decide +kernel) hk (by decide) rfl iX0 tyX0_ok nmX0 (by decide) wb_30 rfl (by decide +kernel) (show some (Value.int (mFi a 4)) = some (.int 0) by rw [mFi_0 hk]) (fun _ => rfl) (fun _ => rfl) (by omega) ?_
  refine B_aload_n rfl rfl (show decode cX0_init 33 = .ok (.aload_n 0, 1) by decide +kernel) ?_
  refine B_iconst (v := 0) (by decide) (show decode cX0_init 34 = .ok (.iconst 0, 1) by decide +kernel) ?_
  refine B_put (ci := 0) (j := 5) (q := (RX0, TX0, 9)) (ty := .int) (show decode cX0_init 35 = .ok (.putfield 25, 3) by decide +kernel) hk (by decide) rfl iX0 tyX0_ok nmX0 (by decide) wb_31 rfl (by decide +kernel) (show some (Value.int (mFi a 5)) = some (.int 0) by rw [mFi_0 hk]) (fun _ => rfl) (fun _ => rfl) (by omega) ?_
  refine B_aload_n rfl rfl (show decode cX0_init 38 = .ok (.aload_n 0, 1) by decide +kernel) ?_
  refine B_iconst (v := 0) (by decide) (show decode cX0_init 39 = .ok (.iconst 0, 1) by decide +kernel) ?_
  refine B_put (ci := 0) (j := 6) (q := (RX0, TX0, 9)) (ty := .int) (show decode cX0_init 40 = .ok (.putfield 28, 3) by decide +kernel) hk (by decide) rfl iX0 tyX0_ok nmX0 (by decide) wb_32 rfl (by decide +kernel) (show some (Value.int (mFi a 6)) = some (.int 0) by rw [mFi_0 hk]) (fun _ => rfl) (fun _ => rfl) (by omega) ?_
  refine B_aload_n rfl rfl (show decode cX0_init 43 = .ok (.aload_n 0, 1) by decide +kernel) ?_
  refine B_iconst (v := 0) (by decide) (show decode cX0_init 44 = .ok (.iconst 0, 1) by decide +kernel) ?_
  refine B_put (ci := 0) (j := 7) (q := (RX0, TX0, 9)) (ty := .int) (show decode cX0_init 45 = .ok (.putfield 31, 3) by decide +kernel) hk (by decide) rfl iX0 tyX0_ok nmX0 (by decide) wb_33 rfl (by decide +kernel) (show some (Value.int (mFi a 7)) = some (.int 0) by rw [mFi_0 hk]) (fun _ => rfl) (fun _ => rfl) (by omega) ?_
  refine B_aload_n rfl rfl (show decode cX0_init 48 = .ok (.aload_n 0, 1) by decide +kernel) ?_
  refine B_iconst (v := 0) (by decide) (show decode cX0_init 49 = .ok (.iconst 0, 1) by decide +kernel) ?_
  refine B_put (ci := 0) (j := 8) (q := (RX0, TX0, 9)) (ty := .int) (show decode cX0_init 50 = .ok (.putfield 34, 3) by decide +kernel) hk (by decide) rfl iX0 tyX0_ok nmX0 (by decide) wb_34 rfl (by decide +kernel) (show some (Value.int (mFi a 8)) = some (.int 0) by rw [mFi_0 hk]) (fun _ => rfl) (fun _ => rfl) (by omega) ?_
  refine B_aload_n rfl rfl (show decode cX0_init 53 = .ok (.aload_n 0, 1) by decide +kernel) ?_
  refine B_aload_n rfl rfl (show decode cX0_init 54 = .ok (.aload_n 1, 1) by decide +kernel) ?_
  refine B_putF (ci := 0) (j := 0) (q := (RX0, TX0, 9)) (ty := (.object "HillSeer$Land")) (show decode cX0_init 55 = .ok (.putfield 37, 3) by decide +kernel) hk (by decide) rfl iX0 tyX0_ok nmX0 (by decide) wb_35 rfl rfl rfl (by decide +kernel) rfl (fun _ => rfl) (fun _ => rfl) (by omega) ?_
  exact B_return (show decode cX0_init 58 = .ok (.return_, 1) by decide +kernel) rfl (by omega) (by omega) K
set_option maxRecDepth 20000 in
set_option maxHeartbeats 4000000 in
theorem b_X4 {d : Nat} {N : Nat → Nat → Bool} {Q : Nat → (Nat → Nat → Bool) → Prop} (K : Q 8 (stN (stN (stN (stN (stN (stN N 3 0) 3 1) 3 2) 3 3) 3 4) 3 5)) : pm_B (d + 1) mX4_init 0 [some (.ref 3)] [] 4 N 0 0 4 30 (Qr mX4_init Q) := by
  refine B_aload_n rfl rfl (show decode cX4_init 0 = .ok (.aload_n 0, 1) by decide +kernel) ?_
  refine B_objInit wb_36 wb_17 wb_18 (show decode cX4_init 1 = .ok (.invokespecial 3, 3) by decide +kernel) ?_
  refine B_aload_n rfl rfl (show decode cX4_init 4 = .ok (.aload_n 0, 1) by decide +kernel) ?_
  refine B_bipush (v := 12) (by decide) (show decode cX4_init 5 = .ok (.bipush 12, 2) by decide +kernel) ?_
  refine B_newi (show decode cX4_init 7 = .ok (.newarray .int, 2) by decide +kernel) rfl wb_24 (by decide) (by decide) (Nat.le_of_ble_eq_true rfl) (Nat.le_of_ble_eq_true rfl) ?_
  show pm_B _ _ _ _ (.ref 4 :: _) 5 _ 1 12 _ _ _
  refine B_putF (ci := 4) (j := 0) (q := (RX4, TX4, 6)) (ty := (.array .int)) (show decode cX4_init 9 = .ok (.putfield 9, 3) by decide +kernel) rfl (by decide) rfl iX4 tyX4_ok nmX4 (by decide) wb_37 rfl rfl rfl (by decide +kernel) rfl (fun _ => rfl) (fun _ => rfl) (Nat.le_of_ble_eq_true rfl) ?_
  refine B_aload_n rfl rfl (show decode cX4_init 12 = .ok (.aload_n 0, 1) by decide +kernel) ?_
  refine B_bipush (v := 6) (by decide) (show decode cX4_init 13 = .ok (.bipush 6, 2) by decide +kernel) ?_
  refine B_newi (show decode cX4_init 15 = .ok (.newarray .int, 2) by decide +kernel) rfl wb_24 (by decide) (by decide) (Nat.le_of_ble_eq_true rfl) (Nat.le_of_ble_eq_true rfl) ?_
  show pm_B _ _ _ _ (.ref 5 :: _) 6 _ 2 18 _ _ _
  refine B_putF (ci := 4) (j := 1) (q := (RX4, TX4, 6)) (ty := (.array .int)) (show decode cX4_init 17 = .ok (.putfield 15, 3) by decide +kernel) rfl (by decide) rfl iX4 tyX4_ok nmX4 (by decide) wb_38 rfl rfl rfl (by decide +kernel) rfl (fun _ => rfl) (fun _ => rfl) (Nat.le_of_ble_eq_true rfl) ?_
  refine B_aload_n rfl rfl (show decode cX4_init 20 = .ok (.aload_n 0, 1) by decide +kernel) ?_
  refine B_bipush (v := 6) (by decide) (show decode cX4_init 21 = .ok (.bipush 6, 2) by decide +kernel) ?_
  refine B_newi (show decode cX4_init 23 = .ok (.newarray .int, 2) by decide +kernel) rfl wb_24 (by decide) (by decide) (Nat.le_of_ble_eq_true rfl) (Nat.le_of_ble_eq_true rfl) ?_
  show pm_B _ _ _ _ (.ref 6 :: _) 7 _ 3 24 _ _ _
  refine B_putF (ci := 4) (j := 2) (q := (RX4, TX4, 6)) (ty := (.array .int)) (show decode cX4_init 25 = .ok (.putfield 18, 3) by decide +kernel) rfl (by decide) rfl iX4 tyX4_ok nmX4 (by decide) wb_39 rfl rfl rfl (by decide +kernel) rfl (fun _ => rfl) (fun _ => rfl) (Nat.le_of_ble_eq_true rfl) ?_
  refine B_aload_n rfl rfl (show decode cX4_init 28 = .ok (.aload_n 0, 1) by decide +kernel) ?_
  refine B_bipush (v := 6) (by decide) (show decode cX4_init 29 = .ok (.bipush 6, 2) by decide +kernel) ?_
  refine B_newi (show decode cX4_init 31 = .ok (.newarray .int, 2) by decide +kernel) rfl wb_24 (by decide) (by decide) (Nat.le_of_ble_eq_true rfl) (Nat.le_of_ble_eq_true rfl) ?_
  show pm_B _ _ _ _ (.ref 7 :: _) 8 _ 4 30 _ _ _
  refine B_putF (ci := 4) (j := 3) (q := (RX4, TX4, 6)) (ty := (.array .int)) (show decode cX4_init 33 = .ok (.putfield 21, 3) by decide +kernel) rfl (by decide) rfl iX4 tyX4_ok nmX4 (by decide) wb_40 rfl rfl rfl (by decide +kernel) rfl (fun _ => rfl) (fun _ => rfl) (Nat.le_of_ble_eq_true rfl) ?_
  refine B_aload_n rfl rfl (show decode cX4_init 36 = .ok (.aload_n 0, 1) by decide +kernel) ?_
  refine B_iconst (v := 0) (by decide) (show decode cX4_init 37 = .ok (.iconst 0, 1) by decide +kernel) ?_
  refine B_put (ci := 4) (j := 4) (q := (RX4, TX4, 6)) (ty := .int) (show decode cX4_init 38 = .ok (.putfield 24, 3) by decide +kernel) rfl (by decide) rfl iX4 tyX4_ok nmX4 (by decide) wb_41 rfl (by decide +kernel) rfl (fun _ => rfl) (fun _ => rfl) (Nat.le_of_ble_eq_true rfl) ?_
  refine B_aload_n rfl rfl (show decode cX4_init 41 = .ok (.aload_n 0, 1) by decide +kernel) ?_
  refine B_iconst (v := 0) (by decide) (show decode cX4_init 42 = .ok (.iconst 0, 1) by decide +kernel) ?_
  refine B_put (ci := 4) (j := 5) (q := (RX4, TX4, 6)) (ty := .int) (show decode cX4_init 43 = .ok (.putfield 28, 3) by decide +kernel) rfl (by decide) rfl iX4 tyX4_ok nmX4 (by decide) wb_42 rfl (by decide +kernel) rfl (fun _ => rfl) (fun _ => rfl) (Nat.le_of_ble_eq_true rfl) ?_
  exact B_return (show decode cX4_init 46 = .ok (.return_, 1) by decide +kernel) rfl (Nat.le_of_ble_eq_true rfl) (Nat.le_of_ble_eq_true rfl) K
set_option maxRecDepth 20000 in
set_option maxHeartbeats 4000000 in
theorem b_X2 {d : Nat} {N : Nat → Nat → Bool} {Q : Nat → (Nat → Nat → Bool) → Prop} (K : Q 16 (stN (stN (stN (stN (stN (stN (stN (stN (stN (stN (stN (stN (stN (stN (stN (stN (stN (stN (stN (stN (stN (stN (stN (stN (stN (stN N 8 0) 8 1) 10 0) 10 1) 10 2) 9 0) 11 0) 11 1) 11 2) 9 1) 12 0) 12 1) 12 2) 9 2) 13 0) 13 1) 13 2) 9 3) 14 0) 14 1) 14 2) 9 4) 15 0) 15 1) 15 2) 9 5)) : pm_B (d + 2) mX2_init 0 [some (.ref 8), none] [] 9 N 0 0 7 24 (Qr mX2_init Q) := by
  refine B_aload_n rfl rfl (show decode cX2_init 0 = .ok (.aload_n 0, 1) by decide +kernel) ?_
  refine B_objInit wb_43 wb_17 wb_18 (show decode cX2_init 1 = .ok (.invokespecial 3, 3) by decide +kernel) ?_
  refine B_aload_n rfl rfl (show decode cX2_init 4 = .ok (.aload_n 0, 1) by decide +kernel) ?_
  refine B_bipush (v := 6) (by decide) (show decode cX2_init 5 = .ok (.bipush 6, 2) by decide +kernel) ?_
  refine B_anew (t := 1) (C := RX1) (show decode cX2_init 7 = .ok (.anewarray 9, 3) by decide +kernel) rfl (by decide) wb_44 (Or.inr (Or.inl ⟨rfl, rfl⟩)) (by decide) (by decide) (Nat.le_of_ble_eq_true rfl) (Nat.le_of_ble_eq_true rfl) ?_
  show pm_B _ _ _ _ (.ref 9 :: _) 10 _ 1 6 _ _ _
  refine B_putF (ci := 2) (j := 0) (q := (RX2, TX2, 2)) (ty := (.array (.object "HillSeer$Hill"))) (show decode cX2_init 10 = .ok (.putfield 11, 3) by decide +kernel) rfl (by decide) rfl iX2 tyX2_ok nmX2 (by decide) wb_45 rfl rfl rfl (by decide +kernel) rfl (fun _ => rfl) (fun _ => rfl) (Nat.le_of_ble_eq_true rfl) ?_
  refine B_aload_n rfl rfl (show decode cX2_init 13 = .ok (.aload_n 0, 1) by decide +kernel) ?_
  refine B_iconst (v := 0) (by decide) (show decode cX2_init 14 = .ok (.iconst 0, 1) by decide +kernel) ?_
  refine B_put (ci := 2) (j := 1) (q := (RX2, TX2, 2)) (ty := .int) (show decode cX2_init 15 = .ok (.putfield 17, 3) by decide +kernel) rfl (by decide) rfl iX2 tyX2_ok nmX2 (by decide) wb_46 rfl (by decide +kernel) rfl (fun _ => rfl) (fun _ => rfl) (Nat.le_of_ble_eq_true rfl) ?_
  refine B_iconst (v := 0) (by decide) (show decode cX2_init 18 = .ok (.iconst 0, 1) by decide +kernel) ?_
  refine B_istore_n rfl (Nat.le_of_ble_eq_true rfl) (show decode cX2_init 19 = .ok (.istore_n 1, 1) by decide +kernel) ?_
  show pm_B _ _ _ [some (.ref 8), some (.int 0)] _ _ _ _ _ _ _ _
  refine B_iload_n rfl rfl (show decode cX2_init 20 = .ok (.iload_n 1, 1) by decide +kernel) ?_
  refine B_bipush (v := 6) (by decide) (show decode cX2_init 21 = .ok (.bipush 6, 2) by decide +kernel) ?_
  refine B_ge_f (tgt := 45) (by decide) (show decode cX2_init 23 = .ok (.if_icmp .ge 22, 3) by decide +kernel) (by decide) ?_
  refine B_aload_n rfl rfl (show decode cX2_init 26 = .ok (.aload_n 0, 1) by decide +kernel) ?_
  refine B_get (ci := 2) (j := 0) (q := (RX2, TX2, 2)) (v := .ref 9) (show decode cX2_init 27 = .ok (.getfield 11, 3) by decide +kernel) rfl (by decide) rfl iX2 (by decide) wb_45 rfl rfl (Nat.le_of_ble_eq_true rfl) ?_
  refine B_iload_n rfl rfl (show decode cX2_init 30 = .ok (.iload_n 1, 1) by decide +kernel) ?_
  refine B_new (ci := 1) (q := (RX1, TX1, 3)) (ty := tyX1) (show decode cX2_init 31 = .ok (.new 9, 3) by decide +kernel) rfl (by decide) rfl iX1 tyX1_ok wb_44 wb_47 wb_3 (fun X j hj => fs_X1 X j hj) (Nat.le_of_ble_eq_true rfl) (Nat.le_of_ble_eq_true rfl) ?_
  show pm_B _ _ _ _ (.ref 10 :: _) 11 _ 2 9 _ _ _
  refine B_dup rfl (show decode cX2_init 34 = .ok (.dup, 1) by decide +kernel) ?_
  refine B_callIN (J := mX1_init) (b := 10) (mc' := 0) (ms' := 0) wb_48 jX1_init wb_49 rfl rfl [] rfl (Nat.le_of_ble_eq_true rfl) (show decode cX2_init 35 = .ok (.invokespecial 21, 3) by decide +kernel) (Nat.le_of_ble_eq_true rfl) (Nat.le_of_ble_eq_true rfl) (Nat.le_of_ble_eq_true rfl) (b_X1 (a := 10) rfl ?_)
  show pm_B _ _ _ _ _ 11 _ 2 9 _ _ _
  refine B_aast (t := 1) (ci := 1) (q := (RX1, TX1, 3)) (show decode cX2_init 38 = .ok (.aastore, 1) by decide +kernel) rfl (by decide) (show vp_in (nI 0) (pm_rl 9) from ni_in (by decide) (by decide)) rfl rfl (by decide) rfl (Or.inr (Or.inl ⟨rfl, rfl⟩)) (Nat.le_of_ble_eq_true rfl) (Nat.le_of_ble_eq_true rfl) ?_
  show pm_B _ _ _ _ _ _ (stN _ 9 0) _ _ _ _ _
  refine B_iinc (n := 1) (v := 1) rfl (by decide) (show decode cX2_init 39 = .ok (.iinc 1 1, 3) by decide +kernel) ?_
  show pm_B _ _ _ [some (.ref 8), some (.int 1)] _ _ _ _ _ _ _ _
  refine B_goto (tgt := 20) (show decode cX2_init 42 = .ok (.goto (-22), 3) by decide +kernel) (by decide) ?_
  refine B_iload_n rfl rfl (show decode cX2_init 20 = .ok (.iload_n 1, 1) by decide +kernel) ?_
  refine B_bipush (v := 6) (by decide) (show decode cX2_init 21 = .ok (.bipush 6, 2) by decide +kernel) ?_
  refine B_ge_f (tgt := 45) (by decide) (show decode cX2_init 23 = .ok (.if_icmp .ge 22, 3) by decide +kernel) (by decide) ?_
  refine B_aload_n rfl rfl (show decode cX2_init 26 = .ok (.aload_n 0, 1) by decide +kernel) ?_
  refine B_get (ci := 2) (j := 0) (q := (RX2, TX2, 2)) (v := .ref 9) (show decode cX2_init 27 = .ok (.getfield 11, 3) by decide +kernel) rfl (by decide) rfl iX2 (by decide) wb_45 rfl rfl (Nat.le_of_ble_eq_true rfl) ?_
  refine B_iload_n rfl rfl (show decode cX2_init 30 = .ok (.iload_n 1, 1) by decide +kernel) ?_
  refine B_new (ci := 1) (q := (RX1, TX1, 3)) (ty := tyX1) (show decode cX2_init 31 = .ok (.new 9, 3) by decide +kernel) rfl (by decide) rfl iX1 tyX1_ok wb_44 wb_47 wb_3 (fun X j hj => fs_X1 X j hj) (Nat.le_of_ble_eq_true rfl) (Nat.le_of_ble_eq_true rfl) ?_
  show pm_B _ _ _ _ (.ref 11 :: _) 12 _ 3 12 _ _ _
  refine B_dup rfl (show decode cX2_init 34 = .ok (.dup, 1) by decide +kernel) ?_
  refine B_callIN (J := mX1_init) (b := 11) (mc' := 0) (ms' := 0) wb_48 jX1_init wb_49 rfl rfl [] rfl (Nat.le_of_ble_eq_true rfl) (show decode cX2_init 35 = .ok (.invokespecial 21, 3) by decide +kernel) (Nat.le_of_ble_eq_true rfl) (Nat.le_of_ble_eq_true rfl) (Nat.le_of_ble_eq_true rfl) (b_X1 (a := 11) rfl ?_)
  show pm_B _ _ _ _ _ 12 _ 3 12 _ _ _
  refine B_aast (t := 1) (ci := 1) (q := (RX1, TX1, 3)) (show decode cX2_init 38 = .ok (.aastore, 1) by decide +kernel) rfl (by decide) (show vp_in (nI 1) (pm_rl 9) from ni_in (by decide) (by decide)) rfl rfl (by decide) rfl (Or.inr (Or.inl ⟨rfl, rfl⟩)) (Nat.le_of_ble_eq_true rfl) (Nat.le_of_ble_eq_true rfl) ?_
  show pm_B _ _ _ _ _ _ (stN _ 9 1) _ _ _ _ _
  refine B_iinc (n := 1) (v := 2) rfl (by decide) (show decode cX2_init 39 = .ok (.iinc 1 1, 3) by decide +kernel) ?_
  show pm_B _ _ _ [some (.ref 8), some (.int 2)] _ _ _ _ _ _ _ _
  refine B_goto (tgt := 20) (show decode cX2_init 42 = .ok (.goto (-22), 3) by decide +kernel) (by decide) ?_
  refine B_iload_n rfl rfl (show decode cX2_init 20 = .ok (.iload_n 1, 1) by decide +kernel) ?_
  refine B_bipush (v := 6) (by decide) (show decode cX2_init 21 = .ok (.bipush 6, 2) by decide +kernel) ?_
  refine B_ge_f (tgt := 45) (by decide) (show decode cX2_init 23 = .ok (.if_icmp .ge 22, 3) by decide +kernel) (by decide) ?_
  refine B_aload_n rfl rfl (show decode cX2_init 26 = .ok (.aload_n 0, 1) by decide +kernel) ?_
  refine B_get (ci := 2) (j := 0) (q := (RX2, TX2, 2)) (v := .ref 9) (show decode cX2_init 27 = .ok (.getfield 11, 3) by decide +kernel) rfl (by decide) rfl iX2 (by decide) wb_45 rfl rfl (Nat.le_of_ble_eq_true rfl) ?_
  refine B_iload_n rfl rfl (show decode cX2_init 30 = .ok (.iload_n 1, 1) by decide +kernel) ?_
  refine B_new (ci := 1) (q := (RX1, TX1, 3)) (ty := tyX1) (show decode cX2_init 31 = .ok (.new 9, 3) by decide +kernel) rfl (by decide) rfl iX1 tyX1_ok wb_44 wb_47 wb_3 (fun X j hj => fs_X1 X j hj) (Nat.le_of_ble_eq_true rfl) (Nat.le_of_ble_eq_true rfl) ?_
  show pm_B _ _ _ _ (.ref 12 :: _) 13 _ 4 15 _ _ _
  refine B_dup rfl (show decode cX2_init 34 = .ok (.dup, 1) by decide +kernel) ?_
  refine B_callIN (J := mX1_init) (b := 12) (mc' := 0) (ms' := 0) wb_48 jX1_init wb_49 rfl rfl [] rfl (Nat.le_of_ble_eq_true rfl) (show decode cX2_init 35 = .ok (.invokespecial 21, 3) by decide +kernel) (Nat.le_of_ble_eq_true rfl) (Nat.le_of_ble_eq_true rfl) (Nat.le_of_ble_eq_true rfl) (b_X1 (a := 12) rfl ?_)
  show pm_B _ _ _ _ _ 13 _ 4 15 _ _ _
  refine B_aast (t := 1) (ci := 1) (q := (RX1, TX1, 3)) (show decode cX2_init 38 = .ok (.aastore, 1) by decide +kernel) rfl (by decide) (show vp_in (nI 2) (pm_rl 9) from ni_in (by decide) (by decide)) rfl rfl (by decide) rfl (Or.inr (Or.inl ⟨rfl, rfl⟩)) (Nat.le_of_ble_eq_true rfl) (Nat.le_of_ble_eq_true rfl) ?_
  show pm_B _ _ _ _ _ _ (stN _ 9 2) _ _ _ _ _
  refine B_iinc (n := 1) (v := 3) rfl (by decide) (show decode cX2_init 39 = .ok (.iinc 1 1, 3) by decide +kernel) ?_
  show pm_B _ _ _ [some (.ref 8), some (.int 3)] _ _ _ _ _ _ _ _
  refine B_goto (tgt := 20) (show decode cX2_init 42 = .ok (.goto (-22), 3) by decide +kernel) (by decide) ?_
  refine B_iload_n rfl rfl (show decode cX2_init 20 = .ok (.iload_n 1, 1) by decide +kernel) ?_
  refine B_bipush (v := 6) (by decide) (show decode cX2_init 21 = .ok (.bipush 6, 2) by decide +kernel) ?_
  refine B_ge_f (tgt := 45) (by decide) (show decode cX2_init 23 = .ok (.if_icmp .ge 22, 3) by decide +kernel) (by decide) ?_
  refine B_aload_n rfl rfl (show decode cX2_init 26 = .ok (.aload_n 0, 1) by decide +kernel) ?_
  refine B_get (ci := 2) (j := 0) (q := (RX2, TX2, 2)) (v := .ref 9) (show decode cX2_init 27 = .ok (.getfield 11, 3) by decide +kernel) rfl (by decide) rfl iX2 (by decide) wb_45 rfl rfl (Nat.le_of_ble_eq_true rfl) ?_
  refine B_iload_n rfl rfl (show decode cX2_init 30 = .ok (.iload_n 1, 1) by decide +kernel) ?_
  refine B_new (ci := 1) (q := (RX1, TX1, 3)) (ty := tyX1) (show decode cX2_init 31 = .ok (.new 9, 3) by decide +kernel) rfl (by decide) rfl iX1 tyX1_ok wb_44 wb_47 wb_3 (fun X j hj => fs_X1 X j hj) (Nat.le_of_ble_eq_true rfl) (Nat.le_of_ble_eq_true rfl) ?_
  show pm_B _ _ _ _ (.ref 13 :: _) 14 _ 5 18 _ _ _
  refine B_dup rfl (show decode cX2_init 34 = .ok (.dup, 1) by decide +kernel) ?_
  refine B_callIN (J := mX1_init) (b := 13) (mc' := 0) (ms' := 0) wb_48 jX1_init wb_49 rfl rfl [] rfl (Nat.le_of_ble_eq_true rfl) (show decode cX2_init 35 = .ok (.invokespecial 21, 3) by decide +kernel) (Nat.le_of_ble_eq_true rfl) (Nat.le_of_ble_eq_true rfl) (Nat.le_of_ble_eq_true rfl) (b_X1 (a := 13) rfl ?_)
  show pm_B _ _ _ _ _ 14 _ 5 18 _ _ _
  refine B_aast (t := 1) (ci := 1) (q := (RX1, TX1, 3)) (show decode cX2_init 38 = .ok (.aastore, 1) by decide +kernel) rfl (by decide) (show vp_in (nI 3) (pm_rl 9) from ni_in (by decide) (by decide)) rfl rfl (by decide) rfl (Or.inr (Or.inl ⟨rfl, rfl⟩)) (Nat.le_of_ble_eq_true rfl) (Nat.le_of_ble_eq_true rfl) ?_
  show pm_B _ _ _ _ _ _ (stN _ 9 3) _ _ _ _ _
  refine B_iinc (n := 1) (v := 4) rfl (by decide) (show decode cX2_init 39 = .ok (.iinc 1 1, 3) by decide +kernel) ?_
  show pm_B _ _ _ [some (.ref 8), some (.int 4)] _ _ _ _ _ _ _ _
  refine B_goto (tgt := 20) (show decode cX2_init 42 = .ok (.goto (-22), 3) by decide +kernel) (by decide) ?_
  refine B_iload_n rfl rfl (show decode cX2_init 20 = .ok (.iload_n 1, 1) by decide +kernel) ?_
  refine B_bipush (v := 6) (by decide) (show decode cX2_init 21 = .ok (.bipush 6, 2) by decide +kernel) ?_
  refine B_ge_f (tgt := 45) (by decide) (show decode cX2_init 23 = .ok (.if_icmp .ge 22, 3) by decide +kernel) (by decide) ?_
  refine B_aload_n rfl rfl (show decode cX2_init 26 = .ok (.aload_n 0, 1) by decide +kernel) ?_
  refine B_get (ci := 2) (j := 0) (q := (RX2, TX2, 2)) (v := .ref 9) (show decode cX2_init 27 = .ok (.getfield 11, 3) by decide +kernel) rfl (by decide) rfl iX2 (by decide) wb_45 rfl rfl (Nat.le_of_ble_eq_true rfl) ?_
  refine B_iload_n rfl rfl (show decode cX2_init 30 = .ok (.iload_n 1, 1) by decide +kernel) ?_
  refine B_new (ci := 1) (q := (RX1, TX1, 3)) (ty := tyX1) (show decode cX2_init 31 = .ok (.new 9, 3) by decide +kernel) rfl (by decide) rfl iX1 tyX1_ok wb_44 wb_47 wb_3 (fun X j hj => fs_X1 X j hj) (Nat.le_of_ble_eq_true rfl) (Nat.le_of_ble_eq_true rfl) ?_
  show pm_B _ _ _ _ (.ref 14 :: _) 15 _ 6 21 _ _ _
  refine B_dup rfl (show decode cX2_init 34 = .ok (.dup, 1) by decide +kernel) ?_
  refine B_callIN (J := mX1_init) (b := 14) (mc' := 0) (ms' := 0) wb_48 jX1_init wb_49 rfl rfl [] rfl (Nat.le_of_ble_eq_true rfl) (show decode cX2_init 35 = .ok (.invokespecial 21, 3) by decide +kernel) (Nat.le_of_ble_eq_true rfl) (Nat.le_of_ble_eq_true rfl) (Nat.le_of_ble_eq_true rfl) (b_X1 (a := 14) rfl ?_)
  show pm_B _ _ _ _ _ 15 _ 6 21 _ _ _
  refine B_aast (t := 1) (ci := 1) (q := (RX1, TX1, 3)) (show decode cX2_init 38 = .ok (.aastore, 1) by decide +kernel) rfl (by decide) (show vp_in (nI 4) (pm_rl 9) from ni_in (by decide) (by decide)) rfl rfl (by decide) rfl (Or.inr (Or.inl ⟨rfl, rfl⟩)) (Nat.le_of_ble_eq_true rfl) (Nat.le_of_ble_eq_true rfl) ?_
  show pm_B _ _ _ _ _ _ (stN _ 9 4) _ _ _ _ _
  refine B_iinc (n := 1) (v := 5) rfl (by decide) (show decode cX2_init 39 = .ok (.iinc 1 1, 3) by decide +kernel) ?_
  show pm_B _ _ _ [some (.ref 8), some (.int 5)] _ _ _ _ _ _ _ _
  refine B_goto (tgt := 20) (show decode cX2_init 42 = .ok (.goto (-22), 3) by decide +kernel) (by decide) ?_
  refine B_iload_n rfl rfl (show decode cX2_init 20 = .ok (.iload_n 1, 1) by decide +kernel) ?_
  refine B_bipush (v := 6) (by decide) (show decode cX2_init 21 = .ok (.bipush 6, 2) by decide +kernel) ?_
  refine B_ge_f (tgt := 45) (by decide) (show decode cX2_init 23 = .ok (.if_icmp .ge 22, 3) by decide +kernel) (by decide) ?_
  refine B_aload_n rfl rfl (show decode cX2_init 26 = .ok (.aload_n 0, 1) by decide +kernel) ?_
  refine B_get (ci := 2) (j := 0) (q := (RX2, TX2, 2)) (v := .ref 9) (show decode cX2_init 27 = .ok (.getfield 11, 3) by decide +kernel) rfl (by decide) rfl iX2 (by decide) wb_45 rfl rfl (Nat.le_of_ble_eq_true rfl) ?_
  refine B_iload_n rfl rfl (show decode cX2_init 30 = .ok (.iload_n 1, 1) by decide +kernel) ?_
  refine B_new (ci := 1) (q := (RX1, TX1, 3)) (ty := tyX1) (show decode cX2_init 31 = .ok (.new 9, 3) by decide +kernel) rfl (by decide) rfl iX1 tyX1_ok wb_44 wb_47 wb_3 (fun X j hj => fs_X1 X j hj) (Nat.le_of_ble_eq_true rfl) (Nat.le_of_ble_eq_true rfl) ?_
  show pm_B _ _ _ _ (.ref 15 :: _) 16 _ 7 24 _ _ _
  refine B_dup rfl (show decode cX2_init 34 = .ok (.dup, 1) by decide +kernel) ?_
  refine B_callIN (J := mX1_init) (b := 15) (mc' := 0) (ms' := 0) wb_48 jX1_init wb_49 rfl rfl [] rfl (Nat.le_of_ble_eq_true rfl) (show decode cX2_init 35 = .ok (.invokespecial 21, 3) by decide +kernel) (Nat.le_of_ble_eq_true rfl) (Nat.le_of_ble_eq_true rfl) (Nat.le_of_ble_eq_true rfl) (b_X1 (a := 15) rfl ?_)
  show pm_B _ _ _ _ _ 16 _ 7 24 _ _ _
  refine B_aast (t := 1) (ci := 1) (q := (RX1, TX1, 3)) (show decode cX2_init 38 = .ok (.aastore, 1) by decide +kernel) rfl (by decide) (show vp_in (nI 5) (pm_rl 9) from ni_in (by decide) (by decide)) rfl rfl (by decide) rfl (Or.inr (Or.inl ⟨rfl, rfl⟩)) (Nat.le_of_ble_eq_true rfl) (Nat.le_of_ble_eq_true rfl) ?_
  show pm_B _ _ _ _ _ _ (stN _ 9 5) _ _ _ _ _
  refine B_iinc (n := 1) (v := 6) rfl (by decide) (show decode cX2_init 39 = .ok (.iinc 1 1, 3) by decide +kernel) ?_
  show pm_B _ _ _ [some (.ref 8), some (.int 6)] _ _ _ _ _ _ _ _
  refine B_goto (tgt := 20) (show decode cX2_init 42 = .ok (.goto (-22), 3) by decide +kernel) (by decide) ?_
  refine B_iload_n rfl rfl (show decode cX2_init 20 = .ok (.iload_n 1, 1) by decide +kernel) ?_
  refine B_bipush (v := 6) (by decide) (show decode cX2_init 21 = .ok (.bipush 6, 2) by decide +kernel) ?_
  refine B_ge_t (tgt := 45) (by decide) (show decode cX2_init 23 = .ok (.if_icmp .ge 22, 3) by decide +kernel) (by decide) ?_
  exact B_return (show decode cX2_init 45 = .ok (.return_, 1) by decide +kernel) rfl (Nat.le_of_ble_eq_true rfl) (Nat.le_of_ble_eq_true rfl) K
set_option maxRecDepth 20000 in
set_option maxHeartbeats 4000000 in
theorem b_X3 {d : Nat} {N : Nat → Nat → Bool} {Q : Nat → (Nat → Nat → Bool) → Prop} (K : Q 32 (stN (stN (stN (stN (stN (stN (stN (stN (stN (stN (stN (stN N 26 0) 26 1) 26 2) 26 3) 26 4) 26 5) 26 6) 26 7) 26 8) 26 9) 26 10) 26 11)) : pm_B (d + 1) mX3_init 0 [some (.ref 26)] [] 27 N 0 0 5 30 (Qr mX3_init Q) := by
  refine B_aload_n rfl rfl (show decode cX3_init 0 = .ok (.aload_n 0, 1) by decide +kernel) ?_
  refine B_objInit wb_50 wb_17 wb_18 (show decode cX3_init 1 = .ok (.invokespecial 3, 3) by decide +kernel) ?_
  refine B_aload_n rfl rfl (show decode cX3_init 4 = .ok (.aload_n 0, 1) by decide +kernel) ?_
  refine B_bipush (v := 6) (by decide) (show decode cX3_init 5 = .ok (.bipush 6, 2) by decide +kernel) ?_
  refine B_newi (show decode cX3_init 7 = .ok (.newarray .int, 2) by decide +kernel) rfl wb_24 (by decide) (by decide) (Nat.le_of_ble_eq_true rfl) (Nat.le_of_ble_eq_true rfl) ?_
  show pm_B _ _ _ _ (.ref 27 :: _) 28 _ 1 6 _ _ _
  refine B_putF (ci := 3) (j := 0) (q := (RX3, TX3, 12)) (ty := (.array .int)) (show decode cX3_init 9 = .ok (.putfield 9, 3) by decide +kernel) rfl (by decide) rfl iX3 tyX3_ok nmX3 (by decide) wb_51 rfl rfl rfl (by decide +kernel) rfl (fun _ => rfl) (fun _ => rfl) (Nat.le_of_ble_eq_true rfl) ?_
  refine B_aload_n rfl rfl (show decode cX3_init 12 = .ok (.aload_n 0, 1) by decide +kernel) ?_
  refine B_bipush (v := 6) (by decide) (show decode cX3_init 13 = .ok (.bipush 6, 2) by decide +kernel) ?_
  refine B_newi (show decode cX3_init 15 = .ok (.newarray .int, 2) by decide +kernel) rfl wb_24 (by decide) (by decide) (Nat.le_of_ble_eq_true rfl) (Nat.le_of_ble_eq_true rfl) ?_
  show pm_B _ _ _ _ (.ref 28 :: _) 29 _ 2 12 _ _ _
  refine B_putF (ci := 3) (j := 1) (q := (RX3, TX3, 12)) (ty := (.array .int)) (show decode cX3_init 17 = .ok (.putfield 15, 3) by decide +kernel) rfl (by decide) rfl iX3 tyX3_ok nmX3 (by decide) wb_52 rfl rfl rfl (by decide +kernel) rfl (fun _ => rfl) (fun _ => rfl) (Nat.le_of_ble_eq_true rfl) ?_
  refine B_aload_n rfl rfl (show decode cX3_init 20 = .ok (.aload_n 0, 1) by decide +kernel) ?_
  refine B_bipush (v := 6) (by decide) (show decode cX3_init 21 = .ok (.bipush 6, 2) by decide +kernel) ?_
  refine B_newi (show decode cX3_init 23 = .ok (.newarray .int, 2) by decide +kernel) rfl wb_24 (by decide) (by decide) (Nat.le_of_ble_eq_true rfl) (Nat.le_of_ble_eq_true rfl) ?_
  show pm_B _ _ _ _ (.ref 29 :: _) 30 _ 3 18 _ _ _
  refine B_putF (ci := 3) (j := 2) (q := (RX3, TX3, 12)) (ty := (.array .int)) (show decode cX3_init 25 = .ok (.putfield 18, 3) by decide +kernel) rfl (by decide) rfl iX3 tyX3_ok nmX3 (by decide) wb_53 rfl rfl rfl (by decide +kernel) rfl (fun _ => rfl) (fun _ => rfl) (Nat.le_of_ble_eq_true rfl) ?_
  refine B_aload_n rfl rfl (show decode cX3_init 28 = .ok (.aload_n 0, 1) by decide +kernel) ?_
  refine B_bipush (v := 6) (by decide) (show decode cX3_init 29 = .ok (.bipush 6, 2) by decide +kernel) ?_
  refine B_newi (show decode cX3_init 31 = .ok (.newarray .int, 2) by decide +kernel) rfl wb_24 (by decide) (by decide) (Nat.le_of_ble_eq_true rfl) (Nat.le_of_ble_eq_true rfl) ?_
  show pm_B _ _ _ _ (.ref 30 :: _) 31 _ 4 24 _ _ _
  refine B_putF (ci := 3) (j := 3) (q := (RX3, TX3, 12)) (ty := (.array .int)) (show decode cX3_init 33 = .ok (.putfield 21, 3) by decide +kernel) rfl (by decide) rfl iX3 tyX3_ok nmX3 (by decide) wb_54 rfl rfl rfl (by decide +kernel) rfl (fun _ => rfl) (fun _ => rfl) (Nat.le_of_ble_eq_true rfl) ?_
  refine B_aload_n rfl rfl (show decode cX3_init 36 = .ok (.aload_n 0, 1) by decide +kernel) ?_
  refine B_bipush (v := 6) (by decide) (show decode cX3_init 37 = .ok (.bipush 6, 2) by decide +kernel) ?_
  refine B_newi (show decode cX3_init 39 = .ok (.newarray .int, 2) by decide +kernel) rfl wb_24 (by decide) (by decide) (Nat.le_of_ble_eq_true rfl) (Nat.le_of_ble_eq_true rfl) ?_
  show pm_B _ _ _ _ (.ref 31 :: _) 32 _ 5 30 _ _ _
  refine B_putF (ci := 3) (j := 4) (q := (RX3, TX3, 12)) (ty := (.array .int)) (show decode cX3_init 41 = .ok (.putfield 24, 3) by decide +kernel) rfl (by decide) rfl iX3 tyX3_ok nmX3 (by decide) wb_55 rfl rfl rfl (by decide +kernel) rfl (fun _ => rfl) (fun _ => rfl) (Nat.le_of_ble_eq_true rfl) ?_
  refine B_aload_n rfl rfl (show decode cX3_init 44 = .ok (.aload_n 0, 1) by decide +kernel) ?_
  refine B_iconst (v := 0) (by decide) (show decode cX3_init 45 = .ok (.iconst 0, 1) by decide +kernel) ?_
  refine B_put (ci := 3) (j := 5) (q := (RX3, TX3, 12)) (ty := .int) (show decode cX3_init 46 = .ok (.putfield 27, 3) by decide +kernel) rfl (by decide) rfl iX3 tyX3_ok nmX3 (by decide) wb_56 rfl (by decide +kernel) rfl (fun _ => rfl) (fun _ => rfl) (Nat.le_of_ble_eq_true rfl) ?_
  refine B_aload_n rfl rfl (show decode cX3_init 49 = .ok (.aload_n 0, 1) by decide +kernel) ?_
  refine B_iconst (v := 0) (by decide) (show decode cX3_init 50 = .ok (.iconst 0, 1) by decide +kernel) ?_
  refine B_put (ci := 3) (j := 6) (q := (RX3, TX3, 12)) (ty := .int) (show decode cX3_init 51 = .ok (.putfield 31, 3) by decide +kernel) rfl (by decide) rfl iX3 tyX3_ok nmX3 (by decide) wb_57 rfl (by decide +kernel) rfl (fun _ => rfl) (fun _ => rfl) (Nat.le_of_ble_eq_true rfl) ?_
  refine B_aload_n rfl rfl (show decode cX3_init 54 = .ok (.aload_n 0, 1) by decide +kernel) ?_
  refine B_iconst (v := 0) (by decide) (show decode cX3_init 55 = .ok (.iconst 0, 1) by decide +kernel) ?_
  refine B_put (ci := 3) (j := 7) (q := (RX3, TX3, 12)) (ty := .int) (show decode cX3_init 56 = .ok (.putfield 34, 3) by decide +kernel) rfl (by decide) rfl iX3 tyX3_ok nmX3 (by decide) wb_58 rfl (by decide +kernel) rfl (fun _ => rfl) (fun _ => rfl) (Nat.le_of_ble_eq_true rfl) ?_
  refine B_aload_n rfl rfl (show decode cX3_init 59 = .ok (.aload_n 0, 1) by decide +kernel) ?_
  refine B_iconst (v := (-1)) (by decide) (show decode cX3_init 60 = .ok (.iconst (-1), 1) by decide +kernel) ?_
  refine B_put (ci := 3) (j := 8) (q := (RX3, TX3, 12)) (ty := .int) (show decode cX3_init 61 = .ok (.putfield 37, 3) by decide +kernel) rfl (by decide) rfl iX3 tyX3_ok nmX3 (by decide) wb_59 rfl (by decide +kernel) rfl (fun _ => rfl) (fun _ => rfl) (Nat.le_of_ble_eq_true rfl) ?_
  refine B_aload_n rfl rfl (show decode cX3_init 64 = .ok (.aload_n 0, 1) by decide +kernel) ?_
  refine B_bipush (v := 13) (by decide) (show decode cX3_init 65 = .ok (.bipush 13, 2) by decide +kernel) ?_
  refine B_put (ci := 3) (j := 9) (q := (RX3, TX3, 12)) (ty := .int) (show decode cX3_init 67 = .ok (.putfield 40, 3) by decide +kernel) rfl (by decide) rfl iX3 tyX3_ok nmX3 (by decide) wb_60 rfl (by decide +kernel) rfl (fun _ => rfl) (fun _ => rfl) (Nat.le_of_ble_eq_true rfl) ?_
  refine B_aload_n rfl rfl (show decode cX3_init 70 = .ok (.aload_n 0, 1) by decide +kernel) ?_
  refine B_iconst (v := 0) (by decide) (show decode cX3_init 71 = .ok (.iconst 0, 1) by decide +kernel) ?_
  refine B_put (ci := 3) (j := 10) (q := (RX3, TX3, 12)) (ty := .int) (show decode cX3_init 72 = .ok (.putfield 43, 3) by decide +kernel) rfl (by decide) rfl iX3 tyX3_ok nmX3 (by decide) wb_61 rfl (by decide +kernel) rfl (fun _ => rfl) (fun _ => rfl) (Nat.le_of_ble_eq_true rfl) ?_
  refine B_aload_n rfl rfl (show decode cX3_init 75 = .ok (.aload_n 0, 1) by decide +kernel) ?_
  refine B_iconst (v := 0) (by decide) (show decode cX3_init 76 = .ok (.iconst 0, 1) by decide +kernel) ?_
  refine B_put (ci := 3) (j := 11) (q := (RX3, TX3, 12)) (ty := .int) (show decode cX3_init 77 = .ok (.putfield 46, 3) by decide +kernel) rfl (by decide) rfl iX3 tyX3_ok nmX3 (by decide) wb_62 rfl (by decide +kernel) rfl (fun _ => rfl) (fun _ => rfl) (Nat.le_of_ble_eq_true rfl) ?_
  exact B_return (show decode cX3_init 80 = .ok (.return_, 1) by decide +kernel) rfl (Nat.le_of_ble_eq_true rfl) (Nat.le_of_ble_eq_true rfl) K
set_option maxRecDepth 20000 in
set_option maxHeartbeats 4000000 in
theorem b_X6 {d : Nat} {N : Nat → Nat → Bool} {Q : Nat → (Nat → Nat → Bool) → Prop} (K : Q 65 (stN (stN (stN (stN (stN (stN (stN (stN (stN (stN (stN (stN (stN (stN (stN (stN (stN (stN (stN (stN (stN (stN (stN (stN (stN (stN (stN (stN (stN (stN (stN (stN (stN (stN (stN (stN (stN (stN (stN (stN (stN (stN (stN (stN (stN (stN (stN (stN (stN (stN (stN (stN (stN (stN (stN (stN (stN (stN (stN (stN (stN (stN (stN (stN (stN (stN (stN (stN (stN (stN (stN (stN (stN (stN (stN (stN (stN (stN (stN (stN (stN (stN (stN (stN (stN (stN (stN (stN (stN (stN (stN (stN (stN (stN (stN (stN (stN (stN (stN (stN (stN (stN (stN (stN (stN (stN (stN (stN (stN (stN (stN (stN (stN (stN (stN (stN (stN (stN (stN (stN (stN (stN (stN (stN (stN (stN (stN (stN (stN (stN (stN (stN (stN (stN (stN (stN N 0 0) 0 1) 3 0) 3 1) 3 2) 3 3) 3 4) 3 5) 0 2) 8 0) 8 1) 10 0) 10 1) 10 2) 9 0) 11 0) 11 1) 11 2) 9 1) 12 0) 12 1) 12 2) 9 2) 13 0) 13 1) 13 2) 9 3) 14 0) 14 1) 14 2) 9 4) 15 0) 15 1) 15 2) 9 5) 0 3) 16 1) 16 2) 16 3) 16 4) 16 5) 16 6) 16 7) 16 8) 16 0) 0 4) 20 1) 20 2) 20 3) 20 4) 20 5) 20 6) 20 7) 20 8) 20 0) 0 5) 0 6) 0 7) 26 0) 26 1) 26 2) 26 3) 26 4) 26 5) 26 6) 26 7) 26 8) 26 9) 26 10) 26 11) 0 8) 0 9) 0 10) 0 11) 0 12) 0 13) 33 1) 33 0) 1 0) 35 1) 35 0) 1 1) 37 1) 37 0) 1 2) 39 1) 39 0) 1 3) 41 1) 41 0) 1 4) 43 1) 43 0) 1 5) 45 1) 45 0) 2 0) 47 1) 47 0) 2 1) 49 1) 49 0) 2 2) 51 1) 51 0) 2 3) 53 1) 53 2) 53 3) 53 4) 53 5) 53 6) 53 7) 53 8) 53 0) 24 0) 57 1) 57 2) 57 3) 57 4) 57 5) 57 6) 57 7) 57 8) 57 0) 24 1) 61 1) 61 2) 61 3) 61 4) 61 5) 61 6) 61 7) 61 8) 61 0) 24 2)) : pm_B (d + 3) mX6_init 0 [some (.ref 0), none] [] 1 N 0 0 64 1111 (Qr mX6_init Q) := by
  refine B_aload_n rfl rfl (show decode cX6_init 0 = .ok (.aload_n 0, 1) by decide +kernel) ?_
  refine B_objInit wb_63 wb_17 wb_18 (show decode cX6_init 1 = .ok (.invokespecial 1, 3) by decide +kernel) ?_
  refine B_aload_n rfl rfl (show decode cX6_init 4 = .ok (.aload_n 0, 1) by decide +kernel) ?_
  refine B_bipush (v := 6) (by decide) (show decode cX6_init 5 = .ok (.bipush 6, 2) by decide +kernel) ?_
  refine B_anew (t := 0) (C := RX5) (show decode cX6_init 7 = .ok (.anewarray 9, 3) by decide +kernel) rfl (by decide) wb_64 (Or.inl ⟨rfl, rfl⟩) (by decide) (by decide) (Nat.le_of_ble_eq_true rfl) (Nat.le_of_ble_eq_true rfl) ?_
  show pm_B _ _ _ _ (.ref 1 :: _) 2 _ 1 6 _ _ _
  refine B_putF (ci := 6) (j := 0) (q := (RX6, TX6, 14)) (ty := (.array (.object "HillSeer$Sheet"))) (show decode cX6_init 10 = .ok (.putfield 11, 3) by decide +kernel) rfl (by decide) rfl iX6 tyX6_ok nmX6 (by decide) wb_65 rfl rfl rfl (by decide +kernel) rfl (fun _ => rfl) (fun _ => rfl) (Nat.le_of_ble_eq_true rfl) ?_
  refine B_aload_n rfl rfl (show decode cX6_init 13 = .ok (.aload_n 0, 1) by decide +kernel) ?_
  refine B_iconst (v := 4) (by decide) (show decode cX6_init 14 = .ok (.iconst 4, 1) by decide +kernel) ?_
  refine B_anew (t := 0) (C := RX5) (show decode cX6_init 15 = .ok (.anewarray 9, 3) by decide +kernel) rfl (by decide) wb_64 (Or.inl ⟨rfl, rfl⟩) (by decide) (by decide) (Nat.le_of_ble_eq_true rfl) (Nat.le_of_ble_eq_true rfl) ?_
  show pm_B _ _ _ _ (.ref 2 :: _) 3 _ 2 10 _ _ _
  refine B_putF (ci := 6) (j := 1) (q := (RX6, TX6, 14)) (ty := (.array (.object "HillSeer$Sheet"))) (show decode cX6_init 18 = .ok (.putfield 15, 3) by decide +kernel) rfl (by decide) rfl iX6 tyX6_ok nmX6 (by decide) wb_66 rfl rfl rfl (by decide +kernel) rfl (fun _ => rfl) (fun _ => rfl) (Nat.le_of_ble_eq_true rfl) ?_
  refine B_aload_n rfl rfl (show decode cX6_init 21 = .ok (.aload_n 0, 1) by decide +kernel) ?_
  refine B_new (ci := 4) (q := (RX4, TX4, 6)) (ty := tyX4) (show decode cX6_init 22 = .ok (.new 18, 3) by decide +kernel) rfl (by decide) rfl iX4 tyX4_ok wb_67 wb_68 wb_9 (fun X j hj => fs_X4 X j hj) (Nat.le_of_ble_eq_true rfl) (Nat.le_of_ble_eq_true rfl) ?_
  show pm_B _ _ _ _ (.ref 3 :: _) 4 _ 3 16 _ _ _
  refine B_dup rfl (show decode cX6_init 25 = .ok (.dup, 1) by decide +kernel) ?_
  refine B_callIN (J := mX4_init) (b := 3) (mc' := 4) (ms' := 30) wb_69 jX4_init wb_70 rfl rfl [] rfl (Nat.le_of_ble_eq_true rfl) (show decode cX6_init 26 = .ok (.invokespecial 20, 3) by decide +kernel) (Nat.le_of_ble_eq_true rfl) (Nat.le_of_ble_eq_true rfl) (Nat.le_of_ble_eq_true rfl) (b_X4 ?_)
  show pm_B _ _ _ _ _ 8 _ 7 46 _ _ _
  refine B_putF (ci := 6) (j := 2) (q := (RX6, TX6, 14)) (ty := (.object "HillSeer$Reader")) (show decode cX6_init 29 = .ok (.putfield 21, 3) by decide +kernel) rfl (by decide) rfl iX6 tyX6_ok nmX6 (by decide) wb_71 rfl rfl rfl (by decide +kernel) rfl (fun _ => rfl) (fun _ => rfl) (Nat.le_of_ble_eq_true rfl) ?_
  refine B_aload_n rfl rfl (show decode cX6_init 32 = .ok (.aload_n 0, 1) by decide +kernel) ?_
  refine B_new (ci := 2) (q := (RX2, TX2, 2)) (ty := tyX2) (show decode cX6_init 33 = .ok (.new 25, 3) by decide +kernel) rfl (by decide) rfl iX2 tyX2_ok wb_72 wb_73 wb_5 (fun X j hj => fs_X2 X j hj) (Nat.le_of_ble_eq_true rfl) (Nat.le_of_ble_eq_true rfl) ?_
  show pm_B _ _ _ _ (.ref 8 :: _) 9 _ 8 48 _ _ _
  refine B_dup rfl (show decode cX6_init 36 = .ok (.dup, 1) by decide +kernel) ?_
  refine B_callI (J := mX2_init) (b := 8) (mc' := 7) (ms' := 24) wb_74 jX2_init wb_75 rfl rfl [] rfl (Nat.le_of_ble_eq_true rfl) (show decode cX6_init 37 = .ok (.invokespecial 27, 3) by decide +kernel) (Nat.le_of_ble_eq_true rfl) (Nat.le_of_ble_eq_true rfl) (Nat.le_of_ble_eq_true rfl) (b_X2 ?_)
  show pm_B _ _ _ _ _ 16 _ 15 72 _ _ _
  refine B_putF (ci := 6) (j := 3) (q := (RX6, TX6, 14)) (ty := (.object "HillSeer$Land")) (show decode cX6_init 40 = .ok (.putfield 28, 3) by decide +kernel) rfl (by decide) rfl iX6 tyX6_ok nmX6 (by decide) wb_76 rfl rfl rfl (by decide +kernel) rfl (fun _ => rfl) (fun _ => rfl) (Nat.le_of_ble_eq_true rfl) ?_
  refine B_aload_n rfl rfl (show decode cX6_init 43 = .ok (.aload_n 0, 1) by decide +kernel) ?_
  refine B_new (ci := 0) (q := (RX0, TX0, 9)) (ty := tyX0) (show decode cX6_init 44 = .ok (.new 32, 3) by decide +kernel) rfl (by decide) rfl iX0 tyX0_ok wb_77 wb_78 wb_1 (fun X j hj => fs_X0 X j hj) (Nat.le_of_ble_eq_true rfl) (Nat.le_of_ble_eq_true rfl) ?_
  show pm_B _ _ _ _ (.ref 16 :: _) 17 _ 16 81 _ _ _
  refine B_dup rfl (show decode cX6_init 47 = .ok (.dup, 1) by decide +kernel) ?_
  refine B_aload_n rfl rfl (show decode cX6_init 48 = .ok (.aload_n 0, 1) by decide +kernel) ?_
  refine B_get (ci := 6) (j := 3) (q := (RX6, TX6, 14)) (v := .ref 8) (show decode cX6_init 49 = .ok (.getfield 28, 3) by decide +kernel) rfl (by decide) rfl iX6 (by decide) wb_76 rfl rfl (Nat.le_of_ble_eq_true rfl) ?_
  refine B_callI (J := mX0_init) (b := 16) (mc' := 3) (ms' := 64) wb_79 jX0_init wb_80 rfl rfl [.ref 8] rfl (Nat.le_of_ble_eq_true rfl) (show decode cX6_init 52 = .ok (.invokespecial 34, 3) by decide +kernel) (Nat.le_of_ble_eq_true rfl) (Nat.le_of_ble_eq_true rfl) (Nat.le_of_ble_eq_true rfl) (b_X0 (a := 16) rfl (by decide) (by decide) (by decide) ?_)
  show pm_B _ _ _ _ _ 20 _ 19 145 _ _ _
  refine B_putF (ci := 6) (j := 4) (q := (RX6, TX6, 14)) (ty := (.object "HillSeer$Camp")) (show decode cX6_init 55 = .ok (.putfield 37, 3) by decide +kernel) rfl (by decide) rfl iX6 tyX6_ok nmX6 (by decide) wb_81 rfl rfl rfl (by decide +kernel) rfl (fun _ => rfl) (fun _ => rfl) (Nat.le_of_ble_eq_true rfl) ?_
  refine B_aload_n rfl rfl (show decode cX6_init 58 = .ok (.aload_n 0, 1) by decide +kernel) ?_
  refine B_new (ci := 0) (q := (RX0, TX0, 9)) (ty := tyX0) (show decode cX6_init 59 = .ok (.new 32, 3) by decide +kernel) rfl (by decide) rfl iX0 tyX0_ok wb_77 wb_78 wb_1 (fun X j hj => fs_X0 X j hj) (Nat.le_of_ble_eq_true rfl) (Nat.le_of_ble_eq_true rfl) ?_
  show pm_B _ _ _ _ (.ref 20 :: _) 21 _ 20 154 _ _ _
  refine B_dup rfl (show decode cX6_init 62 = .ok (.dup, 1) by decide +kernel) ?_
  refine B_aload_n rfl rfl (show decode cX6_init 63 = .ok (.aload_n 0, 1) by decide +kernel) ?_
  refine B_get (ci := 6) (j := 3) (q := (RX6, TX6, 14)) (v := .ref 8) (show decode cX6_init 64 = .ok (.getfield 28, 3) by decide +kernel) rfl (by decide) rfl iX6 (by decide) wb_76 rfl rfl (Nat.le_of_ble_eq_true rfl) ?_
  refine B_callI (J := mX0_init) (b := 20) (mc' := 3) (ms' := 64) wb_79 jX0_init wb_80 rfl rfl [.ref 8] rfl (Nat.le_of_ble_eq_true rfl) (show decode cX6_init 67 = .ok (.invokespecial 34, 3) by decide +kernel) (Nat.le_of_ble_eq_true rfl) (Nat.le_of_ble_eq_true rfl) (Nat.le_of_ble_eq_true rfl) (b_X0 (a := 20) rfl (by decide) (by decide) (by decide) ?_)
  show pm_B _ _ _ _ _ 24 _ 23 218 _ _ _
  refine B_putF (ci := 6) (j := 5) (q := (RX6, TX6, 14)) (ty := (.object "HillSeer$Camp")) (show decode cX6_init 70 = .ok (.putfield 41, 3) by decide +kernel) rfl (by decide) rfl iX6 tyX6_ok nmX6 (by decide) wb_82 rfl rfl rfl (by decide +kernel) rfl (fun _ => rfl) (fun _ => rfl) (Nat.le_of_ble_eq_true rfl) ?_
  refine B_aload_n rfl rfl (show decode cX6_init 73 = .ok (.aload_n 0, 1) by decide +kernel) ?_
  refine B_iconst (v := 3) (by decide) (show decode cX6_init 74 = .ok (.iconst 3, 1) by decide +kernel) ?_
  refine B_anew (t := 2) (C := RX0) (show decode cX6_init 75 = .ok (.anewarray 32, 3) by decide +kernel) rfl (by decide) wb_77 (Or.inr (Or.inr ⟨rfl, rfl⟩)) (by decide) (by decide) (Nat.le_of_ble_eq_true rfl) (Nat.le_of_ble_eq_true rfl) ?_
  show pm_B _ _ _ _ (.ref 24 :: _) 25 _ 24 221 _ _ _
  refine B_putF (ci := 6) (j := 6) (q := (RX6, TX6, 14)) (ty := (.array (.object "HillSeer$Camp"))) (show decode cX6_init 78 = .ok (.putfield 44, 3) by decide +kernel) rfl (by decide) rfl iX6 tyX6_ok nmX6 (by decide) wb_83 rfl rfl rfl (by decide +kernel) rfl (fun _ => rfl) (fun _ => rfl) (Nat.le_of_ble_eq_true rfl) ?_
  refine B_aload_n rfl rfl (show decode cX6_init 81 = .ok (.aload_n 0, 1) by decide +kernel) ?_
  refine B_iconst (v := 3) (by decide) (show decode cX6_init 82 = .ok (.iconst 3, 1) by decide +kernel) ?_
  refine B_newz (show decode cX6_init 83 = .ok (.newarray .boolean, 2) by decide +kernel) rfl wb_84 (by decide) (by decide) (Nat.le_of_ble_eq_true rfl) (Nat.le_of_ble_eq_true rfl) ?_
  show pm_B _ _ _ _ (.ref 25 :: _) 26 _ 25 224 _ _ _
  refine B_putF (ci := 6) (j := 7) (q := (RX6, TX6, 14)) (ty := (.array .boolean)) (show decode cX6_init 85 = .ok (.putfield 48, 3) by decide +kernel) rfl (by decide) rfl iX6 tyX6_ok nmX6 (by decide) wb_85 rfl rfl rfl (by decide +kernel) rfl (fun _ => rfl) (fun _ => rfl) (Nat.le_of_ble_eq_true rfl) ?_
  refine B_aload_n rfl rfl (show decode cX6_init 88 = .ok (.aload_n 0, 1) by decide +kernel) ?_
  refine B_new (ci := 3) (q := (RX3, TX3, 12)) (ty := tyX3) (show decode cX6_init 89 = .ok (.new 52, 3) by decide +kernel) rfl (by decide) rfl iX3 tyX3_ok wb_86 wb_87 wb_7 (fun X j hj => fs_X3 X j hj) (Nat.le_of_ble_eq_true rfl) (Nat.le_of_ble_eq_true rfl) ?_
  show pm_B _ _ _ _ (.ref 26 :: _) 27 _ 26 236 _ _ _
  refine B_dup rfl (show decode cX6_init 92 = .ok (.dup, 1) by decide +kernel) ?_
  refine B_callIN (J := mX3_init) (b := 26) (mc' := 5) (ms' := 30) wb_88 jX3_init wb_89 rfl rfl [] rfl (Nat.le_of_ble_eq_true rfl) (show decode cX6_init 93 = .ok (.invokespecial 54, 3) by decide +kernel) (Nat.le_of_ble_eq_true rfl) (Nat.le_of_ble_eq_true rfl) (Nat.le_of_ble_eq_true rfl) (b_X3 ?_)
  show pm_B _ _ _ _ _ 32 _ 31 266 _ _ _
  refine B_putF (ci := 6) (j := 8) (q := (RX6, TX6, 14)) (ty := (.object "HillSeer$OrderSearch")) (show decode cX6_init 96 = .ok (.putfield 55, 3) by decide +kernel) rfl (by decide) rfl iX6 tyX6_ok nmX6 (by decide) wb_90 rfl rfl rfl (by decide +kernel) rfl (fun _ => rfl) (fun _ => rfl) (Nat.le_of_ble_eq_true rfl) ?_
  refine B_aload_n rfl rfl (show decode cX6_init 99 = .ok (.aload_n 0, 1) by decide +kernel) ?_
  refine B_bipush (v := 6) (by decide) (show decode cX6_init 100 = .ok (.bipush 6, 2) by decide +kernel) ?_
  refine B_newi (show decode cX6_init 102 = .ok (.newarray .int, 2) by decide +kernel) rfl wb_24 (by decide) (by decide) (Nat.le_of_ble_eq_true rfl) (Nat.le_of_ble_eq_true rfl) ?_
  show pm_B _ _ _ _ (.ref 32 :: _) 33 _ 32 272 _ _ _
  refine B_putF (ci := 6) (j := 9) (q := (RX6, TX6, 14)) (ty := (.array .int)) (show decode cX6_init 104 = .ok (.putfield 59, 3) by decide +kernel) rfl (by decide) rfl iX6 tyX6_ok nmX6 (by decide) wb_91 rfl rfl rfl (by decide +kernel) rfl (fun _ => rfl) (fun _ => rfl) (Nat.le_of_ble_eq_true rfl) ?_
  refine B_aload_n rfl rfl (show decode cX6_init 107 = .ok (.aload_n 0, 1) by decide +kernel) ?_
  refine B_iconst (v := 0) (by decide) (show decode cX6_init 108 = .ok (.iconst 0, 1) by decide +kernel) ?_
  refine B_put (ci := 6) (j := 10) (q := (RX6, TX6, 14)) (ty := .int) (show decode cX6_init 109 = .ok (.putfield 63, 3) by decide +kernel) rfl (by decide) rfl iX6 tyX6_ok nmX6 (by decide) wb_92 rfl (by decide +kernel) rfl (fun _ => rfl) (fun _ => rfl) (Nat.le_of_ble_eq_true rfl) ?_
  refine B_aload_n rfl rfl (show decode cX6_init 112 = .ok (.aload_n 0, 1) by decide +kernel) ?_
  refine B_iconst (v := 0) (by decide) (show decode cX6_init 113 = .ok (.iconst 0, 1) by decide +kernel) ?_
  refine B_put (ci := 6) (j := 11) (q := (RX6, TX6, 14)) (ty := .int) (show decode cX6_init 114 = .ok (.putfield 67, 3) by decide +kernel) rfl (by decide) rfl iX6 tyX6_ok nmX6 (by decide) wb_93 rfl (by decide +kernel) rfl (fun _ => rfl) (fun _ => rfl) (Nat.le_of_ble_eq_true rfl) ?_
  refine B_aload_n rfl rfl (show decode cX6_init 117 = .ok (.aload_n 0, 1) by decide +kernel) ?_
  refine B_lconst (v := 0) (by decide) (show decode cX6_init 118 = .ok (.lconst 0, 1) by decide +kernel) ?_
  refine B_put (ci := 6) (j := 12) (q := (RX6, TX6, 14)) (ty := .long) (show decode cX6_init 119 = .ok (.putfield 70, 3) by decide +kernel) rfl (by decide) rfl iX6 tyX6_ok nmX6 (by decide) wb_94 rfl (by decide +kernel) rfl (fun _ => rfl) (fun _ => rfl) (Nat.le_of_ble_eq_true rfl) ?_
  refine B_aload_n rfl rfl (show decode cX6_init 122 = .ok (.aload_n 0, 1) by decide +kernel) ?_
  refine B_lconst (v := 1) (by decide) (show decode cX6_init 123 = .ok (.lconst 1, 1) by decide +kernel) ?_
  refine B_put (ci := 6) (j := 13) (q := (RX6, TX6, 14)) (ty := .long) (show decode cX6_init 124 = .ok (.putfield 74, 3) by decide +kernel) rfl (by decide) rfl iX6 tyX6_ok nmX6 (by decide) wb_95 rfl (by decide +kernel) rfl (fun _ => rfl) (fun _ => rfl) (Nat.le_of_ble_eq_true rfl) ?_
  refine B_iconst (v := 0) (by decide) (show decode cX6_init 127 = .ok (.iconst 0, 1) by decide +kernel) ?_
  refine B_istore_n rfl (Nat.le_of_ble_eq_true rfl) (show decode cX6_init 128 = .ok (.istore_n 1, 1) by decide +kernel) ?_
  show pm_B _ _ _ [some (.ref 0), some (.int 0)] _ _ _ _ _ _ _ _
  refine B_iload_n rfl rfl (show decode cX6_init 129 = .ok (.iload_n 1, 1) by decide +kernel) ?_
  refine B_bipush (v := 6) (by decide) (show decode cX6_init 130 = .ok (.bipush 6, 2) by decide +kernel) ?_
  refine B_ge_f (tgt := 156) (by decide) (show decode cX6_init 132 = .ok (.if_icmp .ge 24, 3) by decide +kernel) (by decide) ?_
  refine B_aload_n rfl rfl (show decode cX6_init 135 = .ok (.aload_n 0, 1) by decide +kernel) ?_
  refine B_get (ci := 6) (j := 0) (q := (RX6, TX6, 14)) (v := .ref 1) (show decode cX6_init 136 = .ok (.getfield 11, 3) by decide +kernel) rfl (by decide) rfl iX6 (by decide) wb_65 rfl rfl (Nat.le_of_ble_eq_true rfl) ?_
  refine B_iload_n rfl rfl (show decode cX6_init 139 = .ok (.iload_n 1, 1) by decide +kernel) ?_
  refine B_new (ci := 5) (q := (RX5, TX5, 2)) (ty := tyX5) (show decode cX6_init 140 = .ok (.new 9, 3) by decide +kernel) rfl (by decide) rfl iX5 tyX5_ok wb_64 wb_96 wb_11 (fun X j hj => fs_X5 X j hj) (Nat.le_of_ble_eq_true rfl) (Nat.le_of_ble_eq_true rfl) ?_
  show pm_B _ _ _ _ (.ref 33 :: _) 34 _ 33 274 _ _ _
  refine B_dup rfl (show decode cX6_init 143 = .ok (.dup, 1) by decide +kernel) ?_
  refine B_bipush (v := 40) (by decide) (show decode cX6_init 144 = .ok (.bipush 40, 2) by decide +kernel) ?_
  refine B_callI (J := mX5_init) (b := 33) (mc' := 1) (ms' := 60) wb_97 jX5_init wb_98 rfl rfl [.int 40] rfl (Nat.le_of_ble_eq_true rfl) (show decode cX6_init 146 = .ok (.invokespecial 77, 3) by decide +kernel) (Nat.le_of_ble_eq_true rfl) (Nat.le_of_ble_eq_true rfl) (Nat.le_of_ble_eq_true rfl) (b_X5 (a := 33) rfl rfl (n := 40) (by decide) (by decide) ?_)
  show pm_B _ _ _ _ _ 35 _ 34 334 _ _ _
  refine B_aast (t := 0) (ci := 5) (q := (RX5, TX5, 2)) (show decode cX6_init 149 = .ok (.aastore, 1) by decide +kernel) rfl (by decide) (show vp_in (nI 0) (pm_rl 1) from ni_in (by decide) (by decide)) rfl rfl (by decide) rfl (Or.inl ⟨rfl, rfl⟩) (Nat.le_of_ble_eq_true rfl) (Nat.le_of_ble_eq_true rfl) ?_
  show pm_B _ _ _ _ _ _ (stN _ 1 0) _ _ _ _ _
  refine B_iinc (n := 1) (v := 1) rfl (by decide) (show decode cX6_init 150 = .ok (.iinc 1 1, 3) by decide +kernel) ?_
  show pm_B _ _ _ [some (.ref 0), some (.int 1)] _ _ _ _ _ _ _ _
  refine B_goto (tgt := 129) (show decode cX6_init 153 = .ok (.goto (-24), 3) by decide +kernel) (by decide) ?_
  refine B_iload_n rfl rfl (show decode cX6_init 129 = .ok (.iload_n 1, 1) by decide +kernel) ?_
  refine B_bipush (v := 6) (by decide) (show decode cX6_init 130 = .ok (.bipush 6, 2) by decide +kernel) ?_
  refine B_ge_f (tgt := 156) (by decide) (show decode cX6_init 132 = .ok (.if_icmp .ge 24, 3) by decide +kernel) (by decide) ?_
  refine B_aload_n rfl rfl (show decode cX6_init 135 = .ok (.aload_n 0, 1) by decide +kernel) ?_
  refine B_get (ci := 6) (j := 0) (q := (RX6, TX6, 14)) (v := .ref 1) (show decode cX6_init 136 = .ok (.getfield 11, 3) by decide +kernel) rfl (by decide) rfl iX6 (by decide) wb_65 rfl rfl (Nat.le_of_ble_eq_true rfl) ?_
  refine B_iload_n rfl rfl (show decode cX6_init 139 = .ok (.iload_n 1, 1) by decide +kernel) ?_
  refine B_new (ci := 5) (q := (RX5, TX5, 2)) (ty := tyX5) (show decode cX6_init 140 = .ok (.new 9, 3) by decide +kernel) rfl (by decide) rfl iX5 tyX5_ok wb_64 wb_96 wb_11 (fun X j hj => fs_X5 X j hj) (Nat.le_of_ble_eq_true rfl) (Nat.le_of_ble_eq_true rfl) ?_
  show pm_B _ _ _ _ (.ref 35 :: _) 36 _ 35 336 _ _ _
  refine B_dup rfl (show decode cX6_init 143 = .ok (.dup, 1) by decide +kernel) ?_
  refine B_bipush (v := 40) (by decide) (show decode cX6_init 144 = .ok (.bipush 40, 2) by decide +kernel) ?_
  refine B_callI (J := mX5_init) (b := 35) (mc' := 1) (ms' := 60) wb_97 jX5_init wb_98 rfl rfl [.int 40] rfl (Nat.le_of_ble_eq_true rfl) (show decode cX6_init 146 = .ok (.invokespecial 77, 3) by decide +kernel) (Nat.le_of_ble_eq_true rfl) (Nat.le_of_ble_eq_true rfl) (Nat.le_of_ble_eq_true rfl) (b_X5 (a := 35) rfl rfl (n := 40) (by decide) (by decide) ?_)
  show pm_B _ _ _ _ _ 37 _ 36 396 _ _ _
  refine B_aast (t := 0) (ci := 5) (q := (RX5, TX5, 2)) (show decode cX6_init 149 = .ok (.aastore, 1) by decide +kernel) rfl (by decide) (show vp_in (nI 1) (pm_rl 1) from ni_in (by decide) (by decide)) rfl rfl (by decide) rfl (Or.inl ⟨rfl, rfl⟩) (Nat.le_of_ble_eq_true rfl) (Nat.le_of_ble_eq_true rfl) ?_
  show pm_B _ _ _ _ _ _ (stN _ 1 1) _ _ _ _ _
  refine B_iinc (n := 1) (v := 2) rfl (by decide) (show decode cX6_init 150 = .ok (.iinc 1 1, 3) by decide +kernel) ?_
  show pm_B _ _ _ [some (.ref 0), some (.int 2)] _ _ _ _ _ _ _ _
  refine B_goto (tgt := 129) (show decode cX6_init 153 = .ok (.goto (-24), 3) by decide +kernel) (by decide) ?_
  refine B_iload_n rfl rfl (show decode cX6_init 129 = .ok (.iload_n 1, 1) by decide +kernel) ?_
  refine B_bipush (v := 6) (by decide) (show decode cX6_init 130 = .ok (.bipush 6, 2) by decide +kernel) ?_
  refine B_ge_f (tgt := 156) (by decide) (show decode cX6_init 132 = .ok (.if_icmp .ge 24, 3) by decide +kernel) (by decide) ?_
  refine B_aload_n rfl rfl (show decode cX6_init 135 = .ok (.aload_n 0, 1) by decide +kernel) ?_
  refine B_get (ci := 6) (j := 0) (q := (RX6, TX6, 14)) (v := .ref 1) (show decode cX6_init 136 = .ok (.getfield 11, 3) by decide +kernel) rfl (by decide) rfl iX6 (by decide) wb_65 rfl rfl (Nat.le_of_ble_eq_true rfl) ?_
  refine B_iload_n rfl rfl (show decode cX6_init 139 = .ok (.iload_n 1, 1) by decide +kernel) ?_
  refine B_new (ci := 5) (q := (RX5, TX5, 2)) (ty := tyX5) (show decode cX6_init 140 = .ok (.new 9, 3) by decide +kernel) rfl (by decide) rfl iX5 tyX5_ok wb_64 wb_96 wb_11 (fun X j hj => fs_X5 X j hj) (Nat.le_of_ble_eq_true rfl) (Nat.le_of_ble_eq_true rfl) ?_
  show pm_B _ _ _ _ (.ref 37 :: _) 38 _ 37 398 _ _ _
  refine B_dup rfl (show decode cX6_init 143 = .ok (.dup, 1) by decide +kernel) ?_
  refine B_bipush (v := 40) (by decide) (show decode cX6_init 144 = .ok (.bipush 40, 2) by decide +kernel) ?_
  refine B_callI (J := mX5_init) (b := 37) (mc' := 1) (ms' := 60) wb_97 jX5_init wb_98 rfl rfl [.int 40] rfl (Nat.le_of_ble_eq_true rfl) (show decode cX6_init 146 = .ok (.invokespecial 77, 3) by decide +kernel) (Nat.le_of_ble_eq_true rfl) (Nat.le_of_ble_eq_true rfl) (Nat.le_of_ble_eq_true rfl) (b_X5 (a := 37) rfl rfl (n := 40) (by decide) (by decide) ?_)
  show pm_B _ _ _ _ _ 39 _ 38 458 _ _ _
  refine B_aast (t := 0) (ci := 5) (q := (RX5, TX5, 2)) (show decode cX6_init 149 = .ok (.aastore, 1) by decide +kernel) rfl (by decide) (show vp_in (nI 2) (pm_rl 1) from ni_in (by decide) (by decide)) rfl rfl (by decide) rfl (Or.inl ⟨rfl, rfl⟩) (Nat.le_of_ble_eq_true rfl) (Nat.le_of_ble_eq_true rfl) ?_
  show pm_B _ _ _ _ _ _ (stN _ 1 2) _ _ _ _ _
  refine B_iinc (n := 1) (v := 3) rfl (by decide) (show decode cX6_init 150 = .ok (.iinc 1 1, 3) by decide +kernel) ?_
  show pm_B _ _ _ [some (.ref 0), some (.int 3)] _ _ _ _ _ _ _ _
  refine B_goto (tgt := 129) (show decode cX6_init 153 = .ok (.goto (-24), 3) by decide +kernel) (by decide) ?_
  refine B_iload_n rfl rfl (show decode cX6_init 129 = .ok (.iload_n 1, 1) by decide +kernel) ?_
  refine B_bipush (v := 6) (by decide) (show decode cX6_init 130 = .ok (.bipush 6, 2) by decide +kernel) ?_
  refine B_ge_f (tgt := 156) (by decide) (show decode cX6_init 132 = .ok (.if_icmp .ge 24, 3) by decide +kernel) (by decide) ?_
  refine B_aload_n rfl rfl (show decode cX6_init 135 = .ok (.aload_n 0, 1) by decide +kernel) ?_
  refine B_get (ci := 6) (j := 0) (q := (RX6, TX6, 14)) (v := .ref 1) (show decode cX6_init 136 = .ok (.getfield 11, 3) by decide +kernel) rfl (by decide) rfl iX6 (by decide) wb_65 rfl rfl (Nat.le_of_ble_eq_true rfl) ?_
  refine B_iload_n rfl rfl (show decode cX6_init 139 = .ok (.iload_n 1, 1) by decide +kernel) ?_
  refine B_new (ci := 5) (q := (RX5, TX5, 2)) (ty := tyX5) (show decode cX6_init 140 = .ok (.new 9, 3) by decide +kernel) rfl (by decide) rfl iX5 tyX5_ok wb_64 wb_96 wb_11 (fun X j hj => fs_X5 X j hj) (Nat.le_of_ble_eq_true rfl) (Nat.le_of_ble_eq_true rfl) ?_
  show pm_B _ _ _ _ (.ref 39 :: _) 40 _ 39 460 _ _ _
  refine B_dup rfl (show decode cX6_init 143 = .ok (.dup, 1) by decide +kernel) ?_
  refine B_bipush (v := 40) (by decide) (show decode cX6_init 144 = .ok (.bipush 40, 2) by decide +kernel) ?_
  refine B_callI (J := mX5_init) (b := 39) (mc' := 1) (ms' := 60) wb_97 jX5_init wb_98 rfl rfl [.int 40] rfl (Nat.le_of_ble_eq_true rfl) (show decode cX6_init 146 = .ok (.invokespecial 77, 3) by decide +kernel) (Nat.le_of_ble_eq_true rfl) (Nat.le_of_ble_eq_true rfl) (Nat.le_of_ble_eq_true rfl) (b_X5 (a := 39) rfl rfl (n := 40) (by decide) (by decide) ?_)
  show pm_B _ _ _ _ _ 41 _ 40 520 _ _ _
  refine B_aast (t := 0) (ci := 5) (q := (RX5, TX5, 2)) (show decode cX6_init 149 = .ok (.aastore, 1) by decide +kernel) rfl (by decide) (show vp_in (nI 3) (pm_rl 1) from ni_in (by decide) (by decide)) rfl rfl (by decide) rfl (Or.inl ⟨rfl, rfl⟩) (Nat.le_of_ble_eq_true rfl) (Nat.le_of_ble_eq_true rfl) ?_
  show pm_B _ _ _ _ _ _ (stN _ 1 3) _ _ _ _ _
  refine B_iinc (n := 1) (v := 4) rfl (by decide) (show decode cX6_init 150 = .ok (.iinc 1 1, 3) by decide +kernel) ?_
  show pm_B _ _ _ [some (.ref 0), some (.int 4)] _ _ _ _ _ _ _ _
  refine B_goto (tgt := 129) (show decode cX6_init 153 = .ok (.goto (-24), 3) by decide +kernel) (by decide) ?_
  refine B_iload_n rfl rfl (show decode cX6_init 129 = .ok (.iload_n 1, 1) by decide +kernel) ?_
  refine B_bipush (v := 6) (by decide) (show decode cX6_init 130 = .ok (.bipush 6, 2) by decide +kernel) ?_
  refine B_ge_f (tgt := 156) (by decide) (show decode cX6_init 132 = .ok (.if_icmp .ge 24, 3) by decide +kernel) (by decide) ?_
  refine B_aload_n rfl rfl (show decode cX6_init 135 = .ok (.aload_n 0, 1) by decide +kernel) ?_
  refine B_get (ci := 6) (j := 0) (q := (RX6, TX6, 14)) (v := .ref 1) (show decode cX6_init 136 = .ok (.getfield 11, 3) by decide +kernel) rfl (by decide) rfl iX6 (by decide) wb_65 rfl rfl (Nat.le_of_ble_eq_true rfl) ?_
  refine B_iload_n rfl rfl (show decode cX6_init 139 = .ok (.iload_n 1, 1) by decide +kernel) ?_
  refine B_new (ci := 5) (q := (RX5, TX5, 2)) (ty := tyX5) (show decode cX6_init 140 = .ok (.new 9, 3) by decide +kernel) rfl (by decide) rfl iX5 tyX5_ok wb_64 wb_96 wb_11 (fun X j hj => fs_X5 X j hj) (Nat.le_of_ble_eq_true rfl) (Nat.le_of_ble_eq_true rfl) ?_
  show pm_B _ _ _ _ (.ref 41 :: _) 42 _ 41 522 _ _ _
  refine B_dup rfl (show decode cX6_init 143 = .ok (.dup, 1) by decide +kernel) ?_
  refine B_bipush (v := 40) (by decide) (show decode cX6_init 144 = .ok (.bipush 40, 2) by decide +kernel) ?_
  refine B_callI (J := mX5_init) (b := 41) (mc' := 1) (ms' := 60) wb_97 jX5_init wb_98 rfl rfl [.int 40] rfl (Nat.le_of_ble_eq_true rfl) (show decode cX6_init 146 = .ok (.invokespecial 77, 3) by decide +kernel) (Nat.le_of_ble_eq_true rfl) (Nat.le_of_ble_eq_true rfl) (Nat.le_of_ble_eq_true rfl) (b_X5 (a := 41) rfl rfl (n := 40) (by decide) (by decide) ?_)
  show pm_B _ _ _ _ _ 43 _ 42 582 _ _ _
  refine B_aast (t := 0) (ci := 5) (q := (RX5, TX5, 2)) (show decode cX6_init 149 = .ok (.aastore, 1) by decide +kernel) rfl (by decide) (show vp_in (nI 4) (pm_rl 1) from ni_in (by decide) (by decide)) rfl rfl (by decide) rfl (Or.inl ⟨rfl, rfl⟩) (Nat.le_of_ble_eq_true rfl) (Nat.le_of_ble_eq_true rfl) ?_
  show pm_B _ _ _ _ _ _ (stN _ 1 4) _ _ _ _ _
  refine B_iinc (n := 1) (v := 5) rfl (by decide) (show decode cX6_init 150 = .ok (.iinc 1 1, 3) by decide +kernel) ?_
  show pm_B _ _ _ [some (.ref 0), some (.int 5)] _ _ _ _ _ _ _ _
  refine B_goto (tgt := 129) (show decode cX6_init 153 = .ok (.goto (-24), 3) by decide +kernel) (by decide) ?_
  refine B_iload_n rfl rfl (show decode cX6_init 129 = .ok (.iload_n 1, 1) by decide +kernel) ?_
  refine B_bipush (v := 6) (by decide) (show decode cX6_init 130 = .ok (.bipush 6, 2) by decide +kernel) ?_
  refine B_ge_f (tgt := 156) (by decide) (show decode cX6_init 132 = .ok (.if_icmp .ge 24, 3) by decide +kernel) (by decide) ?_
  refine B_aload_n rfl rfl (show decode cX6_init 135 = .ok (.aload_n 0, 1) by decide +kernel) ?_
  refine B_get (ci := 6) (j := 0) (q := (RX6, TX6, 14)) (v := .ref 1) (show decode cX6_init 136 = .ok (.getfield 11, 3) by decide +kernel) rfl (by decide) rfl iX6 (by decide) wb_65 rfl rfl (Nat.le_of_ble_eq_true rfl) ?_
  refine B_iload_n rfl rfl (show decode cX6_init 139 = .ok (.iload_n 1, 1) by decide +kernel) ?_
  refine B_new (ci := 5) (q := (RX5, TX5, 2)) (ty := tyX5) (show decode cX6_init 140 = .ok (.new 9, 3) by decide +kernel) rfl (by decide) rfl iX5 tyX5_ok wb_64 wb_96 wb_11 (fun X j hj => fs_X5 X j hj) (Nat.le_of_ble_eq_true rfl) (Nat.le_of_ble_eq_true rfl) ?_
  show pm_B _ _ _ _ (.ref 43 :: _) 44 _ 43 584 _ _ _
  refine B_dup rfl (show decode cX6_init 143 = .ok (.dup, 1) by decide +kernel) ?_
  refine B_bipush (v := 40) (by decide) (show decode cX6_init 144 = .ok (.bipush 40, 2) by decide +kernel) ?_
  refine B_callI (J := mX5_init) (b := 43) (mc' := 1) (ms' := 60) wb_97 jX5_init wb_98 rfl rfl [.int 40] rfl (Nat.le_of_ble_eq_true rfl) (show decode cX6_init 146 = .ok (.invokespecial 77, 3) by decide +kernel) (Nat.le_of_ble_eq_true rfl) (Nat.le_of_ble_eq_true rfl) (Nat.le_of_ble_eq_true rfl) (b_X5 (a := 43) rfl rfl (n := 40) (by decide) (by decide) ?_)
  show pm_B _ _ _ _ _ 45 _ 44 644 _ _ _
  refine B_aast (t := 0) (ci := 5) (q := (RX5, TX5, 2)) (show decode cX6_init 149 = .ok (.aastore, 1) by decide +kernel) rfl (by decide) (show vp_in (nI 5) (pm_rl 1) from ni_in (by decide) (by decide)) rfl rfl (by decide) rfl (Or.inl ⟨rfl, rfl⟩) (Nat.le_of_ble_eq_true rfl) (Nat.le_of_ble_eq_true rfl) ?_
  show pm_B _ _ _ _ _ _ (stN _ 1 5) _ _ _ _ _
  refine B_iinc (n := 1) (v := 6) rfl (by decide) (show decode cX6_init 150 = .ok (.iinc 1 1, 3) by decide +kernel) ?_
  show pm_B _ _ _ [some (.ref 0), some (.int 6)] _ _ _ _ _ _ _ _
  refine B_goto (tgt := 129) (show decode cX6_init 153 = .ok (.goto (-24), 3) by decide +kernel) (by decide) ?_
  refine B_iload_n rfl rfl (show decode cX6_init 129 = .ok (.iload_n 1, 1) by decide +kernel) ?_
  refine B_bipush (v := 6) (by decide) (show decode cX6_init 130 = .ok (.bipush 6, 2) by decide +kernel) ?_
  refine B_ge_t (tgt := 156) (by decide) (show decode cX6_init 132 = .ok (.if_icmp .ge 24, 3) by decide +kernel) (by decide) ?_
  refine B_iconst (v := 0) (by decide) (show decode cX6_init 156 = .ok (.iconst 0, 1) by decide +kernel) ?_
  refine B_istore_n rfl (Nat.le_of_ble_eq_true rfl) (show decode cX6_init 157 = .ok (.istore_n 1, 1) by decide +kernel) ?_
  show pm_B _ _ _ [some (.ref 0), some (.int 0)] _ _ _ _ _ _ _ _
  refine B_iload_n rfl rfl (show decode cX6_init 158 = .ok (.iload_n 1, 1) by decide +kernel) ?_
  refine B_iconst (v := 4) (by decide) (show decode cX6_init 159 = .ok (.iconst 4, 1) by decide +kernel) ?_
  refine B_ge_f (tgt := 184) (by decide) (show decode cX6_init 160 = .ok (.if_icmp .ge 24, 3) by decide +kernel) (by decide) ?_
  refine B_aload_n rfl rfl (show decode cX6_init 163 = .ok (.aload_n 0, 1) by decide +kernel) ?_
  refine B_get (ci := 6) (j := 1) (q := (RX6, TX6, 14)) (v := .ref 2) (show decode cX6_init 164 = .ok (.getfield 15, 3) by decide +kernel) rfl (by decide) rfl iX6 (by decide) wb_66 rfl rfl (Nat.le_of_ble_eq_true rfl) ?_
  refine B_iload_n rfl rfl (show decode cX6_init 167 = .ok (.iload_n 1, 1) by decide +kernel) ?_
  refine B_new (ci := 5) (q := (RX5, TX5, 2)) (ty := tyX5) (show decode cX6_init 168 = .ok (.new 9, 3) by decide +kernel) rfl (by decide) rfl iX5 tyX5_ok wb_64 wb_96 wb_11 (fun X j hj => fs_X5 X j hj) (Nat.le_of_ble_eq_true rfl) (Nat.le_of_ble_eq_true rfl) ?_
  show pm_B _ _ _ _ (.ref 45 :: _) 46 _ 45 646 _ _ _
  refine B_dup rfl (show decode cX6_init 171 = .ok (.dup, 1) by decide +kernel) ?_
  refine B_bipush (v := 60) (by decide) (show decode cX6_init 172 = .ok (.bipush 60, 2) by decide +kernel) ?_
  refine B_callI (J := mX5_init) (b := 45) (mc' := 1) (ms' := 60) wb_97 jX5_init wb_98 rfl rfl [.int 60] rfl (Nat.le_of_ble_eq_true rfl) (show decode cX6_init 174 = .ok (.invokespecial 77, 3) by decide +kernel) (Nat.le_of_ble_eq_true rfl) (Nat.le_of_ble_eq_true rfl) (Nat.le_of_ble_eq_true rfl) (b_X5 (a := 45) rfl rfl (n := 60) (by decide) (by decide) ?_)
  show pm_B _ _ _ _ _ 47 _ 46 706 _ _ _
  refine B_aast (t := 0) (ci := 5) (q := (RX5, TX5, 2)) (show decode cX6_init 177 = .ok (.aastore, 1) by decide +kernel) rfl (by decide) (show vp_in (nI 0) (pm_rl 2) from ni_in (by decide) (by decide)) rfl rfl (by decide) rfl (Or.inl ⟨rfl, rfl⟩) (Nat.le_of_ble_eq_true rfl) (Nat.le_of_ble_eq_true rfl) ?_
  show pm_B _ _ _ _ _ _ (stN _ 2 0) _ _ _ _ _
  refine B_iinc (n := 1) (v := 1) rfl (by decide) (show decode cX6_init 178 = .ok (.iinc 1 1, 3) by decide +kernel) ?_
  show pm_B _ _ _ [some (.ref 0), some (.int 1)] _ _ _ _ _ _ _ _
  refine B_goto (tgt := 158) (show decode cX6_init 181 = .ok (.goto (-23), 3) by decide +kernel) (by decide) ?_
  refine B_iload_n rfl rfl (show decode cX6_init 158 = .ok (.iload_n 1, 1) by decide +kernel) ?_
  refine B_iconst (v := 4) (by decide) (show decode cX6_init 159 = .ok (.iconst 4, 1) by decide +kernel) ?_
  refine B_ge_f (tgt := 184) (by decide) (show decode cX6_init 160 = .ok (.if_icmp .ge 24, 3) by decide +kernel) (by decide) ?_
  refine B_aload_n rfl rfl (show decode cX6_init 163 = .ok (.aload_n 0, 1) by decide +kernel) ?_
  refine B_get (ci := 6) (j := 1) (q := (RX6, TX6, 14)) (v := .ref 2) (show decode cX6_init 164 = .ok (.getfield 15, 3) by decide +kernel) rfl (by decide) rfl iX6 (by decide) wb_66 rfl rfl (Nat.le_of_ble_eq_true rfl) ?_
  refine B_iload_n rfl rfl (show decode cX6_init 167 = .ok (.iload_n 1, 1) by decide +kernel) ?_
  refine B_new (ci := 5) (q := (RX5, TX5, 2)) (ty := tyX5) (show decode cX6_init 168 = .ok (.new 9, 3) by decide +kernel) rfl (by decide) rfl iX5 tyX5_ok wb_64 wb_96 wb_11 (fun X j hj => fs_X5 X j hj) (Nat.le_of_ble_eq_true rfl) (Nat.le_of_ble_eq_true rfl) ?_
  show pm_B _ _ _ _ (.ref 47 :: _) 48 _ 47 708 _ _ _
  refine B_dup rfl (show decode cX6_init 171 = .ok (.dup, 1) by decide +kernel) ?_
  refine B_bipush (v := 60) (by decide) (show decode cX6_init 172 = .ok (.bipush 60, 2) by decide +kernel) ?_
  refine B_callI (J := mX5_init) (b := 47) (mc' := 1) (ms' := 60) wb_97 jX5_init wb_98 rfl rfl [.int 60] rfl (Nat.le_of_ble_eq_true rfl) (show decode cX6_init 174 = .ok (.invokespecial 77, 3) by decide +kernel) (Nat.le_of_ble_eq_true rfl) (Nat.le_of_ble_eq_true rfl) (Nat.le_of_ble_eq_true rfl) (b_X5 (a := 47) rfl rfl (n := 60) (by decide) (by decide) ?_)
  show pm_B _ _ _ _ _ 49 _ 48 768 _ _ _
  refine B_aast (t := 0) (ci := 5) (q := (RX5, TX5, 2)) (show decode cX6_init 177 = .ok (.aastore, 1) by decide +kernel) rfl (by decide) (show vp_in (nI 1) (pm_rl 2) from ni_in (by decide) (by decide)) rfl rfl (by decide) rfl (Or.inl ⟨rfl, rfl⟩) (Nat.le_of_ble_eq_true rfl) (Nat.le_of_ble_eq_true rfl) ?_
  show pm_B _ _ _ _ _ _ (stN _ 2 1) _ _ _ _ _
  refine B_iinc (n := 1) (v := 2) rfl (by decide) (show decode cX6_init 178 = .ok (.iinc 1 1, 3) by decide +kernel) ?_
  show pm_B _ _ _ [some (.ref 0), some (.int 2)] _ _ _ _ _ _ _ _
  refine B_goto (tgt := 158) (show decode cX6_init 181 = .ok (.goto (-23), 3) by decide +kernel) (by decide) ?_
  refine B_iload_n rfl rfl (show decode cX6_init 158 = .ok (.iload_n 1, 1) by decide +kernel) ?_
  refine B_iconst (v := 4) (by decide) (show decode cX6_init 159 = .ok (.iconst 4, 1) by decide +kernel) ?_
  refine B_ge_f (tgt := 184) (by decide) (show decode cX6_init 160 = .ok (.if_icmp .ge 24, 3) by decide +kernel) (by decide) ?_
  refine B_aload_n rfl rfl (show decode cX6_init 163 = .ok (.aload_n 0, 1) by decide +kernel) ?_
  refine B_get (ci := 6) (j := 1) (q := (RX6, TX6, 14)) (v := .ref 2) (show decode cX6_init 164 = .ok (.getfield 15, 3) by decide +kernel) rfl (by decide) rfl iX6 (by decide) wb_66 rfl rfl (Nat.le_of_ble_eq_true rfl) ?_
  refine B_iload_n rfl rfl (show decode cX6_init 167 = .ok (.iload_n 1, 1) by decide +kernel) ?_
  refine B_new (ci := 5) (q := (RX5, TX5, 2)) (ty := tyX5) (show decode cX6_init 168 = .ok (.new 9, 3) by decide +kernel) rfl (by decide) rfl iX5 tyX5_ok wb_64 wb_96 wb_11 (fun X j hj => fs_X5 X j hj) (Nat.le_of_ble_eq_true rfl) (Nat.le_of_ble_eq_true rfl) ?_
  show pm_B _ _ _ _ (.ref 49 :: _) 50 _ 49 770 _ _ _
  refine B_dup rfl (show decode cX6_init 171 = .ok (.dup, 1) by decide +kernel) ?_
  refine B_bipush (v := 60) (by decide) (show decode cX6_init 172 = .ok (.bipush 60, 2) by decide +kernel) ?_
  refine B_callI (J := mX5_init) (b := 49) (mc' := 1) (ms' := 60) wb_97 jX5_init wb_98 rfl rfl [.int 60] rfl (Nat.le_of_ble_eq_true rfl) (show decode cX6_init 174 = .ok (.invokespecial 77, 3) by decide +kernel) (Nat.le_of_ble_eq_true rfl) (Nat.le_of_ble_eq_true rfl) (Nat.le_of_ble_eq_true rfl) (b_X5 (a := 49) rfl rfl (n := 60) (by decide) (by decide) ?_)
  show pm_B _ _ _ _ _ 51 _ 50 830 _ _ _
  refine B_aast (t := 0) (ci := 5) (q := (RX5, TX5, 2)) (show decode cX6_init 177 = .ok (.aastore, 1) by decide +kernel) rfl (by decide) (show vp_in (nI 2) (pm_rl 2) from ni_in (by decide) (by decide)) rfl rfl (by decide) rfl (Or.inl ⟨rfl, rfl⟩) (Nat.le_of_ble_eq_true rfl) (Nat.le_of_ble_eq_true rfl) ?_
  show pm_B _ _ _ _ _ _ (stN _ 2 2) _ _ _ _ _
  refine B_iinc (n := 1) (v := 3) rfl (by decide) (show decode cX6_init 178 = .ok (.iinc 1 1, 3) by decide +kernel) ?_
  show pm_B _ _ _ [some (.ref 0), some (.int 3)] _ _ _ _ _ _ _ _
  refine B_goto (tgt := 158) (show decode cX6_init 181 = .ok (.goto (-23), 3) by decide +kernel) (by decide) ?_
  refine B_iload_n rfl rfl (show decode cX6_init 158 = .ok (.iload_n 1, 1) by decide +kernel) ?_
  refine B_iconst (v := 4) (by decide) (show decode cX6_init 159 = .ok (.iconst 4, 1) by decide +kernel) ?_
  refine B_ge_f (tgt := 184) (by decide) (show decode cX6_init 160 = .ok (.if_icmp .ge 24, 3) by decide +kernel) (by decide) ?_
  refine B_aload_n rfl rfl (show decode cX6_init 163 = .ok (.aload_n 0, 1) by decide +kernel) ?_
  refine B_get (ci := 6) (j := 1) (q := (RX6, TX6, 14)) (v := .ref 2) (show decode cX6_init 164 = .ok (.getfield 15, 3) by decide +kernel) rfl (by decide) rfl iX6 (by decide) wb_66 rfl rfl (Nat.le_of_ble_eq_true rfl) ?_
  refine B_iload_n rfl rfl (show decode cX6_init 167 = .ok (.iload_n 1, 1) by decide +kernel) ?_
  refine B_new (ci := 5) (q := (RX5, TX5, 2)) (ty := tyX5) (show decode cX6_init 168 = .ok (.new 9, 3) by decide +kernel) rfl (by decide) rfl iX5 tyX5_ok wb_64 wb_96 wb_11 (fun X j hj => fs_X5 X j hj) (Nat.le_of_ble_eq_true rfl) (Nat.le_of_ble_eq_true rfl) ?_
  show pm_B _ _ _ _ (.ref 51 :: _) 52 _ 51 832 _ _ _
  refine B_dup rfl (show decode cX6_init 171 = .ok (.dup, 1) by decide +kernel) ?_
  refine B_bipush (v := 60) (by decide) (show decode cX6_init 172 = .ok (.bipush 60, 2) by decide +kernel) ?_
  refine B_callI (J := mX5_init) (b := 51) (mc' := 1) (ms' := 60) wb_97 jX5_init wb_98 rfl rfl [.int 60] rfl (Nat.le_of_ble_eq_true rfl) (show decode cX6_init 174 = .ok (.invokespecial 77, 3) by decide +kernel) (Nat.le_of_ble_eq_true rfl) (Nat.le_of_ble_eq_true rfl) (Nat.le_of_ble_eq_true rfl) (b_X5 (a := 51) rfl rfl (n := 60) (by decide) (by decide) ?_)
  show pm_B _ _ _ _ _ 53 _ 52 892 _ _ _
  refine B_aast (t := 0) (ci := 5) (q := (RX5, TX5, 2)) (show decode cX6_init 177 = .ok (.aastore, 1) by decide +kernel) rfl (by decide) (show vp_in (nI 3) (pm_rl 2) from ni_in (by decide) (by decide)) rfl rfl (by decide) rfl (Or.inl ⟨rfl, rfl⟩) (Nat.le_of_ble_eq_true rfl) (Nat.le_of_ble_eq_true rfl) ?_
  show pm_B _ _ _ _ _ _ (stN _ 2 3) _ _ _ _ _
  refine B_iinc (n := 1) (v := 4) rfl (by decide) (show decode cX6_init 178 = .ok (.iinc 1 1, 3) by decide +kernel) ?_
  show pm_B _ _ _ [some (.ref 0), some (.int 4)] _ _ _ _ _ _ _ _
  refine B_goto (tgt := 158) (show decode cX6_init 181 = .ok (.goto (-23), 3) by decide +kernel) (by decide) ?_
  refine B_iload_n rfl rfl (show decode cX6_init 158 = .ok (.iload_n 1, 1) by decide +kernel) ?_
  refine B_iconst (v := 4) (by decide) (show decode cX6_init 159 = .ok (.iconst 4, 1) by decide +kernel) ?_
  refine B_ge_t (tgt := 184) (by decide) (show decode cX6_init 160 = .ok (.if_icmp .ge 24, 3) by decide +kernel) (by decide) ?_
  refine B_iconst (v := 0) (by decide) (show decode cX6_init 184 = .ok (.iconst 0, 1) by decide +kernel) ?_
  refine B_istore_n rfl (Nat.le_of_ble_eq_true rfl) (show decode cX6_init 185 = .ok (.istore_n 1, 1) by decide +kernel) ?_
  show pm_B _ _ _ [some (.ref 0), some (.int 0)] _ _ _ _ _ _ _ _
  refine B_iload_n rfl rfl (show decode cX6_init 186 = .ok (.iload_n 1, 1) by decide +kernel) ?_
  refine B_iconst (v := 3) (by decide) (show decode cX6_init 187 = .ok (.iconst 3, 1) by decide +kernel) ?_
  refine B_ge_f (tgt := 214) (by decide) (show decode cX6_init 188 = .ok (.if_icmp .ge 26, 3) by decide +kernel) (by decide) ?_
  refine B_aload_n rfl rfl (show decode cX6_init 191 = .ok (.aload_n 0, 1) by decide +kernel) ?_
  refine B_get (ci := 6) (j := 6) (q := (RX6, TX6, 14)) (v := .ref 24) (show decode cX6_init 192 = .ok (.getfield 44, 3) by decide +kernel) rfl (by decide) rfl iX6 (by decide) wb_83 rfl rfl (Nat.le_of_ble_eq_true rfl) ?_
  refine B_iload_n rfl rfl (show decode cX6_init 195 = .ok (.iload_n 1, 1) by decide +kernel) ?_
  refine B_new (ci := 0) (q := (RX0, TX0, 9)) (ty := tyX0) (show decode cX6_init 196 = .ok (.new 32, 3) by decide +kernel) rfl (by decide) rfl iX0 tyX0_ok wb_77 wb_78 wb_1 (fun X j hj => fs_X0 X j hj) (Nat.le_of_ble_eq_true rfl) (Nat.le_of_ble_eq_true rfl) ?_
  show pm_B _ _ _ _ (.ref 53 :: _) 54 _ 53 901 _ _ _
  refine B_dup rfl (show decode cX6_init 199 = .ok (.dup, 1) by decide +kernel) ?_
  refine B_aload_n rfl rfl (show decode cX6_init 200 = .ok (.aload_n 0, 1) by decide +kernel) ?_
  refine B_get (ci := 6) (j := 3) (q := (RX6, TX6, 14)) (v := .ref 8) (show decode cX6_init 201 = .ok (.getfield 28, 3) by decide +kernel) rfl (by decide) rfl iX6 (by decide) wb_76 rfl rfl (Nat.le_of_ble_eq_true rfl) ?_
  refine B_callI (J := mX0_init) (b := 53) (mc' := 3) (ms' := 64) wb_79 jX0_init wb_80 rfl rfl [.ref 8] rfl (Nat.le_of_ble_eq_true rfl) (show decode cX6_init 204 = .ok (.invokespecial 34, 3) by decide +kernel) (Nat.le_of_ble_eq_true rfl) (Nat.le_of_ble_eq_true rfl) (Nat.le_of_ble_eq_true rfl) (b_X0 (a := 53) rfl (by decide) (by decide) (by decide) ?_)
  show pm_B _ _ _ _ _ 57 _ 56 965 _ _ _
  refine B_aast (t := 2) (ci := 0) (q := (RX0, TX0, 9)) (show decode cX6_init 207 = .ok (.aastore, 1) by decide +kernel) rfl (by decide) (show vp_in (nI 0) (pm_rl 24) from ni_in (by decide) (by decide)) rfl rfl (by decide) rfl (Or.inr (Or.inr ⟨rfl, rfl⟩)) (Nat.le_of_ble_eq_true rfl) (Nat.le_of_ble_eq_true rfl) ?_
  show pm_B _ _ _ _ _ _ (stN _ 24 0) _ _ _ _ _
  refine B_iinc (n := 1) (v := 1) rfl (by decide) (show decode cX6_init 208 = .ok (.iinc 1 1, 3) by decide +kernel) ?_
  show pm_B _ _ _ [some (.ref 0), some (.int 1)] _ _ _ _ _ _ _ _
  refine B_goto (tgt := 186) (show decode cX6_init 211 = .ok (.goto (-25), 3) by decide +kernel) (by decide) ?_
  refine B_iload_n rfl rfl (show decode cX6_init 186 = .ok (.iload_n 1, 1) by decide +kernel) ?_
  refine B_iconst (v := 3) (by decide) (show decode cX6_init 187 = .ok (.iconst 3, 1) by decide +kernel) ?_
  refine B_ge_f (tgt := 214) (by decide) (show decode cX6_init 188 = .ok (.if_icmp .ge 26, 3) by decide +kernel) (by decide) ?_
  refine B_aload_n rfl rfl (show decode cX6_init 191 = .ok (.aload_n 0, 1) by decide +kernel) ?_
  refine B_get (ci := 6) (j := 6) (q := (RX6, TX6, 14)) (v := .ref 24) (show decode cX6_init 192 = .ok (.getfield 44, 3) by decide +kernel) rfl (by decide) rfl iX6 (by decide) wb_83 rfl rfl (Nat.le_of_ble_eq_true rfl) ?_
  refine B_iload_n rfl rfl (show decode cX6_init 195 = .ok (.iload_n 1, 1) by decide +kernel) ?_
  refine B_new (ci := 0) (q := (RX0, TX0, 9)) (ty := tyX0) (show decode cX6_init 196 = .ok (.new 32, 3) by decide +kernel) rfl (by decide) rfl iX0 tyX0_ok wb_77 wb_78 wb_1 (fun X j hj => fs_X0 X j hj) (Nat.le_of_ble_eq_true rfl) (Nat.le_of_ble_eq_true rfl) ?_
  show pm_B _ _ _ _ (.ref 57 :: _) 58 _ 57 974 _ _ _
  refine B_dup rfl (show decode cX6_init 199 = .ok (.dup, 1) by decide +kernel) ?_
  refine B_aload_n rfl rfl (show decode cX6_init 200 = .ok (.aload_n 0, 1) by decide +kernel) ?_
  refine B_get (ci := 6) (j := 3) (q := (RX6, TX6, 14)) (v := .ref 8) (show decode cX6_init 201 = .ok (.getfield 28, 3) by decide +kernel) rfl (by decide) rfl iX6 (by decide) wb_76 rfl rfl (Nat.le_of_ble_eq_true rfl) ?_
  refine B_callI (J := mX0_init) (b := 57) (mc' := 3) (ms' := 64) wb_79 jX0_init wb_80 rfl rfl [.ref 8] rfl (Nat.le_of_ble_eq_true rfl) (show decode cX6_init 204 = .ok (.invokespecial 34, 3) by decide +kernel) (Nat.le_of_ble_eq_true rfl) (Nat.le_of_ble_eq_true rfl) (Nat.le_of_ble_eq_true rfl) (b_X0 (a := 57) rfl (by decide) (by decide) (by decide) ?_)
  show pm_B _ _ _ _ _ 61 _ 60 1038 _ _ _
  refine B_aast (t := 2) (ci := 0) (q := (RX0, TX0, 9)) (show decode cX6_init 207 = .ok (.aastore, 1) by decide +kernel) rfl (by decide) (show vp_in (nI 1) (pm_rl 24) from ni_in (by decide) (by decide)) rfl rfl (by decide) rfl (Or.inr (Or.inr ⟨rfl, rfl⟩)) (Nat.le_of_ble_eq_true rfl) (Nat.le_of_ble_eq_true rfl) ?_
  show pm_B _ _ _ _ _ _ (stN _ 24 1) _ _ _ _ _
  refine B_iinc (n := 1) (v := 2) rfl (by decide) (show decode cX6_init 208 = .ok (.iinc 1 1, 3) by decide +kernel) ?_
  show pm_B _ _ _ [some (.ref 0), some (.int 2)] _ _ _ _ _ _ _ _
  refine B_goto (tgt := 186) (show decode cX6_init 211 = .ok (.goto (-25), 3) by decide +kernel) (by decide) ?_
  refine B_iload_n rfl rfl (show decode cX6_init 186 = .ok (.iload_n 1, 1) by decide +kernel) ?_
  refine B_iconst (v := 3) (by decide) (show decode cX6_init 187 = .ok (.iconst 3, 1) by decide +kernel) ?_
  refine B_ge_f (tgt := 214) (by decide) (show decode cX6_init 188 = .ok (.if_icmp .ge 26, 3) by decide +kernel) (by decide) ?_
  refine B_aload_n rfl rfl (show decode cX6_init 191 = .ok (.aload_n 0, 1) by decide +kernel) ?_
  refine B_get (ci := 6) (j := 6) (q := (RX6, TX6, 14)) (v := .ref 24) (show decode cX6_init 192 = .ok (.getfield 44, 3) by decide +kernel) rfl (by decide) rfl iX6 (by decide) wb_83 rfl rfl (Nat.le_of_ble_eq_true rfl) ?_
  refine B_iload_n rfl rfl (show decode cX6_init 195 = .ok (.iload_n 1, 1) by decide +kernel) ?_
  refine B_new (ci := 0) (q := (RX0, TX0, 9)) (ty := tyX0) (show decode cX6_init 196 = .ok (.new 32, 3) by decide +kernel) rfl (by decide) rfl iX0 tyX0_ok wb_77 wb_78 wb_1 (fun X j hj => fs_X0 X j hj) (Nat.le_of_ble_eq_true rfl) (Nat.le_of_ble_eq_true rfl) ?_
  show pm_B _ _ _ _ (.ref 61 :: _) 62 _ 61 1047 _ _ _
  refine B_dup rfl (show decode cX6_init 199 = .ok (.dup, 1) by decide +kernel) ?_
  refine B_aload_n rfl rfl (show decode cX6_init 200 = .ok (.aload_n 0, 1) by decide +kernel) ?_
  refine B_get (ci := 6) (j := 3) (q := (RX6, TX6, 14)) (v := .ref 8) (show decode cX6_init 201 = .ok (.getfield 28, 3) by decide +kernel) rfl (by decide) rfl iX6 (by decide) wb_76 rfl rfl (Nat.le_of_ble_eq_true rfl) ?_
  refine B_callI (J := mX0_init) (b := 61) (mc' := 3) (ms' := 64) wb_79 jX0_init wb_80 rfl rfl [.ref 8] rfl (Nat.le_of_ble_eq_true rfl) (show decode cX6_init 204 = .ok (.invokespecial 34, 3) by decide +kernel) (Nat.le_of_ble_eq_true rfl) (Nat.le_of_ble_eq_true rfl) (Nat.le_of_ble_eq_true rfl) (b_X0 (a := 61) rfl (by decide) (by decide) (by decide) ?_)
  show pm_B _ _ _ _ _ 65 _ 64 1111 _ _ _
  refine B_aast (t := 2) (ci := 0) (q := (RX0, TX0, 9)) (show decode cX6_init 207 = .ok (.aastore, 1) by decide +kernel) rfl (by decide) (show vp_in (nI 2) (pm_rl 24) from ni_in (by decide) (by decide)) rfl rfl (by decide) rfl (Or.inr (Or.inr ⟨rfl, rfl⟩)) (Nat.le_of_ble_eq_true rfl) (Nat.le_of_ble_eq_true rfl) ?_
  show pm_B _ _ _ _ _ _ (stN _ 24 2) _ _ _ _ _
  refine B_iinc (n := 1) (v := 3) rfl (by decide) (show decode cX6_init 208 = .ok (.iinc 1 1, 3) by decide +kernel) ?_
  show pm_B _ _ _ [some (.ref 0), some (.int 3)] _ _ _ _ _ _ _ _
  refine B_goto (tgt := 186) (show decode cX6_init 211 = .ok (.goto (-25), 3) by decide +kernel) (by decide) ?_
  refine B_iload_n rfl rfl (show decode cX6_init 186 = .ok (.iload_n 1, 1) by decide +kernel) ?_
  refine B_iconst (v := 3) (by decide) (show decode cX6_init 187 = .ok (.iconst 3, 1) by decide +kernel) ?_
  refine B_ge_t (tgt := 214) (by decide) (show decode cX6_init 188 = .ok (.if_icmp .ge 26, 3) by decide +kernel) (by decide) ?_
  exact B_return (show decode cX6_init 214 = .ok (.return_, 1) by decide +kernel) rfl (Nat.le_of_ble_eq_true rfl) (Nat.le_of_ble_eq_true rfl) K
set_option maxRecDepth 20000 in
set_option maxHeartbeats 4000000 in
theorem b_X7 {d : Nat} {N : Nat → Nat → Bool} {Q : Nat → (Nat → Nat → Bool) → Prop} (K : Q 87 (stN (stN (stN (stN (stN (stN (stN (stN (stN (stN (stN (stN (stN (stN (stN (stN (stN (stN (stN (stN (stN (stN (stN (stN (stN (stN (stN (stN (stN (stN (stN (stN (stN (stN (stN N 65 0) 65 1) 65 2) 65 3) 65 5) 65 6) 65 7) 65 8) 65 9) 65 11) 65 12) 65 13) 65 14) 65 17) 65 18) 65 23) 65 27) 65 28) 65 29) 65 30) 65 31) 67 0) 67 1) 67 2) 67 3) 67 4) 67 5) 69 0) 69 1) 69 2) 69 3) 76 0) 76 1) 76 2) 65 21)) : pm_B (d + 1) mX7_init 0 [some (.ref 65), none] [] 66 N 0 0 21 797 (Qr mX7_init Q) := by
  refine B_aload_n rfl rfl (show decode cX7_init 0 = .ok (.aload_n 0, 1) by decide +kernel) ?_
  refine B_objInit wb_99 wb_17 wb_18 (show decode cX7_init 1 = .ok (.invokespecial 1, 3) by decide +kernel) ?_
  refine B_aload_n rfl rfl (show decode cX7_init 4 = .ok (.aload_n 0, 1) by decide +kernel) ?_
  refine B_sipush (v := 240) (by decide) (show decode cX7_init 5 = .ok (.sipush 240, 3) by decide +kernel) ?_
  refine B_newi (show decode cX7_init 8 = .ok (.newarray .int, 2) by decide +kernel) rfl wb_24 (by decide) (by decide) (Nat.le_of_ble_eq_true rfl) (Nat.le_of_ble_eq_true rfl) ?_
  show pm_B _ _ _ _ (.ref 66 :: _) 67 _ 1 240 _ _ _
  refine B_putF (ci := 7) (j := 0) (q := (RX7, TX7, 32)) (ty := (.array .int)) (show decode cX7_init 10 = .ok (.putfield 7, 3) by decide +kernel) rfl (by decide) rfl iX7 tyX7_ok nmX7 (by decide) wb_100 rfl rfl rfl (by decide +kernel) rfl (fun _ => rfl) (fun _ => rfl) (Nat.le_of_ble_eq_true rfl) ?_
  refine B_aload_n rfl rfl (show decode cX7_init 13 = .ok (.aload_n 0, 1) by decide +kernel) ?_
  refine B_bipush (v := 6) (by decide) (show decode cX7_init 14 = .ok (.bipush 6, 2) by decide +kernel) ?_
  refine B_newi (show decode cX7_init 16 = .ok (.newarray .int, 2) by decide +kernel) rfl wb_24 (by decide) (by decide) (Nat.le_of_ble_eq_true rfl) (Nat.le_of_ble_eq_true rfl) ?_
  show pm_B _ _ _ _ (.ref 67 :: _) 68 _ 2 246 _ _ _
  refine B_putF (ci := 7) (j := 1) (q := (RX7, TX7, 32)) (ty := (.array .int)) (show decode cX7_init 18 = .ok (.putfield 13, 3) by decide +kernel) rfl (by decide) rfl iX7 tyX7_ok nmX7 (by decide) wb_101 rfl rfl rfl (by decide +kernel) rfl (fun _ => rfl) (fun _ => rfl) (Nat.le_of_ble_eq_true rfl) ?_
  refine B_aload_n rfl rfl (show decode cX7_init 21 = .ok (.aload_n 0, 1) by decide +kernel) ?_
  refine B_sipush (v := 240) (by decide) (show decode cX7_init 22 = .ok (.sipush 240, 3) by decide +kernel) ?_
  refine B_newi (show decode cX7_init 25 = .ok (.newarray .int, 2) by decide +kernel) rfl wb_24 (by decide) (by decide) (Nat.le_of_ble_eq_true rfl) (Nat.le_of_ble_eq_true rfl) ?_
  show pm_B _ _ _ _ (.ref 68 :: _) 69 _ 3 486 _ _ _
  refine B_putF (ci := 7) (j := 2) (q := (RX7, TX7, 32)) (ty := (.array .int)) (show decode cX7_init 27 = .ok (.putfield 16, 3) by decide +kernel) rfl (by decide) rfl iX7 tyX7_ok nmX7 (by decide) wb_102 rfl rfl rfl (by decide +kernel) rfl (fun _ => rfl) (fun _ => rfl) (Nat.le_of_ble_eq_true rfl) ?_
  refine B_aload_n rfl rfl (show decode cX7_init 30 = .ok (.aload_n 0, 1) by decide +kernel) ?_
  refine B_iconst (v := 4) (by decide) (show decode cX7_init 31 = .ok (.iconst 4, 1) by decide +kernel) ?_
  refine B_newi (show decode cX7_init 32 = .ok (.newarray .int, 2) by decide +kernel) rfl wb_24 (by decide) (by decide) (Nat.le_of_ble_eq_true rfl) (Nat.le_of_ble_eq_true rfl) ?_
  show pm_B _ _ _ _ (.ref 69 :: _) 70 _ 4 490 _ _ _
  refine B_putF (ci := 7) (j := 3) (q := (RX7, TX7, 32)) (ty := (.array .int)) (show decode cX7_init 34 = .ok (.putfield 19, 3) by decide +kernel) rfl (by decide) rfl iX7 tyX7_ok nmX7 (by decide) wb_103 rfl rfl rfl (by decide +kernel) rfl (fun _ => rfl) (fun _ => rfl) (Nat.le_of_ble_eq_true rfl) ?_
  refine B_aload_n rfl rfl (show decode cX7_init 37 = .ok (.aload_n 0, 1) by decide +kernel) ?_
  refine B_bipush (v := 6) (by decide) (show decode cX7_init 38 = .ok (.bipush 6, 2) by decide +kernel) ?_
  refine B_newi (show decode cX7_init 40 = .ok (.newarray .int, 2) by decide +kernel) rfl wb_24 (by decide) (by decide) (Nat.le_of_ble_eq_true rfl) (Nat.le_of_ble_eq_true rfl) ?_
  show pm_B _ _ _ _ (.ref 70 :: _) 71 _ 5 496 _ _ _
  refine B_putF (ci := 7) (j := 5) (q := (RX7, TX7, 32)) (ty := (.array .int)) (show decode cX7_init 42 = .ok (.putfield 22, 3) by decide +kernel) rfl (by decide) rfl iX7 tyX7_ok nmX7 (by decide) wb_104 rfl rfl rfl (by decide +kernel) rfl (fun _ => rfl) (fun _ => rfl) (Nat.le_of_ble_eq_true rfl) ?_
  refine B_aload_n rfl rfl (show decode cX7_init 45 = .ok (.aload_n 0, 1) by decide +kernel) ?_
  refine B_bipush (v := 6) (by decide) (show decode cX7_init 46 = .ok (.bipush 6, 2) by decide +kernel) ?_
  refine B_newi (show decode cX7_init 48 = .ok (.newarray .int, 2) by decide +kernel) rfl wb_24 (by decide) (by decide) (Nat.le_of_ble_eq_true rfl) (Nat.le_of_ble_eq_true rfl) ?_
  show pm_B _ _ _ _ (.ref 71 :: _) 72 _ 6 502 _ _ _
  refine B_putF (ci := 7) (j := 6) (q := (RX7, TX7, 32)) (ty := (.array .int)) (show decode cX7_init 50 = .ok (.putfield 25, 3) by decide +kernel) rfl (by decide) rfl iX7 tyX7_ok nmX7 (by decide) wb_105 rfl rfl rfl (by decide +kernel) rfl (fun _ => rfl) (fun _ => rfl) (Nat.le_of_ble_eq_true rfl) ?_
  refine B_aload_n rfl rfl (show decode cX7_init 53 = .ok (.aload_n 0, 1) by decide +kernel) ?_
  refine B_bipush (v := 6) (by decide) (show decode cX7_init 54 = .ok (.bipush 6, 2) by decide +kernel) ?_
  refine B_newi (show decode cX7_init 56 = .ok (.newarray .int, 2) by decide +kernel) rfl wb_24 (by decide) (by decide) (Nat.le_of_ble_eq_true rfl) (Nat.le_of_ble_eq_true rfl) ?_
  show pm_B _ _ _ _ (.ref 72 :: _) 73 _ 7 508 _ _ _
  refine B_putF (ci := 7) (j := 7) (q := (RX7, TX7, 32)) (ty := (.array .int)) (show decode cX7_init 58 = .ok (.putfield 28, 3) by decide +kernel) rfl (by decide) rfl iX7 tyX7_ok nmX7 (by decide) wb_106 rfl rfl rfl (by decide +kernel) rfl (fun _ => rfl) (fun _ => rfl) (Nat.le_of_ble_eq_true rfl) ?_
  refine B_aload_n rfl rfl (show decode cX7_init 61 = .ok (.aload_n 0, 1) by decide +kernel) ?_
  refine B_bipush (v := 12) (by decide) (show decode cX7_init 62 = .ok (.bipush 12, 2) by decide +kernel) ?_
  refine B_newi (show decode cX7_init 64 = .ok (.newarray .int, 2) by decide +kernel) rfl wb_24 (by decide) (by decide) (Nat.le_of_ble_eq_true rfl) (Nat.le_of_ble_eq_true rfl) ?_
  show pm_B _ _ _ _ (.ref 73 :: _) 74 _ 8 520 _ _ _
  refine B_putF (ci := 7) (j := 8) (q := (RX7, TX7, 32)) (ty := (.array .int)) (show decode cX7_init 66 = .ok (.putfield 31, 3) by decide +kernel) rfl (by decide) rfl iX7 tyX7_ok nmX7 (by decide) wb_107 rfl rfl rfl (by decide +kernel) rfl (fun _ => rfl) (fun _ => rfl) (Nat.le_of_ble_eq_true rfl) ?_
  refine B_aload_n rfl rfl (show decode cX7_init 69 = .ok (.aload_n 0, 1) by decide +kernel) ?_
  refine B_bipush (v := 40) (by decide) (show decode cX7_init 70 = .ok (.bipush 40, 2) by decide +kernel) ?_
  refine B_newi (show decode cX7_init 72 = .ok (.newarray .int, 2) by decide +kernel) rfl wb_24 (by decide) (by decide) (Nat.le_of_ble_eq_true rfl) (Nat.le_of_ble_eq_true rfl) ?_
  show pm_B _ _ _ _ (.ref 74 :: _) 75 _ 9 560 _ _ _
  refine B_putF (ci := 7) (j := 9) (q := (RX7, TX7, 32)) (ty := (.array .int)) (show decode cX7_init 74 = .ok (.putfield 34, 3) by decide +kernel) rfl (by decide) rfl iX7 tyX7_ok nmX7 (by decide) wb_108 rfl rfl rfl (by decide +kernel) rfl (fun _ => rfl) (fun _ => rfl) (Nat.le_of_ble_eq_true rfl) ?_
  refine B_aload_n rfl rfl (show decode cX7_init 77 = .ok (.aload_n 0, 1) by decide +kernel) ?_
  refine B_bipush (v := 120) (by decide) (show decode cX7_init 78 = .ok (.bipush 120, 2) by decide +kernel) ?_
  refine B_newi (show decode cX7_init 80 = .ok (.newarray .int, 2) by decide +kernel) rfl wb_24 (by decide) (by decide) (Nat.le_of_ble_eq_true rfl) (Nat.le_of_ble_eq_true rfl) ?_
  show pm_B _ _ _ _ (.ref 75 :: _) 76 _ 10 680 _ _ _
  refine B_putF (ci := 7) (j := 11) (q := (RX7, TX7, 32)) (ty := (.array .int)) (show decode cX7_init 82 = .ok (.putfield 37, 3) by decide +kernel) rfl (by decide) rfl iX7 tyX7_ok nmX7 (by decide) wb_109 rfl rfl rfl (by decide +kernel) rfl (fun _ => rfl) (fun _ => rfl) (Nat.le_of_ble_eq_true rfl) ?_
  refine B_aload_n rfl rfl (show decode cX7_init 85 = .ok (.aload_n 0, 1) by decide +kernel) ?_
  refine B_iconst (v := 3) (by decide) (show decode cX7_init 86 = .ok (.iconst 3, 1) by decide +kernel) ?_
  refine B_newi (show decode cX7_init 87 = .ok (.newarray .int, 2) by decide +kernel) rfl wb_24 (by decide) (by decide) (Nat.le_of_ble_eq_true rfl) (Nat.le_of_ble_eq_true rfl) ?_
  show pm_B _ _ _ _ (.ref 76 :: _) 77 _ 11 683 _ _ _
  refine B_putF (ci := 7) (j := 12) (q := (RX7, TX7, 32)) (ty := (.array .int)) (show decode cX7_init 89 = .ok (.putfield 40, 3) by decide +kernel) rfl (by decide) rfl iX7 tyX7_ok nmX7 (by decide) wb_110 rfl rfl rfl (by decide +kernel) rfl (fun _ => rfl) (fun _ => rfl) (Nat.le_of_ble_eq_true rfl) ?_
  refine B_aload_n rfl rfl (show decode cX7_init 92 = .ok (.aload_n 0, 1) by decide +kernel) ?_
  refine B_bipush (v := 12) (by decide) (show decode cX7_init 93 = .ok (.bipush 12, 2) by decide +kernel) ?_
  refine B_newi (show decode cX7_init 95 = .ok (.newarray .int, 2) by decide +kernel) rfl wb_24 (by decide) (by decide) (Nat.le_of_ble_eq_true rfl) (Nat.le_of_ble_eq_true rfl) ?_
  show pm_B _ _ _ _ (.ref 77 :: _) 78 _ 12 695 _ _ _
  refine B_putF (ci := 7) (j := 13) (q := (RX7, TX7, 32)) (ty := (.array .int)) (show decode cX7_init 97 = .ok (.putfield 43, 3) by decide +kernel) rfl (by decide) rfl iX7 tyX7_ok nmX7 (by decide) wb_111 rfl rfl rfl (by decide +kernel) rfl (fun _ => rfl) (fun _ => rfl) (Nat.le_of_ble_eq_true rfl) ?_
  refine B_aload_n rfl rfl (show decode cX7_init 100 = .ok (.aload_n 0, 1) by decide +kernel) ?_
  refine B_bipush (v := 12) (by decide) (show decode cX7_init 101 = .ok (.bipush 12, 2) by decide +kernel) ?_
  refine B_newi (show decode cX7_init 103 = .ok (.newarray .int, 2) by decide +kernel) rfl wb_24 (by decide) (by decide) (Nat.le_of_ble_eq_true rfl) (Nat.le_of_ble_eq_true rfl) ?_
  show pm_B _ _ _ _ (.ref 78 :: _) 79 _ 13 707 _ _ _
  refine B_putF (ci := 7) (j := 14) (q := (RX7, TX7, 32)) (ty := (.array .int)) (show decode cX7_init 105 = .ok (.putfield 46, 3) by decide +kernel) rfl (by decide) rfl iX7 tyX7_ok nmX7 (by decide) wb_112 rfl rfl rfl (by decide +kernel) rfl (fun _ => rfl) (fun _ => rfl) (Nat.le_of_ble_eq_true rfl) ?_
  refine B_aload_n rfl rfl (show decode cX7_init 108 = .ok (.aload_n 0, 1) by decide +kernel) ?_
  refine B_bipush (v := 12) (by decide) (show decode cX7_init 109 = .ok (.bipush 12, 2) by decide +kernel) ?_
  refine B_newi (show decode cX7_init 111 = .ok (.newarray .int, 2) by decide +kernel) rfl wb_24 (by decide) (by decide) (Nat.le_of_ble_eq_true rfl) (Nat.le_of_ble_eq_true rfl) ?_
  show pm_B _ _ _ _ (.ref 79 :: _) 80 _ 14 719 _ _ _
  refine B_putF (ci := 7) (j := 17) (q := (RX7, TX7, 32)) (ty := (.array .int)) (show decode cX7_init 113 = .ok (.putfield 49, 3) by decide +kernel) rfl (by decide) rfl iX7 tyX7_ok nmX7 (by decide) wb_113 rfl rfl rfl (by decide +kernel) rfl (fun _ => rfl) (fun _ => rfl) (Nat.le_of_ble_eq_true rfl) ?_
  refine B_aload_n rfl rfl (show decode cX7_init 116 = .ok (.aload_n 0, 1) by decide +kernel) ?_
  refine B_bipush (v := 12) (by decide) (show decode cX7_init 117 = .ok (.bipush 12, 2) by decide +kernel) ?_
  refine B_newi (show decode cX7_init 119 = .ok (.newarray .int, 2) by decide +kernel) rfl wb_24 (by decide) (by decide) (Nat.le_of_ble_eq_true rfl) (Nat.le_of_ble_eq_true rfl) ?_
  show pm_B _ _ _ _ (.ref 80 :: _) 81 _ 15 731 _ _ _
  refine B_putF (ci := 7) (j := 18) (q := (RX7, TX7, 32)) (ty := (.array .int)) (show decode cX7_init 121 = .ok (.putfield 52, 3) by decide +kernel) rfl (by decide) rfl iX7 tyX7_ok nmX7 (by decide) wb_114 rfl rfl rfl (by decide +kernel) rfl (fun _ => rfl) (fun _ => rfl) (Nat.le_of_ble_eq_true rfl) ?_
  refine B_aload_n rfl rfl (show decode cX7_init 124 = .ok (.aload_n 0, 1) by decide +kernel) ?_
  refine B_bipush (v := 6) (by decide) (show decode cX7_init 125 = .ok (.bipush 6, 2) by decide +kernel) ?_
  refine B_newi (show decode cX7_init 127 = .ok (.newarray .int, 2) by decide +kernel) rfl wb_24 (by decide) (by decide) (Nat.le_of_ble_eq_true rfl) (Nat.le_of_ble_eq_true rfl) ?_
  show pm_B _ _ _ _ (.ref 81 :: _) 82 _ 16 737 _ _ _
  refine B_putF (ci := 7) (j := 23) (q := (RX7, TX7, 32)) (ty := (.array .int)) (show decode cX7_init 129 = .ok (.putfield 55, 3) by decide +kernel) rfl (by decide) rfl iX7 tyX7_ok nmX7 (by decide) wb_115 rfl rfl rfl (by decide +kernel) rfl (fun _ => rfl) (fun _ => rfl) (Nat.le_of_ble_eq_true rfl) ?_
  refine B_aload_n rfl rfl (show decode cX7_init 132 = .ok (.aload_n 0, 1) by decide +kernel) ?_
  refine B_bipush (v := 18) (by decide) (show decode cX7_init 133 = .ok (.bipush 18, 2) by decide +kernel) ?_
  refine B_newi (show decode cX7_init 135 = .ok (.newarray .int, 2) by decide +kernel) rfl wb_24 (by decide) (by decide) (Nat.le_of_ble_eq_true rfl) (Nat.le_of_ble_eq_true rfl) ?_
  show pm_B _ _ _ _ (.ref 82 :: _) 83 _ 17 755 _ _ _
  refine B_putF (ci := 7) (j := 27) (q := (RX7, TX7, 32)) (ty := (.array .int)) (show decode cX7_init 137 = .ok (.putfield 58, 3) by decide +kernel) rfl (by decide) rfl iX7 tyX7_ok nmX7 (by decide) wb_116 rfl rfl rfl (by decide +kernel) rfl (fun _ => rfl) (fun _ => rfl) (Nat.le_of_ble_eq_true rfl) ?_
  refine B_aload_n rfl rfl (show decode cX7_init 140 = .ok (.aload_n 0, 1) by decide +kernel) ?_
  refine B_bipush (v := 12) (by decide) (show decode cX7_init 141 = .ok (.bipush 12, 2) by decide +kernel) ?_
  refine B_newi (show decode cX7_init 143 = .ok (.newarray .int, 2) by decide +kernel) rfl wb_24 (by decide) (by decide) (Nat.le_of_ble_eq_true rfl) (Nat.le_of_ble_eq_true rfl) ?_
  show pm_B _ _ _ _ (.ref 83 :: _) 84 _ 18 767 _ _ _
  refine B_putF (ci := 7) (j := 28) (q := (RX7, TX7, 32)) (ty := (.array .int)) (show decode cX7_init 145 = .ok (.putfield 61, 3) by decide +kernel) rfl (by decide) rfl iX7 tyX7_ok nmX7 (by decide) wb_117 rfl rfl rfl (by decide +kernel) rfl (fun _ => rfl) (fun _ => rfl) (Nat.le_of_ble_eq_true rfl) ?_
  refine B_aload_n rfl rfl (show decode cX7_init 148 = .ok (.aload_n 0, 1) by decide +kernel) ?_
  refine B_bipush (v := 6) (by decide) (show decode cX7_init 149 = .ok (.bipush 6, 2) by decide +kernel) ?_
  refine B_newi (show decode cX7_init 151 = .ok (.newarray .int, 2) by decide +kernel) rfl wb_24 (by decide) (by decide) (Nat.le_of_ble_eq_true rfl) (Nat.le_of_ble_eq_true rfl) ?_
  show pm_B _ _ _ _ (.ref 84 :: _) 85 _ 19 773 _ _ _
  refine B_putF (ci := 7) (j := 29) (q := (RX7, TX7, 32)) (ty := (.array .int)) (show decode cX7_init 153 = .ok (.putfield 64, 3) by decide +kernel) rfl (by decide) rfl iX7 tyX7_ok nmX7 (by decide) wb_118 rfl rfl rfl (by decide +kernel) rfl (fun _ => rfl) (fun _ => rfl) (Nat.le_of_ble_eq_true rfl) ?_
  refine B_aload_n rfl rfl (show decode cX7_init 156 = .ok (.aload_n 0, 1) by decide +kernel) ?_
  refine B_bipush (v := 12) (by decide) (show decode cX7_init 157 = .ok (.bipush 12, 2) by decide +kernel) ?_
  refine B_newi (show decode cX7_init 159 = .ok (.newarray .int, 2) by decide +kernel) rfl wb_24 (by decide) (by decide) (Nat.le_of_ble_eq_true rfl) (Nat.le_of_ble_eq_true rfl) ?_
  show pm_B _ _ _ _ (.ref 85 :: _) 86 _ 20 785 _ _ _
  refine B_putF (ci := 7) (j := 30) (q := (RX7, TX7, 32)) (ty := (.array .int)) (show decode cX7_init 161 = .ok (.putfield 67, 3) by decide +kernel) rfl (by decide) rfl iX7 tyX7_ok nmX7 (by decide) wb_119 rfl rfl rfl (by decide +kernel) rfl (fun _ => rfl) (fun _ => rfl) (Nat.le_of_ble_eq_true rfl) ?_
  refine B_aload_n rfl rfl (show decode cX7_init 164 = .ok (.aload_n 0, 1) by decide +kernel) ?_
  refine B_bipush (v := 12) (by decide) (show decode cX7_init 165 = .ok (.bipush 12, 2) by decide +kernel) ?_
  refine B_newi (show decode cX7_init 167 = .ok (.newarray .int, 2) by decide +kernel) rfl wb_24 (by decide) (by decide) (Nat.le_of_ble_eq_true rfl) (Nat.le_of_ble_eq_true rfl) ?_
  show pm_B _ _ _ _ (.ref 86 :: _) 87 _ 21 797 _ _ _
  refine B_putF (ci := 7) (j := 31) (q := (RX7, TX7, 32)) (ty := (.array .int)) (show decode cX7_init 169 = .ok (.putfield 70, 3) by decide +kernel) rfl (by decide) rfl iX7 tyX7_ok nmX7 (by decide) wb_120 rfl rfl rfl (by decide +kernel) rfl (fun _ => rfl) (fun _ => rfl) (Nat.le_of_ble_eq_true rfl) ?_
  refine B_iconst (v := 0) (by decide) (show decode cX7_init 172 = .ok (.iconst 0, 1) by decide +kernel) ?_
  refine B_istore_n rfl (Nat.le_of_ble_eq_true rfl) (show decode cX7_init 173 = .ok (.istore_n 1, 1) by decide +kernel) ?_
  show pm_B _ _ _ [some (.ref 65), some (.int 0)] _ _ _ _ _ _ _ _
  refine B_iload_n rfl rfl (show decode cX7_init 174 = .ok (.iload_n 1, 1) by decide +kernel) ?_
  refine B_bipush (v := 6) (by decide) (show decode cX7_init 175 = .ok (.bipush 6, 2) by decide +kernel) ?_
  refine B_ge_f (tgt := 193) (by decide) (show decode cX7_init 177 = .ok (.if_icmp .ge 16, 3) by decide +kernel) (by decide) ?_
  refine B_aload_n rfl rfl (show decode cX7_init 180 = .ok (.aload_n 0, 1) by decide +kernel) ?_
  refine B_get (ci := 7) (j := 1) (q := (RX7, TX7, 32)) (v := .ref 67) (show decode cX7_init 181 = .ok (.getfield 13, 3) by decide +kernel) rfl (by decide) rfl iX7 (by decide) wb_101 rfl rfl (Nat.le_of_ble_eq_true rfl) ?_
  refine B_iload_n rfl rfl (show decode cX7_init 184 = .ok (.iload_n 1, 1) by decide +kernel) ?_
  refine B_iconst (v := (-1)) (by decide) (show decode cX7_init 185 = .ok (.iconst (-1), 1) by decide +kernel) ?_
  refine B_iast (show decode cX7_init 186 = .ok (.iastore, 1) by decide +kernel) rfl (show vp_in (nI 0) (pm_ln 67) from ni_in (by decide) (by decide)) (by decide) (Nat.le_of_ble_eq_true rfl) ?_
  show pm_B _ _ _ _ _ _ (stN _ 67 0) _ _ _ _ _
  refine B_iinc (n := 1) (v := 1) rfl (by decide) (show decode cX7_init 187 = .ok (.iinc 1 1, 3) by decide +kernel) ?_
  show pm_B _ _ _ [some (.ref 65), some (.int 1)] _ _ _ _ _ _ _ _
  refine B_goto (tgt := 174) (show decode cX7_init 190 = .ok (.goto (-16), 3) by decide +kernel) (by decide) ?_
  refine B_iload_n rfl rfl (show decode cX7_init 174 = .ok (.iload_n 1, 1) by decide +kernel) ?_
  refine B_bipush (v := 6) (by decide) (show decode cX7_init 175 = .ok (.bipush 6, 2) by decide +kernel) ?_
  refine B_ge_f (tgt := 193) (by decide) (show decode cX7_init 177 = .ok (.if_icmp .ge 16, 3) by decide +kernel) (by decide) ?_
  refine B_aload_n rfl rfl (show decode cX7_init 180 = .ok (.aload_n 0, 1) by decide +kernel) ?_
  refine B_get (ci := 7) (j := 1) (q := (RX7, TX7, 32)) (v := .ref 67) (show decode cX7_init 181 = .ok (.getfield 13, 3) by decide +kernel) rfl (by decide) rfl iX7 (by decide) wb_101 rfl rfl (Nat.le_of_ble_eq_true rfl) ?_
  refine B_iload_n rfl rfl (show decode cX7_init 184 = .ok (.iload_n 1, 1) by decide +kernel) ?_
  refine B_iconst (v := (-1)) (by decide) (show decode cX7_init 185 = .ok (.iconst (-1), 1) by decide +kernel) ?_
  refine B_iast (show decode cX7_init 186 = .ok (.iastore, 1) by decide +kernel) rfl (show vp_in (nI 1) (pm_ln 67) from ni_in (by decide) (by decide)) (by decide) (Nat.le_of_ble_eq_true rfl) ?_
  show pm_B _ _ _ _ _ _ (stN _ 67 1) _ _ _ _ _
  refine B_iinc (n := 1) (v := 2) rfl (by decide) (show decode cX7_init 187 = .ok (.iinc 1 1, 3) by decide +kernel) ?_
  show pm_B _ _ _ [some (.ref 65), some (.int 2)] _ _ _ _ _ _ _ _
  refine B_goto (tgt := 174) (show decode cX7_init 190 = .ok (.goto (-16), 3) by decide +kernel) (by decide) ?_
  refine B_iload_n rfl rfl (show decode cX7_init 174 = .ok (.iload_n 1, 1) by decide +kernel) ?_
  refine B_bipush (v := 6) (by decide) (show decode cX7_init 175 = .ok (.bipush 6, 2) by decide +kernel) ?_
  refine B_ge_f (tgt := 193) (by decide) (show decode cX7_init 177 = .ok (.if_icmp .ge 16, 3) by decide +kernel) (by decide) ?_
  refine B_aload_n rfl rfl (show decode cX7_init 180 = .ok (.aload_n 0, 1) by decide +kernel) ?_
  refine B_get (ci := 7) (j := 1) (q := (RX7, TX7, 32)) (v := .ref 67) (show decode cX7_init 181 = .ok (.getfield 13, 3) by decide +kernel) rfl (by decide) rfl iX7 (by decide) wb_101 rfl rfl (Nat.le_of_ble_eq_true rfl) ?_
  refine B_iload_n rfl rfl (show decode cX7_init 184 = .ok (.iload_n 1, 1) by decide +kernel) ?_
  refine B_iconst (v := (-1)) (by decide) (show decode cX7_init 185 = .ok (.iconst (-1), 1) by decide +kernel) ?_
  refine B_iast (show decode cX7_init 186 = .ok (.iastore, 1) by decide +kernel) rfl (show vp_in (nI 2) (pm_ln 67) from ni_in (by decide) (by decide)) (by decide) (Nat.le_of_ble_eq_true rfl) ?_
  show pm_B _ _ _ _ _ _ (stN _ 67 2) _ _ _ _ _
  refine B_iinc (n := 1) (v := 3) rfl (by decide) (show decode cX7_init 187 = .ok (.iinc 1 1, 3) by decide +kernel) ?_
  show pm_B _ _ _ [some (.ref 65), some (.int 3)] _ _ _ _ _ _ _ _
  refine B_goto (tgt := 174) (show decode cX7_init 190 = .ok (.goto (-16), 3) by decide +kernel) (by decide) ?_
  refine B_iload_n rfl rfl (show decode cX7_init 174 = .ok (.iload_n 1, 1) by decide +kernel) ?_
  refine B_bipush (v := 6) (by decide) (show decode cX7_init 175 = .ok (.bipush 6, 2) by decide +kernel) ?_
  refine B_ge_f (tgt := 193) (by decide) (show decode cX7_init 177 = .ok (.if_icmp .ge 16, 3) by decide +kernel) (by decide) ?_
  refine B_aload_n rfl rfl (show decode cX7_init 180 = .ok (.aload_n 0, 1) by decide +kernel) ?_
  refine B_get (ci := 7) (j := 1) (q := (RX7, TX7, 32)) (v := .ref 67) (show decode cX7_init 181 = .ok (.getfield 13, 3) by decide +kernel) rfl (by decide) rfl iX7 (by decide) wb_101 rfl rfl (Nat.le_of_ble_eq_true rfl) ?_
  refine B_iload_n rfl rfl (show decode cX7_init 184 = .ok (.iload_n 1, 1) by decide +kernel) ?_
  refine B_iconst (v := (-1)) (by decide) (show decode cX7_init 185 = .ok (.iconst (-1), 1) by decide +kernel) ?_
  refine B_iast (show decode cX7_init 186 = .ok (.iastore, 1) by decide +kernel) rfl (show vp_in (nI 3) (pm_ln 67) from ni_in (by decide) (by decide)) (by decide) (Nat.le_of_ble_eq_true rfl) ?_
  show pm_B _ _ _ _ _ _ (stN _ 67 3) _ _ _ _ _
  refine B_iinc (n := 1) (v := 4) rfl (by decide) (show decode cX7_init 187 = .ok (.iinc 1 1, 3) by decide +kernel) ?_
  show pm_B _ _ _ [some (.ref 65), some (.int 4)] _ _ _ _ _ _ _ _
  refine B_goto (tgt := 174) (show decode cX7_init 190 = .ok (.goto (-16), 3) by decide +kernel) (by decide) ?_
  refine B_iload_n rfl rfl (show decode cX7_init 174 = .ok (.iload_n 1, 1) by decide +kernel) ?_
  refine B_bipush (v := 6) (by decide) (show decode cX7_init 175 = .ok (.bipush 6, 2) by decide +kernel) ?_
  refine B_ge_f (tgt := 193) (by decide) (show decode cX7_init 177 = .ok (.if_icmp .ge 16, 3) by decide +kernel) (by decide) ?_
  refine B_aload_n rfl rfl (show decode cX7_init 180 = .ok (.aload_n 0, 1) by decide +kernel) ?_
  refine B_get (ci := 7) (j := 1) (q := (RX7, TX7, 32)) (v := .ref 67) (show decode cX7_init 181 = .ok (.getfield 13, 3) by decide +kernel) rfl (by decide) rfl iX7 (by decide) wb_101 rfl rfl (Nat.le_of_ble_eq_true rfl) ?_
  refine B_iload_n rfl rfl (show decode cX7_init 184 = .ok (.iload_n 1, 1) by decide +kernel) ?_
  refine B_iconst (v := (-1)) (by decide) (show decode cX7_init 185 = .ok (.iconst (-1), 1) by decide +kernel) ?_
  refine B_iast (show decode cX7_init 186 = .ok (.iastore, 1) by decide +kernel) rfl (show vp_in (nI 4) (pm_ln 67) from ni_in (by decide) (by decide)) (by decide) (Nat.le_of_ble_eq_true rfl) ?_
  show pm_B _ _ _ _ _ _ (stN _ 67 4) _ _ _ _ _
  refine B_iinc (n := 1) (v := 5) rfl (by decide) (show decode cX7_init 187 = .ok (.iinc 1 1, 3) by decide +kernel) ?_
  show pm_B _ _ _ [some (.ref 65), some (.int 5)] _ _ _ _ _ _ _ _
  refine B_goto (tgt := 174) (show decode cX7_init 190 = .ok (.goto (-16), 3) by decide +kernel) (by decide) ?_
  refine B_iload_n rfl rfl (show decode cX7_init 174 = .ok (.iload_n 1, 1) by decide +kernel) ?_
  refine B_bipush (v := 6) (by decide) (show decode cX7_init 175 = .ok (.bipush 6, 2) by decide +kernel) ?_
  refine B_ge_f (tgt := 193) (by decide) (show decode cX7_init 177 = .ok (.if_icmp .ge 16, 3) by decide +kernel) (by decide) ?_
  refine B_aload_n rfl rfl (show decode cX7_init 180 = .ok (.aload_n 0, 1) by decide +kernel) ?_
  refine B_get (ci := 7) (j := 1) (q := (RX7, TX7, 32)) (v := .ref 67) (show decode cX7_init 181 = .ok (.getfield 13, 3) by decide +kernel) rfl (by decide) rfl iX7 (by decide) wb_101 rfl rfl (Nat.le_of_ble_eq_true rfl) ?_
  refine B_iload_n rfl rfl (show decode cX7_init 184 = .ok (.iload_n 1, 1) by decide +kernel) ?_
  refine B_iconst (v := (-1)) (by decide) (show decode cX7_init 185 = .ok (.iconst (-1), 1) by decide +kernel) ?_
  refine B_iast (show decode cX7_init 186 = .ok (.iastore, 1) by decide +kernel) rfl (show vp_in (nI 5) (pm_ln 67) from ni_in (by decide) (by decide)) (by decide) (Nat.le_of_ble_eq_true rfl) ?_
  show pm_B _ _ _ _ _ _ (stN _ 67 5) _ _ _ _ _
  refine B_iinc (n := 1) (v := 6) rfl (by decide) (show decode cX7_init 187 = .ok (.iinc 1 1, 3) by decide +kernel) ?_
  show pm_B _ _ _ [some (.ref 65), some (.int 6)] _ _ _ _ _ _ _ _
  refine B_goto (tgt := 174) (show decode cX7_init 190 = .ok (.goto (-16), 3) by decide +kernel) (by decide) ?_
  refine B_iload_n rfl rfl (show decode cX7_init 174 = .ok (.iload_n 1, 1) by decide +kernel) ?_
  refine B_bipush (v := 6) (by decide) (show decode cX7_init 175 = .ok (.bipush 6, 2) by decide +kernel) ?_
  refine B_ge_t (tgt := 193) (by decide) (show decode cX7_init 177 = .ok (.if_icmp .ge 16, 3) by decide +kernel) (by decide) ?_
  refine B_iconst (v := 0) (by decide) (show decode cX7_init 193 = .ok (.iconst 0, 1) by decide +kernel) ?_
  refine B_istore_n rfl (Nat.le_of_ble_eq_true rfl) (show decode cX7_init 194 = .ok (.istore_n 1, 1) by decide +kernel) ?_
  show pm_B _ _ _ [some (.ref 65), some (.int 0)] _ _ _ _ _ _ _ _
  refine B_iload_n rfl rfl (show decode cX7_init 195 = .ok (.iload_n 1, 1) by decide +kernel) ?_
  refine B_iconst (v := 4) (by decide) (show decode cX7_init 196 = .ok (.iconst 4, 1) by decide +kernel) ?_
  refine B_ge_f (tgt := 213) (by decide) (show decode cX7_init 197 = .ok (.if_icmp .ge 16, 3) by decide +kernel) (by decide) ?_
  refine B_aload_n rfl rfl (show decode cX7_init 200 = .ok (.aload_n 0, 1) by decide +kernel) ?_
  refine B_get (ci := 7) (j := 3) (q := (RX7, TX7, 32)) (v := .ref 69) (show decode cX7_init 201 = .ok (.getfield 19, 3) by decide +kernel) rfl (by decide) rfl iX7 (by decide) wb_103 rfl rfl (Nat.le_of_ble_eq_true rfl) ?_
  refine B_iload_n rfl rfl (show decode cX7_init 204 = .ok (.iload_n 1, 1) by decide +kernel) ?_
  refine B_iconst (v := (-1)) (by decide) (show decode cX7_init 205 = .ok (.iconst (-1), 1) by decide +kernel) ?_
  refine B_iast (show decode cX7_init 206 = .ok (.iastore, 1) by decide +kernel) rfl (show vp_in (nI 0) (pm_ln 69) from ni_in (by decide) (by decide)) (by decide) (Nat.le_of_ble_eq_true rfl) ?_
  show pm_B _ _ _ _ _ _ (stN _ 69 0) _ _ _ _ _
  refine B_iinc (n := 1) (v := 1) rfl (by decide) (show decode cX7_init 207 = .ok (.iinc 1 1, 3) by decide +kernel) ?_
  show pm_B _ _ _ [some (.ref 65), some (.int 1)] _ _ _ _ _ _ _ _
  refine B_goto (tgt := 195) (show decode cX7_init 210 = .ok (.goto (-15), 3) by decide +kernel) (by decide) ?_
  refine B_iload_n rfl rfl (show decode cX7_init 195 = .ok (.iload_n 1, 1) by decide +kernel) ?_
  refine B_iconst (v := 4) (by decide) (show decode cX7_init 196 = .ok (.iconst 4, 1) by decide +kernel) ?_
  refine B_ge_f (tgt := 213) (by decide) (show decode cX7_init 197 = .ok (.if_icmp .ge 16, 3) by decide +kernel) (by decide) ?_
  refine B_aload_n rfl rfl (show decode cX7_init 200 = .ok (.aload_n 0, 1) by decide +kernel) ?_
  refine B_get (ci := 7) (j := 3) (q := (RX7, TX7, 32)) (v := .ref 69) (show decode cX7_init 201 = .ok (.getfield 19, 3) by decide +kernel) rfl (by decide) rfl iX7 (by decide) wb_103 rfl rfl (Nat.le_of_ble_eq_true rfl) ?_
  refine B_iload_n rfl rfl (show decode cX7_init 204 = .ok (.iload_n 1, 1) by decide +kernel) ?_
  refine B_iconst (v := (-1)) (by decide) (show decode cX7_init 205 = .ok (.iconst (-1), 1) by decide +kernel) ?_
  refine B_iast (show decode cX7_init 206 = .ok (.iastore, 1) by decide +kernel) rfl (show vp_in (nI 1) (pm_ln 69) from ni_in (by decide) (by decide)) (by decide) (Nat.le_of_ble_eq_true rfl) ?_
  show pm_B _ _ _ _ _ _ (stN _ 69 1) _ _ _ _ _
  refine B_iinc (n := 1) (v := 2) rfl (by decide) (show decode cX7_init 207 = .ok (.iinc 1 1, 3) by decide +kernel) ?_
  show pm_B _ _ _ [some (.ref 65), some (.int 2)] _ _ _ _ _ _ _ _
  refine B_goto (tgt := 195) (show decode cX7_init 210 = .ok (.goto (-15), 3) by decide +kernel) (by decide) ?_
  refine B_iload_n rfl rfl (show decode cX7_init 195 = .ok (.iload_n 1, 1) by decide +kernel) ?_
  refine B_iconst (v := 4) (by decide) (show decode cX7_init 196 = .ok (.iconst 4, 1) by decide +kernel) ?_
  refine B_ge_f (tgt := 213) (by decide) (show decode cX7_init 197 = .ok (.if_icmp .ge 16, 3) by decide +kernel) (by decide) ?_
  refine B_aload_n rfl rfl (show decode cX7_init 200 = .ok (.aload_n 0, 1) by decide +kernel) ?_
  refine B_get (ci := 7) (j := 3) (q := (RX7, TX7, 32)) (v := .ref 69) (show decode cX7_init 201 = .ok (.getfield 19, 3) by decide +kernel) rfl (by decide) rfl iX7 (by decide) wb_103 rfl rfl (Nat.le_of_ble_eq_true rfl) ?_
  refine B_iload_n rfl rfl (show decode cX7_init 204 = .ok (.iload_n 1, 1) by decide +kernel) ?_
  refine B_iconst (v := (-1)) (by decide) (show decode cX7_init 205 = .ok (.iconst (-1), 1) by decide +kernel) ?_
  refine B_iast (show decode cX7_init 206 = .ok (.iastore, 1) by decide +kernel) rfl (show vp_in (nI 2) (pm_ln 69) from ni_in (by decide) (by decide)) (by decide) (Nat.le_of_ble_eq_true rfl) ?_
  show pm_B _ _ _ _ _ _ (stN _ 69 2) _ _ _ _ _
  refine B_iinc (n := 1) (v := 3) rfl (by decide) (show decode cX7_init 207 = .ok (.iinc 1 1, 3) by decide +kernel) ?_
  show pm_B _ _ _ [some (.ref 65), some (.int 3)] _ _ _ _ _ _ _ _
  refine B_goto (tgt := 195) (show decode cX7_init 210 = .ok (.goto (-15), 3) by decide +kernel) (by decide) ?_
  refine B_iload_n rfl rfl (show decode cX7_init 195 = .ok (.iload_n 1, 1) by decide +kernel) ?_
  refine B_iconst (v := 4) (by decide) (show decode cX7_init 196 = .ok (.iconst 4, 1) by decide +kernel) ?_
  refine B_ge_f (tgt := 213) (by decide) (show decode cX7_init 197 = .ok (.if_icmp .ge 16, 3) by decide +kernel) (by decide) ?_
  refine B_aload_n rfl rfl (show decode cX7_init 200 = .ok (.aload_n 0, 1) by decide +kernel) ?_
  refine B_get (ci := 7) (j := 3) (q := (RX7, TX7, 32)) (v := .ref 69) (show decode cX7_init 201 = .ok (.getfield 19, 3) by decide +kernel) rfl (by decide) rfl iX7 (by decide) wb_103 rfl rfl (Nat.le_of_ble_eq_true rfl) ?_
  refine B_iload_n rfl rfl (show decode cX7_init 204 = .ok (.iload_n 1, 1) by decide +kernel) ?_
  refine B_iconst (v := (-1)) (by decide) (show decode cX7_init 205 = .ok (.iconst (-1), 1) by decide +kernel) ?_
  refine B_iast (show decode cX7_init 206 = .ok (.iastore, 1) by decide +kernel) rfl (show vp_in (nI 3) (pm_ln 69) from ni_in (by decide) (by decide)) (by decide) (Nat.le_of_ble_eq_true rfl) ?_
  show pm_B _ _ _ _ _ _ (stN _ 69 3) _ _ _ _ _
  refine B_iinc (n := 1) (v := 4) rfl (by decide) (show decode cX7_init 207 = .ok (.iinc 1 1, 3) by decide +kernel) ?_
  show pm_B _ _ _ [some (.ref 65), some (.int 4)] _ _ _ _ _ _ _ _
  refine B_goto (tgt := 195) (show decode cX7_init 210 = .ok (.goto (-15), 3) by decide +kernel) (by decide) ?_
  refine B_iload_n rfl rfl (show decode cX7_init 195 = .ok (.iload_n 1, 1) by decide +kernel) ?_
  refine B_iconst (v := 4) (by decide) (show decode cX7_init 196 = .ok (.iconst 4, 1) by decide +kernel) ?_
  refine B_ge_t (tgt := 213) (by decide) (show decode cX7_init 197 = .ok (.if_icmp .ge 16, 3) by decide +kernel) (by decide) ?_
  refine B_iconst (v := 0) (by decide) (show decode cX7_init 213 = .ok (.iconst 0, 1) by decide +kernel) ?_
  refine B_istore_n rfl (Nat.le_of_ble_eq_true rfl) (show decode cX7_init 214 = .ok (.istore_n 1, 1) by decide +kernel) ?_
  show pm_B _ _ _ [some (.ref 65), some (.int 0)] _ _ _ _ _ _ _ _
  refine B_iload_n rfl rfl (show decode cX7_init 215 = .ok (.iload_n 1, 1) by decide +kernel) ?_
  refine B_iconst (v := 3) (by decide) (show decode cX7_init 216 = .ok (.iconst 3, 1) by decide +kernel) ?_
  refine B_ge_f (tgt := 233) (by decide) (show decode cX7_init 217 = .ok (.if_icmp .ge 16, 3) by decide +kernel) (by decide) ?_
  refine B_aload_n rfl rfl (show decode cX7_init 220 = .ok (.aload_n 0, 1) by decide +kernel) ?_
  refine B_get (ci := 7) (j := 12) (q := (RX7, TX7, 32)) (v := .ref 76) (show decode cX7_init 221 = .ok (.getfield 40, 3) by decide +kernel) rfl (by decide) rfl iX7 (by decide) wb_110 rfl rfl (Nat.le_of_ble_eq_true rfl) ?_
  refine B_iload_n rfl rfl (show decode cX7_init 224 = .ok (.iload_n 1, 1) by decide +kernel) ?_
  refine B_iconst (v := (-1)) (by decide) (show decode cX7_init 225 = .ok (.iconst (-1), 1) by decide +kernel) ?_
  refine B_iast (show decode cX7_init 226 = .ok (.iastore, 1) by decide +kernel) rfl (show vp_in (nI 0) (pm_ln 76) from ni_in (by decide) (by decide)) (by decide) (Nat.le_of_ble_eq_true rfl) ?_
  show pm_B _ _ _ _ _ _ (stN _ 76 0) _ _ _ _ _
  refine B_iinc (n := 1) (v := 1) rfl (by decide) (show decode cX7_init 227 = .ok (.iinc 1 1, 3) by decide +kernel) ?_
  show pm_B _ _ _ [some (.ref 65), some (.int 1)] _ _ _ _ _ _ _ _
  refine B_goto (tgt := 215) (show decode cX7_init 230 = .ok (.goto (-15), 3) by decide +kernel) (by decide) ?_
  refine B_iload_n rfl rfl (show decode cX7_init 215 = .ok (.iload_n 1, 1) by decide +kernel) ?_
  refine B_iconst (v := 3) (by decide) (show decode cX7_init 216 = .ok (.iconst 3, 1) by decide +kernel) ?_
  refine B_ge_f (tgt := 233) (by decide) (show decode cX7_init 217 = .ok (.if_icmp .ge 16, 3) by decide +kernel) (by decide) ?_
  refine B_aload_n rfl rfl (show decode cX7_init 220 = .ok (.aload_n 0, 1) by decide +kernel) ?_
  refine B_get (ci := 7) (j := 12) (q := (RX7, TX7, 32)) (v := .ref 76) (show decode cX7_init 221 = .ok (.getfield 40, 3) by decide +kernel) rfl (by decide) rfl iX7 (by decide) wb_110 rfl rfl (Nat.le_of_ble_eq_true rfl) ?_
  refine B_iload_n rfl rfl (show decode cX7_init 224 = .ok (.iload_n 1, 1) by decide +kernel) ?_
  refine B_iconst (v := (-1)) (by decide) (show decode cX7_init 225 = .ok (.iconst (-1), 1) by decide +kernel) ?_
  refine B_iast (show decode cX7_init 226 = .ok (.iastore, 1) by decide +kernel) rfl (show vp_in (nI 1) (pm_ln 76) from ni_in (by decide) (by decide)) (by decide) (Nat.le_of_ble_eq_true rfl) ?_
  show pm_B _ _ _ _ _ _ (stN _ 76 1) _ _ _ _ _
  refine B_iinc (n := 1) (v := 2) rfl (by decide) (show decode cX7_init 227 = .ok (.iinc 1 1, 3) by decide +kernel) ?_
  show pm_B _ _ _ [some (.ref 65), some (.int 2)] _ _ _ _ _ _ _ _
  refine B_goto (tgt := 215) (show decode cX7_init 230 = .ok (.goto (-15), 3) by decide +kernel) (by decide) ?_
  refine B_iload_n rfl rfl (show decode cX7_init 215 = .ok (.iload_n 1, 1) by decide +kernel) ?_
  refine B_iconst (v := 3) (by decide) (show decode cX7_init 216 = .ok (.iconst 3, 1) by decide +kernel) ?_
  refine B_ge_f (tgt := 233) (by decide) (show decode cX7_init 217 = .ok (.if_icmp .ge 16, 3) by decide +kernel) (by decide) ?_
  refine B_aload_n rfl rfl (show decode cX7_init 220 = .ok (.aload_n 0, 1) by decide +kernel) ?_
  refine B_get (ci := 7) (j := 12) (q := (RX7, TX7, 32)) (v := .ref 76) (show decode cX7_init 221 = .ok (.getfield 40, 3) by decide +kernel) rfl (by decide) rfl iX7 (by decide) wb_110 rfl rfl (Nat.le_of_ble_eq_true rfl) ?_
  refine B_iload_n rfl rfl (show decode cX7_init 224 = .ok (.iload_n 1, 1) by decide +kernel) ?_
  refine B_iconst (v := (-1)) (by decide) (show decode cX7_init 225 = .ok (.iconst (-1), 1) by decide +kernel) ?_
  refine B_iast (show decode cX7_init 226 = .ok (.iastore, 1) by decide +kernel) rfl (show vp_in (nI 2) (pm_ln 76) from ni_in (by decide) (by decide)) (by decide) (Nat.le_of_ble_eq_true rfl) ?_
  show pm_B _ _ _ _ _ _ (stN _ 76 2) _ _ _ _ _
  refine B_iinc (n := 1) (v := 3) rfl (by decide) (show decode cX7_init 227 = .ok (.iinc 1 1, 3) by decide +kernel) ?_
  show pm_B _ _ _ [some (.ref 65), some (.int 3)] _ _ _ _ _ _ _ _
  refine B_goto (tgt := 215) (show decode cX7_init 230 = .ok (.goto (-15), 3) by decide +kernel) (by decide) ?_
  refine B_iload_n rfl rfl (show decode cX7_init 215 = .ok (.iload_n 1, 1) by decide +kernel) ?_
  refine B_iconst (v := 3) (by decide) (show decode cX7_init 216 = .ok (.iconst 3, 1) by decide +kernel) ?_
  refine B_ge_t (tgt := 233) (by decide) (show decode cX7_init 217 = .ok (.if_icmp .ge 16, 3) by decide +kernel) (by decide) ?_
  refine B_aload_n rfl rfl (show decode cX7_init 233 = .ok (.aload_n 0, 1) by decide +kernel) ?_
  refine B_lconst (v := 1) (by decide) (show decode cX7_init 234 = .ok (.lconst 1, 1) by decide +kernel) ?_
  refine B_put (ci := 7) (j := 21) (q := (RX7, TX7, 32)) (ty := .long) (show decode cX7_init 235 = .ok (.putfield 73, 3) by decide +kernel) rfl (by decide) rfl iX7 tyX7_ok nmX7 (by decide) wb_121 rfl (by decide +kernel) rfl (fun _ => rfl) (fun _ => rfl) (Nat.le_of_ble_eq_true rfl) ?_
  exact B_return (show decode cX7_init 238 = .ok (.return_, 1) by decide +kernel) rfl (Nat.le_of_ble_eq_true rfl) (Nat.le_of_ble_eq_true rfl) K
def nFin : Nat → Nat → Bool := (stN (stN (stN (stN (stN (stN (stN (stN (stN (stN (stN (stN (stN (stN (stN (stN (stN (stN (stN (stN (stN (stN (stN (stN (stN (stN (stN (stN (stN (stN (stN (stN (stN (stN (stN (stN (stN (stN (stN (stN (stN (stN (stN (stN (stN (stN (stN (stN (stN (stN (stN (stN (stN (stN (stN (stN (stN (stN (stN (stN (stN (stN (stN (stN (stN (stN (stN (stN (stN (stN (stN (stN (stN (stN (stN (stN (stN (stN (stN (stN (stN (stN (stN (stN (stN (stN (stN (stN (stN (stN (stN (stN (stN (stN (stN (stN (stN (stN (stN (stN (stN (stN (stN (stN (stN (stN (stN (stN (stN (stN (stN (stN (stN (stN (stN (stN (stN (stN (stN (stN (stN (stN (stN (stN (stN (stN (stN (stN (stN (stN (stN (stN (stN (stN (stN (stN (stN (stN (stN (stN (stN (stN (stN (stN (stN (stN (stN (stN (stN (stN (stN (stN (stN (stN (stN (stN (stN (stN (stN (stN (stN (stN (stN (stN (stN (stN (stN (stN (stN (stN (stN (fun _ _ => false) 0 0) 0 1) 3 0) 3 1) 3 2) 3 3) 3 4) 3 5) 0 2) 8 0) 8 1) 10 0) 10 1) 10 2) 9 0) 11 0) 11 1) 11 2) 9 1) 12 0) 12 1) 12 2) 9 2) 13 0) 13 1) 13 2) 9 3) 14 0) 14 1) 14 2) 9 4) 15 0) 15 1) 15 2) 9 5) 0 3) 16 1) 16 2) 16 3) 16 4) 16 5) 16 6) 16 7) 16 8) 16 0) 0 4) 20 1) 20 2) 20 3) 20 4) 20 5) 20 6) 20 7) 20 8) 20 0) 0 5) 0 6) 0 7) 26 0) 26 1) 26 2) 26 3) 26 4) 26 5) 26 6) 26 7) 26 8) 26 9) 26 10) 26 11) 0 8) 0 9) 0 10) 0 11) 0 12) 0 13) 33 1) 33 0) 1 0) 35 1) 35 0) 1 1) 37 1) 37 0) 1 2) 39 1) 39 0) 1 3) 41 1) 41 0) 1 4) 43 1) 43 0) 1 5) 45 1) 45 0) 2 0) 47 1) 47 0) 2 1) 49 1) 49 0) 2 2) 51 1) 51 0) 2 3) 53 1) 53 2) 53 3) 53 4) 53 5) 53 6) 53 7) 53 8) 53 0) 24 0) 57 1) 57 2) 57 3) 57 4) 57 5) 57 6) 57 7) 57 8) 57 0) 24 1) 61 1) 61 2) 61 3) 61 4) 61 5) 61 6) 61 7) 61 8) 61 0) 24 2) 65 0) 65 1) 65 2) 65 3) 65 5) 65 6) 65 7) 65 8) 65 9) 65 11) 65 12) 65 13) 65 14) 65 17) 65 18) 65 23) 65 27) 65 28) 65 29) 65 30) 65 31) 67 0) 67 1) 67 2) 67 3) 67 4) 67 5) 69 0) 69 1) 69 2) 69 3) 76 0) 76 1) 76 2) 65 21)
set_option maxRecDepth 20000 in
set_option maxHeartbeats 4000000 in
theorem b_law {d : Nat} {Q : Nat → (Nat → Nat → Bool) → Nat → List (Option Value) → Prop} (K : Q 87 nFin 16 [some (.ref 88), some (.ref 0), some (.ref 65), none]) : pm_B (d + 4) mL_law 0 [some (.ref 88), none, none, none] [] 0 (fun _ _ => false) 0 0 87 1954 Q := by
  refine B_new (ci := 6) (q := (RX6, TX6, 14)) (ty := tyX6) (show decode cL_law 0 = .ok (.new 7, 3) by decide +kernel) rfl (by decide) rfl iX6 tyX6_ok wb_122 wb_123 wb_13 (fun X j hj => fs_X6 X j hj) (Nat.le_of_ble_eq_true rfl) (Nat.le_of_ble_eq_true rfl) ?_
  show pm_B _ _ _ _ (.ref 0 :: _) 1 _ 1 14 _ _ _
  refine B_dup rfl (show decode cL_law 3 = .ok (.dup, 1) by decide +kernel) ?_
  refine B_callI (J := mX6_init) (b := 0) (mc' := 64) (ms' := 1111) wb_124 jX6_init wb_125 rfl rfl [] rfl (Nat.le_of_ble_eq_true rfl) (show decode cL_law 4 = .ok (.invokespecial 9, 3) by decide +kernel) (Nat.le_of_ble_eq_true rfl) (Nat.le_of_ble_eq_true rfl) (Nat.le_of_ble_eq_true rfl) (b_X6 ?_)
  show pm_B _ _ _ _ _ 65 _ 65 1125 _ _ _
  refine B_astore_n rfl (Nat.le_of_ble_eq_true rfl) (show decode cL_law 7 = .ok (.astore_n 1, 1) by decide +kernel) ?_
  show pm_B _ _ _ [some (.ref 88), some (.ref 0), _, _] _ _ _ _ _ _ _ _
  refine B_new (ci := 7) (q := (RX7, TX7, 32)) (ty := tyX7) (show decode cL_law 8 = .ok (.new 10, 3) by decide +kernel) rfl (by decide) rfl iX7 tyX7_ok wb_126 wb_127 wb_15 (fun X j hj => fs_X7 X j hj) (Nat.le_of_ble_eq_true rfl) (Nat.le_of_ble_eq_true rfl) ?_
  show pm_B _ _ _ _ (.ref 65 :: _) 66 _ 66 1157 _ _ _
  refine B_dup rfl (show decode cL_law 11 = .ok (.dup, 1) by decide +kernel) ?_
  refine B_callI (J := mX7_init) (b := 65) (mc' := 21) (ms' := 797) wb_128 jX7_init wb_129 rfl rfl [] rfl (Nat.le_of_ble_eq_true rfl) (show decode cL_law 12 = .ok (.invokespecial 12, 3) by decide +kernel) (Nat.le_of_ble_eq_true rfl) (Nat.le_of_ble_eq_true rfl) (Nat.le_of_ble_eq_true rfl) (b_X7 ?_)
  show pm_B _ _ _ _ _ 87 _ 87 1954 _ _ _
  refine B_astore_n rfl (Nat.le_of_ble_eq_true rfl) (show decode cL_law 15 = .ok (.astore_n 2, 1) by decide +kernel) ?_
  show pm_B _ _ _ [some (.ref 88), some (.ref 0), some (.ref 65), _] _ _ _ _ _ _ _ _
  exact B_exit (Nat.le_of_ble_eq_true rfl) (Nat.le_of_ble_eq_true rfl) K
