/-! the words: all good ones of the tables -/
def Wall : List Cond := lw_tbl.filter goodWord
theorem Wall_good : ∀ w ∈ Wall, (w.onTables && w.keeps) = true ∨ ∃ ty, w = .arrayClass ty := fun w h => good_of_word (List.mem_filter.mp h).2
theorem Wall_in {w : Cond} (h : w ∈ tables_1) (g : goodWord w = true) : w ∈ Wall := List.mem_filter.mpr ⟨List.mem_append_right _ h, g⟩
theorem Wall_sel {q : MethodName × Nat} (h : q ∈ lw_privs) (g : goodWord (Cond.selects q.1.cls q.1 q.1) = true) : Cond.selects q.1.cls q.1 q.1 ∈ Wall := List.mem_filter.mpr ⟨List.mem_append_left _ (List.mem_map.mpr ⟨q, h, rfl⟩), g⟩
theorem wt1 {w : Cond} (h : w ∈ tables_1_1) (g : goodWord w = true) : w ∈ Wall := Wall_in (show w ∈ tables_1_1 ++ (tables_1_2 ++ (tables_1_3 ++ (tables_1_4 ++ (tables_1_5 ++ tables_1_6)))) from List.mem_append_left _ h) g
theorem wt2 {w : Cond} (h : w ∈ tables_1_2) (g : goodWord w = true) : w ∈ Wall := Wall_in (show w ∈ tables_1_1 ++ (tables_1_2 ++ (tables_1_3 ++ (tables_1_4 ++ (tables_1_5 ++ tables_1_6)))) from List.mem_append_right _ (List.mem_append_left _ h)) g
theorem wt3 {w : Cond} (h : w ∈ tables_1_3) (g : goodWord w = true) : w ∈ Wall := Wall_in (show w ∈ tables_1_1 ++ (tables_1_2 ++ (tables_1_3 ++ (tables_1_4 ++ (tables_1_5 ++ tables_1_6)))) from List.mem_append_right _ (List.mem_append_right _ (List.mem_append_left _ h))) g
theorem wt4 {w : Cond} (h : w ∈ tables_1_4) (g : goodWord w = true) : w ∈ Wall := Wall_in (show w ∈ tables_1_1 ++ (tables_1_2 ++ (tables_1_3 ++ (tables_1_4 ++ (tables_1_5 ++ tables_1_6)))) from List.mem_append_right _ (List.mem_append_right _ (List.mem_append_right _ (List.mem_append_left _ h)))) g
theorem wt5 {w : Cond} (h : w ∈ tables_1_5) (g : goodWord w = true) : w ∈ Wall := Wall_in (show w ∈ tables_1_1 ++ (tables_1_2 ++ (tables_1_3 ++ (tables_1_4 ++ (tables_1_5 ++ tables_1_6)))) from List.mem_append_right _ (List.mem_append_right _ (List.mem_append_right _ (List.mem_append_right _ (List.mem_append_left _ h))))) g
theorem wt6 {w : Cond} (h : w ∈ tables_1_6) (g : goodWord w = true) : w ∈ Wall := Wall_in (show w ∈ tables_1_1 ++ (tables_1_2 ++ (tables_1_3 ++ (tables_1_4 ++ (tables_1_5 ++ tables_1_6)))) from List.mem_append_right _ (List.mem_append_right _ (List.mem_append_right _ (List.mem_append_right _ (List.mem_append_right _ (h)))))) g
theorem wn_L : Cond.initialized RL ∈ Wall := wt1 (List.mem_of_getElem? (i := 0) rfl) rfl
theorem wn_X7 : Cond.initialized RX7 ∈ Wall := wt1 (List.mem_of_getElem? (i := 1) rfl) rfl
theorem wn_X3 : Cond.initialized RX3 ∈ Wall := wt1 (List.mem_of_getElem? (i := 3) rfl) rfl
theorem wn_X2 : Cond.initialized RX2 ∈ Wall := wt1 (List.mem_of_getElem? (i := 4) rfl) rfl
theorem wn_X5 : Cond.initialized RX5 ∈ Wall := wt1 (List.mem_of_getElem? (i := 5) rfl) rfl
theorem wn_X1 : Cond.initialized RX1 ∈ Wall := wt1 (List.mem_of_getElem? (i := 6) rfl) rfl
theorem wn_X0 : Cond.initialized RX0 ∈ Wall := wt1 (List.mem_of_getElem? (i := 7) rfl) rfl
theorem wn_X4 : Cond.initialized RX4 ∈ Wall := wt1 (List.mem_of_getElem? (i := 8) rfl) rfl
theorem wn_X6 : Cond.initialized RX6 ∈ Wall := wt1 (List.mem_of_getElem? (i := 9) rfl) rfl
theorem wn_X8 : Cond.initialized RX8 ∈ Wall := wt1 (List.mem_of_getElem? (i := 10) rfl) rfl
theorem wn_J6 : Cond.initialized RJ6 ∈ Wall := wt1 (List.mem_of_getElem? (i := 15) rfl) rfl
theorem wl_L_21 : Cond.methodLink RL 21 yX7_init ∈ Wall := wt1 (List.mem_of_getElem? (i := 19) rfl) rfl
theorem wi_X7_init : Cond.instanceMethod yX7_init ∈ Wall := wt1 (List.mem_of_getElem? (i := 20) rfl) rfl
theorem wc_X7_init : Cond.code yX7_init cX7_init 4 none ∈ Wall := wt1 (List.mem_of_getElem? (i := 21) rfl) rfl
theorem wi_X3_init : Cond.instanceMethod yX3_init ∈ Wall := wt1 (List.mem_of_getElem? (i := 34) rfl) rfl
theorem wc_X3_init : Cond.code yX3_init cX3_init 2 none ∈ Wall := wt1 (List.mem_of_getElem? (i := 35) rfl) rfl
theorem wf_X3_37 : Cond.fieldLink RX3 37 "LoopReducer$Names" "mask" "I" ∈ Wall := wt1 (List.mem_of_getElem? (i := 37) rfl) rfl
theorem wf_X3_9 : Cond.fieldLink RX3 9 "LoopReducer$Names" "type" "[I" ∈ Wall := wt1 (List.mem_of_getElem? (i := 41) rfl) rfl
theorem wf_X3_15 : Cond.fieldLink RX3 15 "LoopReducer$Names" "first" "[I" ∈ Wall := wt1 (List.mem_of_getElem? (i := 46) rfl) rfl
theorem wf_X3_18 : Cond.fieldLink RX3 18 "LoopReducer$Names" "second" "[I" ∈ Wall := wt1 (List.mem_of_getElem? (i := 50) rfl) rfl
theorem wf_X3_40 : Cond.fieldLink RX3 40 "LoopReducer$Names" "size" "I" ∈ Wall := wt1 (List.mem_of_getElem? (i := 54) rfl) rfl
theorem wf_X3_47 : Cond.fieldLink RX3 47 "LoopReducer$Names" "inputs" "I" ∈ Wall := wt1 (List.mem_of_getElem? (i := 60) rfl) rfl
theorem wf_X3_50 : Cond.fieldLink RX3 50 "LoopReducer$Names" "carriers" "I" ∈ Wall := wt1 (List.mem_of_getElem? (i := 61) rfl) rfl
theorem wf_X3_67 : Cond.fieldLink RX3 67 "LoopReducer$Names" "shown" "I" ∈ Wall := wt1 (List.mem_of_getElem? (i := 63) rfl) rfl
theorem wf_X3_21 : Cond.fieldLink RX3 21 "LoopReducer$Names" "testKind" "I" ∈ Wall := wt1 (List.mem_of_getElem? (i := 66) rfl) rfl
theorem wf_X3_25 : Cond.fieldLink RX3 25 "LoopReducer$Names" "testFirst" "I" ∈ Wall := wt1 (List.mem_of_getElem? (i := 69) rfl) rfl
theorem wf_X3_28 : Cond.fieldLink RX3 28 "LoopReducer$Names" "testSecond" "I" ∈ Wall := wt1 (List.mem_of_getElem? (i := 72) rfl) rfl
theorem wf_X3_31 : Cond.fieldLink RX3 31 "LoopReducer$Names" "version" "I" ∈ Wall := wt1 (List.mem_of_getElem? (i := 75) rfl) rfl
theorem wf_X3_34 : Cond.fieldLink RX3 34 "LoopReducer$Names" "askVersion" "I" ∈ Wall := wt1 (List.mem_of_getElem? (i := 79) rfl) rfl
theorem wi_X2_init : Cond.instanceMethod yX2_init ∈ Wall := wt1 (List.mem_of_getElem? (i := 113) rfl) rfl
theorem wc_X2_init : Cond.code yX2_init cX2_init 5 none ∈ Wall := wt1 (List.mem_of_getElem? (i := 114) rfl) rfl
theorem wf_X2_24 : Cond.fieldLink RX2 24 "LoopReducer$Monomials" "mask" "I" ∈ Wall := wt1 (List.mem_of_getElem? (i := 116) rfl) rfl
theorem wf_X2_9 : Cond.fieldLink RX2 9 "LoopReducer$Monomials" "codes" "[I" ∈ Wall := wt1 (List.mem_of_getElem? (i := 117) rfl) rfl
theorem wf_X2_15 : Cond.fieldLink RX2 15 "LoopReducer$Monomials" "together" "[I" ∈ Wall := wt1 (List.mem_of_getElem? (i := 118) rfl) rfl
theorem wf_X2_18 : Cond.fieldLink RX2 18 "LoopReducer$Monomials" "places" "[I" ∈ Wall := wt1 (List.mem_of_getElem? (i := 119) rfl) rfl
theorem wf_X2_21 : Cond.fieldLink RX2 21 "LoopReducer$Monomials" "powers" "[I" ∈ Wall := wt1 (List.mem_of_getElem? (i := 121) rfl) rfl
theorem wi_X5_init : Cond.instanceMethod yX5_init ∈ Wall := wt1 (List.mem_of_getElem? (i := 136) rfl) rfl
theorem wc_X5_init : Cond.code yX5_init cX5_init 3 none ∈ Wall := wt1 (List.mem_of_getElem? (i := 137) rfl) rfl
theorem wf_X5_18 : Cond.fieldLink RX5 18 "LoopReducer$Polys" "monomials" "LLoopReducer$Monomials;" ∈ Wall := wt1 (List.mem_of_getElem? (i := 139) rfl) rfl
theorem wf_X5_22 : Cond.fieldLink RX5 22 "LoopReducer$Polys" "mask" "I" ∈ Wall := wt1 (List.mem_of_getElem? (i := 140) rfl) rfl
theorem wf_X5_9 : Cond.fieldLink RX5 9 "LoopReducer$Polys" "factors" "[I" ∈ Wall := wt1 (List.mem_of_getElem? (i := 141) rfl) rfl
theorem wf_X5_15 : Cond.fieldLink RX5 15 "LoopReducer$Polys" "sizes" "[I" ∈ Wall := wt1 (List.mem_of_getElem? (i := 142) rfl) rfl
theorem wi_X1_init : Cond.instanceMethod yX1_init ∈ Wall := wt1 (List.mem_of_getElem? (i := 156) rfl) rfl
theorem wc_X1_init : Cond.code yX1_init cX1_init 3 none ∈ Wall := wt1 (List.mem_of_getElem? (i := 157) rfl) rfl
theorem wf_X1_15 : Cond.fieldLink RX1 15 "LoopReducer$Forms" "polys" "LLoopReducer$Polys;" ∈ Wall := wt1 (List.mem_of_getElem? (i := 159) rfl) rfl
theorem wf_X1_19 : Cond.fieldLink RX1 19 "LoopReducer$Forms" "mask" "I" ∈ Wall := wt1 (List.mem_of_getElem? (i := 160) rfl) rfl
theorem wf_X1_9 : Cond.fieldLink RX1 9 "LoopReducer$Forms" "delays" "[I" ∈ Wall := wt1 (List.mem_of_getElem? (i := 161) rfl) rfl
theorem wi_X0_init : Cond.instanceMethod yX0_init ∈ Wall := wt1 (List.mem_of_getElem? (i := 174) rfl) rfl
theorem wc_X0_init : Cond.code yX0_init cX0_init 3 none ∈ Wall := wt1 (List.mem_of_getElem? (i := 175) rfl) rfl
theorem wf_X0_24 : Cond.fieldLink RX0 24 "LoopReducer$Cycles" "names" "LLoopReducer$Names;" ∈ Wall := wt1 (List.mem_of_getElem? (i := 177) rfl) rfl
theorem wf_X0_28 : Cond.fieldLink RX0 28 "LoopReducer$Cycles" "forms" "LLoopReducer$Forms;" ∈ Wall := wt1 (List.mem_of_getElem? (i := 178) rfl) rfl
theorem wf_X0_9 : Cond.fieldLink RX0 9 "LoopReducer$Cycles" "hangsOn" "[I" ∈ Wall := wt1 (List.mem_of_getElem? (i := 179) rfl) rfl
theorem wf_X0_15 : Cond.fieldLink RX0 15 "LoopReducer$Cycles" "members" "[I" ∈ Wall := wt1 (List.mem_of_getElem? (i := 180) rfl) rfl
theorem wf_X0_18 : Cond.fieldLink RX0 18 "LoopReducer$Cycles" "kinds" "[I" ∈ Wall := wt1 (List.mem_of_getElem? (i := 182) rfl) rfl
theorem wf_X0_21 : Cond.fieldLink RX0 21 "LoopReducer$Cycles" "timesCarried" "[I" ∈ Wall := wt1 (List.mem_of_getElem? (i := 186) rfl) rfl
theorem wf_X0_32 : Cond.fieldLink RX0 32 "LoopReducer$Cycles" "version" "I" ∈ Wall := wt1 (List.mem_of_getElem? (i := 187) rfl) rfl
theorem wi_X4_init : Cond.instanceMethod yX4_init ∈ Wall := wt1 (List.mem_of_getElem? (i := 206) rfl) rfl
theorem wc_X4_init : Cond.code yX4_init cX4_init 4 none ∈ Wall := wt1 (List.mem_of_getElem? (i := 207) rfl) rfl
theorem wf_X4_24 : Cond.fieldLink RX4 24 "LoopReducer$Plan" "names" "LLoopReducer$Names;" ∈ Wall := wt1 (List.mem_of_getElem? (i := 209) rfl) rfl
theorem wf_X4_28 : Cond.fieldLink RX4 28 "LoopReducer$Plan" "cycles" "LLoopReducer$Cycles;" ∈ Wall := wt1 (List.mem_of_getElem? (i := 210) rfl) rfl
theorem wf_X4_32 : Cond.fieldLink RX4 32 "LoopReducer$Plan" "forms" "LLoopReducer$Forms;" ∈ Wall := wt1 (List.mem_of_getElem? (i := 211) rfl) rfl
theorem wf_X4_55 : Cond.fieldLink RX4 55 "LoopReducer$Plan" "neededNames" "I" ∈ Wall := wt1 (List.mem_of_getElem? (i := 212) rfl) rfl
theorem wf_X4_58 : Cond.fieldLink RX4 58 "LoopReducer$Plan" "cells" "I" ∈ Wall := wt1 (List.mem_of_getElem? (i := 215) rfl) rfl
theorem wf_X4_9 : Cond.fieldLink RX4 9 "LoopReducer$Plan" "owner" "[I" ∈ Wall := wt1 (List.mem_of_getElem? (i := 218) rfl) rfl
theorem wf_X4_15 : Cond.fieldLink RX4 15 "LoopReducer$Plan" "without" "[I" ∈ Wall := wt1 (List.mem_of_getElem? (i := 221) rfl) rfl
theorem wf_X4_18 : Cond.fieldLink RX4 18 "LoopReducer$Plan" "behind" "[I" ∈ Wall := wt1 (List.mem_of_getElem? (i := 223) rfl) rfl
theorem wf_X4_21 : Cond.fieldLink RX4 21 "LoopReducer$Plan" "cellOf" "[I" ∈ Wall := wt1 (List.mem_of_getElem? (i := 226) rfl) rfl
theorem wf_X4_36 : Cond.fieldLink RX4 36 "LoopReducer$Plan" "version" "I" ∈ Wall := wt1 (List.mem_of_getElem? (i := 228) rfl) rfl
theorem wf_X4_43 : Cond.fieldLink RX4 43 "LoopReducer$Plan" "askVersion" "I" ∈ Wall := wt1 (List.mem_of_getElem? (i := 229) rfl) rfl
theorem wi_X6_init : Cond.instanceMethod yX6_init ∈ Wall := wt2 (List.mem_of_getElem? (i := 16) rfl) rfl
theorem wc_X6_init : Cond.code yX6_init cX6_init 5 none ∈ Wall := wt2 (List.mem_of_getElem? (i := 17) rfl) rfl
theorem wf_X6_30 : Cond.fieldLink RX6 30 "LoopReducer$Runner" "names" "LLoopReducer$Names;" ∈ Wall := wt2 (List.mem_of_getElem? (i := 19) rfl) rfl
theorem wf_X6_34 : Cond.fieldLink RX6 34 "LoopReducer$Runner" "cycles" "LLoopReducer$Cycles;" ∈ Wall := wt2 (List.mem_of_getElem? (i := 20) rfl) rfl
theorem wf_X6_38 : Cond.fieldLink RX6 38 "LoopReducer$Runner" "plan" "LLoopReducer$Plan;" ∈ Wall := wt2 (List.mem_of_getElem? (i := 21) rfl) rfl
theorem wf_X6_42 : Cond.fieldLink RX6 42 "LoopReducer$Runner" "forms" "LLoopReducer$Forms;" ∈ Wall := wt2 (List.mem_of_getElem? (i := 22) rfl) rfl
theorem wf_X6_9 : Cond.fieldLink RX6 9 "LoopReducer$Runner" "given" "[I" ∈ Wall := wt2 (List.mem_of_getElem? (i := 23) rfl) rfl
theorem wf_X6_15 : Cond.fieldLink RX6 15 "LoopReducer$Runner" "now" "[I" ∈ Wall := wt2 (List.mem_of_getElem? (i := 24) rfl) rfl
theorem wf_X6_18 : Cond.fieldLink RX6 18 "LoopReducer$Runner" "before" "[I" ∈ Wall := wt2 (List.mem_of_getElem? (i := 25) rfl) rfl
theorem wf_X6_21 : Cond.fieldLink RX6 21 "LoopReducer$Runner" "cellNow" "[I" ∈ Wall := wt2 (List.mem_of_getElem? (i := 26) rfl) rfl
theorem wf_X6_24 : Cond.fieldLink RX6 24 "LoopReducer$Runner" "cellStep" "[I" ∈ Wall := wt2 (List.mem_of_getElem? (i := 27) rfl) rfl
theorem wf_X6_27 : Cond.fieldLink RX6 27 "LoopReducer$Runner" "seenNumbers" "[I" ∈ Wall := wt2 (List.mem_of_getElem? (i := 28) rfl) rfl
theorem wf_X6_75 : Cond.fieldLink RX6 75 "LoopReducer$Runner" "seenAmount" "I" ∈ Wall := wt2 (List.mem_of_getElem? (i := 30) rfl) rfl
theorem wf_X7_23 : Cond.fieldLink RX7 23 "LoopReducer" "names" "LLoopReducer$Names;" ∈ Wall := wt2 (List.mem_of_getElem? (i := 55) rfl) rfl
theorem wf_X7_30 : Cond.fieldLink RX7 30 "LoopReducer" "monomials" "LLoopReducer$Monomials;" ∈ Wall := wt2 (List.mem_of_getElem? (i := 56) rfl) rfl
theorem wf_X7_39 : Cond.fieldLink RX7 39 "LoopReducer" "polys" "LLoopReducer$Polys;" ∈ Wall := wt2 (List.mem_of_getElem? (i := 57) rfl) rfl
theorem wf_X7_48 : Cond.fieldLink RX7 48 "LoopReducer" "forms" "LLoopReducer$Forms;" ∈ Wall := wt2 (List.mem_of_getElem? (i := 58) rfl) rfl
theorem wf_X7_57 : Cond.fieldLink RX7 57 "LoopReducer" "cycles" "LLoopReducer$Cycles;" ∈ Wall := wt2 (List.mem_of_getElem? (i := 59) rfl) rfl
theorem wf_X7_66 : Cond.fieldLink RX7 66 "LoopReducer" "plan" "LLoopReducer$Plan;" ∈ Wall := wt2 (List.mem_of_getElem? (i := 60) rfl) rfl
theorem wf_X7_75 : Cond.fieldLink RX7 75 "LoopReducer" "runner" "LLoopReducer$Runner;" ∈ Wall := wt2 (List.mem_of_getElem? (i := 61) rfl) rfl
theorem wl_L_27 : Cond.methodLink RL 27 yX7_number ∈ Wall := wt2 (List.mem_of_getElem? (i := 77) rfl) rfl
theorem wi_X7_number : Cond.instanceMethod yX7_number ∈ Wall := wt2 (List.mem_of_getElem? (i := 78) rfl) rfl
theorem wz_X7_number : Cond.selects RX7 yX7_number yX7_number ∈ Wall := wt2 (List.mem_of_getElem? (i := 79) rfl) rfl
theorem wc_X7_number : Cond.code yX7_number cX7_number 2 (some .int) ∈ Wall := wt2 (List.mem_of_getElem? (i := 80) rfl) rfl
theorem wi_X3_add : Cond.instanceMethod yX3_add ∈ Wall := wt2 (List.mem_of_getElem? (i := 83) rfl) rfl
theorem wc_X3_add : Cond.code yX3_add cX3_add 4 (some .int) ∈ Wall := wt2 (List.mem_of_getElem? (i := 84) rfl) rfl
theorem wl_L_32 : Cond.methodLink RL 32 yX7_input ∈ Wall := wt2 (List.mem_of_getElem? (i := 85) rfl) rfl
theorem wi_X7_input : Cond.instanceMethod yX7_input ∈ Wall := wt2 (List.mem_of_getElem? (i := 86) rfl) rfl
theorem wz_X7_input : Cond.selects RX7 yX7_input yX7_input ∈ Wall := wt2 (List.mem_of_getElem? (i := 87) rfl) rfl
theorem wc_X7_input : Cond.code yX7_input cX7_input 1 (some .int) ∈ Wall := wt2 (List.mem_of_getElem? (i := 88) rfl) rfl
theorem wl_L_37 : Cond.methodLink RL 37 yX7_carried ∈ Wall := wt2 (List.mem_of_getElem? (i := 89) rfl) rfl
theorem wi_X7_carried : Cond.instanceMethod yX7_carried ∈ Wall := wt2 (List.mem_of_getElem? (i := 90) rfl) rfl
theorem wz_X7_carried : Cond.selects RX7 yX7_carried yX7_carried ∈ Wall := wt2 (List.mem_of_getElem? (i := 91) rfl) rfl
theorem wc_X7_carried : Cond.code yX7_carried cX7_carried 2 (some .int) ∈ Wall := wt2 (List.mem_of_getElem? (i := 92) rfl) rfl
theorem wi_X3_isOf : Cond.instanceMethod yX3_isOf ∈ Wall := wt2 (List.mem_of_getElem? (i := 95) rfl) rfl
theorem wc_X3_isOf : Cond.code yX3_isOf cX3_isOf 3 (some .boolean) ∈ Wall := wt2 (List.mem_of_getElem? (i := 96) rfl) rfl
theorem wl_X3_43 : Cond.methodLink RX3 43 yX3_has ∈ Wall := wt2 (List.mem_of_getElem? (i := 97) rfl) rfl
theorem wi_X3_has : Cond.instanceMethod yX3_has ∈ Wall := wt2 (List.mem_of_getElem? (i := 99) rfl) rfl
theorem wc_X3_has : Cond.code yX3_has cX3_has 2 (some .boolean) ∈ Wall := wt2 (List.mem_of_getElem? (i := 100) rfl) rfl
theorem wl_L_41 : Cond.methodLink RL 41 yX7_op ∈ Wall := wt2 (List.mem_of_getElem? (i := 101) rfl) rfl
theorem wi_X7_op : Cond.instanceMethod yX7_op ∈ Wall := wt2 (List.mem_of_getElem? (i := 102) rfl) rfl
theorem wz_X7_op : Cond.selects RX7 yX7_op yX7_op ∈ Wall := wt2 (List.mem_of_getElem? (i := 103) rfl) rfl
theorem wc_X7_op : Cond.code yX7_op cX7_op 4 (some .int) ∈ Wall := wt2 (List.mem_of_getElem? (i := 104) rfl) rfl
theorem wl_L_46 : Cond.methodLink RL 46 yX7_next ∈ Wall := wt2 (List.mem_of_getElem? (i := 106) rfl) rfl
theorem wi_X7_next : Cond.instanceMethod yX7_next ∈ Wall := wt2 (List.mem_of_getElem? (i := 107) rfl) rfl
theorem wz_X7_next : Cond.selects RX7 yX7_next yX7_next ∈ Wall := wt2 (List.mem_of_getElem? (i := 108) rfl) rfl
theorem wc_X7_next : Cond.code yX7_next cX7_next 3 (some .boolean) ∈ Wall := wt2 (List.mem_of_getElem? (i := 109) rfl) rfl
theorem wl_L_51 : Cond.methodLink RL 51 yX7_pop ∈ Wall := wt2 (List.mem_of_getElem? (i := 110) rfl) rfl
theorem wi_X7_pop : Cond.instanceMethod yX7_pop ∈ Wall := wt2 (List.mem_of_getElem? (i := 111) rfl) rfl
theorem wz_X7_pop : Cond.selects RX7 yX7_pop yX7_pop ∈ Wall := wt2 (List.mem_of_getElem? (i := 112) rfl) rfl
theorem wc_X7_pop : Cond.code yX7_pop cX7_pop 1 (some .int) ∈ Wall := wt2 (List.mem_of_getElem? (i := 113) rfl) rfl
theorem wi_X3_takeLast : Cond.instanceMethod yX3_takeLast ∈ Wall := wt2 (List.mem_of_getElem? (i := 116) rfl) rfl
theorem wc_X3_takeLast : Cond.code yX3_takeLast cX3_takeLast 2 (some .int) ∈ Wall := wt2 (List.mem_of_getElem? (i := 117) rfl) rfl
theorem wl_X3_53 : Cond.methodLink RX3 53 yX3_isAsked ∈ Wall := wt2 (List.mem_of_getElem? (i := 118) rfl) rfl
theorem wi_X3_isAsked : Cond.instanceMethod yX3_isAsked ∈ Wall := wt2 (List.mem_of_getElem? (i := 120) rfl) rfl
theorem wc_X3_isAsked : Cond.code yX3_isAsked cX3_isAsked 2 (some .boolean) ∈ Wall := wt2 (List.mem_of_getElem? (i := 121) rfl) rfl
theorem wl_X3_59 : Cond.methodLink RX3 59 yX3_asked ∈ Wall := wt2 (List.mem_of_getElem? (i := 122) rfl) rfl
theorem wi_X3_asked : Cond.instanceMethod yX3_asked ∈ Wall := wt2 (List.mem_of_getElem? (i := 124) rfl) rfl
theorem wc_X3_asked : Cond.code yX3_asked cX3_asked 1 (some .int) ∈ Wall := wt2 (List.mem_of_getElem? (i := 125) rfl) rfl
theorem ws_X7_isIn : Cond.static yX7_isIn ∈ Wall := wt2 (List.mem_of_getElem? (i := 127) rfl) rfl
theorem wc_X7_isIn : Cond.code yX7_isIn cX7_isIn 2 (some .boolean) ∈ Wall := wt2 (List.mem_of_getElem? (i := 128) rfl) rfl
theorem wl_X3_56 : Cond.methodLink RX3 56 yX3_isUsed ∈ Wall := wt2 (List.mem_of_getElem? (i := 129) rfl) rfl
theorem wi_X3_isUsed : Cond.instanceMethod yX3_isUsed ∈ Wall := wt2 (List.mem_of_getElem? (i := 131) rfl) rfl
theorem wc_X3_isUsed : Cond.code yX3_isUsed cX3_isUsed 3 (some .boolean) ∈ Wall := wt2 (List.mem_of_getElem? (i := 132) rfl) rfl
theorem wl_X3_70 : Cond.methodLink RX3 70 yX3_usesIt ∈ Wall := wt2 (List.mem_of_getElem? (i := 133) rfl) rfl
theorem wi_X3_usesIt : Cond.instanceMethod yX3_usesIt ∈ Wall := wt2 (List.mem_of_getElem? (i := 135) rfl) rfl
theorem wc_X3_usesIt : Cond.code yX3_usesIt cX3_usesIt 3 (some .boolean) ∈ Wall := wt2 (List.mem_of_getElem? (i := 136) rfl) rfl
theorem wl_L_55 : Cond.methodLink RL 55 yX7_test ∈ Wall := wt2 (List.mem_of_getElem? (i := 137) rfl) rfl
theorem wi_X7_test : Cond.instanceMethod yX7_test ∈ Wall := wt2 (List.mem_of_getElem? (i := 138) rfl) rfl
theorem wz_X7_test : Cond.selects RX7 yX7_test yX7_test ∈ Wall := wt2 (List.mem_of_getElem? (i := 139) rfl) rfl
theorem wc_X7_test : Cond.code yX7_test cX7_test 4 (some .boolean) ∈ Wall := wt2 (List.mem_of_getElem? (i := 140) rfl) rfl
theorem wl_L_60 : Cond.methodLink RL 60 yX7_show ∈ Wall := wt2 (List.mem_of_getElem? (i := 141) rfl) rfl
theorem wi_X7_show : Cond.instanceMethod yX7_show ∈ Wall := wt2 (List.mem_of_getElem? (i := 142) rfl) rfl
theorem wz_X7_show : Cond.selects RX7 yX7_show yX7_show ∈ Wall := wt2 (List.mem_of_getElem? (i := 143) rfl) rfl
theorem wc_X7_show : Cond.code yX7_show cX7_show 3 (some .boolean) ∈ Wall := wt2 (List.mem_of_getElem? (i := 144) rfl) rfl
theorem wl_X7_127 : Cond.methodLink RX7 127 yX7_isIn ∈ Wall := wt2 (List.mem_of_getElem? (i := 145) rfl) rfl
theorem wl_L_65 : Cond.methodLink RL 65 yX7_count ∈ Wall := wt2 (List.mem_of_getElem? (i := 146) rfl) rfl
theorem wi_X7_count : Cond.instanceMethod yX7_count ∈ Wall := wt2 (List.mem_of_getElem? (i := 147) rfl) rfl
theorem wz_X7_count : Cond.selects RX7 yX7_count yX7_count ∈ Wall := wt2 (List.mem_of_getElem? (i := 148) rfl) rfl
theorem wc_X7_count : Cond.code yX7_count cX7_count 2 (some .int) ∈ Wall := wt2 (List.mem_of_getElem? (i := 149) rfl) rfl
theorem wl_L_76 : Cond.methodLink RL 76 yX7_cycle ∈ Wall := wt2 (List.mem_of_getElem? (i := 150) rfl) rfl
theorem wi_X7_cycle : Cond.instanceMethod yX7_cycle ∈ Wall := wt2 (List.mem_of_getElem? (i := 151) rfl) rfl
theorem wz_X7_cycle : Cond.selects RX7 yX7_cycle yX7_cycle ∈ Wall := wt2 (List.mem_of_getElem? (i := 152) rfl) rfl
theorem wc_X7_cycle : Cond.code yX7_cycle cX7_cycle 2 (some .int) ∈ Wall := wt2 (List.mem_of_getElem? (i := 153) rfl) rfl
theorem wi_X0_refresh : Cond.instanceMethod yX0_refresh ∈ Wall := wt2 (List.mem_of_getElem? (i := 156) rfl) rfl
theorem wc_X0_refresh : Cond.code yX0_refresh cX0_refresh 5 none ∈ Wall := wt2 (List.mem_of_getElem? (i := 157) rfl) rfl
theorem wl_X0_39 : Cond.methodLink RX0 39 yX0_findMembers ∈ Wall := wt2 (List.mem_of_getElem? (i := 158) rfl) rfl
theorem wi_X0_findMembers : Cond.instanceMethod yX0_findMembers ∈ Wall := wt2 (List.mem_of_getElem? (i := 160) rfl) rfl
theorem wc_X0_findMembers : Cond.code yX0_findMembers cX0_findMembers 3 none ∈ Wall := wt2 (List.mem_of_getElem? (i := 161) rfl) rfl
theorem wi_X3_parts : Cond.instanceMethod yX3_parts ∈ Wall := wt2 (List.mem_of_getElem? (i := 164) rfl) rfl
theorem wc_X3_parts : Cond.code yX3_parts cX3_parts 2 (some .int) ∈ Wall := wt2 (List.mem_of_getElem? (i := 165) rfl) rfl
theorem wl_X3_73 : Cond.methodLink RX3 73 yX3_isMade ∈ Wall := wt2 (List.mem_of_getElem? (i := 166) rfl) rfl
theorem wi_X3_isMade : Cond.instanceMethod yX3_isMade ∈ Wall := wt2 (List.mem_of_getElem? (i := 168) rfl) rfl
theorem wc_X3_isMade : Cond.code yX3_isMade cX3_isMade 2 (some .boolean) ∈ Wall := wt2 (List.mem_of_getElem? (i := 169) rfl) rfl
theorem wl_X0_49 : Cond.methodLink RX0 49 yX0_settleCycle ∈ Wall := wt2 (List.mem_of_getElem? (i := 171) rfl) rfl
theorem wi_X0_settleCycle : Cond.instanceMethod yX0_settleCycle ∈ Wall := wt2 (List.mem_of_getElem? (i := 173) rfl) rfl
theorem wc_X0_settleCycle : Cond.code yX0_settleCycle cX0_settleCycle 6 none ∈ Wall := wt2 (List.mem_of_getElem? (i := 174) rfl) rfl
theorem wl_X0_68 : Cond.methodLink RX0 68 yX0_settleTurning ∈ Wall := wt2 (List.mem_of_getElem? (i := 175) rfl) rfl
theorem wi_X0_settleTurning : Cond.instanceMethod yX0_settleTurning ∈ Wall := wt2 (List.mem_of_getElem? (i := 177) rfl) rfl
theorem wc_X0_settleTurning : Cond.code yX0_settleTurning cX0_settleTurning 5 none ∈ Wall := wt2 (List.mem_of_getElem? (i := 178) rfl) rfl
theorem wi_X1_clear : Cond.instanceMethod yX1_clear ∈ Wall := wt2 (List.mem_of_getElem? (i := 181) rfl) rfl
theorem wc_X1_clear : Cond.code yX1_clear cX1_clear 3 none ∈ Wall := wt2 (List.mem_of_getElem? (i := 182) rfl) rfl
theorem wi_X5_clear : Cond.instanceMethod yX5_clear ∈ Wall := wt2 (List.mem_of_getElem? (i := 185) rfl) rfl
theorem wc_X5_clear : Cond.code yX5_clear cX5_clear 3 none ∈ Wall := wt2 (List.mem_of_getElem? (i := 186) rfl) rfl
theorem wl_X0_124 : Cond.methodLink RX0 124 yX0_weigh ∈ Wall := wt2 (List.mem_of_getElem? (i := 187) rfl) rfl
theorem wi_X0_weigh : Cond.instanceMethod yX0_weigh ∈ Wall := wt2 (List.mem_of_getElem? (i := 189) rfl) rfl
theorem wc_X0_weigh : Cond.code yX0_weigh cX0_weigh 8 (some .boolean) ∈ Wall := wt2 (List.mem_of_getElem? (i := 190) rfl) rfl
theorem wl_X0_130 : Cond.methodLink RX0 130 yX0_mayStandIn ∈ Wall := wt2 (List.mem_of_getElem? (i := 191) rfl) rfl
theorem wi_X0_mayStandIn : Cond.instanceMethod yX0_mayStandIn ∈ Wall := wt2 (List.mem_of_getElem? (i := 193) rfl) rfl
theorem wc_X0_mayStandIn : Cond.code yX0_mayStandIn cX0_mayStandIn 3 (some .boolean) ∈ Wall := wt2 (List.mem_of_getElem? (i := 194) rfl) rfl
theorem wl_X0_133 : Cond.methodLink RX0 133 yX0_weight ∈ Wall := wt2 (List.mem_of_getElem? (i := 195) rfl) rfl
theorem wi_X0_weight : Cond.instanceMethod yX0_weight ∈ Wall := wt2 (List.mem_of_getElem? (i := 197) rfl) rfl
theorem wc_X0_weight : Cond.code yX0_weight cX0_weight 3 (some .int) ∈ Wall := wt2 (List.mem_of_getElem? (i := 198) rfl) rfl
theorem wi_X1_putSum : Cond.instanceMethod yX1_putSum ∈ Wall := wt2 (List.mem_of_getElem? (i := 201) rfl) rfl
theorem wc_X1_putSum : Cond.code yX1_putSum cX1_putSum 6 none ∈ Wall := wt2 (List.mem_of_getElem? (i := 202) rfl) rfl
theorem wi_X5_putSum : Cond.instanceMethod yX5_putSum ∈ Wall := wt2 (List.mem_of_getElem? (i := 205) rfl) rfl
theorem wc_X5_putSum : Cond.code yX5_putSum cX5_putSum 10 none ∈ Wall := wt2 (List.mem_of_getElem? (i := 206) rfl) rfl
theorem wi_X1_putTimes : Cond.instanceMethod yX1_putTimes ∈ Wall := wt2 (List.mem_of_getElem? (i := 210) rfl) rfl
theorem wc_X1_putTimes : Cond.code yX1_putTimes cX1_putTimes 5 none ∈ Wall := wt2 (List.mem_of_getElem? (i := 211) rfl) rfl
theorem wi_X1_degree : Cond.instanceMethod yX1_degree ∈ Wall := wt2 (List.mem_of_getElem? (i := 214) rfl) rfl
theorem wc_X1_degree : Cond.code yX1_degree cX1_degree 3 (some .int) ∈ Wall := wt2 (List.mem_of_getElem? (i := 215) rfl) rfl
theorem wi_X1_putAddedUp : Cond.instanceMethod yX1_putAddedUp ∈ Wall := wt2 (List.mem_of_getElem? (i := 218) rfl) rfl
theorem wc_X1_putAddedUp : Cond.code yX1_putAddedUp cX1_putAddedUp 5 none ∈ Wall := wt2 (List.mem_of_getElem? (i := 219) rfl) rfl
theorem wl_X0_95 : Cond.methodLink RX0 95 yX0_settleLater ∈ Wall := wt2 (List.mem_of_getElem? (i := 220) rfl) rfl
theorem wi_X0_settleLater : Cond.instanceMethod yX0_settleLater ∈ Wall := wt2 (List.mem_of_getElem? (i := 222) rfl) rfl
theorem wc_X0_settleLater : Cond.code yX0_settleLater cX0_settleLater 4 none ∈ Wall := wt2 (List.mem_of_getElem? (i := 223) rfl) rfl
theorem wi_X1_isThere : Cond.instanceMethod yX1_isThere ∈ Wall := wt2 (List.mem_of_getElem? (i := 226) rfl) rfl
theorem wc_X1_isThere : Cond.code yX1_isThere cX1_isThere 2 (some .boolean) ∈ Wall := wt2 (List.mem_of_getElem? (i := 227) rfl) rfl
theorem wi_X1_putLater : Cond.instanceMethod yX1_putLater ∈ Wall := wt2 (List.mem_of_getElem? (i := 230) rfl) rfl
theorem wc_X1_putLater : Cond.code yX1_putLater cX1_putLater 6 none ∈ Wall := wt2 (List.mem_of_getElem? (i := 231) rfl) rfl
theorem wi_X1_startsAlike : Cond.instanceMethod yX1_startsAlike ∈ Wall := wt2 (List.mem_of_getElem? (i := 234) rfl) rfl
theorem wc_X1_startsAlike : Cond.code yX1_startsAlike cX1_startsAlike 3 (some .boolean) ∈ Wall := wt2 (List.mem_of_getElem? (i := 235) rfl) rfl
theorem wi_X5_isSame : Cond.instanceMethod yX5_isSame ∈ Wall := wt2 (List.mem_of_getElem? (i := 238) rfl) rfl
theorem wc_X5_isSame : Cond.code yX5_isSame cX5_isSame 4 (some .boolean) ∈ Wall := wt2 (List.mem_of_getElem? (i := 239) rfl) rfl
theorem wl_X0_72 : Cond.methodLink RX0 72 yX0_setKinds ∈ Wall := wt3 (List.mem_of_getElem? (i := 0) rfl) rfl
theorem wi_X0_setKinds : Cond.instanceMethod yX0_setKinds ∈ Wall := wt3 (List.mem_of_getElem? (i := 2) rfl) rfl
theorem wc_X0_setKinds : Cond.code yX0_setKinds cX0_setKinds 4 none ∈ Wall := wt3 (List.mem_of_getElem? (i := 3) rfl) rfl
theorem wl_X0_53 : Cond.methodLink RX0 53 yX0_settleAlone ∈ Wall := wt3 (List.mem_of_getElem? (i := 4) rfl) rfl
theorem wi_X0_settleAlone : Cond.instanceMethod yX0_settleAlone ∈ Wall := wt3 (List.mem_of_getElem? (i := 6) rfl) rfl
theorem wc_X0_settleAlone : Cond.code yX0_settleAlone cX0_settleAlone 2 none ∈ Wall := wt3 (List.mem_of_getElem? (i := 7) rfl) rfl
theorem wi_X1_putOne : Cond.instanceMethod yX1_putOne ∈ Wall := wt3 (List.mem_of_getElem? (i := 10) rfl) rfl
theorem wc_X1_putOne : Cond.code yX1_putOne cX1_putOne 4 none ∈ Wall := wt3 (List.mem_of_getElem? (i := 11) rfl) rfl
theorem wl_X1_32 : Cond.methodLink RX1 32 yX1_clear ∈ Wall := wt3 (List.mem_of_getElem? (i := 12) rfl) rfl
theorem wi_X5_putOne : Cond.instanceMethod yX5_putOne ∈ Wall := wt3 (List.mem_of_getElem? (i := 15) rfl) rfl
theorem wc_X5_putOne : Cond.code yX5_putOne cX5_putOne 5 none ∈ Wall := wt3 (List.mem_of_getElem? (i := 16) rfl) rfl
theorem wl_X5_26 : Cond.methodLink RX5 26 yX5_clear ∈ Wall := wt3 (List.mem_of_getElem? (i := 17) rfl) rfl
theorem wl_X0_89 : Cond.methodLink RX0 89 yX0_codeOfInput ∈ Wall := wt3 (List.mem_of_getElem? (i := 18) rfl) rfl
theorem ws_X0_codeOfInput : Cond.static yX0_codeOfInput ∈ Wall := wt3 (List.mem_of_getElem? (i := 19) rfl) rfl
theorem wc_X0_codeOfInput : Cond.code yX0_codeOfInput cX0_codeOfInput 1 (some .int) ∈ Wall := wt3 (List.mem_of_getElem? (i := 20) rfl) rfl
theorem wl_X0_98 : Cond.methodLink RX0 98 yX0_settleMade ∈ Wall := wt3 (List.mem_of_getElem? (i := 21) rfl) rfl
theorem wi_X0_settleMade : Cond.instanceMethod yX0_settleMade ∈ Wall := wt3 (List.mem_of_getElem? (i := 23) rfl) rfl
theorem wc_X0_settleMade : Cond.code yX0_settleMade cX0_settleMade 4 none ∈ Wall := wt3 (List.mem_of_getElem? (i := 24) rfl) rfl
theorem wi_X1_putProduct : Cond.instanceMethod yX1_putProduct ∈ Wall := wt3 (List.mem_of_getElem? (i := 27) rfl) rfl
theorem wc_X1_putProduct : Cond.code yX1_putProduct cX1_putProduct 11 (some .boolean) ∈ Wall := wt3 (List.mem_of_getElem? (i := 28) rfl) rfl
theorem wl_X1_41 : Cond.methodLink RX1 41 yX1_degree ∈ Wall := wt3 (List.mem_of_getElem? (i := 29) rfl) rfl
theorem wi_X5_addProduct : Cond.instanceMethod yX5_addProduct ∈ Wall := wt3 (List.mem_of_getElem? (i := 34) rfl) rfl
theorem wc_X5_addProduct : Cond.code yX5_addProduct cX5_addProduct 11 (some .boolean) ∈ Wall := wt3 (List.mem_of_getElem? (i := 35) rfl) rfl
theorem wi_X2_placeOfProduct : Cond.instanceMethod yX2_placeOfProduct ∈ Wall := wt3 (List.mem_of_getElem? (i := 38) rfl) rfl
theorem wc_X2_placeOfProduct : Cond.code yX2_placeOfProduct cX2_placeOfProduct 3 (some .int) ∈ Wall := wt3 (List.mem_of_getElem? (i := 39) rfl) rfl
theorem wl_X5_44 : Cond.methodLink RX5 44 yX5_trim ∈ Wall := wt3 (List.mem_of_getElem? (i := 40) rfl) rfl
theorem wi_X5_trim : Cond.instanceMethod yX5_trim ∈ Wall := wt3 (List.mem_of_getElem? (i := 42) rfl) rfl
theorem wc_X5_trim : Cond.code yX5_trim cX5_trim 3 none ∈ Wall := wt3 (List.mem_of_getElem? (i := 43) rfl) rfl
theorem wl_L_80 : Cond.methodLink RL 80 yX7_form ∈ Wall := wt3 (List.mem_of_getElem? (i := 45) rfl) rfl
theorem wi_X7_form : Cond.instanceMethod yX7_form ∈ Wall := wt3 (List.mem_of_getElem? (i := 46) rfl) rfl
theorem wz_X7_form : Cond.selects RX7 yX7_form yX7_form ∈ Wall := wt3 (List.mem_of_getElem? (i := 47) rfl) rfl
theorem wc_X7_form : Cond.code yX7_form cX7_form 4 (some .int) ∈ Wall := wt3 (List.mem_of_getElem? (i := 48) rfl) rfl
theorem wl_X7_165 : Cond.methodLink RX7 165 yJ6_bitCount_0f7a4 ∈ Wall := wt3 (List.mem_of_getElem? (i := 51) rfl) rfl
theorem ws_J6_bitCount_0f7a4 : Cond.static yJ6_bitCount_0f7a4 ∈ Wall := wt3 (List.mem_of_getElem? (i := 52) rfl) rfl
theorem wc_J6_bitCount_0f7a4 : Cond.code yJ6_bitCount_0f7a4 cJ6_bitCount_0f7a4 1 (some .int) ∈ Wall := wt3 (List.mem_of_getElem? (i := 53) rfl) rfl
theorem wk_J6_265 : Cond.constant RJ6 265 (1431655765) ∈ Wall := wt3 (List.mem_of_getElem? (i := 54) rfl) rfl
theorem wk_J6_266 : Cond.constant RJ6 266 (858993459) ∈ Wall := wt3 (List.mem_of_getElem? (i := 55) rfl) rfl
theorem wk_J6_267 : Cond.constant RJ6 267 (252645135) ∈ Wall := wt3 (List.mem_of_getElem? (i := 56) rfl) rfl
theorem wi_X0_leastAlike : Cond.instanceMethod yX0_leastAlike ∈ Wall := wt3 (List.mem_of_getElem? (i := 59) rfl) rfl
theorem wc_X0_leastAlike : Cond.code yX0_leastAlike cX0_leastAlike 3 (some .int) ∈ Wall := wt3 (List.mem_of_getElem? (i := 60) rfl) rfl
theorem wi_X1_isSame : Cond.instanceMethod yX1_isSame ∈ Wall := wt3 (List.mem_of_getElem? (i := 63) rfl) rfl
theorem wc_X1_isSame : Cond.code yX1_isSame cX1_isSame 6 (some .boolean) ∈ Wall := wt3 (List.mem_of_getElem? (i := 64) rfl) rfl
theorem wl_X1_62 : Cond.methodLink RX1 62 yX1_polyBehind ∈ Wall := wt3 (List.mem_of_getElem? (i := 65) rfl) rfl
theorem wi_X1_polyBehind : Cond.instanceMethod yX1_polyBehind ∈ Wall := wt3 (List.mem_of_getElem? (i := 67) rfl) rfl
theorem wc_X1_polyBehind : Cond.code yX1_polyBehind cX1_polyBehind 3 (some .int) ∈ Wall := wt3 (List.mem_of_getElem? (i := 68) rfl) rfl
theorem wl_L_84 : Cond.methodLink RL 84 yX7_poly ∈ Wall := wt3 (List.mem_of_getElem? (i := 69) rfl) rfl
theorem wi_X7_poly : Cond.instanceMethod yX7_poly ∈ Wall := wt3 (List.mem_of_getElem? (i := 70) rfl) rfl
theorem wz_X7_poly : Cond.selects RX7 yX7_poly yX7_poly ∈ Wall := wt3 (List.mem_of_getElem? (i := 71) rfl) rfl
theorem wc_X7_poly : Cond.code yX7_poly cX7_poly 7 (some .int) ∈ Wall := wt3 (List.mem_of_getElem? (i := 72) rfl) rfl
theorem wl_X7_173 : Cond.methodLink RX7 173 yX7_hasPoly ∈ Wall := wt3 (List.mem_of_getElem? (i := 73) rfl) rfl
theorem wi_X7_hasPoly : Cond.instanceMethod yX7_hasPoly ∈ Wall := wt3 (List.mem_of_getElem? (i := 75) rfl) rfl
theorem wc_X7_hasPoly : Cond.code yX7_hasPoly cX7_hasPoly 3 (some .boolean) ∈ Wall := wt3 (List.mem_of_getElem? (i := 76) rfl) rfl
theorem wi_X5_amount : Cond.instanceMethod yX5_amount ∈ Wall := wt3 (List.mem_of_getElem? (i := 79) rfl) rfl
theorem wc_X5_amount : Cond.code yX5_amount cX5_amount 4 (some .int) ∈ Wall := wt3 (List.mem_of_getElem? (i := 80) rfl) rfl
theorem wi_X5_placeOf : Cond.instanceMethod yX5_placeOf ∈ Wall := wt3 (List.mem_of_getElem? (i := 83) rfl) rfl
theorem wc_X5_placeOf : Cond.code yX5_placeOf cX5_placeOf 5 (some .int) ∈ Wall := wt3 (List.mem_of_getElem? (i := 84) rfl) rfl
theorem wi_X5_factorAt : Cond.instanceMethod yX5_factorAt ∈ Wall := wt3 (List.mem_of_getElem? (i := 87) rfl) rfl
theorem wc_X5_factorAt : Cond.code yX5_factorAt cX5_factorAt 3 (some .int) ∈ Wall := wt3 (List.mem_of_getElem? (i := 88) rfl) rfl
theorem wi_X2_exponent : Cond.instanceMethod yX2_exponent ∈ Wall := wt3 (List.mem_of_getElem? (i := 91) rfl) rfl
theorem wc_X2_exponent : Cond.code yX2_exponent cX2_exponent 4 (some .int) ∈ Wall := wt3 (List.mem_of_getElem? (i := 92) rfl) rfl
theorem wl_L_89 : Cond.methodLink RL 89 yX7_value ∈ Wall := wt3 (List.mem_of_getElem? (i := 93) rfl) rfl
theorem wi_X7_value : Cond.instanceMethod yX7_value ∈ Wall := wt3 (List.mem_of_getElem? (i := 94) rfl) rfl
theorem wz_X7_value : Cond.selects RX7 yX7_value yX7_value ∈ Wall := wt3 (List.mem_of_getElem? (i := 95) rfl) rfl
theorem wc_X7_value : Cond.code yX7_value cX7_value 6 (some .int) ∈ Wall := wt3 (List.mem_of_getElem? (i := 96) rfl) rfl
theorem wi_X2_give : Cond.instanceMethod yX2_give ∈ Wall := wt3 (List.mem_of_getElem? (i := 99) rfl) rfl
theorem wc_X2_give : Cond.code yX2_give cX2_give 4 none ∈ Wall := wt3 (List.mem_of_getElem? (i := 100) rfl) rfl
theorem wl_X2_28 : Cond.methodLink RX2 28 yX2_fillPowers ∈ Wall := wt3 (List.mem_of_getElem? (i := 101) rfl) rfl
theorem wi_X2_fillPowers : Cond.instanceMethod yX2_fillPowers ∈ Wall := wt3 (List.mem_of_getElem? (i := 103) rfl) rfl
theorem wc_X2_fillPowers : Cond.code yX2_fillPowers cX2_fillPowers 5 none ∈ Wall := wt3 (List.mem_of_getElem? (i := 104) rfl) rfl
theorem wi_X5_worth : Cond.instanceMethod yX5_worth ∈ Wall := wt3 (List.mem_of_getElem? (i := 107) rfl) rfl
theorem wc_X5_worth : Cond.code yX5_worth cX5_worth 5 (some .int) ∈ Wall := wt3 (List.mem_of_getElem? (i := 108) rfl) rfl
theorem wi_X2_worth : Cond.instanceMethod yX2_worth ∈ Wall := wt3 (List.mem_of_getElem? (i := 111) rfl) rfl
theorem wc_X2_worth : Cond.code yX2_worth cX2_worth 5 (some .int) ∈ Wall := wt3 (List.mem_of_getElem? (i := 112) rfl) rfl
theorem wl_L_94 : Cond.methodLink RL 94 yX7_told ∈ Wall := wt3 (List.mem_of_getElem? (i := 113) rfl) rfl
theorem wi_X7_told : Cond.instanceMethod yX7_told ∈ Wall := wt3 (List.mem_of_getElem? (i := 114) rfl) rfl
theorem wz_X7_told : Cond.selects RX7 yX7_told yX7_told ∈ Wall := wt3 (List.mem_of_getElem? (i := 115) rfl) rfl
theorem wc_X7_told : Cond.code yX7_told cX7_told 6 (some .int) ∈ Wall := wt3 (List.mem_of_getElem? (i := 116) rfl) rfl
theorem wk_X7_195 : Cond.constant RX7 195 (1000000) ∈ Wall := wt3 (List.mem_of_getElem? (i := 117) rfl) rfl
theorem wi_X6_give : Cond.instanceMethod yX6_give ∈ Wall := wt3 (List.mem_of_getElem? (i := 120) rfl) rfl
theorem wc_X6_give : Cond.code yX6_give cX6_give 4 none ∈ Wall := wt3 (List.mem_of_getElem? (i := 121) rfl) rfl
theorem wi_X0_roundBy : Cond.instanceMethod yX0_roundBy ∈ Wall := wt3 (List.mem_of_getElem? (i := 124) rfl) rfl
theorem wc_X0_roundBy : Cond.code yX0_roundBy cX0_roundBy 7 (some .int) ∈ Wall := wt3 (List.mem_of_getElem? (i := 125) rfl) rfl
theorem wl_X0_146 : Cond.methodLink RX0 146 yJ6_bitCount_0f7a4 ∈ Wall := wt3 (List.mem_of_getElem? (i := 126) rfl) rfl
theorem wi_X6_startOf : Cond.instanceMethod yX6_startOf ∈ Wall := wt3 (List.mem_of_getElem? (i := 129) rfl) rfl
theorem wc_X6_startOf : Cond.code yX6_startOf cX6_startOf 2 (some .int) ∈ Wall := wt3 (List.mem_of_getElem? (i := 130) rfl) rfl
theorem wl_X6_58 : Cond.methodLink RX6 58 yX6_numberOf ∈ Wall := wt3 (List.mem_of_getElem? (i := 131) rfl) rfl
theorem wi_X6_numberOf : Cond.instanceMethod yX6_numberOf ∈ Wall := wt3 (List.mem_of_getElem? (i := 133) rfl) rfl
theorem wc_X6_numberOf : Cond.code yX6_numberOf cX6_numberOf 3 (some .int) ∈ Wall := wt3 (List.mem_of_getElem? (i := 134) rfl) rfl
theorem wi_X1_tell : Cond.instanceMethod yX1_tell ∈ Wall := wt3 (List.mem_of_getElem? (i := 137) rfl) rfl
theorem wc_X1_tell : Cond.code yX1_tell cX1_tell 7 (some .int) ∈ Wall := wt3 (List.mem_of_getElem? (i := 138) rfl) rfl
theorem wl_X1_68 : Cond.methodLink RX1 68 yX1_worth ∈ Wall := wt3 (List.mem_of_getElem? (i := 139) rfl) rfl
theorem wi_X1_worth : Cond.instanceMethod yX1_worth ∈ Wall := wt3 (List.mem_of_getElem? (i := 141) rfl) rfl
theorem wc_X1_worth : Cond.code yX1_worth cX1_worth 3 (some .int) ∈ Wall := wt3 (List.mem_of_getElem? (i := 142) rfl) rfl
theorem wk_X1_70 : Cond.constantLong RX1 70 (2) ∈ Wall := wt3 (List.mem_of_getElem? (i := 144) rfl) rfl
theorem wk_X1_72 : Cond.constantLong RX1 72 (6) ∈ Wall := wt3 (List.mem_of_getElem? (i := 145) rfl) rfl
theorem wl_L_98 : Cond.methodLink RL 98 yX7_reduced ∈ Wall := wt3 (List.mem_of_getElem? (i := 146) rfl) rfl
theorem wi_X7_reduced : Cond.instanceMethod yX7_reduced ∈ Wall := wt3 (List.mem_of_getElem? (i := 147) rfl) rfl
theorem wz_X7_reduced : Cond.selects RX7 yX7_reduced yX7_reduced ∈ Wall := wt3 (List.mem_of_getElem? (i := 148) rfl) rfl
theorem wc_X7_reduced : Cond.code yX7_reduced cX7_reduced 2 (some .int) ∈ Wall := wt3 (List.mem_of_getElem? (i := 149) rfl) rfl
theorem wi_X4_refresh : Cond.instanceMethod yX4_refresh ∈ Wall := wt3 (List.mem_of_getElem? (i := 152) rfl) rfl
theorem wc_X4_refresh : Cond.code yX4_refresh cX4_refresh 2 none ∈ Wall := wt3 (List.mem_of_getElem? (i := 153) rfl) rfl
theorem wl_X4_51 : Cond.methodLink RX4 51 yX4_neededFor ∈ Wall := wt3 (List.mem_of_getElem? (i := 155) rfl) rfl
theorem wi_X4_neededFor : Cond.instanceMethod yX4_neededFor ∈ Wall := wt3 (List.mem_of_getElem? (i := 157) rfl) rfl
theorem wc_X4_neededFor : Cond.code yX4_neededFor cX4_neededFor 6 (some .int) ∈ Wall := wt3 (List.mem_of_getElem? (i := 158) rfl) rfl
theorem wl_X4_68 : Cond.methodLink RX4 68 yX4_isOfCells ∈ Wall := wt3 (List.mem_of_getElem? (i := 160) rfl) rfl
theorem wi_X4_isOfCells : Cond.instanceMethod yX4_isOfCells ∈ Wall := wt3 (List.mem_of_getElem? (i := 162) rfl) rfl
theorem wc_X4_isOfCells : Cond.code yX4_isOfCells cX4_isOfCells 2 (some .boolean) ∈ Wall := wt3 (List.mem_of_getElem? (i := 163) rfl) rfl
theorem wl_X4_72 : Cond.methodLink RX4 72 yX4_addCells ∈ Wall := wt3 (List.mem_of_getElem? (i := 165) rfl) rfl
theorem wi_X4_addCells : Cond.instanceMethod yX4_addCells ∈ Wall := wt3 (List.mem_of_getElem? (i := 167) rfl) rfl
theorem wc_X4_addCells : Cond.code yX4_addCells cX4_addCells 6 none ∈ Wall := wt3 (List.mem_of_getElem? (i := 168) rfl) rfl
theorem wl_X4_92 : Cond.methodLink RX4 92 yX4_placeOf ∈ Wall := wt3 (List.mem_of_getElem? (i := 170) rfl) rfl
theorem wi_X4_placeOf : Cond.instanceMethod yX4_placeOf ∈ Wall := wt3 (List.mem_of_getElem? (i := 172) rfl) rfl
theorem wc_X4_placeOf : Cond.code yX4_placeOf cX4_placeOf 4 (some .int) ∈ Wall := wt3 (List.mem_of_getElem? (i := 173) rfl) rfl
theorem wi_X3_amountOf : Cond.instanceMethod yX3_amountOf ∈ Wall := wt3 (List.mem_of_getElem? (i := 177) rfl) rfl
theorem wc_X3_amountOf : Cond.code yX3_amountOf cX3_amountOf 4 (some .int) ∈ Wall := wt3 (List.mem_of_getElem? (i := 178) rfl) rfl
theorem wi_X4_sumsLeft : Cond.instanceMethod yX4_sumsLeft ∈ Wall := wt3 (List.mem_of_getElem? (i := 181) rfl) rfl
theorem wc_X4_sumsLeft : Cond.code yX4_sumsLeft cX4_sumsLeft 4 (some .int) ∈ Wall := wt3 (List.mem_of_getElem? (i := 182) rfl) rfl
theorem wi_X4_productsLeft : Cond.instanceMethod yX4_productsLeft ∈ Wall := wt3 (List.mem_of_getElem? (i := 185) rfl) rfl
theorem wc_X4_productsLeft : Cond.code yX4_productsLeft cX4_productsLeft 4 (some .int) ∈ Wall := wt3 (List.mem_of_getElem? (i := 186) rfl) rfl
theorem wl_L_102 : Cond.methodLink RL 102 yX7_cell ∈ Wall := wt3 (List.mem_of_getElem? (i := 187) rfl) rfl
theorem wi_X7_cell : Cond.instanceMethod yX7_cell ∈ Wall := wt3 (List.mem_of_getElem? (i := 188) rfl) rfl
theorem wz_X7_cell : Cond.selects RX7 yX7_cell yX7_cell ∈ Wall := wt3 (List.mem_of_getElem? (i := 189) rfl) rfl
theorem wc_X7_cell : Cond.code yX7_cell cX7_cell 3 (some .int) ∈ Wall := wt3 (List.mem_of_getElem? (i := 190) rfl) rfl
theorem wi_X4_degree : Cond.instanceMethod yX4_degree ∈ Wall := wt3 (List.mem_of_getElem? (i := 193) rfl) rfl
theorem wc_X4_degree : Cond.code yX4_degree cX4_degree 2 (some .int) ∈ Wall := wt3 (List.mem_of_getElem? (i := 194) rfl) rfl
theorem wl_L_105 : Cond.methodLink RL 105 yX7_needed ∈ Wall := wt3 (List.mem_of_getElem? (i := 195) rfl) rfl
theorem wi_X7_needed : Cond.instanceMethod yX7_needed ∈ Wall := wt3 (List.mem_of_getElem? (i := 196) rfl) rfl
theorem wz_X7_needed : Cond.selects RX7 yX7_needed yX7_needed ∈ Wall := wt3 (List.mem_of_getElem? (i := 197) rfl) rfl
theorem wc_X7_needed : Cond.code yX7_needed cX7_needed 2 (some .int) ∈ Wall := wt3 (List.mem_of_getElem? (i := 198) rfl) rfl
theorem wl_L_109 : Cond.methodLink RL 109 yX7_run ∈ Wall := wt3 (List.mem_of_getElem? (i := 200) rfl) rfl
theorem wi_X7_run : Cond.instanceMethod yX7_run ∈ Wall := wt3 (List.mem_of_getElem? (i := 201) rfl) rfl
theorem wz_X7_run : Cond.selects RX7 yX7_run yX7_run ∈ Wall := wt3 (List.mem_of_getElem? (i := 202) rfl) rfl
theorem wc_X7_run : Cond.code yX7_run cX7_run 4 (some .int) ∈ Wall := wt3 (List.mem_of_getElem? (i := 203) rfl) rfl
theorem wi_X6_goPlainly : Cond.instanceMethod yX6_goPlainly ∈ Wall := wt3 (List.mem_of_getElem? (i := 206) rfl) rfl
theorem wc_X6_goPlainly : Cond.code yX6_goPlainly cX6_goPlainly 1 (some .int) ∈ Wall := wt3 (List.mem_of_getElem? (i := 207) rfl) rfl
theorem wl_X6_62 : Cond.methodLink RX6 62 yX6_fillGiven ∈ Wall := wt3 (List.mem_of_getElem? (i := 208) rfl) rfl
theorem wi_X6_fillGiven : Cond.instanceMethod yX6_fillGiven ∈ Wall := wt3 (List.mem_of_getElem? (i := 210) rfl) rfl
theorem wc_X6_fillGiven : Cond.code yX6_fillGiven cX6_fillGiven 2 none ∈ Wall := wt3 (List.mem_of_getElem? (i := 211) rfl) rfl
theorem wl_X6_65 : Cond.methodLink RX6 65 yX6_go ∈ Wall := wt3 (List.mem_of_getElem? (i := 212) rfl) rfl
theorem wi_X6_go : Cond.instanceMethod yX6_go ∈ Wall := wt3 (List.mem_of_getElem? (i := 214) rfl) rfl
theorem wc_X6_go : Cond.code yX6_go cX6_go 3 (some .int) ∈ Wall := wt3 (List.mem_of_getElem? (i := 215) rfl) rfl
theorem wl_X6_84 : Cond.methodLink RX6 84 yX6_carryInto ∈ Wall := wt3 (List.mem_of_getElem? (i := 219) rfl) rfl
theorem wi_X6_carryInto : Cond.instanceMethod yX6_carryInto ∈ Wall := wt3 (List.mem_of_getElem? (i := 221) rfl) rfl
theorem wc_X6_carryInto : Cond.code yX6_carryInto cX6_carryInto 4 none ∈ Wall := wt3 (List.mem_of_getElem? (i := 222) rfl) rfl
theorem wl_X6_107 : Cond.methodLink RX6 107 yX6_isReckoned ∈ Wall := wt3 (List.mem_of_getElem? (i := 223) rfl) rfl
theorem wi_X6_isReckoned : Cond.instanceMethod yX6_isReckoned ∈ Wall := wt3 (List.mem_of_getElem? (i := 225) rfl) rfl
theorem wc_X6_isReckoned : Cond.code yX6_isReckoned cX6_isReckoned 2 (some .boolean) ∈ Wall := wt3 (List.mem_of_getElem? (i := 226) rfl) rfl
theorem wl_X6_111 : Cond.methodLink RX6 111 yX6_startOf ∈ Wall := wt3 (List.mem_of_getElem? (i := 228) rfl) rfl
theorem wl_X6_88 : Cond.methodLink RX6 88 yX6_reckonNeeded ∈ Wall := wt3 (List.mem_of_getElem? (i := 229) rfl) rfl
theorem wi_X6_reckonNeeded : Cond.instanceMethod yX6_reckonNeeded ∈ Wall := wt3 (List.mem_of_getElem? (i := 231) rfl) rfl
theorem wc_X6_reckonNeeded : Cond.code yX6_reckonNeeded cX6_reckonNeeded 2 none ∈ Wall := wt3 (List.mem_of_getElem? (i := 232) rfl) rfl
theorem wi_X3_reckon : Cond.instanceMethod yX3_reckon ∈ Wall := wt3 (List.mem_of_getElem? (i := 237) rfl) rfl
theorem wc_X3_reckon : Cond.code yX3_reckon cX3_reckon 5 (some .int) ∈ Wall := wt3 (List.mem_of_getElem? (i := 238) rfl) rfl
theorem wl_X6_91 : Cond.methodLink RX6 91 yX6_reckonAll ∈ Wall := wt3 (List.mem_of_getElem? (i := 239) rfl) rfl
theorem wi_X6_reckonAll : Cond.instanceMethod yX6_reckonAll ∈ Wall := wt4 (List.mem_of_getElem? (i := 1) rfl) rfl
theorem wc_X6_reckonAll : Cond.code yX6_reckonAll cX6_reckonAll 2 none ∈ Wall := wt4 (List.mem_of_getElem? (i := 2) rfl) rfl
theorem wl_X6_94 : Cond.methodLink RX6 94 yX6_testHolds ∈ Wall := wt4 (List.mem_of_getElem? (i := 3) rfl) rfl
theorem wi_X6_testHolds : Cond.instanceMethod yX6_testHolds ∈ Wall := wt4 (List.mem_of_getElem? (i := 5) rfl) rfl
theorem wc_X6_testHolds : Cond.code yX6_testHolds cX6_testHolds 3 (some .boolean) ∈ Wall := wt4 (List.mem_of_getElem? (i := 6) rfl) rfl
theorem wl_X6_98 : Cond.methodLink RX6 98 yX6_see ∈ Wall := wt4 (List.mem_of_getElem? (i := 7) rfl) rfl
theorem wi_X6_see : Cond.instanceMethod yX6_see ∈ Wall := wt4 (List.mem_of_getElem? (i := 9) rfl) rfl
theorem wc_X6_see : Cond.code yX6_see cX6_see 2 none ∈ Wall := wt4 (List.mem_of_getElem? (i := 10) rfl) rfl
theorem wl_X6_101 : Cond.methodLink RX6 101 yX6_stepCells ∈ Wall := wt4 (List.mem_of_getElem? (i := 11) rfl) rfl
theorem wi_X6_stepCells : Cond.instanceMethod yX6_stepCells ∈ Wall := wt4 (List.mem_of_getElem? (i := 13) rfl) rfl
theorem wc_X6_stepCells : Cond.code yX6_stepCells cX6_stepCells 5 none ∈ Wall := wt4 (List.mem_of_getElem? (i := 14) rfl) rfl
theorem wl_L_113 : Cond.methodLink RL 113 yX7_runReduced ∈ Wall := wt4 (List.mem_of_getElem? (i := 16) rfl) rfl
theorem wi_X7_runReduced : Cond.instanceMethod yX7_runReduced ∈ Wall := wt4 (List.mem_of_getElem? (i := 17) rfl) rfl
theorem wz_X7_runReduced : Cond.selects RX7 yX7_runReduced yX7_runReduced ∈ Wall := wt4 (List.mem_of_getElem? (i := 18) rfl) rfl
theorem wc_X7_runReduced : Cond.code yX7_runReduced cX7_runReduced 4 (some .int) ∈ Wall := wt4 (List.mem_of_getElem? (i := 19) rfl) rfl
theorem wi_X6_goReduced : Cond.instanceMethod yX6_goReduced ∈ Wall := wt4 (List.mem_of_getElem? (i := 22) rfl) rfl
theorem wc_X6_goReduced : Cond.code yX6_goReduced cX6_goReduced 1 (some .int) ∈ Wall := wt4 (List.mem_of_getElem? (i := 23) rfl) rfl
theorem wl_X6_69 : Cond.methodLink RX6 69 yX6_fillSteady ∈ Wall := wt4 (List.mem_of_getElem? (i := 24) rfl) rfl
theorem wi_X6_fillSteady : Cond.instanceMethod yX6_fillSteady ∈ Wall := wt4 (List.mem_of_getElem? (i := 26) rfl) rfl
theorem wc_X6_fillSteady : Cond.code yX6_fillSteady cX6_fillSteady 2 none ∈ Wall := wt4 (List.mem_of_getElem? (i := 27) rfl) rfl
theorem wl_X6_72 : Cond.methodLink RX6 72 yX6_fillCells ∈ Wall := wt4 (List.mem_of_getElem? (i := 29) rfl) rfl
theorem wi_X6_fillCells : Cond.instanceMethod yX6_fillCells ∈ Wall := wt4 (List.mem_of_getElem? (i := 31) rfl) rfl
theorem wc_X6_fillCells : Cond.code yX6_fillCells cX6_fillCells 2 none ∈ Wall := wt4 (List.mem_of_getElem? (i := 32) rfl) rfl
theorem wl_L_117 : Cond.methodLink RL 117 yX7_seen ∈ Wall := wt4 (List.mem_of_getElem? (i := 33) rfl) rfl
theorem wi_X7_seen : Cond.instanceMethod yX7_seen ∈ Wall := wt4 (List.mem_of_getElem? (i := 34) rfl) rfl
theorem wz_X7_seen : Cond.selects RX7 yX7_seen yX7_seen ∈ Wall := wt4 (List.mem_of_getElem? (i := 35) rfl) rfl
theorem wc_X7_seen : Cond.code yX7_seen cX7_seen 2 (some .int) ∈ Wall := wt4 (List.mem_of_getElem? (i := 36) rfl) rfl
theorem wl_L_121 : Cond.methodLink RL 121 yX7_ahead ∈ Wall := wt4 (List.mem_of_getElem? (i := 37) rfl) rfl
theorem wi_X7_ahead : Cond.instanceMethod yX7_ahead ∈ Wall := wt4 (List.mem_of_getElem? (i := 38) rfl) rfl
theorem wz_X7_ahead : Cond.selects RX7 yX7_ahead yX7_ahead ∈ Wall := wt4 (List.mem_of_getElem? (i := 39) rfl) rfl
theorem wc_X7_ahead : Cond.code yX7_ahead cX7_ahead 4 (some .int) ∈ Wall := wt4 (List.mem_of_getElem? (i := 40) rfl) rfl
theorem wl_X7_244 : Cond.methodLink RX7 244 yX7_turnAhead ∈ Wall := wt4 (List.mem_of_getElem? (i := 41) rfl) rfl
theorem wi_X7_turnAhead : Cond.instanceMethod yX7_turnAhead ∈ Wall := wt4 (List.mem_of_getElem? (i := 43) rfl) rfl
theorem wc_X7_turnAhead : Cond.code yX7_turnAhead cX7_turnAhead 4 (some .int) ∈ Wall := wt4 (List.mem_of_getElem? (i := 44) rfl) rfl
theorem wl_X7_254 : Cond.methodLink RX7 254 yX7_firstZero ∈ Wall := wt4 (List.mem_of_getElem? (i := 46) rfl) rfl
theorem wi_X7_firstZero : Cond.instanceMethod yX7_firstZero ∈ Wall := wt4 (List.mem_of_getElem? (i := 48) rfl) rfl
theorem wc_X7_firstZero : Cond.code yX7_firstZero cX7_firstZero 4 (some .int) ∈ Wall := wt4 (List.mem_of_getElem? (i := 49) rfl) rfl
theorem wl_X7_257 : Cond.methodLink RX7 257 yX7_inverse ∈ Wall := wt4 (List.mem_of_getElem? (i := 50) rfl) rfl
theorem ws_X7_inverse : Cond.static yX7_inverse ∈ Wall := wt4 (List.mem_of_getElem? (i := 51) rfl) rfl
theorem wc_X7_inverse : Cond.code yX7_inverse cX7_inverse 3 (some .int) ∈ Wall := wt4 (List.mem_of_getElem? (i := 52) rfl) rfl
theorem wl_X7_247 : Cond.methodLink RX7 247 yX7_period ∈ Wall := wt4 (List.mem_of_getElem? (i := 53) rfl) rfl
theorem wi_X7_period : Cond.instanceMethod yX7_period ∈ Wall := wt4 (List.mem_of_getElem? (i := 55) rfl) rfl
theorem wc_X7_period : Cond.code yX7_period cX7_period 3 (some .int) ∈ Wall := wt4 (List.mem_of_getElem? (i := 56) rfl) rfl
theorem wl_L_125 : Cond.methodLink RL 125 yX7_swapped ∈ Wall := wt4 (List.mem_of_getElem? (i := 57) rfl) rfl
theorem wi_X7_swapped : Cond.instanceMethod yX7_swapped ∈ Wall := wt4 (List.mem_of_getElem? (i := 58) rfl) rfl
theorem wz_X7_swapped : Cond.selects RX7 yX7_swapped yX7_swapped ∈ Wall := wt4 (List.mem_of_getElem? (i := 59) rfl) rfl
theorem wc_X7_swapped : Cond.code yX7_swapped cX7_swapped 7 (some .int) ∈ Wall := wt4 (List.mem_of_getElem? (i := 60) rfl) rfl
theorem wl_L_7 : Cond.methodLink RL 7 yX7_of ∈ Wall := wt4 (List.mem_of_getElem? (i := 68) rfl) rfl
theorem wi_X7_of : Cond.instanceMethod yX7_of ∈ Wall := wt4 (List.mem_of_getElem? (i := 69) rfl) rfl
theorem wz_X7_of : Cond.selects RX7 yX7_of yX7_of ∈ Wall := wt4 (List.mem_of_getElem? (i := 70) rfl) rfl
theorem wc_X7_of : Cond.code yX7_of cX7_of 3 (some .int) ∈ Wall := wt4 (List.mem_of_getElem? (i := 71) rfl) rfl
theorem wl_L_26 : Cond.methodLink RL 26 yX8_init ∈ Wall := wt4 (List.mem_of_getElem? (i := 140) rfl) rfl
theorem wi_X8_init : Cond.instanceMethod yX8_init ∈ Wall := wt4 (List.mem_of_getElem? (i := 141) rfl) rfl
theorem wc_X8_init : Cond.code yX8_init cX8_init 2 none ∈ Wall := wt4 (List.mem_of_getElem? (i := 142) rfl) rfl
theorem wk_X8_7 : Cond.constant RX8 7 (170128) ∈ Wall := wt4 (List.mem_of_getElem? (i := 144) rfl) rfl
theorem wf_X8_8 : Cond.fieldLink RX8 8 "LoopReducerModel" "f" "[I" ∈ Wall := wt4 (List.mem_of_getElem? (i := 145) rfl) rfl
theorem wf_X8_66 : Cond.fieldLink RX8 66 "LoopReducerModel" "modulus" "I" ∈ Wall := wt4 (List.mem_of_getElem? (i := 146) rfl) rfl
theorem wf_X8_69 : Cond.fieldLink RX8 69 "LoopReducerModel" "thrown" "I" ∈ Wall := wt4 (List.mem_of_getElem? (i := 147) rfl) rfl
theorem wf_X8_14 : Cond.fieldLink RX8 14 "LoopReducerModel" "sort" "[I" ∈ Wall := wt4 (List.mem_of_getElem? (i := 148) rfl) rfl
theorem wf_X8_17 : Cond.fieldLink RX8 17 "LoopReducerModel" "one" "[I" ∈ Wall := wt4 (List.mem_of_getElem? (i := 149) rfl) rfl
theorem wf_X8_20 : Cond.fieldLink RX8 20 "LoopReducerModel" "two" "[I" ∈ Wall := wt4 (List.mem_of_getElem? (i := 150) rfl) rfl
theorem wf_X8_72 : Cond.fieldLink RX8 72 "LoopReducerModel" "names" "I" ∈ Wall := wt4 (List.mem_of_getElem? (i := 151) rfl) rfl
theorem wf_X8_99 : Cond.fieldLink RX8 99 "LoopReducerModel" "shown" "I" ∈ Wall := wt4 (List.mem_of_getElem? (i := 152) rfl) rfl
theorem wf_X8_23 : Cond.fieldLink RX8 23 "LoopReducerModel" "testKind" "I" ∈ Wall := wt4 (List.mem_of_getElem? (i := 153) rfl) rfl
theorem wf_X8_27 : Cond.fieldLink RX8 27 "LoopReducerModel" "testOne" "I" ∈ Wall := wt4 (List.mem_of_getElem? (i := 154) rfl) rfl
theorem wf_X8_30 : Cond.fieldLink RX8 30 "LoopReducerModel" "testTwo" "I" ∈ Wall := wt4 (List.mem_of_getElem? (i := 155) rfl) rfl
theorem wf_X8_79 : Cond.fieldLink RX8 79 "LoopReducerModel" "isLaid" "Z" ∈ Wall := wt4 (List.mem_of_getElem? (i := 156) rfl) rfl
theorem wf_X8_33 : Cond.fieldLink RX8 33 "LoopReducerModel" "hangs" "[I" ∈ Wall := wt4 (List.mem_of_getElem? (i := 157) rfl) rfl
theorem wf_X8_36 : Cond.fieldLink RX8 36 "LoopReducerModel" "delay" "[I" ∈ Wall := wt4 (List.mem_of_getElem? (i := 158) rfl) rfl
theorem wf_X8_39 : Cond.fieldLink RX8 39 "LoopReducerModel" "kind" "[I" ∈ Wall := wt4 (List.mem_of_getElem? (i := 159) rfl) rfl
theorem wf_X8_42 : Cond.fieldLink RX8 42 "LoopReducerModel" "times" "[I" ∈ Wall := wt4 (List.mem_of_getElem? (i := 160) rfl) rfl
theorem wf_X8_45 : Cond.fieldLink RX8 45 "LoopReducerModel" "given" "[I" ∈ Wall := wt4 (List.mem_of_getElem? (i := 161) rfl) rfl
theorem wf_X8_223 : Cond.fieldLink RX8 223 "LoopReducerModel" "cells" "I" ∈ Wall := wt4 (List.mem_of_getElem? (i := 162) rfl) rfl
theorem wf_X8_48 : Cond.fieldLink RX8 48 "LoopReducerModel" "cellName" "[I" ∈ Wall := wt4 (List.mem_of_getElem? (i := 163) rfl) rfl
theorem wf_X8_51 : Cond.fieldLink RX8 51 "LoopReducerModel" "cellNext" "[I" ∈ Wall := wt4 (List.mem_of_getElem? (i := 164) rfl) rfl
theorem wf_X8_237 : Cond.fieldLink RX8 237 "LoopReducerModel" "needed" "I" ∈ Wall := wt4 (List.mem_of_getElem? (i := 165) rfl) rfl
theorem wf_X8_54 : Cond.fieldLink RX8 54 "LoopReducerModel" "now" "[I" ∈ Wall := wt4 (List.mem_of_getElem? (i := 166) rfl) rfl
theorem wf_X8_57 : Cond.fieldLink RX8 57 "LoopReducerModel" "before" "[I" ∈ Wall := wt4 (List.mem_of_getElem? (i := 167) rfl) rfl
theorem wf_X8_60 : Cond.fieldLink RX8 60 "LoopReducerModel" "cellNow" "[I" ∈ Wall := wt4 (List.mem_of_getElem? (i := 168) rfl) rfl
theorem wf_X8_63 : Cond.fieldLink RX8 63 "LoopReducerModel" "seenRow" "[I" ∈ Wall := wt4 (List.mem_of_getElem? (i := 169) rfl) rfl
theorem wf_X8_256 : Cond.fieldLink RX8 256 "LoopReducerModel" "seen" "I" ∈ Wall := wt4 (List.mem_of_getElem? (i := 170) rfl) rfl
theorem wl_L_73 : Cond.methodLink RL 73 yX8_thrown ∈ Wall := wt4 (List.mem_of_getElem? (i := 224) rfl) rfl
theorem wi_X8_thrown : Cond.instanceMethod yX8_thrown ∈ Wall := wt4 (List.mem_of_getElem? (i := 225) rfl) rfl
theorem wz_X8_thrown : Cond.selects RX8 yX8_thrown yX8_thrown ∈ Wall := wt4 (List.mem_of_getElem? (i := 226) rfl) rfl
theorem wc_X8_thrown : Cond.code yX8_thrown cX8_thrown 1 (some .int) ∈ Wall := wt4 (List.mem_of_getElem? (i := 227) rfl) rfl
theorem wl_L_31 : Cond.methodLink RL 31 yX8_number ∈ Wall := wt4 (List.mem_of_getElem? (i := 228) rfl) rfl
theorem wi_X8_number : Cond.instanceMethod yX8_number ∈ Wall := wt4 (List.mem_of_getElem? (i := 229) rfl) rfl
theorem wz_X8_number : Cond.selects RX8 yX8_number yX8_number ∈ Wall := wt4 (List.mem_of_getElem? (i := 230) rfl) rfl
theorem wc_X8_number : Cond.code yX8_number cX8_number 2 (some .int) ∈ Wall := wt4 (List.mem_of_getElem? (i := 231) rfl) rfl
theorem wl_X8_83 : Cond.methodLink RX8 83 yX8_cut ∈ Wall := wt4 (List.mem_of_getElem? (i := 232) rfl) rfl
theorem wi_X8_cut : Cond.instanceMethod yX8_cut ∈ Wall := wt4 (List.mem_of_getElem? (i := 234) rfl) rfl
theorem wc_X8_cut : Cond.code yX8_cut cX8_cut 3 (some .int) ∈ Wall := wt4 (List.mem_of_getElem? (i := 235) rfl) rfl
theorem wl_X8_87 : Cond.methodLink RX8 87 yX8_comes ∈ Wall := wt4 (List.mem_of_getElem? (i := 236) rfl) rfl
theorem wi_X8_comes : Cond.instanceMethod yX8_comes ∈ Wall := wt4 (List.mem_of_getElem? (i := 238) rfl) rfl
theorem wc_X8_comes : Cond.code yX8_comes cX8_comes 4 (some .int) ∈ Wall := wt4 (List.mem_of_getElem? (i := 239) rfl) rfl
theorem wl_L_36 : Cond.methodLink RL 36 yX8_input ∈ Wall := wt5 (List.mem_of_getElem? (i := 0) rfl) rfl
theorem wi_X8_input : Cond.instanceMethod yX8_input ∈ Wall := wt5 (List.mem_of_getElem? (i := 1) rfl) rfl
theorem wz_X8_input : Cond.selects RX8 yX8_input yX8_input ∈ Wall := wt5 (List.mem_of_getElem? (i := 2) rfl) rfl
theorem wc_X8_input : Cond.code yX8_input cX8_input 1 (some .int) ∈ Wall := wt5 (List.mem_of_getElem? (i := 3) rfl) rfl
theorem wl_X8_91 : Cond.methodLink RX8 91 yX8_many ∈ Wall := wt5 (List.mem_of_getElem? (i := 4) rfl) rfl
theorem wi_X8_many : Cond.instanceMethod yX8_many ∈ Wall := wt5 (List.mem_of_getElem? (i := 6) rfl) rfl
theorem wc_X8_many : Cond.code yX8_many cX8_many 4 (some .int) ∈ Wall := wt5 (List.mem_of_getElem? (i := 7) rfl) rfl
theorem wl_L_40 : Cond.methodLink RL 40 yX8_carried ∈ Wall := wt5 (List.mem_of_getElem? (i := 8) rfl) rfl
theorem wi_X8_carried : Cond.instanceMethod yX8_carried ∈ Wall := wt5 (List.mem_of_getElem? (i := 9) rfl) rfl
theorem wz_X8_carried : Cond.selects RX8 yX8_carried yX8_carried ∈ Wall := wt5 (List.mem_of_getElem? (i := 10) rfl) rfl
theorem wc_X8_carried : Cond.code yX8_carried cX8_carried 2 (some .int) ∈ Wall := wt5 (List.mem_of_getElem? (i := 11) rfl) rfl
theorem wl_X8_95 : Cond.methodLink RX8 95 yX8_isName ∈ Wall := wt5 (List.mem_of_getElem? (i := 12) rfl) rfl
theorem wi_X8_isName : Cond.instanceMethod yX8_isName ∈ Wall := wt5 (List.mem_of_getElem? (i := 14) rfl) rfl
theorem wc_X8_isName : Cond.code yX8_isName cX8_isName 2 (some .boolean) ∈ Wall := wt5 (List.mem_of_getElem? (i := 15) rfl) rfl
theorem wl_X8_75 : Cond.methodLink RX8 75 yX8_isIn ∈ Wall := wt5 (List.mem_of_getElem? (i := 16) rfl) rfl
theorem ws_X8_isIn : Cond.static yX8_isIn ∈ Wall := wt5 (List.mem_of_getElem? (i := 17) rfl) rfl
theorem wc_X8_isIn : Cond.code yX8_isIn cX8_isIn 3 (some .boolean) ∈ Wall := wt5 (List.mem_of_getElem? (i := 18) rfl) rfl
theorem wl_L_45 : Cond.methodLink RL 45 yX8_op ∈ Wall := wt5 (List.mem_of_getElem? (i := 19) rfl) rfl
theorem wi_X8_op : Cond.instanceMethod yX8_op ∈ Wall := wt5 (List.mem_of_getElem? (i := 20) rfl) rfl
theorem wz_X8_op : Cond.selects RX8 yX8_op yX8_op ∈ Wall := wt5 (List.mem_of_getElem? (i := 21) rfl) rfl
theorem wc_X8_op : Cond.code yX8_op cX8_op 4 (some .int) ∈ Wall := wt5 (List.mem_of_getElem? (i := 22) rfl) rfl
theorem wl_L_50 : Cond.methodLink RL 50 yX8_next ∈ Wall := wt5 (List.mem_of_getElem? (i := 23) rfl) rfl
theorem wi_X8_next : Cond.instanceMethod yX8_next ∈ Wall := wt5 (List.mem_of_getElem? (i := 24) rfl) rfl
theorem wz_X8_next : Cond.selects RX8 yX8_next yX8_next ∈ Wall := wt5 (List.mem_of_getElem? (i := 25) rfl) rfl
theorem wc_X8_next : Cond.code yX8_next cX8_next 3 (some .boolean) ∈ Wall := wt5 (List.mem_of_getElem? (i := 26) rfl) rfl
theorem wl_L_54 : Cond.methodLink RL 54 yX8_pop ∈ Wall := wt5 (List.mem_of_getElem? (i := 27) rfl) rfl
theorem wi_X8_pop : Cond.instanceMethod yX8_pop ∈ Wall := wt5 (List.mem_of_getElem? (i := 28) rfl) rfl
theorem wz_X8_pop : Cond.selects RX8 yX8_pop yX8_pop ∈ Wall := wt5 (List.mem_of_getElem? (i := 29) rfl) rfl
theorem wc_X8_pop : Cond.code yX8_pop cX8_pop 1 (some .int) ∈ Wall := wt5 (List.mem_of_getElem? (i := 30) rfl) rfl
theorem wl_X8_106 : Cond.methodLink RX8 106 yX8_isUsed ∈ Wall := wt5 (List.mem_of_getElem? (i := 31) rfl) rfl
theorem wi_X8_isUsed : Cond.instanceMethod yX8_isUsed ∈ Wall := wt5 (List.mem_of_getElem? (i := 33) rfl) rfl
theorem wc_X8_isUsed : Cond.code yX8_isUsed cX8_isUsed 3 (some .boolean) ∈ Wall := wt5 (List.mem_of_getElem? (i := 34) rfl) rfl
theorem wl_X8_102 : Cond.methodLink RX8 102 yX8_has ∈ Wall := wt5 (List.mem_of_getElem? (i := 35) rfl) rfl
theorem ws_X8_has : Cond.static yX8_has ∈ Wall := wt5 (List.mem_of_getElem? (i := 36) rfl) rfl
theorem wc_X8_has : Cond.code yX8_has cX8_has 2 (some .boolean) ∈ Wall := wt5 (List.mem_of_getElem? (i := 37) rfl) rfl
theorem wl_L_59 : Cond.methodLink RL 59 yX8_test ∈ Wall := wt5 (List.mem_of_getElem? (i := 38) rfl) rfl
theorem wi_X8_test : Cond.instanceMethod yX8_test ∈ Wall := wt5 (List.mem_of_getElem? (i := 39) rfl) rfl
theorem wz_X8_test : Cond.selects RX8 yX8_test yX8_test ∈ Wall := wt5 (List.mem_of_getElem? (i := 40) rfl) rfl
theorem wc_X8_test : Cond.code yX8_test cX8_test 4 (some .boolean) ∈ Wall := wt5 (List.mem_of_getElem? (i := 41) rfl) rfl
theorem wl_L_64 : Cond.methodLink RL 64 yX8_show ∈ Wall := wt5 (List.mem_of_getElem? (i := 42) rfl) rfl
theorem wi_X8_show : Cond.instanceMethod yX8_show ∈ Wall := wt5 (List.mem_of_getElem? (i := 43) rfl) rfl
theorem wz_X8_show : Cond.selects RX8 yX8_show yX8_show ∈ Wall := wt5 (List.mem_of_getElem? (i := 44) rfl) rfl
theorem wc_X8_show : Cond.code yX8_show cX8_show 3 (some .boolean) ∈ Wall := wt5 (List.mem_of_getElem? (i := 45) rfl) rfl
theorem wl_L_68 : Cond.methodLink RL 68 yX8_count ∈ Wall := wt5 (List.mem_of_getElem? (i := 46) rfl) rfl
theorem wi_X8_count : Cond.instanceMethod yX8_count ∈ Wall := wt5 (List.mem_of_getElem? (i := 47) rfl) rfl
theorem wz_X8_count : Cond.selects RX8 yX8_count yX8_count ∈ Wall := wt5 (List.mem_of_getElem? (i := 48) rfl) rfl
theorem wc_X8_count : Cond.code yX8_count cX8_count 2 (some .int) ∈ Wall := wt5 (List.mem_of_getElem? (i := 49) rfl) rfl
theorem wl_L_72 : Cond.methodLink RL 72 yX8_of ∈ Wall := wt5 (List.mem_of_getElem? (i := 50) rfl) rfl
theorem wi_X8_of : Cond.instanceMethod yX8_of ∈ Wall := wt5 (List.mem_of_getElem? (i := 51) rfl) rfl
theorem wz_X8_of : Cond.selects RX8 yX8_of yX8_of ∈ Wall := wt5 (List.mem_of_getElem? (i := 52) rfl) rfl
theorem wc_X8_of : Cond.code yX8_of cX8_of 3 (some .int) ∈ Wall := wt5 (List.mem_of_getElem? (i := 53) rfl) rfl
theorem wl_L_79 : Cond.methodLink RL 79 yX8_cycle ∈ Wall := wt5 (List.mem_of_getElem? (i := 54) rfl) rfl
theorem wi_X8_cycle : Cond.instanceMethod yX8_cycle ∈ Wall := wt5 (List.mem_of_getElem? (i := 55) rfl) rfl
theorem wz_X8_cycle : Cond.selects RX8 yX8_cycle yX8_cycle ∈ Wall := wt5 (List.mem_of_getElem? (i := 56) rfl) rfl
theorem wc_X8_cycle : Cond.code yX8_cycle cX8_cycle 2 (some .int) ∈ Wall := wt5 (List.mem_of_getElem? (i := 57) rfl) rfl
theorem wl_X8_112 : Cond.methodLink RX8 112 yX8_laysHangs ∈ Wall := wt5 (List.mem_of_getElem? (i := 58) rfl) rfl
theorem wi_X8_laysHangs : Cond.instanceMethod yX8_laysHangs ∈ Wall := wt5 (List.mem_of_getElem? (i := 60) rfl) rfl
theorem wc_X8_laysHangs : Cond.code yX8_laysHangs cX8_laysHangs 4 none ∈ Wall := wt5 (List.mem_of_getElem? (i := 61) rfl) rfl
theorem wl_X8_109 : Cond.methodLink RX8 109 yX8_direct ∈ Wall := wt5 (List.mem_of_getElem? (i := 62) rfl) rfl
theorem wi_X8_direct : Cond.instanceMethod yX8_direct ∈ Wall := wt5 (List.mem_of_getElem? (i := 64) rfl) rfl
theorem wc_X8_direct : Cond.code yX8_direct cX8_direct 2 (some .int) ∈ Wall := wt5 (List.mem_of_getElem? (i := 65) rfl) rfl
theorem wl_X8_115 : Cond.methodLink RX8 115 yX8_cycleOf ∈ Wall := wt5 (List.mem_of_getElem? (i := 66) rfl) rfl
theorem wi_X8_cycleOf : Cond.instanceMethod yX8_cycleOf ∈ Wall := wt5 (List.mem_of_getElem? (i := 68) rfl) rfl
theorem wc_X8_cycleOf : Cond.code yX8_cycleOf cX8_cycleOf 4 (some .int) ∈ Wall := wt5 (List.mem_of_getElem? (i := 69) rfl) rfl
theorem wl_L_83 : Cond.methodLink RL 83 yX8_form ∈ Wall := wt5 (List.mem_of_getElem? (i := 70) rfl) rfl
theorem wi_X8_form : Cond.instanceMethod yX8_form ∈ Wall := wt5 (List.mem_of_getElem? (i := 71) rfl) rfl
theorem wz_X8_form : Cond.selects RX8 yX8_form yX8_form ∈ Wall := wt5 (List.mem_of_getElem? (i := 72) rfl) rfl
theorem wc_X8_form : Cond.code yX8_form cX8_form 4 (some .int) ∈ Wall := wt5 (List.mem_of_getElem? (i := 73) rfl) rfl
theorem wl_X8_190 : Cond.methodLink RX8 190 yX8_lays ∈ Wall := wt5 (List.mem_of_getElem? (i := 74) rfl) rfl
theorem wi_X8_lays : Cond.instanceMethod yX8_lays ∈ Wall := wt5 (List.mem_of_getElem? (i := 76) rfl) rfl
theorem wc_X8_lays : Cond.code yX8_lays cX8_lays 6 none ∈ Wall := wt5 (List.mem_of_getElem? (i := 77) rfl) rfl
theorem wl_X8_187 : Cond.methodLink RX8 187 yX8_laysCycle ∈ Wall := wt5 (List.mem_of_getElem? (i := 78) rfl) rfl
theorem wi_X8_laysCycle : Cond.instanceMethod yX8_laysCycle ∈ Wall := wt5 (List.mem_of_getElem? (i := 80) rfl) rfl
theorem wc_X8_laysCycle : Cond.code yX8_laysCycle cX8_laysCycle 6 none ∈ Wall := wt5 (List.mem_of_getElem? (i := 81) rfl) rfl
theorem wl_X8_178 : Cond.methodLink RX8 178 yX8_laysNone ∈ Wall := wt5 (List.mem_of_getElem? (i := 82) rfl) rfl
theorem wi_X8_laysNone : Cond.instanceMethod yX8_laysNone ∈ Wall := wt5 (List.mem_of_getElem? (i := 84) rfl) rfl
theorem wc_X8_laysNone : Cond.code yX8_laysNone cX8_laysNone 4 none ∈ Wall := wt5 (List.mem_of_getElem? (i := 85) rfl) rfl
theorem wl_X8_151 : Cond.methodLink RX8 151 yX8_laysGiven ∈ Wall := wt5 (List.mem_of_getElem? (i := 86) rfl) rfl
theorem wi_X8_laysGiven : Cond.instanceMethod yX8_laysGiven ∈ Wall := wt5 (List.mem_of_getElem? (i := 88) rfl) rfl
theorem wc_X8_laysGiven : Cond.code yX8_laysGiven cX8_laysGiven 4 none ∈ Wall := wt5 (List.mem_of_getElem? (i := 89) rfl) rfl
theorem wl_X8_127 : Cond.methodLink RX8 127 yX8_empties ∈ Wall := wt5 (List.mem_of_getElem? (i := 90) rfl) rfl
theorem wi_X8_empties : Cond.instanceMethod yX8_empties ∈ Wall := wt5 (List.mem_of_getElem? (i := 92) rfl) rfl
theorem wc_X8_empties : Cond.code yX8_empties cX8_empties 3 none ∈ Wall := wt5 (List.mem_of_getElem? (i := 93) rfl) rfl
theorem wl_X8_181 : Cond.methodLink RX8 181 yX8_laysOp ∈ Wall := wt5 (List.mem_of_getElem? (i := 94) rfl) rfl
theorem wi_X8_laysOp : Cond.instanceMethod yX8_laysOp ∈ Wall := wt5 (List.mem_of_getElem? (i := 96) rfl) rfl
theorem wc_X8_laysOp : Cond.code yX8_laysOp cX8_laysOp 4 none ∈ Wall := wt5 (List.mem_of_getElem? (i := 97) rfl) rfl
theorem wl_X8_159 : Cond.methodLink RX8 159 yX8_hasForm ∈ Wall := wt5 (List.mem_of_getElem? (i := 98) rfl) rfl
theorem wi_X8_hasForm : Cond.instanceMethod yX8_hasForm ∈ Wall := wt5 (List.mem_of_getElem? (i := 100) rfl) rfl
theorem wc_X8_hasForm : Cond.code yX8_hasForm cX8_hasForm 2 (some .boolean) ∈ Wall := wt5 (List.mem_of_getElem? (i := 101) rfl) rfl
theorem wl_X8_162 : Cond.methodLink RX8 162 yX8_joins ∈ Wall := wt5 (List.mem_of_getElem? (i := 103) rfl) rfl
theorem wi_X8_joins : Cond.instanceMethod yX8_joins ∈ Wall := wt5 (List.mem_of_getElem? (i := 105) rfl) rfl
theorem wc_X8_joins : Cond.code yX8_joins cX8_joins 7 none ∈ Wall := wt5 (List.mem_of_getElem? (i := 106) rfl) rfl
theorem wl_X8_166 : Cond.methodLink RX8 166 yX8_multiplies ∈ Wall := wt5 (List.mem_of_getElem? (i := 107) rfl) rfl
theorem wi_X8_multiplies : Cond.instanceMethod yX8_multiplies ∈ Wall := wt5 (List.mem_of_getElem? (i := 109) rfl) rfl
theorem wc_X8_multiplies : Cond.code yX8_multiplies cX8_multiplies 6 (some .boolean) ∈ Wall := wt5 (List.mem_of_getElem? (i := 110) rfl) rfl
theorem wl_X8_124 : Cond.methodLink RX8 124 yX8_degreeOf ∈ Wall := wt5 (List.mem_of_getElem? (i := 111) rfl) rfl
theorem wi_X8_degreeOf : Cond.instanceMethod yX8_degreeOf ∈ Wall := wt5 (List.mem_of_getElem? (i := 113) rfl) rfl
theorem wc_X8_degreeOf : Cond.code yX8_degreeOf cX8_degreeOf 3 (some .int) ∈ Wall := wt5 (List.mem_of_getElem? (i := 114) rfl) rfl
theorem wl_X8_118 : Cond.methodLink RX8 118 yX8_isNought ∈ Wall := wt5 (List.mem_of_getElem? (i := 115) rfl) rfl
theorem wi_X8_isNought : Cond.instanceMethod yX8_isNought ∈ Wall := wt5 (List.mem_of_getElem? (i := 117) rfl) rfl
theorem wc_X8_isNought : Cond.code yX8_isNought cX8_isNought 4 (some .boolean) ∈ Wall := wt5 (List.mem_of_getElem? (i := 118) rfl) rfl
theorem wl_X8_131 : Cond.methodLink RX8 131 yX8_multiplies_ ∈ Wall := wt5 (List.mem_of_getElem? (i := 119) rfl) rfl
theorem wi_X8_multiplies_ : Cond.instanceMethod yX8_multiplies_ ∈ Wall := wt5 (List.mem_of_getElem? (i := 121) rfl) rfl
theorem wc_X8_multiplies_ : Cond.code yX8_multiplies_ cX8_multiplies_ 12 (some .boolean) ∈ Wall := wt5 (List.mem_of_getElem? (i := 122) rfl) rfl
theorem wl_X8_135 : Cond.methodLink RX8 135 yX8_exponents ∈ Wall := wt5 (List.mem_of_getElem? (i := 123) rfl) rfl
theorem ws_X8_exponents : Cond.static yX8_exponents ∈ Wall := wt5 (List.mem_of_getElem? (i := 124) rfl) rfl
theorem wc_X8_exponents : Cond.code yX8_exponents cX8_exponents 1 (some .int) ∈ Wall := wt5 (List.mem_of_getElem? (i := 125) rfl) rfl
theorem wl_X8_144 : Cond.methodLink RX8 144 yX8_often ∈ Wall := wt5 (List.mem_of_getElem? (i := 126) rfl) rfl
theorem ws_X8_often : Cond.static yX8_often ∈ Wall := wt5 (List.mem_of_getElem? (i := 127) rfl) rfl
theorem wc_X8_often : Cond.code yX8_often cX8_often 3 (some .int) ∈ Wall := wt5 (List.mem_of_getElem? (i := 128) rfl) rfl
theorem wl_X8_121 : Cond.methodLink RX8 121 yX8_factorial ∈ Wall := wt5 (List.mem_of_getElem? (i := 129) rfl) rfl
theorem ws_X8_factorial : Cond.static yX8_factorial ∈ Wall := wt5 (List.mem_of_getElem? (i := 130) rfl) rfl
theorem wc_X8_factorial : Cond.code yX8_factorial cX8_factorial 1 (some .int) ∈ Wall := wt5 (List.mem_of_getElem? (i := 131) rfl) rfl
theorem wl_X8_174 : Cond.methodLink RX8 174 yX8_carries ∈ Wall := wt5 (List.mem_of_getElem? (i := 132) rfl) rfl
theorem wi_X8_carries : Cond.instanceMethod yX8_carries ∈ Wall := wt5 (List.mem_of_getElem? (i := 134) rfl) rfl
theorem wc_X8_carries : Cond.code yX8_carries cX8_carries 6 none ∈ Wall := wt5 (List.mem_of_getElem? (i := 135) rfl) rfl
theorem wl_X8_147 : Cond.methodLink RX8 147 yX8_laysLater ∈ Wall := wt5 (List.mem_of_getElem? (i := 136) rfl) rfl
theorem wi_X8_laysLater : Cond.instanceMethod yX8_laysLater ∈ Wall := wt5 (List.mem_of_getElem? (i := 138) rfl) rfl
theorem wc_X8_laysLater : Cond.code yX8_laysLater cX8_laysLater 8 none ∈ Wall := wt5 (List.mem_of_getElem? (i := 139) rfl) rfl
theorem wk_X8_154 : Cond.constant RX8 154 (41160) ∈ Wall := wt5 (List.mem_of_getElem? (i := 140) rfl) rfl
theorem wk_X8_155 : Cond.constant RX8 155 (42532) ∈ Wall := wt5 (List.mem_of_getElem? (i := 141) rfl) rfl
theorem wl_X8_156 : Cond.methodLink RX8 156 yX8_copies ∈ Wall := wt5 (List.mem_of_getElem? (i := 142) rfl) rfl
theorem wi_X8_copies : Cond.instanceMethod yX8_copies ∈ Wall := wt5 (List.mem_of_getElem? (i := 144) rfl) rfl
theorem wc_X8_copies : Cond.code yX8_copies cX8_copies 4 none ∈ Wall := wt5 (List.mem_of_getElem? (i := 145) rfl) rfl
theorem wl_X8_184 : Cond.methodLink RX8 184 yX8_laysCarried ∈ Wall := wt5 (List.mem_of_getElem? (i := 146) rfl) rfl
theorem wi_X8_laysCarried : Cond.instanceMethod yX8_laysCarried ∈ Wall := wt5 (List.mem_of_getElem? (i := 148) rfl) rfl
theorem wc_X8_laysCarried : Cond.code yX8_laysCarried cX8_laysCarried 7 (some .boolean) ∈ Wall := wt5 (List.mem_of_getElem? (i := 149) rfl) rfl
theorem wl_X8_171 : Cond.methodLink RX8 171 yX8_laysPart ∈ Wall := wt5 (List.mem_of_getElem? (i := 150) rfl) rfl
theorem wi_X8_laysPart : Cond.instanceMethod yX8_laysPart ∈ Wall := wt5 (List.mem_of_getElem? (i := 152) rfl) rfl
theorem wc_X8_laysPart : Cond.code yX8_laysPart cX8_laysPart 9 (some .boolean) ∈ Wall := wt5 (List.mem_of_getElem? (i := 153) rfl) rfl
theorem wl_X8_168 : Cond.methodLink RX8 168 yX8_partOf ∈ Wall := wt5 (List.mem_of_getElem? (i := 154) rfl) rfl
theorem wi_X8_partOf : Cond.instanceMethod yX8_partOf ∈ Wall := wt5 (List.mem_of_getElem? (i := 156) rfl) rfl
theorem wc_X8_partOf : Cond.code yX8_partOf cX8_partOf 3 (some .int) ∈ Wall := wt5 (List.mem_of_getElem? (i := 157) rfl) rfl
theorem wl_X8_193 : Cond.methodLink RX8 193 yX8_bits ∈ Wall := wt5 (List.mem_of_getElem? (i := 158) rfl) rfl
theorem wi_X8_bits : Cond.instanceMethod yX8_bits ∈ Wall := wt5 (List.mem_of_getElem? (i := 160) rfl) rfl
theorem wc_X8_bits : Cond.code yX8_bits cX8_bits 4 (some .int) ∈ Wall := wt5 (List.mem_of_getElem? (i := 161) rfl) rfl
theorem wl_X8_196 : Cond.methodLink RX8 196 yX8_areAlike ∈ Wall := wt5 (List.mem_of_getElem? (i := 162) rfl) rfl
theorem wi_X8_areAlike : Cond.instanceMethod yX8_areAlike ∈ Wall := wt5 (List.mem_of_getElem? (i := 164) rfl) rfl
theorem wc_X8_areAlike : Cond.code yX8_areAlike cX8_areAlike 4 (some .boolean) ∈ Wall := wt5 (List.mem_of_getElem? (i := 165) rfl) rfl
theorem wl_L_88 : Cond.methodLink RL 88 yX8_poly ∈ Wall := wt5 (List.mem_of_getElem? (i := 166) rfl) rfl
theorem wi_X8_poly : Cond.instanceMethod yX8_poly ∈ Wall := wt5 (List.mem_of_getElem? (i := 167) rfl) rfl
theorem wz_X8_poly : Cond.selects RX8 yX8_poly yX8_poly ∈ Wall := wt5 (List.mem_of_getElem? (i := 168) rfl) rfl
theorem wc_X8_poly : Cond.code yX8_poly cX8_poly 8 (some .int) ∈ Wall := wt5 (List.mem_of_getElem? (i := 169) rfl) rfl
theorem wl_X8_199 : Cond.methodLink RX8 199 yX8_isPoly ∈ Wall := wt5 (List.mem_of_getElem? (i := 170) rfl) rfl
theorem wi_X8_isPoly : Cond.instanceMethod yX8_isPoly ∈ Wall := wt5 (List.mem_of_getElem? (i := 172) rfl) rfl
theorem wc_X8_isPoly : Cond.code yX8_isPoly cX8_isPoly 3 (some .boolean) ∈ Wall := wt5 (List.mem_of_getElem? (i := 173) rfl) rfl
theorem wl_L_93 : Cond.methodLink RL 93 yX8_value ∈ Wall := wt5 (List.mem_of_getElem? (i := 174) rfl) rfl
theorem wi_X8_value : Cond.instanceMethod yX8_value ∈ Wall := wt5 (List.mem_of_getElem? (i := 175) rfl) rfl
theorem wz_X8_value : Cond.selects RX8 yX8_value yX8_value ∈ Wall := wt5 (List.mem_of_getElem? (i := 176) rfl) rfl
theorem wc_X8_value : Cond.code yX8_value cX8_value 6 (some .int) ∈ Wall := wt5 (List.mem_of_getElem? (i := 177) rfl) rfl
theorem wl_X8_205 : Cond.methodLink RX8 205 yX8_gives ∈ Wall := wt5 (List.mem_of_getElem? (i := 178) rfl) rfl
theorem wi_X8_gives : Cond.instanceMethod yX8_gives ∈ Wall := wt5 (List.mem_of_getElem? (i := 180) rfl) rfl
theorem wc_X8_gives : Cond.code yX8_gives cX8_gives 4 none ∈ Wall := wt5 (List.mem_of_getElem? (i := 181) rfl) rfl
theorem wl_X8_208 : Cond.methodLink RX8 208 yX8_valueOf ∈ Wall := wt5 (List.mem_of_getElem? (i := 182) rfl) rfl
theorem wi_X8_valueOf : Cond.instanceMethod yX8_valueOf ∈ Wall := wt5 (List.mem_of_getElem? (i := 184) rfl) rfl
theorem wc_X8_valueOf : Cond.code yX8_valueOf cX8_valueOf 7 (some .int) ∈ Wall := wt5 (List.mem_of_getElem? (i := 185) rfl) rfl
theorem wl_X8_202 : Cond.methodLink RX8 202 yX8_power ∈ Wall := wt5 (List.mem_of_getElem? (i := 186) rfl) rfl
theorem wi_X8_power : Cond.instanceMethod yX8_power ∈ Wall := wt5 (List.mem_of_getElem? (i := 188) rfl) rfl
theorem wc_X8_power : Cond.code yX8_power cX8_power 5 (some .int) ∈ Wall := wt5 (List.mem_of_getElem? (i := 189) rfl) rfl
theorem wl_L_97 : Cond.methodLink RL 97 yX8_told ∈ Wall := wt5 (List.mem_of_getElem? (i := 190) rfl) rfl
theorem wi_X8_told : Cond.instanceMethod yX8_told ∈ Wall := wt5 (List.mem_of_getElem? (i := 191) rfl) rfl
theorem wz_X8_told : Cond.selects RX8 yX8_told yX8_told ∈ Wall := wt5 (List.mem_of_getElem? (i := 192) rfl) rfl
theorem wc_X8_told : Cond.code yX8_told cX8_told 8 (some .int) ∈ Wall := wt5 (List.mem_of_getElem? (i := 193) rfl) rfl
theorem wk_X8_215 : Cond.constant RX8 215 (1000000) ∈ Wall := wt5 (List.mem_of_getElem? (i := 194) rfl) rfl
theorem wl_X8_216 : Cond.methodLink RX8 216 yX8_startOf ∈ Wall := wt5 (List.mem_of_getElem? (i := 195) rfl) rfl
theorem wi_X8_startOf : Cond.instanceMethod yX8_startOf ∈ Wall := wt5 (List.mem_of_getElem? (i := 197) rfl) rfl
theorem wc_X8_startOf : Cond.code yX8_startOf cX8_startOf 2 (some .int) ∈ Wall := wt5 (List.mem_of_getElem? (i := 198) rfl) rfl
theorem wl_X8_219 : Cond.methodLink RX8 219 yX8_tells ∈ Wall := wt5 (List.mem_of_getElem? (i := 199) rfl) rfl
theorem wi_X8_tells : Cond.instanceMethod yX8_tells ∈ Wall := wt5 (List.mem_of_getElem? (i := 201) rfl) rfl
theorem wc_X8_tells : Cond.code yX8_tells cX8_tells 8 (some .int) ∈ Wall := wt5 (List.mem_of_getElem? (i := 202) rfl) rfl
theorem wk_X8_211 : Cond.constantLong RX8 211 (2) ∈ Wall := wt5 (List.mem_of_getElem? (i := 203) rfl) rfl
theorem wk_X8_213 : Cond.constantLong RX8 213 (3) ∈ Wall := wt5 (List.mem_of_getElem? (i := 204) rfl) rfl
theorem wl_L_101 : Cond.methodLink RL 101 yX8_reduced ∈ Wall := wt5 (List.mem_of_getElem? (i := 205) rfl) rfl
theorem wi_X8_reduced : Cond.instanceMethod yX8_reduced ∈ Wall := wt5 (List.mem_of_getElem? (i := 206) rfl) rfl
theorem wz_X8_reduced : Cond.selects RX8 yX8_reduced yX8_reduced ∈ Wall := wt5 (List.mem_of_getElem? (i := 207) rfl) rfl
theorem wc_X8_reduced : Cond.code yX8_reduced cX8_reduced 2 (some .int) ∈ Wall := wt5 (List.mem_of_getElem? (i := 208) rfl) rfl
theorem wl_X8_243 : Cond.methodLink RX8 243 yX8_reduces ∈ Wall := wt5 (List.mem_of_getElem? (i := 209) rfl) rfl
theorem wi_X8_reduces : Cond.instanceMethod yX8_reduces ∈ Wall := wt5 (List.mem_of_getElem? (i := 211) rfl) rfl
theorem wc_X8_reduces : Cond.code yX8_reduces cX8_reduces 1 none ∈ Wall := wt5 (List.mem_of_getElem? (i := 212) rfl) rfl
theorem wl_X8_230 : Cond.methodLink RX8 230 yX8_asked ∈ Wall := wt5 (List.mem_of_getElem? (i := 213) rfl) rfl
theorem wi_X8_asked : Cond.instanceMethod yX8_asked ∈ Wall := wt5 (List.mem_of_getElem? (i := 215) rfl) rfl
theorem wc_X8_asked : Cond.code yX8_asked cX8_asked 1 (some .int) ∈ Wall := wt5 (List.mem_of_getElem? (i := 216) rfl) rfl
theorem wl_X8_234 : Cond.methodLink RX8 234 yX8_neededBy ∈ Wall := wt5 (List.mem_of_getElem? (i := 217) rfl) rfl
theorem wi_X8_neededBy : Cond.instanceMethod yX8_neededBy ∈ Wall := wt5 (List.mem_of_getElem? (i := 219) rfl) rfl
theorem wc_X8_neededBy : Cond.code yX8_neededBy cX8_neededBy 6 (some .int) ∈ Wall := wt5 (List.mem_of_getElem? (i := 220) rfl) rfl
theorem wl_X8_240 : Cond.methodLink RX8 240 yX8_laysCells ∈ Wall := wt5 (List.mem_of_getElem? (i := 221) rfl) rfl
theorem wi_X8_laysCells : Cond.instanceMethod yX8_laysCells ∈ Wall := wt5 (List.mem_of_getElem? (i := 223) rfl) rfl
theorem wc_X8_laysCells : Cond.code yX8_laysCells cX8_laysCells 6 none ∈ Wall := wt5 (List.mem_of_getElem? (i := 224) rfl) rfl
theorem wl_X8_226 : Cond.methodLink RX8 226 yX8_cellOf ∈ Wall := wt5 (List.mem_of_getElem? (i := 225) rfl) rfl
theorem wi_X8_cellOf : Cond.instanceMethod yX8_cellOf ∈ Wall := wt5 (List.mem_of_getElem? (i := 227) rfl) rfl
theorem wc_X8_cellOf : Cond.code yX8_cellOf cX8_cellOf 3 (some .int) ∈ Wall := wt5 (List.mem_of_getElem? (i := 228) rfl) rfl
theorem wk_X8_229 : Cond.constant RX8 229 (41503) ∈ Wall := wt5 (List.mem_of_getElem? (i := 229) rfl) rfl
theorem wl_X8_246 : Cond.methodLink RX8 246 yX8_manyOf ∈ Wall := wt5 (List.mem_of_getElem? (i := 230) rfl) rfl
theorem wi_X8_manyOf : Cond.instanceMethod yX8_manyOf ∈ Wall := wt5 (List.mem_of_getElem? (i := 232) rfl) rfl
theorem wc_X8_manyOf : Cond.code yX8_manyOf cX8_manyOf 7 (some .int) ∈ Wall := wt5 (List.mem_of_getElem? (i := 233) rfl) rfl
theorem wl_L_104 : Cond.methodLink RL 104 yX8_cell ∈ Wall := wt5 (List.mem_of_getElem? (i := 234) rfl) rfl
theorem wi_X8_cell : Cond.instanceMethod yX8_cell ∈ Wall := wt5 (List.mem_of_getElem? (i := 235) rfl) rfl
theorem wz_X8_cell : Cond.selects RX8 yX8_cell yX8_cell ∈ Wall := wt5 (List.mem_of_getElem? (i := 236) rfl) rfl
theorem wc_X8_cell : Cond.code yX8_cell cX8_cell 3 (some .int) ∈ Wall := wt5 (List.mem_of_getElem? (i := 237) rfl) rfl
theorem wl_L_108 : Cond.methodLink RL 108 yX8_needed ∈ Wall := wt5 (List.mem_of_getElem? (i := 238) rfl) rfl
theorem wi_X8_needed : Cond.instanceMethod yX8_needed ∈ Wall := wt5 (List.mem_of_getElem? (i := 239) rfl) rfl
theorem wz_X8_needed : Cond.selects RX8 yX8_needed yX8_needed ∈ Wall := wt6 (List.mem_of_getElem? (i := 0) rfl) rfl
theorem wc_X8_needed : Cond.code yX8_needed cX8_needed 2 (some .int) ∈ Wall := wt6 (List.mem_of_getElem? (i := 1) rfl) rfl
theorem wl_L_112 : Cond.methodLink RL 112 yX8_run ∈ Wall := wt6 (List.mem_of_getElem? (i := 2) rfl) rfl
theorem wi_X8_run : Cond.instanceMethod yX8_run ∈ Wall := wt6 (List.mem_of_getElem? (i := 3) rfl) rfl
theorem wz_X8_run : Cond.selects RX8 yX8_run yX8_run ∈ Wall := wt6 (List.mem_of_getElem? (i := 4) rfl) rfl
theorem wc_X8_run : Cond.code yX8_run cX8_run 4 (some .int) ∈ Wall := wt6 (List.mem_of_getElem? (i := 5) rfl) rfl
theorem wl_X8_273 : Cond.methodLink RX8 273 yX8_runs ∈ Wall := wt6 (List.mem_of_getElem? (i := 6) rfl) rfl
theorem wi_X8_runs : Cond.instanceMethod yX8_runs ∈ Wall := wt6 (List.mem_of_getElem? (i := 8) rfl) rfl
theorem wc_X8_runs : Cond.code yX8_runs cX8_runs 4 (some .int) ∈ Wall := wt6 (List.mem_of_getElem? (i := 9) rfl) rfl
theorem wl_X8_259 : Cond.methodLink RX8 259 yX8_addsCells ∈ Wall := wt6 (List.mem_of_getElem? (i := 10) rfl) rfl
theorem wi_X8_addsCells : Cond.instanceMethod yX8_addsCells ∈ Wall := wt6 (List.mem_of_getElem? (i := 12) rfl) rfl
theorem wc_X8_addsCells : Cond.code yX8_addsCells cX8_addsCells 3 none ∈ Wall := wt6 (List.mem_of_getElem? (i := 13) rfl) rfl
theorem wl_X8_262 : Cond.methodLink RX8 262 yX8_reckonsNeeded ∈ Wall := wt6 (List.mem_of_getElem? (i := 14) rfl) rfl
theorem wi_X8_reckonsNeeded : Cond.instanceMethod yX8_reckonsNeeded ∈ Wall := wt6 (List.mem_of_getElem? (i := 16) rfl) rfl
theorem wc_X8_reckonsNeeded : Cond.code yX8_reckonsNeeded cX8_reckonsNeeded 3 none ∈ Wall := wt6 (List.mem_of_getElem? (i := 17) rfl) rfl
theorem wl_X8_253 : Cond.methodLink RX8 253 yX8_cellFor ∈ Wall := wt6 (List.mem_of_getElem? (i := 18) rfl) rfl
theorem wi_X8_cellFor : Cond.instanceMethod yX8_cellFor ∈ Wall := wt6 (List.mem_of_getElem? (i := 20) rfl) rfl
theorem wc_X8_cellFor : Cond.code yX8_cellFor cX8_cellFor 3 (some .int) ∈ Wall := wt6 (List.mem_of_getElem? (i := 21) rfl) rfl
theorem wl_X8_250 : Cond.methodLink RX8 250 yX8_worked ∈ Wall := wt6 (List.mem_of_getElem? (i := 22) rfl) rfl
theorem wi_X8_worked : Cond.instanceMethod yX8_worked ∈ Wall := wt6 (List.mem_of_getElem? (i := 24) rfl) rfl
theorem wc_X8_worked : Cond.code yX8_worked cX8_worked 4 (some .int) ∈ Wall := wt6 (List.mem_of_getElem? (i := 25) rfl) rfl
theorem wl_X8_266 : Cond.methodLink RX8 266 yX8_reckons ∈ Wall := wt6 (List.mem_of_getElem? (i := 26) rfl) rfl
theorem wi_X8_reckons : Cond.instanceMethod yX8_reckons ∈ Wall := wt6 (List.mem_of_getElem? (i := 28) rfl) rfl
theorem wc_X8_reckons : Cond.code yX8_reckons cX8_reckons 3 none ∈ Wall := wt6 (List.mem_of_getElem? (i := 29) rfl) rfl
theorem wl_X8_269 : Cond.methodLink RX8 269 yX8_holds ∈ Wall := wt6 (List.mem_of_getElem? (i := 30) rfl) rfl
theorem wi_X8_holds : Cond.instanceMethod yX8_holds ∈ Wall := wt6 (List.mem_of_getElem? (i := 32) rfl) rfl
theorem wc_X8_holds : Cond.code yX8_holds cX8_holds 1 (some .boolean) ∈ Wall := wt6 (List.mem_of_getElem? (i := 33) rfl) rfl
theorem wl_L_116 : Cond.methodLink RL 116 yX8_runReduced ∈ Wall := wt6 (List.mem_of_getElem? (i := 34) rfl) rfl
theorem wi_X8_runReduced : Cond.instanceMethod yX8_runReduced ∈ Wall := wt6 (List.mem_of_getElem? (i := 35) rfl) rfl
theorem wz_X8_runReduced : Cond.selects RX8 yX8_runReduced yX8_runReduced ∈ Wall := wt6 (List.mem_of_getElem? (i := 36) rfl) rfl
theorem wc_X8_runReduced : Cond.code yX8_runReduced cX8_runReduced 4 (some .int) ∈ Wall := wt6 (List.mem_of_getElem? (i := 37) rfl) rfl
theorem wl_L_120 : Cond.methodLink RL 120 yX8_seen ∈ Wall := wt6 (List.mem_of_getElem? (i := 38) rfl) rfl
theorem wi_X8_seen : Cond.instanceMethod yX8_seen ∈ Wall := wt6 (List.mem_of_getElem? (i := 39) rfl) rfl
theorem wz_X8_seen : Cond.selects RX8 yX8_seen yX8_seen ∈ Wall := wt6 (List.mem_of_getElem? (i := 40) rfl) rfl
theorem wc_X8_seen : Cond.code yX8_seen cX8_seen 2 (some .int) ∈ Wall := wt6 (List.mem_of_getElem? (i := 41) rfl) rfl
theorem wl_L_124 : Cond.methodLink RL 124 yX8_ahead ∈ Wall := wt6 (List.mem_of_getElem? (i := 42) rfl) rfl
theorem wi_X8_ahead : Cond.instanceMethod yX8_ahead ∈ Wall := wt6 (List.mem_of_getElem? (i := 43) rfl) rfl
theorem wz_X8_ahead : Cond.selects RX8 yX8_ahead yX8_ahead ∈ Wall := wt6 (List.mem_of_getElem? (i := 44) rfl) rfl
theorem wc_X8_ahead : Cond.code yX8_ahead cX8_ahead 4 (some .int) ∈ Wall := wt6 (List.mem_of_getElem? (i := 45) rfl) rfl
theorem wl_X8_280 : Cond.methodLink RX8 280 yX8_aheadOf ∈ Wall := wt6 (List.mem_of_getElem? (i := 46) rfl) rfl
theorem wi_X8_aheadOf : Cond.instanceMethod yX8_aheadOf ∈ Wall := wt6 (List.mem_of_getElem? (i := 48) rfl) rfl
theorem wc_X8_aheadOf : Cond.code yX8_aheadOf cX8_aheadOf 1 (some .int) ∈ Wall := wt6 (List.mem_of_getElem? (i := 49) rfl) rfl
theorem wl_X8_277 : Cond.methodLink RX8 277 yX8_firstNought ∈ Wall := wt6 (List.mem_of_getElem? (i := 50) rfl) rfl
theorem wi_X8_firstNought : Cond.instanceMethod yX8_firstNought ∈ Wall := wt6 (List.mem_of_getElem? (i := 52) rfl) rfl
theorem wc_X8_firstNought : Cond.code yX8_firstNought cX8_firstNought 4 (some .int) ∈ Wall := wt6 (List.mem_of_getElem? (i := 53) rfl) rfl
theorem wl_L_128 : Cond.methodLink RL 128 yX8_swapped ∈ Wall := wt6 (List.mem_of_getElem? (i := 54) rfl) rfl
theorem wi_X8_swapped : Cond.instanceMethod yX8_swapped ∈ Wall := wt6 (List.mem_of_getElem? (i := 55) rfl) rfl
theorem wz_X8_swapped : Cond.selects RX8 yX8_swapped yX8_swapped ∈ Wall := wt6 (List.mem_of_getElem? (i := 56) rfl) rfl
theorem wc_X8_swapped : Cond.code yX8_swapped cX8_swapped 7 (some .int) ∈ Wall := wt6 (List.mem_of_getElem? (i := 57) rfl) rfl
theorem wz_X3_add : Cond.selects RX3 yX3_add yX3_add ∈ Wall := Wall_sel (q := (yX3_add, 13)) (List.mem_append_left _ (List.mem_of_getElem? (i := 0) rfl)) rfl
theorem wz_X3_isOf : Cond.selects RX3 yX3_isOf yX3_isOf ∈ Wall := Wall_sel (q := (yX3_isOf, 13)) (List.mem_append_left _ (List.mem_of_getElem? (i := 1) rfl)) rfl
theorem wz_X3_has : Cond.selects RX3 yX3_has yX3_has ∈ Wall := Wall_sel (q := (yX3_has, 13)) (List.mem_append_left _ (List.mem_of_getElem? (i := 2) rfl)) rfl
theorem wz_X3_takeLast : Cond.selects RX3 yX3_takeLast yX3_takeLast ∈ Wall := Wall_sel (q := (yX3_takeLast, 13)) (List.mem_append_left _ (List.mem_of_getElem? (i := 3) rfl)) rfl
theorem wz_X3_isAsked : Cond.selects RX3 yX3_isAsked yX3_isAsked ∈ Wall := Wall_sel (q := (yX3_isAsked, 13)) (List.mem_append_left _ (List.mem_of_getElem? (i := 4) rfl)) rfl
theorem wz_X3_asked : Cond.selects RX3 yX3_asked yX3_asked ∈ Wall := Wall_sel (q := (yX3_asked, 13)) (List.mem_append_left _ (List.mem_of_getElem? (i := 5) rfl)) rfl
theorem wz_X3_isUsed : Cond.selects RX3 yX3_isUsed yX3_isUsed ∈ Wall := Wall_sel (q := (yX3_isUsed, 13)) (List.mem_append_left _ (List.mem_of_getElem? (i := 6) rfl)) rfl
theorem wz_X3_usesIt : Cond.selects RX3 yX3_usesIt yX3_usesIt ∈ Wall := Wall_sel (q := (yX3_usesIt, 13)) (List.mem_append_left _ (List.mem_of_getElem? (i := 7) rfl)) rfl
theorem wz_X0_refresh : Cond.selects RX0 yX0_refresh yX0_refresh ∈ Wall := Wall_sel (q := (yX0_refresh, 7)) (List.mem_append_left _ (List.mem_of_getElem? (i := 8) rfl)) rfl
theorem wz_X0_findMembers : Cond.selects RX0 yX0_findMembers yX0_findMembers ∈ Wall := Wall_sel (q := (yX0_findMembers, 7)) (List.mem_append_left _ (List.mem_of_getElem? (i := 9) rfl)) rfl
theorem wz_X3_parts : Cond.selects RX3 yX3_parts yX3_parts ∈ Wall := Wall_sel (q := (yX3_parts, 13)) (List.mem_append_left _ (List.mem_of_getElem? (i := 10) rfl)) rfl
theorem wz_X3_isMade : Cond.selects RX3 yX3_isMade yX3_isMade ∈ Wall := Wall_sel (q := (yX3_isMade, 13)) (List.mem_append_left _ (List.mem_of_getElem? (i := 11) rfl)) rfl
theorem wz_X0_settleCycle : Cond.selects RX0 yX0_settleCycle yX0_settleCycle ∈ Wall := Wall_sel (q := (yX0_settleCycle, 7)) (List.mem_append_left _ (List.mem_of_getElem? (i := 12) rfl)) rfl
theorem wz_X0_settleTurning : Cond.selects RX0 yX0_settleTurning yX0_settleTurning ∈ Wall := Wall_sel (q := (yX0_settleTurning, 7)) (List.mem_append_left _ (List.mem_of_getElem? (i := 13) rfl)) rfl
theorem wz_X1_clear : Cond.selects RX1 yX1_clear yX1_clear ∈ Wall := Wall_sel (q := (yX1_clear, 3)) (List.mem_append_left _ (List.mem_of_getElem? (i := 14) rfl)) rfl
theorem wz_X5_clear : Cond.selects RX5 yX5_clear yX5_clear ∈ Wall := Wall_sel (q := (yX5_clear, 4)) (List.mem_append_left _ (List.mem_of_getElem? (i := 15) rfl)) rfl
theorem wz_X0_weigh : Cond.selects RX0 yX0_weigh yX0_weigh ∈ Wall := Wall_sel (q := (yX0_weigh, 7)) (List.mem_append_right _ (List.mem_append_left _ (List.mem_of_getElem? (i := 0) rfl))) rfl
theorem wz_X0_mayStandIn : Cond.selects RX0 yX0_mayStandIn yX0_mayStandIn ∈ Wall := Wall_sel (q := (yX0_mayStandIn, 7)) (List.mem_append_right _ (List.mem_append_left _ (List.mem_of_getElem? (i := 1) rfl))) rfl
theorem wz_X0_weight : Cond.selects RX0 yX0_weight yX0_weight ∈ Wall := Wall_sel (q := (yX0_weight, 7)) (List.mem_append_right _ (List.mem_append_left _ (List.mem_of_getElem? (i := 2) rfl))) rfl
theorem wz_X1_putSum : Cond.selects RX1 yX1_putSum yX1_putSum ∈ Wall := Wall_sel (q := (yX1_putSum, 3)) (List.mem_append_right _ (List.mem_append_left _ (List.mem_of_getElem? (i := 3) rfl))) rfl
theorem wz_X5_putSum : Cond.selects RX5 yX5_putSum yX5_putSum ∈ Wall := Wall_sel (q := (yX5_putSum, 4)) (List.mem_append_right _ (List.mem_append_left _ (List.mem_of_getElem? (i := 4) rfl))) rfl
theorem wz_X1_putTimes : Cond.selects RX1 yX1_putTimes yX1_putTimes ∈ Wall := Wall_sel (q := (yX1_putTimes, 3)) (List.mem_append_right _ (List.mem_append_left _ (List.mem_of_getElem? (i := 5) rfl))) rfl
theorem wz_X1_degree : Cond.selects RX1 yX1_degree yX1_degree ∈ Wall := Wall_sel (q := (yX1_degree, 3)) (List.mem_append_right _ (List.mem_append_left _ (List.mem_of_getElem? (i := 6) rfl))) rfl
theorem wz_X1_putAddedUp : Cond.selects RX1 yX1_putAddedUp yX1_putAddedUp ∈ Wall := Wall_sel (q := (yX1_putAddedUp, 3)) (List.mem_append_right _ (List.mem_append_left _ (List.mem_of_getElem? (i := 7) rfl))) rfl
theorem wz_X0_settleLater : Cond.selects RX0 yX0_settleLater yX0_settleLater ∈ Wall := Wall_sel (q := (yX0_settleLater, 7)) (List.mem_append_right _ (List.mem_append_left _ (List.mem_of_getElem? (i := 8) rfl))) rfl
theorem wz_X1_isThere : Cond.selects RX1 yX1_isThere yX1_isThere ∈ Wall := Wall_sel (q := (yX1_isThere, 3)) (List.mem_append_right _ (List.mem_append_left _ (List.mem_of_getElem? (i := 9) rfl))) rfl
theorem wz_X1_putLater : Cond.selects RX1 yX1_putLater yX1_putLater ∈ Wall := Wall_sel (q := (yX1_putLater, 3)) (List.mem_append_right _ (List.mem_append_left _ (List.mem_of_getElem? (i := 10) rfl))) rfl
theorem wz_X1_startsAlike : Cond.selects RX1 yX1_startsAlike yX1_startsAlike ∈ Wall := Wall_sel (q := (yX1_startsAlike, 3)) (List.mem_append_right _ (List.mem_append_left _ (List.mem_of_getElem? (i := 11) rfl))) rfl
theorem wz_X5_isSame : Cond.selects RX5 yX5_isSame yX5_isSame ∈ Wall := Wall_sel (q := (yX5_isSame, 4)) (List.mem_append_right _ (List.mem_append_left _ (List.mem_of_getElem? (i := 12) rfl))) rfl
theorem wz_X0_setKinds : Cond.selects RX0 yX0_setKinds yX0_setKinds ∈ Wall := Wall_sel (q := (yX0_setKinds, 7)) (List.mem_append_right _ (List.mem_append_left _ (List.mem_of_getElem? (i := 13) rfl))) rfl
theorem wz_X0_settleAlone : Cond.selects RX0 yX0_settleAlone yX0_settleAlone ∈ Wall := Wall_sel (q := (yX0_settleAlone, 7)) (List.mem_append_right _ (List.mem_append_left _ (List.mem_of_getElem? (i := 14) rfl))) rfl
theorem wz_X1_putOne : Cond.selects RX1 yX1_putOne yX1_putOne ∈ Wall := Wall_sel (q := (yX1_putOne, 3)) (List.mem_append_right _ (List.mem_append_left _ (List.mem_of_getElem? (i := 15) rfl))) rfl
theorem wz_X5_putOne : Cond.selects RX5 yX5_putOne yX5_putOne ∈ Wall := Wall_sel (q := (yX5_putOne, 4)) (List.mem_append_right _ (List.mem_append_right _ (List.mem_append_left _ (List.mem_of_getElem? (i := 0) rfl)))) rfl
theorem wz_X0_settleMade : Cond.selects RX0 yX0_settleMade yX0_settleMade ∈ Wall := Wall_sel (q := (yX0_settleMade, 7)) (List.mem_append_right _ (List.mem_append_right _ (List.mem_append_left _ (List.mem_of_getElem? (i := 1) rfl)))) rfl
theorem wz_X1_putProduct : Cond.selects RX1 yX1_putProduct yX1_putProduct ∈ Wall := Wall_sel (q := (yX1_putProduct, 3)) (List.mem_append_right _ (List.mem_append_right _ (List.mem_append_left _ (List.mem_of_getElem? (i := 2) rfl)))) rfl
theorem wz_X5_addProduct : Cond.selects RX5 yX5_addProduct yX5_addProduct ∈ Wall := Wall_sel (q := (yX5_addProduct, 4)) (List.mem_append_right _ (List.mem_append_right _ (List.mem_append_left _ (List.mem_of_getElem? (i := 3) rfl)))) rfl
theorem wz_X2_placeOfProduct : Cond.selects RX2 yX2_placeOfProduct yX2_placeOfProduct ∈ Wall := Wall_sel (q := (yX2_placeOfProduct, 5)) (List.mem_append_right _ (List.mem_append_right _ (List.mem_append_left _ (List.mem_of_getElem? (i := 4) rfl)))) rfl
theorem wz_X5_trim : Cond.selects RX5 yX5_trim yX5_trim ∈ Wall := Wall_sel (q := (yX5_trim, 4)) (List.mem_append_right _ (List.mem_append_right _ (List.mem_append_left _ (List.mem_of_getElem? (i := 5) rfl)))) rfl
theorem wz_X0_leastAlike : Cond.selects RX0 yX0_leastAlike yX0_leastAlike ∈ Wall := Wall_sel (q := (yX0_leastAlike, 7)) (List.mem_append_right _ (List.mem_append_right _ (List.mem_append_left _ (List.mem_of_getElem? (i := 6) rfl)))) rfl
theorem wz_X1_isSame : Cond.selects RX1 yX1_isSame yX1_isSame ∈ Wall := Wall_sel (q := (yX1_isSame, 3)) (List.mem_append_right _ (List.mem_append_right _ (List.mem_append_left _ (List.mem_of_getElem? (i := 7) rfl)))) rfl
theorem wz_X1_polyBehind : Cond.selects RX1 yX1_polyBehind yX1_polyBehind ∈ Wall := Wall_sel (q := (yX1_polyBehind, 3)) (List.mem_append_right _ (List.mem_append_right _ (List.mem_append_left _ (List.mem_of_getElem? (i := 8) rfl)))) rfl
theorem wz_X7_hasPoly : Cond.selects RX7 yX7_hasPoly yX7_hasPoly ∈ Wall := Wall_sel (q := (yX7_hasPoly, 7)) (List.mem_append_right _ (List.mem_append_right _ (List.mem_append_left _ (List.mem_of_getElem? (i := 9) rfl)))) rfl
theorem wz_X5_amount : Cond.selects RX5 yX5_amount yX5_amount ∈ Wall := Wall_sel (q := (yX5_amount, 4)) (List.mem_append_right _ (List.mem_append_right _ (List.mem_append_left _ (List.mem_of_getElem? (i := 10) rfl)))) rfl
theorem wz_X5_placeOf : Cond.selects RX5 yX5_placeOf yX5_placeOf ∈ Wall := Wall_sel (q := (yX5_placeOf, 4)) (List.mem_append_right _ (List.mem_append_right _ (List.mem_append_left _ (List.mem_of_getElem? (i := 11) rfl)))) rfl
theorem wz_X5_factorAt : Cond.selects RX5 yX5_factorAt yX5_factorAt ∈ Wall := Wall_sel (q := (yX5_factorAt, 4)) (List.mem_append_right _ (List.mem_append_right _ (List.mem_append_left _ (List.mem_of_getElem? (i := 12) rfl)))) rfl
theorem wz_X2_exponent : Cond.selects RX2 yX2_exponent yX2_exponent ∈ Wall := Wall_sel (q := (yX2_exponent, 5)) (List.mem_append_right _ (List.mem_append_right _ (List.mem_append_left _ (List.mem_of_getElem? (i := 13) rfl)))) rfl
theorem wz_X2_give : Cond.selects RX2 yX2_give yX2_give ∈ Wall := Wall_sel (q := (yX2_give, 5)) (List.mem_append_right _ (List.mem_append_right _ (List.mem_append_left _ (List.mem_of_getElem? (i := 14) rfl)))) rfl
theorem wz_X2_fillPowers : Cond.selects RX2 yX2_fillPowers yX2_fillPowers ∈ Wall := Wall_sel (q := (yX2_fillPowers, 5)) (List.mem_append_right _ (List.mem_append_right _ (List.mem_append_left _ (List.mem_of_getElem? (i := 15) rfl)))) rfl
theorem wz_X5_worth : Cond.selects RX5 yX5_worth yX5_worth ∈ Wall := Wall_sel (q := (yX5_worth, 4)) (List.mem_append_right _ (List.mem_append_right _ (List.mem_append_right _ (List.mem_append_left _ (List.mem_of_getElem? (i := 0) rfl))))) rfl
theorem wz_X2_worth : Cond.selects RX2 yX2_worth yX2_worth ∈ Wall := Wall_sel (q := (yX2_worth, 5)) (List.mem_append_right _ (List.mem_append_right _ (List.mem_append_right _ (List.mem_append_left _ (List.mem_of_getElem? (i := 1) rfl))))) rfl
theorem wz_X6_give : Cond.selects RX6 yX6_give yX6_give ∈ Wall := Wall_sel (q := (yX6_give, 11)) (List.mem_append_right _ (List.mem_append_right _ (List.mem_append_right _ (List.mem_append_left _ (List.mem_of_getElem? (i := 2) rfl))))) rfl
theorem wz_X0_roundBy : Cond.selects RX0 yX0_roundBy yX0_roundBy ∈ Wall := Wall_sel (q := (yX0_roundBy, 7)) (List.mem_append_right _ (List.mem_append_right _ (List.mem_append_right _ (List.mem_append_left _ (List.mem_of_getElem? (i := 3) rfl))))) rfl
theorem wz_X6_startOf : Cond.selects RX6 yX6_startOf yX6_startOf ∈ Wall := Wall_sel (q := (yX6_startOf, 11)) (List.mem_append_right _ (List.mem_append_right _ (List.mem_append_right _ (List.mem_append_left _ (List.mem_of_getElem? (i := 4) rfl))))) rfl
theorem wz_X6_numberOf : Cond.selects RX6 yX6_numberOf yX6_numberOf ∈ Wall := Wall_sel (q := (yX6_numberOf, 11)) (List.mem_append_right _ (List.mem_append_right _ (List.mem_append_right _ (List.mem_append_left _ (List.mem_of_getElem? (i := 5) rfl))))) rfl
theorem wz_X1_tell : Cond.selects RX1 yX1_tell yX1_tell ∈ Wall := Wall_sel (q := (yX1_tell, 3)) (List.mem_append_right _ (List.mem_append_right _ (List.mem_append_right _ (List.mem_append_left _ (List.mem_of_getElem? (i := 6) rfl))))) rfl
theorem wz_X1_worth : Cond.selects RX1 yX1_worth yX1_worth ∈ Wall := Wall_sel (q := (yX1_worth, 3)) (List.mem_append_right _ (List.mem_append_right _ (List.mem_append_right _ (List.mem_append_left _ (List.mem_of_getElem? (i := 7) rfl))))) rfl
theorem wz_X4_refresh : Cond.selects RX4 yX4_refresh yX4_refresh ∈ Wall := Wall_sel (q := (yX4_refresh, 11)) (List.mem_append_right _ (List.mem_append_right _ (List.mem_append_right _ (List.mem_append_left _ (List.mem_of_getElem? (i := 8) rfl))))) rfl
theorem wz_X4_neededFor : Cond.selects RX4 yX4_neededFor yX4_neededFor ∈ Wall := Wall_sel (q := (yX4_neededFor, 11)) (List.mem_append_right _ (List.mem_append_right _ (List.mem_append_right _ (List.mem_append_left _ (List.mem_of_getElem? (i := 9) rfl))))) rfl
theorem wz_X4_isOfCells : Cond.selects RX4 yX4_isOfCells yX4_isOfCells ∈ Wall := Wall_sel (q := (yX4_isOfCells, 11)) (List.mem_append_right _ (List.mem_append_right _ (List.mem_append_right _ (List.mem_append_left _ (List.mem_of_getElem? (i := 10) rfl))))) rfl
theorem wz_X4_addCells : Cond.selects RX4 yX4_addCells yX4_addCells ∈ Wall := Wall_sel (q := (yX4_addCells, 11)) (List.mem_append_right _ (List.mem_append_right _ (List.mem_append_right _ (List.mem_append_left _ (List.mem_of_getElem? (i := 11) rfl))))) rfl
theorem wz_X4_placeOf : Cond.selects RX4 yX4_placeOf yX4_placeOf ∈ Wall := Wall_sel (q := (yX4_placeOf, 11)) (List.mem_append_right _ (List.mem_append_right _ (List.mem_append_right _ (List.mem_append_left _ (List.mem_of_getElem? (i := 12) rfl))))) rfl
theorem wz_X3_amountOf : Cond.selects RX3 yX3_amountOf yX3_amountOf ∈ Wall := Wall_sel (q := (yX3_amountOf, 13)) (List.mem_append_right _ (List.mem_append_right _ (List.mem_append_right _ (List.mem_append_left _ (List.mem_of_getElem? (i := 13) rfl))))) rfl
theorem wz_X4_sumsLeft : Cond.selects RX4 yX4_sumsLeft yX4_sumsLeft ∈ Wall := Wall_sel (q := (yX4_sumsLeft, 11)) (List.mem_append_right _ (List.mem_append_right _ (List.mem_append_right _ (List.mem_append_left _ (List.mem_of_getElem? (i := 14) rfl))))) rfl
theorem wz_X4_productsLeft : Cond.selects RX4 yX4_productsLeft yX4_productsLeft ∈ Wall := Wall_sel (q := (yX4_productsLeft, 11)) (List.mem_append_right _ (List.mem_append_right _ (List.mem_append_right _ (List.mem_append_left _ (List.mem_of_getElem? (i := 15) rfl))))) rfl
theorem wz_X4_degree : Cond.selects RX4 yX4_degree yX4_degree ∈ Wall := Wall_sel (q := (yX4_degree, 11)) (List.mem_append_right _ (List.mem_append_right _ (List.mem_append_right _ (List.mem_append_right _ (List.mem_append_left _ (List.mem_of_getElem? (i := 0) rfl)))))) rfl
theorem wz_X6_goPlainly : Cond.selects RX6 yX6_goPlainly yX6_goPlainly ∈ Wall := Wall_sel (q := (yX6_goPlainly, 11)) (List.mem_append_right _ (List.mem_append_right _ (List.mem_append_right _ (List.mem_append_right _ (List.mem_append_left _ (List.mem_of_getElem? (i := 1) rfl)))))) rfl
theorem wz_X6_fillGiven : Cond.selects RX6 yX6_fillGiven yX6_fillGiven ∈ Wall := Wall_sel (q := (yX6_fillGiven, 11)) (List.mem_append_right _ (List.mem_append_right _ (List.mem_append_right _ (List.mem_append_right _ (List.mem_append_left _ (List.mem_of_getElem? (i := 2) rfl)))))) rfl
theorem wz_X6_go : Cond.selects RX6 yX6_go yX6_go ∈ Wall := Wall_sel (q := (yX6_go, 11)) (List.mem_append_right _ (List.mem_append_right _ (List.mem_append_right _ (List.mem_append_right _ (List.mem_append_left _ (List.mem_of_getElem? (i := 3) rfl)))))) rfl
theorem wz_X6_carryInto : Cond.selects RX6 yX6_carryInto yX6_carryInto ∈ Wall := Wall_sel (q := (yX6_carryInto, 11)) (List.mem_append_right _ (List.mem_append_right _ (List.mem_append_right _ (List.mem_append_right _ (List.mem_append_left _ (List.mem_of_getElem? (i := 4) rfl)))))) rfl
theorem wz_X6_isReckoned : Cond.selects RX6 yX6_isReckoned yX6_isReckoned ∈ Wall := Wall_sel (q := (yX6_isReckoned, 11)) (List.mem_append_right _ (List.mem_append_right _ (List.mem_append_right _ (List.mem_append_right _ (List.mem_append_left _ (List.mem_of_getElem? (i := 5) rfl)))))) rfl
theorem wz_X6_reckonNeeded : Cond.selects RX6 yX6_reckonNeeded yX6_reckonNeeded ∈ Wall := Wall_sel (q := (yX6_reckonNeeded, 11)) (List.mem_append_right _ (List.mem_append_right _ (List.mem_append_right _ (List.mem_append_right _ (List.mem_append_left _ (List.mem_of_getElem? (i := 6) rfl)))))) rfl
theorem wz_X3_reckon : Cond.selects RX3 yX3_reckon yX3_reckon ∈ Wall := Wall_sel (q := (yX3_reckon, 13)) (List.mem_append_right _ (List.mem_append_right _ (List.mem_append_right _ (List.mem_append_right _ (List.mem_append_left _ (List.mem_of_getElem? (i := 7) rfl)))))) rfl
theorem wz_X6_reckonAll : Cond.selects RX6 yX6_reckonAll yX6_reckonAll ∈ Wall := Wall_sel (q := (yX6_reckonAll, 11)) (List.mem_append_right _ (List.mem_append_right _ (List.mem_append_right _ (List.mem_append_right _ (List.mem_append_left _ (List.mem_of_getElem? (i := 8) rfl)))))) rfl
theorem wz_X6_testHolds : Cond.selects RX6 yX6_testHolds yX6_testHolds ∈ Wall := Wall_sel (q := (yX6_testHolds, 11)) (List.mem_append_right _ (List.mem_append_right _ (List.mem_append_right _ (List.mem_append_right _ (List.mem_append_left _ (List.mem_of_getElem? (i := 9) rfl)))))) rfl
theorem wz_X6_see : Cond.selects RX6 yX6_see yX6_see ∈ Wall := Wall_sel (q := (yX6_see, 11)) (List.mem_append_right _ (List.mem_append_right _ (List.mem_append_right _ (List.mem_append_right _ (List.mem_append_left _ (List.mem_of_getElem? (i := 10) rfl)))))) rfl
theorem wz_X6_stepCells : Cond.selects RX6 yX6_stepCells yX6_stepCells ∈ Wall := Wall_sel (q := (yX6_stepCells, 11)) (List.mem_append_right _ (List.mem_append_right _ (List.mem_append_right _ (List.mem_append_right _ (List.mem_append_left _ (List.mem_of_getElem? (i := 11) rfl)))))) rfl
theorem wz_X6_goReduced : Cond.selects RX6 yX6_goReduced yX6_goReduced ∈ Wall := Wall_sel (q := (yX6_goReduced, 11)) (List.mem_append_right _ (List.mem_append_right _ (List.mem_append_right _ (List.mem_append_right _ (List.mem_append_left _ (List.mem_of_getElem? (i := 12) rfl)))))) rfl
theorem wz_X6_fillSteady : Cond.selects RX6 yX6_fillSteady yX6_fillSteady ∈ Wall := Wall_sel (q := (yX6_fillSteady, 11)) (List.mem_append_right _ (List.mem_append_right _ (List.mem_append_right _ (List.mem_append_right _ (List.mem_append_left _ (List.mem_of_getElem? (i := 13) rfl)))))) rfl
theorem wz_X6_fillCells : Cond.selects RX6 yX6_fillCells yX6_fillCells ∈ Wall := Wall_sel (q := (yX6_fillCells, 11)) (List.mem_append_right _ (List.mem_append_right _ (List.mem_append_right _ (List.mem_append_right _ (List.mem_append_left _ (List.mem_of_getElem? (i := 14) rfl)))))) rfl
theorem wz_X7_turnAhead : Cond.selects RX7 yX7_turnAhead yX7_turnAhead ∈ Wall := Wall_sel (q := (yX7_turnAhead, 7)) (List.mem_append_right _ (List.mem_append_right _ (List.mem_append_right _ (List.mem_append_right _ (List.mem_append_left _ (List.mem_of_getElem? (i := 15) rfl)))))) rfl
theorem wz_X7_firstZero : Cond.selects RX7 yX7_firstZero yX7_firstZero ∈ Wall := Wall_sel (q := (yX7_firstZero, 7)) (List.mem_append_right _ (List.mem_append_right _ (List.mem_append_right _ (List.mem_append_right _ (List.mem_append_right _ (List.mem_append_left _ (List.mem_of_getElem? (i := 0) rfl))))))) rfl
theorem wz_X7_period : Cond.selects RX7 yX7_period yX7_period ∈ Wall := Wall_sel (q := (yX7_period, 7)) (List.mem_append_right _ (List.mem_append_right _ (List.mem_append_right _ (List.mem_append_right _ (List.mem_append_right _ (List.mem_append_left _ (List.mem_of_getElem? (i := 1) rfl))))))) rfl
theorem wz_X8_cut : Cond.selects RX8 yX8_cut yX8_cut ∈ Wall := Wall_sel (q := (yX8_cut, 26)) (List.mem_append_right _ (List.mem_append_right _ (List.mem_append_right _ (List.mem_append_right _ (List.mem_append_right _ (List.mem_append_left _ (List.mem_of_getElem? (i := 3) rfl))))))) rfl
theorem wz_X8_comes : Cond.selects RX8 yX8_comes yX8_comes ∈ Wall := Wall_sel (q := (yX8_comes, 26)) (List.mem_append_right _ (List.mem_append_right _ (List.mem_append_right _ (List.mem_append_right _ (List.mem_append_right _ (List.mem_append_left _ (List.mem_of_getElem? (i := 4) rfl))))))) rfl
theorem wz_X8_many : Cond.selects RX8 yX8_many yX8_many ∈ Wall := Wall_sel (q := (yX8_many, 26)) (List.mem_append_right _ (List.mem_append_right _ (List.mem_append_right _ (List.mem_append_right _ (List.mem_append_right _ (List.mem_append_left _ (List.mem_of_getElem? (i := 5) rfl))))))) rfl
theorem wz_X8_isName : Cond.selects RX8 yX8_isName yX8_isName ∈ Wall := Wall_sel (q := (yX8_isName, 26)) (List.mem_append_right _ (List.mem_append_right _ (List.mem_append_right _ (List.mem_append_right _ (List.mem_append_right _ (List.mem_append_left _ (List.mem_of_getElem? (i := 6) rfl))))))) rfl
theorem wz_X8_isUsed : Cond.selects RX8 yX8_isUsed yX8_isUsed ∈ Wall := Wall_sel (q := (yX8_isUsed, 26)) (List.mem_append_right _ (List.mem_append_right _ (List.mem_append_right _ (List.mem_append_right _ (List.mem_append_right _ (List.mem_append_left _ (List.mem_of_getElem? (i := 7) rfl))))))) rfl
theorem wz_X8_laysHangs : Cond.selects RX8 yX8_laysHangs yX8_laysHangs ∈ Wall := Wall_sel (q := (yX8_laysHangs, 26)) (List.mem_append_right _ (List.mem_append_right _ (List.mem_append_right _ (List.mem_append_right _ (List.mem_append_right _ (List.mem_append_left _ (List.mem_of_getElem? (i := 8) rfl))))))) rfl
theorem wz_X8_direct : Cond.selects RX8 yX8_direct yX8_direct ∈ Wall := Wall_sel (q := (yX8_direct, 26)) (List.mem_append_right _ (List.mem_append_right _ (List.mem_append_right _ (List.mem_append_right _ (List.mem_append_right _ (List.mem_append_left _ (List.mem_of_getElem? (i := 9) rfl))))))) rfl
theorem wz_X8_cycleOf : Cond.selects RX8 yX8_cycleOf yX8_cycleOf ∈ Wall := Wall_sel (q := (yX8_cycleOf, 26)) (List.mem_append_right _ (List.mem_append_right _ (List.mem_append_right _ (List.mem_append_right _ (List.mem_append_right _ (List.mem_append_left _ (List.mem_of_getElem? (i := 10) rfl))))))) rfl
theorem wz_X8_lays : Cond.selects RX8 yX8_lays yX8_lays ∈ Wall := Wall_sel (q := (yX8_lays, 26)) (List.mem_append_right _ (List.mem_append_right _ (List.mem_append_right _ (List.mem_append_right _ (List.mem_append_right _ (List.mem_append_left _ (List.mem_of_getElem? (i := 11) rfl))))))) rfl
theorem wz_X8_laysCycle : Cond.selects RX8 yX8_laysCycle yX8_laysCycle ∈ Wall := Wall_sel (q := (yX8_laysCycle, 26)) (List.mem_append_right _ (List.mem_append_right _ (List.mem_append_right _ (List.mem_append_right _ (List.mem_append_right _ (List.mem_append_left _ (List.mem_of_getElem? (i := 12) rfl))))))) rfl
theorem wz_X8_laysNone : Cond.selects RX8 yX8_laysNone yX8_laysNone ∈ Wall := Wall_sel (q := (yX8_laysNone, 26)) (List.mem_append_right _ (List.mem_append_right _ (List.mem_append_right _ (List.mem_append_right _ (List.mem_append_right _ (List.mem_append_left _ (List.mem_of_getElem? (i := 13) rfl))))))) rfl
theorem wz_X8_laysGiven : Cond.selects RX8 yX8_laysGiven yX8_laysGiven ∈ Wall := Wall_sel (q := (yX8_laysGiven, 26)) (List.mem_append_right _ (List.mem_append_right _ (List.mem_append_right _ (List.mem_append_right _ (List.mem_append_right _ (List.mem_append_left _ (List.mem_of_getElem? (i := 14) rfl))))))) rfl
theorem wz_X8_empties : Cond.selects RX8 yX8_empties yX8_empties ∈ Wall := Wall_sel (q := (yX8_empties, 26)) (List.mem_append_right _ (List.mem_append_right _ (List.mem_append_right _ (List.mem_append_right _ (List.mem_append_right _ (List.mem_append_left _ (List.mem_of_getElem? (i := 15) rfl))))))) rfl
theorem wz_X8_laysOp : Cond.selects RX8 yX8_laysOp yX8_laysOp ∈ Wall := Wall_sel (q := (yX8_laysOp, 26)) (List.mem_append_right _ (List.mem_append_right _ (List.mem_append_right _ (List.mem_append_right _ (List.mem_append_right _ (List.mem_append_right _ (List.mem_append_left _ (List.mem_of_getElem? (i := 0) rfl)))))))) rfl
theorem wz_X8_hasForm : Cond.selects RX8 yX8_hasForm yX8_hasForm ∈ Wall := Wall_sel (q := (yX8_hasForm, 26)) (List.mem_append_right _ (List.mem_append_right _ (List.mem_append_right _ (List.mem_append_right _ (List.mem_append_right _ (List.mem_append_right _ (List.mem_append_left _ (List.mem_of_getElem? (i := 1) rfl)))))))) rfl
theorem wz_X8_joins : Cond.selects RX8 yX8_joins yX8_joins ∈ Wall := Wall_sel (q := (yX8_joins, 26)) (List.mem_append_right _ (List.mem_append_right _ (List.mem_append_right _ (List.mem_append_right _ (List.mem_append_right _ (List.mem_append_right _ (List.mem_append_left _ (List.mem_of_getElem? (i := 2) rfl)))))))) rfl
theorem wz_X8_multiplies : Cond.selects RX8 yX8_multiplies yX8_multiplies ∈ Wall := Wall_sel (q := (yX8_multiplies, 26)) (List.mem_append_right _ (List.mem_append_right _ (List.mem_append_right _ (List.mem_append_right _ (List.mem_append_right _ (List.mem_append_right _ (List.mem_append_left _ (List.mem_of_getElem? (i := 3) rfl)))))))) rfl
theorem wz_X8_degreeOf : Cond.selects RX8 yX8_degreeOf yX8_degreeOf ∈ Wall := Wall_sel (q := (yX8_degreeOf, 26)) (List.mem_append_right _ (List.mem_append_right _ (List.mem_append_right _ (List.mem_append_right _ (List.mem_append_right _ (List.mem_append_right _ (List.mem_append_left _ (List.mem_of_getElem? (i := 4) rfl)))))))) rfl
theorem wz_X8_isNought : Cond.selects RX8 yX8_isNought yX8_isNought ∈ Wall := Wall_sel (q := (yX8_isNought, 26)) (List.mem_append_right _ (List.mem_append_right _ (List.mem_append_right _ (List.mem_append_right _ (List.mem_append_right _ (List.mem_append_right _ (List.mem_append_left _ (List.mem_of_getElem? (i := 5) rfl)))))))) rfl
theorem wz_X8_multiplies_ : Cond.selects RX8 yX8_multiplies_ yX8_multiplies_ ∈ Wall := Wall_sel (q := (yX8_multiplies_, 26)) (List.mem_append_right _ (List.mem_append_right _ (List.mem_append_right _ (List.mem_append_right _ (List.mem_append_right _ (List.mem_append_right _ (List.mem_append_left _ (List.mem_of_getElem? (i := 6) rfl)))))))) rfl
theorem wz_X8_carries : Cond.selects RX8 yX8_carries yX8_carries ∈ Wall := Wall_sel (q := (yX8_carries, 26)) (List.mem_append_right _ (List.mem_append_right _ (List.mem_append_right _ (List.mem_append_right _ (List.mem_append_right _ (List.mem_append_right _ (List.mem_append_left _ (List.mem_of_getElem? (i := 7) rfl)))))))) rfl
theorem wz_X8_laysLater : Cond.selects RX8 yX8_laysLater yX8_laysLater ∈ Wall := Wall_sel (q := (yX8_laysLater, 26)) (List.mem_append_right _ (List.mem_append_right _ (List.mem_append_right _ (List.mem_append_right _ (List.mem_append_right _ (List.mem_append_right _ (List.mem_append_left _ (List.mem_of_getElem? (i := 8) rfl)))))))) rfl
theorem wz_X8_copies : Cond.selects RX8 yX8_copies yX8_copies ∈ Wall := Wall_sel (q := (yX8_copies, 26)) (List.mem_append_right _ (List.mem_append_right _ (List.mem_append_right _ (List.mem_append_right _ (List.mem_append_right _ (List.mem_append_right _ (List.mem_append_left _ (List.mem_of_getElem? (i := 9) rfl)))))))) rfl
theorem wz_X8_laysCarried : Cond.selects RX8 yX8_laysCarried yX8_laysCarried ∈ Wall := Wall_sel (q := (yX8_laysCarried, 26)) (List.mem_append_right _ (List.mem_append_right _ (List.mem_append_right _ (List.mem_append_right _ (List.mem_append_right _ (List.mem_append_right _ (List.mem_append_left _ (List.mem_of_getElem? (i := 10) rfl)))))))) rfl
theorem wz_X8_laysPart : Cond.selects RX8 yX8_laysPart yX8_laysPart ∈ Wall := Wall_sel (q := (yX8_laysPart, 26)) (List.mem_append_right _ (List.mem_append_right _ (List.mem_append_right _ (List.mem_append_right _ (List.mem_append_right _ (List.mem_append_right _ (List.mem_append_left _ (List.mem_of_getElem? (i := 11) rfl)))))))) rfl
theorem wz_X8_partOf : Cond.selects RX8 yX8_partOf yX8_partOf ∈ Wall := Wall_sel (q := (yX8_partOf, 26)) (List.mem_append_right _ (List.mem_append_right _ (List.mem_append_right _ (List.mem_append_right _ (List.mem_append_right _ (List.mem_append_right _ (List.mem_append_left _ (List.mem_of_getElem? (i := 12) rfl)))))))) rfl
theorem wz_X8_bits : Cond.selects RX8 yX8_bits yX8_bits ∈ Wall := Wall_sel (q := (yX8_bits, 26)) (List.mem_append_right _ (List.mem_append_right _ (List.mem_append_right _ (List.mem_append_right _ (List.mem_append_right _ (List.mem_append_right _ (List.mem_append_left _ (List.mem_of_getElem? (i := 13) rfl)))))))) rfl
theorem wz_X8_areAlike : Cond.selects RX8 yX8_areAlike yX8_areAlike ∈ Wall := Wall_sel (q := (yX8_areAlike, 26)) (List.mem_append_right _ (List.mem_append_right _ (List.mem_append_right _ (List.mem_append_right _ (List.mem_append_right _ (List.mem_append_right _ (List.mem_append_left _ (List.mem_of_getElem? (i := 14) rfl)))))))) rfl
theorem wz_X8_isPoly : Cond.selects RX8 yX8_isPoly yX8_isPoly ∈ Wall := Wall_sel (q := (yX8_isPoly, 26)) (List.mem_append_right _ (List.mem_append_right _ (List.mem_append_right _ (List.mem_append_right _ (List.mem_append_right _ (List.mem_append_right _ (List.mem_append_left _ (List.mem_of_getElem? (i := 15) rfl)))))))) rfl
theorem wz_X8_gives : Cond.selects RX8 yX8_gives yX8_gives ∈ Wall := Wall_sel (q := (yX8_gives, 26)) (List.mem_append_right _ (List.mem_append_right _ (List.mem_append_right _ (List.mem_append_right _ (List.mem_append_right _ (List.mem_append_right _ (List.mem_append_right _ (List.mem_append_left _ (List.mem_of_getElem? (i := 0) rfl))))))))) rfl
theorem wz_X8_valueOf : Cond.selects RX8 yX8_valueOf yX8_valueOf ∈ Wall := Wall_sel (q := (yX8_valueOf, 26)) (List.mem_append_right _ (List.mem_append_right _ (List.mem_append_right _ (List.mem_append_right _ (List.mem_append_right _ (List.mem_append_right _ (List.mem_append_right _ (List.mem_append_left _ (List.mem_of_getElem? (i := 1) rfl))))))))) rfl
theorem wz_X8_power : Cond.selects RX8 yX8_power yX8_power ∈ Wall := Wall_sel (q := (yX8_power, 26)) (List.mem_append_right _ (List.mem_append_right _ (List.mem_append_right _ (List.mem_append_right _ (List.mem_append_right _ (List.mem_append_right _ (List.mem_append_right _ (List.mem_append_left _ (List.mem_of_getElem? (i := 2) rfl))))))))) rfl
theorem wz_X8_startOf : Cond.selects RX8 yX8_startOf yX8_startOf ∈ Wall := Wall_sel (q := (yX8_startOf, 26)) (List.mem_append_right _ (List.mem_append_right _ (List.mem_append_right _ (List.mem_append_right _ (List.mem_append_right _ (List.mem_append_right _ (List.mem_append_right _ (List.mem_append_left _ (List.mem_of_getElem? (i := 3) rfl))))))))) rfl
theorem wz_X8_tells : Cond.selects RX8 yX8_tells yX8_tells ∈ Wall := Wall_sel (q := (yX8_tells, 26)) (List.mem_append_right _ (List.mem_append_right _ (List.mem_append_right _ (List.mem_append_right _ (List.mem_append_right _ (List.mem_append_right _ (List.mem_append_right _ (List.mem_append_left _ (List.mem_of_getElem? (i := 4) rfl))))))))) rfl
theorem wz_X8_reduces : Cond.selects RX8 yX8_reduces yX8_reduces ∈ Wall := Wall_sel (q := (yX8_reduces, 26)) (List.mem_append_right _ (List.mem_append_right _ (List.mem_append_right _ (List.mem_append_right _ (List.mem_append_right _ (List.mem_append_right _ (List.mem_append_right _ (List.mem_append_left _ (List.mem_of_getElem? (i := 5) rfl))))))))) rfl
theorem wz_X8_asked : Cond.selects RX8 yX8_asked yX8_asked ∈ Wall := Wall_sel (q := (yX8_asked, 26)) (List.mem_append_right _ (List.mem_append_right _ (List.mem_append_right _ (List.mem_append_right _ (List.mem_append_right _ (List.mem_append_right _ (List.mem_append_right _ (List.mem_append_left _ (List.mem_of_getElem? (i := 6) rfl))))))))) rfl
theorem wz_X8_neededBy : Cond.selects RX8 yX8_neededBy yX8_neededBy ∈ Wall := Wall_sel (q := (yX8_neededBy, 26)) (List.mem_append_right _ (List.mem_append_right _ (List.mem_append_right _ (List.mem_append_right _ (List.mem_append_right _ (List.mem_append_right _ (List.mem_append_right _ (List.mem_append_left _ (List.mem_of_getElem? (i := 7) rfl))))))))) rfl
theorem wz_X8_laysCells : Cond.selects RX8 yX8_laysCells yX8_laysCells ∈ Wall := Wall_sel (q := (yX8_laysCells, 26)) (List.mem_append_right _ (List.mem_append_right _ (List.mem_append_right _ (List.mem_append_right _ (List.mem_append_right _ (List.mem_append_right _ (List.mem_append_right _ (List.mem_append_left _ (List.mem_of_getElem? (i := 8) rfl))))))))) rfl
theorem wz_X8_cellOf : Cond.selects RX8 yX8_cellOf yX8_cellOf ∈ Wall := Wall_sel (q := (yX8_cellOf, 26)) (List.mem_append_right _ (List.mem_append_right _ (List.mem_append_right _ (List.mem_append_right _ (List.mem_append_right _ (List.mem_append_right _ (List.mem_append_right _ (List.mem_append_left _ (List.mem_of_getElem? (i := 9) rfl))))))))) rfl
theorem wz_X8_manyOf : Cond.selects RX8 yX8_manyOf yX8_manyOf ∈ Wall := Wall_sel (q := (yX8_manyOf, 26)) (List.mem_append_right _ (List.mem_append_right _ (List.mem_append_right _ (List.mem_append_right _ (List.mem_append_right _ (List.mem_append_right _ (List.mem_append_right _ (List.mem_append_left _ (List.mem_of_getElem? (i := 10) rfl))))))))) rfl
theorem wz_X8_runs : Cond.selects RX8 yX8_runs yX8_runs ∈ Wall := Wall_sel (q := (yX8_runs, 26)) (List.mem_append_right _ (List.mem_append_right _ (List.mem_append_right _ (List.mem_append_right _ (List.mem_append_right _ (List.mem_append_right _ (List.mem_append_right _ (List.mem_append_left _ (List.mem_of_getElem? (i := 11) rfl))))))))) rfl
theorem wz_X8_addsCells : Cond.selects RX8 yX8_addsCells yX8_addsCells ∈ Wall := Wall_sel (q := (yX8_addsCells, 26)) (List.mem_append_right _ (List.mem_append_right _ (List.mem_append_right _ (List.mem_append_right _ (List.mem_append_right _ (List.mem_append_right _ (List.mem_append_right _ (List.mem_append_left _ (List.mem_of_getElem? (i := 12) rfl))))))))) rfl
theorem wz_X8_reckonsNeeded : Cond.selects RX8 yX8_reckonsNeeded yX8_reckonsNeeded ∈ Wall := Wall_sel (q := (yX8_reckonsNeeded, 26)) (List.mem_append_right _ (List.mem_append_right _ (List.mem_append_right _ (List.mem_append_right _ (List.mem_append_right _ (List.mem_append_right _ (List.mem_append_right _ (List.mem_append_left _ (List.mem_of_getElem? (i := 13) rfl))))))))) rfl
theorem wz_X8_cellFor : Cond.selects RX8 yX8_cellFor yX8_cellFor ∈ Wall := Wall_sel (q := (yX8_cellFor, 26)) (List.mem_append_right _ (List.mem_append_right _ (List.mem_append_right _ (List.mem_append_right _ (List.mem_append_right _ (List.mem_append_right _ (List.mem_append_right _ (List.mem_append_left _ (List.mem_of_getElem? (i := 14) rfl))))))))) rfl
theorem wz_X8_worked : Cond.selects RX8 yX8_worked yX8_worked ∈ Wall := Wall_sel (q := (yX8_worked, 26)) (List.mem_append_right _ (List.mem_append_right _ (List.mem_append_right _ (List.mem_append_right _ (List.mem_append_right _ (List.mem_append_right _ (List.mem_append_right _ (List.mem_append_left _ (List.mem_of_getElem? (i := 15) rfl))))))))) rfl
theorem wz_X8_reckons : Cond.selects RX8 yX8_reckons yX8_reckons ∈ Wall := Wall_sel (q := (yX8_reckons, 26)) (List.mem_append_right _ (List.mem_append_right _ (List.mem_append_right _ (List.mem_append_right _ (List.mem_append_right _ (List.mem_append_right _ (List.mem_append_right _ (List.mem_append_right _ (List.mem_of_getElem? (i := 0) rfl))))))))) rfl
theorem wz_X8_holds : Cond.selects RX8 yX8_holds yX8_holds ∈ Wall := Wall_sel (q := (yX8_holds, 26)) (List.mem_append_right _ (List.mem_append_right _ (List.mem_append_right _ (List.mem_append_right _ (List.mem_append_right _ (List.mem_append_right _ (List.mem_append_right _ (List.mem_append_right _ (List.mem_of_getElem? (i := 1) rfl))))))))) rfl
theorem wz_X8_aheadOf : Cond.selects RX8 yX8_aheadOf yX8_aheadOf ∈ Wall := Wall_sel (q := (yX8_aheadOf, 26)) (List.mem_append_right _ (List.mem_append_right _ (List.mem_append_right _ (List.mem_append_right _ (List.mem_append_right _ (List.mem_append_right _ (List.mem_append_right _ (List.mem_append_right _ (List.mem_of_getElem? (i := 2) rfl))))))))) rfl
theorem wz_X8_firstNought : Cond.selects RX8 yX8_firstNought yX8_firstNought ∈ Wall := Wall_sel (q := (yX8_firstNought, 26)) (List.mem_append_right _ (List.mem_append_right _ (List.mem_append_right _ (List.mem_append_right _ (List.mem_append_right _ (List.mem_append_right _ (List.mem_append_right _ (List.mem_append_right _ (List.mem_of_getElem? (i := 3) rfl))))))))) rfl
theorem wu_X0 : ∀ w ∈ u_ws RX0 TX0 7, w ∈ Wall := show ∀ w ∈ [Cond.laysFinal RX0 "LoopReducer$Cycles" "names" "LLoopReducer$Names;", Cond.laysFinal RX0 "LoopReducer$Cycles" "forms" "LLoopReducer$Forms;", Cond.laysFinal RX0 "LoopReducer$Cycles" "hangsOn" "[I", Cond.laysFinal RX0 "LoopReducer$Cycles" "members" "[I", Cond.laysFinal RX0 "LoopReducer$Cycles" "kinds" "[I", Cond.laysFinal RX0 "LoopReducer$Cycles" "timesCarried" "[I", Cond.lays RX0 "LoopReducer$Cycles" "version" "I"], w ∈ Wall from List.forall_mem_cons.mpr ⟨wt1 (List.mem_of_getElem? (i := 188) rfl) rfl, List.forall_mem_cons.mpr ⟨wt1 (List.mem_of_getElem? (i := 190) rfl) rfl, List.forall_mem_cons.mpr ⟨wt1 (List.mem_of_getElem? (i := 192) rfl) rfl, List.forall_mem_cons.mpr ⟨wt1 (List.mem_of_getElem? (i := 194) rfl) rfl, List.forall_mem_cons.mpr ⟨wt1 (List.mem_of_getElem? (i := 196) rfl) rfl, List.forall_mem_cons.mpr ⟨wt1 (List.mem_of_getElem? (i := 198) rfl) rfl, List.forall_mem_cons.mpr ⟨wt1 (List.mem_of_getElem? (i := 200) rfl) rfl, fun _ h => absurd h List.not_mem_nil⟩⟩⟩⟩⟩⟩⟩
theorem wu_X1 : ∀ w ∈ u_ws RX1 TX1 3, w ∈ Wall := show ∀ w ∈ [Cond.laysFinal RX1 "LoopReducer$Forms" "polys" "LLoopReducer$Polys;", Cond.laysFinal RX1 "LoopReducer$Forms" "mask" "I", Cond.laysFinal RX1 "LoopReducer$Forms" "delays" "[I"], w ∈ Wall from List.forall_mem_cons.mpr ⟨wt1 (List.mem_of_getElem? (i := 164) rfl) rfl, List.forall_mem_cons.mpr ⟨wt1 (List.mem_of_getElem? (i := 166) rfl) rfl, List.forall_mem_cons.mpr ⟨wt1 (List.mem_of_getElem? (i := 168) rfl) rfl, fun _ h => absurd h List.not_mem_nil⟩⟩⟩
theorem wu_X2 : ∀ w ∈ u_ws RX2 TX2 5, w ∈ Wall := show ∀ w ∈ [Cond.laysFinal RX2 "LoopReducer$Monomials" "mask" "I", Cond.laysFinal RX2 "LoopReducer$Monomials" "codes" "[I", Cond.laysFinal RX2 "LoopReducer$Monomials" "together" "[I", Cond.laysFinal RX2 "LoopReducer$Monomials" "places" "[I", Cond.laysFinal RX2 "LoopReducer$Monomials" "powers" "[I"], w ∈ Wall from List.forall_mem_cons.mpr ⟨wt1 (List.mem_of_getElem? (i := 122) rfl) rfl, List.forall_mem_cons.mpr ⟨wt1 (List.mem_of_getElem? (i := 124) rfl) rfl, List.forall_mem_cons.mpr ⟨wt1 (List.mem_of_getElem? (i := 126) rfl) rfl, List.forall_mem_cons.mpr ⟨wt1 (List.mem_of_getElem? (i := 128) rfl) rfl, List.forall_mem_cons.mpr ⟨wt1 (List.mem_of_getElem? (i := 130) rfl) rfl, fun _ h => absurd h List.not_mem_nil⟩⟩⟩⟩⟩
theorem wu_X3 : ∀ w ∈ u_ws RX3 TX3 13, w ∈ Wall := show ∀ w ∈ [Cond.laysFinal RX3 "LoopReducer$Names" "mask" "I", Cond.laysFinal RX3 "LoopReducer$Names" "type" "[I", Cond.laysFinal RX3 "LoopReducer$Names" "first" "[I", Cond.laysFinal RX3 "LoopReducer$Names" "second" "[I", Cond.lays RX3 "LoopReducer$Names" "size" "I", Cond.lays RX3 "LoopReducer$Names" "inputs" "I", Cond.lays RX3 "LoopReducer$Names" "carriers" "I", Cond.lays RX3 "LoopReducer$Names" "shown" "I", Cond.lays RX3 "LoopReducer$Names" "testKind" "I", Cond.lays RX3 "LoopReducer$Names" "testFirst" "I", Cond.lays RX3 "LoopReducer$Names" "testSecond" "I", Cond.lays RX3 "LoopReducer$Names" "version" "I", Cond.lays RX3 "LoopReducer$Names" "askVersion" "I"], w ∈ Wall from List.forall_mem_cons.mpr ⟨wt1 (List.mem_of_getElem? (i := 82) rfl) rfl, List.forall_mem_cons.mpr ⟨wt1 (List.mem_of_getElem? (i := 84) rfl) rfl, List.forall_mem_cons.mpr ⟨wt1 (List.mem_of_getElem? (i := 86) rfl) rfl, List.forall_mem_cons.mpr ⟨wt1 (List.mem_of_getElem? (i := 88) rfl) rfl, List.forall_mem_cons.mpr ⟨wt1 (List.mem_of_getElem? (i := 90) rfl) rfl, List.forall_mem_cons.mpr ⟨wt1 (List.mem_of_getElem? (i := 92) rfl) rfl, List.forall_mem_cons.mpr ⟨wt1 (List.mem_of_getElem? (i := 94) rfl) rfl, List.forall_mem_cons.mpr ⟨wt1 (List.mem_of_getElem? (i := 96) rfl) rfl, List.forall_mem_cons.mpr ⟨wt1 (List.mem_of_getElem? (i := 98) rfl) rfl, List.forall_mem_cons.mpr ⟨wt1 (List.mem_of_getElem? (i := 100) rfl) rfl, List.forall_mem_cons.mpr ⟨wt1 (List.mem_of_getElem? (i := 102) rfl) rfl, List.forall_mem_cons.mpr ⟨wt1 (List.mem_of_getElem? (i := 104) rfl) rfl, List.forall_mem_cons.mpr ⟨wt1 (List.mem_of_getElem? (i := 106) rfl) rfl, fun _ h => absurd h List.not_mem_nil⟩⟩⟩⟩⟩⟩⟩⟩⟩⟩⟩⟩⟩
theorem wu_X4 : ∀ w ∈ u_ws RX4 TX4 11, w ∈ Wall := show ∀ w ∈ [Cond.laysFinal RX4 "LoopReducer$Plan" "names" "LLoopReducer$Names;", Cond.laysFinal RX4 "LoopReducer$Plan" "cycles" "LLoopReducer$Cycles;", Cond.laysFinal RX4 "LoopReducer$Plan" "forms" "LLoopReducer$Forms;", Cond.lays RX4 "LoopReducer$Plan" "neededNames" "I", Cond.lays RX4 "LoopReducer$Plan" "cells" "I", Cond.laysFinal RX4 "LoopReducer$Plan" "owner" "[I", Cond.laysFinal RX4 "LoopReducer$Plan" "without" "[I", Cond.laysFinal RX4 "LoopReducer$Plan" "behind" "[I", Cond.laysFinal RX4 "LoopReducer$Plan" "cellOf" "[I", Cond.lays RX4 "LoopReducer$Plan" "version" "I", Cond.lays RX4 "LoopReducer$Plan" "askVersion" "I"], w ∈ Wall from List.forall_mem_cons.mpr ⟨wt1 (List.mem_of_getElem? (i := 230) rfl) rfl, List.forall_mem_cons.mpr ⟨wt1 (List.mem_of_getElem? (i := 232) rfl) rfl, List.forall_mem_cons.mpr ⟨wt1 (List.mem_of_getElem? (i := 234) rfl) rfl, List.forall_mem_cons.mpr ⟨wt1 (List.mem_of_getElem? (i := 236) rfl) rfl, List.forall_mem_cons.mpr ⟨wt1 (List.mem_of_getElem? (i := 238) rfl) rfl, List.forall_mem_cons.mpr ⟨wt2 (List.mem_of_getElem? (i := 0) rfl) rfl, List.forall_mem_cons.mpr ⟨wt2 (List.mem_of_getElem? (i := 2) rfl) rfl, List.forall_mem_cons.mpr ⟨wt2 (List.mem_of_getElem? (i := 4) rfl) rfl, List.forall_mem_cons.mpr ⟨wt2 (List.mem_of_getElem? (i := 6) rfl) rfl, List.forall_mem_cons.mpr ⟨wt2 (List.mem_of_getElem? (i := 8) rfl) rfl, List.forall_mem_cons.mpr ⟨wt2 (List.mem_of_getElem? (i := 10) rfl) rfl, fun _ h => absurd h List.not_mem_nil⟩⟩⟩⟩⟩⟩⟩⟩⟩⟩⟩
theorem wu_X5 : ∀ w ∈ u_ws RX5 TX5 4, w ∈ Wall := show ∀ w ∈ [Cond.laysFinal RX5 "LoopReducer$Polys" "monomials" "LLoopReducer$Monomials;", Cond.laysFinal RX5 "LoopReducer$Polys" "mask" "I", Cond.laysFinal RX5 "LoopReducer$Polys" "factors" "[I", Cond.laysFinal RX5 "LoopReducer$Polys" "sizes" "[I"], w ∈ Wall from List.forall_mem_cons.mpr ⟨wt1 (List.mem_of_getElem? (i := 144) rfl) rfl, List.forall_mem_cons.mpr ⟨wt1 (List.mem_of_getElem? (i := 146) rfl) rfl, List.forall_mem_cons.mpr ⟨wt1 (List.mem_of_getElem? (i := 148) rfl) rfl, List.forall_mem_cons.mpr ⟨wt1 (List.mem_of_getElem? (i := 150) rfl) rfl, fun _ h => absurd h List.not_mem_nil⟩⟩⟩⟩
theorem wu_X6 : ∀ w ∈ u_ws RX6 TX6 11, w ∈ Wall := show ∀ w ∈ [Cond.laysFinal RX6 "LoopReducer$Runner" "names" "LLoopReducer$Names;", Cond.laysFinal RX6 "LoopReducer$Runner" "cycles" "LLoopReducer$Cycles;", Cond.laysFinal RX6 "LoopReducer$Runner" "plan" "LLoopReducer$Plan;", Cond.laysFinal RX6 "LoopReducer$Runner" "forms" "LLoopReducer$Forms;", Cond.laysFinal RX6 "LoopReducer$Runner" "given" "[I", Cond.laysFinal RX6 "LoopReducer$Runner" "now" "[I", Cond.laysFinal RX6 "LoopReducer$Runner" "before" "[I", Cond.laysFinal RX6 "LoopReducer$Runner" "cellNow" "[I", Cond.laysFinal RX6 "LoopReducer$Runner" "cellStep" "[I", Cond.laysFinal RX6 "LoopReducer$Runner" "seenNumbers" "[I", Cond.lays RX6 "LoopReducer$Runner" "seenAmount" "I"], w ∈ Wall from List.forall_mem_cons.mpr ⟨wt2 (List.mem_of_getElem? (i := 32) rfl) rfl, List.forall_mem_cons.mpr ⟨wt2 (List.mem_of_getElem? (i := 34) rfl) rfl, List.forall_mem_cons.mpr ⟨wt2 (List.mem_of_getElem? (i := 36) rfl) rfl, List.forall_mem_cons.mpr ⟨wt2 (List.mem_of_getElem? (i := 38) rfl) rfl, List.forall_mem_cons.mpr ⟨wt2 (List.mem_of_getElem? (i := 40) rfl) rfl, List.forall_mem_cons.mpr ⟨wt2 (List.mem_of_getElem? (i := 42) rfl) rfl, List.forall_mem_cons.mpr ⟨wt2 (List.mem_of_getElem? (i := 44) rfl) rfl, List.forall_mem_cons.mpr ⟨wt2 (List.mem_of_getElem? (i := 46) rfl) rfl, List.forall_mem_cons.mpr ⟨wt2 (List.mem_of_getElem? (i := 48) rfl) rfl, List.forall_mem_cons.mpr ⟨wt2 (List.mem_of_getElem? (i := 50) rfl) rfl, List.forall_mem_cons.mpr ⟨wt2 (List.mem_of_getElem? (i := 52) rfl) rfl, fun _ h => absurd h List.not_mem_nil⟩⟩⟩⟩⟩⟩⟩⟩⟩⟩⟩
theorem wu_X7 : ∀ w ∈ u_ws RX7 TX7 7, w ∈ Wall := show ∀ w ∈ [Cond.laysFinal RX7 "LoopReducer" "names" "LLoopReducer$Names;", Cond.laysFinal RX7 "LoopReducer" "monomials" "LLoopReducer$Monomials;", Cond.laysFinal RX7 "LoopReducer" "polys" "LLoopReducer$Polys;", Cond.laysFinal RX7 "LoopReducer" "forms" "LLoopReducer$Forms;", Cond.laysFinal RX7 "LoopReducer" "cycles" "LLoopReducer$Cycles;", Cond.laysFinal RX7 "LoopReducer" "plan" "LLoopReducer$Plan;", Cond.laysFinal RX7 "LoopReducer" "runner" "LLoopReducer$Runner;"], w ∈ Wall from List.forall_mem_cons.mpr ⟨wt2 (List.mem_of_getElem? (i := 62) rfl) rfl, List.forall_mem_cons.mpr ⟨wt2 (List.mem_of_getElem? (i := 64) rfl) rfl, List.forall_mem_cons.mpr ⟨wt2 (List.mem_of_getElem? (i := 66) rfl) rfl, List.forall_mem_cons.mpr ⟨wt2 (List.mem_of_getElem? (i := 68) rfl) rfl, List.forall_mem_cons.mpr ⟨wt2 (List.mem_of_getElem? (i := 70) rfl) rfl, List.forall_mem_cons.mpr ⟨wt2 (List.mem_of_getElem? (i := 72) rfl) rfl, List.forall_mem_cons.mpr ⟨wt2 (List.mem_of_getElem? (i := 74) rfl) rfl, fun _ h => absurd h List.not_mem_nil⟩⟩⟩⟩⟩⟩⟩
theorem wu_X8 : ∀ w ∈ u_ws RX8 TX8 26, w ∈ Wall := show ∀ w ∈ [Cond.laysFinal RX8 "LoopReducerModel" "f" "[I", Cond.laysFinal RX8 "LoopReducerModel" "modulus" "I", Cond.lays RX8 "LoopReducerModel" "thrown" "I", Cond.laysFinal RX8 "LoopReducerModel" "sort" "[I", Cond.laysFinal RX8 "LoopReducerModel" "one" "[I", Cond.laysFinal RX8 "LoopReducerModel" "two" "[I", Cond.lays RX8 "LoopReducerModel" "names" "I", Cond.lays RX8 "LoopReducerModel" "shown" "I", Cond.lays RX8 "LoopReducerModel" "testKind" "I", Cond.lays RX8 "LoopReducerModel" "testOne" "I", Cond.lays RX8 "LoopReducerModel" "testTwo" "I", Cond.lays RX8 "LoopReducerModel" "isLaid" "Z", Cond.laysFinal RX8 "LoopReducerModel" "hangs" "[I", Cond.laysFinal RX8 "LoopReducerModel" "delay" "[I", Cond.laysFinal RX8 "LoopReducerModel" "kind" "[I", Cond.laysFinal RX8 "LoopReducerModel" "times" "[I", Cond.laysFinal RX8 "LoopReducerModel" "given" "[I", Cond.lays RX8 "LoopReducerModel" "cells" "I", Cond.laysFinal RX8 "LoopReducerModel" "cellName" "[I", Cond.laysFinal RX8 "LoopReducerModel" "cellNext" "[I", Cond.lays RX8 "LoopReducerModel" "needed" "I", Cond.laysFinal RX8 "LoopReducerModel" "now" "[I", Cond.laysFinal RX8 "LoopReducerModel" "before" "[I", Cond.laysFinal RX8 "LoopReducerModel" "cellNow" "[I", Cond.laysFinal RX8 "LoopReducerModel" "seenRow" "[I", Cond.lays RX8 "LoopReducerModel" "seen" "I"], w ∈ Wall from List.forall_mem_cons.mpr ⟨wt4 (List.mem_of_getElem? (i := 171) rfl) rfl, List.forall_mem_cons.mpr ⟨wt4 (List.mem_of_getElem? (i := 173) rfl) rfl, List.forall_mem_cons.mpr ⟨wt4 (List.mem_of_getElem? (i := 175) rfl) rfl, List.forall_mem_cons.mpr ⟨wt4 (List.mem_of_getElem? (i := 177) rfl) rfl, List.forall_mem_cons.mpr ⟨wt4 (List.mem_of_getElem? (i := 179) rfl) rfl, List.forall_mem_cons.mpr ⟨wt4 (List.mem_of_getElem? (i := 181) rfl) rfl, List.forall_mem_cons.mpr ⟨wt4 (List.mem_of_getElem? (i := 183) rfl) rfl, List.forall_mem_cons.mpr ⟨wt4 (List.mem_of_getElem? (i := 185) rfl) rfl, List.forall_mem_cons.mpr ⟨wt4 (List.mem_of_getElem? (i := 187) rfl) rfl, List.forall_mem_cons.mpr ⟨wt4 (List.mem_of_getElem? (i := 189) rfl) rfl, List.forall_mem_cons.mpr ⟨wt4 (List.mem_of_getElem? (i := 191) rfl) rfl, List.forall_mem_cons.mpr ⟨wt4 (List.mem_of_getElem? (i := 193) rfl) rfl, List.forall_mem_cons.mpr ⟨wt4 (List.mem_of_getElem? (i := 195) rfl) rfl, List.forall_mem_cons.mpr ⟨wt4 (List.mem_of_getElem? (i := 197) rfl) rfl, List.forall_mem_cons.mpr ⟨wt4 (List.mem_of_getElem? (i := 199) rfl) rfl, List.forall_mem_cons.mpr ⟨wt4 (List.mem_of_getElem? (i := 201) rfl) rfl, List.forall_mem_cons.mpr ⟨wt4 (List.mem_of_getElem? (i := 203) rfl) rfl, List.forall_mem_cons.mpr ⟨wt4 (List.mem_of_getElem? (i := 205) rfl) rfl, List.forall_mem_cons.mpr ⟨wt4 (List.mem_of_getElem? (i := 207) rfl) rfl, List.forall_mem_cons.mpr ⟨wt4 (List.mem_of_getElem? (i := 209) rfl) rfl, List.forall_mem_cons.mpr ⟨wt4 (List.mem_of_getElem? (i := 211) rfl) rfl, List.forall_mem_cons.mpr ⟨wt4 (List.mem_of_getElem? (i := 213) rfl) rfl, List.forall_mem_cons.mpr ⟨wt4 (List.mem_of_getElem? (i := 215) rfl) rfl, List.forall_mem_cons.mpr ⟨wt4 (List.mem_of_getElem? (i := 217) rfl) rfl, List.forall_mem_cons.mpr ⟨wt4 (List.mem_of_getElem? (i := 219) rfl) rfl, List.forall_mem_cons.mpr ⟨wt4 (List.mem_of_getElem? (i := 221) rfl) rfl, fun _ h => absurd h List.not_mem_nil⟩⟩⟩⟩⟩⟩⟩⟩⟩⟩⟩⟩⟩⟩⟩⟩⟩⟩⟩⟩⟩⟩⟩⟩⟩⟩
theorem wM_st : Cond.static Lib.Math.max.name ∈ Wall := wt1 (List.mem_of_getElem? (i := 29) rfl) rfl
theorem wM_sn : Cond.static Lib.Math.min.name ∈ Wall := wt1 (List.mem_of_getElem? (i := 26) rfl) rfl
theorem wM_in : Cond.initialized "java/lang/Math" ∈ Wall := wt1 (List.mem_of_getElem? (i := 2) rfl) rfl
theorem wM_cmax : Cond.code Lib.Math.max.name Lib.Math.max.code 2 (some .int) ∈ Wall := wt1 (List.mem_of_getElem? (i := 30) (by decide +kernel)) rfl
theorem wl_X7_15 : Cond.methodLink RX7 15 Lib.Math.max.name ∈ Wall := wt1 (List.mem_of_getElem? (i := 28) rfl) rfl
theorem wl_X5_35 : Cond.methodLink RX5 35 Lib.Math.max.name ∈ Wall := wt2 (List.mem_of_getElem? (i := 207) rfl) rfl
theorem wl_X1_45 : Cond.methodLink RX1 45 Lib.Math.max.name ∈ Wall := wt3 (List.mem_of_getElem? (i := 30) rfl) rfl
theorem wl_X0_109 : Cond.methodLink RX0 109 Lib.Math.max.name ∈ Wall := wt3 (List.mem_of_getElem? (i := 44) rfl) rfl
theorem wl_X8_138 : Cond.methodLink RX8 138 Lib.Math.max.name ∈ Wall := wt5 (List.mem_of_getElem? (i := 102) rfl) rfl
theorem wM_cmin : Cond.code Lib.Math.min.name Lib.Math.min.code 2 (some .int) ∈ Wall := wt1 (List.mem_of_getElem? (i := 27) (by decide +kernel)) rfl
theorem wl_X7_9 : Cond.methodLink RX7 9 Lib.Math.min.name ∈ Wall := wt1 (List.mem_of_getElem? (i := 25) rfl) rfl
theorem wl_X1_51 : Cond.methodLink RX1 51 Lib.Math.min.name ∈ Wall := wt3 (List.mem_of_getElem? (i := 31) rfl) rfl
theorem wl_X6_78 : Cond.methodLink RX6 78 arraycopyName ∈ Wall := wt3 (List.mem_of_getElem? (i := 216) rfl) rfl
theorem wA_n : Cond.native arraycopyName ∈ Wall := wt3 (List.mem_of_getElem? (i := 218) rfl) rfl
theorem wA_s : Cond.static arraycopyName ∈ Wall := wt3 (List.mem_of_getElem? (i := 217) rfl) rfl
theorem wA_i : Cond.initialized "java/lang/System" ∈ Wall := wt1 (List.mem_of_getElem? (i := 16) rfl) rfl
