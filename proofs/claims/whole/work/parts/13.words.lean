theorem ip_t1 {w : Cond} (h : w ∈ tables_1_1) : w ∈ tables_1 := List.mem_append_left _ h
theorem ip_t2 {w : Cond} (h : w ∈ tables_1_2) : w ∈ tables_1 := List.mem_append_right _ (List.mem_append_left _ h)
theorem ip_t3 {w : Cond} (h : w ∈ tables_1_3) : w ∈ tables_1 := List.mem_append_right _ (List.mem_append_right _ (List.mem_append_left _ h))
theorem ip_t4 {w : Cond} (h : w ∈ tables_1_4) : w ∈ tables_1 := List.mem_append_right _ (List.mem_append_right _ (List.mem_append_right _ (List.mem_append_left _ h)))
theorem ip_t5 {w : Cond} (h : w ∈ tables_1_5) : w ∈ tables_1 := List.mem_append_right _ (List.mem_append_right _ (List.mem_append_right _ (List.mem_append_right _ (List.mem_append_left _ h))))
theorem ip_t6 {w : Cond} (h : w ∈ tables_1_6) : w ∈ tables_1 := List.mem_append_right _ (List.mem_append_right _ (List.mem_append_right _ (List.mem_append_right _ (List.mem_append_right _ (h)))))
theorem tp_0 : Cond.selects RX5 yX5_isWalker yX5_isWalker ∈ ip_Ts := ip_inS (List.mem_of_getElem? (i := 0) rfl) rfl
theorem tp_1 : Cond.selects RX5 yX5_stepsToRest yX5_stepsToRest ∈ ip_Ts := ip_inS (List.mem_of_getElem? (i := 1) rfl) rfl
theorem tp_2 : Cond.selects RX5 yX5_rightsThatCross yX5_rightsThatCross ∈ ip_Ts := ip_inS (List.mem_of_getElem? (i := 2) rfl) rfl
theorem tp_3 : Cond.selects RX5 yX5_leastSaying yX5_leastSaying ∈ ip_Ts := ip_inS (List.mem_of_getElem? (i := 3) rfl) rfl
theorem tp_4 : Cond.selects RX5 yX5_mayBeYes yX5_mayBeYes ∈ ip_Ts := ip_inS (List.mem_of_getElem? (i := 4) rfl) rfl
theorem tp_5 : Cond.selects RX5 yX5_leastNo yX5_leastNo ∈ ip_Ts := ip_inS (List.mem_of_getElem? (i := 5) rfl) rfl
theorem tp_6 : Cond.selects RX5 yX5_rightsAsTold yX5_rightsAsTold ∈ ip_Ts := ip_inS (List.mem_of_getElem? (i := 6) rfl) rfl
theorem tp_7 : Cond.selects RX5 yX5_isRowItem yX5_isRowItem ∈ ip_Ts := ip_inS (List.mem_of_getElem? (i := 7) rfl) rfl
theorem tp_8 : Cond.selects RX5 yX5_putOnShelf yX5_putOnShelf ∈ ip_Ts := ip_inS (List.mem_of_getElem? (i := 8) rfl) rfl
theorem tp_9 : Cond.selects RX6 yX6_advance yX6_advance ∈ ip_Ts := ip_inS (List.mem_of_getElem? (i := 9) rfl) rfl
theorem tp_10 : Cond.selects RX6 yX6_byteAt yX6_byteAt ∈ ip_Ts := ip_inS (List.mem_of_getElem? (i := 10) rfl) rfl
theorem tp_11 : Cond.selects RX6 yX6_wantClause yX6_wantClause ∈ ip_Ts := ip_inS (List.mem_of_getElem? (i := 11) rfl) rfl
theorem tp_12 : Cond.selects RX6 yX6_lawHere yX6_lawHere ∈ ip_Ts := ip_inS (List.mem_of_getElem? (i := 12) rfl) rfl
theorem tp_13 : Cond.selects RX6 yX6_isWord yX6_isWord ∈ ip_Ts := ip_inS (List.mem_of_getElem? (i := 13) rfl) rfl
theorem tp_14 : Cond.selects RX6 yX6_kindHere yX6_kindHere ∈ ip_Ts := ip_inS (List.mem_of_getElem? (i := 14) rfl) rfl
theorem tp_15 : Cond.selects RX6 yX6_wantOne yX6_wantOne ∈ ip_Ts := ip_inS (List.mem_of_getElem? (i := 15) rfl) rfl
theorem tp_16 : Cond.selects RX6 yX6_mayWant yX6_mayWant ∈ ip_Ts := ip_inS (List.mem_of_getElem? (i := 16) rfl) rfl
theorem tp_17 : Cond.selects RX6 yX6_wantNumber yX6_wantNumber ∈ ip_Ts := ip_inS (List.mem_of_getElem? (i := 17) rfl) rfl
theorem tp_18 : Cond.selects RX6 yX6_mayDeny yX6_mayDeny ∈ ip_Ts := ip_inS (List.mem_of_getElem? (i := 18) rfl) rfl
theorem tp_19 : Cond.selects RX6 yX6_wantEnd yX6_wantEnd ∈ ip_Ts := ip_inS (List.mem_of_getElem? (i := 19) rfl) rfl
theorem tp_20 : Cond.selects RX6 yX6_isMark yX6_isMark ∈ ip_Ts := ip_inS (List.mem_of_getElem? (i := 20) rfl) rfl
theorem tp_21 : Cond.selects RX6 yX6_becomes yX6_becomes ∈ ip_Ts := ip_inS (List.mem_of_getElem? (i := 21) rfl) rfl
theorem tp_22 : Cond.selects RX6 yX6_sets yX6_sets ∈ ip_Ts := ip_inS (List.mem_of_getElem? (i := 22) rfl) rfl
theorem tp_23 : Cond.selects RX6 yX6_isOne yX6_isOne ∈ ip_Ts := ip_inS (List.mem_of_getElem? (i := 23) rfl) rfl
theorem tp_24 : Cond.selects RX6 yX6_its yX6_its ∈ ip_Ts := ip_inS (List.mem_of_getElem? (i := 24) rfl) rfl
theorem tp_25 : Cond.selects RX6 yX6_bears yX6_bears ∈ ip_Ts := ip_inS (List.mem_of_getElem? (i := 25) rfl) rfl
theorem tp_26 : Cond.selects RX6 yX6_right yX6_right ∈ ip_Ts := ip_inS (List.mem_of_getElem? (i := 26) rfl) rfl
theorem tp_27 : Cond.selects RX6 yX6_said yX6_said ∈ ip_Ts := ip_inS (List.mem_of_getElem? (i := 27) rfl) rfl
theorem tp_28 : Cond.selects RX6 yX6_strides yX6_strides ∈ ip_Ts := ip_inS (List.mem_of_getElem? (i := 28) rfl) rfl
theorem tp_29 : Cond.selects RX6 yX6_stepGoes yX6_stepGoes ∈ ip_Ts := ip_inS (List.mem_of_getElem? (i := 29) rfl) rfl
theorem tp_30 : Cond.selects RX6 yX6_goes yX6_goes ∈ ip_Ts := ip_inS (List.mem_of_getElem? (i := 30) rfl) rfl
theorem tp_31 : Cond.selects RX6 yX6_isDone yX6_isDone ∈ ip_Ts := ip_inS (List.mem_of_getElem? (i := 31) rfl) rfl
theorem tp_32 : Cond.selects RX6 yX6_isAcross yX6_isAcross ∈ ip_Ts := ip_inS (List.mem_of_getElem? (i := 32) rfl) rfl
theorem tp_33 : Cond.selects RX6 yX6_acrossSet yX6_acrossSet ∈ ip_Ts := ip_inS (List.mem_of_getElem? (i := 33) rfl) rfl
theorem tp_34 : Cond.selects RX6 yX6_stepByDraws yX6_stepByDraws ∈ ip_Ts := ip_inS (List.mem_of_getElem? (i := 34) rfl) rfl
theorem tp_35 : Cond.selects RX6 yX6_drawn yX6_drawn ∈ ip_Ts := ip_inS (List.mem_of_getElem? (i := 35) rfl) rfl
theorem tp_36 : Cond.selects RX6 yX6_fallenSet yX6_fallenSet ∈ ip_Ts := ip_inS (List.mem_of_getElem? (i := 36) rfl) rfl
theorem tp_37 : Cond.selects RX6 yX6_places yX6_places ∈ ip_Ts := ip_inS (List.mem_of_getElem? (i := 37) rfl) rfl
theorem tp_38 : Cond.selects RX6 yX6_mostHeld yX6_mostHeld ∈ ip_Ts := ip_inS (List.mem_of_getElem? (i := 38) rfl) rfl
theorem tp_39 : Cond.selects RX6 yX6_isPeace yX6_isPeace ∈ ip_Ts := ip_inS (List.mem_of_getElem? (i := 39) rfl) rfl
theorem tp_40 : Cond.selects RX6 yX6_clash yX6_clash ∈ ip_Ts := ip_inS (List.mem_of_getElem? (i := 40) rfl) rfl
theorem tp_41 : Cond.selects RX6 yX6_placeBehind yX6_placeBehind ∈ ip_Ts := ip_inS (List.mem_of_getElem? (i := 41) rfl) rfl
theorem tp_42 : Cond.selects RX6 yX6_goesOn yX6_goesOn ∈ ip_Ts := ip_inS (List.mem_of_getElem? (i := 42) rfl) rfl
theorem tp_43 : Cond.selects RX6 yX6_comesOver yX6_comesOver ∈ ip_Ts := ip_inS (List.mem_of_getElem? (i := 43) rfl) rfl
theorem tp_44 : Cond.selects RX6 yX6_agreed yX6_agreed ∈ ip_Ts := ip_inS (List.mem_of_getElem? (i := 44) rfl) rfl
theorem tp_45 : Cond.selects RX6 yX6_isSo yX6_isSo ∈ ip_Ts := ip_inS (List.mem_of_getElem? (i := 45) rfl) rfl
theorem tp_46 : Cond.selects RX6 yX6_findRows yX6_findRows ∈ ip_Ts := ip_inS (List.mem_of_getElem? (i := 46) rfl) rfl
theorem tp_47 : Cond.selects RX6 yX6_isRow yX6_isRow ∈ ip_Ts := ip_inS (List.mem_of_getElem? (i := 47) rfl) rfl
theorem tp_48 : Cond.selects RX6 yX6_lacksSort yX6_lacksSort ∈ ip_Ts := ip_inS (List.mem_of_getElem? (i := 48) rfl) rfl
theorem tp_49 : Cond.selects RX6 yX6_isHeld yX6_isHeld ∈ ip_Ts := ip_inS (List.mem_of_getElem? (i := 49) rfl) rfl
theorem tp_50 : Cond.selects RX6 yX6_kindOn yX6_kindOn ∈ ip_Ts := ip_inS (List.mem_of_getElem? (i := 50) rfl) rfl
theorem tp_51 : Cond.selects RX6 yX6_leansIt yX6_leansIt ∈ ip_Ts := ip_inS (List.mem_of_getElem? (i := 51) rfl) rfl
theorem tp_52 : Cond.selects RX6 yX6_childLeans yX6_childLeans ∈ ip_Ts := ip_inS (List.mem_of_getElem? (i := 52) rfl) rfl
theorem tp_53 : Cond.selects RX6 yX6_ran yX6_ran ∈ ip_Ts := ip_inS (List.mem_of_getElem? (i := 53) rfl) rfl
theorem tp_54 : Cond.selects RX6 yX6_plainLeans yX6_plainLeans ∈ ip_Ts := ip_inS (List.mem_of_getElem? (i := 54) rfl) rfl
theorem tp_55 : Cond.selects RX6 yX6_swaysIt yX6_swaysIt ∈ ip_Ts := ip_inS (List.mem_of_getElem? (i := 55) rfl) rfl
theorem tp_56 : Cond.selects RX6 yX6_plainSways yX6_plainSways ∈ ip_Ts := ip_inS (List.mem_of_getElem? (i := 56) rfl) rfl
theorem tp_57 : Cond.selects RX6 yX6_partsIt yX6_partsIt ∈ ip_Ts := ip_inS (List.mem_of_getElem? (i := 57) rfl) rfl
theorem tp_58 : Cond.selects RX6 yX6_plainParts yX6_plainParts ∈ ip_Ts := ip_inS (List.mem_of_getElem? (i := 58) rfl) rfl
theorem tp_59 : Cond.selects RX6 yX6_treadsIt yX6_treadsIt ∈ ip_Ts := ip_inS (List.mem_of_getElem? (i := 59) rfl) rfl
theorem tp_60 : Cond.selects RX6 yX6_plainTreads yX6_plainTreads ∈ ip_Ts := ip_inS (List.mem_of_getElem? (i := 60) rfl) rfl
theorem tw_1 : Cond.initialized RX5 ∈ ip_Ts := ip_in (ip_t1 (List.mem_of_getElem? (i := 1) rfl)) rfl
theorem tw_2 : Cond.initialized RX1 ∈ ip_Ts := ip_in (ip_t1 (List.mem_of_getElem? (i := 2) rfl)) rfl
theorem tw_3 : Cond.initialized RJ10 ∈ ip_Ts := ip_in (ip_t1 (List.mem_of_getElem? (i := 3) rfl)) rfl
theorem tw_4 : Cond.initialized RX4 ∈ ip_Ts := ip_in (ip_t1 (List.mem_of_getElem? (i := 4) rfl)) rfl
theorem tw_5 : Cond.initialized RX3 ∈ ip_Ts := ip_in (ip_t1 (List.mem_of_getElem? (i := 5) rfl)) rfl
theorem tw_6 : Cond.initialized RX0 ∈ ip_Ts := ip_in (ip_t1 (List.mem_of_getElem? (i := 6) rfl)) rfl
theorem tw_7 : Cond.initialized RX6 ∈ ip_Ts := ip_in (ip_t1 (List.mem_of_getElem? (i := 7) rfl)) rfl
theorem tw_8 : Cond.initialized RJ0 ∈ ip_Ts := ip_in (ip_t1 (List.mem_of_getElem? (i := 8) rfl)) rfl
theorem tw_9 : Cond.initialized RJ1 ∈ ip_Ts := ip_in (ip_t1 (List.mem_of_getElem? (i := 9) rfl)) rfl
theorem tw_10 : Cond.initialized RJ3 ∈ ip_Ts := ip_in (ip_t1 (List.mem_of_getElem? (i := 10) rfl)) rfl
theorem tw_12 : Cond.initialized RJ6 ∈ ip_Ts := ip_in (ip_t1 (List.mem_of_getElem? (i := 12) rfl)) rfl
theorem tw_13 : Cond.initialized RJ9 ∈ ip_Ts := ip_in (ip_t1 (List.mem_of_getElem? (i := 13) rfl)) rfl
theorem tw_14 : Cond.initialized RX2 ∈ ip_Ts := ip_in (ip_t1 (List.mem_of_getElem? (i := 14) rfl)) rfl
theorem tw_15 : Cond.classLink RL 7 RX5 ∈ ip_Ts := ip_in (ip_t1 (List.mem_of_getElem? (i := 15) rfl)) rfl
theorem tw_16 : Cond.instantiable RX5 12 ∈ ip_Ts := ip_in (ip_t1 (List.mem_of_getElem? (i := 16) rfl)) rfl
theorem tw_17 : Cond.methodLink RL 9 yX5_init ∈ ip_Ts := ip_in (ip_t1 (List.mem_of_getElem? (i := 17) rfl)) rfl
theorem tw_18 : Cond.instanceMethod yX5_init ∈ ip_Ts := ip_in (ip_t1 (List.mem_of_getElem? (i := 18) rfl)) rfl
theorem tw_19 : Cond.code yX5_init prog_1_method_1_code 1 none ∈ ip_Ts := ip_in (ip_t1 (List.mem_of_getElem? (i := 19) rfl)) rfl
theorem tw_20 : Cond.methodLink RX5 1 Lib.objectInit ∈ ip_Ts := ip_in (ip_t1 (List.mem_of_getElem? (i := 20) rfl)) rfl
theorem tw_21 : Cond.instanceMethod Lib.objectInit ∈ ip_Ts := ip_in (ip_t1 (List.mem_of_getElem? (i := 21) rfl)) rfl
theorem tw_22 : Cond.code Lib.objectInit ⟨#[0xb1]⟩ 1 none ∈ ip_Ts := ip_in (ip_t1 (List.mem_of_getElem? (i := 22) rfl)) rfl
theorem tw_23 : Cond.classLink RX5 7 RX1 ∈ ip_Ts := ip_in (ip_t1 (List.mem_of_getElem? (i := 23) rfl)) rfl
theorem tw_24 : Cond.instantiable RX1 11 ∈ ip_Ts := ip_in (ip_t1 (List.mem_of_getElem? (i := 24) rfl)) rfl
theorem tw_25 : Cond.methodLink RX5 9 yX1_init ∈ ip_Ts := ip_in (ip_t1 (List.mem_of_getElem? (i := 25) rfl)) rfl
theorem tw_26 : Cond.instanceMethod yX1_init ∈ ip_Ts := ip_in (ip_t1 (List.mem_of_getElem? (i := 26) rfl)) rfl
theorem tw_27 : Cond.code yX1_init prog_3_method_1_code 1 none ∈ ip_Ts := ip_in (ip_t1 (List.mem_of_getElem? (i := 27) rfl)) rfl
theorem tw_28 : Cond.methodLink RX1 3 Lib.objectInit ∈ ip_Ts := ip_in (ip_t1 (List.mem_of_getElem? (i := 28) rfl)) rfl
theorem tw_29 : Cond.methodLink RX1 34 yX1_clear ∈ ip_Ts := ip_in (ip_t1 (List.mem_of_getElem? (i := 29) rfl)) rfl
theorem tw_30 : Cond.instanceMethod yX1_clear ∈ ip_Ts := ip_in (ip_t1 (List.mem_of_getElem? (i := 30) rfl)) rfl
theorem tw_31 : Cond.selects RX1 yX1_clear yX1_clear ∈ ip_Ts := ip_in (ip_t1 (List.mem_of_getElem? (i := 31) rfl)) rfl
theorem tw_32 : Cond.code yX1_clear prog_3_method_2_code 1 none ∈ ip_Ts := ip_in (ip_t1 (List.mem_of_getElem? (i := 32) rfl)) rfl
theorem tw_35 : Cond.methodLink RX1 40 arraycopyName ∈ ip_Ts := ip_in (ip_t1 (List.mem_of_getElem? (i := 35) rfl)) rfl
theorem tw_36 : Cond.static arraycopyName ∈ ip_Ts := ip_in (ip_t1 (List.mem_of_getElem? (i := 36) rfl)) rfl
theorem tw_37 : Cond.native arraycopyName ∈ ip_Ts := ip_in (ip_t1 (List.mem_of_getElem? (i := 37) rfl)) rfl
theorem tw_38 : Cond.fieldLink RX1 9 RX1 "laws" "[I" ∈ ip_Ts := ip_in (ip_t1 (List.mem_of_getElem? (i := 38) rfl)) rfl
theorem tw_39 : Cond.fieldLink RX4 9 RX1 "laws" "[I" ∈ ip_Ts := ip_in (ip_t1 (List.mem_of_getElem? (i := 39) rfl)) rfl
theorem tw_40 : Cond.fieldLink RX5 98 RX1 "laws" "[I" ∈ ip_Ts := ip_in (ip_t1 (List.mem_of_getElem? (i := 40) rfl)) rfl
theorem tw_41 : Cond.fieldLink RX3 55 RX1 "laws" "[I" ∈ ip_Ts := ip_in (ip_t1 (List.mem_of_getElem? (i := 41) rfl)) rfl
theorem tw_42 : Cond.fieldLink RX1 46 RX1 "facts" "I" ∈ ip_Ts := ip_in (ip_t1 (List.mem_of_getElem? (i := 42) rfl)) rfl
theorem tw_43 : Cond.fieldLink RX3 71 RX1 "facts" "I" ∈ ip_Ts := ip_in (ip_t1 (List.mem_of_getElem? (i := 43) rfl)) rfl
theorem tw_44 : Cond.fieldLink RX5 101 RX1 "facts" "I" ∈ ip_Ts := ip_in (ip_t1 (List.mem_of_getElem? (i := 44) rfl)) rfl
theorem tw_45 : Cond.fieldLink RX1 49 RX1 "stepsTaken" "I" ∈ ip_Ts := ip_in (ip_t1 (List.mem_of_getElem? (i := 45) rfl)) rfl
theorem tw_46 : Cond.fieldLink RX4 27 RX1 "stepsTaken" "I" ∈ ip_Ts := ip_in (ip_t1 (List.mem_of_getElem? (i := 46) rfl)) rfl
theorem tw_47 : Cond.fieldLink RX5 179 RX1 "stepsTaken" "I" ∈ ip_Ts := ip_in (ip_t1 (List.mem_of_getElem? (i := 47) rfl)) rfl
theorem tw_48 : Cond.fieldLink RX1 15 RX1 "z" "I" ∈ ip_Ts := ip_in (ip_t1 (List.mem_of_getElem? (i := 48) rfl)) rfl
theorem tw_49 : Cond.fieldLink RX5 81 RX1 "z" "I" ∈ ip_Ts := ip_in (ip_t1 (List.mem_of_getElem? (i := 49) rfl)) rfl
theorem tw_50 : Cond.fieldLink RX1 52 RX1 "walkers" "I" ∈ ip_Ts := ip_in (ip_t1 (List.mem_of_getElem? (i := 50) rfl)) rfl
theorem tw_51 : Cond.fieldLink RX5 92 RX1 "walkers" "I" ∈ ip_Ts := ip_in (ip_t1 (List.mem_of_getElem? (i := 51) rfl)) rfl
theorem tw_52 : Cond.fieldLink RX3 42 RX1 "walkers" "I" ∈ ip_Ts := ip_in (ip_t1 (List.mem_of_getElem? (i := 52) rfl)) rfl
theorem tw_53 : Cond.fieldLink RX1 19 RX1 "kind" "[I" ∈ ip_Ts := ip_in (ip_t1 (List.mem_of_getElem? (i := 53) rfl)) rfl
theorem tw_54 : Cond.fieldLink RX4 31 RX1 "kind" "[I" ∈ ip_Ts := ip_in (ip_t1 (List.mem_of_getElem? (i := 54) rfl)) rfl
theorem tw_55 : Cond.fieldLink RX5 122 RX1 "kind" "[I" ∈ ip_Ts := ip_in (ip_t1 (List.mem_of_getElem? (i := 55) rfl)) rfl
theorem tw_56 : Cond.fieldLink RX1 22 RX1 "weight" "[I" ∈ ip_Ts := ip_in (ip_t1 (List.mem_of_getElem? (i := 56) rfl)) rfl
theorem tw_57 : Cond.fieldLink RX4 36 RX1 "weight" "[I" ∈ ip_Ts := ip_in (ip_t1 (List.mem_of_getElem? (i := 57) rfl)) rfl
theorem tw_58 : Cond.fieldLink RX3 80 RX1 "weight" "[I" ∈ ip_Ts := ip_in (ip_t1 (List.mem_of_getElem? (i := 58) rfl)) rfl
theorem tw_59 : Cond.fieldLink RX5 125 RX1 "weight" "[I" ∈ ip_Ts := ip_in (ip_t1 (List.mem_of_getElem? (i := 59) rfl)) rfl
theorem tw_60 : Cond.fieldLink RX1 25 RX1 "place" "[I" ∈ ip_Ts := ip_in (ip_t1 (List.mem_of_getElem? (i := 60) rfl)) rfl
theorem tw_61 : Cond.fieldLink RX4 41 RX1 "place" "[I" ∈ ip_Ts := ip_in (ip_t1 (List.mem_of_getElem? (i := 61) rfl)) rfl
theorem tw_62 : Cond.fieldLink RX3 88 RX1 "place" "[I" ∈ ip_Ts := ip_in (ip_t1 (List.mem_of_getElem? (i := 62) rfl)) rfl
theorem tw_63 : Cond.fieldLink RX5 128 RX1 "place" "[I" ∈ ip_Ts := ip_in (ip_t1 (List.mem_of_getElem? (i := 63) rfl)) rfl
theorem tw_64 : Cond.fieldLink RX1 28 RX1 "yes" "[I" ∈ ip_Ts := ip_in (ip_t1 (List.mem_of_getElem? (i := 64) rfl)) rfl
theorem tw_65 : Cond.fieldLink RX3 93 RX1 "yes" "[I" ∈ ip_Ts := ip_in (ip_t1 (List.mem_of_getElem? (i := 65) rfl)) rfl
theorem tw_66 : Cond.fieldLink RX5 131 RX1 "yes" "[I" ∈ ip_Ts := ip_in (ip_t1 (List.mem_of_getElem? (i := 66) rfl)) rfl
theorem tw_67 : Cond.fieldLink RX1 31 RX1 "no" "[I" ∈ ip_Ts := ip_in (ip_t1 (List.mem_of_getElem? (i := 67) rfl)) rfl
theorem tw_68 : Cond.fieldLink RX3 98 RX1 "no" "[I" ∈ ip_Ts := ip_in (ip_t1 (List.mem_of_getElem? (i := 68) rfl)) rfl
theorem tw_69 : Cond.fieldLink RX5 134 RX1 "no" "[I" ∈ ip_Ts := ip_in (ip_t1 (List.mem_of_getElem? (i := 69) rfl)) rfl
theorem tw_70 : Cond.fieldLink RX1 55 RX1 "fallen" "I" ∈ ip_Ts := ip_in (ip_t1 (List.mem_of_getElem? (i := 70) rfl)) rfl
theorem tw_71 : Cond.fieldLink RX4 46 RX1 "fallen" "I" ∈ ip_Ts := ip_in (ip_t1 (List.mem_of_getElem? (i := 71) rfl)) rfl
theorem tw_72 : Cond.fieldLink RX5 137 RX1 "fallen" "I" ∈ ip_Ts := ip_in (ip_t1 (List.mem_of_getElem? (i := 72) rfl)) rfl
theorem tw_73 : Cond.laysFinal RX1 RX1 "laws" "[I" ∈ ip_Ts := ip_in (ip_t1 (List.mem_of_getElem? (i := 73) rfl)) rfl
theorem tw_75 : Cond.lays RX1 RX1 "facts" "I" ∈ ip_Ts := ip_in (ip_t1 (List.mem_of_getElem? (i := 75) rfl)) rfl
theorem tw_77 : Cond.lays RX1 RX1 "stepsTaken" "I" ∈ ip_Ts := ip_in (ip_t1 (List.mem_of_getElem? (i := 77) rfl)) rfl
theorem tw_79 : Cond.lays RX1 RX1 "z" "I" ∈ ip_Ts := ip_in (ip_t1 (List.mem_of_getElem? (i := 79) rfl)) rfl
theorem tw_81 : Cond.lays RX1 RX1 "walkers" "I" ∈ ip_Ts := ip_in (ip_t1 (List.mem_of_getElem? (i := 81) rfl)) rfl
theorem tw_83 : Cond.laysFinal RX1 RX1 "kind" "[I" ∈ ip_Ts := ip_in (ip_t1 (List.mem_of_getElem? (i := 83) rfl)) rfl
theorem tw_85 : Cond.laysFinal RX1 RX1 "weight" "[I" ∈ ip_Ts := ip_in (ip_t1 (List.mem_of_getElem? (i := 85) rfl)) rfl
theorem tw_87 : Cond.laysFinal RX1 RX1 "place" "[I" ∈ ip_Ts := ip_in (ip_t1 (List.mem_of_getElem? (i := 87) rfl)) rfl
theorem tw_89 : Cond.laysFinal RX1 RX1 "yes" "[I" ∈ ip_Ts := ip_in (ip_t1 (List.mem_of_getElem? (i := 89) rfl)) rfl
theorem tw_91 : Cond.laysFinal RX1 RX1 "no" "[I" ∈ ip_Ts := ip_in (ip_t1 (List.mem_of_getElem? (i := 91) rfl)) rfl
theorem tw_93 : Cond.lays RX1 RX1 "fallen" "I" ∈ ip_Ts := ip_in (ip_t1 (List.mem_of_getElem? (i := 93) rfl)) rfl
theorem tw_96 : Cond.arrayClass .int ∈ ip_Ts := ip_in (ip_t1 (List.mem_of_getElem? (i := 96) rfl)) rfl
theorem tw_97 : Cond.classLink RX5 26 RX4 ∈ ip_Ts := ip_in (ip_t1 (List.mem_of_getElem? (i := 97) rfl)) rfl
theorem tw_98 : Cond.instantiable RX4 10 ∈ ip_Ts := ip_in (ip_t1 (List.mem_of_getElem? (i := 98) rfl)) rfl
theorem tw_100 : Cond.instanceMethod yX4_init ∈ ip_Ts := ip_in (ip_t1 (List.mem_of_getElem? (i := 100) rfl)) rfl
theorem tw_101 : Cond.code yX4_init prog_6_method_1_code 1 none ∈ ip_Ts := ip_in (ip_t1 (List.mem_of_getElem? (i := 101) rfl)) rfl
theorem tw_102 : Cond.methodLink RX4 3 Lib.objectInit ∈ ip_Ts := ip_in (ip_t1 (List.mem_of_getElem? (i := 102) rfl)) rfl
theorem tw_103 : Cond.fieldLink RX4 15 RX4 "plank" "I" ∈ ip_Ts := ip_in (ip_t1 (List.mem_of_getElem? (i := 103) rfl)) rfl
theorem tw_104 : Cond.fieldLink RX4 21 RX4 "but" "I" ∈ ip_Ts := ip_in (ip_t1 (List.mem_of_getElem? (i := 104) rfl)) rfl
theorem tw_105 : Cond.fieldLink RX4 24 RX4 "wit" "I" ∈ ip_Ts := ip_in (ip_t1 (List.mem_of_getElem? (i := 105) rfl)) rfl
theorem tw_106 : Cond.fieldLink RX4 30 RX4 "stepsTaken" "I" ∈ ip_Ts := ip_in (ip_t1 (List.mem_of_getElem? (i := 106) rfl)) rfl
theorem tw_107 : Cond.fieldLink RX4 34 RX4 "kind" "I" ∈ ip_Ts := ip_in (ip_t1 (List.mem_of_getElem? (i := 107) rfl)) rfl
theorem tw_108 : Cond.fieldLink RX5 218 RX4 "kind" "I" ∈ ip_Ts := ip_in (ip_t1 (List.mem_of_getElem? (i := 108) rfl)) rfl
theorem tw_109 : Cond.fieldLink RX4 39 RX4 "weight" "I" ∈ ip_Ts := ip_in (ip_t1 (List.mem_of_getElem? (i := 109) rfl)) rfl
theorem tw_110 : Cond.fieldLink RX5 220 RX4 "weight" "I" ∈ ip_Ts := ip_in (ip_t1 (List.mem_of_getElem? (i := 110) rfl)) rfl
theorem tw_111 : Cond.fieldLink RX4 44 RX4 "place" "I" ∈ ip_Ts := ip_in (ip_t1 (List.mem_of_getElem? (i := 111) rfl)) rfl
theorem tw_112 : Cond.fieldLink RX1 77 RX4 "place" "I" ∈ ip_Ts := ip_in (ip_t1 (List.mem_of_getElem? (i := 112) rfl)) rfl
theorem tw_113 : Cond.fieldLink RX5 192 RX4 "place" "I" ∈ ip_Ts := ip_in (ip_t1 (List.mem_of_getElem? (i := 113) rfl)) rfl
theorem tw_114 : Cond.fieldLink RX4 68 RX4 "right" "I" ∈ ip_Ts := ip_in (ip_t1 (List.mem_of_getElem? (i := 114) rfl)) rfl
theorem tw_115 : Cond.fieldLink RX5 151 RX4 "right" "I" ∈ ip_Ts := ip_in (ip_t1 (List.mem_of_getElem? (i := 115) rfl)) rfl
theorem tw_116 : Cond.fieldLink RX4 71 RX4 "wrong" "I" ∈ ip_Ts := ip_in (ip_t1 (List.mem_of_getElem? (i := 116) rfl)) rfl
theorem tw_117 : Cond.fieldLink RX5 154 RX4 "wrong" "I" ∈ ip_Ts := ip_in (ip_t1 (List.mem_of_getElem? (i := 117) rfl)) rfl
theorem tw_118 : Cond.fieldLink RX4 53 RX4 "fallen" "Z" ∈ ip_Ts := ip_in (ip_t1 (List.mem_of_getElem? (i := 118) rfl)) rfl
theorem tw_119 : Cond.fieldLink RX1 79 RX4 "fallen" "Z" ∈ ip_Ts := ip_in (ip_t1 (List.mem_of_getElem? (i := 119) rfl)) rfl
theorem tw_120 : Cond.fieldLink RX5 201 RX4 "fallen" "Z" ∈ ip_Ts := ip_in (ip_t1 (List.mem_of_getElem? (i := 120) rfl)) rfl
theorem tw_121 : Cond.lays RX4 RX4 "plank" "I" ∈ ip_Ts := ip_in (ip_t1 (List.mem_of_getElem? (i := 121) rfl)) rfl
theorem tw_123 : Cond.lays RX4 RX4 "but" "I" ∈ ip_Ts := ip_in (ip_t1 (List.mem_of_getElem? (i := 123) rfl)) rfl
theorem tw_125 : Cond.lays RX4 RX4 "wit" "I" ∈ ip_Ts := ip_in (ip_t1 (List.mem_of_getElem? (i := 125) rfl)) rfl
theorem tw_127 : Cond.lays RX4 RX4 "stepsTaken" "I" ∈ ip_Ts := ip_in (ip_t1 (List.mem_of_getElem? (i := 127) rfl)) rfl
theorem tw_129 : Cond.lays RX4 RX4 "kind" "I" ∈ ip_Ts := ip_in (ip_t1 (List.mem_of_getElem? (i := 129) rfl)) rfl
theorem tw_131 : Cond.lays RX4 RX4 "weight" "I" ∈ ip_Ts := ip_in (ip_t1 (List.mem_of_getElem? (i := 131) rfl)) rfl
theorem tw_133 : Cond.lays RX4 RX4 "place" "I" ∈ ip_Ts := ip_in (ip_t1 (List.mem_of_getElem? (i := 133) rfl)) rfl
theorem tw_135 : Cond.lays RX4 RX4 "right" "I" ∈ ip_Ts := ip_in (ip_t1 (List.mem_of_getElem? (i := 135) rfl)) rfl
theorem tw_137 : Cond.lays RX4 RX4 "wrong" "I" ∈ ip_Ts := ip_in (ip_t1 (List.mem_of_getElem? (i := 137) rfl)) rfl
theorem tw_139 : Cond.lays RX4 RX4 "fallen" "Z" ∈ ip_Ts := ip_in (ip_t1 (List.mem_of_getElem? (i := 139) rfl)) rfl
theorem tw_142 : Cond.classLink RX5 33 RX3 ∈ ip_Ts := ip_in (ip_t1 (List.mem_of_getElem? (i := 142) rfl)) rfl
theorem tw_143 : Cond.instantiable RX3 6 ∈ ip_Ts := ip_in (ip_t1 (List.mem_of_getElem? (i := 143) rfl)) rfl
theorem tw_145 : Cond.instanceMethod yX3_init ∈ ip_Ts := ip_in (ip_t1 (List.mem_of_getElem? (i := 145) rfl)) rfl
theorem tw_146 : Cond.code yX3_init prog_5_method_1_code 1 none ∈ ip_Ts := ip_in (ip_t1 (List.mem_of_getElem? (i := 146) rfl)) rfl
theorem tw_147 : Cond.methodLink RX3 3 Lib.objectInit ∈ ip_Ts := ip_in (ip_t1 (List.mem_of_getElem? (i := 147) rfl)) rfl
theorem tw_148 : Cond.fieldLink RX3 9 RX3 "bytes" "[B" ∈ ip_Ts := ip_in (ip_t1 (List.mem_of_getElem? (i := 148) rfl)) rfl
theorem tw_149 : Cond.fieldLink RX3 22 RX3 "length" "I" ∈ ip_Ts := ip_in (ip_t1 (List.mem_of_getElem? (i := 149) rfl)) rfl
theorem tw_150 : Cond.fieldLink RX5 71 RX3 "length" "I" ∈ ip_Ts := ip_in (ip_t1 (List.mem_of_getElem? (i := 150) rfl)) rfl
theorem tw_151 : Cond.fieldLink RX3 15 RX3 "token" "I" ∈ ip_Ts := ip_in (ip_t1 (List.mem_of_getElem? (i := 151) rfl)) rfl
theorem tw_152 : Cond.fieldLink RX3 106 RX3 "from" "I" ∈ ip_Ts := ip_in (ip_t1 (List.mem_of_getElem? (i := 152) rfl)) rfl
theorem tw_153 : Cond.fieldLink RX3 25 RX3 "next" "I" ∈ ip_Ts := ip_in (ip_t1 (List.mem_of_getElem? (i := 153) rfl)) rfl
theorem tw_154 : Cond.fieldLink RX3 19 RX3 "fault" "I" ∈ ip_Ts := ip_in (ip_t1 (List.mem_of_getElem? (i := 154) rfl)) rfl
theorem tw_155 : Cond.laysFinal RX3 RX3 "bytes" "[B" ∈ ip_Ts := ip_in (ip_t1 (List.mem_of_getElem? (i := 155) rfl)) rfl
theorem tw_157 : Cond.lays RX3 RX3 "length" "I" ∈ ip_Ts := ip_in (ip_t1 (List.mem_of_getElem? (i := 157) rfl)) rfl
theorem tw_159 : Cond.lays RX3 RX3 "token" "I" ∈ ip_Ts := ip_in (ip_t1 (List.mem_of_getElem? (i := 159) rfl)) rfl
theorem tw_161 : Cond.lays RX3 RX3 "from" "I" ∈ ip_Ts := ip_in (ip_t1 (List.mem_of_getElem? (i := 161) rfl)) rfl
theorem tw_163 : Cond.lays RX3 RX3 "next" "I" ∈ ip_Ts := ip_in (ip_t1 (List.mem_of_getElem? (i := 163) rfl)) rfl
theorem tw_165 : Cond.lays RX3 RX3 "fault" "I" ∈ ip_Ts := ip_in (ip_t1 (List.mem_of_getElem? (i := 165) rfl)) rfl
theorem tw_168 : Cond.arrayClass .byte ∈ ip_Ts := ip_in (ip_t1 (List.mem_of_getElem? (i := 168) rfl)) rfl
theorem tw_169 : Cond.classLink RX5 40 RX0 ∈ ip_Ts := ip_in (ip_t1 (List.mem_of_getElem? (i := 169) rfl)) rfl
theorem tw_170 : Cond.instantiable RX0 6 ∈ ip_Ts := ip_in (ip_t1 (List.mem_of_getElem? (i := 170) rfl)) rfl
theorem tw_172 : Cond.instanceMethod yX0_init ∈ ip_Ts := ip_in (ip_t1 (List.mem_of_getElem? (i := 172) rfl)) rfl
theorem tw_173 : Cond.code yX0_init prog_2_method_1_code 1 none ∈ ip_Ts := ip_in (ip_t1 (List.mem_of_getElem? (i := 173) rfl)) rfl
theorem tw_174 : Cond.methodLink RX0 3 Lib.objectInit ∈ ip_Ts := ip_in (ip_t1 (List.mem_of_getElem? (i := 174) rfl)) rfl
theorem tw_175 : Cond.fieldLink RX0 9 RX0 "trace" "[I" ∈ ip_Ts := ip_in (ip_t1 (List.mem_of_getElem? (i := 175) rfl)) rfl
theorem tw_176 : Cond.fieldLink RX5 292 RX0 "trace" "[I" ∈ ip_Ts := ip_in (ip_t1 (List.mem_of_getElem? (i := 176) rfl)) rfl
theorem tw_177 : Cond.fieldLink RX0 15 RX0 "traced" "I" ∈ ip_Ts := ip_in (ip_t1 (List.mem_of_getElem? (i := 177) rfl)) rfl
theorem tw_178 : Cond.fieldLink RX5 289 RX0 "traced" "I" ∈ ip_Ts := ip_in (ip_t1 (List.mem_of_getElem? (i := 178) rfl)) rfl
theorem tw_179 : Cond.fieldLink RX0 19 RX0 "parted" "Z" ∈ ip_Ts := ip_in (ip_t1 (List.mem_of_getElem? (i := 179) rfl)) rfl
theorem tw_180 : Cond.fieldLink RX0 23 RX0 "kind" "I" ∈ ip_Ts := ip_in (ip_t1 (List.mem_of_getElem? (i := 180) rfl)) rfl
theorem tw_181 : Cond.fieldLink RX0 26 RX0 "number" "I" ∈ ip_Ts := ip_in (ip_t1 (List.mem_of_getElem? (i := 181) rfl)) rfl
theorem tw_182 : Cond.fieldLink RX0 29 RX0 "place" "I" ∈ ip_Ts := ip_in (ip_t1 (List.mem_of_getElem? (i := 182) rfl)) rfl
theorem tw_183 : Cond.laysFinal RX0 RX0 "trace" "[I" ∈ ip_Ts := ip_in (ip_t1 (List.mem_of_getElem? (i := 183) rfl)) rfl
theorem tw_185 : Cond.lays RX0 RX0 "traced" "I" ∈ ip_Ts := ip_in (ip_t1 (List.mem_of_getElem? (i := 185) rfl)) rfl
theorem tw_187 : Cond.lays RX0 RX0 "parted" "Z" ∈ ip_Ts := ip_in (ip_t1 (List.mem_of_getElem? (i := 187) rfl)) rfl
theorem tw_189 : Cond.lays RX0 RX0 "kind" "I" ∈ ip_Ts := ip_in (ip_t1 (List.mem_of_getElem? (i := 189) rfl)) rfl
theorem tw_191 : Cond.lays RX0 RX0 "number" "I" ∈ ip_Ts := ip_in (ip_t1 (List.mem_of_getElem? (i := 191) rfl)) rfl
theorem tw_193 : Cond.lays RX0 RX0 "place" "I" ∈ ip_Ts := ip_in (ip_t1 (List.mem_of_getElem? (i := 193) rfl)) rfl
theorem tw_196 : Cond.classLink RX5 55 RX2 ∈ ip_Ts := ip_in (ip_t1 (List.mem_of_getElem? (i := 196) rfl)) rfl
theorem tw_198 : Cond.fieldLink RX5 10 RX5 "now" "LTruthRope$Ring;" ∈ ip_Ts := ip_in (ip_t1 (List.mem_of_getElem? (i := 198) rfl)) rfl
theorem tw_199 : Cond.fieldLink RX5 16 RX5 "tried" "LTruthRope$Ring;" ∈ ip_Ts := ip_in (ip_t1 (List.mem_of_getElem? (i := 199) rfl)) rfl
theorem tw_200 : Cond.fieldLink RX5 19 RX5 "kept" "LTruthRope$Ring;" ∈ ip_Ts := ip_in (ip_t1 (List.mem_of_getElem? (i := 200) rfl)) rfl
theorem tw_201 : Cond.fieldLink RX5 22 RX5 "anyKept" "Z" ∈ ip_Ts := ip_in (ip_t1 (List.mem_of_getElem? (i := 201) rfl)) rfl
theorem tw_202 : Cond.fieldLink RX5 29 RX5 "trial" "LTruthRope$Trial;" ∈ ip_Ts := ip_in (ip_t1 (List.mem_of_getElem? (i := 202) rfl)) rfl
theorem tw_203 : Cond.fieldLink RX5 36 RX5 "text" "LTruthRope$Text;" ∈ ip_Ts := ip_in (ip_t1 (List.mem_of_getElem? (i := 203) rfl)) rfl
theorem tw_204 : Cond.fieldLink RX5 43 RX5 "deed" "LTruthRope$Deed;" ∈ ip_Ts := ip_in (ip_t1 (List.mem_of_getElem? (i := 204) rfl)) rfl
theorem tw_205 : Cond.fieldLink RX5 47 RX5 "rows" "[I" ∈ ip_Ts := ip_in (ip_t1 (List.mem_of_getElem? (i := 205) rfl)) rfl
theorem tw_206 : Cond.fieldLink RX5 51 RX5 "rowCount" "I" ∈ ip_Ts := ip_in (ip_t1 (List.mem_of_getElem? (i := 206) rfl)) rfl
theorem tw_207 : Cond.fieldLink RX5 57 RX5 "sheets" "[LTruthRope$Strip;" ∈ ip_Ts := ip_in (ip_t1 (List.mem_of_getElem? (i := 207) rfl)) rfl
theorem tw_208 : Cond.fieldLink RX5 61 RX5 "shelfStrips" "[LTruthRope$Strip;" ∈ ip_Ts := ip_in (ip_t1 (List.mem_of_getElem? (i := 208) rfl)) rfl
theorem tw_209 : Cond.fieldLink RX5 64 RX5 "shelfWalkers" "[I" ∈ ip_Ts := ip_in (ip_t1 (List.mem_of_getElem? (i := 209) rfl)) rfl
theorem tw_210 : Cond.laysFinal RX5 RX5 "now" "LTruthRope$Ring;" ∈ ip_Ts := ip_in (ip_t1 (List.mem_of_getElem? (i := 210) rfl)) rfl
theorem tw_212 : Cond.laysFinal RX5 RX5 "tried" "LTruthRope$Ring;" ∈ ip_Ts := ip_in (ip_t1 (List.mem_of_getElem? (i := 212) rfl)) rfl
theorem tw_214 : Cond.laysFinal RX5 RX5 "kept" "LTruthRope$Ring;" ∈ ip_Ts := ip_in (ip_t1 (List.mem_of_getElem? (i := 214) rfl)) rfl
theorem tw_216 : Cond.lays RX5 RX5 "anyKept" "Z" ∈ ip_Ts := ip_in (ip_t1 (List.mem_of_getElem? (i := 216) rfl)) rfl
theorem tw_218 : Cond.laysFinal RX5 RX5 "trial" "LTruthRope$Trial;" ∈ ip_Ts := ip_in (ip_t1 (List.mem_of_getElem? (i := 218) rfl)) rfl
theorem tw_220 : Cond.laysFinal RX5 RX5 "text" "LTruthRope$Text;" ∈ ip_Ts := ip_in (ip_t1 (List.mem_of_getElem? (i := 220) rfl)) rfl
theorem tw_222 : Cond.laysFinal RX5 RX5 "deed" "LTruthRope$Deed;" ∈ ip_Ts := ip_in (ip_t1 (List.mem_of_getElem? (i := 222) rfl)) rfl
theorem tw_224 : Cond.laysFinal RX5 RX5 "rows" "[I" ∈ ip_Ts := ip_in (ip_t1 (List.mem_of_getElem? (i := 224) rfl)) rfl
theorem tw_226 : Cond.lays RX5 RX5 "rowCount" "I" ∈ ip_Ts := ip_in (ip_t1 (List.mem_of_getElem? (i := 226) rfl)) rfl
theorem tw_228 : Cond.laysFinal RX5 RX5 "sheets" "[LTruthRope$Strip;" ∈ ip_Ts := ip_in (ip_t1 (List.mem_of_getElem? (i := 228) rfl)) rfl
theorem tw_230 : Cond.laysFinal RX5 RX5 "shelfStrips" "[LTruthRope$Strip;" ∈ ip_Ts := ip_in (ip_t1 (List.mem_of_getElem? (i := 230) rfl)) rfl
theorem tw_232 : Cond.laysFinal RX5 RX5 "shelfWalkers" "[I" ∈ ip_Ts := ip_in (ip_t1 (List.mem_of_getElem? (i := 232) rfl)) rfl
theorem tw_235 : Cond.methodLink RL 15 yX5_feed ∈ ip_Ts := ip_in (ip_t1 (List.mem_of_getElem? (i := 235) rfl)) rfl
theorem tw_236 : Cond.instanceMethod yX5_feed ∈ ip_Ts := ip_in (ip_t1 (List.mem_of_getElem? (i := 236) rfl)) rfl
theorem tw_237 : Cond.selects RX5 yX5_feed yX5_feed ∈ ip_Ts := ip_in (ip_t1 (List.mem_of_getElem? (i := 237) rfl)) rfl
theorem tw_238 : Cond.code yX5_feed prog_1_method_2_code 5 (some .int) ∈ ip_Ts := ip_in (ip_t1 (List.mem_of_getElem? (i := 238) rfl)) rfl
theorem tw_239 : Cond.methodLink RX5 67 yX5_within ∈ ip_Ts := ip_in (ip_t1 (List.mem_of_getElem? (i := 239) rfl)) rfl
theorem tw_240 : Cond.static yX5_within ∈ ip_Ts := ip_in (ip_t2 (List.mem_of_getElem? (i := 0) rfl)) rfl
theorem tw_241 : Cond.code yX5_within prog_1_method_45_code 3 (some .boolean) ∈ ip_Ts := ip_in (ip_t2 (List.mem_of_getElem? (i := 1) rfl)) rfl
theorem tw_242 : Cond.methodLink RX5 74 yX3_append ∈ ip_Ts := ip_in (ip_t2 (List.mem_of_getElem? (i := 2) rfl)) rfl
theorem tw_243 : Cond.instanceMethod yX3_append ∈ ip_Ts := ip_in (ip_t2 (List.mem_of_getElem? (i := 3) rfl)) rfl
theorem tw_244 : Cond.selects RX3 yX3_append yX3_append ∈ ip_Ts := ip_in (ip_t2 (List.mem_of_getElem? (i := 4) rfl)) rfl
theorem tw_245 : Cond.code yX3_append prog_5_method_2_code 2 none ∈ ip_Ts := ip_in (ip_t2 (List.mem_of_getElem? (i := 5) rfl)) rfl
theorem tw_246 : Cond.methodLink RL 20 yX5_circus ∈ ip_Ts := ip_in (ip_t2 (List.mem_of_getElem? (i := 6) rfl)) rfl
theorem tw_247 : Cond.instanceMethod yX5_circus ∈ ip_Ts := ip_in (ip_t2 (List.mem_of_getElem? (i := 7) rfl)) rfl
theorem tw_248 : Cond.selects RX5 yX5_circus yX5_circus ∈ ip_Ts := ip_in (ip_t2 (List.mem_of_getElem? (i := 8) rfl)) rfl
theorem tw_249 : Cond.code yX5_circus prog_1_method_3_code 2 (some .int) ∈ ip_Ts := ip_in (ip_t2 (List.mem_of_getElem? (i := 9) rfl)) rfl
theorem tw_250 : Cond.methodLink RX5 78 yX1_clear ∈ ip_Ts := ip_in (ip_t2 (List.mem_of_getElem? (i := 10) rfl)) rfl
theorem tw_251 : Cond.methodLink RX5 84 yX3_readInto ∈ ip_Ts := ip_in (ip_t2 (List.mem_of_getElem? (i := 11) rfl)) rfl
theorem tw_252 : Cond.instanceMethod yX3_readInto ∈ ip_Ts := ip_in (ip_t2 (List.mem_of_getElem? (i := 12) rfl)) rfl
theorem tw_253 : Cond.selects RX3 yX3_readInto yX3_readInto ∈ ip_Ts := ip_in (ip_t2 (List.mem_of_getElem? (i := 13) rfl)) rfl
theorem tw_254 : Cond.code yX3_readInto prog_5_method_3_code 3 (some .int) ∈ ip_Ts := ip_in (ip_t2 (List.mem_of_getElem? (i := 14) rfl)) rfl
theorem tw_255 : Cond.methodLink RX3 28 yX3_advance ∈ ip_Ts := ip_in (ip_t2 (List.mem_of_getElem? (i := 15) rfl)) rfl
theorem tw_256 : Cond.instanceMethod yX3_advance ∈ ip_Ts := ip_in (ip_t2 (List.mem_of_getElem? (i := 16) rfl)) rfl
theorem tw_257 : Cond.selects RX3 yX3_advance yX3_advance ∈ ip_Ts := ip_in (ip_t2 (List.mem_of_getElem? (i := 17) rfl)) rfl
theorem tw_258 : Cond.code yX3_advance prog_5_method_10_code 2 none ∈ ip_Ts := ip_in (ip_t2 (List.mem_of_getElem? (i := 18) rfl)) rfl
theorem tw_259 : Cond.methodLink RX3 109 yX3_isLetter ∈ ip_Ts := ip_in (ip_t2 (List.mem_of_getElem? (i := 19) rfl)) rfl
theorem tw_260 : Cond.static yX3_isLetter ∈ ip_Ts := ip_in (ip_t2 (List.mem_of_getElem? (i := 20) rfl)) rfl
theorem tw_261 : Cond.code yX3_isLetter prog_5_method_11_code 1 (some .boolean) ∈ ip_Ts := ip_in (ip_t2 (List.mem_of_getElem? (i := 21) rfl)) rfl
theorem tw_262 : Cond.methodLink RX3 113 yX3_isDigit ∈ ip_Ts := ip_in (ip_t2 (List.mem_of_getElem? (i := 22) rfl)) rfl
theorem tw_263 : Cond.static yX3_isDigit ∈ ip_Ts := ip_in (ip_t2 (List.mem_of_getElem? (i := 23) rfl)) rfl
theorem tw_264 : Cond.code yX3_isDigit prog_5_method_12_code 1 (some .boolean) ∈ ip_Ts := ip_in (ip_t2 (List.mem_of_getElem? (i := 24) rfl)) rfl
theorem tw_265 : Cond.methodLink RX3 31 yX3_readOne ∈ ip_Ts := ip_in (ip_t2 (List.mem_of_getElem? (i := 25) rfl)) rfl
theorem tw_266 : Cond.instanceMethod yX3_readOne ∈ ip_Ts := ip_in (ip_t2 (List.mem_of_getElem? (i := 26) rfl)) rfl
theorem tw_267 : Cond.selects RX3 yX3_readOne yX3_readOne ∈ ip_Ts := ip_in (ip_t2 (List.mem_of_getElem? (i := 27) rfl)) rfl
theorem tw_268 : Cond.code yX3_readOne prog_5_method_4_code 4 none ∈ ip_Ts := ip_in (ip_t2 (List.mem_of_getElem? (i := 28) rfl)) rfl
theorem tw_269 : Cond.methodLink RX3 35 yX3_kindNamed ∈ ip_Ts := ip_in (ip_t2 (List.mem_of_getElem? (i := 29) rfl)) rfl
theorem tw_270 : Cond.instanceMethod yX3_kindNamed ∈ ip_Ts := ip_in (ip_t2 (List.mem_of_getElem? (i := 30) rfl)) rfl
theorem tw_271 : Cond.selects RX3 yX3_kindNamed yX3_kindNamed ∈ ip_Ts := ip_in (ip_t2 (List.mem_of_getElem? (i := 31) rfl)) rfl
theorem tw_272 : Cond.code yX3_kindNamed prog_5_method_15_code 1 (some .int) ∈ ip_Ts := ip_in (ip_t2 (List.mem_of_getElem? (i := 32) rfl)) rfl
theorem tw_274 : Cond.methodLink RX3 67 yX3_isNamed ∈ ip_Ts := ip_in (ip_t2 (List.mem_of_getElem? (i := 34) rfl)) rfl
theorem tw_275 : Cond.instanceMethod yX3_isNamed ∈ ip_Ts := ip_in (ip_t2 (List.mem_of_getElem? (i := 35) rfl)) rfl
theorem tw_276 : Cond.selects RX3 yX3_isNamed yX3_isNamed ∈ ip_Ts := ip_in (ip_t2 (List.mem_of_getElem? (i := 36) rfl)) rfl
theorem tw_277 : Cond.code yX3_isNamed prog_5_method_14_code 3 (some .boolean) ∈ ip_Ts := ip_in (ip_t2 (List.mem_of_getElem? (i := 37) rfl)) rfl
theorem tw_278 : Cond.methodLink RX3 116 yJ0_length_8abf5 ∈ ip_Ts := ip_in (ip_t2 (List.mem_of_getElem? (i := 38) rfl)) rfl
theorem tw_279 : Cond.instanceMethod yJ0_length_8abf5 ∈ ip_Ts := ip_in (ip_t2 (List.mem_of_getElem? (i := 39) rfl)) rfl
theorem tw_280 : Cond.selects RJ0 yJ0_length_8abf5 yJ0_length_8abf5 ∈ ip_Ts := ip_in (ip_t2 (List.mem_of_getElem? (i := 40) rfl)) rfl
theorem tw_281 : Cond.code yJ0_length_8abf5 prog_11_method_54_code 1 (some .int) ∈ ip_Ts := ip_in (ip_t2 (List.mem_of_getElem? (i := 41) rfl)) rfl
theorem tw_282 : Cond.methodLink RJ0 335 yJ0_coder_7d493 ∈ ip_Ts := ip_in (ip_t2 (List.mem_of_getElem? (i := 42) rfl)) rfl
theorem tw_283 : Cond.instanceMethod yJ0_coder_7d493 ∈ ip_Ts := ip_in (ip_t2 (List.mem_of_getElem? (i := 43) rfl)) rfl
theorem tw_284 : Cond.selects RJ0 yJ0_coder_7d493 yJ0_coder_7d493 ∈ ip_Ts := ip_in (ip_t2 (List.mem_of_getElem? (i := 44) rfl)) rfl
theorem tw_285 : Cond.code yJ0_coder_7d493 prog_11_method_152_code 1 (some .byte) ∈ ip_Ts := ip_in (ip_t2 (List.mem_of_getElem? (i := 45) rfl)) rfl
theorem tw_286 : Cond.fieldLink RJ0 38 RJ0 "COMPACT_STRINGS" "Z" ∈ ip_Ts := ip_in (ip_t2 (List.mem_of_getElem? (i := 46) rfl)) rfl
theorem tw_288 : Cond.methodLink RX3 120 yJ0_charAt_5068e ∈ ip_Ts := ip_in (ip_t2 (List.mem_of_getElem? (i := 48) rfl)) rfl
theorem tw_289 : Cond.instanceMethod yJ0_charAt_5068e ∈ ip_Ts := ip_in (ip_t2 (List.mem_of_getElem? (i := 49) rfl)) rfl
theorem tw_290 : Cond.selects RJ0 yJ0_charAt_5068e yJ0_charAt_5068e ∈ ip_Ts := ip_in (ip_t2 (List.mem_of_getElem? (i := 50) rfl)) rfl
theorem tw_291 : Cond.code yJ0_charAt_5068e prog_11_method_56_code 2 (some .char) ∈ ip_Ts := ip_in (ip_t2 (List.mem_of_getElem? (i := 51) rfl)) rfl
theorem tw_292 : Cond.methodLink RJ0 492 yJ0_isLatin1_aae02 ∈ ip_Ts := ip_in (ip_t2 (List.mem_of_getElem? (i := 52) rfl)) rfl
theorem tw_293 : Cond.instanceMethod yJ0_isLatin1_aae02 ∈ ip_Ts := ip_in (ip_t2 (List.mem_of_getElem? (i := 53) rfl)) rfl
theorem tw_294 : Cond.selects RJ0 yJ0_isLatin1_aae02 yJ0_isLatin1_aae02 ∈ ip_Ts := ip_in (ip_t2 (List.mem_of_getElem? (i := 54) rfl)) rfl
theorem tw_295 : Cond.code yJ0_isLatin1_aae02 prog_11_method_154_code 1 (some .boolean) ∈ ip_Ts := ip_in (ip_t2 (List.mem_of_getElem? (i := 55) rfl)) rfl
theorem tw_296 : Cond.methodLink RJ0 495 yJ1_charAt_3b067 ∈ ip_Ts := ip_in (ip_t2 (List.mem_of_getElem? (i := 56) rfl)) rfl
theorem tw_297 : Cond.static yJ1_charAt_3b067 ∈ ip_Ts := ip_in (ip_t2 (List.mem_of_getElem? (i := 57) rfl)) rfl
theorem tw_298 : Cond.code yJ1_charAt_3b067 prog_12_method_2_code 2 (some .char) ∈ ip_Ts := ip_in (ip_t2 (List.mem_of_getElem? (i := 58) rfl)) rfl
theorem tw_299 : Cond.methodLink RJ1 9 yJ0_checkIndex_df160 ∈ ip_Ts := ip_in (ip_t2 (List.mem_of_getElem? (i := 59) rfl)) rfl
theorem tw_300 : Cond.static yJ0_checkIndex_df160 ∈ ip_Ts := ip_in (ip_t2 (List.mem_of_getElem? (i := 60) rfl)) rfl
theorem tw_301 : Cond.code yJ0_checkIndex_df160 prog_11_method_155_code 2 none ∈ ip_Ts := ip_in (ip_t2 (List.mem_of_getElem? (i := 61) rfl)) rfl
theorem tw_302 : Cond.fieldLink RJ0 1053 RJ3 "SIOOBE_FORMATTER" "Ljava/util/function/BiFunction;" ∈ ip_Ts := ip_in (ip_t2 (List.mem_of_getElem? (i := 62) rfl)) rfl
theorem tw_304 : Cond.methodLink RJ0 1059 yJ3_checkIndex_8e157 ∈ ip_Ts := ip_in (ip_t2 (List.mem_of_getElem? (i := 64) rfl)) rfl
theorem tw_305 : Cond.static yJ3_checkIndex_8e157 ∈ ip_Ts := ip_in (ip_t2 (List.mem_of_getElem? (i := 65) rfl)) rfl
theorem tw_306 : Cond.code yJ3_checkIndex_8e157 prog_15_method_11_code 3 (some .int) ∈ ip_Ts := ip_in (ip_t2 (List.mem_of_getElem? (i := 66) rfl)) rfl
theorem tw_331 : Cond.methodLink RX3 39 yX3_lawNamed ∈ ip_Ts := ip_in (ip_t2 (List.mem_of_getElem? (i := 91) rfl)) rfl
theorem tw_332 : Cond.instanceMethod yX3_lawNamed ∈ ip_Ts := ip_in (ip_t2 (List.mem_of_getElem? (i := 92) rfl)) rfl
theorem tw_333 : Cond.selects RX3 yX3_lawNamed yX3_lawNamed ∈ ip_Ts := ip_in (ip_t2 (List.mem_of_getElem? (i := 93) rfl)) rfl
theorem tw_334 : Cond.code yX3_lawNamed prog_5_method_16_code 1 (some .int) ∈ ip_Ts := ip_in (ip_t2 (List.mem_of_getElem? (i := 94) rfl)) rfl
theorem tw_339 : Cond.methodLink RX3 47 yX1_add ∈ ip_Ts := ip_in (ip_t2 (List.mem_of_getElem? (i := 99) rfl)) rfl
theorem tw_340 : Cond.instanceMethod yX1_add ∈ ip_Ts := ip_in (ip_t2 (List.mem_of_getElem? (i := 100) rfl)) rfl
theorem tw_341 : Cond.selects RX1 yX1_add yX1_add ∈ ip_Ts := ip_in (ip_t2 (List.mem_of_getElem? (i := 101) rfl)) rfl
theorem tw_342 : Cond.code yX1_add prog_3_method_4_code 4 (some .int) ∈ ip_Ts := ip_in (ip_t2 (List.mem_of_getElem? (i := 102) rfl)) rfl
theorem tw_343 : Cond.methodLink RX3 51 yX3_readWalker ∈ ip_Ts := ip_in (ip_t2 (List.mem_of_getElem? (i := 103) rfl)) rfl
theorem tw_344 : Cond.instanceMethod yX3_readWalker ∈ ip_Ts := ip_in (ip_t2 (List.mem_of_getElem? (i := 104) rfl)) rfl
theorem tw_345 : Cond.selects RX3 yX3_readWalker yX3_readWalker ∈ ip_Ts := ip_in (ip_t2 (List.mem_of_getElem? (i := 105) rfl)) rfl
theorem tw_346 : Cond.code yX3_readWalker prog_5_method_5_code 3 none ∈ ip_Ts := ip_in (ip_t2 (List.mem_of_getElem? (i := 106) rfl)) rfl
theorem tw_348 : Cond.methodLink RX3 84 yX3_readOption ∈ ip_Ts := ip_in (ip_t2 (List.mem_of_getElem? (i := 108) rfl)) rfl
theorem tw_349 : Cond.instanceMethod yX3_readOption ∈ ip_Ts := ip_in (ip_t2 (List.mem_of_getElem? (i := 109) rfl)) rfl
theorem tw_350 : Cond.selects RX3 yX3_readOption yX3_readOption ∈ ip_Ts := ip_in (ip_t2 (List.mem_of_getElem? (i := 110) rfl)) rfl
theorem tw_351 : Cond.code yX3_readOption prog_5_method_6_code 5 (some .int) ∈ ip_Ts := ip_in (ip_t2 (List.mem_of_getElem? (i := 111) rfl)) rfl
theorem tw_352 : Cond.methodLink RX3 62 yX3_readNumber ∈ ip_Ts := ip_in (ip_t2 (List.mem_of_getElem? (i := 112) rfl)) rfl
theorem tw_353 : Cond.instanceMethod yX3_readNumber ∈ ip_Ts := ip_in (ip_t2 (List.mem_of_getElem? (i := 113) rfl)) rfl
theorem tw_354 : Cond.selects RX3 yX3_readNumber yX3_readNumber ∈ ip_Ts := ip_in (ip_t2 (List.mem_of_getElem? (i := 114) rfl)) rfl
theorem tw_355 : Cond.code yX3_readNumber prog_5_method_7_code 4 (some .int) ∈ ip_Ts := ip_in (ip_t2 (List.mem_of_getElem? (i := 115) rfl)) rfl
theorem tw_356 : Cond.methodLink RX3 103 yX3_tokenNumber ∈ ip_Ts := ip_in (ip_t2 (List.mem_of_getElem? (i := 116) rfl)) rfl
theorem tw_357 : Cond.instanceMethod yX3_tokenNumber ∈ ip_Ts := ip_in (ip_t2 (List.mem_of_getElem? (i := 117) rfl)) rfl
theorem tw_358 : Cond.selects RX3 yX3_tokenNumber yX3_tokenNumber ∈ ip_Ts := ip_in (ip_t2 (List.mem_of_getElem? (i := 118) rfl)) rfl
theorem tw_359 : Cond.code yX3_tokenNumber prog_5_method_13_code 3 (some .int) ∈ ip_Ts := ip_in (ip_t2 (List.mem_of_getElem? (i := 119) rfl)) rfl
theorem tw_360 : Cond.methodLink RX3 74 yX3_fail ∈ ip_Ts := ip_in (ip_t2 (List.mem_of_getElem? (i := 120) rfl)) rfl
theorem tw_361 : Cond.instanceMethod yX3_fail ∈ ip_Ts := ip_in (ip_t2 (List.mem_of_getElem? (i := 121) rfl)) rfl
theorem tw_362 : Cond.selects RX3 yX3_fail yX3_fail ∈ ip_Ts := ip_in (ip_t2 (List.mem_of_getElem? (i := 122) rfl)) rfl
theorem tw_363 : Cond.code yX3_fail prog_5_method_9_code 1 none ∈ ip_Ts := ip_in (ip_t2 (List.mem_of_getElem? (i := 123) rfl)) rfl
theorem tw_370 : Cond.methodLink RX3 77 yX3_readClose ∈ ip_Ts := ip_in (ip_t2 (List.mem_of_getElem? (i := 130) rfl)) rfl
theorem tw_371 : Cond.instanceMethod yX3_readClose ∈ ip_Ts := ip_in (ip_t2 (List.mem_of_getElem? (i := 131) rfl)) rfl
theorem tw_372 : Cond.selects RX3 yX3_readClose yX3_readClose ∈ ip_Ts := ip_in (ip_t2 (List.mem_of_getElem? (i := 132) rfl)) rfl
theorem tw_373 : Cond.code yX3_readClose prog_5_method_8_code 1 none ∈ ip_Ts := ip_in (ip_t2 (List.mem_of_getElem? (i := 133) rfl)) rfl
theorem tw_374 : Cond.methodLink RX5 88 yX1_copy ∈ ip_Ts := ip_in (ip_t2 (List.mem_of_getElem? (i := 134) rfl)) rfl
theorem tw_375 : Cond.instanceMethod yX1_copy ∈ ip_Ts := ip_in (ip_t2 (List.mem_of_getElem? (i := 135) rfl)) rfl
theorem tw_376 : Cond.selects RX1 yX1_copy yX1_copy ∈ ip_Ts := ip_in (ip_t2 (List.mem_of_getElem? (i := 136) rfl)) rfl
theorem tw_377 : Cond.code yX1_copy prog_3_method_3_code 2 none ∈ ip_Ts := ip_in (ip_t2 (List.mem_of_getElem? (i := 137) rfl)) rfl
theorem tw_378 : Cond.methodLink RL 25 yX5_set ∈ ip_Ts := ip_in (ip_t2 (List.mem_of_getElem? (i := 138) rfl)) rfl
theorem tw_379 : Cond.instanceMethod yX5_set ∈ ip_Ts := ip_in (ip_t2 (List.mem_of_getElem? (i := 139) rfl)) rfl
theorem tw_380 : Cond.selects RX5 yX5_set yX5_set ∈ ip_Ts := ip_in (ip_t2 (List.mem_of_getElem? (i := 140) rfl)) rfl
theorem tw_381 : Cond.code yX5_set prog_1_method_4_code 4 (some .int) ∈ ip_Ts := ip_in (ip_t2 (List.mem_of_getElem? (i := 141) rfl)) rfl
theorem tw_382 : Cond.fieldLink RX5 95 RX5 "HIGHEST_LAWS" "[I" ∈ ip_Ts := ip_in (ip_t2 (List.mem_of_getElem? (i := 142) rfl)) rfl
theorem tw_383 : Cond.methodLink RL 30 yX5_lawOf ∈ ip_Ts := ip_in (ip_t2 (List.mem_of_getElem? (i := 143) rfl)) rfl
theorem tw_384 : Cond.instanceMethod yX5_lawOf ∈ ip_Ts := ip_in (ip_t2 (List.mem_of_getElem? (i := 144) rfl)) rfl
theorem tw_385 : Cond.selects RX5 yX5_lawOf yX5_lawOf ∈ ip_Ts := ip_in (ip_t2 (List.mem_of_getElem? (i := 145) rfl)) rfl
theorem tw_386 : Cond.code yX5_lawOf prog_1_method_5_code 2 (some .int) ∈ ip_Ts := ip_in (ip_t2 (List.mem_of_getElem? (i := 146) rfl)) rfl
theorem tw_387 : Cond.methodLink RL 35 yX5_fact ∈ ip_Ts := ip_in (ip_t2 (List.mem_of_getElem? (i := 147) rfl)) rfl
theorem tw_388 : Cond.instanceMethod yX5_fact ∈ ip_Ts := ip_in (ip_t2 (List.mem_of_getElem? (i := 148) rfl)) rfl
theorem tw_389 : Cond.selects RX5 yX5_fact yX5_fact ∈ ip_Ts := ip_in (ip_t2 (List.mem_of_getElem? (i := 149) rfl)) rfl
theorem tw_390 : Cond.code yX5_fact prog_1_method_6_code 4 (some .int) ∈ ip_Ts := ip_in (ip_t2 (List.mem_of_getElem? (i := 150) rfl)) rfl
theorem tw_391 : Cond.methodLink RX5 104 yX5_withBit ∈ ip_Ts := ip_in (ip_t2 (List.mem_of_getElem? (i := 151) rfl)) rfl
theorem tw_392 : Cond.static yX5_withBit ∈ ip_Ts := ip_in (ip_t2 (List.mem_of_getElem? (i := 152) rfl)) rfl
theorem tw_393 : Cond.code yX5_withBit prog_1_method_55_code 3 (some .int) ∈ ip_Ts := ip_in (ip_t2 (List.mem_of_getElem? (i := 153) rfl)) rfl
theorem tw_394 : Cond.methodLink RL 39 yX5_walker ∈ ip_Ts := ip_in (ip_t2 (List.mem_of_getElem? (i := 154) rfl)) rfl
theorem tw_395 : Cond.instanceMethod yX5_walker ∈ ip_Ts := ip_in (ip_t2 (List.mem_of_getElem? (i := 155) rfl)) rfl
theorem tw_396 : Cond.selects RX5 yX5_walker yX5_walker ∈ ip_Ts := ip_in (ip_t2 (List.mem_of_getElem? (i := 156) rfl)) rfl
theorem tw_397 : Cond.code yX5_walker prog_1_method_7_code 3 (some .int) ∈ ip_Ts := ip_in (ip_t2 (List.mem_of_getElem? (i := 157) rfl)) rfl
theorem tw_398 : Cond.methodLink RX5 108 yX5_isKind ∈ ip_Ts := ip_in (ip_t2 (List.mem_of_getElem? (i := 158) rfl)) rfl
theorem tw_399 : Cond.static yX5_isKind ∈ ip_Ts := ip_in (ip_t2 (List.mem_of_getElem? (i := 159) rfl)) rfl
theorem tw_400 : Cond.code yX5_isKind prog_1_method_46_code 1 (some .boolean) ∈ ip_Ts := ip_in (ip_t2 (List.mem_of_getElem? (i := 160) rfl)) rfl
theorem tw_401 : Cond.methodLink RX5 112 yX5_isWeight ∈ ip_Ts := ip_in (ip_t2 (List.mem_of_getElem? (i := 161) rfl)) rfl
theorem tw_402 : Cond.static yX5_isWeight ∈ ip_Ts := ip_in (ip_t2 (List.mem_of_getElem? (i := 162) rfl)) rfl
theorem tw_403 : Cond.code yX5_isWeight prog_1_method_47_code 1 (some .boolean) ∈ ip_Ts := ip_in (ip_t2 (List.mem_of_getElem? (i := 163) rfl)) rfl
theorem tw_404 : Cond.methodLink RX5 115 yX1_add ∈ ip_Ts := ip_in (ip_t2 (List.mem_of_getElem? (i := 164) rfl)) rfl
theorem tw_405 : Cond.methodLink RL 43 yX5_of ∈ ip_Ts := ip_in (ip_t2 (List.mem_of_getElem? (i := 165) rfl)) rfl
theorem tw_406 : Cond.instanceMethod yX5_of ∈ ip_Ts := ip_in (ip_t2 (List.mem_of_getElem? (i := 166) rfl)) rfl
theorem tw_407 : Cond.selects RX5 yX5_of yX5_of ∈ ip_Ts := ip_in (ip_t2 (List.mem_of_getElem? (i := 167) rfl)) rfl
theorem tw_408 : Cond.code yX5_of prog_1_method_8_code 3 (some .int) ∈ ip_Ts := ip_in (ip_t2 (List.mem_of_getElem? (i := 168) rfl)) rfl
theorem tw_409 : Cond.methodLink RX5 119 yX5_isWalker ∈ ip_Ts := ip_in (ip_t2 (List.mem_of_getElem? (i := 169) rfl)) rfl
theorem tw_411 : Cond.instanceMethod yX5_isWalker ∈ ip_Ts := ip_in (ip_t2 (List.mem_of_getElem? (i := 171) rfl)) rfl
theorem tw_412 : Cond.code yX5_isWalker prog_1_method_52_code 2 (some .boolean) ∈ ip_Ts := ip_in (ip_t2 (List.mem_of_getElem? (i := 172) rfl)) rfl
theorem tw_413 : Cond.methodLink RL 47 yX5_does ∈ ip_Ts := ip_in (ip_t2 (List.mem_of_getElem? (i := 173) rfl)) rfl
theorem tw_414 : Cond.instanceMethod yX5_does ∈ ip_Ts := ip_in (ip_t2 (List.mem_of_getElem? (i := 174) rfl)) rfl
theorem tw_415 : Cond.selects RX5 yX5_does yX5_does ∈ ip_Ts := ip_in (ip_t2 (List.mem_of_getElem? (i := 175) rfl)) rfl
theorem tw_416 : Cond.code yX5_does prog_1_method_9_code 3 (some .int) ∈ ip_Ts := ip_in (ip_t2 (List.mem_of_getElem? (i := 176) rfl)) rfl
theorem tw_417 : Cond.methodLink RX5 140 yX4_begin ∈ ip_Ts := ip_in (ip_t2 (List.mem_of_getElem? (i := 177) rfl)) rfl
theorem tw_418 : Cond.instanceMethod yX4_begin ∈ ip_Ts := ip_in (ip_t2 (List.mem_of_getElem? (i := 178) rfl)) rfl
theorem tw_419 : Cond.selects RX4 yX4_begin yX4_begin ∈ ip_Ts := ip_in (ip_t2 (List.mem_of_getElem? (i := 179) rfl)) rfl
theorem tw_420 : Cond.code yX4_begin prog_6_method_2_code 5 none ∈ ip_Ts := ip_in (ip_t2 (List.mem_of_getElem? (i := 180) rfl)) rfl
theorem tw_422 : Cond.static yX5_hasBit ∈ ip_Ts := ip_in (ip_t2 (List.mem_of_getElem? (i := 182) rfl)) rfl
theorem tw_423 : Cond.code yX5_hasBit prog_1_method_54_code 2 (some .boolean) ∈ ip_Ts := ip_in (ip_t2 (List.mem_of_getElem? (i := 183) rfl)) rfl
theorem tw_424 : Cond.methodLink RX4 56 yX1_rightOf ∈ ip_Ts := ip_in (ip_t2 (List.mem_of_getElem? (i := 184) rfl)) rfl
theorem tw_425 : Cond.instanceMethod yX1_rightOf ∈ ip_Ts := ip_in (ip_t2 (List.mem_of_getElem? (i := 185) rfl)) rfl
theorem tw_426 : Cond.selects RX1 yX1_rightOf yX1_rightOf ∈ ip_Ts := ip_in (ip_t2 (List.mem_of_getElem? (i := 186) rfl)) rfl
theorem tw_427 : Cond.code yX1_rightOf prog_3_method_6_code 3 (some .int) ∈ ip_Ts := ip_in (ip_t2 (List.mem_of_getElem? (i := 187) rfl)) rfl
theorem tw_429 : Cond.static yX5_rightOf ∈ ip_Ts := ip_in (ip_t2 (List.mem_of_getElem? (i := 189) rfl)) rfl
theorem tw_430 : Cond.code yX5_rightOf prog_1_method_64_code 3 (some .int) ∈ ip_Ts := ip_in (ip_t2 (List.mem_of_getElem? (i := 190) rfl)) rfl
theorem tw_431 : Cond.methodLink RX5 171 yJ6_bitCount_0f7a4 ∈ ip_Ts := ip_in (ip_t2 (List.mem_of_getElem? (i := 191) rfl)) rfl
theorem tw_432 : Cond.static yJ6_bitCount_0f7a4 ∈ ip_Ts := ip_in (ip_t2 (List.mem_of_getElem? (i := 192) rfl)) rfl
theorem tw_433 : Cond.code yJ6_bitCount_0f7a4 prog_9_method_49_code 1 (some .int) ∈ ip_Ts := ip_in (ip_t2 (List.mem_of_getElem? (i := 193) rfl)) rfl
theorem tw_434 : Cond.constant RJ6 265 (1431655765) ∈ ip_Ts := ip_in (ip_t2 (List.mem_of_getElem? (i := 194) rfl)) rfl
theorem tw_435 : Cond.constant RJ6 266 (858993459) ∈ ip_Ts := ip_in (ip_t2 (List.mem_of_getElem? (i := 195) rfl)) rfl
theorem tw_436 : Cond.constant RJ6 267 (252645135) ∈ ip_Ts := ip_in (ip_t2 (List.mem_of_getElem? (i := 196) rfl)) rfl
theorem tw_437 : Cond.methodLink RX4 60 yX1_saidBy ∈ ip_Ts := ip_in (ip_t2 (List.mem_of_getElem? (i := 197) rfl)) rfl
theorem tw_438 : Cond.instanceMethod yX1_saidBy ∈ ip_Ts := ip_in (ip_t2 (List.mem_of_getElem? (i := 198) rfl)) rfl
theorem tw_439 : Cond.selects RX1 yX1_saidBy yX1_saidBy ∈ ip_Ts := ip_in (ip_t2 (List.mem_of_getElem? (i := 199) rfl)) rfl
theorem tw_440 : Cond.code yX1_saidBy prog_3_method_5_code 2 (some .int) ∈ ip_Ts := ip_in (ip_t2 (List.mem_of_getElem? (i := 200) rfl)) rfl
theorem tw_441 : Cond.methodLink RX1 58 yJ6_bitCount_0f7a4 ∈ ip_Ts := ip_in (ip_t2 (List.mem_of_getElem? (i := 201) rfl)) rfl
theorem tw_442 : Cond.methodLink RX4 64 yX4_hear ∈ ip_Ts := ip_in (ip_t2 (List.mem_of_getElem? (i := 202) rfl)) rfl
theorem tw_443 : Cond.instanceMethod yX4_hear ∈ ip_Ts := ip_in (ip_t2 (List.mem_of_getElem? (i := 203) rfl)) rfl
theorem tw_444 : Cond.selects RX4 yX4_hear yX4_hear ∈ ip_Ts := ip_in (ip_t2 (List.mem_of_getElem? (i := 204) rfl)) rfl
theorem tw_445 : Cond.code yX4_hear prog_6_method_3_code 3 none ∈ ip_Ts := ip_in (ip_t2 (List.mem_of_getElem? (i := 205) rfl)) rfl
theorem tw_446 : Cond.methodLink RX5 144 yX4_bears ∈ ip_Ts := ip_in (ip_t2 (List.mem_of_getElem? (i := 206) rfl)) rfl
theorem tw_447 : Cond.instanceMethod yX4_bears ∈ ip_Ts := ip_in (ip_t2 (List.mem_of_getElem? (i := 207) rfl)) rfl
theorem tw_448 : Cond.selects RX4 yX4_bears yX4_bears ∈ ip_Ts := ip_in (ip_t2 (List.mem_of_getElem? (i := 208) rfl)) rfl
theorem tw_449 : Cond.code yX4_bears prog_6_method_6_code 1 (some .int) ∈ ip_Ts := ip_in (ip_t2 (List.mem_of_getElem? (i := 209) rfl)) rfl
theorem tw_450 : Cond.methodLink RX4 78 yX4_bearsAsClown ∈ ip_Ts := ip_in (ip_t2 (List.mem_of_getElem? (i := 210) rfl)) rfl
theorem tw_451 : Cond.instanceMethod yX4_bearsAsClown ∈ ip_Ts := ip_in (ip_t2 (List.mem_of_getElem? (i := 211) rfl)) rfl
theorem tw_452 : Cond.selects RX4 yX4_bearsAsClown yX4_bearsAsClown ∈ ip_Ts := ip_in (ip_t2 (List.mem_of_getElem? (i := 212) rfl)) rfl
theorem tw_453 : Cond.code yX4_bearsAsClown prog_6_method_8_code 1 (some .int) ∈ ip_Ts := ip_in (ip_t2 (List.mem_of_getElem? (i := 213) rfl)) rfl
theorem tw_454 : Cond.methodLink RX4 82 yX4_bearsAsChild ∈ ip_Ts := ip_in (ip_t2 (List.mem_of_getElem? (i := 214) rfl)) rfl
theorem tw_455 : Cond.instanceMethod yX4_bearsAsChild ∈ ip_Ts := ip_in (ip_t2 (List.mem_of_getElem? (i := 215) rfl)) rfl
theorem tw_456 : Cond.selects RX4 yX4_bearsAsChild yX4_bearsAsChild ∈ ip_Ts := ip_in (ip_t2 (List.mem_of_getElem? (i := 216) rfl)) rfl
theorem tw_457 : Cond.code yX4_bearsAsChild prog_6_method_9_code 1 (some .int) ∈ ip_Ts := ip_in (ip_t2 (List.mem_of_getElem? (i := 217) rfl)) rfl
theorem tw_458 : Cond.methodLink RX4 85 yX4_bearsAsWalker ∈ ip_Ts := ip_in (ip_t2 (List.mem_of_getElem? (i := 218) rfl)) rfl
theorem tw_459 : Cond.instanceMethod yX4_bearsAsWalker ∈ ip_Ts := ip_in (ip_t2 (List.mem_of_getElem? (i := 219) rfl)) rfl
theorem tw_460 : Cond.selects RX4 yX4_bearsAsWalker yX4_bearsAsWalker ∈ ip_Ts := ip_in (ip_t2 (List.mem_of_getElem? (i := 220) rfl)) rfl
theorem tw_461 : Cond.code yX4_bearsAsWalker prog_6_method_7_code 1 (some .int) ∈ ip_Ts := ip_in (ip_t2 (List.mem_of_getElem? (i := 221) rfl)) rfl
theorem tw_462 : Cond.methodLink RX5 148 yX4_strides ∈ ip_Ts := ip_in (ip_t2 (List.mem_of_getElem? (i := 222) rfl)) rfl
theorem tw_463 : Cond.instanceMethod yX4_strides ∈ ip_Ts := ip_in (ip_t2 (List.mem_of_getElem? (i := 223) rfl)) rfl
theorem tw_464 : Cond.selects RX4 yX4_strides yX4_strides ∈ ip_Ts := ip_in (ip_t2 (List.mem_of_getElem? (i := 224) rfl)) rfl
theorem tw_465 : Cond.code yX4_strides prog_6_method_10_code 1 (some .int) ∈ ip_Ts := ip_in (ip_t2 (List.mem_of_getElem? (i := 225) rfl)) rfl
theorem tw_466 : Cond.methodLink RL 51 yX5_mind ∈ ip_Ts := ip_in (ip_t2 (List.mem_of_getElem? (i := 226) rfl)) rfl
theorem tw_467 : Cond.instanceMethod yX5_mind ∈ ip_Ts := ip_in (ip_t2 (List.mem_of_getElem? (i := 227) rfl)) rfl
theorem tw_468 : Cond.selects RX5 yX5_mind yX5_mind ∈ ip_Ts := ip_in (ip_t2 (List.mem_of_getElem? (i := 228) rfl)) rfl
theorem tw_469 : Cond.code yX5_mind prog_1_method_10_code 5 (some .int) ∈ ip_Ts := ip_in (ip_t2 (List.mem_of_getElem? (i := 229) rfl)) rfl
theorem tw_470 : Cond.methodLink RL 56 yX5_say ∈ ip_Ts := ip_in (ip_t2 (List.mem_of_getElem? (i := 230) rfl)) rfl
theorem tw_471 : Cond.instanceMethod yX5_say ∈ ip_Ts := ip_in (ip_t2 (List.mem_of_getElem? (i := 231) rfl)) rfl
theorem tw_472 : Cond.selects RX5 yX5_say yX5_say ∈ ip_Ts := ip_in (ip_t2 (List.mem_of_getElem? (i := 232) rfl)) rfl
theorem tw_473 : Cond.code yX5_say prog_1_method_11_code 5 (some .int) ∈ ip_Ts := ip_in (ip_t2 (List.mem_of_getElem? (i := 233) rfl)) rfl
theorem tw_474 : Cond.methodLink RX5 157 yX5_isFactSet ∈ ip_Ts := ip_in (ip_t2 (List.mem_of_getElem? (i := 234) rfl)) rfl
theorem tw_475 : Cond.static yX5_isFactSet ∈ ip_Ts := ip_in (ip_t2 (List.mem_of_getElem? (i := 235) rfl)) rfl
theorem tw_476 : Cond.code yX5_isFactSet prog_1_method_48_code 1 (some .boolean) ∈ ip_Ts := ip_in (ip_t2 (List.mem_of_getElem? (i := 236) rfl)) rfl
theorem tw_477 : Cond.methodLink RX5 160 yX1_saidBy ∈ ip_Ts := ip_in (ip_t2 (List.mem_of_getElem? (i := 237) rfl)) rfl
theorem tw_478 : Cond.methodLink RL 60 yX5_stand ∈ ip_Ts := ip_in (ip_t2 (List.mem_of_getElem? (i := 238) rfl)) rfl
theorem tw_479 : Cond.instanceMethod yX5_stand ∈ ip_Ts := ip_in (ip_t2 (List.mem_of_getElem? (i := 239) rfl)) rfl
theorem tw_480 : Cond.selects RX5 yX5_stand yX5_stand ∈ ip_Ts := ip_in (ip_t3 (List.mem_of_getElem? (i := 0) rfl)) rfl
theorem tw_481 : Cond.code yX5_stand prog_1_method_12_code 4 (some .int) ∈ ip_Ts := ip_in (ip_t3 (List.mem_of_getElem? (i := 1) rfl)) rfl
theorem tw_482 : Cond.methodLink RL 64 yX5_steps ∈ ip_Ts := ip_in (ip_t3 (List.mem_of_getElem? (i := 2) rfl)) rfl
theorem tw_483 : Cond.instanceMethod yX5_steps ∈ ip_Ts := ip_in (ip_t3 (List.mem_of_getElem? (i := 3) rfl)) rfl
theorem tw_484 : Cond.selects RX5 yX5_steps yX5_steps ∈ ip_Ts := ip_in (ip_t3 (List.mem_of_getElem? (i := 4) rfl)) rfl
theorem tw_485 : Cond.code yX5_steps prog_1_method_13_code 3 (some .int) ∈ ip_Ts := ip_in (ip_t3 (List.mem_of_getElem? (i := 5) rfl)) rfl
theorem tw_486 : Cond.methodLink RX5 164 yX1_tread ∈ ip_Ts := ip_in (ip_t3 (List.mem_of_getElem? (i := 6) rfl)) rfl
theorem tw_487 : Cond.instanceMethod yX1_tread ∈ ip_Ts := ip_in (ip_t3 (List.mem_of_getElem? (i := 7) rfl)) rfl
theorem tw_488 : Cond.selects RX1 yX1_tread yX1_tread ∈ ip_Ts := ip_in (ip_t3 (List.mem_of_getElem? (i := 8) rfl)) rfl
theorem tw_489 : Cond.code yX1_tread prog_3_method_7_code 3 none ∈ ip_Ts := ip_in (ip_t3 (List.mem_of_getElem? (i := 9) rfl)) rfl
theorem tw_490 : Cond.methodLink RX1 68 yX4_begin ∈ ip_Ts := ip_in (ip_t3 (List.mem_of_getElem? (i := 10) rfl)) rfl
theorem tw_491 : Cond.methodLink RX1 74 yX4_tread ∈ ip_Ts := ip_in (ip_t3 (List.mem_of_getElem? (i := 11) rfl)) rfl
theorem tw_492 : Cond.instanceMethod yX4_tread ∈ ip_Ts := ip_in (ip_t3 (List.mem_of_getElem? (i := 12) rfl)) rfl
theorem tw_493 : Cond.selects RX4 yX4_tread yX4_tread ∈ ip_Ts := ip_in (ip_t3 (List.mem_of_getElem? (i := 13) rfl)) rfl
theorem tw_494 : Cond.code yX4_tread prog_6_method_11_code 1 none ∈ ip_Ts := ip_in (ip_t3 (List.mem_of_getElem? (i := 14) rfl)) rfl
theorem tw_495 : Cond.methodLink RX4 88 yX4_isAtRest ∈ ip_Ts := ip_in (ip_t3 (List.mem_of_getElem? (i := 15) rfl)) rfl
theorem tw_496 : Cond.instanceMethod yX4_isAtRest ∈ ip_Ts := ip_in (ip_t3 (List.mem_of_getElem? (i := 16) rfl)) rfl
theorem tw_497 : Cond.selects RX4 yX4_isAtRest yX4_isAtRest ∈ ip_Ts := ip_in (ip_t3 (List.mem_of_getElem? (i := 17) rfl)) rfl
theorem tw_498 : Cond.code yX4_isAtRest prog_6_method_5_code 1 (some .boolean) ∈ ip_Ts := ip_in (ip_t3 (List.mem_of_getElem? (i := 18) rfl)) rfl
theorem tw_499 : Cond.methodLink RX4 74 yX4_isAcross ∈ ip_Ts := ip_in (ip_t3 (List.mem_of_getElem? (i := 19) rfl)) rfl
theorem tw_500 : Cond.instanceMethod yX4_isAcross ∈ ip_Ts := ip_in (ip_t3 (List.mem_of_getElem? (i := 20) rfl)) rfl
theorem tw_501 : Cond.selects RX4 yX4_isAcross yX4_isAcross ∈ ip_Ts := ip_in (ip_t3 (List.mem_of_getElem? (i := 21) rfl)) rfl
theorem tw_502 : Cond.code yX4_isAcross prog_6_method_4_code 1 (some .boolean) ∈ ip_Ts := ip_in (ip_t3 (List.mem_of_getElem? (i := 22) rfl)) rfl
theorem tw_503 : Cond.methodLink RX4 91 yX4_bears ∈ ip_Ts := ip_in (ip_t3 (List.mem_of_getElem? (i := 23) rfl)) rfl
theorem tw_504 : Cond.methodLink RX4 94 yX4_strides ∈ ip_Ts := ip_in (ip_t3 (List.mem_of_getElem? (i := 24) rfl)) rfl
theorem tw_505 : Cond.methodLink RX4 97 Lib.Math.min.name ∈ ip_Ts := ip_in (ip_t3 (List.mem_of_getElem? (i := 25) rfl)) rfl
theorem tw_506 : Cond.static Lib.Math.min.name ∈ ip_Ts := ip_in (ip_t3 (List.mem_of_getElem? (i := 26) rfl)) rfl
theorem tw_507 : Cond.code Lib.Math.min.name Lib.Math.min.code 2 (some .int) ∈ ip_Ts := ip_in (ip_t3 (List.mem_of_getElem? (i := 27) rfl)) rfl
theorem tw_509 : Cond.methodLink RX5 168 yX1_across ∈ ip_Ts := ip_in (ip_t3 (List.mem_of_getElem? (i := 29) rfl)) rfl
theorem tw_510 : Cond.instanceMethod yX1_across ∈ ip_Ts := ip_in (ip_t3 (List.mem_of_getElem? (i := 30) rfl)) rfl
theorem tw_511 : Cond.selects RX1 yX1_across yX1_across ∈ ip_Ts := ip_in (ip_t3 (List.mem_of_getElem? (i := 31) rfl)) rfl
theorem tw_512 : Cond.code yX1_across prog_3_method_10_code 3 (some .int) ∈ ip_Ts := ip_in (ip_t3 (List.mem_of_getElem? (i := 32) rfl)) rfl
theorem tw_513 : Cond.methodLink RL 68 yX5_seed ∈ ip_Ts := ip_in (ip_t3 (List.mem_of_getElem? (i := 33) rfl)) rfl
theorem tw_514 : Cond.instanceMethod yX5_seed ∈ ip_Ts := ip_in (ip_t3 (List.mem_of_getElem? (i := 34) rfl)) rfl
theorem tw_515 : Cond.selects RX5 yX5_seed yX5_seed ∈ ip_Ts := ip_in (ip_t3 (List.mem_of_getElem? (i := 35) rfl)) rfl
theorem tw_516 : Cond.code yX5_seed prog_1_method_14_code 3 (some .int) ∈ ip_Ts := ip_in (ip_t3 (List.mem_of_getElem? (i := 36) rfl)) rfl
theorem tw_517 : Cond.methodLink RL 72 yX5_step ∈ ip_Ts := ip_in (ip_t3 (List.mem_of_getElem? (i := 37) rfl)) rfl
theorem tw_518 : Cond.instanceMethod yX5_step ∈ ip_Ts := ip_in (ip_t3 (List.mem_of_getElem? (i := 38) rfl)) rfl
theorem tw_519 : Cond.selects RX5 yX5_step yX5_step ∈ ip_Ts := ip_in (ip_t3 (List.mem_of_getElem? (i := 39) rfl)) rfl
theorem tw_520 : Cond.code yX5_step prog_1_method_15_code 1 (some .int) ∈ ip_Ts := ip_in (ip_t3 (List.mem_of_getElem? (i := 40) rfl)) rfl
theorem tw_521 : Cond.methodLink RX5 176 yX1_treadByDraws ∈ ip_Ts := ip_in (ip_t3 (List.mem_of_getElem? (i := 41) rfl)) rfl
theorem tw_522 : Cond.instanceMethod yX1_treadByDraws ∈ ip_Ts := ip_in (ip_t3 (List.mem_of_getElem? (i := 42) rfl)) rfl
theorem tw_523 : Cond.selects RX1 yX1_treadByDraws yX1_treadByDraws ∈ ip_Ts := ip_in (ip_t3 (List.mem_of_getElem? (i := 43) rfl)) rfl
theorem tw_524 : Cond.code yX1_treadByDraws prog_3_method_9_code 3 none ∈ ip_Ts := ip_in (ip_t3 (List.mem_of_getElem? (i := 44) rfl)) rfl
theorem tw_525 : Cond.methodLink RX1 87 yX1_draw ∈ ip_Ts := ip_in (ip_t3 (List.mem_of_getElem? (i := 45) rfl)) rfl
theorem tw_526 : Cond.instanceMethod yX1_draw ∈ ip_Ts := ip_in (ip_t3 (List.mem_of_getElem? (i := 46) rfl)) rfl
theorem tw_527 : Cond.selects RX1 yX1_draw yX1_draw ∈ ip_Ts := ip_in (ip_t3 (List.mem_of_getElem? (i := 47) rfl)) rfl
theorem tw_528 : Cond.code yX1_draw prog_3_method_8_code 1 (some .int) ∈ ip_Ts := ip_in (ip_t3 (List.mem_of_getElem? (i := 48) rfl)) rfl
theorem tw_529 : Cond.constant RX1 86 (1103515245) ∈ ip_Ts := ip_in (ip_t3 (List.mem_of_getElem? (i := 49) rfl)) rfl
theorem tw_530 : Cond.methodLink RX1 91 yX1_tread ∈ ip_Ts := ip_in (ip_t3 (List.mem_of_getElem? (i := 50) rfl)) rfl
theorem tw_531 : Cond.methodLink RL 76 yX5_luck ∈ ip_Ts := ip_in (ip_t3 (List.mem_of_getElem? (i := 51) rfl)) rfl
theorem tw_532 : Cond.instanceMethod yX5_luck ∈ ip_Ts := ip_in (ip_t3 (List.mem_of_getElem? (i := 52) rfl)) rfl
theorem tw_533 : Cond.selects RX5 yX5_luck yX5_luck ∈ ip_Ts := ip_in (ip_t3 (List.mem_of_getElem? (i := 53) rfl)) rfl
theorem tw_534 : Cond.code yX5_luck prog_1_method_16_code 6 (some .int) ∈ ip_Ts := ip_in (ip_t3 (List.mem_of_getElem? (i := 54) rfl)) rfl
theorem tw_535 : Cond.methodLink RL 80 yX5_state ∈ ip_Ts := ip_in (ip_t3 (List.mem_of_getElem? (i := 55) rfl)) rfl
theorem tw_536 : Cond.instanceMethod yX5_state ∈ ip_Ts := ip_in (ip_t3 (List.mem_of_getElem? (i := 56) rfl)) rfl
theorem tw_537 : Cond.selects RX5 yX5_state yX5_state ∈ ip_Ts := ip_in (ip_t3 (List.mem_of_getElem? (i := 57) rfl)) rfl
theorem tw_538 : Cond.code yX5_state prog_1_method_17_code 2 (some .int) ∈ ip_Ts := ip_in (ip_t3 (List.mem_of_getElem? (i := 58) rfl)) rfl
theorem tw_539 : Cond.methodLink RX5 182 yX1_placesTogether ∈ ip_Ts := ip_in (ip_t3 (List.mem_of_getElem? (i := 59) rfl)) rfl
theorem tw_540 : Cond.instanceMethod yX1_placesTogether ∈ ip_Ts := ip_in (ip_t3 (List.mem_of_getElem? (i := 60) rfl)) rfl
theorem tw_541 : Cond.selects RX1 yX1_placesTogether yX1_placesTogether ∈ ip_Ts := ip_in (ip_t3 (List.mem_of_getElem? (i := 61) rfl)) rfl
theorem tw_542 : Cond.code yX1_placesTogether prog_3_method_11_code 3 (some .int) ∈ ip_Ts := ip_in (ip_t3 (List.mem_of_getElem? (i := 62) rfl)) rfl
theorem tw_543 : Cond.methodLink RX5 185 yX1_held ∈ ip_Ts := ip_in (ip_t3 (List.mem_of_getElem? (i := 63) rfl)) rfl
theorem tw_544 : Cond.instanceMethod yX1_held ∈ ip_Ts := ip_in (ip_t3 (List.mem_of_getElem? (i := 64) rfl)) rfl
theorem tw_545 : Cond.selects RX1 yX1_held yX1_held ∈ ip_Ts := ip_in (ip_t3 (List.mem_of_getElem? (i := 65) rfl)) rfl
theorem tw_546 : Cond.code yX1_held prog_3_method_12_code 6 (some .int) ∈ ip_Ts := ip_in (ip_t3 (List.mem_of_getElem? (i := 66) rfl)) rfl
theorem tw_548 : Cond.methodLink RX1 98 Lib.Math.max.name ∈ ip_Ts := ip_in (ip_t3 (List.mem_of_getElem? (i := 68) rfl)) rfl
theorem tw_549 : Cond.static Lib.Math.max.name ∈ ip_Ts := ip_in (ip_t3 (List.mem_of_getElem? (i := 69) rfl)) rfl
theorem tw_550 : Cond.code Lib.Math.max.name Lib.Math.max.code 2 (some .int) ∈ ip_Ts := ip_in (ip_t3 (List.mem_of_getElem? (i := 70) rfl)) rfl
theorem tw_551 : Cond.methodLink RL 84 yX5_reaches ∈ ip_Ts := ip_in (ip_t3 (List.mem_of_getElem? (i := 71) rfl)) rfl
theorem tw_552 : Cond.instanceMethod yX5_reaches ∈ ip_Ts := ip_in (ip_t3 (List.mem_of_getElem? (i := 72) rfl)) rfl
theorem tw_553 : Cond.selects RX5 yX5_reaches yX5_reaches ∈ ip_Ts := ip_in (ip_t3 (List.mem_of_getElem? (i := 73) rfl)) rfl
theorem tw_554 : Cond.code yX5_reaches prog_1_method_18_code 3 (some .int) ∈ ip_Ts := ip_in (ip_t3 (List.mem_of_getElem? (i := 74) rfl)) rfl
theorem tw_555 : Cond.methodLink RX5 188 yX4_go ∈ ip_Ts := ip_in (ip_t3 (List.mem_of_getElem? (i := 75) rfl)) rfl
theorem tw_556 : Cond.instanceMethod yX4_go ∈ ip_Ts := ip_in (ip_t3 (List.mem_of_getElem? (i := 76) rfl)) rfl
theorem tw_557 : Cond.selects RX4 yX4_go yX4_go ∈ ip_Ts := ip_in (ip_t3 (List.mem_of_getElem? (i := 77) rfl)) rfl
theorem tw_558 : Cond.code yX4_go prog_6_method_12_code 3 none ∈ ip_Ts := ip_in (ip_t3 (List.mem_of_getElem? (i := 78) rfl)) rfl
theorem tw_559 : Cond.methodLink RX4 102 yX4_tread ∈ ip_Ts := ip_in (ip_t3 (List.mem_of_getElem? (i := 79) rfl)) rfl
theorem tw_560 : Cond.methodLink RL 88 yX5_over ∈ ip_Ts := ip_in (ip_t3 (List.mem_of_getElem? (i := 80) rfl)) rfl
theorem tw_561 : Cond.instanceMethod yX5_over ∈ ip_Ts := ip_in (ip_t3 (List.mem_of_getElem? (i := 81) rfl)) rfl
theorem tw_562 : Cond.selects RX5 yX5_over yX5_over ∈ ip_Ts := ip_in (ip_t3 (List.mem_of_getElem? (i := 82) rfl)) rfl
theorem tw_563 : Cond.code yX5_over prog_1_method_19_code 3 (some .int) ∈ ip_Ts := ip_in (ip_t3 (List.mem_of_getElem? (i := 83) rfl)) rfl
theorem tw_564 : Cond.methodLink RX5 194 yX5_stepsToRest ∈ ip_Ts := ip_in (ip_t3 (List.mem_of_getElem? (i := 84) rfl)) rfl
theorem tw_566 : Cond.instanceMethod yX5_stepsToRest ∈ ip_Ts := ip_in (ip_t3 (List.mem_of_getElem? (i := 86) rfl)) rfl
theorem tw_567 : Cond.code yX5_stepsToRest prog_1_method_58_code 3 (some .int) ∈ ip_Ts := ip_in (ip_t3 (List.mem_of_getElem? (i := 87) rfl)) rfl
theorem tw_568 : Cond.methodLink RX5 203 yX4_isAtRest ∈ ip_Ts := ip_in (ip_t3 (List.mem_of_getElem? (i := 88) rfl)) rfl
theorem tw_569 : Cond.methodLink RX5 298 yX4_tread ∈ ip_Ts := ip_in (ip_t3 (List.mem_of_getElem? (i := 89) rfl)) rfl
theorem tw_570 : Cond.methodLink RX5 197 yX4_isAcross ∈ ip_Ts := ip_in (ip_t3 (List.mem_of_getElem? (i := 90) rfl)) rfl
theorem tw_571 : Cond.methodLink RL 92 yX5_falls ∈ ip_Ts := ip_in (ip_t3 (List.mem_of_getElem? (i := 91) rfl)) rfl
theorem tw_572 : Cond.instanceMethod yX5_falls ∈ ip_Ts := ip_in (ip_t3 (List.mem_of_getElem? (i := 92) rfl)) rfl
theorem tw_573 : Cond.selects RX5 yX5_falls yX5_falls ∈ ip_Ts := ip_in (ip_t3 (List.mem_of_getElem? (i := 93) rfl)) rfl
theorem tw_574 : Cond.code yX5_falls prog_1_method_20_code 3 (some .int) ∈ ip_Ts := ip_in (ip_t3 (List.mem_of_getElem? (i := 94) rfl)) rfl
theorem tw_575 : Cond.methodLink RL 96 yX5_end ∈ ip_Ts := ip_in (ip_t3 (List.mem_of_getElem? (i := 95) rfl)) rfl
theorem tw_576 : Cond.instanceMethod yX5_end ∈ ip_Ts := ip_in (ip_t3 (List.mem_of_getElem? (i := 96) rfl)) rfl
theorem tw_577 : Cond.selects RX5 yX5_end yX5_end ∈ ip_Ts := ip_in (ip_t3 (List.mem_of_getElem? (i := 97) rfl)) rfl
theorem tw_578 : Cond.code yX5_end prog_1_method_21_code 4 (some .int) ∈ ip_Ts := ip_in (ip_t3 (List.mem_of_getElem? (i := 98) rfl)) rfl
theorem tw_579 : Cond.methodLink RX5 206 Lib.Math.max.name ∈ ip_Ts := ip_in (ip_t3 (List.mem_of_getElem? (i := 99) rfl)) rfl
theorem tw_580 : Cond.methodLink RL 100 yX5_sayFor ∈ ip_Ts := ip_in (ip_t3 (List.mem_of_getElem? (i := 100) rfl)) rfl
theorem tw_581 : Cond.instanceMethod yX5_sayFor ∈ ip_Ts := ip_in (ip_t3 (List.mem_of_getElem? (i := 101) rfl)) rfl
theorem tw_582 : Cond.selects RX5 yX5_sayFor yX5_sayFor ∈ ip_Ts := ip_in (ip_t3 (List.mem_of_getElem? (i := 102) rfl)) rfl
theorem tw_583 : Cond.code yX5_sayFor prog_1_method_22_code 5 (some .int) ∈ ip_Ts := ip_in (ip_t3 (List.mem_of_getElem? (i := 103) rfl)) rfl
theorem tw_584 : Cond.methodLink RX5 211 yX5_rightsThatCross ∈ ip_Ts := ip_in (ip_t3 (List.mem_of_getElem? (i := 104) rfl)) rfl
theorem tw_586 : Cond.instanceMethod yX5_rightsThatCross ∈ ip_Ts := ip_in (ip_t3 (List.mem_of_getElem? (i := 106) rfl)) rfl
theorem tw_587 : Cond.code yX5_rightsThatCross prog_1_method_59_code 6 (some .int) ∈ ip_Ts := ip_in (ip_t3 (List.mem_of_getElem? (i := 107) rfl)) rfl
theorem tw_588 : Cond.methodLink RX5 300 yX4_hear ∈ ip_Ts := ip_in (ip_t3 (List.mem_of_getElem? (i := 108) rfl)) rfl
theorem tw_589 : Cond.methodLink RX5 215 yX5_leastSaying ∈ ip_Ts := ip_in (ip_t3 (List.mem_of_getElem? (i := 109) rfl)) rfl
theorem tw_591 : Cond.instanceMethod yX5_leastSaying ∈ ip_Ts := ip_in (ip_t3 (List.mem_of_getElem? (i := 111) rfl)) rfl
theorem tw_592 : Cond.code yX5_leastSaying prog_1_method_61_code 4 (some .int) ∈ ip_Ts := ip_in (ip_t3 (List.mem_of_getElem? (i := 112) rfl)) rfl
theorem tw_593 : Cond.methodLink RX5 307 yX5_mayBeYes ∈ ip_Ts := ip_in (ip_t3 (List.mem_of_getElem? (i := 113) rfl)) rfl
theorem tw_595 : Cond.instanceMethod yX5_mayBeYes ∈ ip_Ts := ip_in (ip_t3 (List.mem_of_getElem? (i := 115) rfl)) rfl
theorem tw_596 : Cond.code yX5_mayBeYes prog_1_method_62_code 10 (some .boolean) ∈ ip_Ts := ip_in (ip_t3 (List.mem_of_getElem? (i := 116) rfl)) rfl
theorem tw_597 : Cond.methodLink RX5 260 Lib.Math.min.name ∈ ip_Ts := ip_in (ip_t3 (List.mem_of_getElem? (i := 117) rfl)) rfl
theorem tw_598 : Cond.methodLink RX5 232 yX5_hasBit ∈ ip_Ts := ip_in (ip_t3 (List.mem_of_getElem? (i := 118) rfl)) rfl
theorem tw_599 : Cond.methodLink RX5 310 yX5_leastNo ∈ ip_Ts := ip_in (ip_t3 (List.mem_of_getElem? (i := 119) rfl)) rfl
theorem tw_601 : Cond.instanceMethod yX5_leastNo ∈ ip_Ts := ip_in (ip_t3 (List.mem_of_getElem? (i := 121) rfl)) rfl
theorem tw_602 : Cond.code yX5_leastNo prog_1_method_63_code 6 (some .int) ∈ ip_Ts := ip_in (ip_t3 (List.mem_of_getElem? (i := 122) rfl)) rfl
theorem tw_603 : Cond.methodLink RX5 313 yX5_rightOf ∈ ip_Ts := ip_in (ip_t3 (List.mem_of_getElem? (i := 123) rfl)) rfl
theorem tw_604 : Cond.methodLink RL 104 yX5_kindFor ∈ ip_Ts := ip_in (ip_t3 (List.mem_of_getElem? (i := 124) rfl)) rfl
theorem tw_605 : Cond.instanceMethod yX5_kindFor ∈ ip_Ts := ip_in (ip_t3 (List.mem_of_getElem? (i := 125) rfl)) rfl
theorem tw_606 : Cond.selects RX5 yX5_kindFor yX5_kindFor ∈ ip_Ts := ip_in (ip_t3 (List.mem_of_getElem? (i := 126) rfl)) rfl
theorem tw_607 : Cond.code yX5_kindFor prog_1_method_23_code 6 (some .int) ∈ ip_Ts := ip_in (ip_t3 (List.mem_of_getElem? (i := 127) rfl)) rfl
theorem tw_608 : Cond.methodLink RL 108 yX5_turnedFor ∈ ip_Ts := ip_in (ip_t3 (List.mem_of_getElem? (i := 128) rfl)) rfl
theorem tw_609 : Cond.instanceMethod yX5_turnedFor ∈ ip_Ts := ip_in (ip_t3 (List.mem_of_getElem? (i := 129) rfl)) rfl
theorem tw_610 : Cond.selects RX5 yX5_turnedFor yX5_turnedFor ∈ ip_Ts := ip_in (ip_t3 (List.mem_of_getElem? (i := 130) rfl)) rfl
theorem tw_611 : Cond.code yX5_turnedFor prog_1_method_24_code 6 (some .int) ∈ ip_Ts := ip_in (ip_t3 (List.mem_of_getElem? (i := 131) rfl)) rfl
theorem tw_612 : Cond.methodLink RL 112 yX5_loadFor ∈ ip_Ts := ip_in (ip_t3 (List.mem_of_getElem? (i := 132) rfl)) rfl
theorem tw_613 : Cond.instanceMethod yX5_loadFor ∈ ip_Ts := ip_in (ip_t3 (List.mem_of_getElem? (i := 133) rfl)) rfl
theorem tw_614 : Cond.selects RX5 yX5_loadFor yX5_loadFor ∈ ip_Ts := ip_in (ip_t3 (List.mem_of_getElem? (i := 134) rfl)) rfl
theorem tw_615 : Cond.code yX5_loadFor prog_1_method_25_code 4 (some .int) ∈ ip_Ts := ip_in (ip_t3 (List.mem_of_getElem? (i := 135) rfl)) rfl
theorem tw_616 : Cond.methodLink RL 116 yX5_both ∈ ip_Ts := ip_in (ip_t3 (List.mem_of_getElem? (i := 136) rfl)) rfl
theorem tw_617 : Cond.instanceMethod yX5_both ∈ ip_Ts := ip_in (ip_t3 (List.mem_of_getElem? (i := 137) rfl)) rfl
theorem tw_618 : Cond.selects RX5 yX5_both yX5_both ∈ ip_Ts := ip_in (ip_t3 (List.mem_of_getElem? (i := 138) rfl)) rfl
theorem tw_619 : Cond.code yX5_both prog_1_method_26_code 4 (some .int) ∈ ip_Ts := ip_in (ip_t3 (List.mem_of_getElem? (i := 139) rfl)) rfl
theorem tw_620 : Cond.methodLink RL 120 yX5_fits ∈ ip_Ts := ip_in (ip_t3 (List.mem_of_getElem? (i := 140) rfl)) rfl
theorem tw_621 : Cond.instanceMethod yX5_fits ∈ ip_Ts := ip_in (ip_t3 (List.mem_of_getElem? (i := 141) rfl)) rfl
theorem tw_622 : Cond.selects RX5 yX5_fits yX5_fits ∈ ip_Ts := ip_in (ip_t3 (List.mem_of_getElem? (i := 142) rfl)) rfl
theorem tw_623 : Cond.code yX5_fits prog_1_method_27_code 8 (some .int) ∈ ip_Ts := ip_in (ip_t3 (List.mem_of_getElem? (i := 143) rfl)) rfl
theorem tw_624 : Cond.methodLink RX5 222 yX5_isSheet ∈ ip_Ts := ip_in (ip_t3 (List.mem_of_getElem? (i := 144) rfl)) rfl
theorem tw_625 : Cond.static yX5_isSheet ∈ ip_Ts := ip_in (ip_t3 (List.mem_of_getElem? (i := 145) rfl)) rfl
theorem tw_626 : Cond.code yX5_isSheet prog_1_method_49_code 1 (some .boolean) ∈ ip_Ts := ip_in (ip_t3 (List.mem_of_getElem? (i := 146) rfl)) rfl
theorem tw_627 : Cond.methodLink RX5 225 yX5_rightsAsTold ∈ ip_Ts := ip_in (ip_t3 (List.mem_of_getElem? (i := 147) rfl)) rfl
theorem tw_629 : Cond.instanceMethod yX5_rightsAsTold ∈ ip_Ts := ip_in (ip_t3 (List.mem_of_getElem? (i := 149) rfl)) rfl
theorem tw_630 : Cond.code yX5_rightsAsTold prog_1_method_60_code 6 (some .int) ∈ ip_Ts := ip_in (ip_t3 (List.mem_of_getElem? (i := 150) rfl)) rfl
theorem tw_631 : Cond.methodLink RX5 303 yX4_goesAs ∈ ip_Ts := ip_in (ip_t3 (List.mem_of_getElem? (i := 151) rfl)) rfl
theorem tw_632 : Cond.instanceMethod yX4_goesAs ∈ ip_Ts := ip_in (ip_t3 (List.mem_of_getElem? (i := 152) rfl)) rfl
theorem tw_633 : Cond.selects RX4 yX4_goesAs yX4_goesAs ∈ ip_Ts := ip_in (ip_t3 (List.mem_of_getElem? (i := 153) rfl)) rfl
theorem tw_634 : Cond.code yX4_goesAs prog_6_method_13_code 3 (some .boolean) ∈ ip_Ts := ip_in (ip_t3 (List.mem_of_getElem? (i := 154) rfl)) rfl
theorem tw_635 : Cond.methodLink RX5 229 yX1_rightOf ∈ ip_Ts := ip_in (ip_t3 (List.mem_of_getElem? (i := 155) rfl)) rfl
theorem tw_636 : Cond.methodLink RL 124 yX5_odds ∈ ip_Ts := ip_in (ip_t3 (List.mem_of_getElem? (i := 156) rfl)) rfl
theorem tw_637 : Cond.instanceMethod yX5_odds ∈ ip_Ts := ip_in (ip_t3 (List.mem_of_getElem? (i := 157) rfl)) rfl
theorem tw_638 : Cond.selects RX5 yX5_odds yX5_odds ∈ ip_Ts := ip_in (ip_t3 (List.mem_of_getElem? (i := 158) rfl)) rfl
theorem tw_639 : Cond.code yX5_odds prog_1_method_28_code 10 (some .long) ∈ ip_Ts := ip_in (ip_t3 (List.mem_of_getElem? (i := 159) rfl)) rfl
theorem tw_640 : Cond.constantLong RX5 236 (-1) ∈ ip_Ts := ip_in (ip_t3 (List.mem_of_getElem? (i := 160) rfl)) rfl
theorem tw_641 : Cond.methodLink RX5 238 yX5_choices ∈ ip_Ts := ip_in (ip_t3 (List.mem_of_getElem? (i := 161) rfl)) rfl
theorem tw_642 : Cond.static yX5_choices ∈ ip_Ts := ip_in (ip_t3 (List.mem_of_getElem? (i := 162) rfl)) rfl
theorem tw_643 : Cond.code yX5_choices prog_1_method_65_code 5 (some .long) ∈ ip_Ts := ip_in (ip_t3 (List.mem_of_getElem? (i := 163) rfl)) rfl
theorem tw_644 : Cond.constantLong RX5 242 (100) ∈ ip_Ts := ip_in (ip_t3 (List.mem_of_getElem? (i := 164) rfl)) rfl
theorem tw_645 : Cond.methodLink RX5 244 yX5_partOf ∈ ip_Ts := ip_in (ip_t3 (List.mem_of_getElem? (i := 165) rfl)) rfl
theorem tw_646 : Cond.static yX5_partOf ∈ ip_Ts := ip_in (ip_t3 (List.mem_of_getElem? (i := 166) rfl)) rfl
theorem tw_647 : Cond.code yX5_partOf prog_1_method_66_code 7 (some .long) ∈ ip_Ts := ip_in (ip_t3 (List.mem_of_getElem? (i := 167) rfl)) rfl
theorem tw_648 : Cond.methodLink RX5 315 yX5_commonDivisor ∈ ip_Ts := ip_in (ip_t3 (List.mem_of_getElem? (i := 168) rfl)) rfl
theorem tw_649 : Cond.static yX5_commonDivisor ∈ ip_Ts := ip_in (ip_t3 (List.mem_of_getElem? (i := 169) rfl)) rfl
theorem tw_650 : Cond.code yX5_commonDivisor prog_1_method_67_code 11 (some .long) ∈ ip_Ts := ip_in (ip_t3 (List.mem_of_getElem? (i := 170) rfl)) rfl
theorem tw_651 : Cond.methodLink RL 129 yX5_hope ∈ ip_Ts := ip_in (ip_t3 (List.mem_of_getElem? (i := 171) rfl)) rfl
theorem tw_652 : Cond.instanceMethod yX5_hope ∈ ip_Ts := ip_in (ip_t3 (List.mem_of_getElem? (i := 172) rfl)) rfl
theorem tw_653 : Cond.selects RX5 yX5_hope yX5_hope ∈ ip_Ts := ip_in (ip_t3 (List.mem_of_getElem? (i := 173) rfl)) rfl
theorem tw_654 : Cond.code yX5_hope prog_1_method_29_code 3 (some .long) ∈ ip_Ts := ip_in (ip_t3 (List.mem_of_getElem? (i := 174) rfl)) rfl
theorem tw_655 : Cond.methodLink RL 134 yX5_prove ∈ ip_Ts := ip_in (ip_t3 (List.mem_of_getElem? (i := 175) rfl)) rfl
theorem tw_656 : Cond.instanceMethod yX5_prove ∈ ip_Ts := ip_in (ip_t3 (List.mem_of_getElem? (i := 176) rfl)) rfl
theorem tw_657 : Cond.selects RX5 yX5_prove yX5_prove ∈ ip_Ts := ip_in (ip_t3 (List.mem_of_getElem? (i := 177) rfl)) rfl
theorem tw_658 : Cond.code yX5_prove prog_1_method_30_code 5 (some .int) ∈ ip_Ts := ip_in (ip_t3 (List.mem_of_getElem? (i := 178) rfl)) rfl
theorem tw_659 : Cond.methodLink RX5 248 yX1_rowItem ∈ ip_Ts := ip_in (ip_t3 (List.mem_of_getElem? (i := 179) rfl)) rfl
theorem tw_660 : Cond.instanceMethod yX1_rowItem ∈ ip_Ts := ip_in (ip_t3 (List.mem_of_getElem? (i := 180) rfl)) rfl
theorem tw_661 : Cond.selects RX1 yX1_rowItem yX1_rowItem ∈ ip_Ts := ip_in (ip_t3 (List.mem_of_getElem? (i := 181) rfl)) rfl
theorem tw_662 : Cond.code yX1_rowItem prog_3_method_13_code 3 (some .int) ∈ ip_Ts := ip_in (ip_t3 (List.mem_of_getElem? (i := 182) rfl)) rfl
theorem tw_663 : Cond.methodLink RX1 104 yX1_across ∈ ip_Ts := ip_in (ip_t3 (List.mem_of_getElem? (i := 183) rfl)) rfl
theorem tw_664 : Cond.methodLink RL 138 yX5_row ∈ ip_Ts := ip_in (ip_t3 (List.mem_of_getElem? (i := 184) rfl)) rfl
theorem tw_665 : Cond.instanceMethod yX5_row ∈ ip_Ts := ip_in (ip_t3 (List.mem_of_getElem? (i := 185) rfl)) rfl
theorem tw_666 : Cond.selects RX5 yX5_row yX5_row ∈ ip_Ts := ip_in (ip_t3 (List.mem_of_getElem? (i := 186) rfl)) rfl
theorem tw_667 : Cond.code yX5_row prog_1_method_31_code 3 (some .int) ∈ ip_Ts := ip_in (ip_t3 (List.mem_of_getElem? (i := 187) rfl)) rfl
theorem tw_668 : Cond.methodLink RX5 251 yX5_isRowItem ∈ ip_Ts := ip_in (ip_t3 (List.mem_of_getElem? (i := 188) rfl)) rfl
theorem tw_670 : Cond.instanceMethod yX5_isRowItem ∈ ip_Ts := ip_in (ip_t3 (List.mem_of_getElem? (i := 190) rfl)) rfl
theorem tw_671 : Cond.code yX5_isRowItem prog_1_method_53_code 3 (some .boolean) ∈ ip_Ts := ip_in (ip_t3 (List.mem_of_getElem? (i := 191) rfl)) rfl
theorem tw_672 : Cond.methodLink RL 142 yX5_alterRow ∈ ip_Ts := ip_in (ip_t3 (List.mem_of_getElem? (i := 192) rfl)) rfl
theorem tw_673 : Cond.instanceMethod yX5_alterRow ∈ ip_Ts := ip_in (ip_t3 (List.mem_of_getElem? (i := 193) rfl)) rfl
theorem tw_674 : Cond.selects RX5 yX5_alterRow yX5_alterRow ∈ ip_Ts := ip_in (ip_t3 (List.mem_of_getElem? (i := 194) rfl)) rfl
theorem tw_675 : Cond.code yX5_alterRow prog_1_method_32_code 5 (some .int) ∈ ip_Ts := ip_in (ip_t3 (List.mem_of_getElem? (i := 195) rfl)) rfl
theorem tw_676 : Cond.methodLink RL 146 yX5_judge ∈ ip_Ts := ip_in (ip_t3 (List.mem_of_getElem? (i := 196) rfl)) rfl
theorem tw_677 : Cond.instanceMethod yX5_judge ∈ ip_Ts := ip_in (ip_t3 (List.mem_of_getElem? (i := 197) rfl)) rfl
theorem tw_678 : Cond.selects RX5 yX5_judge yX5_judge ∈ ip_Ts := ip_in (ip_t3 (List.mem_of_getElem? (i := 198) rfl)) rfl
theorem tw_679 : Cond.code yX5_judge prog_1_method_33_code 4 (some .int) ∈ ip_Ts := ip_in (ip_t3 (List.mem_of_getElem? (i := 199) rfl)) rfl
theorem tw_680 : Cond.methodLink RL 150 yX5_minds ∈ ip_Ts := ip_in (ip_t3 (List.mem_of_getElem? (i := 200) rfl)) rfl
theorem tw_681 : Cond.instanceMethod yX5_minds ∈ ip_Ts := ip_in (ip_t3 (List.mem_of_getElem? (i := 201) rfl)) rfl
theorem tw_682 : Cond.selects RX5 yX5_minds yX5_minds ∈ ip_Ts := ip_in (ip_t3 (List.mem_of_getElem? (i := 202) rfl)) rfl
theorem tw_683 : Cond.code yX5_minds prog_1_method_34_code 7 (some .int) ∈ ip_Ts := ip_in (ip_t3 (List.mem_of_getElem? (i := 203) rfl)) rfl
theorem tw_684 : Cond.methodLink RL 155 yX5_sheet ∈ ip_Ts := ip_in (ip_t3 (List.mem_of_getElem? (i := 204) rfl)) rfl
theorem tw_685 : Cond.instanceMethod yX5_sheet ∈ ip_Ts := ip_in (ip_t3 (List.mem_of_getElem? (i := 205) rfl)) rfl
theorem tw_686 : Cond.selects RX5 yX5_sheet yX5_sheet ∈ ip_Ts := ip_in (ip_t3 (List.mem_of_getElem? (i := 206) rfl)) rfl
theorem tw_687 : Cond.code yX5_sheet prog_1_method_35_code 4 (some .int) ∈ ip_Ts := ip_in (ip_t3 (List.mem_of_getElem? (i := 207) rfl)) rfl
theorem tw_688 : Cond.methodLink RX5 263 yX5_isSort ∈ ip_Ts := ip_in (ip_t3 (List.mem_of_getElem? (i := 208) rfl)) rfl
theorem tw_689 : Cond.static yX5_isSort ∈ ip_Ts := ip_in (ip_t3 (List.mem_of_getElem? (i := 209) rfl)) rfl
theorem tw_690 : Cond.code yX5_isSort prog_1_method_50_code 1 (some .boolean) ∈ ip_Ts := ip_in (ip_t3 (List.mem_of_getElem? (i := 210) rfl)) rfl
theorem tw_691 : Cond.instantiable RX2 2 ∈ ip_Ts := ip_in (ip_t3 (List.mem_of_getElem? (i := 211) rfl)) rfl
theorem tw_692 : Cond.methodLink RX5 266 yX2_init ∈ ip_Ts := ip_in (ip_t3 (List.mem_of_getElem? (i := 212) rfl)) rfl
theorem tw_693 : Cond.instanceMethod yX2_init ∈ ip_Ts := ip_in (ip_t3 (List.mem_of_getElem? (i := 213) rfl)) rfl
theorem tw_694 : Cond.code yX2_init prog_4_method_1_code 3 none ∈ ip_Ts := ip_in (ip_t3 (List.mem_of_getElem? (i := 214) rfl)) rfl
theorem tw_695 : Cond.methodLink RX2 3 Lib.objectInit ∈ ip_Ts := ip_in (ip_t3 (List.mem_of_getElem? (i := 215) rfl)) rfl
theorem tw_696 : Cond.methodLink RX2 15 Lib.Math.max.name ∈ ip_Ts := ip_in (ip_t3 (List.mem_of_getElem? (i := 216) rfl)) rfl
theorem tw_697 : Cond.fieldLink RX2 9 RX2 "sort" "I" ∈ ip_Ts := ip_in (ip_t3 (List.mem_of_getElem? (i := 217) rfl)) rfl
theorem tw_698 : Cond.fieldLink RX5 254 RX2 "sort" "I" ∈ ip_Ts := ip_in (ip_t3 (List.mem_of_getElem? (i := 218) rfl)) rfl
theorem tw_699 : Cond.fieldLink RX2 21 RX2 "items" "[I" ∈ ip_Ts := ip_in (ip_t3 (List.mem_of_getElem? (i := 219) rfl)) rfl
theorem tw_700 : Cond.fieldLink RX4 105 RX2 "items" "[I" ∈ ip_Ts := ip_in (ip_t3 (List.mem_of_getElem? (i := 220) rfl)) rfl
theorem tw_701 : Cond.fieldLink RX5 257 RX2 "items" "[I" ∈ ip_Ts := ip_in (ip_t3 (List.mem_of_getElem? (i := 221) rfl)) rfl
theorem tw_702 : Cond.laysFinal RX2 RX2 "sort" "I" ∈ ip_Ts := ip_in (ip_t3 (List.mem_of_getElem? (i := 222) rfl)) rfl
theorem tw_704 : Cond.laysFinal RX2 RX2 "items" "[I" ∈ ip_Ts := ip_in (ip_t3 (List.mem_of_getElem? (i := 224) rfl)) rfl
theorem tw_707 : Cond.methodLink RL 159 yX5_put ∈ ip_Ts := ip_in (ip_t3 (List.mem_of_getElem? (i := 227) rfl)) rfl
theorem tw_708 : Cond.instanceMethod yX5_put ∈ ip_Ts := ip_in (ip_t3 (List.mem_of_getElem? (i := 228) rfl)) rfl
theorem tw_709 : Cond.selects RX5 yX5_put yX5_put ∈ ip_Ts := ip_in (ip_t3 (List.mem_of_getElem? (i := 229) rfl)) rfl
theorem tw_710 : Cond.code yX5_put prog_1_method_36_code 5 (some .int) ∈ ip_Ts := ip_in (ip_t3 (List.mem_of_getElem? (i := 230) rfl)) rfl
theorem tw_711 : Cond.methodLink RX5 269 yX2_narrowed ∈ ip_Ts := ip_in (ip_t3 (List.mem_of_getElem? (i := 231) rfl)) rfl
theorem tw_712 : Cond.instanceMethod yX2_narrowed ∈ ip_Ts := ip_in (ip_t3 (List.mem_of_getElem? (i := 232) rfl)) rfl
theorem tw_713 : Cond.selects RX2 yX2_narrowed yX2_narrowed ∈ ip_Ts := ip_in (ip_t3 (List.mem_of_getElem? (i := 233) rfl)) rfl
theorem tw_714 : Cond.code yX2_narrowed prog_4_method_2_code 2 (some .int) ∈ ip_Ts := ip_in (ip_t3 (List.mem_of_getElem? (i := 234) rfl)) rfl
theorem tw_715 : Cond.methodLink RL 163 yX5_item ∈ ip_Ts := ip_in (ip_t3 (List.mem_of_getElem? (i := 235) rfl)) rfl
theorem tw_716 : Cond.instanceMethod yX5_item ∈ ip_Ts := ip_in (ip_t3 (List.mem_of_getElem? (i := 236) rfl)) rfl
theorem tw_717 : Cond.selects RX5 yX5_item yX5_item ∈ ip_Ts := ip_in (ip_t3 (List.mem_of_getElem? (i := 237) rfl)) rfl
theorem tw_718 : Cond.code yX5_item prog_1_method_37_code 5 (some .int) ∈ ip_Ts := ip_in (ip_t3 (List.mem_of_getElem? (i := 238) rfl)) rfl
theorem tw_719 : Cond.methodLink RL 167 yX5_shelf ∈ ip_Ts := ip_in (ip_t3 (List.mem_of_getElem? (i := 239) rfl)) rfl
theorem tw_720 : Cond.instanceMethod yX5_shelf ∈ ip_Ts := ip_in (ip_t4 (List.mem_of_getElem? (i := 0) rfl)) rfl
theorem tw_721 : Cond.selects RX5 yX5_shelf yX5_shelf ∈ ip_Ts := ip_in (ip_t4 (List.mem_of_getElem? (i := 1) rfl)) rfl
theorem tw_722 : Cond.code yX5_shelf prog_1_method_38_code 4 (some .int) ∈ ip_Ts := ip_in (ip_t4 (List.mem_of_getElem? (i := 2) rfl)) rfl
theorem tw_723 : Cond.methodLink RX5 272 yX5_isShelf ∈ ip_Ts := ip_in (ip_t4 (List.mem_of_getElem? (i := 3) rfl)) rfl
theorem tw_724 : Cond.static yX5_isShelf ∈ ip_Ts := ip_in (ip_t4 (List.mem_of_getElem? (i := 4) rfl)) rfl
theorem tw_725 : Cond.code yX5_isShelf prog_1_method_51_code 1 (some .boolean) ∈ ip_Ts := ip_in (ip_t4 (List.mem_of_getElem? (i := 5) rfl)) rfl
theorem tw_726 : Cond.methodLink RX5 275 yX5_putOnShelf ∈ ip_Ts := ip_in (ip_t4 (List.mem_of_getElem? (i := 6) rfl)) rfl
theorem tw_728 : Cond.instanceMethod yX5_putOnShelf ∈ ip_Ts := ip_in (ip_t4 (List.mem_of_getElem? (i := 8) rfl)) rfl
theorem tw_729 : Cond.code yX5_putOnShelf prog_1_method_57_code 4 (some .int) ∈ ip_Ts := ip_in (ip_t4 (List.mem_of_getElem? (i := 9) rfl)) rfl
theorem tw_730 : Cond.methodLink RL 171 yX5_taken ∈ ip_Ts := ip_in (ip_t4 (List.mem_of_getElem? (i := 10) rfl)) rfl
theorem tw_731 : Cond.instanceMethod yX5_taken ∈ ip_Ts := ip_in (ip_t4 (List.mem_of_getElem? (i := 11) rfl)) rfl
theorem tw_732 : Cond.selects RX5 yX5_taken yX5_taken ∈ ip_Ts := ip_in (ip_t4 (List.mem_of_getElem? (i := 12) rfl)) rfl
theorem tw_733 : Cond.code yX5_taken prog_1_method_39_code 6 (some .int) ∈ ip_Ts := ip_in (ip_t4 (List.mem_of_getElem? (i := 13) rfl)) rfl
theorem tw_734 : Cond.methodLink RX5 279 yX5_isUnder ∈ ip_Ts := ip_in (ip_t4 (List.mem_of_getElem? (i := 14) rfl)) rfl
theorem tw_735 : Cond.static yX5_isUnder ∈ ip_Ts := ip_in (ip_t4 (List.mem_of_getElem? (i := 15) rfl)) rfl
theorem tw_736 : Cond.code yX5_isUnder prog_1_method_56_code 4 (some .boolean) ∈ ip_Ts := ip_in (ip_t4 (List.mem_of_getElem? (i := 16) rfl)) rfl
theorem tw_737 : Cond.fieldLink RX5 295 RX5 "KIND_ABOVE" "[I" ∈ ip_Ts := ip_in (ip_t4 (List.mem_of_getElem? (i := 17) rfl)) rfl
theorem tw_739 : Cond.methodLink RL 175 yX5_act ∈ ip_Ts := ip_in (ip_t4 (List.mem_of_getElem? (i := 19) rfl)) rfl
theorem tw_740 : Cond.instanceMethod yX5_act ∈ ip_Ts := ip_in (ip_t4 (List.mem_of_getElem? (i := 20) rfl)) rfl
theorem tw_741 : Cond.selects RX5 yX5_act yX5_act ∈ ip_Ts := ip_in (ip_t4 (List.mem_of_getElem? (i := 21) rfl)) rfl
theorem tw_742 : Cond.code yX5_act prog_1_method_40_code 5 (some .int) ∈ ip_Ts := ip_in (ip_t4 (List.mem_of_getElem? (i := 22) rfl)) rfl
theorem tw_743 : Cond.methodLink RX5 282 yX0_forget ∈ ip_Ts := ip_in (ip_t4 (List.mem_of_getElem? (i := 23) rfl)) rfl
theorem tw_744 : Cond.instanceMethod yX0_forget ∈ ip_Ts := ip_in (ip_t4 (List.mem_of_getElem? (i := 24) rfl)) rfl
theorem tw_745 : Cond.selects RX0 yX0_forget yX0_forget ∈ ip_Ts := ip_in (ip_t4 (List.mem_of_getElem? (i := 25) rfl)) rfl
theorem tw_746 : Cond.code yX0_forget prog_2_method_2_code 1 none ∈ ip_Ts := ip_in (ip_t4 (List.mem_of_getElem? (i := 26) rfl)) rfl
theorem tw_747 : Cond.methodLink RX5 285 yX0_perform ∈ ip_Ts := ip_in (ip_t4 (List.mem_of_getElem? (i := 27) rfl)) rfl
theorem tw_748 : Cond.instanceMethod yX0_perform ∈ ip_Ts := ip_in (ip_t4 (List.mem_of_getElem? (i := 28) rfl)) rfl
theorem tw_749 : Cond.selects RX0 yX0_perform yX0_perform ∈ ip_Ts := ip_in (ip_t4 (List.mem_of_getElem? (i := 29) rfl)) rfl
theorem tw_750 : Cond.code yX0_perform prog_2_method_3_code 7 (some .int) ∈ ip_Ts := ip_in (ip_t4 (List.mem_of_getElem? (i := 30) rfl)) rfl
theorem tw_751 : Cond.methodLink RX0 32 yX0_ownBody ∈ ip_Ts := ip_in (ip_t4 (List.mem_of_getElem? (i := 31) rfl)) rfl
theorem tw_752 : Cond.instanceMethod yX0_ownBody ∈ ip_Ts := ip_in (ip_t4 (List.mem_of_getElem? (i := 32) rfl)) rfl
theorem tw_753 : Cond.selects RX0 yX0_ownBody yX0_ownBody ∈ ip_Ts := ip_in (ip_t4 (List.mem_of_getElem? (i := 33) rfl)) rfl
theorem tw_754 : Cond.code yX0_ownBody prog_2_method_4_code 3 (some .int) ∈ ip_Ts := ip_in (ip_t4 (List.mem_of_getElem? (i := 34) rfl)) rfl
theorem tw_758 : Cond.methodLink RX0 36 yX0_run ∈ ip_Ts := ip_in (ip_t4 (List.mem_of_getElem? (i := 38) rfl)) rfl
theorem tw_759 : Cond.instanceMethod yX0_run ∈ ip_Ts := ip_in (ip_t4 (List.mem_of_getElem? (i := 39) rfl)) rfl
theorem tw_760 : Cond.selects RX0 yX0_run yX0_run ∈ ip_Ts := ip_in (ip_t4 (List.mem_of_getElem? (i := 40) rfl)) rfl
theorem tw_761 : Cond.code yX0_run prog_2_method_6_code 5 (some .int) ∈ ip_Ts := ip_in (ip_t4 (List.mem_of_getElem? (i := 41) rfl)) rfl
theorem tw_762 : Cond.methodLink RX0 47 yX0_begin ∈ ip_Ts := ip_in (ip_t4 (List.mem_of_getElem? (i := 42) rfl)) rfl
theorem tw_763 : Cond.instanceMethod yX0_begin ∈ ip_Ts := ip_in (ip_t4 (List.mem_of_getElem? (i := 43) rfl)) rfl
theorem tw_764 : Cond.selects RX0 yX0_begin yX0_begin ∈ ip_Ts := ip_in (ip_t4 (List.mem_of_getElem? (i := 44) rfl)) rfl
theorem tw_765 : Cond.code yX0_begin prog_2_method_5_code 2 none ∈ ip_Ts := ip_in (ip_t4 (List.mem_of_getElem? (i := 45) rfl)) rfl
theorem tw_766 : Cond.methodLink RX0 51 yX0_quotient ∈ ip_Ts := ip_in (ip_t4 (List.mem_of_getElem? (i := 46) rfl)) rfl
theorem tw_767 : Cond.instanceMethod yX0_quotient ∈ ip_Ts := ip_in (ip_t4 (List.mem_of_getElem? (i := 47) rfl)) rfl
theorem tw_768 : Cond.selects RX0 yX0_quotient yX0_quotient ∈ ip_Ts := ip_in (ip_t4 (List.mem_of_getElem? (i := 48) rfl)) rfl
theorem tw_769 : Cond.code yX0_quotient prog_2_method_7_code 3 (some .int) ∈ ip_Ts := ip_in (ip_t4 (List.mem_of_getElem? (i := 49) rfl)) rfl
theorem tw_770 : Cond.methodLink RL 179 yX5_trace ∈ ip_Ts := ip_in (ip_t4 (List.mem_of_getElem? (i := 50) rfl)) rfl
theorem tw_771 : Cond.instanceMethod yX5_trace ∈ ip_Ts := ip_in (ip_t4 (List.mem_of_getElem? (i := 51) rfl)) rfl
theorem tw_772 : Cond.selects RX5 yX5_trace yX5_trace ∈ ip_Ts := ip_in (ip_t4 (List.mem_of_getElem? (i := 52) rfl)) rfl
theorem tw_773 : Cond.code yX5_trace prog_1_method_41_code 2 (some .int) ∈ ip_Ts := ip_in (ip_t4 (List.mem_of_getElem? (i := 53) rfl)) rfl
theorem tw_774 : Cond.methodLink RL 183 yX5_many ∈ ip_Ts := ip_in (ip_t4 (List.mem_of_getElem? (i := 54) rfl)) rfl
theorem tw_775 : Cond.instanceMethod yX5_many ∈ ip_Ts := ip_in (ip_t4 (List.mem_of_getElem? (i := 55) rfl)) rfl
theorem tw_776 : Cond.selects RX5 yX5_many yX5_many ∈ ip_Ts := ip_in (ip_t4 (List.mem_of_getElem? (i := 56) rfl)) rfl
theorem tw_777 : Cond.code yX5_many prog_1_method_42_code 2 (some .int) ∈ ip_Ts := ip_in (ip_t4 (List.mem_of_getElem? (i := 57) rfl)) rfl
theorem tw_778 : Cond.methodLink RL 187 yX5_keep ∈ ip_Ts := ip_in (ip_t4 (List.mem_of_getElem? (i := 58) rfl)) rfl
theorem tw_779 : Cond.instanceMethod yX5_keep ∈ ip_Ts := ip_in (ip_t4 (List.mem_of_getElem? (i := 59) rfl)) rfl
theorem tw_780 : Cond.selects RX5 yX5_keep yX5_keep ∈ ip_Ts := ip_in (ip_t4 (List.mem_of_getElem? (i := 60) rfl)) rfl
theorem tw_781 : Cond.code yX5_keep prog_1_method_43_code 1 (some .int) ∈ ip_Ts := ip_in (ip_t4 (List.mem_of_getElem? (i := 61) rfl)) rfl
theorem tw_782 : Cond.methodLink RL 191 yX5_again ∈ ip_Ts := ip_in (ip_t4 (List.mem_of_getElem? (i := 62) rfl)) rfl
theorem tw_783 : Cond.instanceMethod yX5_again ∈ ip_Ts := ip_in (ip_t4 (List.mem_of_getElem? (i := 63) rfl)) rfl
theorem tw_784 : Cond.selects RX5 yX5_again yX5_again ∈ ip_Ts := ip_in (ip_t4 (List.mem_of_getElem? (i := 64) rfl)) rfl
theorem tw_785 : Cond.code yX5_again prog_1_method_44_code 1 (some .int) ∈ ip_Ts := ip_in (ip_t4 (List.mem_of_getElem? (i := 65) rfl)) rfl
theorem tw_786 : Cond.classLink RL 10 RX6 ∈ ip_Ts := ip_in (ip_t4 (List.mem_of_getElem? (i := 66) rfl)) rfl
theorem tw_787 : Cond.instantiable RX6 28 ∈ ip_Ts := ip_in (ip_t4 (List.mem_of_getElem? (i := 67) rfl)) rfl
theorem tw_788 : Cond.methodLink RL 12 yX6_init ∈ ip_Ts := ip_in (ip_t4 (List.mem_of_getElem? (i := 68) rfl)) rfl
theorem tw_789 : Cond.instanceMethod yX6_init ∈ ip_Ts := ip_in (ip_t4 (List.mem_of_getElem? (i := 69) rfl)) rfl
theorem tw_790 : Cond.code yX6_init prog_8_method_1_code 1 none ∈ ip_Ts := ip_in (ip_t4 (List.mem_of_getElem? (i := 70) rfl)) rfl
theorem tw_791 : Cond.methodLink RX6 1 Lib.objectInit ∈ ip_Ts := ip_in (ip_t4 (List.mem_of_getElem? (i := 71) rfl)) rfl
theorem tw_792 : Cond.methodLink RX6 53 yX6_begins ∈ ip_Ts := ip_in (ip_t4 (List.mem_of_getElem? (i := 72) rfl)) rfl
theorem tw_793 : Cond.static yX6_begins ∈ ip_Ts := ip_in (ip_t4 (List.mem_of_getElem? (i := 73) rfl)) rfl
theorem tw_794 : Cond.code yX6_begins prog_8_method_2_code 2 none ∈ ip_Ts := ip_in (ip_t4 (List.mem_of_getElem? (i := 74) rfl)) rfl
theorem tw_795 : Cond.fieldLink RX6 7 RX6 "row" "[I" ∈ ip_Ts := ip_in (ip_t4 (List.mem_of_getElem? (i := 75) rfl)) rfl
theorem tw_796 : Cond.fieldLink RX6 13 RX6 "fresh" "[I" ∈ ip_Ts := ip_in (ip_t4 (List.mem_of_getElem? (i := 76) rfl)) rfl
theorem tw_797 : Cond.fieldLink RX6 16 RX6 "kept" "[I" ∈ ip_Ts := ip_in (ip_t4 (List.mem_of_getElem? (i := 77) rfl)) rfl
theorem tw_798 : Cond.fieldLink RX6 19 RX6 "tried" "[I" ∈ ip_Ts := ip_in (ip_t4 (List.mem_of_getElem? (i := 78) rfl)) rfl
theorem tw_799 : Cond.fieldLink RX6 347 RX6 "isKept" "Z" ∈ ip_Ts := ip_in (ip_t4 (List.mem_of_getElem? (i := 79) rfl)) rfl
theorem tw_800 : Cond.fieldLink RX6 22 RX6 "tape" "[I" ∈ ip_Ts := ip_in (ip_t4 (List.mem_of_getElem? (i := 80) rfl)) rfl
theorem tw_801 : Cond.fieldLink RX6 61 RX6 "tapeMany" "I" ∈ ip_Ts := ip_in (ip_t4 (List.mem_of_getElem? (i := 81) rfl)) rfl
theorem tw_802 : Cond.fieldLink RX6 83 RX6 "sort" "I" ∈ ip_Ts := ip_in (ip_t4 (List.mem_of_getElem? (i := 82) rfl)) rfl
theorem tw_803 : Cond.fieldLink RX6 70 RX6 "begins" "I" ∈ ip_Ts := ip_in (ip_t4 (List.mem_of_getElem? (i := 83) rfl)) rfl
theorem tw_804 : Cond.fieldLink RX6 67 RX6 "tokenEnds" "I" ∈ ip_Ts := ip_in (ip_t4 (List.mem_of_getElem? (i := 84) rfl)) rfl
theorem tw_805 : Cond.fieldLink RX6 86 RX6 "word" "J" ∈ ip_Ts := ip_in (ip_t4 (List.mem_of_getElem? (i := 85) rfl)) rfl
theorem tw_806 : Cond.fieldLink RX6 90 RX6 "value" "I" ∈ ip_Ts := ip_in (ip_t4 (List.mem_of_getElem? (i := 86) rfl)) rfl
theorem tw_807 : Cond.fieldLink RX6 123 RX6 "good" "Z" ∈ ip_Ts := ip_in (ip_t4 (List.mem_of_getElem? (i := 87) rfl)) rfl
theorem tw_808 : Cond.fieldLink RX6 25 RX6 "rows" "[I" ∈ ip_Ts := ip_in (ip_t4 (List.mem_of_getElem? (i := 88) rfl)) rfl
theorem tw_809 : Cond.fieldLink RX6 28 RX6 "must" "[I" ∈ ip_Ts := ip_in (ip_t4 (List.mem_of_getElem? (i := 89) rfl)) rfl
theorem tw_810 : Cond.fieldLink RX6 178 RX6 "rowMany" "I" ∈ ip_Ts := ip_in (ip_t4 (List.mem_of_getElem? (i := 90) rfl)) rfl
theorem tw_811 : Cond.fieldLink RX6 31 RX6 "sorts" "[I" ∈ ip_Ts := ip_in (ip_t4 (List.mem_of_getElem? (i := 91) rfl)) rfl
theorem tw_812 : Cond.fieldLink RX6 34 RX6 "sizes" "[I" ∈ ip_Ts := ip_in (ip_t4 (List.mem_of_getElem? (i := 92) rfl)) rfl
theorem tw_813 : Cond.fieldLink RX6 37 RX6 "sheets" "[J" ∈ ip_Ts := ip_in (ip_t4 (List.mem_of_getElem? (i := 93) rfl)) rfl
theorem tw_814 : Cond.fieldLink RX6 41 RX6 "holds" "[I" ∈ ip_Ts := ip_in (ip_t4 (List.mem_of_getElem? (i := 94) rfl)) rfl
theorem tw_815 : Cond.fieldLink RX6 44 RX6 "heldNumber" "[I" ∈ ip_Ts := ip_in (ip_t4 (List.mem_of_getElem? (i := 95) rfl)) rfl
theorem tw_816 : Cond.fieldLink RX6 47 RX6 "heldSize" "[I" ∈ ip_Ts := ip_in (ip_t4 (List.mem_of_getElem? (i := 96) rfl)) rfl
theorem tw_817 : Cond.fieldLink RX6 314 RX6 "kind" "I" ∈ ip_Ts := ip_in (ip_t4 (List.mem_of_getElem? (i := 97) rfl)) rfl
theorem tw_818 : Cond.fieldLink RX6 308 RX6 "number" "I" ∈ ip_Ts := ip_in (ip_t4 (List.mem_of_getElem? (i := 98) rfl)) rfl
theorem tw_819 : Cond.fieldLink RX6 323 RX6 "ownPlace" "I" ∈ ip_Ts := ip_in (ip_t4 (List.mem_of_getElem? (i := 99) rfl)) rfl
theorem tw_820 : Cond.fieldLink RX6 50 RX6 "traced" "[I" ∈ ip_Ts := ip_in (ip_t4 (List.mem_of_getElem? (i := 100) rfl)) rfl
theorem tw_821 : Cond.fieldLink RX6 302 RX6 "bodies" "I" ∈ ip_Ts := ip_in (ip_t4 (List.mem_of_getElem? (i := 101) rfl)) rfl
theorem tw_822 : Cond.fieldLink RX6 329 RX6 "isParted" "Z" ∈ ip_Ts := ip_in (ip_t4 (List.mem_of_getElem? (i := 102) rfl)) rfl
theorem tw_823 : Cond.laysFinal RX6 RX6 "row" "[I" ∈ ip_Ts := ip_in (ip_t4 (List.mem_of_getElem? (i := 103) rfl)) rfl
theorem tw_825 : Cond.laysFinal RX6 RX6 "fresh" "[I" ∈ ip_Ts := ip_in (ip_t4 (List.mem_of_getElem? (i := 105) rfl)) rfl
theorem tw_827 : Cond.laysFinal RX6 RX6 "kept" "[I" ∈ ip_Ts := ip_in (ip_t4 (List.mem_of_getElem? (i := 107) rfl)) rfl
theorem tw_829 : Cond.laysFinal RX6 RX6 "tried" "[I" ∈ ip_Ts := ip_in (ip_t4 (List.mem_of_getElem? (i := 109) rfl)) rfl
theorem tw_831 : Cond.lays RX6 RX6 "isKept" "Z" ∈ ip_Ts := ip_in (ip_t4 (List.mem_of_getElem? (i := 111) rfl)) rfl
theorem tw_833 : Cond.laysFinal RX6 RX6 "tape" "[I" ∈ ip_Ts := ip_in (ip_t4 (List.mem_of_getElem? (i := 113) rfl)) rfl
theorem tw_835 : Cond.lays RX6 RX6 "tapeMany" "I" ∈ ip_Ts := ip_in (ip_t4 (List.mem_of_getElem? (i := 115) rfl)) rfl
theorem tw_837 : Cond.lays RX6 RX6 "sort" "I" ∈ ip_Ts := ip_in (ip_t4 (List.mem_of_getElem? (i := 117) rfl)) rfl
theorem tw_839 : Cond.lays RX6 RX6 "begins" "I" ∈ ip_Ts := ip_in (ip_t4 (List.mem_of_getElem? (i := 119) rfl)) rfl
theorem tw_841 : Cond.lays RX6 RX6 "tokenEnds" "I" ∈ ip_Ts := ip_in (ip_t4 (List.mem_of_getElem? (i := 121) rfl)) rfl
theorem tw_843 : Cond.lays RX6 RX6 "word" "J" ∈ ip_Ts := ip_in (ip_t4 (List.mem_of_getElem? (i := 123) rfl)) rfl
theorem tw_845 : Cond.lays RX6 RX6 "value" "I" ∈ ip_Ts := ip_in (ip_t4 (List.mem_of_getElem? (i := 125) rfl)) rfl
theorem tw_847 : Cond.lays RX6 RX6 "good" "Z" ∈ ip_Ts := ip_in (ip_t4 (List.mem_of_getElem? (i := 127) rfl)) rfl
theorem tw_849 : Cond.laysFinal RX6 RX6 "rows" "[I" ∈ ip_Ts := ip_in (ip_t4 (List.mem_of_getElem? (i := 129) rfl)) rfl
theorem tw_851 : Cond.laysFinal RX6 RX6 "must" "[I" ∈ ip_Ts := ip_in (ip_t4 (List.mem_of_getElem? (i := 131) rfl)) rfl
theorem tw_853 : Cond.lays RX6 RX6 "rowMany" "I" ∈ ip_Ts := ip_in (ip_t4 (List.mem_of_getElem? (i := 133) rfl)) rfl
theorem tw_855 : Cond.laysFinal RX6 RX6 "sorts" "[I" ∈ ip_Ts := ip_in (ip_t4 (List.mem_of_getElem? (i := 135) rfl)) rfl
theorem tw_857 : Cond.laysFinal RX6 RX6 "sizes" "[I" ∈ ip_Ts := ip_in (ip_t4 (List.mem_of_getElem? (i := 137) rfl)) rfl
theorem tw_859 : Cond.laysFinal RX6 RX6 "sheets" "[J" ∈ ip_Ts := ip_in (ip_t4 (List.mem_of_getElem? (i := 139) rfl)) rfl
theorem tw_861 : Cond.laysFinal RX6 RX6 "holds" "[I" ∈ ip_Ts := ip_in (ip_t4 (List.mem_of_getElem? (i := 141) rfl)) rfl
theorem tw_863 : Cond.laysFinal RX6 RX6 "heldNumber" "[I" ∈ ip_Ts := ip_in (ip_t4 (List.mem_of_getElem? (i := 143) rfl)) rfl
theorem tw_865 : Cond.laysFinal RX6 RX6 "heldSize" "[I" ∈ ip_Ts := ip_in (ip_t4 (List.mem_of_getElem? (i := 145) rfl)) rfl
theorem tw_867 : Cond.lays RX6 RX6 "kind" "I" ∈ ip_Ts := ip_in (ip_t4 (List.mem_of_getElem? (i := 147) rfl)) rfl
theorem tw_869 : Cond.lays RX6 RX6 "number" "I" ∈ ip_Ts := ip_in (ip_t4 (List.mem_of_getElem? (i := 149) rfl)) rfl
theorem tw_871 : Cond.lays RX6 RX6 "ownPlace" "I" ∈ ip_Ts := ip_in (ip_t4 (List.mem_of_getElem? (i := 151) rfl)) rfl
theorem tw_873 : Cond.laysFinal RX6 RX6 "traced" "[I" ∈ ip_Ts := ip_in (ip_t4 (List.mem_of_getElem? (i := 153) rfl)) rfl
theorem tw_875 : Cond.lays RX6 RX6 "bodies" "I" ∈ ip_Ts := ip_in (ip_t4 (List.mem_of_getElem? (i := 155) rfl)) rfl
theorem tw_877 : Cond.lays RX6 RX6 "isParted" "Z" ∈ ip_Ts := ip_in (ip_t4 (List.mem_of_getElem? (i := 157) rfl)) rfl
theorem tw_880 : Cond.arrayClass .long ∈ ip_Ts := ip_in (ip_t4 (List.mem_of_getElem? (i := 160) rfl)) rfl
theorem tw_881 : Cond.methodLink RL 19 yX6_feed ∈ ip_Ts := ip_in (ip_t4 (List.mem_of_getElem? (i := 161) rfl)) rfl
theorem tw_882 : Cond.instanceMethod yX6_feed ∈ ip_Ts := ip_in (ip_t4 (List.mem_of_getElem? (i := 162) rfl)) rfl
theorem tw_883 : Cond.selects RX6 yX6_feed yX6_feed ∈ ip_Ts := ip_in (ip_t4 (List.mem_of_getElem? (i := 163) rfl)) rfl
theorem tw_884 : Cond.code yX6_feed prog_8_method_11_code 5 (some .int) ∈ ip_Ts := ip_in (ip_t4 (List.mem_of_getElem? (i := 164) rfl)) rfl
theorem tw_885 : Cond.methodLink RX6 57 yX6_in ∈ ip_Ts := ip_in (ip_t4 (List.mem_of_getElem? (i := 165) rfl)) rfl
theorem tw_886 : Cond.static yX6_in ∈ ip_Ts := ip_in (ip_t4 (List.mem_of_getElem? (i := 166) rfl)) rfl
theorem tw_887 : Cond.code yX6_in prog_8_method_3_code 3 (some .boolean) ∈ ip_Ts := ip_in (ip_t4 (List.mem_of_getElem? (i := 167) rfl)) rfl
theorem tw_888 : Cond.constantLong RX6 65 (255) ∈ ip_Ts := ip_in (ip_t4 (List.mem_of_getElem? (i := 168) rfl)) rfl
theorem tw_889 : Cond.methodLink RL 24 yX6_circus ∈ ip_Ts := ip_in (ip_t4 (List.mem_of_getElem? (i := 169) rfl)) rfl
theorem tw_890 : Cond.instanceMethod yX6_circus ∈ ip_Ts := ip_in (ip_t4 (List.mem_of_getElem? (i := 170) rfl)) rfl
theorem tw_891 : Cond.selects RX6 yX6_circus yX6_circus ∈ ip_Ts := ip_in (ip_t4 (List.mem_of_getElem? (i := 171) rfl)) rfl
theorem tw_892 : Cond.code yX6_circus prog_8_method_26_code 1 (some .int) ∈ ip_Ts := ip_in (ip_t4 (List.mem_of_getElem? (i := 172) rfl)) rfl
theorem tw_893 : Cond.methodLink RX6 127 yX6_advance ∈ ip_Ts := ip_in (ip_t4 (List.mem_of_getElem? (i := 173) rfl)) rfl
theorem tw_895 : Cond.instanceMethod yX6_advance ∈ ip_Ts := ip_in (ip_t4 (List.mem_of_getElem? (i := 175) rfl)) rfl
theorem tw_896 : Cond.code yX6_advance prog_8_method_15_code 2 none ∈ ip_Ts := ip_in (ip_t4 (List.mem_of_getElem? (i := 176) rfl)) rfl
theorem tw_897 : Cond.methodLink RX6 72 yX6_byteAt ∈ ip_Ts := ip_in (ip_t4 (List.mem_of_getElem? (i := 177) rfl)) rfl
theorem tw_899 : Cond.instanceMethod yX6_byteAt ∈ ip_Ts := ip_in (ip_t4 (List.mem_of_getElem? (i := 179) rfl)) rfl
theorem tw_900 : Cond.code yX6_byteAt prog_8_method_12_code 2 (some .int) ∈ ip_Ts := ip_in (ip_t4 (List.mem_of_getElem? (i := 180) rfl)) rfl
theorem tw_901 : Cond.methodLink RX6 76 yX6_isLetter ∈ ip_Ts := ip_in (ip_t4 (List.mem_of_getElem? (i := 181) rfl)) rfl
theorem tw_902 : Cond.static yX6_isLetter ∈ ip_Ts := ip_in (ip_t4 (List.mem_of_getElem? (i := 182) rfl)) rfl
theorem tw_903 : Cond.code yX6_isLetter prog_8_method_13_code 1 (some .boolean) ∈ ip_Ts := ip_in (ip_t4 (List.mem_of_getElem? (i := 183) rfl)) rfl
theorem tw_904 : Cond.methodLink RX6 80 yX6_isDigit ∈ ip_Ts := ip_in (ip_t4 (List.mem_of_getElem? (i := 184) rfl)) rfl
theorem tw_905 : Cond.static yX6_isDigit ∈ ip_Ts := ip_in (ip_t4 (List.mem_of_getElem? (i := 185) rfl)) rfl
theorem tw_906 : Cond.code yX6_isDigit prog_8_method_14_code 1 (some .boolean) ∈ ip_Ts := ip_in (ip_t4 (List.mem_of_getElem? (i := 186) rfl)) rfl
theorem tw_907 : Cond.constantLong RX6 93 (27) ∈ ip_Ts := ip_in (ip_t4 (List.mem_of_getElem? (i := 187) rfl)) rfl
theorem tw_908 : Cond.constantLong RX6 95 (96) ∈ ip_Ts := ip_in (ip_t4 (List.mem_of_getElem? (i := 188) rfl)) rfl
theorem tw_909 : Cond.constantLong RX6 97 (-1) ∈ ip_Ts := ip_in (ip_t4 (List.mem_of_getElem? (i := 189) rfl)) rfl
theorem tw_910 : Cond.methodLink RX6 171 yX6_wantClause ∈ ip_Ts := ip_in (ip_t4 (List.mem_of_getElem? (i := 190) rfl)) rfl
theorem tw_912 : Cond.instanceMethod yX6_wantClause ∈ ip_Ts := ip_in (ip_t4 (List.mem_of_getElem? (i := 192) rfl)) rfl
theorem tw_913 : Cond.code yX6_wantClause prog_8_method_25_code 3 none ∈ ip_Ts := ip_in (ip_t4 (List.mem_of_getElem? (i := 193) rfl)) rfl
theorem tw_914 : Cond.methodLink RX6 155 yX6_lawHere ∈ ip_Ts := ip_in (ip_t4 (List.mem_of_getElem? (i := 194) rfl)) rfl
theorem tw_916 : Cond.instanceMethod yX6_lawHere ∈ ip_Ts := ip_in (ip_t4 (List.mem_of_getElem? (i := 196) rfl)) rfl
theorem tw_917 : Cond.code yX6_lawHere prog_8_method_19_code 1 (some .int) ∈ ip_Ts := ip_in (ip_t4 (List.mem_of_getElem? (i := 197) rfl)) rfl
theorem tw_918 : Cond.constantLong RX6 115 (8740370) ∈ ip_Ts := ip_in (ip_t4 (List.mem_of_getElem? (i := 198) rfl)) rfl
theorem tw_919 : Cond.methodLink RX6 101 yX6_isWord ∈ ip_Ts := ip_in (ip_t4 (List.mem_of_getElem? (i := 199) rfl)) rfl
theorem tw_921 : Cond.instanceMethod yX6_isWord ∈ ip_Ts := ip_in (ip_t4 (List.mem_of_getElem? (i := 201) rfl)) rfl
theorem tw_922 : Cond.code yX6_isWord prog_8_method_16_code 3 (some .boolean) ∈ ip_Ts := ip_in (ip_t4 (List.mem_of_getElem? (i := 202) rfl)) rfl
theorem tw_923 : Cond.constantLong RX6 117 (2045) ∈ ip_Ts := ip_in (ip_t4 (List.mem_of_getElem? (i := 203) rfl)) rfl
theorem tw_924 : Cond.constantLong RX6 119 (17030) ∈ ip_Ts := ip_in (ip_t4 (List.mem_of_getElem? (i := 204) rfl)) rfl
theorem tw_925 : Cond.constantLong RX6 121 (2436392) ∈ ip_Ts := ip_in (ip_t4 (List.mem_of_getElem? (i := 205) rfl)) rfl
theorem tw_926 : Cond.methodLink RX6 159 yX6_kindHere ∈ ip_Ts := ip_in (ip_t4 (List.mem_of_getElem? (i := 206) rfl)) rfl
theorem tw_928 : Cond.instanceMethod yX6_kindHere ∈ ip_Ts := ip_in (ip_t4 (List.mem_of_getElem? (i := 208) rfl)) rfl
theorem tw_929 : Cond.code yX6_kindHere prog_8_method_18_code 1 (some .int) ∈ ip_Ts := ip_in (ip_t4 (List.mem_of_getElem? (i := 209) rfl)) rfl
theorem tw_930 : Cond.constantLong RX6 99 (330800670) ∈ ip_Ts := ip_in (ip_t4 (List.mem_of_getElem? (i := 210) rfl)) rfl
theorem tw_931 : Cond.constantLong RX6 105 (1842089) ∈ ip_Ts := ip_in (ip_t4 (List.mem_of_getElem? (i := 211) rfl)) rfl
theorem tw_932 : Cond.constantLong RX6 107 (1758676) ∈ ip_Ts := ip_in (ip_t4 (List.mem_of_getElem? (i := 212) rfl)) rfl
theorem tw_933 : Cond.constantLong RX6 109 (146534985) ∈ ip_Ts := ip_in (ip_t4 (List.mem_of_getElem? (i := 213) rfl)) rfl
theorem tw_934 : Cond.constantLong RX6 111 (10124021) ∈ ip_Ts := ip_in (ip_t4 (List.mem_of_getElem? (i := 214) rfl)) rfl
theorem tw_935 : Cond.constantLong RX6 113 (7868267739) ∈ ip_Ts := ip_in (ip_t4 (List.mem_of_getElem? (i := 215) rfl)) rfl
theorem tw_936 : Cond.methodLink RX6 162 yX6_wantOne ∈ ip_Ts := ip_in (ip_t4 (List.mem_of_getElem? (i := 216) rfl)) rfl
theorem tw_938 : Cond.instanceMethod yX6_wantOne ∈ ip_Ts := ip_in (ip_t4 (List.mem_of_getElem? (i := 218) rfl)) rfl
theorem tw_939 : Cond.code yX6_wantOne prog_8_method_24_code 7 none ∈ ip_Ts := ip_in (ip_t4 (List.mem_of_getElem? (i := 219) rfl)) rfl
theorem tw_940 : Cond.constantLong RX6 139 (332864552) ∈ ip_Ts := ip_in (ip_t4 (List.mem_of_getElem? (i := 220) rfl)) rfl
theorem tw_941 : Cond.methodLink RX6 141 yX6_mayWant ∈ ip_Ts := ip_in (ip_t4 (List.mem_of_getElem? (i := 221) rfl)) rfl
theorem tw_943 : Cond.instanceMethod yX6_mayWant ∈ ip_Ts := ip_in (ip_t4 (List.mem_of_getElem? (i := 223) rfl)) rfl
theorem tw_944 : Cond.code yX6_mayWant prog_8_method_22_code 5 (some .int) ∈ ip_Ts := ip_in (ip_t4 (List.mem_of_getElem? (i := 224) rfl)) rfl
theorem tw_945 : Cond.methodLink RX6 133 yX6_wantNumber ∈ ip_Ts := ip_in (ip_t4 (List.mem_of_getElem? (i := 225) rfl)) rfl
theorem tw_947 : Cond.instanceMethod yX6_wantNumber ∈ ip_Ts := ip_in (ip_t4 (List.mem_of_getElem? (i := 227) rfl)) rfl
theorem tw_948 : Cond.code yX6_wantNumber prog_8_method_20_code 4 (some .int) ∈ ip_Ts := ip_in (ip_t4 (List.mem_of_getElem? (i := 228) rfl)) rfl
theorem tw_949 : Cond.constantLong RX6 145 (47) ∈ ip_Ts := ip_in (ip_t4 (List.mem_of_getElem? (i := 229) rfl)) rfl
theorem tw_950 : Cond.constantLong RX6 147 (375400) ∈ ip_Ts := ip_in (ip_t4 (List.mem_of_getElem? (i := 230) rfl)) rfl
theorem tw_951 : Cond.methodLink RX6 149 yX6_mayDeny ∈ ip_Ts := ip_in (ip_t4 (List.mem_of_getElem? (i := 231) rfl)) rfl
theorem tw_953 : Cond.instanceMethod yX6_mayDeny ∈ ip_Ts := ip_in (ip_t4 (List.mem_of_getElem? (i := 233) rfl)) rfl
theorem tw_954 : Cond.code yX6_mayDeny prog_8_method_23_code 2 (some .int) ∈ ip_Ts := ip_in (ip_t4 (List.mem_of_getElem? (i := 234) rfl)) rfl
theorem tw_955 : Cond.constantLong RX6 137 (60335110) ∈ ip_Ts := ip_in (ip_t4 (List.mem_of_getElem? (i := 235) rfl)) rfl
theorem tw_956 : Cond.methodLink RX6 152 yX6_wantEnd ∈ ip_Ts := ip_in (ip_t4 (List.mem_of_getElem? (i := 236) rfl)) rfl
theorem tw_958 : Cond.instanceMethod yX6_wantEnd ∈ ip_Ts := ip_in (ip_t4 (List.mem_of_getElem? (i := 238) rfl)) rfl
theorem tw_959 : Cond.code yX6_wantEnd prog_8_method_21_code 1 none ∈ ip_Ts := ip_in (ip_t4 (List.mem_of_getElem? (i := 239) rfl)) rfl
theorem tw_960 : Cond.methodLink RX6 130 yX6_isMark ∈ ip_Ts := ip_in (ip_t5 (List.mem_of_getElem? (i := 0) rfl)) rfl
theorem tw_962 : Cond.instanceMethod yX6_isMark ∈ ip_Ts := ip_in (ip_t5 (List.mem_of_getElem? (i := 2) rfl)) rfl
theorem tw_963 : Cond.code yX6_isMark prog_8_method_17_code 2 (some .boolean) ∈ ip_Ts := ip_in (ip_t5 (List.mem_of_getElem? (i := 3) rfl)) rfl
theorem tw_964 : Cond.methodLink RX6 166 yX6_mostOf ∈ ip_Ts := ip_in (ip_t5 (List.mem_of_getElem? (i := 4) rfl)) rfl
theorem tw_965 : Cond.static yX6_mostOf ∈ ip_Ts := ip_in (ip_t5 (List.mem_of_getElem? (i := 5) rfl)) rfl
theorem tw_966 : Cond.code yX6_mostOf prog_8_method_27_code 1 (some .int) ∈ ip_Ts := ip_in (ip_t5 (List.mem_of_getElem? (i := 6) rfl)) rfl
theorem tw_967 : Cond.constantLong RX6 169 (118928) ∈ ip_Ts := ip_in (ip_t5 (List.mem_of_getElem? (i := 7) rfl)) rfl
theorem tw_968 : Cond.methodLink RX6 174 yX6_moveAll ∈ ip_Ts := ip_in (ip_t5 (List.mem_of_getElem? (i := 8) rfl)) rfl
theorem tw_969 : Cond.static yX6_moveAll ∈ ip_Ts := ip_in (ip_t5 (List.mem_of_getElem? (i := 9) rfl)) rfl
theorem tw_970 : Cond.code yX6_moveAll prog_8_method_5_code 3 none ∈ ip_Ts := ip_in (ip_t5 (List.mem_of_getElem? (i := 10) rfl)) rfl
theorem tw_971 : Cond.methodLink RL 29 yX6_set ∈ ip_Ts := ip_in (ip_t5 (List.mem_of_getElem? (i := 11) rfl)) rfl
theorem tw_972 : Cond.instanceMethod yX6_set ∈ ip_Ts := ip_in (ip_t5 (List.mem_of_getElem? (i := 12) rfl)) rfl
theorem tw_973 : Cond.selects RX6 yX6_set yX6_set ∈ ip_Ts := ip_in (ip_t5 (List.mem_of_getElem? (i := 13) rfl)) rfl
theorem tw_974 : Cond.code yX6_set prog_8_method_28_code 3 (some .int) ∈ ip_Ts := ip_in (ip_t5 (List.mem_of_getElem? (i := 14) rfl)) rfl
theorem tw_975 : Cond.methodLink RX6 181 yX6_becomes ∈ ip_Ts := ip_in (ip_t5 (List.mem_of_getElem? (i := 15) rfl)) rfl
theorem tw_977 : Cond.instanceMethod yX6_becomes ∈ ip_Ts := ip_in (ip_t5 (List.mem_of_getElem? (i := 17) rfl)) rfl
theorem tw_978 : Cond.code yX6_becomes prog_8_method_9_code 4 (some .int) ∈ ip_Ts := ip_in (ip_t5 (List.mem_of_getElem? (i := 18) rfl)) rfl
theorem tw_979 : Cond.methodLink RL 34 yX6_lawOf ∈ ip_Ts := ip_in (ip_t5 (List.mem_of_getElem? (i := 19) rfl)) rfl
theorem tw_980 : Cond.instanceMethod yX6_lawOf ∈ ip_Ts := ip_in (ip_t5 (List.mem_of_getElem? (i := 20) rfl)) rfl
theorem tw_981 : Cond.selects RX6 yX6_lawOf yX6_lawOf ∈ ip_Ts := ip_in (ip_t5 (List.mem_of_getElem? (i := 21) rfl)) rfl
theorem tw_982 : Cond.code yX6_lawOf prog_8_method_29_code 2 (some .int) ∈ ip_Ts := ip_in (ip_t5 (List.mem_of_getElem? (i := 22) rfl)) rfl
theorem tw_983 : Cond.methodLink RL 38 yX6_fact ∈ ip_Ts := ip_in (ip_t5 (List.mem_of_getElem? (i := 23) rfl)) rfl
theorem tw_984 : Cond.instanceMethod yX6_fact ∈ ip_Ts := ip_in (ip_t5 (List.mem_of_getElem? (i := 24) rfl)) rfl
theorem tw_985 : Cond.selects RX6 yX6_fact yX6_fact ∈ ip_Ts := ip_in (ip_t5 (List.mem_of_getElem? (i := 25) rfl)) rfl
theorem tw_986 : Cond.code yX6_fact prog_8_method_30_code 4 (some .int) ∈ ip_Ts := ip_in (ip_t5 (List.mem_of_getElem? (i := 26) rfl)) rfl
theorem tw_987 : Cond.methodLink RL 42 yX6_walker ∈ ip_Ts := ip_in (ip_t5 (List.mem_of_getElem? (i := 27) rfl)) rfl
theorem tw_988 : Cond.instanceMethod yX6_walker ∈ ip_Ts := ip_in (ip_t5 (List.mem_of_getElem? (i := 28) rfl)) rfl
theorem tw_989 : Cond.selects RX6 yX6_walker yX6_walker ∈ ip_Ts := ip_in (ip_t5 (List.mem_of_getElem? (i := 29) rfl)) rfl
theorem tw_990 : Cond.code yX6_walker prog_8_method_32_code 5 (some .int) ∈ ip_Ts := ip_in (ip_t5 (List.mem_of_getElem? (i := 30) rfl)) rfl
theorem tw_991 : Cond.methodLink RX6 184 yX6_isKind ∈ ip_Ts := ip_in (ip_t5 (List.mem_of_getElem? (i := 31) rfl)) rfl
theorem tw_992 : Cond.static yX6_isKind ∈ ip_Ts := ip_in (ip_t5 (List.mem_of_getElem? (i := 32) rfl)) rfl
theorem tw_993 : Cond.code yX6_isKind prog_8_method_31_code 2 (some .boolean) ∈ ip_Ts := ip_in (ip_t5 (List.mem_of_getElem? (i := 33) rfl)) rfl
theorem tw_994 : Cond.methodLink RX6 188 yX6_sets ∈ ip_Ts := ip_in (ip_t5 (List.mem_of_getElem? (i := 34) rfl)) rfl
theorem tw_996 : Cond.instanceMethod yX6_sets ∈ ip_Ts := ip_in (ip_t5 (List.mem_of_getElem? (i := 36) rfl)) rfl
theorem tw_997 : Cond.code yX6_sets prog_8_method_8_code 4 none ∈ ip_Ts := ip_in (ip_t5 (List.mem_of_getElem? (i := 37) rfl)) rfl
theorem tw_998 : Cond.methodLink RL 46 yX6_of ∈ ip_Ts := ip_in (ip_t5 (List.mem_of_getElem? (i := 38) rfl)) rfl
theorem tw_999 : Cond.instanceMethod yX6_of ∈ ip_Ts := ip_in (ip_t5 (List.mem_of_getElem? (i := 39) rfl)) rfl
theorem tw_1000 : Cond.selects RX6 yX6_of yX6_of ∈ ip_Ts := ip_in (ip_t5 (List.mem_of_getElem? (i := 40) rfl)) rfl
theorem tw_1001 : Cond.code yX6_of prog_8_method_33_code 3 (some .int) ∈ ip_Ts := ip_in (ip_t5 (List.mem_of_getElem? (i := 41) rfl)) rfl
theorem tw_1002 : Cond.methodLink RX6 192 yX6_isOne ∈ ip_Ts := ip_in (ip_t5 (List.mem_of_getElem? (i := 42) rfl)) rfl
theorem tw_1004 : Cond.instanceMethod yX6_isOne ∈ ip_Ts := ip_in (ip_t5 (List.mem_of_getElem? (i := 44) rfl)) rfl
theorem tw_1005 : Cond.code yX6_isOne prog_8_method_6_code 2 (some .boolean) ∈ ip_Ts := ip_in (ip_t5 (List.mem_of_getElem? (i := 45) rfl)) rfl
theorem tw_1006 : Cond.methodLink RX6 195 yX6_its ∈ ip_Ts := ip_in (ip_t5 (List.mem_of_getElem? (i := 46) rfl)) rfl
theorem tw_1008 : Cond.instanceMethod yX6_its ∈ ip_Ts := ip_in (ip_t5 (List.mem_of_getElem? (i := 48) rfl)) rfl
theorem tw_1009 : Cond.code yX6_its prog_8_method_7_code 3 (some .int) ∈ ip_Ts := ip_in (ip_t5 (List.mem_of_getElem? (i := 49) rfl)) rfl
theorem tw_1010 : Cond.methodLink RL 50 yX6_does ∈ ip_Ts := ip_in (ip_t5 (List.mem_of_getElem? (i := 50) rfl)) rfl
theorem tw_1011 : Cond.instanceMethod yX6_does ∈ ip_Ts := ip_in (ip_t5 (List.mem_of_getElem? (i := 51) rfl)) rfl
theorem tw_1012 : Cond.selects RX6 yX6_does yX6_does ∈ ip_Ts := ip_in (ip_t5 (List.mem_of_getElem? (i := 52) rfl)) rfl
theorem tw_1013 : Cond.code yX6_does prog_8_method_38_code 3 (some .int) ∈ ip_Ts := ip_in (ip_t5 (List.mem_of_getElem? (i := 53) rfl)) rfl
theorem tw_1014 : Cond.methodLink RX6 207 yX6_bears ∈ ip_Ts := ip_in (ip_t5 (List.mem_of_getElem? (i := 54) rfl)) rfl
theorem tw_1016 : Cond.instanceMethod yX6_bears ∈ ip_Ts := ip_in (ip_t5 (List.mem_of_getElem? (i := 56) rfl)) rfl
theorem tw_1017 : Cond.code yX6_bears prog_8_method_36_code 7 (some .int) ∈ ip_Ts := ip_in (ip_t5 (List.mem_of_getElem? (i := 57) rfl)) rfl
theorem tw_1018 : Cond.methodLink RX6 201 yX6_right ∈ ip_Ts := ip_in (ip_t5 (List.mem_of_getElem? (i := 58) rfl)) rfl
theorem tw_1020 : Cond.instanceMethod yX6_right ∈ ip_Ts := ip_in (ip_t5 (List.mem_of_getElem? (i := 60) rfl)) rfl
theorem tw_1021 : Cond.code yX6_right prog_8_method_34_code 2 (some .int) ∈ ip_Ts := ip_in (ip_t5 (List.mem_of_getElem? (i := 61) rfl)) rfl
theorem tw_1022 : Cond.methodLink RX6 198 yX6_ones ∈ ip_Ts := ip_in (ip_t5 (List.mem_of_getElem? (i := 62) rfl)) rfl
theorem tw_1023 : Cond.static yX6_ones ∈ ip_Ts := ip_in (ip_t5 (List.mem_of_getElem? (i := 63) rfl)) rfl
theorem tw_1024 : Cond.code yX6_ones prog_8_method_10_code 3 (some .int) ∈ ip_Ts := ip_in (ip_t5 (List.mem_of_getElem? (i := 64) rfl)) rfl
theorem tw_1025 : Cond.methodLink RX6 204 yX6_said ∈ ip_Ts := ip_in (ip_t5 (List.mem_of_getElem? (i := 65) rfl)) rfl
theorem tw_1027 : Cond.instanceMethod yX6_said ∈ ip_Ts := ip_in (ip_t5 (List.mem_of_getElem? (i := 67) rfl)) rfl
theorem tw_1028 : Cond.code yX6_said prog_8_method_35_code 2 (some .int) ∈ ip_Ts := ip_in (ip_t5 (List.mem_of_getElem? (i := 68) rfl)) rfl
theorem tw_1029 : Cond.methodLink RX6 210 yX6_strides ∈ ip_Ts := ip_in (ip_t5 (List.mem_of_getElem? (i := 69) rfl)) rfl
theorem tw_1031 : Cond.instanceMethod yX6_strides ∈ ip_Ts := ip_in (ip_t5 (List.mem_of_getElem? (i := 71) rfl)) rfl
theorem tw_1032 : Cond.code yX6_strides prog_8_method_37_code 2 (some .int) ∈ ip_Ts := ip_in (ip_t5 (List.mem_of_getElem? (i := 72) rfl)) rfl
theorem tw_1033 : Cond.methodLink RL 55 yX6_mind ∈ ip_Ts := ip_in (ip_t5 (List.mem_of_getElem? (i := 73) rfl)) rfl
theorem tw_1034 : Cond.instanceMethod yX6_mind ∈ ip_Ts := ip_in (ip_t5 (List.mem_of_getElem? (i := 74) rfl)) rfl
theorem tw_1035 : Cond.selects RX6 yX6_mind yX6_mind ∈ ip_Ts := ip_in (ip_t5 (List.mem_of_getElem? (i := 75) rfl)) rfl
theorem tw_1036 : Cond.code yX6_mind prog_8_method_39_code 4 (some .int) ∈ ip_Ts := ip_in (ip_t5 (List.mem_of_getElem? (i := 76) rfl)) rfl
theorem tw_1037 : Cond.methodLink RL 59 yX6_say ∈ ip_Ts := ip_in (ip_t5 (List.mem_of_getElem? (i := 77) rfl)) rfl
theorem tw_1038 : Cond.instanceMethod yX6_say ∈ ip_Ts := ip_in (ip_t5 (List.mem_of_getElem? (i := 78) rfl)) rfl
theorem tw_1039 : Cond.selects RX6 yX6_say yX6_say ∈ ip_Ts := ip_in (ip_t5 (List.mem_of_getElem? (i := 79) rfl)) rfl
theorem tw_1040 : Cond.code yX6_say prog_8_method_40_code 5 (some .int) ∈ ip_Ts := ip_in (ip_t5 (List.mem_of_getElem? (i := 80) rfl)) rfl
theorem tw_1041 : Cond.methodLink RL 63 yX6_stand ∈ ip_Ts := ip_in (ip_t5 (List.mem_of_getElem? (i := 81) rfl)) rfl
theorem tw_1042 : Cond.instanceMethod yX6_stand ∈ ip_Ts := ip_in (ip_t5 (List.mem_of_getElem? (i := 82) rfl)) rfl
theorem tw_1043 : Cond.selects RX6 yX6_stand yX6_stand ∈ ip_Ts := ip_in (ip_t5 (List.mem_of_getElem? (i := 83) rfl)) rfl
theorem tw_1044 : Cond.code yX6_stand prog_8_method_41_code 3 (some .int) ∈ ip_Ts := ip_in (ip_t5 (List.mem_of_getElem? (i := 84) rfl)) rfl
theorem tw_1045 : Cond.methodLink RL 67 yX6_steps ∈ ip_Ts := ip_in (ip_t5 (List.mem_of_getElem? (i := 85) rfl)) rfl
theorem tw_1046 : Cond.instanceMethod yX6_steps ∈ ip_Ts := ip_in (ip_t5 (List.mem_of_getElem? (i := 86) rfl)) rfl
theorem tw_1047 : Cond.selects RX6 yX6_steps yX6_steps ∈ ip_Ts := ip_in (ip_t5 (List.mem_of_getElem? (i := 87) rfl)) rfl
theorem tw_1048 : Cond.code yX6_steps prog_8_method_48_code 3 (some .int) ∈ ip_Ts := ip_in (ip_t5 (List.mem_of_getElem? (i := 88) rfl)) rfl
theorem tw_1049 : Cond.methodLink RX6 226 yX6_stepGoes ∈ ip_Ts := ip_in (ip_t5 (List.mem_of_getElem? (i := 89) rfl)) rfl
theorem tw_1051 : Cond.instanceMethod yX6_stepGoes ∈ ip_Ts := ip_in (ip_t5 (List.mem_of_getElem? (i := 91) rfl)) rfl
theorem tw_1052 : Cond.code yX6_stepGoes prog_8_method_45_code 2 none ∈ ip_Ts := ip_in (ip_t5 (List.mem_of_getElem? (i := 92) rfl)) rfl
theorem tw_1053 : Cond.methodLink RX6 223 yX6_goes ∈ ip_Ts := ip_in (ip_t5 (List.mem_of_getElem? (i := 93) rfl)) rfl
theorem tw_1055 : Cond.instanceMethod yX6_goes ∈ ip_Ts := ip_in (ip_t5 (List.mem_of_getElem? (i := 95) rfl)) rfl
theorem tw_1056 : Cond.code yX6_goes prog_8_method_44_code 2 none ∈ ip_Ts := ip_in (ip_t5 (List.mem_of_getElem? (i := 96) rfl)) rfl
theorem tw_1057 : Cond.methodLink RX6 216 yX6_isDone ∈ ip_Ts := ip_in (ip_t5 (List.mem_of_getElem? (i := 97) rfl)) rfl
theorem tw_1059 : Cond.instanceMethod yX6_isDone ∈ ip_Ts := ip_in (ip_t5 (List.mem_of_getElem? (i := 99) rfl)) rfl
theorem tw_1060 : Cond.code yX6_isDone prog_8_method_43_code 2 (some .boolean) ∈ ip_Ts := ip_in (ip_t5 (List.mem_of_getElem? (i := 100) rfl)) rfl
theorem tw_1061 : Cond.methodLink RX6 213 yX6_isAcross ∈ ip_Ts := ip_in (ip_t5 (List.mem_of_getElem? (i := 101) rfl)) rfl
theorem tw_1063 : Cond.instanceMethod yX6_isAcross ∈ ip_Ts := ip_in (ip_t5 (List.mem_of_getElem? (i := 103) rfl)) rfl
theorem tw_1064 : Cond.code yX6_isAcross prog_8_method_42_code 2 (some .boolean) ∈ ip_Ts := ip_in (ip_t5 (List.mem_of_getElem? (i := 104) rfl)) rfl
theorem tw_1065 : Cond.methodLink RX6 219 yX6_held ∈ ip_Ts := ip_in (ip_t5 (List.mem_of_getElem? (i := 105) rfl)) rfl
theorem tw_1066 : Cond.static yX6_held ∈ ip_Ts := ip_in (ip_t5 (List.mem_of_getElem? (i := 106) rfl)) rfl
theorem tw_1067 : Cond.code yX6_held prog_8_method_4_code 3 (some .int) ∈ ip_Ts := ip_in (ip_t5 (List.mem_of_getElem? (i := 107) rfl)) rfl
theorem tw_1068 : Cond.methodLink RX6 229 yX6_acrossSet ∈ ip_Ts := ip_in (ip_t5 (List.mem_of_getElem? (i := 108) rfl)) rfl
theorem tw_1070 : Cond.instanceMethod yX6_acrossSet ∈ ip_Ts := ip_in (ip_t5 (List.mem_of_getElem? (i := 110) rfl)) rfl
theorem tw_1071 : Cond.code yX6_acrossSet prog_8_method_46_code 3 (some .int) ∈ ip_Ts := ip_in (ip_t5 (List.mem_of_getElem? (i := 111) rfl)) rfl
theorem tw_1072 : Cond.methodLink RL 71 yX6_seed ∈ ip_Ts := ip_in (ip_t5 (List.mem_of_getElem? (i := 112) rfl)) rfl
theorem tw_1073 : Cond.instanceMethod yX6_seed ∈ ip_Ts := ip_in (ip_t5 (List.mem_of_getElem? (i := 113) rfl)) rfl
theorem tw_1074 : Cond.selects RX6 yX6_seed yX6_seed ∈ ip_Ts := ip_in (ip_t5 (List.mem_of_getElem? (i := 114) rfl)) rfl
theorem tw_1075 : Cond.code yX6_seed prog_8_method_50_code 2 (some .int) ∈ ip_Ts := ip_in (ip_t5 (List.mem_of_getElem? (i := 115) rfl)) rfl
theorem tw_1076 : Cond.methodLink RL 75 yX6_step ∈ ip_Ts := ip_in (ip_t5 (List.mem_of_getElem? (i := 116) rfl)) rfl
theorem tw_1077 : Cond.instanceMethod yX6_step ∈ ip_Ts := ip_in (ip_t5 (List.mem_of_getElem? (i := 117) rfl)) rfl
theorem tw_1078 : Cond.selects RX6 yX6_step yX6_step ∈ ip_Ts := ip_in (ip_t5 (List.mem_of_getElem? (i := 118) rfl)) rfl
theorem tw_1079 : Cond.code yX6_step prog_8_method_52_code 1 (some .int) ∈ ip_Ts := ip_in (ip_t5 (List.mem_of_getElem? (i := 119) rfl)) rfl
theorem tw_1080 : Cond.methodLink RX6 236 yX6_stepByDraws ∈ ip_Ts := ip_in (ip_t5 (List.mem_of_getElem? (i := 120) rfl)) rfl
theorem tw_1082 : Cond.instanceMethod yX6_stepByDraws ∈ ip_Ts := ip_in (ip_t5 (List.mem_of_getElem? (i := 122) rfl)) rfl
theorem tw_1083 : Cond.code yX6_stepByDraws prog_8_method_51_code 2 none ∈ ip_Ts := ip_in (ip_t5 (List.mem_of_getElem? (i := 123) rfl)) rfl
theorem tw_1084 : Cond.methodLink RX6 233 yX6_drawn ∈ ip_Ts := ip_in (ip_t5 (List.mem_of_getElem? (i := 124) rfl)) rfl
theorem tw_1086 : Cond.instanceMethod yX6_drawn ∈ ip_Ts := ip_in (ip_t5 (List.mem_of_getElem? (i := 126) rfl)) rfl
theorem tw_1087 : Cond.code yX6_drawn prog_8_method_49_code 1 (some .int) ∈ ip_Ts := ip_in (ip_t5 (List.mem_of_getElem? (i := 127) rfl)) rfl
theorem tw_1088 : Cond.constant RX6 232 (1103515245) ∈ ip_Ts := ip_in (ip_t5 (List.mem_of_getElem? (i := 128) rfl)) rfl
theorem tw_1089 : Cond.methodLink RL 79 yX6_luck ∈ ip_Ts := ip_in (ip_t5 (List.mem_of_getElem? (i := 129) rfl)) rfl
theorem tw_1090 : Cond.instanceMethod yX6_luck ∈ ip_Ts := ip_in (ip_t5 (List.mem_of_getElem? (i := 130) rfl)) rfl
theorem tw_1091 : Cond.selects RX6 yX6_luck yX6_luck ∈ ip_Ts := ip_in (ip_t5 (List.mem_of_getElem? (i := 131) rfl)) rfl
theorem tw_1092 : Cond.code yX6_luck prog_8_method_53_code 6 (some .int) ∈ ip_Ts := ip_in (ip_t5 (List.mem_of_getElem? (i := 132) rfl)) rfl
theorem tw_1093 : Cond.methodLink RX6 239 yX6_fallenSet ∈ ip_Ts := ip_in (ip_t5 (List.mem_of_getElem? (i := 133) rfl)) rfl
theorem tw_1095 : Cond.instanceMethod yX6_fallenSet ∈ ip_Ts := ip_in (ip_t5 (List.mem_of_getElem? (i := 135) rfl)) rfl
theorem tw_1096 : Cond.code yX6_fallenSet prog_8_method_47_code 3 (some .int) ∈ ip_Ts := ip_in (ip_t5 (List.mem_of_getElem? (i := 136) rfl)) rfl
theorem tw_1097 : Cond.methodLink RL 83 yX6_state ∈ ip_Ts := ip_in (ip_t5 (List.mem_of_getElem? (i := 137) rfl)) rfl
theorem tw_1098 : Cond.instanceMethod yX6_state ∈ ip_Ts := ip_in (ip_t5 (List.mem_of_getElem? (i := 138) rfl)) rfl
theorem tw_1099 : Cond.selects RX6 yX6_state yX6_state ∈ ip_Ts := ip_in (ip_t5 (List.mem_of_getElem? (i := 139) rfl)) rfl
theorem tw_1100 : Cond.code yX6_state prog_8_method_59_code 2 (some .int) ∈ ip_Ts := ip_in (ip_t5 (List.mem_of_getElem? (i := 140) rfl)) rfl
theorem tw_1101 : Cond.methodLink RX6 248 yX6_places ∈ ip_Ts := ip_in (ip_t5 (List.mem_of_getElem? (i := 141) rfl)) rfl
theorem tw_1103 : Cond.instanceMethod yX6_places ∈ ip_Ts := ip_in (ip_t5 (List.mem_of_getElem? (i := 143) rfl)) rfl
theorem tw_1104 : Cond.code yX6_places prog_8_method_58_code 3 (some .int) ∈ ip_Ts := ip_in (ip_t5 (List.mem_of_getElem? (i := 144) rfl)) rfl
theorem tw_1105 : Cond.methodLink RX6 251 yX6_mostHeld ∈ ip_Ts := ip_in (ip_t5 (List.mem_of_getElem? (i := 145) rfl)) rfl
theorem tw_1107 : Cond.instanceMethod yX6_mostHeld ∈ ip_Ts := ip_in (ip_t5 (List.mem_of_getElem? (i := 147) rfl)) rfl
theorem tw_1108 : Cond.code yX6_mostHeld prog_8_method_57_code 3 (some .int) ∈ ip_Ts := ip_in (ip_t5 (List.mem_of_getElem? (i := 148) rfl)) rfl
theorem tw_1109 : Cond.methodLink RX6 245 yX6_isPeace ∈ ip_Ts := ip_in (ip_t5 (List.mem_of_getElem? (i := 149) rfl)) rfl
theorem tw_1111 : Cond.instanceMethod yX6_isPeace ∈ ip_Ts := ip_in (ip_t5 (List.mem_of_getElem? (i := 151) rfl)) rfl
theorem tw_1112 : Cond.code yX6_isPeace prog_8_method_56_code 5 (some .boolean) ∈ ip_Ts := ip_in (ip_t5 (List.mem_of_getElem? (i := 152) rfl)) rfl
theorem tw_1113 : Cond.methodLink RX6 242 yX6_clash ∈ ip_Ts := ip_in (ip_t5 (List.mem_of_getElem? (i := 153) rfl)) rfl
theorem tw_1115 : Cond.instanceMethod yX6_clash ∈ ip_Ts := ip_in (ip_t5 (List.mem_of_getElem? (i := 155) rfl)) rfl
theorem tw_1116 : Cond.code yX6_clash prog_8_method_54_code 3 (some .int) ∈ ip_Ts := ip_in (ip_t5 (List.mem_of_getElem? (i := 156) rfl)) rfl
theorem tw_1117 : Cond.methodLink RL 87 yX6_reaches ∈ ip_Ts := ip_in (ip_t5 (List.mem_of_getElem? (i := 157) rfl)) rfl
theorem tw_1118 : Cond.instanceMethod yX6_reaches ∈ ip_Ts := ip_in (ip_t5 (List.mem_of_getElem? (i := 158) rfl)) rfl
theorem tw_1119 : Cond.selects RX6 yX6_reaches yX6_reaches ∈ ip_Ts := ip_in (ip_t5 (List.mem_of_getElem? (i := 159) rfl)) rfl
theorem tw_1120 : Cond.code yX6_reaches prog_8_method_62_code 3 (some .int) ∈ ip_Ts := ip_in (ip_t5 (List.mem_of_getElem? (i := 160) rfl)) rfl
theorem tw_1121 : Cond.methodLink RX6 257 yX6_placeBehind ∈ ip_Ts := ip_in (ip_t5 (List.mem_of_getElem? (i := 161) rfl)) rfl
theorem tw_1123 : Cond.instanceMethod yX6_placeBehind ∈ ip_Ts := ip_in (ip_t5 (List.mem_of_getElem? (i := 163) rfl)) rfl
theorem tw_1124 : Cond.code yX6_placeBehind prog_8_method_61_code 4 (some .int) ∈ ip_Ts := ip_in (ip_t5 (List.mem_of_getElem? (i := 164) rfl)) rfl
theorem tw_1125 : Cond.methodLink RX6 254 yX6_goesOn ∈ ip_Ts := ip_in (ip_t5 (List.mem_of_getElem? (i := 165) rfl)) rfl
theorem tw_1127 : Cond.instanceMethod yX6_goesOn ∈ ip_Ts := ip_in (ip_t5 (List.mem_of_getElem? (i := 167) rfl)) rfl
theorem tw_1128 : Cond.code yX6_goesOn prog_8_method_60_code 2 none ∈ ip_Ts := ip_in (ip_t5 (List.mem_of_getElem? (i := 168) rfl)) rfl
theorem tw_1129 : Cond.methodLink RL 91 yX6_over ∈ ip_Ts := ip_in (ip_t5 (List.mem_of_getElem? (i := 169) rfl)) rfl
theorem tw_1130 : Cond.instanceMethod yX6_over ∈ ip_Ts := ip_in (ip_t5 (List.mem_of_getElem? (i := 170) rfl)) rfl
theorem tw_1131 : Cond.selects RX6 yX6_over yX6_over ∈ ip_Ts := ip_in (ip_t5 (List.mem_of_getElem? (i := 171) rfl)) rfl
theorem tw_1132 : Cond.code yX6_over prog_8_method_63_code 3 (some .int) ∈ ip_Ts := ip_in (ip_t5 (List.mem_of_getElem? (i := 172) rfl)) rfl
theorem tw_1133 : Cond.methodLink RL 95 yX6_falls ∈ ip_Ts := ip_in (ip_t5 (List.mem_of_getElem? (i := 173) rfl)) rfl
theorem tw_1134 : Cond.instanceMethod yX6_falls ∈ ip_Ts := ip_in (ip_t5 (List.mem_of_getElem? (i := 174) rfl)) rfl
theorem tw_1135 : Cond.selects RX6 yX6_falls yX6_falls ∈ ip_Ts := ip_in (ip_t5 (List.mem_of_getElem? (i := 175) rfl)) rfl
theorem tw_1136 : Cond.code yX6_falls prog_8_method_64_code 3 (some .int) ∈ ip_Ts := ip_in (ip_t5 (List.mem_of_getElem? (i := 176) rfl)) rfl
theorem tw_1137 : Cond.methodLink RL 99 yX6_end ∈ ip_Ts := ip_in (ip_t5 (List.mem_of_getElem? (i := 177) rfl)) rfl
theorem tw_1138 : Cond.instanceMethod yX6_end ∈ ip_Ts := ip_in (ip_t5 (List.mem_of_getElem? (i := 178) rfl)) rfl
theorem tw_1139 : Cond.selects RX6 yX6_end yX6_end ∈ ip_Ts := ip_in (ip_t5 (List.mem_of_getElem? (i := 179) rfl)) rfl
theorem tw_1140 : Cond.code yX6_end prog_8_method_65_code 2 (some .int) ∈ ip_Ts := ip_in (ip_t5 (List.mem_of_getElem? (i := 180) rfl)) rfl
theorem tw_1141 : Cond.methodLink RL 103 yX6_sayFor ∈ ip_Ts := ip_in (ip_t5 (List.mem_of_getElem? (i := 181) rfl)) rfl
theorem tw_1142 : Cond.instanceMethod yX6_sayFor ∈ ip_Ts := ip_in (ip_t5 (List.mem_of_getElem? (i := 182) rfl)) rfl
theorem tw_1143 : Cond.selects RX6 yX6_sayFor yX6_sayFor ∈ ip_Ts := ip_in (ip_t5 (List.mem_of_getElem? (i := 183) rfl)) rfl
theorem tw_1144 : Cond.code yX6_sayFor prog_8_method_67_code 8 (some .int) ∈ ip_Ts := ip_in (ip_t5 (List.mem_of_getElem? (i := 184) rfl)) rfl
theorem tw_1145 : Cond.methodLink RX6 260 yX6_comesOver ∈ ip_Ts := ip_in (ip_t5 (List.mem_of_getElem? (i := 185) rfl)) rfl
theorem tw_1147 : Cond.instanceMethod yX6_comesOver ∈ ip_Ts := ip_in (ip_t5 (List.mem_of_getElem? (i := 187) rfl)) rfl
theorem tw_1148 : Cond.code yX6_comesOver prog_8_method_66_code 5 (some .boolean) ∈ ip_Ts := ip_in (ip_t5 (List.mem_of_getElem? (i := 188) rfl)) rfl
theorem tw_1149 : Cond.methodLink RL 107 yX6_kindFor ∈ ip_Ts := ip_in (ip_t5 (List.mem_of_getElem? (i := 189) rfl)) rfl
theorem tw_1150 : Cond.instanceMethod yX6_kindFor ∈ ip_Ts := ip_in (ip_t5 (List.mem_of_getElem? (i := 190) rfl)) rfl
theorem tw_1151 : Cond.selects RX6 yX6_kindFor yX6_kindFor ∈ ip_Ts := ip_in (ip_t5 (List.mem_of_getElem? (i := 191) rfl)) rfl
theorem tw_1152 : Cond.code yX6_kindFor prog_8_method_68_code 7 (some .int) ∈ ip_Ts := ip_in (ip_t5 (List.mem_of_getElem? (i := 192) rfl)) rfl
theorem tw_1153 : Cond.methodLink RL 111 yX6_turnedFor ∈ ip_Ts := ip_in (ip_t5 (List.mem_of_getElem? (i := 193) rfl)) rfl
theorem tw_1154 : Cond.instanceMethod yX6_turnedFor ∈ ip_Ts := ip_in (ip_t5 (List.mem_of_getElem? (i := 194) rfl)) rfl
theorem tw_1155 : Cond.selects RX6 yX6_turnedFor yX6_turnedFor ∈ ip_Ts := ip_in (ip_t5 (List.mem_of_getElem? (i := 195) rfl)) rfl
theorem tw_1156 : Cond.code yX6_turnedFor prog_8_method_69_code 7 (some .int) ∈ ip_Ts := ip_in (ip_t5 (List.mem_of_getElem? (i := 196) rfl)) rfl
theorem tw_1157 : Cond.methodLink RL 115 yX6_loadFor ∈ ip_Ts := ip_in (ip_t5 (List.mem_of_getElem? (i := 197) rfl)) rfl
theorem tw_1158 : Cond.instanceMethod yX6_loadFor ∈ ip_Ts := ip_in (ip_t5 (List.mem_of_getElem? (i := 198) rfl)) rfl
theorem tw_1159 : Cond.selects RX6 yX6_loadFor yX6_loadFor ∈ ip_Ts := ip_in (ip_t5 (List.mem_of_getElem? (i := 199) rfl)) rfl
theorem tw_1160 : Cond.code yX6_loadFor prog_8_method_70_code 5 (some .int) ∈ ip_Ts := ip_in (ip_t5 (List.mem_of_getElem? (i := 200) rfl)) rfl
theorem tw_1161 : Cond.methodLink RL 119 yX6_both ∈ ip_Ts := ip_in (ip_t5 (List.mem_of_getElem? (i := 201) rfl)) rfl
theorem tw_1162 : Cond.instanceMethod yX6_both ∈ ip_Ts := ip_in (ip_t5 (List.mem_of_getElem? (i := 202) rfl)) rfl
theorem tw_1163 : Cond.selects RX6 yX6_both yX6_both ∈ ip_Ts := ip_in (ip_t5 (List.mem_of_getElem? (i := 203) rfl)) rfl
theorem tw_1164 : Cond.code yX6_both prog_8_method_71_code 4 (some .int) ∈ ip_Ts := ip_in (ip_t5 (List.mem_of_getElem? (i := 204) rfl)) rfl
theorem tw_1165 : Cond.methodLink RX6 264 yX6_agreed ∈ ip_Ts := ip_in (ip_t5 (List.mem_of_getElem? (i := 205) rfl)) rfl
theorem tw_1167 : Cond.instanceMethod yX6_agreed ∈ ip_Ts := ip_in (ip_t5 (List.mem_of_getElem? (i := 207) rfl)) rfl
theorem tw_1168 : Cond.code yX6_agreed prog_8_method_55_code 3 (some .int) ∈ ip_Ts := ip_in (ip_t5 (List.mem_of_getElem? (i := 208) rfl)) rfl
theorem tw_1169 : Cond.methodLink RL 123 yX6_fits ∈ ip_Ts := ip_in (ip_t5 (List.mem_of_getElem? (i := 209) rfl)) rfl
theorem tw_1170 : Cond.instanceMethod yX6_fits ∈ ip_Ts := ip_in (ip_t5 (List.mem_of_getElem? (i := 210) rfl)) rfl
theorem tw_1171 : Cond.selects RX6 yX6_fits yX6_fits ∈ ip_Ts := ip_in (ip_t5 (List.mem_of_getElem? (i := 211) rfl)) rfl
theorem tw_1172 : Cond.code yX6_fits prog_8_method_73_code 8 (some .int) ∈ ip_Ts := ip_in (ip_t5 (List.mem_of_getElem? (i := 212) rfl)) rfl
theorem tw_1173 : Cond.methodLink RX6 267 yX6_isShelf ∈ ip_Ts := ip_in (ip_t5 (List.mem_of_getElem? (i := 213) rfl)) rfl
theorem tw_1174 : Cond.static yX6_isShelf ∈ ip_Ts := ip_in (ip_t5 (List.mem_of_getElem? (i := 214) rfl)) rfl
theorem tw_1175 : Cond.code yX6_isShelf prog_8_method_85_code 1 (some .boolean) ∈ ip_Ts := ip_in (ip_t5 (List.mem_of_getElem? (i := 215) rfl)) rfl
theorem tw_1176 : Cond.methodLink RX6 270 yX6_isSo ∈ ip_Ts := ip_in (ip_t5 (List.mem_of_getElem? (i := 216) rfl)) rfl
theorem tw_1178 : Cond.instanceMethod yX6_isSo ∈ ip_Ts := ip_in (ip_t5 (List.mem_of_getElem? (i := 218) rfl)) rfl
theorem tw_1179 : Cond.code yX6_isSo prog_8_method_72_code 5 (some .boolean) ∈ ip_Ts := ip_in (ip_t5 (List.mem_of_getElem? (i := 219) rfl)) rfl
theorem tw_1180 : Cond.methodLink RL 128 yX6_odds ∈ ip_Ts := ip_in (ip_t5 (List.mem_of_getElem? (i := 220) rfl)) rfl
theorem tw_1181 : Cond.instanceMethod yX6_odds ∈ ip_Ts := ip_in (ip_t5 (List.mem_of_getElem? (i := 221) rfl)) rfl
theorem tw_1182 : Cond.selects RX6 yX6_odds yX6_odds ∈ ip_Ts := ip_in (ip_t5 (List.mem_of_getElem? (i := 222) rfl)) rfl
theorem tw_1183 : Cond.code yX6_odds prog_8_method_76_code 7 (some .long) ∈ ip_Ts := ip_in (ip_t5 (List.mem_of_getElem? (i := 223) rfl)) rfl
theorem tw_1184 : Cond.methodLink RX6 273 yX6_powerOf ∈ ip_Ts := ip_in (ip_t5 (List.mem_of_getElem? (i := 224) rfl)) rfl
theorem tw_1185 : Cond.static yX6_powerOf ∈ ip_Ts := ip_in (ip_t5 (List.mem_of_getElem? (i := 225) rfl)) rfl
theorem tw_1186 : Cond.code yX6_powerOf prog_8_method_75_code 5 (some .long) ∈ ip_Ts := ip_in (ip_t5 (List.mem_of_getElem? (i := 226) rfl)) rfl
theorem tw_1187 : Cond.methodLink RX6 277 yX6_lowest ∈ ip_Ts := ip_in (ip_t5 (List.mem_of_getElem? (i := 227) rfl)) rfl
theorem tw_1188 : Cond.static yX6_lowest ∈ ip_Ts := ip_in (ip_t5 (List.mem_of_getElem? (i := 228) rfl)) rfl
theorem tw_1189 : Cond.code yX6_lowest prog_8_method_74_code 11 (some .long) ∈ ip_Ts := ip_in (ip_t5 (List.mem_of_getElem? (i := 229) rfl)) rfl
theorem tw_1190 : Cond.methodLink RL 133 yX6_hope ∈ ip_Ts := ip_in (ip_t5 (List.mem_of_getElem? (i := 230) rfl)) rfl
theorem tw_1191 : Cond.instanceMethod yX6_hope ∈ ip_Ts := ip_in (ip_t5 (List.mem_of_getElem? (i := 231) rfl)) rfl
theorem tw_1192 : Cond.selects RX6 yX6_hope yX6_hope ∈ ip_Ts := ip_in (ip_t5 (List.mem_of_getElem? (i := 232) rfl)) rfl
theorem tw_1193 : Cond.code yX6_hope prog_8_method_77_code 3 (some .long) ∈ ip_Ts := ip_in (ip_t5 (List.mem_of_getElem? (i := 233) rfl)) rfl
theorem tw_1194 : Cond.constantLong RX6 281 (100) ∈ ip_Ts := ip_in (ip_t5 (List.mem_of_getElem? (i := 234) rfl)) rfl
theorem tw_1195 : Cond.methodLink RL 137 yX6_prove ∈ ip_Ts := ip_in (ip_t5 (List.mem_of_getElem? (i := 235) rfl)) rfl
theorem tw_1196 : Cond.instanceMethod yX6_prove ∈ ip_Ts := ip_in (ip_t5 (List.mem_of_getElem? (i := 236) rfl)) rfl
theorem tw_1197 : Cond.selects RX6 yX6_prove yX6_prove ∈ ip_Ts := ip_in (ip_t5 (List.mem_of_getElem? (i := 237) rfl)) rfl
theorem tw_1198 : Cond.code yX6_prove prog_8_method_79_code 4 (some .int) ∈ ip_Ts := ip_in (ip_t5 (List.mem_of_getElem? (i := 238) rfl)) rfl
theorem tw_1199 : Cond.methodLink RX6 283 yX6_findRows ∈ ip_Ts := ip_in (ip_t5 (List.mem_of_getElem? (i := 239) rfl)) rfl
theorem tw_1201 : Cond.instanceMethod yX6_findRows ∈ ip_Ts := ip_in (ip_t6 (List.mem_of_getElem? (i := 1) rfl)) rfl
theorem tw_1202 : Cond.code yX6_findRows prog_8_method_78_code 4 none ∈ ip_Ts := ip_in (ip_t6 (List.mem_of_getElem? (i := 2) rfl)) rfl
theorem tw_1203 : Cond.methodLink RL 141 yX6_row ∈ ip_Ts := ip_in (ip_t6 (List.mem_of_getElem? (i := 3) rfl)) rfl
theorem tw_1204 : Cond.instanceMethod yX6_row ∈ ip_Ts := ip_in (ip_t6 (List.mem_of_getElem? (i := 4) rfl)) rfl
theorem tw_1205 : Cond.selects RX6 yX6_row yX6_row ∈ ip_Ts := ip_in (ip_t6 (List.mem_of_getElem? (i := 5) rfl)) rfl
theorem tw_1206 : Cond.code yX6_row prog_8_method_81_code 3 (some .int) ∈ ip_Ts := ip_in (ip_t6 (List.mem_of_getElem? (i := 6) rfl)) rfl
theorem tw_1207 : Cond.methodLink RX6 287 yX6_isRow ∈ ip_Ts := ip_in (ip_t6 (List.mem_of_getElem? (i := 7) rfl)) rfl
theorem tw_1209 : Cond.instanceMethod yX6_isRow ∈ ip_Ts := ip_in (ip_t6 (List.mem_of_getElem? (i := 9) rfl)) rfl
theorem tw_1210 : Cond.code yX6_isRow prog_8_method_80_code 3 (some .boolean) ∈ ip_Ts := ip_in (ip_t6 (List.mem_of_getElem? (i := 10) rfl)) rfl
theorem tw_1211 : Cond.methodLink RL 145 yX6_alterRow ∈ ip_Ts := ip_in (ip_t6 (List.mem_of_getElem? (i := 11) rfl)) rfl
theorem tw_1212 : Cond.instanceMethod yX6_alterRow ∈ ip_Ts := ip_in (ip_t6 (List.mem_of_getElem? (i := 12) rfl)) rfl
theorem tw_1213 : Cond.selects RX6 yX6_alterRow yX6_alterRow ∈ ip_Ts := ip_in (ip_t6 (List.mem_of_getElem? (i := 13) rfl)) rfl
theorem tw_1214 : Cond.code yX6_alterRow prog_8_method_82_code 5 (some .int) ∈ ip_Ts := ip_in (ip_t6 (List.mem_of_getElem? (i := 14) rfl)) rfl
theorem tw_1215 : Cond.methodLink RL 149 yX6_judge ∈ ip_Ts := ip_in (ip_t6 (List.mem_of_getElem? (i := 15) rfl)) rfl
theorem tw_1216 : Cond.instanceMethod yX6_judge ∈ ip_Ts := ip_in (ip_t6 (List.mem_of_getElem? (i := 16) rfl)) rfl
theorem tw_1217 : Cond.selects RX6 yX6_judge yX6_judge ∈ ip_Ts := ip_in (ip_t6 (List.mem_of_getElem? (i := 17) rfl)) rfl
theorem tw_1218 : Cond.code yX6_judge prog_8_method_83_code 3 (some .int) ∈ ip_Ts := ip_in (ip_t6 (List.mem_of_getElem? (i := 18) rfl)) rfl
theorem tw_1219 : Cond.methodLink RL 154 yX6_minds ∈ ip_Ts := ip_in (ip_t6 (List.mem_of_getElem? (i := 19) rfl)) rfl
theorem tw_1220 : Cond.instanceMethod yX6_minds ∈ ip_Ts := ip_in (ip_t6 (List.mem_of_getElem? (i := 20) rfl)) rfl
theorem tw_1221 : Cond.selects RX6 yX6_minds yX6_minds ∈ ip_Ts := ip_in (ip_t6 (List.mem_of_getElem? (i := 21) rfl)) rfl
theorem tw_1222 : Cond.code yX6_minds prog_8_method_84_code 7 (some .int) ∈ ip_Ts := ip_in (ip_t6 (List.mem_of_getElem? (i := 22) rfl)) rfl
theorem tw_1223 : Cond.methodLink RX6 290 yX6_lacksSort ∈ ip_Ts := ip_in (ip_t6 (List.mem_of_getElem? (i := 23) rfl)) rfl
theorem tw_1225 : Cond.instanceMethod yX6_lacksSort ∈ ip_Ts := ip_in (ip_t6 (List.mem_of_getElem? (i := 25) rfl)) rfl
theorem tw_1226 : Cond.code yX6_lacksSort prog_8_method_88_code 3 (some .int) ∈ ip_Ts := ip_in (ip_t6 (List.mem_of_getElem? (i := 26) rfl)) rfl
theorem tw_1227 : Cond.methodLink RL 158 yX6_sheet ∈ ip_Ts := ip_in (ip_t6 (List.mem_of_getElem? (i := 27) rfl)) rfl
theorem tw_1228 : Cond.instanceMethod yX6_sheet ∈ ip_Ts := ip_in (ip_t6 (List.mem_of_getElem? (i := 28) rfl)) rfl
theorem tw_1229 : Cond.selects RX6 yX6_sheet yX6_sheet ∈ ip_Ts := ip_in (ip_t6 (List.mem_of_getElem? (i := 29) rfl)) rfl
theorem tw_1230 : Cond.code yX6_sheet prog_8_method_86_code 5 (some .int) ∈ ip_Ts := ip_in (ip_t6 (List.mem_of_getElem? (i := 30) rfl)) rfl
theorem tw_1231 : Cond.methodLink RL 162 yX6_put ∈ ip_Ts := ip_in (ip_t6 (List.mem_of_getElem? (i := 31) rfl)) rfl
theorem tw_1232 : Cond.instanceMethod yX6_put ∈ ip_Ts := ip_in (ip_t6 (List.mem_of_getElem? (i := 32) rfl)) rfl
theorem tw_1233 : Cond.selects RX6 yX6_put yX6_put ∈ ip_Ts := ip_in (ip_t6 (List.mem_of_getElem? (i := 33) rfl)) rfl
theorem tw_1234 : Cond.code yX6_put prog_8_method_87_code 4 (some .int) ∈ ip_Ts := ip_in (ip_t6 (List.mem_of_getElem? (i := 34) rfl)) rfl
theorem tw_1235 : Cond.methodLink RL 166 yX6_item ∈ ip_Ts := ip_in (ip_t6 (List.mem_of_getElem? (i := 35) rfl)) rfl
theorem tw_1236 : Cond.instanceMethod yX6_item ∈ ip_Ts := ip_in (ip_t6 (List.mem_of_getElem? (i := 36) rfl)) rfl
theorem tw_1237 : Cond.selects RX6 yX6_item yX6_item ∈ ip_Ts := ip_in (ip_t6 (List.mem_of_getElem? (i := 37) rfl)) rfl
theorem tw_1238 : Cond.code yX6_item prog_8_method_89_code 5 (some .int) ∈ ip_Ts := ip_in (ip_t6 (List.mem_of_getElem? (i := 38) rfl)) rfl
theorem tw_1239 : Cond.methodLink RL 170 yX6_shelf ∈ ip_Ts := ip_in (ip_t6 (List.mem_of_getElem? (i := 39) rfl)) rfl
theorem tw_1240 : Cond.instanceMethod yX6_shelf ∈ ip_Ts := ip_in (ip_t6 (List.mem_of_getElem? (i := 40) rfl)) rfl
theorem tw_1241 : Cond.selects RX6 yX6_shelf yX6_shelf ∈ ip_Ts := ip_in (ip_t6 (List.mem_of_getElem? (i := 41) rfl)) rfl
theorem tw_1242 : Cond.code yX6_shelf prog_8_method_91_code 4 (some .int) ∈ ip_Ts := ip_in (ip_t6 (List.mem_of_getElem? (i := 42) rfl)) rfl
theorem tw_1243 : Cond.methodLink RX6 293 yX6_isHeld ∈ ip_Ts := ip_in (ip_t6 (List.mem_of_getElem? (i := 43) rfl)) rfl
theorem tw_1245 : Cond.instanceMethod yX6_isHeld ∈ ip_Ts := ip_in (ip_t6 (List.mem_of_getElem? (i := 45) rfl)) rfl
theorem tw_1246 : Cond.code yX6_isHeld prog_8_method_90_code 3 (some .boolean) ∈ ip_Ts := ip_in (ip_t6 (List.mem_of_getElem? (i := 46) rfl)) rfl
theorem tw_1247 : Cond.methodLink RL 174 yX6_taken ∈ ip_Ts := ip_in (ip_t6 (List.mem_of_getElem? (i := 47) rfl)) rfl
theorem tw_1248 : Cond.instanceMethod yX6_taken ∈ ip_Ts := ip_in (ip_t6 (List.mem_of_getElem? (i := 48) rfl)) rfl
theorem tw_1249 : Cond.selects RX6 yX6_taken yX6_taken ∈ ip_Ts := ip_in (ip_t6 (List.mem_of_getElem? (i := 49) rfl)) rfl
theorem tw_1250 : Cond.code yX6_taken prog_8_method_94_code 4 (some .int) ∈ ip_Ts := ip_in (ip_t6 (List.mem_of_getElem? (i := 50) rfl)) rfl
theorem tw_1251 : Cond.methodLink RX6 296 yX6_kindOn ∈ ip_Ts := ip_in (ip_t6 (List.mem_of_getElem? (i := 51) rfl)) rfl
theorem tw_1253 : Cond.instanceMethod yX6_kindOn ∈ ip_Ts := ip_in (ip_t6 (List.mem_of_getElem? (i := 53) rfl)) rfl
theorem tw_1254 : Cond.code yX6_kindOn prog_8_method_92_code 2 (some .int) ∈ ip_Ts := ip_in (ip_t6 (List.mem_of_getElem? (i := 54) rfl)) rfl
theorem tw_1255 : Cond.methodLink RX6 299 yX6_isUnder ∈ ip_Ts := ip_in (ip_t6 (List.mem_of_getElem? (i := 55) rfl)) rfl
theorem tw_1256 : Cond.static yX6_isUnder ∈ ip_Ts := ip_in (ip_t6 (List.mem_of_getElem? (i := 56) rfl)) rfl
theorem tw_1257 : Cond.code yX6_isUnder prog_8_method_93_code 2 (some .boolean) ∈ ip_Ts := ip_in (ip_t6 (List.mem_of_getElem? (i := 57) rfl)) rfl
theorem tw_1258 : Cond.methodLink RL 178 yX6_act ∈ ip_Ts := ip_in (ip_t6 (List.mem_of_getElem? (i := 58) rfl)) rfl
theorem tw_1259 : Cond.instanceMethod yX6_act ∈ ip_Ts := ip_in (ip_t6 (List.mem_of_getElem? (i := 59) rfl)) rfl
theorem tw_1260 : Cond.selects RX6 yX6_act yX6_act ∈ ip_Ts := ip_in (ip_t6 (List.mem_of_getElem? (i := 60) rfl)) rfl
theorem tw_1261 : Cond.code yX6_act prog_8_method_105_code 6 (some .int) ∈ ip_Ts := ip_in (ip_t6 (List.mem_of_getElem? (i := 61) rfl)) rfl
theorem tw_1262 : Cond.methodLink RX6 320 yX6_leansIt ∈ ip_Ts := ip_in (ip_t6 (List.mem_of_getElem? (i := 62) rfl)) rfl
theorem tw_1264 : Cond.instanceMethod yX6_leansIt ∈ ip_Ts := ip_in (ip_t6 (List.mem_of_getElem? (i := 64) rfl)) rfl
theorem tw_1265 : Cond.code yX6_leansIt prog_8_method_98_code 2 (some .int) ∈ ip_Ts := ip_in (ip_t6 (List.mem_of_getElem? (i := 65) rfl)) rfl
theorem tw_1266 : Cond.methodLink RX6 317 yX6_childLeans ∈ ip_Ts := ip_in (ip_t6 (List.mem_of_getElem? (i := 66) rfl)) rfl
theorem tw_1268 : Cond.instanceMethod yX6_childLeans ∈ ip_Ts := ip_in (ip_t6 (List.mem_of_getElem? (i := 68) rfl)) rfl
theorem tw_1269 : Cond.code yX6_childLeans prog_8_method_97_code 2 (some .int) ∈ ip_Ts := ip_in (ip_t6 (List.mem_of_getElem? (i := 69) rfl)) rfl
theorem tw_1270 : Cond.methodLink RX6 305 yX6_ran ∈ ip_Ts := ip_in (ip_t6 (List.mem_of_getElem? (i := 70) rfl)) rfl
theorem tw_1272 : Cond.instanceMethod yX6_ran ∈ ip_Ts := ip_in (ip_t6 (List.mem_of_getElem? (i := 72) rfl)) rfl
theorem tw_1273 : Cond.code yX6_ran prog_8_method_95_code 2 none ∈ ip_Ts := ip_in (ip_t6 (List.mem_of_getElem? (i := 73) rfl)) rfl
theorem tw_1274 : Cond.methodLink RX6 311 yX6_plainLeans ∈ ip_Ts := ip_in (ip_t6 (List.mem_of_getElem? (i := 74) rfl)) rfl
theorem tw_1276 : Cond.instanceMethod yX6_plainLeans ∈ ip_Ts := ip_in (ip_t6 (List.mem_of_getElem? (i := 76) rfl)) rfl
theorem tw_1277 : Cond.code yX6_plainLeans prog_8_method_96_code 2 (some .int) ∈ ip_Ts := ip_in (ip_t6 (List.mem_of_getElem? (i := 77) rfl)) rfl
theorem tw_1278 : Cond.methodLink RX6 335 yX6_swaysIt ∈ ip_Ts := ip_in (ip_t6 (List.mem_of_getElem? (i := 78) rfl)) rfl
theorem tw_1280 : Cond.instanceMethod yX6_swaysIt ∈ ip_Ts := ip_in (ip_t6 (List.mem_of_getElem? (i := 80) rfl)) rfl
theorem tw_1281 : Cond.code yX6_swaysIt prog_8_method_100_code 3 (some .int) ∈ ip_Ts := ip_in (ip_t6 (List.mem_of_getElem? (i := 81) rfl)) rfl
theorem tw_1282 : Cond.methodLink RX6 326 yX6_plainSways ∈ ip_Ts := ip_in (ip_t6 (List.mem_of_getElem? (i := 82) rfl)) rfl
theorem tw_1284 : Cond.instanceMethod yX6_plainSways ∈ ip_Ts := ip_in (ip_t6 (List.mem_of_getElem? (i := 84) rfl)) rfl
theorem tw_1285 : Cond.code yX6_plainSways prog_8_method_99_code 2 (some .int) ∈ ip_Ts := ip_in (ip_t6 (List.mem_of_getElem? (i := 85) rfl)) rfl
theorem tw_1286 : Cond.methodLink RX6 341 yX6_partsIt ∈ ip_Ts := ip_in (ip_t6 (List.mem_of_getElem? (i := 86) rfl)) rfl
theorem tw_1288 : Cond.instanceMethod yX6_partsIt ∈ ip_Ts := ip_in (ip_t6 (List.mem_of_getElem? (i := 88) rfl)) rfl
theorem tw_1289 : Cond.code yX6_partsIt prog_8_method_102_code 3 (some .int) ∈ ip_Ts := ip_in (ip_t6 (List.mem_of_getElem? (i := 89) rfl)) rfl
theorem tw_1290 : Cond.methodLink RX6 332 yX6_plainParts ∈ ip_Ts := ip_in (ip_t6 (List.mem_of_getElem? (i := 90) rfl)) rfl
theorem tw_1292 : Cond.instanceMethod yX6_plainParts ∈ ip_Ts := ip_in (ip_t6 (List.mem_of_getElem? (i := 92) rfl)) rfl
theorem tw_1293 : Cond.code yX6_plainParts prog_8_method_101_code 2 (some .int) ∈ ip_Ts := ip_in (ip_t6 (List.mem_of_getElem? (i := 93) rfl)) rfl
theorem tw_1294 : Cond.methodLink RX6 344 yX6_treadsIt ∈ ip_Ts := ip_in (ip_t6 (List.mem_of_getElem? (i := 94) rfl)) rfl
theorem tw_1296 : Cond.instanceMethod yX6_treadsIt ∈ ip_Ts := ip_in (ip_t6 (List.mem_of_getElem? (i := 96) rfl)) rfl
theorem tw_1297 : Cond.code yX6_treadsIt prog_8_method_104_code 3 (some .int) ∈ ip_Ts := ip_in (ip_t6 (List.mem_of_getElem? (i := 97) rfl)) rfl
theorem tw_1298 : Cond.methodLink RX6 338 yX6_plainTreads ∈ ip_Ts := ip_in (ip_t6 (List.mem_of_getElem? (i := 98) rfl)) rfl
theorem tw_1300 : Cond.instanceMethod yX6_plainTreads ∈ ip_Ts := ip_in (ip_t6 (List.mem_of_getElem? (i := 100) rfl)) rfl
theorem tw_1301 : Cond.code yX6_plainTreads prog_8_method_103_code 2 (some .int) ∈ ip_Ts := ip_in (ip_t6 (List.mem_of_getElem? (i := 101) rfl)) rfl
theorem tw_1302 : Cond.methodLink RL 182 yX6_trace ∈ ip_Ts := ip_in (ip_t6 (List.mem_of_getElem? (i := 102) rfl)) rfl
theorem tw_1303 : Cond.instanceMethod yX6_trace ∈ ip_Ts := ip_in (ip_t6 (List.mem_of_getElem? (i := 103) rfl)) rfl
theorem tw_1304 : Cond.selects RX6 yX6_trace yX6_trace ∈ ip_Ts := ip_in (ip_t6 (List.mem_of_getElem? (i := 104) rfl)) rfl
theorem tw_1305 : Cond.code yX6_trace prog_8_method_106_code 2 (some .int) ∈ ip_Ts := ip_in (ip_t6 (List.mem_of_getElem? (i := 105) rfl)) rfl
theorem tw_1306 : Cond.methodLink RL 186 yX6_many ∈ ip_Ts := ip_in (ip_t6 (List.mem_of_getElem? (i := 106) rfl)) rfl
theorem tw_1307 : Cond.instanceMethod yX6_many ∈ ip_Ts := ip_in (ip_t6 (List.mem_of_getElem? (i := 107) rfl)) rfl
theorem tw_1308 : Cond.selects RX6 yX6_many yX6_many ∈ ip_Ts := ip_in (ip_t6 (List.mem_of_getElem? (i := 108) rfl)) rfl
theorem tw_1309 : Cond.code yX6_many prog_8_method_107_code 2 (some .int) ∈ ip_Ts := ip_in (ip_t6 (List.mem_of_getElem? (i := 109) rfl)) rfl
theorem tw_1310 : Cond.methodLink RL 190 yX6_keep ∈ ip_Ts := ip_in (ip_t6 (List.mem_of_getElem? (i := 110) rfl)) rfl
theorem tw_1311 : Cond.instanceMethod yX6_keep ∈ ip_Ts := ip_in (ip_t6 (List.mem_of_getElem? (i := 111) rfl)) rfl
theorem tw_1312 : Cond.selects RX6 yX6_keep yX6_keep ∈ ip_Ts := ip_in (ip_t6 (List.mem_of_getElem? (i := 112) rfl)) rfl
theorem tw_1313 : Cond.code yX6_keep prog_8_method_108_code 1 (some .int) ∈ ip_Ts := ip_in (ip_t6 (List.mem_of_getElem? (i := 113) rfl)) rfl
theorem tw_1314 : Cond.methodLink RL 194 yX6_again ∈ ip_Ts := ip_in (ip_t6 (List.mem_of_getElem? (i := 114) rfl)) rfl
theorem tw_1315 : Cond.instanceMethod yX6_again ∈ ip_Ts := ip_in (ip_t6 (List.mem_of_getElem? (i := 115) rfl)) rfl
theorem tw_1316 : Cond.selects RX6 yX6_again yX6_again ∈ ip_Ts := ip_in (ip_t6 (List.mem_of_getElem? (i := 116) rfl)) rfl
theorem tw_1317 : Cond.code yX6_again prog_8_method_109_code 1 (some .int) ∈ ip_Ts := ip_in (ip_t6 (List.mem_of_getElem? (i := 117) rfl)) rfl
theorem tw_1318 : Cond.constantLong RL 13 (4294967295) ∈ ip_Ts := ip_in (ip_t6 (List.mem_of_getElem? (i := 118) rfl)) rfl
theorem tw_1319 : Cond.fieldLink RJ0 9 RJ0 "value" "[B" ∈ ip_Ts := ip_in (ip_t6 (List.mem_of_getElem? (i := 119) rfl)) rfl
theorem tw_1320 : Cond.fieldLink RJ0 15 RJ0 "coder" "B" ∈ ip_Ts := ip_in (ip_t6 (List.mem_of_getElem? (i := 120) rfl)) rfl
theorem iw_X0 : ∀ w ∈ u_ws RX0 TX0 6, w ∈ ip_Ts := List.forall_mem_cons.mpr ⟨tw_183, List.forall_mem_cons.mpr ⟨tw_185, List.forall_mem_cons.mpr ⟨tw_187, List.forall_mem_cons.mpr ⟨tw_189, List.forall_mem_cons.mpr ⟨tw_191, List.forall_mem_cons.mpr ⟨tw_193, fun _ h => absurd h List.not_mem_nil⟩⟩⟩⟩⟩⟩
theorem iw_X1 : ∀ w ∈ u_ws RX1 TX1 11, w ∈ ip_Ts := List.forall_mem_cons.mpr ⟨tw_73, List.forall_mem_cons.mpr ⟨tw_75, List.forall_mem_cons.mpr ⟨tw_77, List.forall_mem_cons.mpr ⟨tw_79, List.forall_mem_cons.mpr ⟨tw_81, List.forall_mem_cons.mpr ⟨tw_83, List.forall_mem_cons.mpr ⟨tw_85, List.forall_mem_cons.mpr ⟨tw_87, List.forall_mem_cons.mpr ⟨tw_89, List.forall_mem_cons.mpr ⟨tw_91, List.forall_mem_cons.mpr ⟨tw_93, fun _ h => absurd h List.not_mem_nil⟩⟩⟩⟩⟩⟩⟩⟩⟩⟩⟩
theorem iw_X2 : ∀ w ∈ u_ws RX2 TX2 2, w ∈ ip_Ts := List.forall_mem_cons.mpr ⟨tw_702, List.forall_mem_cons.mpr ⟨tw_704, fun _ h => absurd h List.not_mem_nil⟩⟩
theorem iw_X3 : ∀ w ∈ u_ws RX3 TX3 6, w ∈ ip_Ts := List.forall_mem_cons.mpr ⟨tw_155, List.forall_mem_cons.mpr ⟨tw_157, List.forall_mem_cons.mpr ⟨tw_159, List.forall_mem_cons.mpr ⟨tw_161, List.forall_mem_cons.mpr ⟨tw_163, List.forall_mem_cons.mpr ⟨tw_165, fun _ h => absurd h List.not_mem_nil⟩⟩⟩⟩⟩⟩
theorem iw_X4 : ∀ w ∈ u_ws RX4 TX4 10, w ∈ ip_Ts := List.forall_mem_cons.mpr ⟨tw_121, List.forall_mem_cons.mpr ⟨tw_123, List.forall_mem_cons.mpr ⟨tw_125, List.forall_mem_cons.mpr ⟨tw_127, List.forall_mem_cons.mpr ⟨tw_129, List.forall_mem_cons.mpr ⟨tw_131, List.forall_mem_cons.mpr ⟨tw_133, List.forall_mem_cons.mpr ⟨tw_135, List.forall_mem_cons.mpr ⟨tw_137, List.forall_mem_cons.mpr ⟨tw_139, fun _ h => absurd h List.not_mem_nil⟩⟩⟩⟩⟩⟩⟩⟩⟩⟩
theorem iw_X5 : ∀ w ∈ u_ws RX5 TX5 12, w ∈ ip_Ts := List.forall_mem_cons.mpr ⟨tw_210, List.forall_mem_cons.mpr ⟨tw_212, List.forall_mem_cons.mpr ⟨tw_214, List.forall_mem_cons.mpr ⟨tw_216, List.forall_mem_cons.mpr ⟨tw_218, List.forall_mem_cons.mpr ⟨tw_220, List.forall_mem_cons.mpr ⟨tw_222, List.forall_mem_cons.mpr ⟨tw_224, List.forall_mem_cons.mpr ⟨tw_226, List.forall_mem_cons.mpr ⟨tw_228, List.forall_mem_cons.mpr ⟨tw_230, List.forall_mem_cons.mpr ⟨tw_232, fun _ h => absurd h List.not_mem_nil⟩⟩⟩⟩⟩⟩⟩⟩⟩⟩⟩⟩
theorem iw_X6 : ∀ w ∈ u_ws RX6 TX6 28, w ∈ ip_Ts := List.forall_mem_cons.mpr ⟨tw_823, List.forall_mem_cons.mpr ⟨tw_825, List.forall_mem_cons.mpr ⟨tw_827, List.forall_mem_cons.mpr ⟨tw_829, List.forall_mem_cons.mpr ⟨tw_831, List.forall_mem_cons.mpr ⟨tw_833, List.forall_mem_cons.mpr ⟨tw_835, List.forall_mem_cons.mpr ⟨tw_837, List.forall_mem_cons.mpr ⟨tw_839, List.forall_mem_cons.mpr ⟨tw_841, List.forall_mem_cons.mpr ⟨tw_843, List.forall_mem_cons.mpr ⟨tw_845, List.forall_mem_cons.mpr ⟨tw_847, List.forall_mem_cons.mpr ⟨tw_849, List.forall_mem_cons.mpr ⟨tw_851, List.forall_mem_cons.mpr ⟨tw_853, List.forall_mem_cons.mpr ⟨tw_855, List.forall_mem_cons.mpr ⟨tw_857, List.forall_mem_cons.mpr ⟨tw_859, List.forall_mem_cons.mpr ⟨tw_861, List.forall_mem_cons.mpr ⟨tw_863, List.forall_mem_cons.mpr ⟨tw_865, List.forall_mem_cons.mpr ⟨tw_867, List.forall_mem_cons.mpr ⟨tw_869, List.forall_mem_cons.mpr ⟨tw_871, List.forall_mem_cons.mpr ⟨tw_873, List.forall_mem_cons.mpr ⟨tw_875, List.forall_mem_cons.mpr ⟨tw_877, fun _ h => absurd h List.not_mem_nil⟩⟩⟩⟩⟩⟩⟩⟩⟩⟩⟩⟩⟩⟩⟩⟩⟩⟩⟩⟩⟩⟩⟩⟩⟩⟩⟩⟩
