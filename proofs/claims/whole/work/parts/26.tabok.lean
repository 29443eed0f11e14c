theorem oe_0 : plainName en_0.1.cls = true ∧ ∃ pcs, pcs 0 = 0 ∧ ip_MOk tb en_0 pcs := ⟨by decide +kernel, pc_X0_init, rfl, om_0⟩
theorem oe_1 : plainName en_1.1.cls = true ∧ ∃ pcs, pcs 0 = 0 ∧ ip_MOk tb en_1 pcs := ⟨by decide +kernel, pc_X0_forget, rfl, om_1⟩
theorem oe_2 : plainName en_2.1.cls = true ∧ ∃ pcs, pcs 0 = 0 ∧ ip_MOk tb en_2 pcs := ⟨by decide +kernel, pc_X0_perform, rfl, om_2⟩
theorem oe_3 : plainName en_3.1.cls = true ∧ ∃ pcs, pcs 0 = 0 ∧ ip_MOk tb en_3 pcs := ⟨by decide +kernel, pc_X0_ownBody, rfl, om_3⟩
theorem oe_4 : plainName en_4.1.cls = true ∧ ∃ pcs, pcs 0 = 0 ∧ ip_MOk tb en_4 pcs := ⟨by decide +kernel, pc_X0_begin, rfl, om_4⟩
theorem oe_5 : plainName en_5.1.cls = true ∧ ∃ pcs, pcs 0 = 0 ∧ ip_MOk tb en_5 pcs := ⟨by decide +kernel, pc_X0_run, rfl, om_5⟩
theorem oe_6 : plainName en_6.1.cls = true ∧ ∃ pcs, pcs 0 = 0 ∧ ip_MOk tb en_6 pcs := ⟨by decide +kernel, pc_X0_quotient, rfl, om_6⟩
theorem oe_7 : plainName en_7.1.cls = true ∧ ∃ pcs, pcs 0 = 0 ∧ ip_MOk tb en_7 pcs := ⟨by decide +kernel, pc_X1_init, rfl, om_7⟩
theorem oe_8 : plainName en_8.1.cls = true ∧ ∃ pcs, pcs 0 = 0 ∧ ip_MOk tb en_8 pcs := ⟨by decide +kernel, pc_X1_clear, rfl, om_8⟩
theorem oe_9 : plainName en_9.1.cls = true ∧ ∃ pcs, pcs 0 = 0 ∧ ip_MOk tb en_9 pcs := ⟨by decide +kernel, pc_X1_copy, rfl, om_9⟩
theorem oe_10 : plainName en_10.1.cls = true ∧ ∃ pcs, pcs 0 = 0 ∧ ip_MOk tb en_10 pcs := ⟨by decide +kernel, pc_X1_add, rfl, om_10⟩
theorem oe_11 : plainName en_11.1.cls = true ∧ ∃ pcs, pcs 0 = 0 ∧ ip_MOk tb en_11 pcs := ⟨by decide +kernel, pc_X1_saidBy, rfl, om_11⟩
theorem oe_12 : plainName en_12.1.cls = true ∧ ∃ pcs, pcs 0 = 0 ∧ ip_MOk tb en_12 pcs := ⟨by decide +kernel, pc_X1_rightOf, rfl, om_12⟩
theorem oe_13 : plainName en_13.1.cls = true ∧ ∃ pcs, pcs 0 = 0 ∧ ip_MOk tb en_13 pcs := ⟨by decide +kernel, pc_X1_tread, rfl, om_13⟩
theorem oe_14 : plainName en_14.1.cls = true ∧ ∃ pcs, pcs 0 = 0 ∧ ip_MOk tb en_14 pcs := ⟨by decide +kernel, pc_X1_draw, rfl, om_14⟩
theorem oe_15 : plainName en_15.1.cls = true ∧ ∃ pcs, pcs 0 = 0 ∧ ip_MOk tb en_15 pcs := ⟨by decide +kernel, pc_X1_treadByDraws, rfl, om_15⟩
theorem oe_16 : plainName en_16.1.cls = true ∧ ∃ pcs, pcs 0 = 0 ∧ ip_MOk tb en_16 pcs := ⟨by decide +kernel, pc_X1_across, rfl, om_16⟩
theorem oe_17 : plainName en_17.1.cls = true ∧ ∃ pcs, pcs 0 = 0 ∧ ip_MOk tb en_17 pcs := ⟨by decide +kernel, pc_X1_placesTogether, rfl, om_17⟩
theorem oe_18 : plainName en_18.1.cls = true ∧ ∃ pcs, pcs 0 = 0 ∧ ip_MOk tb en_18 pcs := ⟨by decide +kernel, pc_X1_held, rfl, om_18⟩
theorem oe_19 : plainName en_19.1.cls = true ∧ ∃ pcs, pcs 0 = 0 ∧ ip_MOk tb en_19 pcs := ⟨by decide +kernel, pc_X1_rowItem, rfl, om_19⟩
theorem oe_20 : plainName en_20.1.cls = true ∧ ∃ pcs, pcs 0 = 0 ∧ ip_MOk tb en_20 pcs := ⟨by decide +kernel, pc_X2_init, rfl, om_20⟩
theorem oe_21 : plainName en_21.1.cls = true ∧ ∃ pcs, pcs 0 = 0 ∧ ip_MOk tb en_21 pcs := ⟨by decide +kernel, pc_X2_narrowed, rfl, om_21⟩
theorem oe_22 : plainName en_22.1.cls = true ∧ ∃ pcs, pcs 0 = 0 ∧ ip_MOk tb en_22 pcs := ⟨by decide +kernel, pc_X3_init, rfl, om_22⟩
theorem oe_23 : plainName en_23.1.cls = true ∧ ∃ pcs, pcs 0 = 0 ∧ ip_MOk tb en_23 pcs := ⟨by decide +kernel, pc_X3_append, rfl, om_23⟩
theorem oe_24 : plainName en_24.1.cls = true ∧ ∃ pcs, pcs 0 = 0 ∧ ip_MOk tb en_24 pcs := ⟨by decide +kernel, pc_X3_readInto, rfl, om_24⟩
theorem oe_25 : plainName en_25.1.cls = true ∧ ∃ pcs, pcs 0 = 0 ∧ ip_MOk tb en_25 pcs := ⟨by decide +kernel, pc_X3_readOne, rfl, om_25⟩
theorem oe_26 : plainName en_26.1.cls = true ∧ ∃ pcs, pcs 0 = 0 ∧ ip_MOk tb en_26 pcs := ⟨by decide +kernel, pc_X3_readWalker, rfl, om_26⟩
theorem oe_27 : plainName en_27.1.cls = true ∧ ∃ pcs, pcs 0 = 0 ∧ ip_MOk tb en_27 pcs := ⟨by decide +kernel, pc_X3_readOption, rfl, om_27⟩
theorem oe_28 : plainName en_28.1.cls = true ∧ ∃ pcs, pcs 0 = 0 ∧ ip_MOk tb en_28 pcs := ⟨by decide +kernel, pc_X3_readNumber, rfl, om_28⟩
theorem oe_29 : plainName en_29.1.cls = true ∧ ∃ pcs, pcs 0 = 0 ∧ ip_MOk tb en_29 pcs := ⟨by decide +kernel, pc_X3_readClose, rfl, om_29⟩
theorem oe_30 : plainName en_30.1.cls = true ∧ ∃ pcs, pcs 0 = 0 ∧ ip_MOk tb en_30 pcs := ⟨by decide +kernel, pc_X3_fail, rfl, om_30⟩
theorem oe_31 : plainName en_31.1.cls = true ∧ ∃ pcs, pcs 0 = 0 ∧ ip_MOk tb en_31 pcs := ⟨by decide +kernel, pc_X3_advance, rfl, om_31⟩
theorem oe_32 : plainName en_32.1.cls = true ∧ ∃ pcs, pcs 0 = 0 ∧ ip_MOk tb en_32 pcs := ⟨by decide +kernel, pc_X3_isLetter, rfl, om_32⟩
theorem oe_33 : plainName en_33.1.cls = true ∧ ∃ pcs, pcs 0 = 0 ∧ ip_MOk tb en_33 pcs := ⟨by decide +kernel, pc_X3_isDigit, rfl, om_33⟩
theorem oe_34 : plainName en_34.1.cls = true ∧ ∃ pcs, pcs 0 = 0 ∧ ip_MOk tb en_34 pcs := ⟨by decide +kernel, pc_X3_tokenNumber, rfl, om_34⟩
theorem oe_35 : plainName en_35.1.cls = true ∧ ∃ pcs, pcs 0 = 0 ∧ ip_MOk tb en_35 pcs := ⟨by decide +kernel, pc_X3_isNamed, rfl, om_35⟩
theorem oe_36 : plainName en_36.1.cls = true ∧ ∃ pcs, pcs 0 = 0 ∧ ip_MOk tb en_36 pcs := ⟨by decide +kernel, pc_X3_kindNamed, rfl, om_36⟩
theorem oe_37 : plainName en_37.1.cls = true ∧ ∃ pcs, pcs 0 = 0 ∧ ip_MOk tb en_37 pcs := ⟨by decide +kernel, pc_X3_lawNamed, rfl, om_37⟩
theorem oe_38 : plainName en_38.1.cls = true ∧ ∃ pcs, pcs 0 = 0 ∧ ip_MOk tb en_38 pcs := ⟨by decide +kernel, pc_X4_init, rfl, om_38⟩
theorem oe_39 : plainName en_39.1.cls = true ∧ ∃ pcs, pcs 0 = 0 ∧ ip_MOk tb en_39 pcs := ⟨by decide +kernel, pc_X4_begin, rfl, om_39⟩
theorem oe_40 : plainName en_40.1.cls = true ∧ ∃ pcs, pcs 0 = 0 ∧ ip_MOk tb en_40 pcs := ⟨by decide +kernel, pc_X4_hear, rfl, om_40⟩
theorem oe_41 : plainName en_41.1.cls = true ∧ ∃ pcs, pcs 0 = 0 ∧ ip_MOk tb en_41 pcs := ⟨by decide +kernel, pc_X4_isAcross, rfl, om_41⟩
theorem oe_42 : plainName en_42.1.cls = true ∧ ∃ pcs, pcs 0 = 0 ∧ ip_MOk tb en_42 pcs := ⟨by decide +kernel, pc_X4_isAtRest, rfl, om_42⟩
theorem oe_43 : plainName en_43.1.cls = true ∧ ∃ pcs, pcs 0 = 0 ∧ ip_MOk tb en_43 pcs := ⟨by decide +kernel, pc_X4_bears, rfl, om_43⟩
theorem oe_44 : plainName en_44.1.cls = true ∧ ∃ pcs, pcs 0 = 0 ∧ ip_MOk tb en_44 pcs := ⟨by decide +kernel, pc_X4_bearsAsWalker, rfl, om_44⟩
theorem oe_45 : plainName en_45.1.cls = true ∧ ∃ pcs, pcs 0 = 0 ∧ ip_MOk tb en_45 pcs := ⟨by decide +kernel, pc_X4_bearsAsClown, rfl, om_45⟩
theorem oe_46 : plainName en_46.1.cls = true ∧ ∃ pcs, pcs 0 = 0 ∧ ip_MOk tb en_46 pcs := ⟨by decide +kernel, pc_X4_bearsAsChild, rfl, om_46⟩
theorem oe_47 : plainName en_47.1.cls = true ∧ ∃ pcs, pcs 0 = 0 ∧ ip_MOk tb en_47 pcs := ⟨by decide +kernel, pc_X4_strides, rfl, om_47⟩
theorem oe_48 : plainName en_48.1.cls = true ∧ ∃ pcs, pcs 0 = 0 ∧ ip_MOk tb en_48 pcs := ⟨by decide +kernel, pc_X4_tread, rfl, om_48⟩
theorem oe_49 : plainName en_49.1.cls = true ∧ ∃ pcs, pcs 0 = 0 ∧ ip_MOk tb en_49 pcs := ⟨by decide +kernel, pc_X4_go, rfl, om_49⟩
theorem oe_50 : plainName en_50.1.cls = true ∧ ∃ pcs, pcs 0 = 0 ∧ ip_MOk tb en_50 pcs := ⟨by decide +kernel, pc_X4_goesAs, rfl, om_50⟩
theorem oe_51 : plainName en_51.1.cls = true ∧ ∃ pcs, pcs 0 = 0 ∧ ip_MOk tb en_51 pcs := ⟨by decide +kernel, pc_X5_init, rfl, om_51⟩
theorem oe_52 : plainName en_52.1.cls = true ∧ ∃ pcs, pcs 0 = 0 ∧ ip_MOk tb en_52 pcs := ⟨by decide +kernel, pc_X5_feed, rfl, om_52⟩
theorem oe_53 : plainName en_53.1.cls = true ∧ ∃ pcs, pcs 0 = 0 ∧ ip_MOk tb en_53 pcs := ⟨by decide +kernel, pc_X5_circus, rfl, om_53⟩
theorem oe_54 : plainName en_54.1.cls = true ∧ ∃ pcs, pcs 0 = 0 ∧ ip_MOk tb en_54 pcs := ⟨by decide +kernel, pc_X5_set, rfl, om_54⟩
theorem oe_55 : plainName en_55.1.cls = true ∧ ∃ pcs, pcs 0 = 0 ∧ ip_MOk tb en_55 pcs := ⟨by decide +kernel, pc_X5_lawOf, rfl, om_55⟩
theorem oe_56 : plainName en_56.1.cls = true ∧ ∃ pcs, pcs 0 = 0 ∧ ip_MOk tb en_56 pcs := ⟨by decide +kernel, pc_X5_fact, rfl, om_56⟩
theorem oe_57 : plainName en_57.1.cls = true ∧ ∃ pcs, pcs 0 = 0 ∧ ip_MOk tb en_57 pcs := ⟨by decide +kernel, pc_X5_walker, rfl, om_57⟩
theorem oe_58 : plainName en_58.1.cls = true ∧ ∃ pcs, pcs 0 = 0 ∧ ip_MOk tb en_58 pcs := ⟨by decide +kernel, pc_X5_of, rfl, om_58⟩
theorem oe_59 : plainName en_59.1.cls = true ∧ ∃ pcs, pcs 0 = 0 ∧ ip_MOk tb en_59 pcs := ⟨by decide +kernel, pc_X5_does, rfl, om_59⟩
theorem oe_60 : plainName en_60.1.cls = true ∧ ∃ pcs, pcs 0 = 0 ∧ ip_MOk tb en_60 pcs := ⟨by decide +kernel, pc_X5_mind, rfl, om_60⟩
theorem oe_61 : plainName en_61.1.cls = true ∧ ∃ pcs, pcs 0 = 0 ∧ ip_MOk tb en_61 pcs := ⟨by decide +kernel, pc_X5_say, rfl, om_61⟩
theorem oe_62 : plainName en_62.1.cls = true ∧ ∃ pcs, pcs 0 = 0 ∧ ip_MOk tb en_62 pcs := ⟨by decide +kernel, pc_X5_stand, rfl, om_62⟩
theorem oe_63 : plainName en_63.1.cls = true ∧ ∃ pcs, pcs 0 = 0 ∧ ip_MOk tb en_63 pcs := ⟨by decide +kernel, pc_X5_steps, rfl, om_63⟩
theorem oe_64 : plainName en_64.1.cls = true ∧ ∃ pcs, pcs 0 = 0 ∧ ip_MOk tb en_64 pcs := ⟨by decide +kernel, pc_X5_seed, rfl, om_64⟩
theorem oe_65 : plainName en_65.1.cls = true ∧ ∃ pcs, pcs 0 = 0 ∧ ip_MOk tb en_65 pcs := ⟨by decide +kernel, pc_X5_step, rfl, om_65⟩
theorem oe_66 : plainName en_66.1.cls = true ∧ ∃ pcs, pcs 0 = 0 ∧ ip_MOk tb en_66 pcs := ⟨by decide +kernel, pc_X5_luck, rfl, om_66⟩
theorem oe_67 : plainName en_67.1.cls = true ∧ ∃ pcs, pcs 0 = 0 ∧ ip_MOk tb en_67 pcs := ⟨by decide +kernel, pc_X5_state, rfl, om_67⟩
theorem oe_68 : plainName en_68.1.cls = true ∧ ∃ pcs, pcs 0 = 0 ∧ ip_MOk tb en_68 pcs := ⟨by decide +kernel, pc_X5_reaches, rfl, om_68⟩
theorem oe_69 : plainName en_69.1.cls = true ∧ ∃ pcs, pcs 0 = 0 ∧ ip_MOk tb en_69 pcs := ⟨by decide +kernel, pc_X5_over, rfl, om_69⟩
theorem oe_70 : plainName en_70.1.cls = true ∧ ∃ pcs, pcs 0 = 0 ∧ ip_MOk tb en_70 pcs := ⟨by decide +kernel, pc_X5_falls, rfl, om_70⟩
theorem oe_71 : plainName en_71.1.cls = true ∧ ∃ pcs, pcs 0 = 0 ∧ ip_MOk tb en_71 pcs := ⟨by decide +kernel, pc_X5_end, rfl, om_71⟩
theorem oe_72 : plainName en_72.1.cls = true ∧ ∃ pcs, pcs 0 = 0 ∧ ip_MOk tb en_72 pcs := ⟨by decide +kernel, pc_X5_sayFor, rfl, om_72⟩
theorem oe_73 : plainName en_73.1.cls = true ∧ ∃ pcs, pcs 0 = 0 ∧ ip_MOk tb en_73 pcs := ⟨by decide +kernel, pc_X5_kindFor, rfl, om_73⟩
theorem oe_74 : plainName en_74.1.cls = true ∧ ∃ pcs, pcs 0 = 0 ∧ ip_MOk tb en_74 pcs := ⟨by decide +kernel, pc_X5_turnedFor, rfl, om_74⟩
theorem oe_75 : plainName en_75.1.cls = true ∧ ∃ pcs, pcs 0 = 0 ∧ ip_MOk tb en_75 pcs := ⟨by decide +kernel, pc_X5_loadFor, rfl, om_75⟩
theorem oe_76 : plainName en_76.1.cls = true ∧ ∃ pcs, pcs 0 = 0 ∧ ip_MOk tb en_76 pcs := ⟨by decide +kernel, pc_X5_both, rfl, om_76⟩
theorem oe_77 : plainName en_77.1.cls = true ∧ ∃ pcs, pcs 0 = 0 ∧ ip_MOk tb en_77 pcs := ⟨by decide +kernel, pc_X5_fits, rfl, om_77⟩
theorem oe_78 : plainName en_78.1.cls = true ∧ ∃ pcs, pcs 0 = 0 ∧ ip_MOk tb en_78 pcs := ⟨by decide +kernel, pc_X5_odds, rfl, om_78⟩
theorem oe_79 : plainName en_79.1.cls = true ∧ ∃ pcs, pcs 0 = 0 ∧ ip_MOk tb en_79 pcs := ⟨by decide +kernel, pc_X5_hope, rfl, om_79⟩
theorem oe_80 : plainName en_80.1.cls = true ∧ ∃ pcs, pcs 0 = 0 ∧ ip_MOk tb en_80 pcs := ⟨by decide +kernel, pc_X5_prove, rfl, om_80⟩
theorem oe_81 : plainName en_81.1.cls = true ∧ ∃ pcs, pcs 0 = 0 ∧ ip_MOk tb en_81 pcs := ⟨by decide +kernel, pc_X5_row, rfl, om_81⟩
theorem oe_82 : plainName en_82.1.cls = true ∧ ∃ pcs, pcs 0 = 0 ∧ ip_MOk tb en_82 pcs := ⟨by decide +kernel, pc_X5_alterRow, rfl, om_82⟩
theorem oe_83 : plainName en_83.1.cls = true ∧ ∃ pcs, pcs 0 = 0 ∧ ip_MOk tb en_83 pcs := ⟨by decide +kernel, pc_X5_judge, rfl, om_83⟩
theorem oe_84 : plainName en_84.1.cls = true ∧ ∃ pcs, pcs 0 = 0 ∧ ip_MOk tb en_84 pcs := ⟨by decide +kernel, pc_X5_minds, rfl, om_84⟩
theorem oe_85 : plainName en_85.1.cls = true ∧ ∃ pcs, pcs 0 = 0 ∧ ip_MOk tb en_85 pcs := ⟨by decide +kernel, pc_X5_sheet, rfl, om_85⟩
theorem oe_86 : plainName en_86.1.cls = true ∧ ∃ pcs, pcs 0 = 0 ∧ ip_MOk tb en_86 pcs := ⟨by decide +kernel, pc_X5_put, rfl, om_86⟩
theorem oe_87 : plainName en_87.1.cls = true ∧ ∃ pcs, pcs 0 = 0 ∧ ip_MOk tb en_87 pcs := ⟨by decide +kernel, pc_X5_item, rfl, om_87⟩
theorem oe_88 : plainName en_88.1.cls = true ∧ ∃ pcs, pcs 0 = 0 ∧ ip_MOk tb en_88 pcs := ⟨by decide +kernel, pc_X5_shelf, rfl, om_88⟩
theorem oe_89 : plainName en_89.1.cls = true ∧ ∃ pcs, pcs 0 = 0 ∧ ip_MOk tb en_89 pcs := ⟨by decide +kernel, pc_X5_taken, rfl, om_89⟩
theorem oe_90 : plainName en_90.1.cls = true ∧ ∃ pcs, pcs 0 = 0 ∧ ip_MOk tb en_90 pcs := ⟨by decide +kernel, pc_X5_act, rfl, om_90⟩
theorem oe_91 : plainName en_91.1.cls = true ∧ ∃ pcs, pcs 0 = 0 ∧ ip_MOk tb en_91 pcs := ⟨by decide +kernel, pc_X5_trace, rfl, om_91⟩
theorem oe_92 : plainName en_92.1.cls = true ∧ ∃ pcs, pcs 0 = 0 ∧ ip_MOk tb en_92 pcs := ⟨by decide +kernel, pc_X5_many, rfl, om_92⟩
theorem oe_93 : plainName en_93.1.cls = true ∧ ∃ pcs, pcs 0 = 0 ∧ ip_MOk tb en_93 pcs := ⟨by decide +kernel, pc_X5_keep, rfl, om_93⟩
theorem oe_94 : plainName en_94.1.cls = true ∧ ∃ pcs, pcs 0 = 0 ∧ ip_MOk tb en_94 pcs := ⟨by decide +kernel, pc_X5_again, rfl, om_94⟩
theorem oe_95 : plainName en_95.1.cls = true ∧ ∃ pcs, pcs 0 = 0 ∧ ip_MOk tb en_95 pcs := ⟨by decide +kernel, pc_X5_within, rfl, om_95⟩
theorem oe_96 : plainName en_96.1.cls = true ∧ ∃ pcs, pcs 0 = 0 ∧ ip_MOk tb en_96 pcs := ⟨by decide +kernel, pc_X5_isKind, rfl, om_96⟩
theorem oe_97 : plainName en_97.1.cls = true ∧ ∃ pcs, pcs 0 = 0 ∧ ip_MOk tb en_97 pcs := ⟨by decide +kernel, pc_X5_isWeight, rfl, om_97⟩
theorem oe_98 : plainName en_98.1.cls = true ∧ ∃ pcs, pcs 0 = 0 ∧ ip_MOk tb en_98 pcs := ⟨by decide +kernel, pc_X5_isFactSet, rfl, om_98⟩
theorem oe_99 : plainName en_99.1.cls = true ∧ ∃ pcs, pcs 0 = 0 ∧ ip_MOk tb en_99 pcs := ⟨by decide +kernel, pc_X5_isSheet, rfl, om_99⟩
theorem oe_100 : plainName en_100.1.cls = true ∧ ∃ pcs, pcs 0 = 0 ∧ ip_MOk tb en_100 pcs := ⟨by decide +kernel, pc_X5_isSort, rfl, om_100⟩
theorem oe_101 : plainName en_101.1.cls = true ∧ ∃ pcs, pcs 0 = 0 ∧ ip_MOk tb en_101 pcs := ⟨by decide +kernel, pc_X5_isShelf, rfl, om_101⟩
theorem oe_102 : plainName en_102.1.cls = true ∧ ∃ pcs, pcs 0 = 0 ∧ ip_MOk tb en_102 pcs := ⟨by decide +kernel, pc_X5_isWalker, rfl, om_102⟩
theorem oe_103 : plainName en_103.1.cls = true ∧ ∃ pcs, pcs 0 = 0 ∧ ip_MOk tb en_103 pcs := ⟨by decide +kernel, pc_X5_isRowItem, rfl, om_103⟩
theorem oe_104 : plainName en_104.1.cls = true ∧ ∃ pcs, pcs 0 = 0 ∧ ip_MOk tb en_104 pcs := ⟨by decide +kernel, pc_X5_hasBit, rfl, om_104⟩
theorem oe_105 : plainName en_105.1.cls = true ∧ ∃ pcs, pcs 0 = 0 ∧ ip_MOk tb en_105 pcs := ⟨by decide +kernel, pc_X5_withBit, rfl, om_105⟩
theorem oe_106 : plainName en_106.1.cls = true ∧ ∃ pcs, pcs 0 = 0 ∧ ip_MOk tb en_106 pcs := ⟨by decide +kernel, pc_X5_isUnder, rfl, om_106⟩
theorem oe_107 : plainName en_107.1.cls = true ∧ ∃ pcs, pcs 0 = 0 ∧ ip_MOk tb en_107 pcs := ⟨by decide +kernel, pc_X5_putOnShelf, rfl, om_107⟩
theorem oe_108 : plainName en_108.1.cls = true ∧ ∃ pcs, pcs 0 = 0 ∧ ip_MOk tb en_108 pcs := ⟨by decide +kernel, pc_X5_stepsToRest, rfl, om_108⟩
theorem oe_109 : plainName en_109.1.cls = true ∧ ∃ pcs, pcs 0 = 0 ∧ ip_MOk tb en_109 pcs := ⟨by decide +kernel, pc_X5_rightsThatCross, rfl, om_109⟩
theorem oe_110 : plainName en_110.1.cls = true ∧ ∃ pcs, pcs 0 = 0 ∧ ip_MOk tb en_110 pcs := ⟨by decide +kernel, pc_X5_rightsAsTold, rfl, om_110⟩
theorem oe_111 : plainName en_111.1.cls = true ∧ ∃ pcs, pcs 0 = 0 ∧ ip_MOk tb en_111 pcs := ⟨by decide +kernel, pc_X5_leastSaying, rfl, om_111⟩
theorem oe_112 : plainName en_112.1.cls = true ∧ ∃ pcs, pcs 0 = 0 ∧ ip_MOk tb en_112 pcs := ⟨by decide +kernel, pc_X5_mayBeYes, rfl, om_112⟩
theorem oe_113 : plainName en_113.1.cls = true ∧ ∃ pcs, pcs 0 = 0 ∧ ip_MOk tb en_113 pcs := ⟨by decide +kernel, pc_X5_leastNo, rfl, om_113⟩
theorem oe_114 : plainName en_114.1.cls = true ∧ ∃ pcs, pcs 0 = 0 ∧ ip_MOk tb en_114 pcs := ⟨by decide +kernel, pc_X5_rightOf, rfl, om_114⟩
theorem oe_115 : plainName en_115.1.cls = true ∧ ∃ pcs, pcs 0 = 0 ∧ ip_MOk tb en_115 pcs := ⟨by decide +kernel, pc_X5_choices, rfl, om_115⟩
theorem oe_116 : plainName en_116.1.cls = true ∧ ∃ pcs, pcs 0 = 0 ∧ ip_MOk tb en_116 pcs := ⟨by decide +kernel, pc_X5_partOf, rfl, om_116⟩
theorem oe_117 : plainName en_117.1.cls = true ∧ ∃ pcs, pcs 0 = 0 ∧ ip_MOk tb en_117 pcs := ⟨by decide +kernel, pc_X5_commonDivisor, rfl, om_117⟩
theorem oe_118 : plainName en_118.1.cls = true ∧ ∃ pcs, pcs 0 = 0 ∧ ip_MOk tb en_118 pcs := ⟨by decide +kernel, pc_X6_init, rfl, om_118⟩
theorem oe_119 : plainName en_119.1.cls = true ∧ ∃ pcs, pcs 0 = 0 ∧ ip_MOk tb en_119 pcs := ⟨by decide +kernel, pc_X6_begins, rfl, om_119⟩
theorem oe_120 : plainName en_120.1.cls = true ∧ ∃ pcs, pcs 0 = 0 ∧ ip_MOk tb en_120 pcs := ⟨by decide +kernel, pc_X6_in, rfl, om_120⟩
theorem oe_121 : plainName en_121.1.cls = true ∧ ∃ pcs, pcs 0 = 0 ∧ ip_MOk tb en_121 pcs := ⟨by decide +kernel, pc_X6_held, rfl, om_121⟩
theorem oe_122 : plainName en_122.1.cls = true ∧ ∃ pcs, pcs 0 = 0 ∧ ip_MOk tb en_122 pcs := ⟨by decide +kernel, pc_X6_moveAll, rfl, om_122⟩
theorem oe_123 : plainName en_123.1.cls = true ∧ ∃ pcs, pcs 0 = 0 ∧ ip_MOk tb en_123 pcs := ⟨by decide +kernel, pc_X6_isOne, rfl, om_123⟩
theorem oe_124 : plainName en_124.1.cls = true ∧ ∃ pcs, pcs 0 = 0 ∧ ip_MOk tb en_124 pcs := ⟨by decide +kernel, pc_X6_its, rfl, om_124⟩
theorem oe_125 : plainName en_125.1.cls = true ∧ ∃ pcs, pcs 0 = 0 ∧ ip_MOk tb en_125 pcs := ⟨by decide +kernel, pc_X6_sets, rfl, om_125⟩
theorem oe_126 : plainName en_126.1.cls = true ∧ ∃ pcs, pcs 0 = 0 ∧ ip_MOk tb en_126 pcs := ⟨by decide +kernel, pc_X6_becomes, rfl, om_126⟩
theorem oe_127 : plainName en_127.1.cls = true ∧ ∃ pcs, pcs 0 = 0 ∧ ip_MOk tb en_127 pcs := ⟨by decide +kernel, pc_X6_ones, rfl, om_127⟩
theorem oe_128 : plainName en_128.1.cls = true ∧ ∃ pcs, pcs 0 = 0 ∧ ip_MOk tb en_128 pcs := ⟨by decide +kernel, pc_X6_feed, rfl, om_128⟩
theorem oe_129 : plainName en_129.1.cls = true ∧ ∃ pcs, pcs 0 = 0 ∧ ip_MOk tb en_129 pcs := ⟨by decide +kernel, pc_X6_byteAt, rfl, om_129⟩
theorem oe_130 : plainName en_130.1.cls = true ∧ ∃ pcs, pcs 0 = 0 ∧ ip_MOk tb en_130 pcs := ⟨by decide +kernel, pc_X6_isLetter, rfl, om_130⟩
theorem oe_131 : plainName en_131.1.cls = true ∧ ∃ pcs, pcs 0 = 0 ∧ ip_MOk tb en_131 pcs := ⟨by decide +kernel, pc_X6_isDigit, rfl, om_131⟩
theorem oe_132 : plainName en_132.1.cls = true ∧ ∃ pcs, pcs 0 = 0 ∧ ip_MOk tb en_132 pcs := ⟨by decide +kernel, pc_X6_advance, rfl, om_132⟩
theorem oe_133 : plainName en_133.1.cls = true ∧ ∃ pcs, pcs 0 = 0 ∧ ip_MOk tb en_133 pcs := ⟨by decide +kernel, pc_X6_isWord, rfl, om_133⟩
theorem oe_134 : plainName en_134.1.cls = true ∧ ∃ pcs, pcs 0 = 0 ∧ ip_MOk tb en_134 pcs := ⟨by decide +kernel, pc_X6_isMark, rfl, om_134⟩
theorem oe_135 : plainName en_135.1.cls = true ∧ ∃ pcs, pcs 0 = 0 ∧ ip_MOk tb en_135 pcs := ⟨by decide +kernel, pc_X6_kindHere, rfl, om_135⟩
theorem oe_136 : plainName en_136.1.cls = true ∧ ∃ pcs, pcs 0 = 0 ∧ ip_MOk tb en_136 pcs := ⟨by decide +kernel, pc_X6_lawHere, rfl, om_136⟩
theorem oe_137 : plainName en_137.1.cls = true ∧ ∃ pcs, pcs 0 = 0 ∧ ip_MOk tb en_137 pcs := ⟨by decide +kernel, pc_X6_wantNumber, rfl, om_137⟩
theorem oe_138 : plainName en_138.1.cls = true ∧ ∃ pcs, pcs 0 = 0 ∧ ip_MOk tb en_138 pcs := ⟨by decide +kernel, pc_X6_wantEnd, rfl, om_138⟩
theorem oe_139 : plainName en_139.1.cls = true ∧ ∃ pcs, pcs 0 = 0 ∧ ip_MOk tb en_139 pcs := ⟨by decide +kernel, pc_X6_mayWant, rfl, om_139⟩
theorem oe_140 : plainName en_140.1.cls = true ∧ ∃ pcs, pcs 0 = 0 ∧ ip_MOk tb en_140 pcs := ⟨by decide +kernel, pc_X6_mayDeny, rfl, om_140⟩
theorem oe_141 : plainName en_141.1.cls = true ∧ ∃ pcs, pcs 0 = 0 ∧ ip_MOk tb en_141 pcs := ⟨by decide +kernel, pc_X6_wantOne, rfl, om_141⟩
theorem oe_142 : plainName en_142.1.cls = true ∧ ∃ pcs, pcs 0 = 0 ∧ ip_MOk tb en_142 pcs := ⟨by decide +kernel, pc_X6_wantClause, rfl, om_142⟩
theorem oe_143 : plainName en_143.1.cls = true ∧ ∃ pcs, pcs 0 = 0 ∧ ip_MOk tb en_143 pcs := ⟨by decide +kernel, pc_X6_circus, rfl, om_143⟩
theorem oe_144 : plainName en_144.1.cls = true ∧ ∃ pcs, pcs 0 = 0 ∧ ip_MOk tb en_144 pcs := ⟨by decide +kernel, pc_X6_mostOf, rfl, om_144⟩
theorem oe_145 : plainName en_145.1.cls = true ∧ ∃ pcs, pcs 0 = 0 ∧ ip_MOk tb en_145 pcs := ⟨by decide +kernel, pc_X6_set, rfl, om_145⟩
theorem oe_146 : plainName en_146.1.cls = true ∧ ∃ pcs, pcs 0 = 0 ∧ ip_MOk tb en_146 pcs := ⟨by decide +kernel, pc_X6_lawOf, rfl, om_146⟩
theorem oe_147 : plainName en_147.1.cls = true ∧ ∃ pcs, pcs 0 = 0 ∧ ip_MOk tb en_147 pcs := ⟨by decide +kernel, pc_X6_fact, rfl, om_147⟩
theorem oe_148 : plainName en_148.1.cls = true ∧ ∃ pcs, pcs 0 = 0 ∧ ip_MOk tb en_148 pcs := ⟨by decide +kernel, pc_X6_isKind, rfl, om_148⟩
theorem oe_149 : plainName en_149.1.cls = true ∧ ∃ pcs, pcs 0 = 0 ∧ ip_MOk tb en_149 pcs := ⟨by decide +kernel, pc_X6_walker, rfl, om_149⟩
theorem oe_150 : plainName en_150.1.cls = true ∧ ∃ pcs, pcs 0 = 0 ∧ ip_MOk tb en_150 pcs := ⟨by decide +kernel, pc_X6_of, rfl, om_150⟩
theorem oe_151 : plainName en_151.1.cls = true ∧ ∃ pcs, pcs 0 = 0 ∧ ip_MOk tb en_151 pcs := ⟨by decide +kernel, pc_X6_right, rfl, om_151⟩
theorem oe_152 : plainName en_152.1.cls = true ∧ ∃ pcs, pcs 0 = 0 ∧ ip_MOk tb en_152 pcs := ⟨by decide +kernel, pc_X6_said, rfl, om_152⟩
theorem oe_153 : plainName en_153.1.cls = true ∧ ∃ pcs, pcs 0 = 0 ∧ ip_MOk tb en_153 pcs := ⟨by decide +kernel, pc_X6_bears, rfl, om_153⟩
theorem oe_154 : plainName en_154.1.cls = true ∧ ∃ pcs, pcs 0 = 0 ∧ ip_MOk tb en_154 pcs := ⟨by decide +kernel, pc_X6_strides, rfl, om_154⟩
theorem oe_155 : plainName en_155.1.cls = true ∧ ∃ pcs, pcs 0 = 0 ∧ ip_MOk tb en_155 pcs := ⟨by decide +kernel, pc_X6_does, rfl, om_155⟩
theorem oe_156 : plainName en_156.1.cls = true ∧ ∃ pcs, pcs 0 = 0 ∧ ip_MOk tb en_156 pcs := ⟨by decide +kernel, pc_X6_mind, rfl, om_156⟩
theorem oe_157 : plainName en_157.1.cls = true ∧ ∃ pcs, pcs 0 = 0 ∧ ip_MOk tb en_157 pcs := ⟨by decide +kernel, pc_X6_say, rfl, om_157⟩
theorem oe_158 : plainName en_158.1.cls = true ∧ ∃ pcs, pcs 0 = 0 ∧ ip_MOk tb en_158 pcs := ⟨by decide +kernel, pc_X6_stand, rfl, om_158⟩
theorem oe_159 : plainName en_159.1.cls = true ∧ ∃ pcs, pcs 0 = 0 ∧ ip_MOk tb en_159 pcs := ⟨by decide +kernel, pc_X6_isAcross, rfl, om_159⟩
theorem oe_160 : plainName en_160.1.cls = true ∧ ∃ pcs, pcs 0 = 0 ∧ ip_MOk tb en_160 pcs := ⟨by decide +kernel, pc_X6_isDone, rfl, om_160⟩
theorem oe_161 : plainName en_161.1.cls = true ∧ ∃ pcs, pcs 0 = 0 ∧ ip_MOk tb en_161 pcs := ⟨by decide +kernel, pc_X6_goes, rfl, om_161⟩
theorem oe_162 : plainName en_162.1.cls = true ∧ ∃ pcs, pcs 0 = 0 ∧ ip_MOk tb en_162 pcs := ⟨by decide +kernel, pc_X6_stepGoes, rfl, om_162⟩
theorem oe_163 : plainName en_163.1.cls = true ∧ ∃ pcs, pcs 0 = 0 ∧ ip_MOk tb en_163 pcs := ⟨by decide +kernel, pc_X6_acrossSet, rfl, om_163⟩
theorem oe_164 : plainName en_164.1.cls = true ∧ ∃ pcs, pcs 0 = 0 ∧ ip_MOk tb en_164 pcs := ⟨by decide +kernel, pc_X6_fallenSet, rfl, om_164⟩
theorem oe_165 : plainName en_165.1.cls = true ∧ ∃ pcs, pcs 0 = 0 ∧ ip_MOk tb en_165 pcs := ⟨by decide +kernel, pc_X6_steps, rfl, om_165⟩
theorem oe_166 : plainName en_166.1.cls = true ∧ ∃ pcs, pcs 0 = 0 ∧ ip_MOk tb en_166 pcs := ⟨by decide +kernel, pc_X6_drawn, rfl, om_166⟩
theorem oe_167 : plainName en_167.1.cls = true ∧ ∃ pcs, pcs 0 = 0 ∧ ip_MOk tb en_167 pcs := ⟨by decide +kernel, pc_X6_seed, rfl, om_167⟩
theorem oe_168 : plainName en_168.1.cls = true ∧ ∃ pcs, pcs 0 = 0 ∧ ip_MOk tb en_168 pcs := ⟨by decide +kernel, pc_X6_stepByDraws, rfl, om_168⟩
theorem oe_169 : plainName en_169.1.cls = true ∧ ∃ pcs, pcs 0 = 0 ∧ ip_MOk tb en_169 pcs := ⟨by decide +kernel, pc_X6_step, rfl, om_169⟩
theorem oe_170 : plainName en_170.1.cls = true ∧ ∃ pcs, pcs 0 = 0 ∧ ip_MOk tb en_170 pcs := ⟨by decide +kernel, pc_X6_luck, rfl, om_170⟩
theorem oe_171 : plainName en_171.1.cls = true ∧ ∃ pcs, pcs 0 = 0 ∧ ip_MOk tb en_171 pcs := ⟨by decide +kernel, pc_X6_clash, rfl, om_171⟩
theorem oe_172 : plainName en_172.1.cls = true ∧ ∃ pcs, pcs 0 = 0 ∧ ip_MOk tb en_172 pcs := ⟨by decide +kernel, pc_X6_agreed, rfl, om_172⟩
theorem oe_173 : plainName en_173.1.cls = true ∧ ∃ pcs, pcs 0 = 0 ∧ ip_MOk tb en_173 pcs := ⟨by decide +kernel, pc_X6_isPeace, rfl, om_173⟩
theorem oe_174 : plainName en_174.1.cls = true ∧ ∃ pcs, pcs 0 = 0 ∧ ip_MOk tb en_174 pcs := ⟨by decide +kernel, pc_X6_mostHeld, rfl, om_174⟩
theorem oe_175 : plainName en_175.1.cls = true ∧ ∃ pcs, pcs 0 = 0 ∧ ip_MOk tb en_175 pcs := ⟨by decide +kernel, pc_X6_places, rfl, om_175⟩
theorem oe_176 : plainName en_176.1.cls = true ∧ ∃ pcs, pcs 0 = 0 ∧ ip_MOk tb en_176 pcs := ⟨by decide +kernel, pc_X6_state, rfl, om_176⟩
theorem oe_177 : plainName en_177.1.cls = true ∧ ∃ pcs, pcs 0 = 0 ∧ ip_MOk tb en_177 pcs := ⟨by decide +kernel, pc_X6_goesOn, rfl, om_177⟩
theorem oe_178 : plainName en_178.1.cls = true ∧ ∃ pcs, pcs 0 = 0 ∧ ip_MOk tb en_178 pcs := ⟨by decide +kernel, pc_X6_placeBehind, rfl, om_178⟩
theorem oe_179 : plainName en_179.1.cls = true ∧ ∃ pcs, pcs 0 = 0 ∧ ip_MOk tb en_179 pcs := ⟨by decide +kernel, pc_X6_reaches, rfl, om_179⟩
theorem oe_180 : plainName en_180.1.cls = true ∧ ∃ pcs, pcs 0 = 0 ∧ ip_MOk tb en_180 pcs := ⟨by decide +kernel, pc_X6_over, rfl, om_180⟩
theorem oe_181 : plainName en_181.1.cls = true ∧ ∃ pcs, pcs 0 = 0 ∧ ip_MOk tb en_181 pcs := ⟨by decide +kernel, pc_X6_falls, rfl, om_181⟩
theorem oe_182 : plainName en_182.1.cls = true ∧ ∃ pcs, pcs 0 = 0 ∧ ip_MOk tb en_182 pcs := ⟨by decide +kernel, pc_X6_end, rfl, om_182⟩
theorem oe_183 : plainName en_183.1.cls = true ∧ ∃ pcs, pcs 0 = 0 ∧ ip_MOk tb en_183 pcs := ⟨by decide +kernel, pc_X6_comesOver, rfl, om_183⟩
theorem oe_184 : plainName en_184.1.cls = true ∧ ∃ pcs, pcs 0 = 0 ∧ ip_MOk tb en_184 pcs := ⟨by decide +kernel, pc_X6_sayFor, rfl, om_184⟩
theorem oe_185 : plainName en_185.1.cls = true ∧ ∃ pcs, pcs 0 = 0 ∧ ip_MOk tb en_185 pcs := ⟨by decide +kernel, pc_X6_kindFor, rfl, om_185⟩
theorem oe_186 : plainName en_186.1.cls = true ∧ ∃ pcs, pcs 0 = 0 ∧ ip_MOk tb en_186 pcs := ⟨by decide +kernel, pc_X6_turnedFor, rfl, om_186⟩
theorem oe_187 : plainName en_187.1.cls = true ∧ ∃ pcs, pcs 0 = 0 ∧ ip_MOk tb en_187 pcs := ⟨by decide +kernel, pc_X6_loadFor, rfl, om_187⟩
theorem oe_188 : plainName en_188.1.cls = true ∧ ∃ pcs, pcs 0 = 0 ∧ ip_MOk tb en_188 pcs := ⟨by decide +kernel, pc_X6_both, rfl, om_188⟩
theorem oe_189 : plainName en_189.1.cls = true ∧ ∃ pcs, pcs 0 = 0 ∧ ip_MOk tb en_189 pcs := ⟨by decide +kernel, pc_X6_isSo, rfl, om_189⟩
theorem oe_190 : plainName en_190.1.cls = true ∧ ∃ pcs, pcs 0 = 0 ∧ ip_MOk tb en_190 pcs := ⟨by decide +kernel, pc_X6_fits, rfl, om_190⟩
theorem oe_191 : plainName en_191.1.cls = true ∧ ∃ pcs, pcs 0 = 0 ∧ ip_MOk tb en_191 pcs := ⟨by decide +kernel, pc_X6_lowest, rfl, om_191⟩
theorem oe_192 : plainName en_192.1.cls = true ∧ ∃ pcs, pcs 0 = 0 ∧ ip_MOk tb en_192 pcs := ⟨by decide +kernel, pc_X6_powerOf, rfl, om_192⟩
theorem oe_193 : plainName en_193.1.cls = true ∧ ∃ pcs, pcs 0 = 0 ∧ ip_MOk tb en_193 pcs := ⟨by decide +kernel, pc_X6_odds, rfl, om_193⟩
theorem oe_194 : plainName en_194.1.cls = true ∧ ∃ pcs, pcs 0 = 0 ∧ ip_MOk tb en_194 pcs := ⟨by decide +kernel, pc_X6_hope, rfl, om_194⟩
theorem oe_195 : plainName en_195.1.cls = true ∧ ∃ pcs, pcs 0 = 0 ∧ ip_MOk tb en_195 pcs := ⟨by decide +kernel, pc_X6_findRows, rfl, om_195⟩
theorem oe_196 : plainName en_196.1.cls = true ∧ ∃ pcs, pcs 0 = 0 ∧ ip_MOk tb en_196 pcs := ⟨by decide +kernel, pc_X6_prove, rfl, om_196⟩
theorem oe_197 : plainName en_197.1.cls = true ∧ ∃ pcs, pcs 0 = 0 ∧ ip_MOk tb en_197 pcs := ⟨by decide +kernel, pc_X6_isRow, rfl, om_197⟩
theorem oe_198 : plainName en_198.1.cls = true ∧ ∃ pcs, pcs 0 = 0 ∧ ip_MOk tb en_198 pcs := ⟨by decide +kernel, pc_X6_row, rfl, om_198⟩
theorem oe_199 : plainName en_199.1.cls = true ∧ ∃ pcs, pcs 0 = 0 ∧ ip_MOk tb en_199 pcs := ⟨by decide +kernel, pc_X6_alterRow, rfl, om_199⟩
theorem oe_200 : plainName en_200.1.cls = true ∧ ∃ pcs, pcs 0 = 0 ∧ ip_MOk tb en_200 pcs := ⟨by decide +kernel, pc_X6_judge, rfl, om_200⟩
theorem oe_201 : plainName en_201.1.cls = true ∧ ∃ pcs, pcs 0 = 0 ∧ ip_MOk tb en_201 pcs := ⟨by decide +kernel, pc_X6_minds, rfl, om_201⟩
theorem oe_202 : plainName en_202.1.cls = true ∧ ∃ pcs, pcs 0 = 0 ∧ ip_MOk tb en_202 pcs := ⟨by decide +kernel, pc_X6_isShelf, rfl, om_202⟩
theorem oe_203 : plainName en_203.1.cls = true ∧ ∃ pcs, pcs 0 = 0 ∧ ip_MOk tb en_203 pcs := ⟨by decide +kernel, pc_X6_sheet, rfl, om_203⟩
theorem oe_204 : plainName en_204.1.cls = true ∧ ∃ pcs, pcs 0 = 0 ∧ ip_MOk tb en_204 pcs := ⟨by decide +kernel, pc_X6_put, rfl, om_204⟩
theorem oe_205 : plainName en_205.1.cls = true ∧ ∃ pcs, pcs 0 = 0 ∧ ip_MOk tb en_205 pcs := ⟨by decide +kernel, pc_X6_lacksSort, rfl, om_205⟩
theorem oe_206 : plainName en_206.1.cls = true ∧ ∃ pcs, pcs 0 = 0 ∧ ip_MOk tb en_206 pcs := ⟨by decide +kernel, pc_X6_item, rfl, om_206⟩
theorem oe_207 : plainName en_207.1.cls = true ∧ ∃ pcs, pcs 0 = 0 ∧ ip_MOk tb en_207 pcs := ⟨by decide +kernel, pc_X6_isHeld, rfl, om_207⟩
theorem oe_208 : plainName en_208.1.cls = true ∧ ∃ pcs, pcs 0 = 0 ∧ ip_MOk tb en_208 pcs := ⟨by decide +kernel, pc_X6_shelf, rfl, om_208⟩
theorem oe_209 : plainName en_209.1.cls = true ∧ ∃ pcs, pcs 0 = 0 ∧ ip_MOk tb en_209 pcs := ⟨by decide +kernel, pc_X6_kindOn, rfl, om_209⟩
theorem oe_210 : plainName en_210.1.cls = true ∧ ∃ pcs, pcs 0 = 0 ∧ ip_MOk tb en_210 pcs := ⟨by decide +kernel, pc_X6_isUnder, rfl, om_210⟩
theorem oe_211 : plainName en_211.1.cls = true ∧ ∃ pcs, pcs 0 = 0 ∧ ip_MOk tb en_211 pcs := ⟨by decide +kernel, pc_X6_taken, rfl, om_211⟩
theorem oe_212 : plainName en_212.1.cls = true ∧ ∃ pcs, pcs 0 = 0 ∧ ip_MOk tb en_212 pcs := ⟨by decide +kernel, pc_X6_ran, rfl, om_212⟩
theorem oe_213 : plainName en_213.1.cls = true ∧ ∃ pcs, pcs 0 = 0 ∧ ip_MOk tb en_213 pcs := ⟨by decide +kernel, pc_X6_plainLeans, rfl, om_213⟩
theorem oe_214 : plainName en_214.1.cls = true ∧ ∃ pcs, pcs 0 = 0 ∧ ip_MOk tb en_214 pcs := ⟨by decide +kernel, pc_X6_childLeans, rfl, om_214⟩
theorem oe_215 : plainName en_215.1.cls = true ∧ ∃ pcs, pcs 0 = 0 ∧ ip_MOk tb en_215 pcs := ⟨by decide +kernel, pc_X6_leansIt, rfl, om_215⟩
theorem oe_216 : plainName en_216.1.cls = true ∧ ∃ pcs, pcs 0 = 0 ∧ ip_MOk tb en_216 pcs := ⟨by decide +kernel, pc_X6_plainSways, rfl, om_216⟩
theorem oe_217 : plainName en_217.1.cls = true ∧ ∃ pcs, pcs 0 = 0 ∧ ip_MOk tb en_217 pcs := ⟨by decide +kernel, pc_X6_swaysIt, rfl, om_217⟩
theorem oe_218 : plainName en_218.1.cls = true ∧ ∃ pcs, pcs 0 = 0 ∧ ip_MOk tb en_218 pcs := ⟨by decide +kernel, pc_X6_plainParts, rfl, om_218⟩
theorem oe_219 : plainName en_219.1.cls = true ∧ ∃ pcs, pcs 0 = 0 ∧ ip_MOk tb en_219 pcs := ⟨by decide +kernel, pc_X6_partsIt, rfl, om_219⟩
theorem oe_220 : plainName en_220.1.cls = true ∧ ∃ pcs, pcs 0 = 0 ∧ ip_MOk tb en_220 pcs := ⟨by decide +kernel, pc_X6_plainTreads, rfl, om_220⟩
theorem oe_221 : plainName en_221.1.cls = true ∧ ∃ pcs, pcs 0 = 0 ∧ ip_MOk tb en_221 pcs := ⟨by decide +kernel, pc_X6_treadsIt, rfl, om_221⟩
theorem oe_222 : plainName en_222.1.cls = true ∧ ∃ pcs, pcs 0 = 0 ∧ ip_MOk tb en_222 pcs := ⟨by decide +kernel, pc_X6_act, rfl, om_222⟩
theorem oe_223 : plainName en_223.1.cls = true ∧ ∃ pcs, pcs 0 = 0 ∧ ip_MOk tb en_223 pcs := ⟨by decide +kernel, pc_X6_trace, rfl, om_223⟩
theorem oe_224 : plainName en_224.1.cls = true ∧ ∃ pcs, pcs 0 = 0 ∧ ip_MOk tb en_224 pcs := ⟨by decide +kernel, pc_X6_many, rfl, om_224⟩
theorem oe_225 : plainName en_225.1.cls = true ∧ ∃ pcs, pcs 0 = 0 ∧ ip_MOk tb en_225 pcs := ⟨by decide +kernel, pc_X6_keep, rfl, om_225⟩
theorem oe_226 : plainName en_226.1.cls = true ∧ ∃ pcs, pcs 0 = 0 ∧ ip_MOk tb en_226 pcs := ⟨by decide +kernel, pc_X6_again, rfl, om_226⟩
theorem oe_227 : plainName en_227.1.cls = true ∧ ∃ pcs, pcs 0 = 0 ∧ ip_MOk tb en_227 pcs := ⟨by decide +kernel, pc_J6_bitCount_0f7a4, rfl, om_227⟩
theorem oe_228 : plainName en_228.1.cls = true ∧ ∃ pcs, pcs 0 = 0 ∧ ip_MOk tb en_228 pcs := ⟨by decide +kernel, pc_J0_length_8abf5, rfl, om_228⟩
theorem oe_229 : plainName en_229.1.cls = true ∧ ∃ pcs, pcs 0 = 0 ∧ ip_MOk tb en_229 pcs := ⟨by decide +kernel, pc_J0_charAt_5068e, rfl, om_229⟩
theorem oe_230 : plainName en_230.1.cls = true ∧ ∃ pcs, pcs 0 = 0 ∧ ip_MOk tb en_230 pcs := ⟨by decide +kernel, pc_J0_coder_7d493, rfl, om_230⟩
theorem oe_231 : plainName en_231.1.cls = true ∧ ∃ pcs, pcs 0 = 0 ∧ ip_MOk tb en_231 pcs := ⟨by decide +kernel, pc_J0_isLatin1_aae02, rfl, om_231⟩
theorem oe_232 : plainName en_232.1.cls = true ∧ ∃ pcs, pcs 0 = 0 ∧ ip_MOk tb en_232 pcs := ⟨by decide +kernel, pc_J0_checkIndex_df160, rfl, om_232⟩
theorem oe_233 : plainName en_233.1.cls = true ∧ ∃ pcs, pcs 0 = 0 ∧ ip_MOk tb en_233 pcs := ⟨by decide +kernel, pc_J1_charAt_3b067, rfl, om_233⟩
theorem oe_234 : plainName en_234.1.cls = true ∧ ∃ pcs, pcs 0 = 0 ∧ ip_MOk tb en_234 pcs := ⟨by decide +kernel, pc_J3_checkIndex_8e157, rfl, om_234⟩
set_option maxRecDepth 100000 in
theorem tb_ok : ip_TOk tb := by
  have h : ∀ e ∈ tbL, plainName e.1.cls = true ∧ ∃ pcs, pcs 0 = 0 ∧ ip_MOk tb e pcs := by
    unfold tbL
    refine List.forall_mem_cons.mpr ⟨oe_0, ?_⟩
    refine List.forall_mem_cons.mpr ⟨oe_1, ?_⟩
    refine List.forall_mem_cons.mpr ⟨oe_2, ?_⟩
    refine List.forall_mem_cons.mpr ⟨oe_3, ?_⟩
    refine List.forall_mem_cons.mpr ⟨oe_4, ?_⟩
    refine List.forall_mem_cons.mpr ⟨oe_5, ?_⟩
    refine List.forall_mem_cons.mpr ⟨oe_6, ?_⟩
    refine List.forall_mem_cons.mpr ⟨oe_7, ?_⟩
    refine List.forall_mem_cons.mpr ⟨oe_8, ?_⟩
    refine List.forall_mem_cons.mpr ⟨oe_9, ?_⟩
    refine List.forall_mem_cons.mpr ⟨oe_10, ?_⟩
    refine List.forall_mem_cons.mpr ⟨oe_11, ?_⟩
    refine List.forall_mem_cons.mpr ⟨oe_12, ?_⟩
    refine List.forall_mem_cons.mpr ⟨oe_13, ?_⟩
    refine List.forall_mem_cons.mpr ⟨oe_14, ?_⟩
    refine List.forall_mem_cons.mpr ⟨oe_15, ?_⟩
    refine List.forall_mem_cons.mpr ⟨oe_16, ?_⟩
    refine List.forall_mem_cons.mpr ⟨oe_17, ?_⟩
    refine List.forall_mem_cons.mpr ⟨oe_18, ?_⟩
    refine List.forall_mem_cons.mpr ⟨oe_19, ?_⟩
    refine List.forall_mem_cons.mpr ⟨oe_20, ?_⟩
    refine List.forall_mem_cons.mpr ⟨oe_21, ?_⟩
    refine List.forall_mem_cons.mpr ⟨oe_22, ?_⟩
    refine List.forall_mem_cons.mpr ⟨oe_23, ?_⟩
    refine List.forall_mem_cons.mpr ⟨oe_24, ?_⟩
    refine List.forall_mem_cons.mpr ⟨oe_25, ?_⟩
    refine List.forall_mem_cons.mpr ⟨oe_26, ?_⟩
    refine List.forall_mem_cons.mpr ⟨oe_27, ?_⟩
    refine List.forall_mem_cons.mpr ⟨oe_28, ?_⟩
    refine List.forall_mem_cons.mpr ⟨oe_29, ?_⟩
    refine List.forall_mem_cons.mpr ⟨oe_30, ?_⟩
    refine List.forall_mem_cons.mpr ⟨oe_31, ?_⟩
    refine List.forall_mem_cons.mpr ⟨oe_32, ?_⟩
    refine List.forall_mem_cons.mpr ⟨oe_33, ?_⟩
    refine List.forall_mem_cons.mpr ⟨oe_34, ?_⟩
    refine List.forall_mem_cons.mpr ⟨oe_35, ?_⟩
    refine List.forall_mem_cons.mpr ⟨oe_36, ?_⟩
    refine List.forall_mem_cons.mpr ⟨oe_37, ?_⟩
    refine List.forall_mem_cons.mpr ⟨oe_38, ?_⟩
    refine List.forall_mem_cons.mpr ⟨oe_39, ?_⟩
    refine List.forall_mem_cons.mpr ⟨oe_40, ?_⟩
    refine List.forall_mem_cons.mpr ⟨oe_41, ?_⟩
    refine List.forall_mem_cons.mpr ⟨oe_42, ?_⟩
    refine List.forall_mem_cons.mpr ⟨oe_43, ?_⟩
    refine List.forall_mem_cons.mpr ⟨oe_44, ?_⟩
    refine List.forall_mem_cons.mpr ⟨oe_45, ?_⟩
    refine List.forall_mem_cons.mpr ⟨oe_46, ?_⟩
    refine List.forall_mem_cons.mpr ⟨oe_47, ?_⟩
    refine List.forall_mem_cons.mpr ⟨oe_48, ?_⟩
    refine List.forall_mem_cons.mpr ⟨oe_49, ?_⟩
    refine List.forall_mem_cons.mpr ⟨oe_50, ?_⟩
    refine List.forall_mem_cons.mpr ⟨oe_51, ?_⟩
    refine List.forall_mem_cons.mpr ⟨oe_52, ?_⟩
    refine List.forall_mem_cons.mpr ⟨oe_53, ?_⟩
    refine List.forall_mem_cons.mpr ⟨oe_54, ?_⟩
    refine List.forall_mem_cons.mpr ⟨oe_55, ?_⟩
    refine List.forall_mem_cons.mpr ⟨oe_56, ?_⟩
    refine List.forall_mem_cons.mpr ⟨oe_57, ?_⟩
    refine List.forall_mem_cons.mpr ⟨oe_58, ?_⟩
    refine List.forall_mem_cons.mpr ⟨oe_59, ?_⟩
    refine List.forall_mem_cons.mpr ⟨oe_60, ?_⟩
    refine List.forall_mem_cons.mpr ⟨oe_61, ?_⟩
    refine List.forall_mem_cons.mpr ⟨oe_62, ?_⟩
    refine List.forall_mem_cons.mpr ⟨oe_63, ?_⟩
    refine List.forall_mem_cons.mpr ⟨oe_64, ?_⟩
    refine List.forall_mem_cons.mpr ⟨oe_65, ?_⟩
    refine List.forall_mem_cons.mpr ⟨oe_66, ?_⟩
    refine List.forall_mem_cons.mpr ⟨oe_67, ?_⟩
    refine List.forall_mem_cons.mpr ⟨oe_68, ?_⟩
    refine List.forall_mem_cons.mpr ⟨oe_69, ?_⟩
    refine List.forall_mem_cons.mpr ⟨oe_70, ?_⟩
    refine List.forall_mem_cons.mpr ⟨oe_71, ?_⟩
    refine List.forall_mem_cons.mpr ⟨oe_72, ?_⟩
    refine List.forall_mem_cons.mpr ⟨oe_73, ?_⟩
    refine List.forall_mem_cons.mpr ⟨oe_74, ?_⟩
    refine List.forall_mem_cons.mpr ⟨oe_75, ?_⟩
    refine List.forall_mem_cons.mpr ⟨oe_76, ?_⟩
    refine List.forall_mem_cons.mpr ⟨oe_77, ?_⟩
    refine List.forall_mem_cons.mpr ⟨oe_78, ?_⟩
    refine List.forall_mem_cons.mpr ⟨oe_79, ?_⟩
    refine List.forall_mem_cons.mpr ⟨oe_80, ?_⟩
    refine List.forall_mem_cons.mpr ⟨oe_81, ?_⟩
    refine List.forall_mem_cons.mpr ⟨oe_82, ?_⟩
    refine List.forall_mem_cons.mpr ⟨oe_83, ?_⟩
    refine List.forall_mem_cons.mpr ⟨oe_84, ?_⟩
    refine List.forall_mem_cons.mpr ⟨oe_85, ?_⟩
    refine List.forall_mem_cons.mpr ⟨oe_86, ?_⟩
    refine List.forall_mem_cons.mpr ⟨oe_87, ?_⟩
    refine List.forall_mem_cons.mpr ⟨oe_88, ?_⟩
    refine List.forall_mem_cons.mpr ⟨oe_89, ?_⟩
    refine List.forall_mem_cons.mpr ⟨oe_90, ?_⟩
    refine List.forall_mem_cons.mpr ⟨oe_91, ?_⟩
    refine List.forall_mem_cons.mpr ⟨oe_92, ?_⟩
    refine List.forall_mem_cons.mpr ⟨oe_93, ?_⟩
    refine List.forall_mem_cons.mpr ⟨oe_94, ?_⟩
    refine List.forall_mem_cons.mpr ⟨oe_95, ?_⟩
    refine List.forall_mem_cons.mpr ⟨oe_96, ?_⟩
    refine List.forall_mem_cons.mpr ⟨oe_97, ?_⟩
    refine List.forall_mem_cons.mpr ⟨oe_98, ?_⟩
    refine List.forall_mem_cons.mpr ⟨oe_99, ?_⟩
    refine List.forall_mem_cons.mpr ⟨oe_100, ?_⟩
    refine List.forall_mem_cons.mpr ⟨oe_101, ?_⟩
    refine List.forall_mem_cons.mpr ⟨oe_102, ?_⟩
    refine List.forall_mem_cons.mpr ⟨oe_103, ?_⟩
    refine List.forall_mem_cons.mpr ⟨oe_104, ?_⟩
    refine List.forall_mem_cons.mpr ⟨oe_105, ?_⟩
    refine List.forall_mem_cons.mpr ⟨oe_106, ?_⟩
    refine List.forall_mem_cons.mpr ⟨oe_107, ?_⟩
    refine List.forall_mem_cons.mpr ⟨oe_108, ?_⟩
    refine List.forall_mem_cons.mpr ⟨oe_109, ?_⟩
    refine List.forall_mem_cons.mpr ⟨oe_110, ?_⟩
    refine List.forall_mem_cons.mpr ⟨oe_111, ?_⟩
    refine List.forall_mem_cons.mpr ⟨oe_112, ?_⟩
    refine List.forall_mem_cons.mpr ⟨oe_113, ?_⟩
    refine List.forall_mem_cons.mpr ⟨oe_114, ?_⟩
    refine List.forall_mem_cons.mpr ⟨oe_115, ?_⟩
    refine List.forall_mem_cons.mpr ⟨oe_116, ?_⟩
    refine List.forall_mem_cons.mpr ⟨oe_117, ?_⟩
    refine List.forall_mem_cons.mpr ⟨oe_118, ?_⟩
    refine List.forall_mem_cons.mpr ⟨oe_119, ?_⟩
    refine List.forall_mem_cons.mpr ⟨oe_120, ?_⟩
    refine List.forall_mem_cons.mpr ⟨oe_121, ?_⟩
    refine List.forall_mem_cons.mpr ⟨oe_122, ?_⟩
    refine List.forall_mem_cons.mpr ⟨oe_123, ?_⟩
    refine List.forall_mem_cons.mpr ⟨oe_124, ?_⟩
    refine List.forall_mem_cons.mpr ⟨oe_125, ?_⟩
    refine List.forall_mem_cons.mpr ⟨oe_126, ?_⟩
    refine List.forall_mem_cons.mpr ⟨oe_127, ?_⟩
    refine List.forall_mem_cons.mpr ⟨oe_128, ?_⟩
    refine List.forall_mem_cons.mpr ⟨oe_129, ?_⟩
    refine List.forall_mem_cons.mpr ⟨oe_130, ?_⟩
    refine List.forall_mem_cons.mpr ⟨oe_131, ?_⟩
    refine List.forall_mem_cons.mpr ⟨oe_132, ?_⟩
    refine List.forall_mem_cons.mpr ⟨oe_133, ?_⟩
    refine List.forall_mem_cons.mpr ⟨oe_134, ?_⟩
    refine List.forall_mem_cons.mpr ⟨oe_135, ?_⟩
    refine List.forall_mem_cons.mpr ⟨oe_136, ?_⟩
    refine List.forall_mem_cons.mpr ⟨oe_137, ?_⟩
    refine List.forall_mem_cons.mpr ⟨oe_138, ?_⟩
    refine List.forall_mem_cons.mpr ⟨oe_139, ?_⟩
    refine List.forall_mem_cons.mpr ⟨oe_140, ?_⟩
    refine List.forall_mem_cons.mpr ⟨oe_141, ?_⟩
    refine List.forall_mem_cons.mpr ⟨oe_142, ?_⟩
    refine List.forall_mem_cons.mpr ⟨oe_143, ?_⟩
    refine List.forall_mem_cons.mpr ⟨oe_144, ?_⟩
    refine List.forall_mem_cons.mpr ⟨oe_145, ?_⟩
    refine List.forall_mem_cons.mpr ⟨oe_146, ?_⟩
    refine List.forall_mem_cons.mpr ⟨oe_147, ?_⟩
    refine List.forall_mem_cons.mpr ⟨oe_148, ?_⟩
    refine List.forall_mem_cons.mpr ⟨oe_149, ?_⟩
    refine List.forall_mem_cons.mpr ⟨oe_150, ?_⟩
    refine List.forall_mem_cons.mpr ⟨oe_151, ?_⟩
    refine List.forall_mem_cons.mpr ⟨oe_152, ?_⟩
    refine List.forall_mem_cons.mpr ⟨oe_153, ?_⟩
    refine List.forall_mem_cons.mpr ⟨oe_154, ?_⟩
    refine List.forall_mem_cons.mpr ⟨oe_155, ?_⟩
    refine List.forall_mem_cons.mpr ⟨oe_156, ?_⟩
    refine List.forall_mem_cons.mpr ⟨oe_157, ?_⟩
    refine List.forall_mem_cons.mpr ⟨oe_158, ?_⟩
    refine List.forall_mem_cons.mpr ⟨oe_159, ?_⟩
    refine List.forall_mem_cons.mpr ⟨oe_160, ?_⟩
    refine List.forall_mem_cons.mpr ⟨oe_161, ?_⟩
    refine List.forall_mem_cons.mpr ⟨oe_162, ?_⟩
    refine List.forall_mem_cons.mpr ⟨oe_163, ?_⟩
    refine List.forall_mem_cons.mpr ⟨oe_164, ?_⟩
    refine List.forall_mem_cons.mpr ⟨oe_165, ?_⟩
    refine List.forall_mem_cons.mpr ⟨oe_166, ?_⟩
    refine List.forall_mem_cons.mpr ⟨oe_167, ?_⟩
    refine List.forall_mem_cons.mpr ⟨oe_168, ?_⟩
    refine List.forall_mem_cons.mpr ⟨oe_169, ?_⟩
    refine List.forall_mem_cons.mpr ⟨oe_170, ?_⟩
    refine List.forall_mem_cons.mpr ⟨oe_171, ?_⟩
    refine List.forall_mem_cons.mpr ⟨oe_172, ?_⟩
    refine List.forall_mem_cons.mpr ⟨oe_173, ?_⟩
    refine List.forall_mem_cons.mpr ⟨oe_174, ?_⟩
    refine List.forall_mem_cons.mpr ⟨oe_175, ?_⟩
    refine List.forall_mem_cons.mpr ⟨oe_176, ?_⟩
    refine List.forall_mem_cons.mpr ⟨oe_177, ?_⟩
    refine List.forall_mem_cons.mpr ⟨oe_178, ?_⟩
    refine List.forall_mem_cons.mpr ⟨oe_179, ?_⟩
    refine List.forall_mem_cons.mpr ⟨oe_180, ?_⟩
    refine List.forall_mem_cons.mpr ⟨oe_181, ?_⟩
    refine List.forall_mem_cons.mpr ⟨oe_182, ?_⟩
    refine List.forall_mem_cons.mpr ⟨oe_183, ?_⟩
    refine List.forall_mem_cons.mpr ⟨oe_184, ?_⟩
    refine List.forall_mem_cons.mpr ⟨oe_185, ?_⟩
    refine List.forall_mem_cons.mpr ⟨oe_186, ?_⟩
    refine List.forall_mem_cons.mpr ⟨oe_187, ?_⟩
    refine List.forall_mem_cons.mpr ⟨oe_188, ?_⟩
    refine List.forall_mem_cons.mpr ⟨oe_189, ?_⟩
    refine List.forall_mem_cons.mpr ⟨oe_190, ?_⟩
    refine List.forall_mem_cons.mpr ⟨oe_191, ?_⟩
    refine List.forall_mem_cons.mpr ⟨oe_192, ?_⟩
    refine List.forall_mem_cons.mpr ⟨oe_193, ?_⟩
    refine List.forall_mem_cons.mpr ⟨oe_194, ?_⟩
    refine List.forall_mem_cons.mpr ⟨oe_195, ?_⟩
    refine List.forall_mem_cons.mpr ⟨oe_196, ?_⟩
    refine List.forall_mem_cons.mpr ⟨oe_197, ?_⟩
    refine List.forall_mem_cons.mpr ⟨oe_198, ?_⟩
    refine List.forall_mem_cons.mpr ⟨oe_199, ?_⟩
    refine List.forall_mem_cons.mpr ⟨oe_200, ?_⟩
    refine List.forall_mem_cons.mpr ⟨oe_201, ?_⟩
    refine List.forall_mem_cons.mpr ⟨oe_202, ?_⟩
    refine List.forall_mem_cons.mpr ⟨oe_203, ?_⟩
    refine List.forall_mem_cons.mpr ⟨oe_204, ?_⟩
    refine List.forall_mem_cons.mpr ⟨oe_205, ?_⟩
    refine List.forall_mem_cons.mpr ⟨oe_206, ?_⟩
    refine List.forall_mem_cons.mpr ⟨oe_207, ?_⟩
    refine List.forall_mem_cons.mpr ⟨oe_208, ?_⟩
    refine List.forall_mem_cons.mpr ⟨oe_209, ?_⟩
    refine List.forall_mem_cons.mpr ⟨oe_210, ?_⟩
    refine List.forall_mem_cons.mpr ⟨oe_211, ?_⟩
    refine List.forall_mem_cons.mpr ⟨oe_212, ?_⟩
    refine List.forall_mem_cons.mpr ⟨oe_213, ?_⟩
    refine List.forall_mem_cons.mpr ⟨oe_214, ?_⟩
    refine List.forall_mem_cons.mpr ⟨oe_215, ?_⟩
    refine List.forall_mem_cons.mpr ⟨oe_216, ?_⟩
    refine List.forall_mem_cons.mpr ⟨oe_217, ?_⟩
    refine List.forall_mem_cons.mpr ⟨oe_218, ?_⟩
    refine List.forall_mem_cons.mpr ⟨oe_219, ?_⟩
    refine List.forall_mem_cons.mpr ⟨oe_220, ?_⟩
    refine List.forall_mem_cons.mpr ⟨oe_221, ?_⟩
    refine List.forall_mem_cons.mpr ⟨oe_222, ?_⟩
    refine List.forall_mem_cons.mpr ⟨oe_223, ?_⟩
    refine List.forall_mem_cons.mpr ⟨oe_224, ?_⟩
    refine List.forall_mem_cons.mpr ⟨oe_225, ?_⟩
    refine List.forall_mem_cons.mpr ⟨oe_226, ?_⟩
    refine List.forall_mem_cons.mpr ⟨oe_227, ?_⟩
    refine List.forall_mem_cons.mpr ⟨oe_228, ?_⟩
    refine List.forall_mem_cons.mpr ⟨oe_229, ?_⟩
    refine List.forall_mem_cons.mpr ⟨oe_230, ?_⟩
    refine List.forall_mem_cons.mpr ⟨oe_231, ?_⟩
    refine List.forall_mem_cons.mpr ⟨oe_232, ?_⟩
    refine List.forall_mem_cons.mpr ⟨oe_233, ?_⟩
    refine List.forall_mem_cons.mpr ⟨oe_234, ?_⟩
    exact fun _ h => absurd h List.not_mem_nil
  exact fun k e hk => h e (List.mem_of_getElem? hk)
