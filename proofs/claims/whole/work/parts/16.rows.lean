theorem ok_no {x : ip_Cx} {G : ip_Gl} {nL pc pc1 : Nat} : ip_ok x G nL pc pc1 oNo := fun _ _ _ h => h.elim
theorem ok_nt {x : ip_Cx} {G : ip_Gl} {nL pc : Nat} {pcs : Nat → Nat} : ip_okT x G nL pc pcs tNo := fun _ _ _ _ _ h => h.elim
theorem mt_0 : ip_mt en_0 0 := ⟨⟨by decide +kernel, by decide +kernel⟩, by decide +kernel, tw_173, tw_6, by decide⟩
theorem mt_1 : ip_mt en_1 0 := ⟨⟨by decide +kernel, by decide +kernel⟩, by decide +kernel, tw_746, tw_6, by decide⟩
theorem mt_2 : ip_mt en_2 5 := ⟨⟨by decide +kernel, by decide +kernel⟩, by decide +kernel, tw_750, tw_6, by decide⟩
theorem mt_3 : ip_mt en_3 1 := ⟨⟨by decide +kernel, by decide +kernel⟩, by decide +kernel, tw_754, tw_6, by decide⟩
theorem mt_4 : ip_mt en_4 1 := ⟨⟨by decide +kernel, by decide +kernel⟩, by decide +kernel, tw_765, tw_6, by decide⟩
theorem mt_5 : ip_mt en_5 3 := ⟨⟨by decide +kernel, by decide +kernel⟩, by decide +kernel, tw_761, tw_6, by decide⟩
theorem mt_6 : ip_mt en_6 2 := ⟨⟨by decide +kernel, by decide +kernel⟩, by decide +kernel, tw_769, tw_6, by decide⟩
theorem mt_7 : ip_mt en_7 0 := ⟨⟨by decide +kernel, by decide +kernel⟩, by decide +kernel, tw_27, tw_2, by decide⟩
theorem mt_8 : ip_mt en_8 0 := ⟨⟨by decide +kernel, by decide +kernel⟩, by decide +kernel, tw_32, tw_2, by decide⟩
theorem mt_9 : ip_mt en_9 1 := ⟨⟨by decide +kernel, by decide +kernel⟩, by decide +kernel, tw_377, tw_2, by decide⟩
theorem mt_10 : ip_mt en_10 2 := ⟨⟨by decide +kernel, by decide +kernel⟩, by decide +kernel, tw_342, tw_2, by decide⟩
theorem mt_11 : ip_mt en_11 1 := ⟨⟨by decide +kernel, by decide +kernel⟩, by decide +kernel, tw_440, tw_2, by decide⟩
theorem mt_12 : ip_mt en_12 2 := ⟨⟨by decide +kernel, by decide +kernel⟩, by decide +kernel, tw_427, tw_2, by decide⟩
theorem mt_13 : ip_mt en_13 1 := ⟨⟨by decide +kernel, by decide +kernel⟩, by decide +kernel, tw_489, tw_2, by decide⟩
theorem mt_14 : ip_mt en_14 0 := ⟨⟨by decide +kernel, by decide +kernel⟩, by decide +kernel, tw_528, tw_2, by decide⟩
theorem mt_15 : ip_mt en_15 1 := ⟨⟨by decide +kernel, by decide +kernel⟩, by decide +kernel, tw_524, tw_2, by decide⟩
theorem mt_16 : ip_mt en_16 0 := ⟨⟨by decide +kernel, by decide +kernel⟩, by decide +kernel, tw_512, tw_2, by decide⟩
theorem mt_17 : ip_mt en_17 0 := ⟨⟨by decide +kernel, by decide +kernel⟩, by decide +kernel, tw_542, tw_2, by decide⟩
theorem mt_18 : ip_mt en_18 0 := ⟨⟨by decide +kernel, by decide +kernel⟩, by decide +kernel, tw_546, tw_2, by decide⟩
theorem mt_19 : ip_mt en_19 2 := ⟨⟨by decide +kernel, by decide +kernel⟩, by decide +kernel, tw_662, tw_2, by decide⟩
theorem mt_20 : ip_mt en_20 2 := ⟨⟨by decide +kernel, by decide +kernel⟩, by decide +kernel, tw_694, tw_14, by decide⟩
theorem mt_21 : ip_mt en_21 1 := ⟨⟨by decide +kernel, by decide +kernel⟩, by decide +kernel, tw_714, tw_14, by decide⟩
theorem mt_22 : ip_mt en_22 0 := ⟨⟨by decide +kernel, by decide +kernel⟩, by decide +kernel, tw_146, tw_5, by decide⟩
theorem mt_23 : ip_mt en_23 1 := ⟨⟨by decide +kernel, by decide +kernel⟩, by decide +kernel, tw_245, tw_5, by decide⟩
theorem mt_24 : ip_mt en_24 1 := ⟨⟨by decide +kernel, by decide +kernel⟩, by decide +kernel, tw_254, tw_5, by decide⟩
theorem mt_25 : ip_mt en_25 1 := ⟨⟨by decide +kernel, by decide +kernel⟩, by decide +kernel, tw_268, tw_5, by decide⟩
theorem mt_26 : ip_mt en_26 2 := ⟨⟨by decide +kernel, by decide +kernel⟩, by decide +kernel, tw_346, tw_5, by decide⟩
theorem mt_27 : ip_mt en_27 4 := ⟨⟨by decide +kernel, by decide +kernel⟩, by decide +kernel, tw_351, tw_5, by decide⟩
theorem mt_28 : ip_mt en_28 2 := ⟨⟨by decide +kernel, by decide +kernel⟩, by decide +kernel, tw_355, tw_5, by decide⟩
theorem mt_29 : ip_mt en_29 0 := ⟨⟨by decide +kernel, by decide +kernel⟩, by decide +kernel, tw_373, tw_5, by decide⟩
theorem mt_30 : ip_mt en_30 0 := ⟨⟨by decide +kernel, by decide +kernel⟩, by decide +kernel, tw_363, tw_5, by decide⟩
theorem mt_31 : ip_mt en_31 0 := ⟨⟨by decide +kernel, by decide +kernel⟩, by decide +kernel, tw_258, tw_5, by decide⟩
theorem mt_32 : ip_mt en_32 1 := ⟨⟨by decide +kernel, by decide +kernel⟩, by decide +kernel, tw_261, tw_5, by decide⟩
theorem mt_33 : ip_mt en_33 1 := ⟨⟨by decide +kernel, by decide +kernel⟩, by decide +kernel, tw_264, tw_5, by decide⟩
theorem mt_34 : ip_mt en_34 0 := ⟨⟨by decide +kernel, by decide +kernel⟩, by decide +kernel, tw_359, tw_5, by decide⟩
theorem mt_35 : ip_mt en_35 1 := ⟨⟨by decide +kernel, by decide +kernel⟩, by decide +kernel, tw_277, tw_5, by decide⟩
theorem mt_36 : ip_mt en_36 0 := ⟨⟨by decide +kernel, by decide +kernel⟩, by decide +kernel, tw_272, tw_5, by decide⟩
theorem mt_37 : ip_mt en_37 0 := ⟨⟨by decide +kernel, by decide +kernel⟩, by decide +kernel, tw_334, tw_5, by decide⟩
theorem mt_38 : ip_mt en_38 0 := ⟨⟨by decide +kernel, by decide +kernel⟩, by decide +kernel, tw_101, tw_4, by decide⟩
theorem mt_39 : ip_mt en_39 3 := ⟨⟨by decide +kernel, by decide +kernel⟩, by decide +kernel, tw_420, tw_4, by decide⟩
theorem mt_40 : ip_mt en_40 2 := ⟨⟨by decide +kernel, by decide +kernel⟩, by decide +kernel, tw_445, tw_4, by decide⟩
theorem mt_41 : ip_mt en_41 0 := ⟨⟨by decide +kernel, by decide +kernel⟩, by decide +kernel, tw_502, tw_4, by decide⟩
theorem mt_42 : ip_mt en_42 0 := ⟨⟨by decide +kernel, by decide +kernel⟩, by decide +kernel, tw_498, tw_4, by decide⟩
theorem mt_43 : ip_mt en_43 0 := ⟨⟨by decide +kernel, by decide +kernel⟩, by decide +kernel, tw_449, tw_4, by decide⟩
theorem mt_44 : ip_mt en_44 0 := ⟨⟨by decide +kernel, by decide +kernel⟩, by decide +kernel, tw_461, tw_4, by decide⟩
theorem mt_45 : ip_mt en_45 0 := ⟨⟨by decide +kernel, by decide +kernel⟩, by decide +kernel, tw_453, tw_4, by decide⟩
theorem mt_46 : ip_mt en_46 0 := ⟨⟨by decide +kernel, by decide +kernel⟩, by decide +kernel, tw_457, tw_4, by decide⟩
theorem mt_47 : ip_mt en_47 0 := ⟨⟨by decide +kernel, by decide +kernel⟩, by decide +kernel, tw_465, tw_4, by decide⟩
theorem mt_48 : ip_mt en_48 0 := ⟨⟨by decide +kernel, by decide +kernel⟩, by decide +kernel, tw_494, tw_4, by decide⟩
theorem mt_49 : ip_mt en_49 1 := ⟨⟨by decide +kernel, by decide +kernel⟩, by decide +kernel, tw_558, tw_4, by decide⟩
theorem mt_50 : ip_mt en_50 1 := ⟨⟨by decide +kernel, by decide +kernel⟩, by decide +kernel, tw_634, tw_4, by decide⟩
theorem mt_51 : ip_mt en_51 0 := ⟨⟨by decide +kernel, by decide +kernel⟩, by decide +kernel, tw_19, tw_1, by decide⟩
theorem mt_52 : ip_mt en_52 2 := ⟨⟨by decide +kernel, by decide +kernel⟩, by decide +kernel, tw_238, tw_1, by decide⟩
theorem mt_53 : ip_mt en_53 0 := ⟨⟨by decide +kernel, by decide +kernel⟩, by decide +kernel, tw_249, tw_1, by decide⟩
theorem mt_54 : ip_mt en_54 2 := ⟨⟨by decide +kernel, by decide +kernel⟩, by decide +kernel, tw_381, tw_1, by decide⟩
theorem mt_55 : ip_mt en_55 1 := ⟨⟨by decide +kernel, by decide +kernel⟩, by decide +kernel, tw_386, tw_1, by decide⟩
theorem mt_56 : ip_mt en_56 2 := ⟨⟨by decide +kernel, by decide +kernel⟩, by decide +kernel, tw_390, tw_1, by decide⟩
theorem mt_57 : ip_mt en_57 2 := ⟨⟨by decide +kernel, by decide +kernel⟩, by decide +kernel, tw_397, tw_1, by decide⟩
theorem mt_58 : ip_mt en_58 2 := ⟨⟨by decide +kernel, by decide +kernel⟩, by decide +kernel, tw_408, tw_1, by decide⟩
theorem mt_59 : ip_mt en_59 2 := ⟨⟨by decide +kernel, by decide +kernel⟩, by decide +kernel, tw_416, tw_1, by decide⟩
theorem mt_60 : ip_mt en_60 3 := ⟨⟨by decide +kernel, by decide +kernel⟩, by decide +kernel, tw_469, tw_1, by decide⟩
theorem mt_61 : ip_mt en_61 3 := ⟨⟨by decide +kernel, by decide +kernel⟩, by decide +kernel, tw_473, tw_1, by decide⟩
theorem mt_62 : ip_mt en_62 2 := ⟨⟨by decide +kernel, by decide +kernel⟩, by decide +kernel, tw_481, tw_1, by decide⟩
theorem mt_63 : ip_mt en_63 1 := ⟨⟨by decide +kernel, by decide +kernel⟩, by decide +kernel, tw_485, tw_1, by decide⟩
theorem mt_64 : ip_mt en_64 1 := ⟨⟨by decide +kernel, by decide +kernel⟩, by decide +kernel, tw_516, tw_1, by decide⟩
theorem mt_65 : ip_mt en_65 0 := ⟨⟨by decide +kernel, by decide +kernel⟩, by decide +kernel, tw_520, tw_1, by decide⟩
theorem mt_66 : ip_mt en_66 1 := ⟨⟨by decide +kernel, by decide +kernel⟩, by decide +kernel, tw_534, tw_1, by decide⟩
theorem mt_67 : ip_mt en_67 1 := ⟨⟨by decide +kernel, by decide +kernel⟩, by decide +kernel, tw_538, tw_1, by decide⟩
theorem mt_68 : ip_mt en_68 2 := ⟨⟨by decide +kernel, by decide +kernel⟩, by decide +kernel, tw_554, tw_1, by decide⟩
theorem mt_69 : ip_mt en_69 1 := ⟨⟨by decide +kernel, by decide +kernel⟩, by decide +kernel, tw_563, tw_1, by decide⟩
theorem mt_70 : ip_mt en_70 1 := ⟨⟨by decide +kernel, by decide +kernel⟩, by decide +kernel, tw_574, tw_1, by decide⟩
theorem mt_71 : ip_mt en_71 0 := ⟨⟨by decide +kernel, by decide +kernel⟩, by decide +kernel, tw_578, tw_1, by decide⟩
theorem mt_72 : ip_mt en_72 2 := ⟨⟨by decide +kernel, by decide +kernel⟩, by decide +kernel, tw_583, tw_1, by decide⟩
theorem mt_73 : ip_mt en_73 2 := ⟨⟨by decide +kernel, by decide +kernel⟩, by decide +kernel, tw_607, tw_1, by decide⟩
theorem mt_74 : ip_mt en_74 2 := ⟨⟨by decide +kernel, by decide +kernel⟩, by decide +kernel, tw_611, tw_1, by decide⟩
theorem mt_75 : ip_mt en_75 2 := ⟨⟨by decide +kernel, by decide +kernel⟩, by decide +kernel, tw_615, tw_1, by decide⟩
theorem mt_76 : ip_mt en_76 3 := ⟨⟨by decide +kernel, by decide +kernel⟩, by decide +kernel, tw_619, tw_1, by decide⟩
theorem mt_77 : ip_mt en_77 3 := ⟨⟨by decide +kernel, by decide +kernel⟩, by decide +kernel, tw_623, tw_1, by decide⟩
theorem mt_78 : ip_mt en_78 3 := ⟨⟨by decide +kernel, by decide +kernel⟩, by decide +kernel, tw_639, tw_1, by decide⟩
theorem mt_79 : ip_mt en_79 2 := ⟨⟨by decide +kernel, by decide +kernel⟩, by decide +kernel, tw_654, tw_1, by decide⟩
theorem mt_80 : ip_mt en_80 2 := ⟨⟨by decide +kernel, by decide +kernel⟩, by decide +kernel, tw_658, tw_1, by decide⟩
theorem mt_81 : ip_mt en_81 2 := ⟨⟨by decide +kernel, by decide +kernel⟩, by decide +kernel, tw_667, tw_1, by decide⟩
theorem mt_82 : ip_mt en_82 3 := ⟨⟨by decide +kernel, by decide +kernel⟩, by decide +kernel, tw_675, tw_1, by decide⟩
theorem mt_83 : ip_mt en_83 1 := ⟨⟨by decide +kernel, by decide +kernel⟩, by decide +kernel, tw_679, tw_1, by decide⟩
theorem mt_84 : ip_mt en_84 4 := ⟨⟨by decide +kernel, by decide +kernel⟩, by decide +kernel, tw_683, tw_1, by decide⟩
theorem mt_85 : ip_mt en_85 3 := ⟨⟨by decide +kernel, by decide +kernel⟩, by decide +kernel, tw_687, tw_1, by decide⟩
theorem mt_86 : ip_mt en_86 3 := ⟨⟨by decide +kernel, by decide +kernel⟩, by decide +kernel, tw_710, tw_1, by decide⟩
theorem mt_87 : ip_mt en_87 3 := ⟨⟨by decide +kernel, by decide +kernel⟩, by decide +kernel, tw_718, tw_1, by decide⟩
theorem mt_88 : ip_mt en_88 3 := ⟨⟨by decide +kernel, by decide +kernel⟩, by decide +kernel, tw_722, tw_1, by decide⟩
theorem mt_89 : ip_mt en_89 2 := ⟨⟨by decide +kernel, by decide +kernel⟩, by decide +kernel, tw_733, tw_1, by decide⟩
theorem mt_90 : ip_mt en_90 3 := ⟨⟨by decide +kernel, by decide +kernel⟩, by decide +kernel, tw_742, tw_1, by decide⟩
theorem mt_91 : ip_mt en_91 1 := ⟨⟨by decide +kernel, by decide +kernel⟩, by decide +kernel, tw_773, tw_1, by decide⟩
theorem mt_92 : ip_mt en_92 1 := ⟨⟨by decide +kernel, by decide +kernel⟩, by decide +kernel, tw_777, tw_1, by decide⟩
theorem mt_93 : ip_mt en_93 0 := ⟨⟨by decide +kernel, by decide +kernel⟩, by decide +kernel, tw_781, tw_1, by decide⟩
theorem mt_94 : ip_mt en_94 0 := ⟨⟨by decide +kernel, by decide +kernel⟩, by decide +kernel, tw_785, tw_1, by decide⟩
theorem mt_95 : ip_mt en_95 3 := ⟨⟨by decide +kernel, by decide +kernel⟩, by decide +kernel, tw_241, tw_1, by decide⟩
theorem mt_96 : ip_mt en_96 1 := ⟨⟨by decide +kernel, by decide +kernel⟩, by decide +kernel, tw_400, tw_1, by decide⟩
theorem mt_97 : ip_mt en_97 1 := ⟨⟨by decide +kernel, by decide +kernel⟩, by decide +kernel, tw_403, tw_1, by decide⟩
theorem mt_98 : ip_mt en_98 1 := ⟨⟨by decide +kernel, by decide +kernel⟩, by decide +kernel, tw_476, tw_1, by decide⟩
theorem mt_99 : ip_mt en_99 1 := ⟨⟨by decide +kernel, by decide +kernel⟩, by decide +kernel, tw_626, tw_1, by decide⟩
theorem mt_100 : ip_mt en_100 1 := ⟨⟨by decide +kernel, by decide +kernel⟩, by decide +kernel, tw_690, tw_1, by decide⟩
theorem mt_101 : ip_mt en_101 1 := ⟨⟨by decide +kernel, by decide +kernel⟩, by decide +kernel, tw_725, tw_1, by decide⟩
theorem mt_102 : ip_mt en_102 1 := ⟨⟨by decide +kernel, by decide +kernel⟩, by decide +kernel, tw_412, tw_1, by decide⟩
theorem mt_103 : ip_mt en_103 2 := ⟨⟨by decide +kernel, by decide +kernel⟩, by decide +kernel, tw_671, tw_1, by decide⟩
theorem mt_104 : ip_mt en_104 2 := ⟨⟨by decide +kernel, by decide +kernel⟩, by decide +kernel, tw_423, tw_1, by decide⟩
theorem mt_105 : ip_mt en_105 3 := ⟨⟨by decide +kernel, by decide +kernel⟩, by decide +kernel, tw_393, tw_1, by decide⟩
theorem mt_106 : ip_mt en_106 2 := ⟨⟨by decide +kernel, by decide +kernel⟩, by decide +kernel, tw_736, tw_1, by decide⟩
theorem mt_107 : ip_mt en_107 3 := ⟨⟨by decide +kernel, by decide +kernel⟩, by decide +kernel, tw_729, tw_1, by decide⟩
theorem mt_108 : ip_mt en_108 1 := ⟨⟨by decide +kernel, by decide +kernel⟩, by decide +kernel, tw_567, tw_1, by decide⟩
theorem mt_109 : ip_mt en_109 3 := ⟨⟨by decide +kernel, by decide +kernel⟩, by decide +kernel, tw_587, tw_1, by decide⟩
theorem mt_110 : ip_mt en_110 2 := ⟨⟨by decide +kernel, by decide +kernel⟩, by decide +kernel, tw_630, tw_1, by decide⟩
theorem mt_111 : ip_mt en_111 2 := ⟨⟨by decide +kernel, by decide +kernel⟩, by decide +kernel, tw_592, tw_1, by decide⟩
theorem mt_112 : ip_mt en_112 3 := ⟨⟨by decide +kernel, by decide +kernel⟩, by decide +kernel, tw_596, tw_1, by decide⟩
theorem mt_113 : ip_mt en_113 3 := ⟨⟨by decide +kernel, by decide +kernel⟩, by decide +kernel, tw_602, tw_1, by decide⟩
theorem mt_114 : ip_mt en_114 3 := ⟨⟨by decide +kernel, by decide +kernel⟩, by decide +kernel, tw_430, tw_1, by decide⟩
theorem mt_115 : ip_mt en_115 2 := ⟨⟨by decide +kernel, by decide +kernel⟩, by decide +kernel, tw_643, tw_1, by decide⟩
theorem mt_116 : ip_mt en_116 3 := ⟨⟨by decide +kernel, by decide +kernel⟩, by decide +kernel, tw_647, tw_1, by decide⟩
theorem mt_117 : ip_mt en_117 2 := ⟨⟨by decide +kernel, by decide +kernel⟩, by decide +kernel, tw_650, tw_1, by decide⟩
theorem mt_118 : ip_mt en_118 0 := ⟨⟨by decide +kernel, by decide +kernel⟩, by decide +kernel, tw_790, tw_7, by decide⟩
theorem mt_119 : ip_mt en_119 1 := ⟨⟨by decide +kernel, by decide +kernel⟩, by decide +kernel, tw_794, tw_7, by decide⟩
theorem mt_120 : ip_mt en_120 3 := ⟨⟨by decide +kernel, by decide +kernel⟩, by decide +kernel, tw_887, tw_7, by decide⟩
theorem mt_121 : ip_mt en_121 3 := ⟨⟨by decide +kernel, by decide +kernel⟩, by decide +kernel, tw_1067, tw_7, by decide⟩
theorem mt_122 : ip_mt en_122 2 := ⟨⟨by decide +kernel, by decide +kernel⟩, by decide +kernel, tw_970, tw_7, by decide⟩
theorem mt_123 : ip_mt en_123 1 := ⟨⟨by decide +kernel, by decide +kernel⟩, by decide +kernel, tw_1005, tw_7, by decide⟩
theorem mt_124 : ip_mt en_124 2 := ⟨⟨by decide +kernel, by decide +kernel⟩, by decide +kernel, tw_1009, tw_7, by decide⟩
theorem mt_125 : ip_mt en_125 3 := ⟨⟨by decide +kernel, by decide +kernel⟩, by decide +kernel, tw_997, tw_7, by decide⟩
theorem mt_126 : ip_mt en_126 2 := ⟨⟨by decide +kernel, by decide +kernel⟩, by decide +kernel, tw_978, tw_7, by decide⟩
theorem mt_127 : ip_mt en_127 1 := ⟨⟨by decide +kernel, by decide +kernel⟩, by decide +kernel, tw_1024, tw_7, by decide⟩
theorem mt_128 : ip_mt en_128 2 := ⟨⟨by decide +kernel, by decide +kernel⟩, by decide +kernel, tw_884, tw_7, by decide⟩
theorem mt_129 : ip_mt en_129 1 := ⟨⟨by decide +kernel, by decide +kernel⟩, by decide +kernel, tw_900, tw_7, by decide⟩
theorem mt_130 : ip_mt en_130 1 := ⟨⟨by decide +kernel, by decide +kernel⟩, by decide +kernel, tw_903, tw_7, by decide⟩
theorem mt_131 : ip_mt en_131 1 := ⟨⟨by decide +kernel, by decide +kernel⟩, by decide +kernel, tw_906, tw_7, by decide⟩
theorem mt_132 : ip_mt en_132 0 := ⟨⟨by decide +kernel, by decide +kernel⟩, by decide +kernel, tw_896, tw_7, by decide⟩
theorem mt_133 : ip_mt en_133 1 := ⟨⟨by decide +kernel, by decide +kernel⟩, by decide +kernel, tw_922, tw_7, by decide⟩
theorem mt_134 : ip_mt en_134 1 := ⟨⟨by decide +kernel, by decide +kernel⟩, by decide +kernel, tw_963, tw_7, by decide⟩
theorem mt_135 : ip_mt en_135 0 := ⟨⟨by decide +kernel, by decide +kernel⟩, by decide +kernel, tw_929, tw_7, by decide⟩
theorem mt_136 : ip_mt en_136 0 := ⟨⟨by decide +kernel, by decide +kernel⟩, by decide +kernel, tw_917, tw_7, by decide⟩
theorem mt_137 : ip_mt en_137 2 := ⟨⟨by decide +kernel, by decide +kernel⟩, by decide +kernel, tw_948, tw_7, by decide⟩
theorem mt_138 : ip_mt en_138 0 := ⟨⟨by decide +kernel, by decide +kernel⟩, by decide +kernel, tw_959, tw_7, by decide⟩
theorem mt_139 : ip_mt en_139 3 := ⟨⟨by decide +kernel, by decide +kernel⟩, by decide +kernel, tw_944, tw_7, by decide⟩
theorem mt_140 : ip_mt en_140 1 := ⟨⟨by decide +kernel, by decide +kernel⟩, by decide +kernel, tw_954, tw_7, by decide⟩
theorem mt_141 : ip_mt en_141 1 := ⟨⟨by decide +kernel, by decide +kernel⟩, by decide +kernel, tw_939, tw_7, by decide⟩
theorem mt_142 : ip_mt en_142 0 := ⟨⟨by decide +kernel, by decide +kernel⟩, by decide +kernel, tw_913, tw_7, by decide⟩
theorem mt_143 : ip_mt en_143 0 := ⟨⟨by decide +kernel, by decide +kernel⟩, by decide +kernel, tw_892, tw_7, by decide⟩
theorem mt_144 : ip_mt en_144 1 := ⟨⟨by decide +kernel, by decide +kernel⟩, by decide +kernel, tw_966, tw_7, by decide⟩
theorem mt_145 : ip_mt en_145 2 := ⟨⟨by decide +kernel, by decide +kernel⟩, by decide +kernel, tw_974, tw_7, by decide⟩
theorem mt_146 : ip_mt en_146 1 := ⟨⟨by decide +kernel, by decide +kernel⟩, by decide +kernel, tw_982, tw_7, by decide⟩
theorem mt_147 : ip_mt en_147 2 := ⟨⟨by decide +kernel, by decide +kernel⟩, by decide +kernel, tw_986, tw_7, by decide⟩
theorem mt_148 : ip_mt en_148 2 := ⟨⟨by decide +kernel, by decide +kernel⟩, by decide +kernel, tw_993, tw_7, by decide⟩
theorem mt_149 : ip_mt en_149 2 := ⟨⟨by decide +kernel, by decide +kernel⟩, by decide +kernel, tw_990, tw_7, by decide⟩
theorem mt_150 : ip_mt en_150 2 := ⟨⟨by decide +kernel, by decide +kernel⟩, by decide +kernel, tw_1001, tw_7, by decide⟩
theorem mt_151 : ip_mt en_151 1 := ⟨⟨by decide +kernel, by decide +kernel⟩, by decide +kernel, tw_1021, tw_7, by decide⟩
theorem mt_152 : ip_mt en_152 1 := ⟨⟨by decide +kernel, by decide +kernel⟩, by decide +kernel, tw_1028, tw_7, by decide⟩
theorem mt_153 : ip_mt en_153 1 := ⟨⟨by decide +kernel, by decide +kernel⟩, by decide +kernel, tw_1017, tw_7, by decide⟩
theorem mt_154 : ip_mt en_154 1 := ⟨⟨by decide +kernel, by decide +kernel⟩, by decide +kernel, tw_1032, tw_7, by decide⟩
theorem mt_155 : ip_mt en_155 2 := ⟨⟨by decide +kernel, by decide +kernel⟩, by decide +kernel, tw_1013, tw_7, by decide⟩
theorem mt_156 : ip_mt en_156 3 := ⟨⟨by decide +kernel, by decide +kernel⟩, by decide +kernel, tw_1036, tw_7, by decide⟩
theorem mt_157 : ip_mt en_157 3 := ⟨⟨by decide +kernel, by decide +kernel⟩, by decide +kernel, tw_1040, tw_7, by decide⟩
theorem mt_158 : ip_mt en_158 2 := ⟨⟨by decide +kernel, by decide +kernel⟩, by decide +kernel, tw_1044, tw_7, by decide⟩
theorem mt_159 : ip_mt en_159 1 := ⟨⟨by decide +kernel, by decide +kernel⟩, by decide +kernel, tw_1064, tw_7, by decide⟩
theorem mt_160 : ip_mt en_160 1 := ⟨⟨by decide +kernel, by decide +kernel⟩, by decide +kernel, tw_1060, tw_7, by decide⟩
theorem mt_161 : ip_mt en_161 1 := ⟨⟨by decide +kernel, by decide +kernel⟩, by decide +kernel, tw_1056, tw_7, by decide⟩
theorem mt_162 : ip_mt en_162 0 := ⟨⟨by decide +kernel, by decide +kernel⟩, by decide +kernel, tw_1052, tw_7, by decide⟩
theorem mt_163 : ip_mt en_163 0 := ⟨⟨by decide +kernel, by decide +kernel⟩, by decide +kernel, tw_1071, tw_7, by decide⟩
theorem mt_164 : ip_mt en_164 0 := ⟨⟨by decide +kernel, by decide +kernel⟩, by decide +kernel, tw_1096, tw_7, by decide⟩
theorem mt_165 : ip_mt en_165 1 := ⟨⟨by decide +kernel, by decide +kernel⟩, by decide +kernel, tw_1048, tw_7, by decide⟩
theorem mt_166 : ip_mt en_166 0 := ⟨⟨by decide +kernel, by decide +kernel⟩, by decide +kernel, tw_1087, tw_7, by decide⟩
theorem mt_167 : ip_mt en_167 1 := ⟨⟨by decide +kernel, by decide +kernel⟩, by decide +kernel, tw_1075, tw_7, by decide⟩
theorem mt_168 : ip_mt en_168 0 := ⟨⟨by decide +kernel, by decide +kernel⟩, by decide +kernel, tw_1083, tw_7, by decide⟩
theorem mt_169 : ip_mt en_169 0 := ⟨⟨by decide +kernel, by decide +kernel⟩, by decide +kernel, tw_1079, tw_7, by decide⟩
theorem mt_170 : ip_mt en_170 1 := ⟨⟨by decide +kernel, by decide +kernel⟩, by decide +kernel, tw_1092, tw_7, by decide⟩
theorem mt_171 : ip_mt en_171 2 := ⟨⟨by decide +kernel, by decide +kernel⟩, by decide +kernel, tw_1116, tw_7, by decide⟩
theorem mt_172 : ip_mt en_172 2 := ⟨⟨by decide +kernel, by decide +kernel⟩, by decide +kernel, tw_1168, tw_7, by decide⟩
theorem mt_173 : ip_mt en_173 1 := ⟨⟨by decide +kernel, by decide +kernel⟩, by decide +kernel, tw_1112, tw_7, by decide⟩
theorem mt_174 : ip_mt en_174 0 := ⟨⟨by decide +kernel, by decide +kernel⟩, by decide +kernel, tw_1108, tw_7, by decide⟩
theorem mt_175 : ip_mt en_175 0 := ⟨⟨by decide +kernel, by decide +kernel⟩, by decide +kernel, tw_1104, tw_7, by decide⟩
theorem mt_176 : ip_mt en_176 1 := ⟨⟨by decide +kernel, by decide +kernel⟩, by decide +kernel, tw_1100, tw_7, by decide⟩
theorem mt_177 : ip_mt en_177 1 := ⟨⟨by decide +kernel, by decide +kernel⟩, by decide +kernel, tw_1128, tw_7, by decide⟩
theorem mt_178 : ip_mt en_178 2 := ⟨⟨by decide +kernel, by decide +kernel⟩, by decide +kernel, tw_1124, tw_7, by decide⟩
theorem mt_179 : ip_mt en_179 2 := ⟨⟨by decide +kernel, by decide +kernel⟩, by decide +kernel, tw_1120, tw_7, by decide⟩
theorem mt_180 : ip_mt en_180 1 := ⟨⟨by decide +kernel, by decide +kernel⟩, by decide +kernel, tw_1132, tw_7, by decide⟩
theorem mt_181 : ip_mt en_181 1 := ⟨⟨by decide +kernel, by decide +kernel⟩, by decide +kernel, tw_1136, tw_7, by decide⟩
theorem mt_182 : ip_mt en_182 0 := ⟨⟨by decide +kernel, by decide +kernel⟩, by decide +kernel, tw_1140, tw_7, by decide⟩
theorem mt_183 : ip_mt en_183 4 := ⟨⟨by decide +kernel, by decide +kernel⟩, by decide +kernel, tw_1148, tw_7, by decide⟩
theorem mt_184 : ip_mt en_184 2 := ⟨⟨by decide +kernel, by decide +kernel⟩, by decide +kernel, tw_1144, tw_7, by decide⟩
theorem mt_185 : ip_mt en_185 2 := ⟨⟨by decide +kernel, by decide +kernel⟩, by decide +kernel, tw_1152, tw_7, by decide⟩
theorem mt_186 : ip_mt en_186 2 := ⟨⟨by decide +kernel, by decide +kernel⟩, by decide +kernel, tw_1156, tw_7, by decide⟩
theorem mt_187 : ip_mt en_187 2 := ⟨⟨by decide +kernel, by decide +kernel⟩, by decide +kernel, tw_1160, tw_7, by decide⟩
theorem mt_188 : ip_mt en_188 3 := ⟨⟨by decide +kernel, by decide +kernel⟩, by decide +kernel, tw_1164, tw_7, by decide⟩
theorem mt_189 : ip_mt en_189 2 := ⟨⟨by decide +kernel, by decide +kernel⟩, by decide +kernel, tw_1179, tw_7, by decide⟩
theorem mt_190 : ip_mt en_190 3 := ⟨⟨by decide +kernel, by decide +kernel⟩, by decide +kernel, tw_1172, tw_7, by decide⟩
theorem mt_191 : ip_mt en_191 3 := ⟨⟨by decide +kernel, by decide +kernel⟩, by decide +kernel, tw_1189, tw_7, by decide⟩
theorem mt_192 : ip_mt en_192 2 := ⟨⟨by decide +kernel, by decide +kernel⟩, by decide +kernel, tw_1186, tw_7, by decide⟩
theorem mt_193 : ip_mt en_193 3 := ⟨⟨by decide +kernel, by decide +kernel⟩, by decide +kernel, tw_1183, tw_7, by decide⟩
theorem mt_194 : ip_mt en_194 2 := ⟨⟨by decide +kernel, by decide +kernel⟩, by decide +kernel, tw_1193, tw_7, by decide⟩
theorem mt_195 : ip_mt en_195 2 := ⟨⟨by decide +kernel, by decide +kernel⟩, by decide +kernel, tw_1202, tw_7, by decide⟩
theorem mt_196 : ip_mt en_196 2 := ⟨⟨by decide +kernel, by decide +kernel⟩, by decide +kernel, tw_1198, tw_7, by decide⟩
theorem mt_197 : ip_mt en_197 2 := ⟨⟨by decide +kernel, by decide +kernel⟩, by decide +kernel, tw_1210, tw_7, by decide⟩
theorem mt_198 : ip_mt en_198 2 := ⟨⟨by decide +kernel, by decide +kernel⟩, by decide +kernel, tw_1206, tw_7, by decide⟩
theorem mt_199 : ip_mt en_199 3 := ⟨⟨by decide +kernel, by decide +kernel⟩, by decide +kernel, tw_1214, tw_7, by decide⟩
theorem mt_200 : ip_mt en_200 1 := ⟨⟨by decide +kernel, by decide +kernel⟩, by decide +kernel, tw_1218, tw_7, by decide⟩
theorem mt_201 : ip_mt en_201 4 := ⟨⟨by decide +kernel, by decide +kernel⟩, by decide +kernel, tw_1222, tw_7, by decide⟩
theorem mt_202 : ip_mt en_202 1 := ⟨⟨by decide +kernel, by decide +kernel⟩, by decide +kernel, tw_1175, tw_7, by decide⟩
theorem mt_203 : ip_mt en_203 3 := ⟨⟨by decide +kernel, by decide +kernel⟩, by decide +kernel, tw_1230, tw_7, by decide⟩
theorem mt_204 : ip_mt en_204 3 := ⟨⟨by decide +kernel, by decide +kernel⟩, by decide +kernel, tw_1234, tw_7, by decide⟩
theorem mt_205 : ip_mt en_205 2 := ⟨⟨by decide +kernel, by decide +kernel⟩, by decide +kernel, tw_1226, tw_7, by decide⟩
theorem mt_206 : ip_mt en_206 3 := ⟨⟨by decide +kernel, by decide +kernel⟩, by decide +kernel, tw_1238, tw_7, by decide⟩
theorem mt_207 : ip_mt en_207 2 := ⟨⟨by decide +kernel, by decide +kernel⟩, by decide +kernel, tw_1246, tw_7, by decide⟩
theorem mt_208 : ip_mt en_208 3 := ⟨⟨by decide +kernel, by decide +kernel⟩, by decide +kernel, tw_1242, tw_7, by decide⟩
theorem mt_209 : ip_mt en_209 1 := ⟨⟨by decide +kernel, by decide +kernel⟩, by decide +kernel, tw_1254, tw_7, by decide⟩
theorem mt_210 : ip_mt en_210 2 := ⟨⟨by decide +kernel, by decide +kernel⟩, by decide +kernel, tw_1257, tw_7, by decide⟩
theorem mt_211 : ip_mt en_211 2 := ⟨⟨by decide +kernel, by decide +kernel⟩, by decide +kernel, tw_1250, tw_7, by decide⟩
theorem mt_212 : ip_mt en_212 1 := ⟨⟨by decide +kernel, by decide +kernel⟩, by decide +kernel, tw_1273, tw_7, by decide⟩
theorem mt_213 : ip_mt en_213 1 := ⟨⟨by decide +kernel, by decide +kernel⟩, by decide +kernel, tw_1277, tw_7, by decide⟩
theorem mt_214 : ip_mt en_214 1 := ⟨⟨by decide +kernel, by decide +kernel⟩, by decide +kernel, tw_1269, tw_7, by decide⟩
theorem mt_215 : ip_mt en_215 1 := ⟨⟨by decide +kernel, by decide +kernel⟩, by decide +kernel, tw_1265, tw_7, by decide⟩
theorem mt_216 : ip_mt en_216 1 := ⟨⟨by decide +kernel, by decide +kernel⟩, by decide +kernel, tw_1285, tw_7, by decide⟩
theorem mt_217 : ip_mt en_217 1 := ⟨⟨by decide +kernel, by decide +kernel⟩, by decide +kernel, tw_1281, tw_7, by decide⟩
theorem mt_218 : ip_mt en_218 1 := ⟨⟨by decide +kernel, by decide +kernel⟩, by decide +kernel, tw_1293, tw_7, by decide⟩
theorem mt_219 : ip_mt en_219 1 := ⟨⟨by decide +kernel, by decide +kernel⟩, by decide +kernel, tw_1289, tw_7, by decide⟩
theorem mt_220 : ip_mt en_220 1 := ⟨⟨by decide +kernel, by decide +kernel⟩, by decide +kernel, tw_1301, tw_7, by decide⟩
theorem mt_221 : ip_mt en_221 1 := ⟨⟨by decide +kernel, by decide +kernel⟩, by decide +kernel, tw_1297, tw_7, by decide⟩
theorem mt_222 : ip_mt en_222 3 := ⟨⟨by decide +kernel, by decide +kernel⟩, by decide +kernel, tw_1261, tw_7, by decide⟩
theorem mt_223 : ip_mt en_223 1 := ⟨⟨by decide +kernel, by decide +kernel⟩, by decide +kernel, tw_1305, tw_7, by decide⟩
theorem mt_224 : ip_mt en_224 1 := ⟨⟨by decide +kernel, by decide +kernel⟩, by decide +kernel, tw_1309, tw_7, by decide⟩
theorem mt_225 : ip_mt en_225 0 := ⟨⟨by decide +kernel, by decide +kernel⟩, by decide +kernel, tw_1313, tw_7, by decide⟩
theorem mt_226 : ip_mt en_226 0 := ⟨⟨by decide +kernel, by decide +kernel⟩, by decide +kernel, tw_1317, tw_7, by decide⟩
theorem mt_227 : ip_mt en_227 1 := ⟨⟨by decide +kernel, by decide +kernel⟩, by decide +kernel, tw_433, tw_12, by decide⟩
theorem mt_228 : ip_mt en_228 0 := ⟨⟨by decide +kernel, by decide +kernel⟩, by decide +kernel, tw_281, tw_8, by decide⟩
theorem mt_229 : ip_mt en_229 1 := ⟨⟨by decide +kernel, by decide +kernel⟩, by decide +kernel, tw_291, tw_8, by decide⟩
theorem mt_230 : ip_mt en_230 0 := ⟨⟨by decide +kernel, by decide +kernel⟩, by decide +kernel, tw_285, tw_8, by decide⟩
theorem mt_231 : ip_mt en_231 0 := ⟨⟨by decide +kernel, by decide +kernel⟩, by decide +kernel, tw_295, tw_8, by decide⟩
theorem mt_232 : ip_mt en_232 2 := ⟨⟨by decide +kernel, by decide +kernel⟩, by decide +kernel, tw_301, tw_8, by decide⟩
theorem mt_233 : ip_mt en_233 2 := ⟨⟨by decide +kernel, by decide +kernel⟩, by decide +kernel, tw_298, tw_9, by decide⟩
theorem mt_234 : ip_mt en_234 3 := ⟨⟨by decide +kernel, by decide +kernel⟩, by decide +kernel, tw_306, tw_10, by decide⟩
theorem dX0_init_0 : decode cX0_init 0 = .ok (.aload_n 0, 1) := by decide +kernel
theorem dX0_init_1 : decode cX0_init 1 = .ok (.invokespecial 3, 3) := by decide +kernel
theorem dX0_init_4 : decode cX0_init 4 = .ok (.aload_n 0, 1) := by decide +kernel
theorem dX0_init_5 : decode cX0_init 5 = .ok (.bipush 30, 2) := by decide +kernel
theorem dX0_init_7 : decode cX0_init 7 = .ok (.newarray .int, 2) := by decide +kernel
theorem dX0_init_9 : decode cX0_init 9 = .ok (.putfield 9, 3) := by decide +kernel
theorem dX0_init_12 : decode cX0_init 12 = .ok (.return_, 1) := by decide +kernel
def pc_X0_init (i : Nat) : Nat := ([0] : List Nat).getD i 0
set_option maxRecDepth 20000 in
theorem ob_X0_init_0 {x : ip_Cx} {G : ip_Gl} {d : Nat} (X : ip_X x G tb 1 d 1 30 RX0 cX0_init) (hr : x.2.2.2.2.2.2.2.2.1.sig.returnType = none) (hnm : x.2.2.2.2.2.2.2.2.1.name = "<init>") : ip_okB x G 1 pc_X0_init 0 ([oLdA 0, oObj, oLdA 0, oI (30), oNwA 1 30 .int (fun N => (N, .inl (fun _ => 0))), oPut 0 0 (.array .int)], tRV 1 30) := ⟨_, okC (ok_aldn X rfl dX0_init_0)
  (okC (ok_obj X tw_174 tw_21 tw_22 dX0_init_1)
  (okC (ok_aldn X rfl dX0_init_4)
  (okC (ok_bi X (by decide) dX0_init_5)
  (okC (ok_nwI X tw_96 dX0_init_7)
  (okC (ok_put X (ci := 0) rfl (by decide) iw_X0 tyX0_ok nmX0 rfl (Or.inr ⟨rfl, hnm, rfl⟩) tw_175 dX0_init_9)
  (okN)))))), ok_vret X hr dX0_init_12⟩
theorem om_0 : ip_MOk tb en_0 pc_X0_init := fun x G d X hr hnm => ⟨ob_X0_init_0 X hr hnm, trivial⟩
theorem dX0_forget_0 : decode cX0_forget 0 = .ok (.aload_n 0, 1) := by decide +kernel
theorem dX0_forget_1 : decode cX0_forget 1 = .ok (.iconst 0, 1) := by decide +kernel
theorem dX0_forget_2 : decode cX0_forget 2 = .ok (.putfield 15, 3) := by decide +kernel
theorem dX0_forget_5 : decode cX0_forget 5 = .ok (.aload_n 0, 1) := by decide +kernel
theorem dX0_forget_6 : decode cX0_forget 6 = .ok (.iconst 0, 1) := by decide +kernel
theorem dX0_forget_7 : decode cX0_forget 7 = .ok (.putfield 19, 3) := by decide +kernel
theorem dX0_forget_10 : decode cX0_forget 10 = .ok (.return_, 1) := by decide +kernel
def pc_X0_forget (i : Nat) : Nat := ([0] : List Nat).getD i 0
set_option maxRecDepth 20000 in
theorem ob_X0_forget_0 {x : ip_Cx} {G : ip_Gl} {d : Nat} (X : ip_X x G tb 1 d 0 0 RX0 cX0_forget) (hr : x.2.2.2.2.2.2.2.2.1.sig.returnType = none) (hnm : x.2.2.2.2.2.2.2.2.1.name = "forget") : ip_okB x G 1 pc_X0_forget 0 ([oLdA 0, oI (0), oPut 0 1 .int, oLdA 0, oI (0), oPut 0 2 .boolean], tRV 0 0) := ⟨_, okC (ok_aldn X rfl dX0_forget_0)
  (okC (ok_ic X (by decide) dX0_forget_1)
  (okC (ok_put X (ci := 0) rfl (by decide) iw_X0 tyX0_ok nmX0 rfl (Or.inl rfl) tw_177 dX0_forget_2)
  (okC (ok_aldn X rfl dX0_forget_5)
  (okC (ok_ic X (by decide) dX0_forget_6)
  (okC (ok_put X (ci := 0) rfl (by decide) iw_X0 tyX0_ok nmX0 rfl (Or.inl rfl) tw_179 dX0_forget_7)
  (okN)))))), ok_vret X hr dX0_forget_10⟩
theorem om_1 : ip_MOk tb en_1 pc_X0_forget := fun x G d X hr hnm => ⟨ob_X0_forget_0 X hr hnm, trivial⟩
theorem dX0_perform_0 : decode cX0_perform 0 = .ok (.aload_n 0, 1) := by decide +kernel
theorem dX0_perform_1 : decode cX0_perform 1 = .ok (.iload_n 1, 1) := by decide +kernel
theorem dX0_perform_2 : decode cX0_perform 2 = .ok (.putfield 23, 3) := by decide +kernel
theorem dX0_perform_5 : decode cX0_perform 5 = .ok (.aload_n 0, 1) := by decide +kernel
theorem dX0_perform_6 : decode cX0_perform 6 = .ok (.iload_n 2, 1) := by decide +kernel
theorem dX0_perform_7 : decode cX0_perform 7 = .ok (.putfield 26, 3) := by decide +kernel
theorem dX0_perform_10 : decode cX0_perform 10 = .ok (.aload_n 0, 1) := by decide +kernel
theorem dX0_perform_11 : decode cX0_perform 11 = .ok (.iload_n 3, 1) := by decide +kernel
theorem dX0_perform_12 : decode cX0_perform 12 = .ok (.putfield 29, 3) := by decide +kernel
theorem dX0_perform_15 : decode cX0_perform 15 = .ok (.aload_n 0, 1) := by decide +kernel
theorem dX0_perform_16 : decode cX0_perform 16 = .ok (.aload_n 0, 1) := by decide +kernel
theorem dX0_perform_17 : decode cX0_perform 17 = .ok (.iload 4, 2) := by decide +kernel
theorem dX0_perform_19 : decode cX0_perform 19 = .ok (.invokevirtual 32, 3) := by decide +kernel
theorem dX0_perform_22 : decode cX0_perform 22 = .ok (.iload 5, 2) := by decide +kernel
theorem dX0_perform_24 : decode cX0_perform 24 = .ok (.iconst 0, 1) := by decide +kernel
theorem dX0_perform_25 : decode cX0_perform 25 = .ok (.invokevirtual 36, 3) := by decide +kernel
theorem dX0_perform_28 : decode cX0_perform 28 = .ok (.istore 6, 2) := by decide +kernel
theorem dX0_perform_30 : decode cX0_perform 30 = .ok (.aload_n 0, 1) := by decide +kernel
theorem dX0_perform_31 : decode cX0_perform 31 = .ok (.getfield 19, 3) := by decide +kernel
theorem dX0_perform_34 : decode cX0_perform 34 = .ok (.ifCond .eq 8, 3) := by decide +kernel
theorem dX0_perform_37 : decode cX0_perform 37 = .ok (.bipush (-15), 2) := by decide +kernel
theorem dX0_perform_39 : decode cX0_perform 39 = .ok (.goto 5, 3) := by decide +kernel
theorem dX0_perform_42 : decode cX0_perform 42 = .ok (.iload 6, 2) := by decide +kernel
theorem dX0_perform_44 : decode cX0_perform 44 = .ok (.ireturn, 1) := by decide +kernel
def pc_X0_perform (i : Nat) : Nat := ([0, 37, 42, 44] : List Nat).getD i 0
set_option maxRecDepth 20000 in
theorem ob_X0_perform_0 {x : ip_Cx} {G : ip_Gl} {d : Nat} (X : ip_X x G tb 7 d 0 0 RX0 cX0_perform) (hr : x.2.2.2.2.2.2.2.2.1.sig.returnType = (some .int)) (hnm : x.2.2.2.2.2.2.2.2.1.name = "perform") : ip_okB x G 7 pc_X0_perform 0 ([oLdA 0, oLdI 1, oPut 0 3 .int, oLdA 0, oLdI 2, oPut 0 4 .int, oLdA 0, oLdI 3, oPut 0 5 .int, oLdA 0, oLdA 0, oLdI 4, oCaV (ip_call tb d) 0 0 0 3 2 0 0, oLdI 5, oI (0), oCaV (ip_call tb d) 0 0 0 5 4 0 0, oStI 6, oLdA 0, oGet 0 2], tIf (fun a => a = 0) 2 1) := ⟨_, okC (ok_aldn X rfl dX0_perform_0)
  (okC (ok_ildn X rfl dX0_perform_1)
  (okC (ok_put X (ci := 0) rfl (by decide) iw_X0 tyX0_ok nmX0 rfl (Or.inl rfl) tw_180 dX0_perform_2)
  (okC (ok_aldn X rfl dX0_perform_5)
  (okC (ok_ildn X rfl dX0_perform_6)
  (okC (ok_put X (ci := 0) rfl (by decide) iw_X0 tyX0_ok nmX0 rfl (Or.inl rfl) tw_181 dX0_perform_7)
  (okC (ok_aldn X rfl dX0_perform_10)
  (okC (ok_ildn X rfl dX0_perform_11)
  (okC (ok_put X (ci := 0) rfl (by decide) iw_X0 tyX0_ok nmX0 rfl (Or.inl rfl) tw_182 dX0_perform_12)
  (okC (ok_aldn X rfl dX0_perform_15)
  (okC (ok_aldn X rfl dX0_perform_16)
  (okC (ok_ild X dX0_perform_17)
  (okC (ok_calV X (i := 32) (e := en_3) rfl mt_3 rfl rfl rfl tw_751 tw_752 (Or.inl ⟨_, _, rfl⟩) tw_753 dX0_perform_19)
  (okC (ok_ild X dX0_perform_22)
  (okC (ok_ic X (by decide) dX0_perform_24)
  (okC (ok_calV X (i := 36) (e := en_5) rfl mt_5 rfl rfl rfl tw_758 tw_759 (Or.inl ⟨_, _, rfl⟩) tw_760 dX0_perform_25)
  (okC (ok_ist X (by decide) dX0_perform_28)
  (okC (ok_aldn X rfl dX0_perform_30)
  (okC (ok_get X (ci := 0) rfl (by decide) iw_X0 tw_179 dX0_perform_31)
  (okN))))))))))))))))))), ok_ifeq X (by decide) rfl dX0_perform_34⟩
set_option maxRecDepth 20000 in
theorem ob_X0_perform_1 {x : ip_Cx} {G : ip_Gl} {d : Nat} (X : ip_X x G tb 7 d 0 0 RX0 cX0_perform) (hr : x.2.2.2.2.2.2.2.2.1.sig.returnType = (some .int)) (hnm : x.2.2.2.2.2.2.2.2.1.name = "perform") : ip_okB x G 7 pc_X0_perform 37 ([oI (-15)], tGo 3) := ⟨_, okC (ok_bi X (by decide) dX0_perform_37)
  (okN), ok_go X (by decide) dX0_perform_39⟩
set_option maxRecDepth 20000 in
theorem ob_X0_perform_2 {x : ip_Cx} {G : ip_Gl} {d : Nat} (X : ip_X x G tb 7 d 0 0 RX0 cX0_perform) (hr : x.2.2.2.2.2.2.2.2.1.sig.returnType = (some .int)) (hnm : x.2.2.2.2.2.2.2.2.1.name = "perform") : ip_okB x G 7 pc_X0_perform 42 ([oLdI 6], tGo 3) := ⟨_, okC (ok_ild X dX0_perform_42)
  (okN), ok_fall rfl⟩
set_option maxRecDepth 20000 in
theorem ob_X0_perform_3 {x : ip_Cx} {G : ip_Gl} {d : Nat} (X : ip_X x G tb 7 d 0 0 RX0 cX0_perform) (hr : x.2.2.2.2.2.2.2.2.1.sig.returnType = (some .int)) (hnm : x.2.2.2.2.2.2.2.2.1.name = "perform") : ip_okB x G 7 pc_X0_perform 44 ([], tRI .int 0 0) := ⟨_, okN, ok_ret X hr dX0_perform_44⟩
theorem om_2 : ip_MOk tb en_2 pc_X0_perform := fun x G d X hr hnm => ⟨ob_X0_perform_0 X hr hnm, ⟨ob_X0_perform_1 X hr hnm, ⟨ob_X0_perform_2 X hr hnm, ⟨ob_X0_perform_3 X hr hnm, trivial⟩⟩⟩⟩
theorem dX0_ownBody_0 : decode cX0_ownBody 0 = .ok (.aload_n 0, 1) := by decide +kernel
theorem dX0_ownBody_1 : decode cX0_ownBody 1 = .ok (.getfield 23, 3) := by decide +kernel
theorem dX0_ownBody_4 : decode cX0_ownBody 4 = .ok (.iconst 4, 1) := by decide +kernel
theorem dX0_ownBody_5 : decode cX0_ownBody 5 = .ok (.imul, 1) := by decide +kernel
theorem dX0_ownBody_6 : decode cX0_ownBody 6 = .ok (.iload_n 1, 1) := by decide +kernel
theorem dX0_ownBody_7 : decode cX0_ownBody 7 = .ok (.iadd, 1) := by decide +kernel
theorem dX0_ownBody_8 : decode cX0_ownBody 8 = .ok (.istore_n 2, 1) := by decide +kernel
theorem dX0_ownBody_9 : decode cX0_ownBody 9 = .ok (.iload_n 2, 1) := by decide +kernel
theorem dX0_ownBody_10 : decode cX0_ownBody 10 = .ok (.iconst 0, 1) := by decide +kernel
theorem dX0_ownBody_11 : decode cX0_ownBody 11 = .ok (.getstatic 40, 3) := by decide +kernel
theorem dX0_ownBody_14 : decode cX0_ownBody 14 = .ok (.arraylength, 1) := by decide +kernel
theorem dX0_ownBody_15 : decode cX0_ownBody 15 = .ok (.iconst 1, 1) := by decide +kernel
theorem dX0_ownBody_16 : decode cX0_ownBody 16 = .ok (.isub, 1) := by decide +kernel
theorem dX0_ownBody_17 : decode cX0_ownBody 17 = .ok (.invokestatic 43, 3) := by decide +kernel
theorem dX0_ownBody_20 : decode cX0_ownBody 20 = .ok (.ifCond .eq 11, 3) := by decide +kernel
theorem dX0_ownBody_23 : decode cX0_ownBody 23 = .ok (.getstatic 40, 3) := by decide +kernel
theorem dX0_ownBody_26 : decode cX0_ownBody 26 = .ok (.iload_n 2, 1) := by decide +kernel
theorem dX0_ownBody_27 : decode cX0_ownBody 27 = .ok (.iaload, 1) := by decide +kernel
theorem dX0_ownBody_28 : decode cX0_ownBody 28 = .ok (.goto 4, 3) := by decide +kernel
theorem dX0_ownBody_31 : decode cX0_ownBody 31 = .ok (.iconst 0, 1) := by decide +kernel
theorem dX0_ownBody_32 : decode cX0_ownBody 32 = .ok (.ireturn, 1) := by decide +kernel
def pc_X0_ownBody (i : Nat) : Nat := ([0, 23, 31, 32] : List Nat).getD i 0
set_option maxRecDepth 20000 in
theorem ob_X0_ownBody_0 {x : ip_Cx} {G : ip_Gl} {d : Nat} (X : ip_X x G tb 3 d 0 0 RX0 cX0_ownBody) (hr : x.2.2.2.2.2.2.2.2.1.sig.returnType = (some .int)) (hnm : x.2.2.2.2.2.2.2.2.1.name = "ownBody") : ip_okB x G 3 pc_X0_ownBody 0 ([oLdA 0, oGet 0 3, oI (4), oBI (fun a b => a * b), oLdI 1, oBI (fun a b => a + b), oStI 2, oLdI 2, oI (0), oRef 4, oLen, oI (1), oBI (fun a b => a - b), oCal (ip_call tb d) 0 0 95 3 0 0], tIf (fun a => a = 0) 2 1) := ⟨_, okC (ok_aldn X rfl dX0_ownBody_0)
  (okC (ok_get X (ci := 0) rfl (by decide) iw_X0 tw_180 dX0_ownBody_1)
  (okC (ok_ic X (by decide) dX0_ownBody_4)
  (okC (ok_imul X dX0_ownBody_5)
  (okC (ok_ildn X rfl dX0_ownBody_6)
  (okC (ok_iadd X dX0_ownBody_7)
  (okC (ok_istn X rfl (by decide) dX0_ownBody_8)
  (okC (ok_ildn X rfl dX0_ownBody_9)
  (okC (ok_ic X (by decide) dX0_ownBody_10)
  (okC (ok_gsN X (q := (RX5, "BODIES", "[I", .ref 4)) (by simp [ip_stat]) rfl rfl (by simp [ip_nesF]) dX0_ownBody_11)
  (okC (ok_len X dX0_ownBody_14)
  (okC (ok_ic X (by decide) dX0_ownBody_15)
  (okC (ok_isub X dX0_ownBody_16)
  (okC (ok_calSN X (i := 43) (e := en_95) rfl mt_95 rfl rfl rfl (List.mem_of_getElem? (i := 7) rfl) tw_240 dX0_ownBody_17)
  (okN)))))))))))))), ok_ifeq X (by decide) rfl dX0_ownBody_20⟩
set_option maxRecDepth 20000 in
theorem ob_X0_ownBody_1 {x : ip_Cx} {G : ip_Gl} {d : Nat} (X : ip_X x G tb 3 d 0 0 RX0 cX0_ownBody) (hr : x.2.2.2.2.2.2.2.2.1.sig.returnType = (some .int)) (hnm : x.2.2.2.2.2.2.2.2.1.name = "ownBody") : ip_okB x G 3 pc_X0_ownBody 23 ([oRef 4, oLdI 2, oAldI], tGo 3) := ⟨_, okC (ok_gsN X (q := (RX5, "BODIES", "[I", .ref 4)) (by simp [ip_stat]) rfl rfl (by simp [ip_nesF]) dX0_ownBody_23)
  (okC (ok_ildn X rfl dX0_ownBody_26)
  (okC (ok_iald X dX0_ownBody_27)
  (okN))), ok_go X (by decide) dX0_ownBody_28⟩
set_option maxRecDepth 20000 in
theorem ob_X0_ownBody_2 {x : ip_Cx} {G : ip_Gl} {d : Nat} (X : ip_X x G tb 3 d 0 0 RX0 cX0_ownBody) (hr : x.2.2.2.2.2.2.2.2.1.sig.returnType = (some .int)) (hnm : x.2.2.2.2.2.2.2.2.1.name = "ownBody") : ip_okB x G 3 pc_X0_ownBody 31 ([oI (0)], tGo 3) := ⟨_, okC (ok_ic X (by decide) dX0_ownBody_31)
  (okN), ok_fall rfl⟩
set_option maxRecDepth 20000 in
theorem ob_X0_ownBody_3 {x : ip_Cx} {G : ip_Gl} {d : Nat} (X : ip_X x G tb 3 d 0 0 RX0 cX0_ownBody) (hr : x.2.2.2.2.2.2.2.2.1.sig.returnType = (some .int)) (hnm : x.2.2.2.2.2.2.2.2.1.name = "ownBody") : ip_okB x G 3 pc_X0_ownBody 32 ([], tRI .int 0 0) := ⟨_, okN, ok_ret X hr dX0_ownBody_32⟩
theorem om_3 : ip_MOk tb en_3 pc_X0_ownBody := fun x G d X hr hnm => ⟨ob_X0_ownBody_0 X hr hnm, ⟨ob_X0_ownBody_1 X hr hnm, ⟨ob_X0_ownBody_2 X hr hnm, ⟨ob_X0_ownBody_3 X hr hnm, trivial⟩⟩⟩⟩
theorem dX0_begin_0 : decode cX0_begin 0 = .ok (.aload_n 0, 1) := by decide +kernel
theorem dX0_begin_1 : decode cX0_begin 1 = .ok (.getfield 19, 3) := by decide +kernel
theorem dX0_begin_4 : decode cX0_begin 4 = .ok (.ifCond .ne 32, 3) := by decide +kernel
theorem dX0_begin_7 : decode cX0_begin 7 = .ok (.aload_n 0, 1) := by decide +kernel
theorem dX0_begin_8 : decode cX0_begin 8 = .ok (.getfield 15, 3) := by decide +kernel
theorem dX0_begin_11 : decode cX0_begin 11 = .ok (.bipush 30, 2) := by decide +kernel
theorem dX0_begin_13 : decode cX0_begin 13 = .ok (.if_icmp .ge 23, 3) := by decide +kernel
theorem dX0_begin_16 : decode cX0_begin 16 = .ok (.aload_n 0, 1) := by decide +kernel
theorem dX0_begin_17 : decode cX0_begin 17 = .ok (.getfield 9, 3) := by decide +kernel
theorem dX0_begin_20 : decode cX0_begin 20 = .ok (.aload_n 0, 1) := by decide +kernel
theorem dX0_begin_21 : decode cX0_begin 21 = .ok (.getfield 15, 3) := by decide +kernel
theorem dX0_begin_24 : decode cX0_begin 24 = .ok (.iload_n 1, 1) := by decide +kernel
theorem dX0_begin_25 : decode cX0_begin 25 = .ok (.iastore, 1) := by decide +kernel
theorem dX0_begin_26 : decode cX0_begin 26 = .ok (.aload_n 0, 1) := by decide +kernel
theorem dX0_begin_27 : decode cX0_begin 27 = .ok (.dup, 1) := by decide +kernel
theorem dX0_begin_28 : decode cX0_begin 28 = .ok (.getfield 15, 3) := by decide +kernel
theorem dX0_begin_31 : decode cX0_begin 31 = .ok (.iconst 1, 1) := by decide +kernel
theorem dX0_begin_32 : decode cX0_begin 32 = .ok (.iadd, 1) := by decide +kernel
theorem dX0_begin_33 : decode cX0_begin 33 = .ok (.putfield 15, 3) := by decide +kernel
theorem dX0_begin_36 : decode cX0_begin 36 = .ok (.return_, 1) := by decide +kernel
def pc_X0_begin (i : Nat) : Nat := ([0, 7, 16, 36] : List Nat).getD i 0
set_option maxRecDepth 20000 in
theorem ob_X0_begin_0 {x : ip_Cx} {G : ip_Gl} {d : Nat} (X : ip_X x G tb 2 d 0 0 RX0 cX0_begin) (hr : x.2.2.2.2.2.2.2.2.1.sig.returnType = none) (hnm : x.2.2.2.2.2.2.2.2.1.name = "begin") : ip_okB x G 2 pc_X0_begin 0 ([oLdA 0, oGet 0 2], tIf (fun a => a = 0) 1 3) := ⟨_, okC (ok_aldn X rfl dX0_begin_0)
  (okC (ok_get X (ci := 0) rfl (by decide) iw_X0 tw_179 dX0_begin_1)
  (okN)), ok_ifne X (by decide) rfl dX0_begin_4⟩
set_option maxRecDepth 20000 in
theorem ob_X0_begin_1 {x : ip_Cx} {G : ip_Gl} {d : Nat} (X : ip_X x G tb 2 d 0 0 RX0 cX0_begin) (hr : x.2.2.2.2.2.2.2.2.1.sig.returnType = none) (hnm : x.2.2.2.2.2.2.2.2.1.name = "begin") : ip_okB x G 2 pc_X0_begin 7 ([oLdA 0, oGet 0 1, oI (30)], tCm (fun a b => a < b) 2 3) := ⟨_, okC (ok_aldn X rfl dX0_begin_7)
  (okC (ok_get X (ci := 0) rfl (by decide) iw_X0 tw_177 dX0_begin_8)
  (okC (ok_bi X (by decide) dX0_begin_11)
  (okN))), ok_cmge X (by decide) rfl dX0_begin_13⟩
set_option maxRecDepth 20000 in
theorem ob_X0_begin_2 {x : ip_Cx} {G : ip_Gl} {d : Nat} (X : ip_X x G tb 2 d 0 0 RX0 cX0_begin) (hr : x.2.2.2.2.2.2.2.2.1.sig.returnType = none) (hnm : x.2.2.2.2.2.2.2.2.1.name = "begin") : ip_okB x G 2 pc_X0_begin 16 ([oLdA 0, oGet 0 0, oLdA 0, oGet 0 1, oLdI 1, oAstI, oLdA 0, oDup, oGet 0 1, oI (1), oBI (fun a b => a + b), oPut 0 1 .int], tGo 3) := ⟨_, okC (ok_aldn X rfl dX0_begin_16)
  (okC (ok_get X (ci := 0) rfl (by decide) iw_X0 tw_175 dX0_begin_17)
  (okC (ok_aldn X rfl dX0_begin_20)
  (okC (ok_get X (ci := 0) rfl (by decide) iw_X0 tw_177 dX0_begin_21)
  (okC (ok_ildn X rfl dX0_begin_24)
  (okC (ok_iast X dX0_begin_25)
  (okC (ok_aldn X rfl dX0_begin_26)
  (okC (ok_dup X dX0_begin_27)
  (okC (ok_get X (ci := 0) rfl (by decide) iw_X0 tw_177 dX0_begin_28)
  (okC (ok_ic X (by decide) dX0_begin_31)
  (okC (ok_iadd X dX0_begin_32)
  (okC (ok_put X (ci := 0) rfl (by decide) iw_X0 tyX0_ok nmX0 rfl (Or.inl rfl) tw_177 dX0_begin_33)
  (okN)))))))))))), ok_fall rfl⟩
set_option maxRecDepth 20000 in
theorem ob_X0_begin_3 {x : ip_Cx} {G : ip_Gl} {d : Nat} (X : ip_X x G tb 2 d 0 0 RX0 cX0_begin) (hr : x.2.2.2.2.2.2.2.2.1.sig.returnType = none) (hnm : x.2.2.2.2.2.2.2.2.1.name = "begin") : ip_okB x G 2 pc_X0_begin 36 ([], tRV 0 0) := ⟨_, okN, ok_vret X hr dX0_begin_36⟩
theorem om_4 : ip_MOk tb en_4 pc_X0_begin := fun x G d X hr hnm => ⟨ob_X0_begin_0 X hr hnm, ⟨ob_X0_begin_1 X hr hnm, ⟨ob_X0_begin_2 X hr hnm, ⟨ob_X0_begin_3 X hr hnm, trivial⟩⟩⟩⟩
theorem dX0_run_0 : decode cX0_run 0 = .ok (.iload_n 3, 1) := by decide +kernel
theorem dX0_run_1 : decode cX0_run 1 = .ok (.bipush 40, 2) := by decide +kernel
theorem dX0_run_3 : decode cX0_run 3 = .ok (.if_icmp .le 5, 3) := by decide +kernel
theorem dX0_run_6 : decode cX0_run 6 = .ok (.iconst 0, 1) := by decide +kernel
theorem dX0_run_7 : decode cX0_run 7 = .ok (.ireturn, 1) := by decide +kernel
theorem dX0_run_8 : decode cX0_run 8 = .ok (.aload_n 0, 1) := by decide +kernel
theorem dX0_run_9 : decode cX0_run 9 = .ok (.iload_n 1, 1) := by decide +kernel
theorem dX0_run_10 : decode cX0_run 10 = .ok (.invokevirtual 47, 3) := by decide +kernel
theorem dX0_run_13 : decode cX0_run 13 = .ok (.iload_n 3, 1) := by decide +kernel
theorem dX0_run_14 : decode cX0_run 14 = .ok (.iconst 1, 1) := by decide +kernel
theorem dX0_run_15 : decode cX0_run 15 = .ok (.iadd, 1) := by decide +kernel
theorem dX0_run_16 : decode cX0_run 16 = .ok (.istore 4, 2) := by decide +kernel
theorem dX0_run_18 : decode cX0_run 18 = .ok (.iload_n 1, 1) := by decide +kernel
theorem dX0_run_19 : decode cX0_run 19 = .ok (.tableswitch 436 10 61 #[221, 231, 249, 264, 436, 436, 436, 436, 436, 436, 280, 436, 436, 436, 436, 436, 436, 436, 436, 436, 292, 305, 436, 436, 436, 436, 436, 436, 436, 436, 331, 343, 436, 436, 436, 436, 436, 436, 436, 436, 369, 386, 436, 436, 436, 436, 436, 436, 436, 436, 398, 410], 221) := by decide +kernel
theorem dX0_run_240 : decode cX0_run 240 = .ok (.iload_n 2, 1) := by decide +kernel
theorem dX0_run_241 : decode cX0_run 241 = .ok (.bipush 8, 2) := by decide +kernel
theorem dX0_run_243 : decode cX0_run 243 = .ok (.imul, 1) := by decide +kernel
theorem dX0_run_244 : decode cX0_run 244 = .ok (.aload_n 0, 1) := by decide +kernel
theorem dX0_run_245 : decode cX0_run 245 = .ok (.getfield 26, 3) := by decide +kernel
theorem dX0_run_248 : decode cX0_run 248 = .ok (.isub, 1) := by decide +kernel
theorem dX0_run_249 : decode cX0_run 249 = .ok (.ireturn, 1) := by decide +kernel
theorem dX0_run_250 : decode cX0_run 250 = .ok (.aload_n 0, 1) := by decide +kernel
theorem dX0_run_251 : decode cX0_run 251 = .ok (.aload_n 0, 1) := by decide +kernel
theorem dX0_run_252 : decode cX0_run 252 = .ok (.iconst 0, 1) := by decide +kernel
theorem dX0_run_253 : decode cX0_run 253 = .ok (.invokevirtual 32, 3) := by decide +kernel
theorem dX0_run_256 : decode cX0_run 256 = .ok (.iload_n 2, 1) := by decide +kernel
theorem dX0_run_257 : decode cX0_run 257 = .ok (.iload 4, 2) := by decide +kernel
theorem dX0_run_259 : decode cX0_run 259 = .ok (.invokevirtual 36, 3) := by decide +kernel
theorem dX0_run_262 : decode cX0_run 262 = .ok (.aload_n 0, 1) := by decide +kernel
theorem dX0_run_263 : decode cX0_run 263 = .ok (.getfield 29, 3) := by decide +kernel
theorem dX0_run_266 : decode cX0_run 266 = .ok (.iadd, 1) := by decide +kernel
theorem dX0_run_267 : decode cX0_run 267 = .ok (.ireturn, 1) := by decide +kernel
theorem dX0_run_268 : decode cX0_run 268 = .ok (.aload_n 0, 1) := by decide +kernel
theorem dX0_run_269 : decode cX0_run 269 = .ok (.iload_n 2, 1) := by decide +kernel
theorem dX0_run_270 : decode cX0_run 270 = .ok (.aload_n 0, 1) := by decide +kernel
theorem dX0_run_271 : decode cX0_run 271 = .ok (.getfield 29, 3) := by decide +kernel
theorem dX0_run_274 : decode cX0_run 274 = .ok (.aload_n 0, 1) := by decide +kernel
theorem dX0_run_275 : decode cX0_run 275 = .ok (.getfield 26, 3) := by decide +kernel
theorem dX0_run_278 : decode cX0_run 278 = .ok (.isub, 1) := by decide +kernel
theorem dX0_run_279 : decode cX0_run 279 = .ok (.invokevirtual 51, 3) := by decide +kernel
theorem dX0_run_282 : decode cX0_run 282 = .ok (.ireturn, 1) := by decide +kernel
theorem dX0_run_283 : decode cX0_run 283 = .ok (.aload_n 0, 1) := by decide +kernel
theorem dX0_run_284 : decode cX0_run 284 = .ok (.aload_n 0, 1) := by decide +kernel
theorem dX0_run_285 : decode cX0_run 285 = .ok (.iconst 1, 1) := by decide +kernel
theorem dX0_run_286 : decode cX0_run 286 = .ok (.invokevirtual 32, 3) := by decide +kernel
theorem dX0_run_289 : decode cX0_run 289 = .ok (.iload_n 2, 1) := by decide +kernel
theorem dX0_run_290 : decode cX0_run 290 = .ok (.iload 4, 2) := by decide +kernel
theorem dX0_run_292 : decode cX0_run 292 = .ok (.invokevirtual 36, 3) := by decide +kernel
theorem dX0_run_295 : decode cX0_run 295 = .ok (.bipush 110, 2) := by decide +kernel
theorem dX0_run_297 : decode cX0_run 297 = .ok (.ixor, 1) := by decide +kernel
theorem dX0_run_298 : decode cX0_run 298 = .ok (.ireturn, 1) := by decide +kernel
theorem dX0_run_299 : decode cX0_run 299 = .ok (.iconst 0, 1) := by decide +kernel
theorem dX0_run_300 : decode cX0_run 300 = .ok (.aload_n 0, 1) := by decide +kernel
theorem dX0_run_301 : decode cX0_run 301 = .ok (.bipush 11, 2) := by decide +kernel
theorem dX0_run_303 : decode cX0_run 303 = .ok (.iload_n 2, 1) := by decide +kernel
theorem dX0_run_304 : decode cX0_run 304 = .ok (.iload 4, 2) := by decide +kernel
theorem dX0_run_306 : decode cX0_run 306 = .ok (.invokevirtual 36, 3) := by decide +kernel
theorem dX0_run_309 : decode cX0_run 309 = .ok (.isub, 1) := by decide +kernel
theorem dX0_run_310 : decode cX0_run 310 = .ok (.ireturn, 1) := by decide +kernel
theorem dX0_run_311 : decode cX0_run 311 = .ok (.aload_n 0, 1) := by decide +kernel
theorem dX0_run_312 : decode cX0_run 312 = .ok (.bipush 10, 2) := by decide +kernel
theorem dX0_run_314 : decode cX0_run 314 = .ok (.iload_n 2, 1) := by decide +kernel
theorem dX0_run_315 : decode cX0_run 315 = .ok (.iload 4, 2) := by decide +kernel
theorem dX0_run_317 : decode cX0_run 317 = .ok (.invokevirtual 36, 3) := by decide +kernel
theorem dX0_run_320 : decode cX0_run 320 = .ok (.bipush 7, 2) := by decide +kernel
theorem dX0_run_322 : decode cX0_run 322 = .ok (.iadd, 1) := by decide +kernel
theorem dX0_run_323 : decode cX0_run 323 = .ok (.ireturn, 1) := by decide +kernel
theorem dX0_run_324 : decode cX0_run 324 = .ok (.aload_n 0, 1) := by decide +kernel
theorem dX0_run_325 : decode cX0_run 325 = .ok (.bipush 13, 2) := by decide +kernel
theorem dX0_run_327 : decode cX0_run 327 = .ok (.iload_n 2, 1) := by decide +kernel
theorem dX0_run_328 : decode cX0_run 328 = .ok (.iload 4, 2) := by decide +kernel
theorem dX0_run_330 : decode cX0_run 330 = .ok (.invokevirtual 36, 3) := by decide +kernel
theorem dX0_run_333 : decode cX0_run 333 = .ok (.aload_n 0, 1) := by decide +kernel
theorem dX0_run_334 : decode cX0_run 334 = .ok (.aload_n 0, 1) := by decide +kernel
theorem dX0_run_335 : decode cX0_run 335 = .ok (.iconst 2, 1) := by decide +kernel
theorem dX0_run_336 : decode cX0_run 336 = .ok (.invokevirtual 32, 3) := by decide +kernel
theorem dX0_run_339 : decode cX0_run 339 = .ok (.aload_n 0, 1) := by decide +kernel
theorem dX0_run_340 : decode cX0_run 340 = .ok (.getfield 26, 3) := by decide +kernel
theorem dX0_run_343 : decode cX0_run 343 = .ok (.iload 4, 2) := by decide +kernel
theorem dX0_run_345 : decode cX0_run 345 = .ok (.invokevirtual 36, 3) := by decide +kernel
theorem dX0_run_348 : decode cX0_run 348 = .ok (.isub, 1) := by decide +kernel
theorem dX0_run_349 : decode cX0_run 349 = .ok (.ireturn, 1) := by decide +kernel
theorem dX0_run_350 : decode cX0_run 350 = .ok (.aload_n 0, 1) := by decide +kernel
theorem dX0_run_351 : decode cX0_run 351 = .ok (.bipush 30, 2) := by decide +kernel
theorem dX0_run_353 : decode cX0_run 353 = .ok (.iload_n 2, 1) := by decide +kernel
theorem dX0_run_354 : decode cX0_run 354 = .ok (.iload 4, 2) := by decide +kernel
theorem dX0_run_356 : decode cX0_run 356 = .ok (.invokevirtual 36, 3) := by decide +kernel
theorem dX0_run_359 : decode cX0_run 359 = .ok (.iconst 2, 1) := by decide +kernel
theorem dX0_run_360 : decode cX0_run 360 = .ok (.imul, 1) := by decide +kernel
theorem dX0_run_361 : decode cX0_run 361 = .ok (.ireturn, 1) := by decide +kernel
theorem dX0_run_362 : decode cX0_run 362 = .ok (.aload_n 0, 1) := by decide +kernel
theorem dX0_run_363 : decode cX0_run 363 = .ok (.bipush 11, 2) := by decide +kernel
theorem dX0_run_365 : decode cX0_run 365 = .ok (.iload_n 2, 1) := by decide +kernel
theorem dX0_run_366 : decode cX0_run 366 = .ok (.iload 4, 2) := by decide +kernel
theorem dX0_run_368 : decode cX0_run 368 = .ok (.invokevirtual 36, 3) := by decide +kernel
theorem dX0_run_371 : decode cX0_run 371 = .ok (.aload_n 0, 1) := by decide +kernel
theorem dX0_run_372 : decode cX0_run 372 = .ok (.aload_n 0, 1) := by decide +kernel
theorem dX0_run_373 : decode cX0_run 373 = .ok (.iconst 0, 1) := by decide +kernel
theorem dX0_run_374 : decode cX0_run 374 = .ok (.invokevirtual 32, 3) := by decide +kernel
theorem dX0_run_377 : decode cX0_run 377 = .ok (.aload_n 0, 1) := by decide +kernel
theorem dX0_run_378 : decode cX0_run 378 = .ok (.getfield 29, 3) := by decide +kernel
theorem dX0_run_381 : decode cX0_run 381 = .ok (.iload 4, 2) := by decide +kernel
theorem dX0_run_383 : decode cX0_run 383 = .ok (.invokevirtual 36, 3) := by decide +kernel
theorem dX0_run_386 : decode cX0_run 386 = .ok (.isub, 1) := by decide +kernel
theorem dX0_run_387 : decode cX0_run 387 = .ok (.ireturn, 1) := by decide +kernel
theorem dX0_run_388 : decode cX0_run 388 = .ok (.aload_n 0, 1) := by decide +kernel
theorem dX0_run_389 : decode cX0_run 389 = .ok (.bipush 12, 2) := by decide +kernel
theorem dX0_run_391 : decode cX0_run 391 = .ok (.iload_n 2, 1) := by decide +kernel
theorem dX0_run_392 : decode cX0_run 392 = .ok (.iconst 4, 1) := by decide +kernel
theorem dX0_run_393 : decode cX0_run 393 = .ok (.iadd, 1) := by decide +kernel
theorem dX0_run_394 : decode cX0_run 394 = .ok (.iload 4, 2) := by decide +kernel
theorem dX0_run_396 : decode cX0_run 396 = .ok (.invokevirtual 36, 3) := by decide +kernel
theorem dX0_run_399 : decode cX0_run 399 = .ok (.aload_n 0, 1) := by decide +kernel
theorem dX0_run_400 : decode cX0_run 400 = .ok (.getfield 26, 3) := by decide +kernel
theorem dX0_run_403 : decode cX0_run 403 = .ok (.isub, 1) := by decide +kernel
theorem dX0_run_404 : decode cX0_run 404 = .ok (.ireturn, 1) := by decide +kernel
theorem dX0_run_405 : decode cX0_run 405 = .ok (.aload_n 0, 1) := by decide +kernel
theorem dX0_run_406 : decode cX0_run 406 = .ok (.bipush 10, 2) := by decide +kernel
theorem dX0_run_408 : decode cX0_run 408 = .ok (.iload_n 2, 1) := by decide +kernel
theorem dX0_run_409 : decode cX0_run 409 = .ok (.iload 4, 2) := by decide +kernel
theorem dX0_run_411 : decode cX0_run 411 = .ok (.invokevirtual 36, 3) := by decide +kernel
theorem dX0_run_414 : decode cX0_run 414 = .ok (.iconst 3, 1) := by decide +kernel
theorem dX0_run_415 : decode cX0_run 415 = .ok (.ixor, 1) := by decide +kernel
theorem dX0_run_416 : decode cX0_run 416 = .ok (.ireturn, 1) := by decide +kernel
theorem dX0_run_417 : decode cX0_run 417 = .ok (.aload_n 0, 1) := by decide +kernel
theorem dX0_run_418 : decode cX0_run 418 = .ok (.bipush 13, 2) := by decide +kernel
theorem dX0_run_420 : decode cX0_run 420 = .ok (.iload_n 2, 1) := by decide +kernel
theorem dX0_run_421 : decode cX0_run 421 = .ok (.iload 4, 2) := by decide +kernel
theorem dX0_run_423 : decode cX0_run 423 = .ok (.invokevirtual 36, 3) := by decide +kernel
theorem dX0_run_426 : decode cX0_run 426 = .ok (.iconst 4, 1) := by decide +kernel
theorem dX0_run_427 : decode cX0_run 427 = .ok (.imul, 1) := by decide +kernel
theorem dX0_run_428 : decode cX0_run 428 = .ok (.ireturn, 1) := by decide +kernel
theorem dX0_run_429 : decode cX0_run 429 = .ok (.aload_n 0, 1) := by decide +kernel
theorem dX0_run_430 : decode cX0_run 430 = .ok (.bipush 12, 2) := by decide +kernel
theorem dX0_run_432 : decode cX0_run 432 = .ok (.iload_n 2, 1) := by decide +kernel
theorem dX0_run_433 : decode cX0_run 433 = .ok (.iload 4, 2) := by decide +kernel
theorem dX0_run_435 : decode cX0_run 435 = .ok (.invokevirtual 36, 3) := by decide +kernel
theorem dX0_run_438 : decode cX0_run 438 = .ok (.aload_n 0, 1) := by decide +kernel
theorem dX0_run_439 : decode cX0_run 439 = .ok (.aload_n 0, 1) := by decide +kernel
theorem dX0_run_440 : decode cX0_run 440 = .ok (.iconst 0, 1) := by decide +kernel
theorem dX0_run_441 : decode cX0_run 441 = .ok (.invokevirtual 32, 3) := by decide +kernel
theorem dX0_run_444 : decode cX0_run 444 = .ok (.aload_n 0, 1) := by decide +kernel
theorem dX0_run_445 : decode cX0_run 445 = .ok (.getfield 26, 3) := by decide +kernel
theorem dX0_run_448 : decode cX0_run 448 = .ok (.iload 4, 2) := by decide +kernel
theorem dX0_run_450 : decode cX0_run 450 = .ok (.invokevirtual 36, 3) := by decide +kernel
theorem dX0_run_453 : decode cX0_run 453 = .ok (.iadd, 1) := by decide +kernel
theorem dX0_run_454 : decode cX0_run 454 = .ok (.ireturn, 1) := by decide +kernel
theorem dX0_run_455 : decode cX0_run 455 = .ok (.iconst 0, 1) := by decide +kernel
theorem dX0_run_456 : decode cX0_run 456 = .ok (.ireturn, 1) := by decide +kernel
def pc_X0_run (i : Nat) : Nat := ([0, 6, 8, 240, 250, 268, 283, 299, 311, 324, 350, 362, 388, 405, 417, 429, 455] : List Nat).getD i 0
set_option maxRecDepth 20000 in
theorem ob_X0_run_0 {x : ip_Cx} {G : ip_Gl} {d : Nat} (X : ip_X x G tb 5 d 0 0 RX0 cX0_run) (hr : x.2.2.2.2.2.2.2.2.1.sig.returnType = (some .int)) (hnm : x.2.2.2.2.2.2.2.2.1.name = "run") : ip_okB x G 5 pc_X0_run 0 ([oLdI 3, oI (40)], tCm (fun a b => b < a) 1 2) := ⟨_, okC (ok_ildn X rfl dX0_run_0)
  (okC (ok_bi X (by decide) dX0_run_1)
  (okN)), ok_cmle X (by decide) rfl dX0_run_3⟩
set_option maxRecDepth 20000 in
theorem ob_X0_run_1 {x : ip_Cx} {G : ip_Gl} {d : Nat} (X : ip_X x G tb 5 d 0 0 RX0 cX0_run) (hr : x.2.2.2.2.2.2.2.2.1.sig.returnType = (some .int)) (hnm : x.2.2.2.2.2.2.2.2.1.name = "run") : ip_okB x G 5 pc_X0_run 6 ([oI (0)], tRI .int 0 0) := ⟨_, okC (ok_ic X (by decide) dX0_run_6)
  (okN), ok_ret X hr dX0_run_7⟩
set_option maxRecDepth 20000 in
theorem ob_X0_run_2 {x : ip_Cx} {G : ip_Gl} {d : Nat} (X : ip_X x G tb 5 d 0 0 RX0 cX0_run) (hr : x.2.2.2.2.2.2.2.2.1.sig.returnType = (some .int)) (hnm : x.2.2.2.2.2.2.2.2.1.name = "run") : ip_okB x G 5 pc_X0_run 8 ([oLdA 0, oLdI 1, oCaV (ip_call tb d) 0 0 0 4 2 0 0, oLdI 3, oI (1), oBI (fun a b => a + b), oStI 4, oLdI 1], tSw [(10, 3), (11, 4), (12, 5), (13, 6), (14, 16), (15, 16), (16, 16), (17, 16), (18, 16), (19, 16), (20, 7), (21, 16), (22, 16), (23, 16), (24, 16), (25, 16), (26, 16), (27, 16), (28, 16), (29, 16), (30, 8), (31, 9), (32, 16), (33, 16), (34, 16), (35, 16), (36, 16), (37, 16), (38, 16), (39, 16), (40, 10), (41, 11), (42, 16), (43, 16), (44, 16), (45, 16), (46, 16), (47, 16), (48, 16), (49, 16), (50, 12), (51, 13), (52, 16), (53, 16), (54, 16), (55, 16), (56, 16), (57, 16), (58, 16), (59, 16), (60, 14), (61, 15)] 16) := ⟨_, okC (ok_aldn X rfl dX0_run_8)
  (okC (ok_ildn X rfl dX0_run_9)
  (okC (ok_calV X (i := 47) (e := en_4) rfl mt_4 rfl rfl rfl tw_762 tw_763 (Or.inl ⟨_, _, rfl⟩) tw_764 dX0_run_10)
  (okC (ok_ildn X rfl dX0_run_13)
  (okC (ok_ic X (by decide) dX0_run_14)
  (okC (ok_iadd X dX0_run_15)
  (okC (ok_ist X (by decide) dX0_run_16)
  (okC (ok_ildn X rfl dX0_run_18)
  (okN)))))))), ok_tsw X (by decide) (by decide +kernel) (by decide) dX0_run_19⟩
set_option maxRecDepth 20000 in
theorem ob_X0_run_3 {x : ip_Cx} {G : ip_Gl} {d : Nat} (X : ip_X x G tb 5 d 0 0 RX0 cX0_run) (hr : x.2.2.2.2.2.2.2.2.1.sig.returnType = (some .int)) (hnm : x.2.2.2.2.2.2.2.2.1.name = "run") : ip_okB x G 5 pc_X0_run 240 ([oLdI 2, oI (8), oBI (fun a b => a * b), oLdA 0, oGet 0 4, oBI (fun a b => a - b)], tRI .int 0 0) := ⟨_, okC (ok_ildn X rfl dX0_run_240)
  (okC (ok_bi X (by decide) dX0_run_241)
  (okC (ok_imul X dX0_run_243)
  (okC (ok_aldn X rfl dX0_run_244)
  (okC (ok_get X (ci := 0) rfl (by decide) iw_X0 tw_181 dX0_run_245)
  (okC (ok_isub X dX0_run_248)
  (okN)))))), ok_ret X hr dX0_run_249⟩
set_option maxRecDepth 20000 in
theorem ob_X0_run_4 {x : ip_Cx} {G : ip_Gl} {d : Nat} (X : ip_X x G tb 5 d 0 0 RX0 cX0_run) (hr : x.2.2.2.2.2.2.2.2.1.sig.returnType = (some .int)) (hnm : x.2.2.2.2.2.2.2.2.1.name = "run") : ip_okB x G 5 pc_X0_run 250 ([oLdA 0, oLdA 0, oI (0), oCaV (ip_call tb d) 0 0 0 3 2 0 0, oLdI 2, oLdI 4, oCaV (ip_call tb d) 0 0 0 5 4 0 0, oLdA 0, oGet 0 5, oBI (fun a b => a + b)], tRI .int 0 0) := ⟨_, okC (ok_aldn X rfl dX0_run_250)
  (okC (ok_aldn X rfl dX0_run_251)
  (okC (ok_ic X (by decide) dX0_run_252)
  (okC (ok_calV X (i := 32) (e := en_3) rfl mt_3 rfl rfl rfl tw_751 tw_752 (Or.inl ⟨_, _, rfl⟩) tw_753 dX0_run_253)
  (okC (ok_ildn X rfl dX0_run_256)
  (okC (ok_ild X dX0_run_257)
  (okC (ok_calV X (i := 36) (e := en_5) rfl mt_5 rfl rfl rfl tw_758 tw_759 (Or.inl ⟨_, _, rfl⟩) tw_760 dX0_run_259)
  (okC (ok_aldn X rfl dX0_run_262)
  (okC (ok_get X (ci := 0) rfl (by decide) iw_X0 tw_182 dX0_run_263)
  (okC (ok_iadd X dX0_run_266)
  (okN)))))))))), ok_ret X hr dX0_run_267⟩
set_option maxRecDepth 20000 in
theorem ob_X0_run_5 {x : ip_Cx} {G : ip_Gl} {d : Nat} (X : ip_X x G tb 5 d 0 0 RX0 cX0_run) (hr : x.2.2.2.2.2.2.2.2.1.sig.returnType = (some .int)) (hnm : x.2.2.2.2.2.2.2.2.1.name = "run") : ip_okB x G 5 pc_X0_run 268 ([oLdA 0, oLdI 2, oLdA 0, oGet 0 5, oLdA 0, oGet 0 4, oBI (fun a b => a - b), oCaV (ip_call tb d) 0 0 0 6 3 0 0], tRI .int 0 0) := ⟨_, okC (ok_aldn X rfl dX0_run_268)
  (okC (ok_ildn X rfl dX0_run_269)
  (okC (ok_aldn X rfl dX0_run_270)
  (okC (ok_get X (ci := 0) rfl (by decide) iw_X0 tw_182 dX0_run_271)
  (okC (ok_aldn X rfl dX0_run_274)
  (okC (ok_get X (ci := 0) rfl (by decide) iw_X0 tw_181 dX0_run_275)
  (okC (ok_isub X dX0_run_278)
  (okC (ok_calV X (i := 51) (e := en_6) rfl mt_6 rfl rfl rfl tw_766 tw_767 (Or.inl ⟨_, _, rfl⟩) tw_768 dX0_run_279)
  (okN)))))))), ok_ret X hr dX0_run_282⟩
set_option maxRecDepth 20000 in
theorem ob_X0_run_6 {x : ip_Cx} {G : ip_Gl} {d : Nat} (X : ip_X x G tb 5 d 0 0 RX0 cX0_run) (hr : x.2.2.2.2.2.2.2.2.1.sig.returnType = (some .int)) (hnm : x.2.2.2.2.2.2.2.2.1.name = "run") : ip_okB x G 5 pc_X0_run 283 ([oLdA 0, oLdA 0, oI (1), oCaV (ip_call tb d) 0 0 0 3 2 0 0, oLdI 2, oLdI 4, oCaV (ip_call tb d) 0 0 0 5 4 0 0, oI (110), oBI (fun a b => a ^^^ b)], tRI .int 0 0) := ⟨_, okC (ok_aldn X rfl dX0_run_283)
  (okC (ok_aldn X rfl dX0_run_284)
  (okC (ok_ic X (by decide) dX0_run_285)
  (okC (ok_calV X (i := 32) (e := en_3) rfl mt_3 rfl rfl rfl tw_751 tw_752 (Or.inl ⟨_, _, rfl⟩) tw_753 dX0_run_286)
  (okC (ok_ildn X rfl dX0_run_289)
  (okC (ok_ild X dX0_run_290)
  (okC (ok_calV X (i := 36) (e := en_5) rfl mt_5 rfl rfl rfl tw_758 tw_759 (Or.inl ⟨_, _, rfl⟩) tw_760 dX0_run_292)
  (okC (ok_bi X (by decide) dX0_run_295)
  (okC (ok_ixor X dX0_run_297)
  (okN))))))))), ok_ret X hr dX0_run_298⟩
set_option maxRecDepth 20000 in
theorem ob_X0_run_7 {x : ip_Cx} {G : ip_Gl} {d : Nat} (X : ip_X x G tb 5 d 0 0 RX0 cX0_run) (hr : x.2.2.2.2.2.2.2.2.1.sig.returnType = (some .int)) (hnm : x.2.2.2.2.2.2.2.2.1.name = "run") : ip_okB x G 5 pc_X0_run 299 ([oI (0), oLdA 0, oI (11), oLdI 2, oLdI 4, oCaV (ip_call tb d) 0 0 0 5 4 0 0, oBI (fun a b => a - b)], tRI .int 0 0) := ⟨_, okC (ok_ic X (by decide) dX0_run_299)
  (okC (ok_aldn X rfl dX0_run_300)
  (okC (ok_bi X (by decide) dX0_run_301)
  (okC (ok_ildn X rfl dX0_run_303)
  (okC (ok_ild X dX0_run_304)
  (okC (ok_calV X (i := 36) (e := en_5) rfl mt_5 rfl rfl rfl tw_758 tw_759 (Or.inl ⟨_, _, rfl⟩) tw_760 dX0_run_306)
  (okC (ok_isub X dX0_run_309)
  (okN))))))), ok_ret X hr dX0_run_310⟩
set_option maxRecDepth 20000 in
theorem ob_X0_run_8 {x : ip_Cx} {G : ip_Gl} {d : Nat} (X : ip_X x G tb 5 d 0 0 RX0 cX0_run) (hr : x.2.2.2.2.2.2.2.2.1.sig.returnType = (some .int)) (hnm : x.2.2.2.2.2.2.2.2.1.name = "run") : ip_okB x G 5 pc_X0_run 311 ([oLdA 0, oI (10), oLdI 2, oLdI 4, oCaV (ip_call tb d) 0 0 0 5 4 0 0, oI (7), oBI (fun a b => a + b)], tRI .int 0 0) := ⟨_, okC (ok_aldn X rfl dX0_run_311)
  (okC (ok_bi X (by decide) dX0_run_312)
  (okC (ok_ildn X rfl dX0_run_314)
  (okC (ok_ild X dX0_run_315)
  (okC (ok_calV X (i := 36) (e := en_5) rfl mt_5 rfl rfl rfl tw_758 tw_759 (Or.inl ⟨_, _, rfl⟩) tw_760 dX0_run_317)
  (okC (ok_bi X (by decide) dX0_run_320)
  (okC (ok_iadd X dX0_run_322)
  (okN))))))), ok_ret X hr dX0_run_323⟩
set_option maxRecDepth 20000 in
theorem ob_X0_run_9 {x : ip_Cx} {G : ip_Gl} {d : Nat} (X : ip_X x G tb 5 d 0 0 RX0 cX0_run) (hr : x.2.2.2.2.2.2.2.2.1.sig.returnType = (some .int)) (hnm : x.2.2.2.2.2.2.2.2.1.name = "run") : ip_okB x G 5 pc_X0_run 324 ([oLdA 0, oI (13), oLdI 2, oLdI 4, oCaV (ip_call tb d) 0 0 0 5 4 0 0, oLdA 0, oLdA 0, oI (2), oCaV (ip_call tb d) 0 0 0 3 2 0 0, oLdA 0, oGet 0 4, oLdI 4, oCaV (ip_call tb d) 0 0 0 5 4 0 0, oBI (fun a b => a - b)], tRI .int 0 0) := ⟨_, okC (ok_aldn X rfl dX0_run_324)
  (okC (ok_bi X (by decide) dX0_run_325)
  (okC (ok_ildn X rfl dX0_run_327)
  (okC (ok_ild X dX0_run_328)
  (okC (ok_calV X (i := 36) (e := en_5) rfl mt_5 rfl rfl rfl tw_758 tw_759 (Or.inl ⟨_, _, rfl⟩) tw_760 dX0_run_330)
  (okC (ok_aldn X rfl dX0_run_333)
  (okC (ok_aldn X rfl dX0_run_334)
  (okC (ok_ic X (by decide) dX0_run_335)
  (okC (ok_calV X (i := 32) (e := en_3) rfl mt_3 rfl rfl rfl tw_751 tw_752 (Or.inl ⟨_, _, rfl⟩) tw_753 dX0_run_336)
  (okC (ok_aldn X rfl dX0_run_339)
  (okC (ok_get X (ci := 0) rfl (by decide) iw_X0 tw_181 dX0_run_340)
  (okC (ok_ild X dX0_run_343)
  (okC (ok_calV X (i := 36) (e := en_5) rfl mt_5 rfl rfl rfl tw_758 tw_759 (Or.inl ⟨_, _, rfl⟩) tw_760 dX0_run_345)
  (okC (ok_isub X dX0_run_348)
  (okN)))))))))))))), ok_ret X hr dX0_run_349⟩
set_option maxRecDepth 20000 in
theorem ob_X0_run_10 {x : ip_Cx} {G : ip_Gl} {d : Nat} (X : ip_X x G tb 5 d 0 0 RX0 cX0_run) (hr : x.2.2.2.2.2.2.2.2.1.sig.returnType = (some .int)) (hnm : x.2.2.2.2.2.2.2.2.1.name = "run") : ip_okB x G 5 pc_X0_run 350 ([oLdA 0, oI (30), oLdI 2, oLdI 4, oCaV (ip_call tb d) 0 0 0 5 4 0 0, oI (2), oBI (fun a b => a * b)], tRI .int 0 0) := ⟨_, okC (ok_aldn X rfl dX0_run_350)
  (okC (ok_bi X (by decide) dX0_run_351)
  (okC (ok_ildn X rfl dX0_run_353)
  (okC (ok_ild X dX0_run_354)
  (okC (ok_calV X (i := 36) (e := en_5) rfl mt_5 rfl rfl rfl tw_758 tw_759 (Or.inl ⟨_, _, rfl⟩) tw_760 dX0_run_356)
  (okC (ok_ic X (by decide) dX0_run_359)
  (okC (ok_imul X dX0_run_360)
  (okN))))))), ok_ret X hr dX0_run_361⟩
set_option maxRecDepth 20000 in
theorem ob_X0_run_11 {x : ip_Cx} {G : ip_Gl} {d : Nat} (X : ip_X x G tb 5 d 0 0 RX0 cX0_run) (hr : x.2.2.2.2.2.2.2.2.1.sig.returnType = (some .int)) (hnm : x.2.2.2.2.2.2.2.2.1.name = "run") : ip_okB x G 5 pc_X0_run 362 ([oLdA 0, oI (11), oLdI 2, oLdI 4, oCaV (ip_call tb d) 0 0 0 5 4 0 0, oLdA 0, oLdA 0, oI (0), oCaV (ip_call tb d) 0 0 0 3 2 0 0, oLdA 0, oGet 0 5, oLdI 4, oCaV (ip_call tb d) 0 0 0 5 4 0 0, oBI (fun a b => a - b)], tRI .int 0 0) := ⟨_, okC (ok_aldn X rfl dX0_run_362)
  (okC (ok_bi X (by decide) dX0_run_363)
  (okC (ok_ildn X rfl dX0_run_365)
  (okC (ok_ild X dX0_run_366)
  (okC (ok_calV X (i := 36) (e := en_5) rfl mt_5 rfl rfl rfl tw_758 tw_759 (Or.inl ⟨_, _, rfl⟩) tw_760 dX0_run_368)
  (okC (ok_aldn X rfl dX0_run_371)
  (okC (ok_aldn X rfl dX0_run_372)
  (okC (ok_ic X (by decide) dX0_run_373)
  (okC (ok_calV X (i := 32) (e := en_3) rfl mt_3 rfl rfl rfl tw_751 tw_752 (Or.inl ⟨_, _, rfl⟩) tw_753 dX0_run_374)
  (okC (ok_aldn X rfl dX0_run_377)
  (okC (ok_get X (ci := 0) rfl (by decide) iw_X0 tw_182 dX0_run_378)
  (okC (ok_ild X dX0_run_381)
  (okC (ok_calV X (i := 36) (e := en_5) rfl mt_5 rfl rfl rfl tw_758 tw_759 (Or.inl ⟨_, _, rfl⟩) tw_760 dX0_run_383)
  (okC (ok_isub X dX0_run_386)
  (okN)))))))))))))), ok_ret X hr dX0_run_387⟩
set_option maxRecDepth 20000 in
theorem ob_X0_run_12 {x : ip_Cx} {G : ip_Gl} {d : Nat} (X : ip_X x G tb 5 d 0 0 RX0 cX0_run) (hr : x.2.2.2.2.2.2.2.2.1.sig.returnType = (some .int)) (hnm : x.2.2.2.2.2.2.2.2.1.name = "run") : ip_okB x G 5 pc_X0_run 388 ([oLdA 0, oI (12), oLdI 2, oI (4), oBI (fun a b => a + b), oLdI 4, oCaV (ip_call tb d) 0 0 0 5 4 0 0, oLdA 0, oGet 0 4, oBI (fun a b => a - b)], tRI .int 0 0) := ⟨_, okC (ok_aldn X rfl dX0_run_388)
  (okC (ok_bi X (by decide) dX0_run_389)
  (okC (ok_ildn X rfl dX0_run_391)
  (okC (ok_ic X (by decide) dX0_run_392)
  (okC (ok_iadd X dX0_run_393)
  (okC (ok_ild X dX0_run_394)
  (okC (ok_calV X (i := 36) (e := en_5) rfl mt_5 rfl rfl rfl tw_758 tw_759 (Or.inl ⟨_, _, rfl⟩) tw_760 dX0_run_396)
  (okC (ok_aldn X rfl dX0_run_399)
  (okC (ok_get X (ci := 0) rfl (by decide) iw_X0 tw_181 dX0_run_400)
  (okC (ok_isub X dX0_run_403)
  (okN)))))))))), ok_ret X hr dX0_run_404⟩
set_option maxRecDepth 20000 in
theorem ob_X0_run_13 {x : ip_Cx} {G : ip_Gl} {d : Nat} (X : ip_X x G tb 5 d 0 0 RX0 cX0_run) (hr : x.2.2.2.2.2.2.2.2.1.sig.returnType = (some .int)) (hnm : x.2.2.2.2.2.2.2.2.1.name = "run") : ip_okB x G 5 pc_X0_run 405 ([oLdA 0, oI (10), oLdI 2, oLdI 4, oCaV (ip_call tb d) 0 0 0 5 4 0 0, oI (3), oBI (fun a b => a ^^^ b)], tRI .int 0 0) := ⟨_, okC (ok_aldn X rfl dX0_run_405)
  (okC (ok_bi X (by decide) dX0_run_406)
  (okC (ok_ildn X rfl dX0_run_408)
  (okC (ok_ild X dX0_run_409)
  (okC (ok_calV X (i := 36) (e := en_5) rfl mt_5 rfl rfl rfl tw_758 tw_759 (Or.inl ⟨_, _, rfl⟩) tw_760 dX0_run_411)
  (okC (ok_ic X (by decide) dX0_run_414)
  (okC (ok_ixor X dX0_run_415)
  (okN))))))), ok_ret X hr dX0_run_416⟩
set_option maxRecDepth 20000 in
theorem ob_X0_run_14 {x : ip_Cx} {G : ip_Gl} {d : Nat} (X : ip_X x G tb 5 d 0 0 RX0 cX0_run) (hr : x.2.2.2.2.2.2.2.2.1.sig.returnType = (some .int)) (hnm : x.2.2.2.2.2.2.2.2.1.name = "run") : ip_okB x G 5 pc_X0_run 417 ([oLdA 0, oI (13), oLdI 2, oLdI 4, oCaV (ip_call tb d) 0 0 0 5 4 0 0, oI (4), oBI (fun a b => a * b)], tRI .int 0 0) := ⟨_, okC (ok_aldn X rfl dX0_run_417)
  (okC (ok_bi X (by decide) dX0_run_418)
  (okC (ok_ildn X rfl dX0_run_420)
  (okC (ok_ild X dX0_run_421)
  (okC (ok_calV X (i := 36) (e := en_5) rfl mt_5 rfl rfl rfl tw_758 tw_759 (Or.inl ⟨_, _, rfl⟩) tw_760 dX0_run_423)
  (okC (ok_ic X (by decide) dX0_run_426)
  (okC (ok_imul X dX0_run_427)
  (okN))))))), ok_ret X hr dX0_run_428⟩
set_option maxRecDepth 20000 in
theorem ob_X0_run_15 {x : ip_Cx} {G : ip_Gl} {d : Nat} (X : ip_X x G tb 5 d 0 0 RX0 cX0_run) (hr : x.2.2.2.2.2.2.2.2.1.sig.returnType = (some .int)) (hnm : x.2.2.2.2.2.2.2.2.1.name = "run") : ip_okB x G 5 pc_X0_run 429 ([oLdA 0, oI (12), oLdI 2, oLdI 4, oCaV (ip_call tb d) 0 0 0 5 4 0 0, oLdA 0, oLdA 0, oI (0), oCaV (ip_call tb d) 0 0 0 3 2 0 0, oLdA 0, oGet 0 4, oLdI 4, oCaV (ip_call tb d) 0 0 0 5 4 0 0, oBI (fun a b => a + b)], tRI .int 0 0) := ⟨_, okC (ok_aldn X rfl dX0_run_429)
  (okC (ok_bi X (by decide) dX0_run_430)
  (okC (ok_ildn X rfl dX0_run_432)
  (okC (ok_ild X dX0_run_433)
  (okC (ok_calV X (i := 36) (e := en_5) rfl mt_5 rfl rfl rfl tw_758 tw_759 (Or.inl ⟨_, _, rfl⟩) tw_760 dX0_run_435)
  (okC (ok_aldn X rfl dX0_run_438)
  (okC (ok_aldn X rfl dX0_run_439)
  (okC (ok_ic X (by decide) dX0_run_440)
  (okC (ok_calV X (i := 32) (e := en_3) rfl mt_3 rfl rfl rfl tw_751 tw_752 (Or.inl ⟨_, _, rfl⟩) tw_753 dX0_run_441)
  (okC (ok_aldn X rfl dX0_run_444)
  (okC (ok_get X (ci := 0) rfl (by decide) iw_X0 tw_181 dX0_run_445)
  (okC (ok_ild X dX0_run_448)
  (okC (ok_calV X (i := 36) (e := en_5) rfl mt_5 rfl rfl rfl tw_758 tw_759 (Or.inl ⟨_, _, rfl⟩) tw_760 dX0_run_450)
  (okC (ok_iadd X dX0_run_453)
  (okN)))))))))))))), ok_ret X hr dX0_run_454⟩
set_option maxRecDepth 20000 in
theorem ob_X0_run_16 {x : ip_Cx} {G : ip_Gl} {d : Nat} (X : ip_X x G tb 5 d 0 0 RX0 cX0_run) (hr : x.2.2.2.2.2.2.2.2.1.sig.returnType = (some .int)) (hnm : x.2.2.2.2.2.2.2.2.1.name = "run") : ip_okB x G 5 pc_X0_run 455 ([oI (0)], tRI .int 0 0) := ⟨_, okC (ok_ic X (by decide) dX0_run_455)
  (okN), ok_ret X hr dX0_run_456⟩
theorem om_5 : ip_MOk tb en_5 pc_X0_run := fun x G d X hr hnm => ⟨ob_X0_run_0 X hr hnm, ⟨ob_X0_run_1 X hr hnm, ⟨ob_X0_run_2 X hr hnm, ⟨ob_X0_run_3 X hr hnm, ⟨ob_X0_run_4 X hr hnm, ⟨ob_X0_run_5 X hr hnm, ⟨ob_X0_run_6 X hr hnm, ⟨ob_X0_run_7 X hr hnm, ⟨ob_X0_run_8 X hr hnm, ⟨ob_X0_run_9 X hr hnm, ⟨ob_X0_run_10 X hr hnm, ⟨ob_X0_run_11 X hr hnm, ⟨ob_X0_run_12 X hr hnm, ⟨ob_X0_run_13 X hr hnm, ⟨ob_X0_run_14 X hr hnm, ⟨ob_X0_run_15 X hr hnm, ⟨ob_X0_run_16 X hr hnm, trivial⟩⟩⟩⟩⟩⟩⟩⟩⟩⟩⟩⟩⟩⟩⟩⟩⟩
theorem dX0_quotient_0 : decode cX0_quotient 0 = .ok (.iload_n 2, 1) := by decide +kernel
theorem dX0_quotient_1 : decode cX0_quotient 1 = .ok (.ifCond .ne 10, 3) := by decide +kernel
theorem dX0_quotient_4 : decode cX0_quotient 4 = .ok (.aload_n 0, 1) := by decide +kernel
theorem dX0_quotient_5 : decode cX0_quotient 5 = .ok (.iconst 1, 1) := by decide +kernel
theorem dX0_quotient_6 : decode cX0_quotient 6 = .ok (.putfield 19, 3) := by decide +kernel
theorem dX0_quotient_9 : decode cX0_quotient 9 = .ok (.iconst 0, 1) := by decide +kernel
theorem dX0_quotient_10 : decode cX0_quotient 10 = .ok (.ireturn, 1) := by decide +kernel
theorem dX0_quotient_11 : decode cX0_quotient 11 = .ok (.iload_n 1, 1) := by decide +kernel
theorem dX0_quotient_12 : decode cX0_quotient 12 = .ok (.iload_n 2, 1) := by decide +kernel
theorem dX0_quotient_13 : decode cX0_quotient 13 = .ok (.idiv, 1) := by decide +kernel
theorem dX0_quotient_14 : decode cX0_quotient 14 = .ok (.ireturn, 1) := by decide +kernel
def pc_X0_quotient (i : Nat) : Nat := ([0, 4, 11] : List Nat).getD i 0
set_option maxRecDepth 20000 in
theorem ob_X0_quotient_0 {x : ip_Cx} {G : ip_Gl} {d : Nat} (X : ip_X x G tb 3 d 0 0 RX0 cX0_quotient) (hr : x.2.2.2.2.2.2.2.2.1.sig.returnType = (some .int)) (hnm : x.2.2.2.2.2.2.2.2.1.name = "quotient") : ip_okB x G 3 pc_X0_quotient 0 ([oLdI 2], tIf (fun a => a = 0) 1 2) := ⟨_, okC (ok_ildn X rfl dX0_quotient_0)
  (okN), ok_ifne X (by decide) rfl dX0_quotient_1⟩
set_option maxRecDepth 20000 in
theorem ob_X0_quotient_1 {x : ip_Cx} {G : ip_Gl} {d : Nat} (X : ip_X x G tb 3 d 0 0 RX0 cX0_quotient) (hr : x.2.2.2.2.2.2.2.2.1.sig.returnType = (some .int)) (hnm : x.2.2.2.2.2.2.2.2.1.name = "quotient") : ip_okB x G 3 pc_X0_quotient 4 ([oLdA 0, oI (1), oPut 0 2 .boolean, oI (0)], tRI .int 0 0) := ⟨_, okC (ok_aldn X rfl dX0_quotient_4)
  (okC (ok_ic X (by decide) dX0_quotient_5)
  (okC (ok_put X (ci := 0) rfl (by decide) iw_X0 tyX0_ok nmX0 rfl (Or.inl rfl) tw_179 dX0_quotient_6)
  (okC (ok_ic X (by decide) dX0_quotient_9)
  (okN)))), ok_ret X hr dX0_quotient_10⟩
set_option maxRecDepth 20000 in
theorem ob_X0_quotient_2 {x : ip_Cx} {G : ip_Gl} {d : Nat} (X : ip_X x G tb 3 d 0 0 RX0 cX0_quotient) (hr : x.2.2.2.2.2.2.2.2.1.sig.returnType = (some .int)) (hnm : x.2.2.2.2.2.2.2.2.1.name = "quotient") : ip_okB x G 3 pc_X0_quotient 11 ([oLdI 1, oLdI 2, oDI (fun a b => a / b)], tRI .int 0 0) := ⟨_, okC (ok_ildn X rfl dX0_quotient_11)
  (okC (ok_ildn X rfl dX0_quotient_12)
  (okC (ok_idiv X dX0_quotient_13)
  (okN))), ok_ret X hr dX0_quotient_14⟩
theorem om_6 : ip_MOk tb en_6 pc_X0_quotient := fun x G d X hr hnm => ⟨ob_X0_quotient_0 X hr hnm, ⟨ob_X0_quotient_1 X hr hnm, ⟨ob_X0_quotient_2 X hr hnm, trivial⟩⟩⟩
theorem dX1_init_0 : decode cX1_init 0 = .ok (.aload_n 0, 1) := by decide +kernel
theorem dX1_init_1 : decode cX1_init 1 = .ok (.invokespecial 3, 3) := by decide +kernel
theorem dX1_init_4 : decode cX1_init 4 = .ok (.aload_n 0, 1) := by decide +kernel
theorem dX1_init_5 : decode cX1_init 5 = .ok (.iconst 4, 1) := by decide +kernel
theorem dX1_init_6 : decode cX1_init 6 = .ok (.newarray .int, 2) := by decide +kernel
theorem dX1_init_8 : decode cX1_init 8 = .ok (.putfield 9, 3) := by decide +kernel
theorem dX1_init_11 : decode cX1_init 11 = .ok (.aload_n 0, 1) := by decide +kernel
theorem dX1_init_12 : decode cX1_init 12 = .ok (.iconst 1, 1) := by decide +kernel
theorem dX1_init_13 : decode cX1_init 13 = .ok (.putfield 15, 3) := by decide +kernel
theorem dX1_init_16 : decode cX1_init 16 = .ok (.aload_n 0, 1) := by decide +kernel
theorem dX1_init_17 : decode cX1_init 17 = .ok (.bipush 8, 2) := by decide +kernel
theorem dX1_init_19 : decode cX1_init 19 = .ok (.newarray .int, 2) := by decide +kernel
theorem dX1_init_21 : decode cX1_init 21 = .ok (.putfield 19, 3) := by decide +kernel
theorem dX1_init_24 : decode cX1_init 24 = .ok (.aload_n 0, 1) := by decide +kernel
theorem dX1_init_25 : decode cX1_init 25 = .ok (.bipush 8, 2) := by decide +kernel
theorem dX1_init_27 : decode cX1_init 27 = .ok (.newarray .int, 2) := by decide +kernel
theorem dX1_init_29 : decode cX1_init 29 = .ok (.putfield 22, 3) := by decide +kernel
theorem dX1_init_32 : decode cX1_init 32 = .ok (.aload_n 0, 1) := by decide +kernel
theorem dX1_init_33 : decode cX1_init 33 = .ok (.bipush 8, 2) := by decide +kernel
theorem dX1_init_35 : decode cX1_init 35 = .ok (.newarray .int, 2) := by decide +kernel
theorem dX1_init_37 : decode cX1_init 37 = .ok (.putfield 25, 3) := by decide +kernel
theorem dX1_init_40 : decode cX1_init 40 = .ok (.aload_n 0, 1) := by decide +kernel
theorem dX1_init_41 : decode cX1_init 41 = .ok (.bipush 8, 2) := by decide +kernel
theorem dX1_init_43 : decode cX1_init 43 = .ok (.newarray .int, 2) := by decide +kernel
theorem dX1_init_45 : decode cX1_init 45 = .ok (.putfield 28, 3) := by decide +kernel
theorem dX1_init_48 : decode cX1_init 48 = .ok (.aload_n 0, 1) := by decide +kernel
theorem dX1_init_49 : decode cX1_init 49 = .ok (.bipush 8, 2) := by decide +kernel
theorem dX1_init_51 : decode cX1_init 51 = .ok (.newarray .int, 2) := by decide +kernel
theorem dX1_init_53 : decode cX1_init 53 = .ok (.putfield 31, 3) := by decide +kernel
theorem dX1_init_56 : decode cX1_init 56 = .ok (.aload_n 0, 1) := by decide +kernel
theorem dX1_init_57 : decode cX1_init 57 = .ok (.invokevirtual 34, 3) := by decide +kernel
theorem dX1_init_60 : decode cX1_init 60 = .ok (.return_, 1) := by decide +kernel
def pc_X1_init (i : Nat) : Nat := ([0] : List Nat).getD i 0
set_option maxRecDepth 20000 in
theorem ob_X1_init_0 {x : ip_Cx} {G : ip_Gl} {d : Nat} (X : ip_X x G tb 1 d 6 44 RX1 cX1_init) (hr : x.2.2.2.2.2.2.2.2.1.sig.returnType = none) (hnm : x.2.2.2.2.2.2.2.2.1.name = "<init>") : ip_okB x G 1 pc_X1_init 0 ([oLdA 0, oObj, oLdA 0, oI (4), oNwA 6 44 .int (fun N => (N, .inl (fun _ => 0))), oPut 1 0 (.array .int), oLdA 0, oI (1), oPut 1 3 .int, oLdA 0, oI (8), oNwA 6 44 .int (fun N => (N, .inl (fun _ => 0))), oPut 1 5 (.array .int), oLdA 0, oI (8), oNwA 6 44 .int (fun N => (N, .inl (fun _ => 0))), oPut 1 6 (.array .int), oLdA 0, oI (8), oNwA 6 44 .int (fun N => (N, .inl (fun _ => 0))), oPut 1 7 (.array .int), oLdA 0, oI (8), oNwA 6 44 .int (fun N => (N, .inl (fun _ => 0))), oPut 1 8 (.array .int), oLdA 0, oI (8), oNwA 6 44 .int (fun N => (N, .inl (fun _ => 0))), oPut 1 9 (.array .int), oLdA 0, oCaV (ip_call tb d) 6 44 1 8 1 0 0], tRV 6 44) := ⟨_, okC (ok_aldn X rfl dX1_init_0)
  (okC (ok_obj X tw_28 tw_21 tw_22 dX1_init_1)
  (okC (ok_aldn X rfl dX1_init_4)
  (okC (ok_ic X (by decide) dX1_init_5)
  (okC (ok_nwI X tw_96 dX1_init_6)
  (okC (ok_put X (ci := 1) rfl (by decide) iw_X1 tyX1_ok nmX1 rfl (Or.inr ⟨rfl, hnm, rfl⟩) tw_38 dX1_init_8)
  (okC (ok_aldn X rfl dX1_init_11)
  (okC (ok_ic X (by decide) dX1_init_12)
  (okC (ok_put X (ci := 1) rfl (by decide) iw_X1 tyX1_ok nmX1 rfl (Or.inl rfl) tw_48 dX1_init_13)
  (okC (ok_aldn X rfl dX1_init_16)
  (okC (ok_bi X (by decide) dX1_init_17)
  (okC (ok_nwI X tw_96 dX1_init_19)
  (okC (ok_put X (ci := 1) rfl (by decide) iw_X1 tyX1_ok nmX1 rfl (Or.inr ⟨rfl, hnm, rfl⟩) tw_53 dX1_init_21)
  (okC (ok_aldn X rfl dX1_init_24)
  (okC (ok_bi X (by decide) dX1_init_25)
  (okC (ok_nwI X tw_96 dX1_init_27)
  (okC (ok_put X (ci := 1) rfl (by decide) iw_X1 tyX1_ok nmX1 rfl (Or.inr ⟨rfl, hnm, rfl⟩) tw_56 dX1_init_29)
  (okC (ok_aldn X rfl dX1_init_32)
  (okC (ok_bi X (by decide) dX1_init_33)
  (okC (ok_nwI X tw_96 dX1_init_35)
  (okC (ok_put X (ci := 1) rfl (by decide) iw_X1 tyX1_ok nmX1 rfl (Or.inr ⟨rfl, hnm, rfl⟩) tw_60 dX1_init_37)
  (okC (ok_aldn X rfl dX1_init_40)
  (okC (ok_bi X (by decide) dX1_init_41)
  (okC (ok_nwI X tw_96 dX1_init_43)
  (okC (ok_put X (ci := 1) rfl (by decide) iw_X1 tyX1_ok nmX1 rfl (Or.inr ⟨rfl, hnm, rfl⟩) tw_64 dX1_init_45)
  (okC (ok_aldn X rfl dX1_init_48)
  (okC (ok_bi X (by decide) dX1_init_49)
  (okC (ok_nwI X tw_96 dX1_init_51)
  (okC (ok_put X (ci := 1) rfl (by decide) iw_X1 tyX1_ok nmX1 rfl (Or.inr ⟨rfl, hnm, rfl⟩) tw_67 dX1_init_53)
  (okC (ok_aldn X rfl dX1_init_56)
  (okC (ok_calV X (i := 34) (e := en_8) rfl mt_8 rfl rfl rfl tw_29 tw_30 (Or.inl ⟨_, _, rfl⟩) tw_31 dX1_init_57)
  (okN))))))))))))))))))))))))))))))), ok_vret X hr dX1_init_60⟩
theorem om_7 : ip_MOk tb en_7 pc_X1_init := fun x G d X hr hnm => ⟨ob_X1_init_0 X hr hnm, trivial⟩
theorem dX1_clear_0 : decode cX1_clear 0 = .ok (.getstatic 37, 3) := by decide +kernel
theorem dX1_clear_3 : decode cX1_clear 3 = .ok (.iconst 0, 1) := by decide +kernel
theorem dX1_clear_4 : decode cX1_clear 4 = .ok (.aload_n 0, 1) := by decide +kernel
theorem dX1_clear_5 : decode cX1_clear 5 = .ok (.getfield 9, 3) := by decide +kernel
theorem dX1_clear_8 : decode cX1_clear 8 = .ok (.iconst 0, 1) := by decide +kernel
theorem dX1_clear_9 : decode cX1_clear 9 = .ok (.iconst 4, 1) := by decide +kernel
theorem dX1_clear_10 : decode cX1_clear 10 = .ok (.invokestatic 40, 3) := by decide +kernel
theorem dX1_clear_13 : decode cX1_clear 13 = .ok (.aload_n 0, 1) := by decide +kernel
theorem dX1_clear_14 : decode cX1_clear 14 = .ok (.iconst 0, 1) := by decide +kernel
theorem dX1_clear_15 : decode cX1_clear 15 = .ok (.putfield 46, 3) := by decide +kernel
theorem dX1_clear_18 : decode cX1_clear 18 = .ok (.aload_n 0, 1) := by decide +kernel
theorem dX1_clear_19 : decode cX1_clear 19 = .ok (.iconst 0, 1) := by decide +kernel
theorem dX1_clear_20 : decode cX1_clear 20 = .ok (.putfield 49, 3) := by decide +kernel
theorem dX1_clear_23 : decode cX1_clear 23 = .ok (.aload_n 0, 1) := by decide +kernel
theorem dX1_clear_24 : decode cX1_clear 24 = .ok (.iconst 0, 1) := by decide +kernel
theorem dX1_clear_25 : decode cX1_clear 25 = .ok (.putfield 52, 3) := by decide +kernel
theorem dX1_clear_28 : decode cX1_clear 28 = .ok (.aload_n 0, 1) := by decide +kernel
theorem dX1_clear_29 : decode cX1_clear 29 = .ok (.iconst 0, 1) := by decide +kernel
theorem dX1_clear_30 : decode cX1_clear 30 = .ok (.putfield 55, 3) := by decide +kernel
theorem dX1_clear_33 : decode cX1_clear 33 = .ok (.return_, 1) := by decide +kernel
def pc_X1_clear (i : Nat) : Nat := ([0] : List Nat).getD i 0
set_option maxRecDepth 20000 in
theorem ob_X1_clear_0 {x : ip_Cx} {G : ip_Gl} {d : Nat} (X : ip_X x G tb 1 d 0 0 RX1 cX1_clear) (hr : x.2.2.2.2.2.2.2.2.1.sig.returnType = none) (hnm : x.2.2.2.2.2.2.2.2.1.name = "clear") : ip_okB x G 1 pc_X1_clear 0 ([oRef 1, oI (0), oLdA 0, oGet 1 0, oI (0), oI (4), oCpy, oLdA 0, oI (0), oPut 1 1 .int, oLdA 0, oI (0), oPut 1 2 .int, oLdA 0, oI (0), oPut 1 4 .int, oLdA 0, oI (0), oPut 1 10 .int], tRV 0 0) := ⟨_, okC (ok_gsN X (q := (RX5, "FIRST_LAWS", "[I", .ref 1)) (by simp [ip_stat]) rfl rfl (by simp [ip_nesF]) dX1_clear_0)
  (okC (ok_ic X (by decide) dX1_clear_3)
  (okC (ok_aldn X rfl dX1_clear_4)
  (okC (ok_get X (ci := 1) rfl (by decide) iw_X1 tw_38 dX1_clear_5)
  (okC (ok_ic X (by decide) dX1_clear_8)
  (okC (ok_ic X (by decide) dX1_clear_9)
  (okC (ok_cpy X tw_35 tw_37 tw_36 tw_3 dX1_clear_10)
  (okC (ok_aldn X rfl dX1_clear_13)
  (okC (ok_ic X (by decide) dX1_clear_14)
  (okC (ok_put X (ci := 1) rfl (by decide) iw_X1 tyX1_ok nmX1 rfl (Or.inl rfl) tw_42 dX1_clear_15)
  (okC (ok_aldn X rfl dX1_clear_18)
  (okC (ok_ic X (by decide) dX1_clear_19)
  (okC (ok_put X (ci := 1) rfl (by decide) iw_X1 tyX1_ok nmX1 rfl (Or.inl rfl) tw_45 dX1_clear_20)
  (okC (ok_aldn X rfl dX1_clear_23)
  (okC (ok_ic X (by decide) dX1_clear_24)
  (okC (ok_put X (ci := 1) rfl (by decide) iw_X1 tyX1_ok nmX1 rfl (Or.inl rfl) tw_50 dX1_clear_25)
  (okC (ok_aldn X rfl dX1_clear_28)
  (okC (ok_ic X (by decide) dX1_clear_29)
  (okC (ok_put X (ci := 1) rfl (by decide) iw_X1 tyX1_ok nmX1 rfl (Or.inl rfl) tw_70 dX1_clear_30)
  (okN))))))))))))))))))), ok_vret X hr dX1_clear_33⟩
theorem om_8 : ip_MOk tb en_8 pc_X1_clear := fun x G d X hr hnm => ⟨ob_X1_clear_0 X hr hnm, trivial⟩
theorem dX1_copy_0 : decode cX1_copy 0 = .ok (.aload_n 1, 1) := by decide +kernel
theorem dX1_copy_1 : decode cX1_copy 1 = .ok (.getfield 9, 3) := by decide +kernel
theorem dX1_copy_4 : decode cX1_copy 4 = .ok (.iconst 0, 1) := by decide +kernel
theorem dX1_copy_5 : decode cX1_copy 5 = .ok (.aload_n 0, 1) := by decide +kernel
theorem dX1_copy_6 : decode cX1_copy 6 = .ok (.getfield 9, 3) := by decide +kernel
theorem dX1_copy_9 : decode cX1_copy 9 = .ok (.iconst 0, 1) := by decide +kernel
theorem dX1_copy_10 : decode cX1_copy 10 = .ok (.iconst 4, 1) := by decide +kernel
theorem dX1_copy_11 : decode cX1_copy 11 = .ok (.invokestatic 40, 3) := by decide +kernel
theorem dX1_copy_14 : decode cX1_copy 14 = .ok (.aload_n 0, 1) := by decide +kernel
theorem dX1_copy_15 : decode cX1_copy 15 = .ok (.aload_n 1, 1) := by decide +kernel
theorem dX1_copy_16 : decode cX1_copy 16 = .ok (.getfield 46, 3) := by decide +kernel
theorem dX1_copy_19 : decode cX1_copy 19 = .ok (.putfield 46, 3) := by decide +kernel
theorem dX1_copy_22 : decode cX1_copy 22 = .ok (.aload_n 0, 1) := by decide +kernel
theorem dX1_copy_23 : decode cX1_copy 23 = .ok (.aload_n 1, 1) := by decide +kernel
theorem dX1_copy_24 : decode cX1_copy 24 = .ok (.getfield 49, 3) := by decide +kernel
theorem dX1_copy_27 : decode cX1_copy 27 = .ok (.putfield 49, 3) := by decide +kernel
theorem dX1_copy_30 : decode cX1_copy 30 = .ok (.aload_n 0, 1) := by decide +kernel
theorem dX1_copy_31 : decode cX1_copy 31 = .ok (.aload_n 1, 1) := by decide +kernel
theorem dX1_copy_32 : decode cX1_copy 32 = .ok (.getfield 15, 3) := by decide +kernel
theorem dX1_copy_35 : decode cX1_copy 35 = .ok (.putfield 15, 3) := by decide +kernel
theorem dX1_copy_38 : decode cX1_copy 38 = .ok (.aload_n 0, 1) := by decide +kernel
theorem dX1_copy_39 : decode cX1_copy 39 = .ok (.aload_n 1, 1) := by decide +kernel
theorem dX1_copy_40 : decode cX1_copy 40 = .ok (.getfield 52, 3) := by decide +kernel
theorem dX1_copy_43 : decode cX1_copy 43 = .ok (.putfield 52, 3) := by decide +kernel
theorem dX1_copy_46 : decode cX1_copy 46 = .ok (.aload_n 1, 1) := by decide +kernel
theorem dX1_copy_47 : decode cX1_copy 47 = .ok (.getfield 19, 3) := by decide +kernel
theorem dX1_copy_50 : decode cX1_copy 50 = .ok (.iconst 0, 1) := by decide +kernel
theorem dX1_copy_51 : decode cX1_copy 51 = .ok (.aload_n 0, 1) := by decide +kernel
theorem dX1_copy_52 : decode cX1_copy 52 = .ok (.getfield 19, 3) := by decide +kernel
theorem dX1_copy_55 : decode cX1_copy 55 = .ok (.iconst 0, 1) := by decide +kernel
theorem dX1_copy_56 : decode cX1_copy 56 = .ok (.bipush 8, 2) := by decide +kernel
theorem dX1_copy_58 : decode cX1_copy 58 = .ok (.invokestatic 40, 3) := by decide +kernel
theorem dX1_copy_61 : decode cX1_copy 61 = .ok (.aload_n 1, 1) := by decide +kernel
theorem dX1_copy_62 : decode cX1_copy 62 = .ok (.getfield 22, 3) := by decide +kernel
theorem dX1_copy_65 : decode cX1_copy 65 = .ok (.iconst 0, 1) := by decide +kernel
theorem dX1_copy_66 : decode cX1_copy 66 = .ok (.aload_n 0, 1) := by decide +kernel
theorem dX1_copy_67 : decode cX1_copy 67 = .ok (.getfield 22, 3) := by decide +kernel
theorem dX1_copy_70 : decode cX1_copy 70 = .ok (.iconst 0, 1) := by decide +kernel
theorem dX1_copy_71 : decode cX1_copy 71 = .ok (.bipush 8, 2) := by decide +kernel
theorem dX1_copy_73 : decode cX1_copy 73 = .ok (.invokestatic 40, 3) := by decide +kernel
theorem dX1_copy_76 : decode cX1_copy 76 = .ok (.aload_n 1, 1) := by decide +kernel
theorem dX1_copy_77 : decode cX1_copy 77 = .ok (.getfield 25, 3) := by decide +kernel
theorem dX1_copy_80 : decode cX1_copy 80 = .ok (.iconst 0, 1) := by decide +kernel
theorem dX1_copy_81 : decode cX1_copy 81 = .ok (.aload_n 0, 1) := by decide +kernel
theorem dX1_copy_82 : decode cX1_copy 82 = .ok (.getfield 25, 3) := by decide +kernel
theorem dX1_copy_85 : decode cX1_copy 85 = .ok (.iconst 0, 1) := by decide +kernel
theorem dX1_copy_86 : decode cX1_copy 86 = .ok (.bipush 8, 2) := by decide +kernel
theorem dX1_copy_88 : decode cX1_copy 88 = .ok (.invokestatic 40, 3) := by decide +kernel
theorem dX1_copy_91 : decode cX1_copy 91 = .ok (.aload_n 1, 1) := by decide +kernel
theorem dX1_copy_92 : decode cX1_copy 92 = .ok (.getfield 28, 3) := by decide +kernel
theorem dX1_copy_95 : decode cX1_copy 95 = .ok (.iconst 0, 1) := by decide +kernel
theorem dX1_copy_96 : decode cX1_copy 96 = .ok (.aload_n 0, 1) := by decide +kernel
theorem dX1_copy_97 : decode cX1_copy 97 = .ok (.getfield 28, 3) := by decide +kernel
theorem dX1_copy_100 : decode cX1_copy 100 = .ok (.iconst 0, 1) := by decide +kernel
theorem dX1_copy_101 : decode cX1_copy 101 = .ok (.bipush 8, 2) := by decide +kernel
theorem dX1_copy_103 : decode cX1_copy 103 = .ok (.invokestatic 40, 3) := by decide +kernel
theorem dX1_copy_106 : decode cX1_copy 106 = .ok (.aload_n 1, 1) := by decide +kernel
theorem dX1_copy_107 : decode cX1_copy 107 = .ok (.getfield 31, 3) := by decide +kernel
theorem dX1_copy_110 : decode cX1_copy 110 = .ok (.iconst 0, 1) := by decide +kernel
theorem dX1_copy_111 : decode cX1_copy 111 = .ok (.aload_n 0, 1) := by decide +kernel
theorem dX1_copy_112 : decode cX1_copy 112 = .ok (.getfield 31, 3) := by decide +kernel
theorem dX1_copy_115 : decode cX1_copy 115 = .ok (.iconst 0, 1) := by decide +kernel
theorem dX1_copy_116 : decode cX1_copy 116 = .ok (.bipush 8, 2) := by decide +kernel
theorem dX1_copy_118 : decode cX1_copy 118 = .ok (.invokestatic 40, 3) := by decide +kernel
theorem dX1_copy_121 : decode cX1_copy 121 = .ok (.aload_n 0, 1) := by decide +kernel
theorem dX1_copy_122 : decode cX1_copy 122 = .ok (.aload_n 1, 1) := by decide +kernel
theorem dX1_copy_123 : decode cX1_copy 123 = .ok (.getfield 55, 3) := by decide +kernel
theorem dX1_copy_126 : decode cX1_copy 126 = .ok (.putfield 55, 3) := by decide +kernel
theorem dX1_copy_129 : decode cX1_copy 129 = .ok (.return_, 1) := by decide +kernel
def pc_X1_copy (i : Nat) : Nat := ([0] : List Nat).getD i 0
set_option maxRecDepth 20000 in
theorem ob_X1_copy_0 {x : ip_Cx} {G : ip_Gl} {d : Nat} (X : ip_X x G tb 2 d 0 0 RX1 cX1_copy) (hr : x.2.2.2.2.2.2.2.2.1.sig.returnType = none) (hnm : x.2.2.2.2.2.2.2.2.1.name = "copy") : ip_okB x G 2 pc_X1_copy 0 ([oLdA 1, oGet 1 0, oI (0), oLdA 0, oGet 1 0, oI (0), oI (4), oCpy, oLdA 0, oLdA 1, oGet 1 1, oPut 1 1 .int, oLdA 0, oLdA 1, oGet 1 2, oPut 1 2 .int, oLdA 0, oLdA 1, oGet 1 3, oPut 1 3 .int, oLdA 0, oLdA 1, oGet 1 4, oPut 1 4 .int, oLdA 1, oGet 1 5, oI (0), oLdA 0, oGet 1 5, oI (0), oI (8), oCpy, oLdA 1, oGet 1 6, oI (0), oLdA 0, oGet 1 6, oI (0), oI (8), oCpy, oLdA 1, oGet 1 7, oI (0), oLdA 0, oGet 1 7, oI (0), oI (8), oCpy, oLdA 1, oGet 1 8, oI (0), oLdA 0, oGet 1 8, oI (0), oI (8), oCpy, oLdA 1, oGet 1 9, oI (0), oLdA 0, oGet 1 9, oI (0), oI (8), oCpy, oLdA 0, oLdA 1, oGet 1 10, oPut 1 10 .int], tRV 0 0) := ⟨_, okC (ok_aldn X rfl dX1_copy_0)
  (okC (ok_get X (ci := 1) rfl (by decide) iw_X1 tw_38 dX1_copy_1)
  (okC (ok_ic X (by decide) dX1_copy_4)
  (okC (ok_aldn X rfl dX1_copy_5)
  (okC (ok_get X (ci := 1) rfl (by decide) iw_X1 tw_38 dX1_copy_6)
  (okC (ok_ic X (by decide) dX1_copy_9)
  (okC (ok_ic X (by decide) dX1_copy_10)
  (okC (ok_cpy X tw_35 tw_37 tw_36 tw_3 dX1_copy_11)
  (okC (ok_aldn X rfl dX1_copy_14)
  (okC (ok_aldn X rfl dX1_copy_15)
  (okC (ok_get X (ci := 1) rfl (by decide) iw_X1 tw_42 dX1_copy_16)
  (okC (ok_put X (ci := 1) rfl (by decide) iw_X1 tyX1_ok nmX1 rfl (Or.inl rfl) tw_42 dX1_copy_19)
  (okC (ok_aldn X rfl dX1_copy_22)
  (okC (ok_aldn X rfl dX1_copy_23)
  (okC (ok_get X (ci := 1) rfl (by decide) iw_X1 tw_45 dX1_copy_24)
  (okC (ok_put X (ci := 1) rfl (by decide) iw_X1 tyX1_ok nmX1 rfl (Or.inl rfl) tw_45 dX1_copy_27)
  (okC (ok_aldn X rfl dX1_copy_30)
  (okC (ok_aldn X rfl dX1_copy_31)
  (okC (ok_get X (ci := 1) rfl (by decide) iw_X1 tw_48 dX1_copy_32)
  (okC (ok_put X (ci := 1) rfl (by decide) iw_X1 tyX1_ok nmX1 rfl (Or.inl rfl) tw_48 dX1_copy_35)
  (okC (ok_aldn X rfl dX1_copy_38)
  (okC (ok_aldn X rfl dX1_copy_39)
  (okC (ok_get X (ci := 1) rfl (by decide) iw_X1 tw_50 dX1_copy_40)
  (okC (ok_put X (ci := 1) rfl (by decide) iw_X1 tyX1_ok nmX1 rfl (Or.inl rfl) tw_50 dX1_copy_43)
  (okC (ok_aldn X rfl dX1_copy_46)
  (okC (ok_get X (ci := 1) rfl (by decide) iw_X1 tw_53 dX1_copy_47)
  (okC (ok_ic X (by decide) dX1_copy_50)
  (okC (ok_aldn X rfl dX1_copy_51)
  (okC (ok_get X (ci := 1) rfl (by decide) iw_X1 tw_53 dX1_copy_52)
  (okC (ok_ic X (by decide) dX1_copy_55)
  (okC (ok_bi X (by decide) dX1_copy_56)
  (okC (ok_cpy X tw_35 tw_37 tw_36 tw_3 dX1_copy_58)
  (okC (ok_aldn X rfl dX1_copy_61)
  (okC (ok_get X (ci := 1) rfl (by decide) iw_X1 tw_56 dX1_copy_62)
  (okC (ok_ic X (by decide) dX1_copy_65)
  (okC (ok_aldn X rfl dX1_copy_66)
  (okC (ok_get X (ci := 1) rfl (by decide) iw_X1 tw_56 dX1_copy_67)
  (okC (ok_ic X (by decide) dX1_copy_70)
  (okC (ok_bi X (by decide) dX1_copy_71)
  (okC (ok_cpy X tw_35 tw_37 tw_36 tw_3 dX1_copy_73)
  (okC (ok_aldn X rfl dX1_copy_76)
  (okC (ok_get X (ci := 1) rfl (by decide) iw_X1 tw_60 dX1_copy_77)
  (okC (ok_ic X (by decide) dX1_copy_80)
  (okC (ok_aldn X rfl dX1_copy_81)
  (okC (ok_get X (ci := 1) rfl (by decide) iw_X1 tw_60 dX1_copy_82)
  (okC (ok_ic X (by decide) dX1_copy_85)
  (okC (ok_bi X (by decide) dX1_copy_86)
  (okC (ok_cpy X tw_35 tw_37 tw_36 tw_3 dX1_copy_88)
  (okC (ok_aldn X rfl dX1_copy_91)
  (okC (ok_get X (ci := 1) rfl (by decide) iw_X1 tw_64 dX1_copy_92)
  (okC (ok_ic X (by decide) dX1_copy_95)
  (okC (ok_aldn X rfl dX1_copy_96)
  (okC (ok_get X (ci := 1) rfl (by decide) iw_X1 tw_64 dX1_copy_97)
  (okC (ok_ic X (by decide) dX1_copy_100)
  (okC (ok_bi X (by decide) dX1_copy_101)
  (okC (ok_cpy X tw_35 tw_37 tw_36 tw_3 dX1_copy_103)
  (okC (ok_aldn X rfl dX1_copy_106)
  (okC (ok_get X (ci := 1) rfl (by decide) iw_X1 tw_67 dX1_copy_107)
  (okC (ok_ic X (by decide) dX1_copy_110)
  (okC (ok_aldn X rfl dX1_copy_111)
  (okC (ok_get X (ci := 1) rfl (by decide) iw_X1 tw_67 dX1_copy_112)
  (okC (ok_ic X (by decide) dX1_copy_115)
  (okC (ok_bi X (by decide) dX1_copy_116)
  (okC (ok_cpy X tw_35 tw_37 tw_36 tw_3 dX1_copy_118)
  (okC (ok_aldn X rfl dX1_copy_121)
  (okC (ok_aldn X rfl dX1_copy_122)
  (okC (ok_get X (ci := 1) rfl (by decide) iw_X1 tw_70 dX1_copy_123)
  (okC (ok_put X (ci := 1) rfl (by decide) iw_X1 tyX1_ok nmX1 rfl (Or.inl rfl) tw_70 dX1_copy_126)
  (okN)))))))))))))))))))))))))))))))))))))))))))))))))))))))))))))))))))), ok_vret X hr dX1_copy_129⟩
theorem om_9 : ip_MOk tb en_9 pc_X1_copy := fun x G d X hr hnm => ⟨ob_X1_copy_0 X hr hnm, trivial⟩
theorem dX1_add_0 : decode cX1_add 0 = .ok (.aload_n 0, 1) := by decide +kernel
theorem dX1_add_1 : decode cX1_add 1 = .ok (.getfield 52, 3) := by decide +kernel
theorem dX1_add_4 : decode cX1_add 4 = .ok (.bipush 8, 2) := by decide +kernel
theorem dX1_add_6 : decode cX1_add 6 = .ok (.if_icmp .lt 6, 3) := by decide +kernel
theorem dX1_add_9 : decode cX1_add 9 = .ok (.bipush (-2), 2) := by decide +kernel
theorem dX1_add_11 : decode cX1_add 11 = .ok (.ireturn, 1) := by decide +kernel
theorem dX1_add_12 : decode cX1_add 12 = .ok (.aload_n 0, 1) := by decide +kernel
theorem dX1_add_13 : decode cX1_add 13 = .ok (.getfield 52, 3) := by decide +kernel
theorem dX1_add_16 : decode cX1_add 16 = .ok (.istore_n 3, 1) := by decide +kernel
theorem dX1_add_17 : decode cX1_add 17 = .ok (.aload_n 0, 1) := by decide +kernel
theorem dX1_add_18 : decode cX1_add 18 = .ok (.getfield 19, 3) := by decide +kernel
theorem dX1_add_21 : decode cX1_add 21 = .ok (.iload_n 3, 1) := by decide +kernel
theorem dX1_add_22 : decode cX1_add 22 = .ok (.iload_n 1, 1) := by decide +kernel
theorem dX1_add_23 : decode cX1_add 23 = .ok (.iastore, 1) := by decide +kernel
theorem dX1_add_24 : decode cX1_add 24 = .ok (.aload_n 0, 1) := by decide +kernel
theorem dX1_add_25 : decode cX1_add 25 = .ok (.getfield 22, 3) := by decide +kernel
theorem dX1_add_28 : decode cX1_add 28 = .ok (.iload_n 3, 1) := by decide +kernel
theorem dX1_add_29 : decode cX1_add 29 = .ok (.iload_n 2, 1) := by decide +kernel
theorem dX1_add_30 : decode cX1_add 30 = .ok (.iastore, 1) := by decide +kernel
theorem dX1_add_31 : decode cX1_add 31 = .ok (.aload_n 0, 1) := by decide +kernel
theorem dX1_add_32 : decode cX1_add 32 = .ok (.getfield 25, 3) := by decide +kernel
theorem dX1_add_35 : decode cX1_add 35 = .ok (.iload_n 3, 1) := by decide +kernel
theorem dX1_add_36 : decode cX1_add 36 = .ok (.iconst 0, 1) := by decide +kernel
theorem dX1_add_37 : decode cX1_add 37 = .ok (.iastore, 1) := by decide +kernel
theorem dX1_add_38 : decode cX1_add 38 = .ok (.aload_n 0, 1) := by decide +kernel
theorem dX1_add_39 : decode cX1_add 39 = .ok (.getfield 28, 3) := by decide +kernel
theorem dX1_add_42 : decode cX1_add 42 = .ok (.iload_n 3, 1) := by decide +kernel
theorem dX1_add_43 : decode cX1_add 43 = .ok (.iconst 0, 1) := by decide +kernel
theorem dX1_add_44 : decode cX1_add 44 = .ok (.iastore, 1) := by decide +kernel
theorem dX1_add_45 : decode cX1_add 45 = .ok (.aload_n 0, 1) := by decide +kernel
theorem dX1_add_46 : decode cX1_add 46 = .ok (.getfield 31, 3) := by decide +kernel
theorem dX1_add_49 : decode cX1_add 49 = .ok (.iload_n 3, 1) := by decide +kernel
theorem dX1_add_50 : decode cX1_add 50 = .ok (.iconst 0, 1) := by decide +kernel
theorem dX1_add_51 : decode cX1_add 51 = .ok (.iastore, 1) := by decide +kernel
theorem dX1_add_52 : decode cX1_add 52 = .ok (.aload_n 0, 1) := by decide +kernel
theorem dX1_add_53 : decode cX1_add 53 = .ok (.dup, 1) := by decide +kernel
theorem dX1_add_54 : decode cX1_add 54 = .ok (.getfield 52, 3) := by decide +kernel
theorem dX1_add_57 : decode cX1_add 57 = .ok (.iconst 1, 1) := by decide +kernel
theorem dX1_add_58 : decode cX1_add 58 = .ok (.iadd, 1) := by decide +kernel
theorem dX1_add_59 : decode cX1_add 59 = .ok (.putfield 52, 3) := by decide +kernel
theorem dX1_add_62 : decode cX1_add 62 = .ok (.iload_n 3, 1) := by decide +kernel
theorem dX1_add_63 : decode cX1_add 63 = .ok (.ireturn, 1) := by decide +kernel
def pc_X1_add (i : Nat) : Nat := ([0, 9, 12] : List Nat).getD i 0
set_option maxRecDepth 20000 in
theorem ob_X1_add_0 {x : ip_Cx} {G : ip_Gl} {d : Nat} (X : ip_X x G tb 4 d 0 0 RX1 cX1_add) (hr : x.2.2.2.2.2.2.2.2.1.sig.returnType = (some .int)) (hnm : x.2.2.2.2.2.2.2.2.1.name = "add") : ip_okB x G 4 pc_X1_add 0 ([oLdA 0, oGet 1 4, oI (8)], tCm (fun a b => a < b) 2 1) := ⟨_, okC (ok_aldn X rfl dX1_add_0)
  (okC (ok_get X (ci := 1) rfl (by decide) iw_X1 tw_50 dX1_add_1)
  (okC (ok_bi X (by decide) dX1_add_4)
  (okN))), ok_cmlt X (by decide) rfl dX1_add_6⟩
set_option maxRecDepth 20000 in
theorem ob_X1_add_1 {x : ip_Cx} {G : ip_Gl} {d : Nat} (X : ip_X x G tb 4 d 0 0 RX1 cX1_add) (hr : x.2.2.2.2.2.2.2.2.1.sig.returnType = (some .int)) (hnm : x.2.2.2.2.2.2.2.2.1.name = "add") : ip_okB x G 4 pc_X1_add 9 ([oI (-2)], tRI .int 0 0) := ⟨_, okC (ok_bi X (by decide) dX1_add_9)
  (okN), ok_ret X hr dX1_add_11⟩
set_option maxRecDepth 20000 in
theorem ob_X1_add_2 {x : ip_Cx} {G : ip_Gl} {d : Nat} (X : ip_X x G tb 4 d 0 0 RX1 cX1_add) (hr : x.2.2.2.2.2.2.2.2.1.sig.returnType = (some .int)) (hnm : x.2.2.2.2.2.2.2.2.1.name = "add") : ip_okB x G 4 pc_X1_add 12 ([oLdA 0, oGet 1 4, oStI 3, oLdA 0, oGet 1 5, oLdI 3, oLdI 1, oAstI, oLdA 0, oGet 1 6, oLdI 3, oLdI 2, oAstI, oLdA 0, oGet 1 7, oLdI 3, oI (0), oAstI, oLdA 0, oGet 1 8, oLdI 3, oI (0), oAstI, oLdA 0, oGet 1 9, oLdI 3, oI (0), oAstI, oLdA 0, oDup, oGet 1 4, oI (1), oBI (fun a b => a + b), oPut 1 4 .int, oLdI 3], tRI .int 0 0) := ⟨_, okC (ok_aldn X rfl dX1_add_12)
  (okC (ok_get X (ci := 1) rfl (by decide) iw_X1 tw_50 dX1_add_13)
  (okC (ok_istn X rfl (by decide) dX1_add_16)
  (okC (ok_aldn X rfl dX1_add_17)
  (okC (ok_get X (ci := 1) rfl (by decide) iw_X1 tw_53 dX1_add_18)
  (okC (ok_ildn X rfl dX1_add_21)
  (okC (ok_ildn X rfl dX1_add_22)
  (okC (ok_iast X dX1_add_23)
  (okC (ok_aldn X rfl dX1_add_24)
  (okC (ok_get X (ci := 1) rfl (by decide) iw_X1 tw_56 dX1_add_25)
  (okC (ok_ildn X rfl dX1_add_28)
  (okC (ok_ildn X rfl dX1_add_29)
  (okC (ok_iast X dX1_add_30)
  (okC (ok_aldn X rfl dX1_add_31)
  (okC (ok_get X (ci := 1) rfl (by decide) iw_X1 tw_60 dX1_add_32)
  (okC (ok_ildn X rfl dX1_add_35)
  (okC (ok_ic X (by decide) dX1_add_36)
  (okC (ok_iast X dX1_add_37)
  (okC (ok_aldn X rfl dX1_add_38)
  (okC (ok_get X (ci := 1) rfl (by decide) iw_X1 tw_64 dX1_add_39)
  (okC (ok_ildn X rfl dX1_add_42)
  (okC (ok_ic X (by decide) dX1_add_43)
  (okC (ok_iast X dX1_add_44)
  (okC (ok_aldn X rfl dX1_add_45)
  (okC (ok_get X (ci := 1) rfl (by decide) iw_X1 tw_67 dX1_add_46)
  (okC (ok_ildn X rfl dX1_add_49)
  (okC (ok_ic X (by decide) dX1_add_50)
  (okC (ok_iast X dX1_add_51)
  (okC (ok_aldn X rfl dX1_add_52)
  (okC (ok_dup X dX1_add_53)
  (okC (ok_get X (ci := 1) rfl (by decide) iw_X1 tw_50 dX1_add_54)
  (okC (ok_ic X (by decide) dX1_add_57)
  (okC (ok_iadd X dX1_add_58)
  (okC (ok_put X (ci := 1) rfl (by decide) iw_X1 tyX1_ok nmX1 rfl (Or.inl rfl) tw_50 dX1_add_59)
  (okC (ok_ildn X rfl dX1_add_62)
  (okN))))))))))))))))))))))))))))))))))), ok_ret X hr dX1_add_63⟩
theorem om_10 : ip_MOk tb en_10 pc_X1_add := fun x G d X hr hnm => ⟨ob_X1_add_0 X hr hnm, ⟨ob_X1_add_1 X hr hnm, ⟨ob_X1_add_2 X hr hnm, trivial⟩⟩⟩
theorem dX1_saidBy_0 : decode cX1_saidBy 0 = .ok (.aload_n 0, 1) := by decide +kernel
theorem dX1_saidBy_1 : decode cX1_saidBy 1 = .ok (.getfield 28, 3) := by decide +kernel
theorem dX1_saidBy_4 : decode cX1_saidBy 4 = .ok (.iload_n 1, 1) := by decide +kernel
theorem dX1_saidBy_5 : decode cX1_saidBy 5 = .ok (.iaload, 1) := by decide +kernel
theorem dX1_saidBy_6 : decode cX1_saidBy 6 = .ok (.aload_n 0, 1) := by decide +kernel
theorem dX1_saidBy_7 : decode cX1_saidBy 7 = .ok (.getfield 31, 3) := by decide +kernel
theorem dX1_saidBy_10 : decode cX1_saidBy 10 = .ok (.iload_n 1, 1) := by decide +kernel
theorem dX1_saidBy_11 : decode cX1_saidBy 11 = .ok (.iaload, 1) := by decide +kernel
theorem dX1_saidBy_12 : decode cX1_saidBy 12 = .ok (.ior, 1) := by decide +kernel
theorem dX1_saidBy_13 : decode cX1_saidBy 13 = .ok (.invokestatic 58, 3) := by decide +kernel
theorem dX1_saidBy_16 : decode cX1_saidBy 16 = .ok (.ireturn, 1) := by decide +kernel
def pc_X1_saidBy (i : Nat) : Nat := ([0] : List Nat).getD i 0
set_option maxRecDepth 20000 in
theorem ob_X1_saidBy_0 {x : ip_Cx} {G : ip_Gl} {d : Nat} (X : ip_X x G tb 2 d 0 0 RX1 cX1_saidBy) (hr : x.2.2.2.2.2.2.2.2.1.sig.returnType = (some .int)) (hnm : x.2.2.2.2.2.2.2.2.1.name = "saidBy") : ip_okB x G 2 pc_X1_saidBy 0 ([oLdA 0, oGet 1 8, oLdI 1, oAldI, oLdA 0, oGet 1 9, oLdI 1, oAldI, oBI (fun a b => a ||| b), oCal (ip_call tb d) 0 0 227 1 0 0], tRI .int 0 0) := ⟨_, okC (ok_aldn X rfl dX1_saidBy_0)
  (okC (ok_get X (ci := 1) rfl (by decide) iw_X1 tw_64 dX1_saidBy_1)
  (okC (ok_ildn X rfl dX1_saidBy_4)
  (okC (ok_iald X dX1_saidBy_5)
  (okC (ok_aldn X rfl dX1_saidBy_6)
  (okC (ok_get X (ci := 1) rfl (by decide) iw_X1 tw_67 dX1_saidBy_7)
  (okC (ok_ildn X rfl dX1_saidBy_10)
  (okC (ok_iald X dX1_saidBy_11)
  (okC (ok_ior X dX1_saidBy_12)
  (okC (ok_calS X (i := 58) (e := en_227) rfl mt_227 rfl rfl rfl tw_441 tw_432 dX1_saidBy_13)
  (okN)))))))))), ok_ret X hr dX1_saidBy_16⟩
theorem om_11 : ip_MOk tb en_11 pc_X1_saidBy := fun x G d X hr hnm => ⟨ob_X1_saidBy_0 X hr hnm, trivial⟩
theorem dX1_rightOf_0 : decode cX1_rightOf 0 = .ok (.aload_n 0, 1) := by decide +kernel
theorem dX1_rightOf_1 : decode cX1_rightOf 1 = .ok (.getfield 28, 3) := by decide +kernel
theorem dX1_rightOf_4 : decode cX1_rightOf 4 = .ok (.iload_n 1, 1) := by decide +kernel
theorem dX1_rightOf_5 : decode cX1_rightOf 5 = .ok (.iaload, 1) := by decide +kernel
theorem dX1_rightOf_6 : decode cX1_rightOf 6 = .ok (.aload_n 0, 1) := by decide +kernel
theorem dX1_rightOf_7 : decode cX1_rightOf 7 = .ok (.getfield 31, 3) := by decide +kernel
theorem dX1_rightOf_10 : decode cX1_rightOf 10 = .ok (.iload_n 1, 1) := by decide +kernel
theorem dX1_rightOf_11 : decode cX1_rightOf 11 = .ok (.iaload, 1) := by decide +kernel
theorem dX1_rightOf_12 : decode cX1_rightOf 12 = .ok (.iload_n 2, 1) := by decide +kernel
theorem dX1_rightOf_13 : decode cX1_rightOf 13 = .ok (.invokestatic 64, 3) := by decide +kernel
theorem dX1_rightOf_16 : decode cX1_rightOf 16 = .ok (.ireturn, 1) := by decide +kernel
def pc_X1_rightOf (i : Nat) : Nat := ([0] : List Nat).getD i 0
set_option maxRecDepth 20000 in
theorem ob_X1_rightOf_0 {x : ip_Cx} {G : ip_Gl} {d : Nat} (X : ip_X x G tb 3 d 0 0 RX1 cX1_rightOf) (hr : x.2.2.2.2.2.2.2.2.1.sig.returnType = (some .int)) (hnm : x.2.2.2.2.2.2.2.2.1.name = "rightOf") : ip_okB x G 3 pc_X1_rightOf 0 ([oLdA 0, oGet 1 8, oLdI 1, oAldI, oLdA 0, oGet 1 9, oLdI 1, oAldI, oLdI 2, oCal (ip_call tb d) 0 0 114 3 0 0], tRI .int 0 0) := ⟨_, okC (ok_aldn X rfl dX1_rightOf_0)
  (okC (ok_get X (ci := 1) rfl (by decide) iw_X1 tw_64 dX1_rightOf_1)
  (okC (ok_ildn X rfl dX1_rightOf_4)
  (okC (ok_iald X dX1_rightOf_5)
  (okC (ok_aldn X rfl dX1_rightOf_6)
  (okC (ok_get X (ci := 1) rfl (by decide) iw_X1 tw_67 dX1_rightOf_7)
  (okC (ok_ildn X rfl dX1_rightOf_10)
  (okC (ok_iald X dX1_rightOf_11)
  (okC (ok_ildn X rfl dX1_rightOf_12)
  (okC (ok_calSN X (i := 64) (e := en_114) rfl mt_114 rfl rfl rfl (List.mem_of_getElem? (i := 4) rfl) tw_429 dX1_rightOf_13)
  (okN)))))))))), ok_ret X hr dX1_rightOf_16⟩
theorem om_12 : ip_MOk tb en_12 pc_X1_rightOf := fun x G d X hr hnm => ⟨ob_X1_rightOf_0 X hr hnm, trivial⟩
theorem dX1_tread_0 : decode cX1_tread 0 = .ok (.iconst 0, 1) := by decide +kernel
theorem dX1_tread_1 : decode cX1_tread 1 = .ok (.istore_n 2, 1) := by decide +kernel
theorem dX1_tread_2 : decode cX1_tread 2 = .ok (.iload_n 2, 1) := by decide +kernel
theorem dX1_tread_3 : decode cX1_tread 3 = .ok (.aload_n 0, 1) := by decide +kernel
theorem dX1_tread_4 : decode cX1_tread 4 = .ok (.getfield 52, 3) := by decide +kernel
theorem dX1_tread_7 : decode cX1_tread 7 = .ok (.if_icmp .ge 49, 3) := by decide +kernel
theorem dX1_tread_10 : decode cX1_tread 10 = .ok (.aload_n 1, 1) := by decide +kernel
theorem dX1_tread_11 : decode cX1_tread 11 = .ok (.aload_n 0, 1) := by decide +kernel
theorem dX1_tread_12 : decode cX1_tread 12 = .ok (.iload_n 2, 1) := by decide +kernel
theorem dX1_tread_13 : decode cX1_tread 13 = .ok (.aload_n 0, 1) := by decide +kernel
theorem dX1_tread_14 : decode cX1_tread 14 = .ok (.getfield 46, 3) := by decide +kernel
theorem dX1_tread_17 : decode cX1_tread 17 = .ok (.invokevirtual 68, 3) := by decide +kernel
theorem dX1_tread_20 : decode cX1_tread 20 = .ok (.aload_n 1, 1) := by decide +kernel
theorem dX1_tread_21 : decode cX1_tread 21 = .ok (.invokevirtual 74, 3) := by decide +kernel
theorem dX1_tread_24 : decode cX1_tread 24 = .ok (.aload_n 0, 1) := by decide +kernel
theorem dX1_tread_25 : decode cX1_tread 25 = .ok (.getfield 25, 3) := by decide +kernel
theorem dX1_tread_28 : decode cX1_tread 28 = .ok (.iload_n 2, 1) := by decide +kernel
theorem dX1_tread_29 : decode cX1_tread 29 = .ok (.aload_n 1, 1) := by decide +kernel
theorem dX1_tread_30 : decode cX1_tread 30 = .ok (.getfield 77, 3) := by decide +kernel
theorem dX1_tread_33 : decode cX1_tread 33 = .ok (.iastore, 1) := by decide +kernel
theorem dX1_tread_34 : decode cX1_tread 34 = .ok (.aload_n 0, 1) := by decide +kernel
theorem dX1_tread_35 : decode cX1_tread 35 = .ok (.aload_n 0, 1) := by decide +kernel
theorem dX1_tread_36 : decode cX1_tread 36 = .ok (.getfield 55, 3) := by decide +kernel
theorem dX1_tread_39 : decode cX1_tread 39 = .ok (.iload_n 2, 1) := by decide +kernel
theorem dX1_tread_40 : decode cX1_tread 40 = .ok (.aload_n 1, 1) := by decide +kernel
theorem dX1_tread_41 : decode cX1_tread 41 = .ok (.getfield 79, 3) := by decide +kernel
theorem dX1_tread_44 : decode cX1_tread 44 = .ok (.invokestatic 82, 3) := by decide +kernel
theorem dX1_tread_47 : decode cX1_tread 47 = .ok (.putfield 55, 3) := by decide +kernel
theorem dX1_tread_50 : decode cX1_tread 50 = .ok (.iinc 2 1, 3) := by decide +kernel
theorem dX1_tread_53 : decode cX1_tread 53 = .ok (.goto (-51), 3) := by decide +kernel
theorem dX1_tread_56 : decode cX1_tread 56 = .ok (.aload_n 0, 1) := by decide +kernel
theorem dX1_tread_57 : decode cX1_tread 57 = .ok (.dup, 1) := by decide +kernel
theorem dX1_tread_58 : decode cX1_tread 58 = .ok (.getfield 49, 3) := by decide +kernel
theorem dX1_tread_61 : decode cX1_tread 61 = .ok (.iconst 1, 1) := by decide +kernel
theorem dX1_tread_62 : decode cX1_tread 62 = .ok (.iadd, 1) := by decide +kernel
theorem dX1_tread_63 : decode cX1_tread 63 = .ok (.putfield 49, 3) := by decide +kernel
theorem dX1_tread_66 : decode cX1_tread 66 = .ok (.return_, 1) := by decide +kernel
def pc_X1_tread (i : Nat) : Nat := ([0, 2, 10, 56] : List Nat).getD i 0
set_option maxRecDepth 20000 in
theorem ob_X1_tread_0 {x : ip_Cx} {G : ip_Gl} {d : Nat} (X : ip_X x G tb 3 d 0 0 RX1 cX1_tread) (hr : x.2.2.2.2.2.2.2.2.1.sig.returnType = none) (hnm : x.2.2.2.2.2.2.2.2.1.name = "tread") : ip_okB x G 3 pc_X1_tread 0 ([oI (0), oStI 2], tGo 1) := ⟨_, okC (ok_ic X (by decide) dX1_tread_0)
  (okC (ok_istn X rfl (by decide) dX1_tread_1)
  (okN)), ok_fall rfl⟩
set_option maxRecDepth 20000 in
theorem ob_X1_tread_1 {x : ip_Cx} {G : ip_Gl} {d : Nat} (X : ip_X x G tb 3 d 0 0 RX1 cX1_tread) (hr : x.2.2.2.2.2.2.2.2.1.sig.returnType = none) (hnm : x.2.2.2.2.2.2.2.2.1.name = "tread") : ip_okB x G 3 pc_X1_tread 2 ([oLdI 2, oLdA 0, oGet 1 4], tCm (fun a b => a < b) 2 3) := ⟨_, okC (ok_ildn X rfl dX1_tread_2)
  (okC (ok_aldn X rfl dX1_tread_3)
  (okC (ok_get X (ci := 1) rfl (by decide) iw_X1 tw_50 dX1_tread_4)
  (okN))), ok_cmge X (by decide) rfl dX1_tread_7⟩
set_option maxRecDepth 20000 in
theorem ob_X1_tread_2 {x : ip_Cx} {G : ip_Gl} {d : Nat} (X : ip_X x G tb 3 d 0 0 RX1 cX1_tread) (hr : x.2.2.2.2.2.2.2.2.1.sig.returnType = none) (hnm : x.2.2.2.2.2.2.2.2.1.name = "tread") : ip_okB x G 3 pc_X1_tread 10 ([oLdA 1, oLdA 0, oLdI 2, oLdA 0, oGet 1 1, oCaV (ip_call tb d) 0 0 4 39 4 0 0, oLdA 1, oCaV (ip_call tb d) 0 0 4 48 1 0 0, oLdA 0, oGet 1 7, oLdI 2, oLdA 1, oGet 4 6, oAstI, oLdA 0, oLdA 0, oGet 1 10, oLdI 2, oLdA 1, oGet 4 9, oCal (ip_call tb d) 0 0 105 3 0 0, oPut 1 10 .int, oInc 2 (1)], tGo 1) := ⟨_, okC (ok_aldn X rfl dX1_tread_10)
  (okC (ok_aldn X rfl dX1_tread_11)
  (okC (ok_ildn X rfl dX1_tread_12)
  (okC (ok_aldn X rfl dX1_tread_13)
  (okC (ok_get X (ci := 1) rfl (by decide) iw_X1 tw_42 dX1_tread_14)
  (okC (ok_calV X (i := 68) (e := en_39) rfl mt_39 rfl rfl rfl tw_490 tw_418 (Or.inl ⟨_, _, rfl⟩) tw_419 dX1_tread_17)
  (okC (ok_aldn X rfl dX1_tread_20)
  (okC (ok_calV X (i := 74) (e := en_48) rfl mt_48 rfl rfl rfl tw_491 tw_492 (Or.inl ⟨_, _, rfl⟩) tw_493 dX1_tread_21)
  (okC (ok_aldn X rfl dX1_tread_24)
  (okC (ok_get X (ci := 1) rfl (by decide) iw_X1 tw_60 dX1_tread_25)
  (okC (ok_ildn X rfl dX1_tread_28)
  (okC (ok_aldn X rfl dX1_tread_29)
  (okC (ok_get X (ci := 4) rfl (by decide) iw_X4 tw_112 dX1_tread_30)
  (okC (ok_iast X dX1_tread_33)
  (okC (ok_aldn X rfl dX1_tread_34)
  (okC (ok_aldn X rfl dX1_tread_35)
  (okC (ok_get X (ci := 1) rfl (by decide) iw_X1 tw_70 dX1_tread_36)
  (okC (ok_ildn X rfl dX1_tread_39)
  (okC (ok_aldn X rfl dX1_tread_40)
  (okC (ok_get X (ci := 4) rfl (by decide) iw_X4 tw_119 dX1_tread_41)
  (okC (ok_calSN X (i := 82) (e := en_105) rfl mt_105 rfl rfl rfl (List.mem_of_getElem? (i := 5) rfl) tw_392 dX1_tread_44)
  (okC (ok_put X (ci := 1) rfl (by decide) iw_X1 tyX1_ok nmX1 rfl (Or.inl rfl) tw_70 dX1_tread_47)
  (okC (ok_inc X (by decide) dX1_tread_50)
  (okN))))))))))))))))))))))), ok_go X (by decide) dX1_tread_53⟩
set_option maxRecDepth 20000 in
theorem ob_X1_tread_3 {x : ip_Cx} {G : ip_Gl} {d : Nat} (X : ip_X x G tb 3 d 0 0 RX1 cX1_tread) (hr : x.2.2.2.2.2.2.2.2.1.sig.returnType = none) (hnm : x.2.2.2.2.2.2.2.2.1.name = "tread") : ip_okB x G 3 pc_X1_tread 56 ([oLdA 0, oDup, oGet 1 2, oI (1), oBI (fun a b => a + b), oPut 1 2 .int], tRV 0 0) := ⟨_, okC (ok_aldn X rfl dX1_tread_56)
  (okC (ok_dup X dX1_tread_57)
  (okC (ok_get X (ci := 1) rfl (by decide) iw_X1 tw_45 dX1_tread_58)
  (okC (ok_ic X (by decide) dX1_tread_61)
  (okC (ok_iadd X dX1_tread_62)
  (okC (ok_put X (ci := 1) rfl (by decide) iw_X1 tyX1_ok nmX1 rfl (Or.inl rfl) tw_45 dX1_tread_63)
  (okN)))))), ok_vret X hr dX1_tread_66⟩
theorem om_13 : ip_MOk tb en_13 pc_X1_tread := fun x G d X hr hnm => ⟨ob_X1_tread_0 X hr hnm, ⟨ob_X1_tread_1 X hr hnm, ⟨ob_X1_tread_2 X hr hnm, ⟨ob_X1_tread_3 X hr hnm, trivial⟩⟩⟩⟩
theorem dX1_draw_0 : decode cX1_draw 0 = .ok (.aload_n 0, 1) := by decide +kernel
theorem dX1_draw_1 : decode cX1_draw 1 = .ok (.aload_n 0, 1) := by decide +kernel
theorem dX1_draw_2 : decode cX1_draw 2 = .ok (.getfield 15, 3) := by decide +kernel
theorem dX1_draw_5 : decode cX1_draw 5 = .ok (.ldc 86, 2) := by decide +kernel
theorem dX1_draw_7 : decode cX1_draw 7 = .ok (.imul, 1) := by decide +kernel
theorem dX1_draw_8 : decode cX1_draw 8 = .ok (.sipush 12345, 3) := by decide +kernel
theorem dX1_draw_11 : decode cX1_draw 11 = .ok (.iadd, 1) := by decide +kernel
theorem dX1_draw_12 : decode cX1_draw 12 = .ok (.putfield 15, 3) := by decide +kernel
theorem dX1_draw_15 : decode cX1_draw 15 = .ok (.aload_n 0, 1) := by decide +kernel
theorem dX1_draw_16 : decode cX1_draw 16 = .ok (.getfield 15, 3) := by decide +kernel
theorem dX1_draw_19 : decode cX1_draw 19 = .ok (.bipush 16, 2) := by decide +kernel
theorem dX1_draw_21 : decode cX1_draw 21 = .ok (.iushr, 1) := by decide +kernel
theorem dX1_draw_22 : decode cX1_draw 22 = .ok (.ireturn, 1) := by decide +kernel
def pc_X1_draw (i : Nat) : Nat := ([0] : List Nat).getD i 0
set_option maxRecDepth 20000 in
theorem ob_X1_draw_0 {x : ip_Cx} {G : ip_Gl} {d : Nat} (X : ip_X x G tb 1 d 0 0 RX1 cX1_draw) (hr : x.2.2.2.2.2.2.2.2.1.sig.returnType = (some .int)) (hnm : x.2.2.2.2.2.2.2.2.1.name = "draw") : ip_okB x G 1 pc_X1_draw 0 ([oLdA 0, oLdA 0, oGet 1 3, oI (1103515245), oBI (fun a b => a * b), oI (12345), oBI (fun a b => a + b), oPut 1 3 .int, oLdA 0, oGet 1 3, oI (16), oBI (fun a b => (a.toUInt32 >>> (b.toUInt32 &&& Int32.toUInt32 31)).toInt32)], tRI .int 0 0) := ⟨_, okC (ok_aldn X rfl dX1_draw_0)
  (okC (ok_aldn X rfl dX1_draw_1)
  (okC (ok_get X (ci := 1) rfl (by decide) iw_X1 tw_48 dX1_draw_2)
  (okC (ok_ldc X tw_529 dX1_draw_5)
  (okC (ok_imul X dX1_draw_7)
  (okC (ok_si X (by decide) dX1_draw_8)
  (okC (ok_iadd X dX1_draw_11)
  (okC (ok_put X (ci := 1) rfl (by decide) iw_X1 tyX1_ok nmX1 rfl (Or.inl rfl) tw_48 dX1_draw_12)
  (okC (ok_aldn X rfl dX1_draw_15)
  (okC (ok_get X (ci := 1) rfl (by decide) iw_X1 tw_48 dX1_draw_16)
  (okC (ok_bi X (by decide) dX1_draw_19)
  (okC (ok_iushr X dX1_draw_21)
  (okN)))))))))))), ok_ret X hr dX1_draw_22⟩
theorem om_14 : ip_MOk tb en_14 pc_X1_draw := fun x G d X hr hnm => ⟨ob_X1_draw_0 X hr hnm, trivial⟩
theorem dX1_treadByDraws_0 : decode cX1_treadByDraws 0 = .ok (.aload_n 0, 1) := by decide +kernel
theorem dX1_treadByDraws_1 : decode cX1_treadByDraws 1 = .ok (.invokevirtual 87, 3) := by decide +kernel
theorem dX1_treadByDraws_4 : decode cX1_treadByDraws 4 = .ok (.bipush 8, 2) := by decide +kernel
theorem dX1_treadByDraws_6 : decode cX1_treadByDraws 6 = .ok (.irem, 1) := by decide +kernel
theorem dX1_treadByDraws_7 : decode cX1_treadByDraws 7 = .ok (.istore_n 2, 1) := by decide +kernel
theorem dX1_treadByDraws_8 : decode cX1_treadByDraws 8 = .ok (.aload_n 0, 1) := by decide +kernel
theorem dX1_treadByDraws_9 : decode cX1_treadByDraws 9 = .ok (.invokevirtual 87, 3) := by decide +kernel
theorem dX1_treadByDraws_12 : decode cX1_treadByDraws 12 = .ok (.bipush 100, 2) := by decide +kernel
theorem dX1_treadByDraws_14 : decode cX1_treadByDraws 14 = .ok (.irem, 1) := by decide +kernel
theorem dX1_treadByDraws_15 : decode cX1_treadByDraws 15 = .ok (.aload_n 0, 1) := by decide +kernel
theorem dX1_treadByDraws_16 : decode cX1_treadByDraws 16 = .ok (.getfield 9, 3) := by decide +kernel
theorem dX1_treadByDraws_19 : decode cX1_treadByDraws 19 = .ok (.iconst 3, 1) := by decide +kernel
theorem dX1_treadByDraws_20 : decode cX1_treadByDraws 20 = .ok (.iaload, 1) := by decide +kernel
theorem dX1_treadByDraws_21 : decode cX1_treadByDraws 21 = .ok (.if_icmp .ge 15, 3) := by decide +kernel
theorem dX1_treadByDraws_24 : decode cX1_treadByDraws 24 = .ok (.aload_n 0, 1) := by decide +kernel
theorem dX1_treadByDraws_25 : decode cX1_treadByDraws 25 = .ok (.dup, 1) := by decide +kernel
theorem dX1_treadByDraws_26 : decode cX1_treadByDraws 26 = .ok (.getfield 46, 3) := by decide +kernel
theorem dX1_treadByDraws_29 : decode cX1_treadByDraws 29 = .ok (.iconst 1, 1) := by decide +kernel
theorem dX1_treadByDraws_30 : decode cX1_treadByDraws 30 = .ok (.iload_n 2, 1) := by decide +kernel
theorem dX1_treadByDraws_31 : decode cX1_treadByDraws 31 = .ok (.ishl, 1) := by decide +kernel
theorem dX1_treadByDraws_32 : decode cX1_treadByDraws 32 = .ok (.ixor, 1) := by decide +kernel
theorem dX1_treadByDraws_33 : decode cX1_treadByDraws 33 = .ok (.putfield 46, 3) := by decide +kernel
theorem dX1_treadByDraws_36 : decode cX1_treadByDraws 36 = .ok (.aload_n 0, 1) := by decide +kernel
theorem dX1_treadByDraws_37 : decode cX1_treadByDraws 37 = .ok (.aload_n 1, 1) := by decide +kernel
theorem dX1_treadByDraws_38 : decode cX1_treadByDraws 38 = .ok (.invokevirtual 91, 3) := by decide +kernel
theorem dX1_treadByDraws_41 : decode cX1_treadByDraws 41 = .ok (.return_, 1) := by decide +kernel
def pc_X1_treadByDraws (i : Nat) : Nat := ([0, 24, 36] : List Nat).getD i 0
set_option maxRecDepth 20000 in
theorem ob_X1_treadByDraws_0 {x : ip_Cx} {G : ip_Gl} {d : Nat} (X : ip_X x G tb 3 d 0 0 RX1 cX1_treadByDraws) (hr : x.2.2.2.2.2.2.2.2.1.sig.returnType = none) (hnm : x.2.2.2.2.2.2.2.2.1.name = "treadByDraws") : ip_okB x G 3 pc_X1_treadByDraws 0 ([oLdA 0, oCaV (ip_call tb d) 0 0 1 14 1 0 0, oI (8), oDI (fun a b => a - a / b * b), oStI 2, oLdA 0, oCaV (ip_call tb d) 0 0 1 14 1 0 0, oI (100), oDI (fun a b => a - a / b * b), oLdA 0, oGet 1 0, oI (3), oAldI], tCm (fun a b => a < b) 1 2) := ⟨_, okC (ok_aldn X rfl dX1_treadByDraws_0)
  (okC (ok_calV X (i := 87) (e := en_14) rfl mt_14 rfl rfl rfl tw_525 tw_526 (Or.inl ⟨_, _, rfl⟩) tw_527 dX1_treadByDraws_1)
  (okC (ok_bi X (by decide) dX1_treadByDraws_4)
  (okC (ok_irem X dX1_treadByDraws_6)
  (okC (ok_istn X rfl (by decide) dX1_treadByDraws_7)
  (okC (ok_aldn X rfl dX1_treadByDraws_8)
  (okC (ok_calV X (i := 87) (e := en_14) rfl mt_14 rfl rfl rfl tw_525 tw_526 (Or.inl ⟨_, _, rfl⟩) tw_527 dX1_treadByDraws_9)
  (okC (ok_bi X (by decide) dX1_treadByDraws_12)
  (okC (ok_irem X dX1_treadByDraws_14)
  (okC (ok_aldn X rfl dX1_treadByDraws_15)
  (okC (ok_get X (ci := 1) rfl (by decide) iw_X1 tw_38 dX1_treadByDraws_16)
  (okC (ok_ic X (by decide) dX1_treadByDraws_19)
  (okC (ok_iald X dX1_treadByDraws_20)
  (okN))))))))))))), ok_cmge X (by decide) rfl dX1_treadByDraws_21⟩
set_option maxRecDepth 20000 in
theorem ob_X1_treadByDraws_1 {x : ip_Cx} {G : ip_Gl} {d : Nat} (X : ip_X x G tb 3 d 0 0 RX1 cX1_treadByDraws) (hr : x.2.2.2.2.2.2.2.2.1.sig.returnType = none) (hnm : x.2.2.2.2.2.2.2.2.1.name = "treadByDraws") : ip_okB x G 3 pc_X1_treadByDraws 24 ([oLdA 0, oDup, oGet 1 1, oI (1), oLdI 2, oBI (fun a b => a <<< (b &&& 31)), oBI (fun a b => a ^^^ b), oPut 1 1 .int], tGo 2) := ⟨_, okC (ok_aldn X rfl dX1_treadByDraws_24)
  (okC (ok_dup X dX1_treadByDraws_25)
  (okC (ok_get X (ci := 1) rfl (by decide) iw_X1 tw_42 dX1_treadByDraws_26)
  (okC (ok_ic X (by decide) dX1_treadByDraws_29)
  (okC (ok_ildn X rfl dX1_treadByDraws_30)
  (okC (ok_ishl X dX1_treadByDraws_31)
  (okC (ok_ixor X dX1_treadByDraws_32)
  (okC (ok_put X (ci := 1) rfl (by decide) iw_X1 tyX1_ok nmX1 rfl (Or.inl rfl) tw_42 dX1_treadByDraws_33)
  (okN)))))))), ok_fall rfl⟩
set_option maxRecDepth 20000 in
theorem ob_X1_treadByDraws_2 {x : ip_Cx} {G : ip_Gl} {d : Nat} (X : ip_X x G tb 3 d 0 0 RX1 cX1_treadByDraws) (hr : x.2.2.2.2.2.2.2.2.1.sig.returnType = none) (hnm : x.2.2.2.2.2.2.2.2.1.name = "treadByDraws") : ip_okB x G 3 pc_X1_treadByDraws 36 ([oLdA 0, oLdA 1, oCaV (ip_call tb d) 0 0 1 13 2 0 0], tRV 0 0) := ⟨_, okC (ok_aldn X rfl dX1_treadByDraws_36)
  (okC (ok_aldn X rfl dX1_treadByDraws_37)
  (okC (ok_calV X (i := 91) (e := en_13) rfl mt_13 rfl rfl rfl tw_530 tw_487 (Or.inl ⟨_, _, rfl⟩) tw_488 dX1_treadByDraws_38)
  (okN))), ok_vret X hr dX1_treadByDraws_41⟩
theorem om_15 : ip_MOk tb en_15 pc_X1_treadByDraws := fun x G d X hr hnm => ⟨ob_X1_treadByDraws_0 X hr hnm, ⟨ob_X1_treadByDraws_1 X hr hnm, ⟨ob_X1_treadByDraws_2 X hr hnm, trivial⟩⟩⟩
theorem dX1_across_0 : decode cX1_across 0 = .ok (.iconst 0, 1) := by decide +kernel
theorem dX1_across_1 : decode cX1_across 1 = .ok (.istore_n 1, 1) := by decide +kernel
theorem dX1_across_2 : decode cX1_across 2 = .ok (.iconst 0, 1) := by decide +kernel
theorem dX1_across_3 : decode cX1_across 3 = .ok (.istore_n 2, 1) := by decide +kernel
theorem dX1_across_4 : decode cX1_across 4 = .ok (.iload_n 2, 1) := by decide +kernel
theorem dX1_across_5 : decode cX1_across 5 = .ok (.aload_n 0, 1) := by decide +kernel
theorem dX1_across_6 : decode cX1_across 6 = .ok (.getfield 52, 3) := by decide +kernel
theorem dX1_across_9 : decode cX1_across 9 = .ok (.if_icmp .ge 31, 3) := by decide +kernel
theorem dX1_across_12 : decode cX1_across 12 = .ok (.iload_n 1, 1) := by decide +kernel
theorem dX1_across_13 : decode cX1_across 13 = .ok (.iload_n 2, 1) := by decide +kernel
theorem dX1_across_14 : decode cX1_across 14 = .ok (.aload_n 0, 1) := by decide +kernel
theorem dX1_across_15 : decode cX1_across 15 = .ok (.getfield 25, 3) := by decide +kernel
theorem dX1_across_18 : decode cX1_across 18 = .ok (.iload_n 2, 1) := by decide +kernel
theorem dX1_across_19 : decode cX1_across 19 = .ok (.iaload, 1) := by decide +kernel
theorem dX1_across_20 : decode cX1_across 20 = .ok (.bipush 20, 2) := by decide +kernel
theorem dX1_across_22 : decode cX1_across 22 = .ok (.if_icmp .ne 7, 3) := by decide +kernel
theorem dX1_across_25 : decode cX1_across 25 = .ok (.iconst 1, 1) := by decide +kernel
theorem dX1_across_26 : decode cX1_across 26 = .ok (.goto 4, 3) := by decide +kernel
theorem dX1_across_29 : decode cX1_across 29 = .ok (.iconst 0, 1) := by decide +kernel
theorem dX1_across_30 : decode cX1_across 30 = .ok (.invokestatic 82, 3) := by decide +kernel
theorem dX1_across_33 : decode cX1_across 33 = .ok (.istore_n 1, 1) := by decide +kernel
theorem dX1_across_34 : decode cX1_across 34 = .ok (.iinc 2 1, 3) := by decide +kernel
theorem dX1_across_37 : decode cX1_across 37 = .ok (.goto (-33), 3) := by decide +kernel
theorem dX1_across_40 : decode cX1_across 40 = .ok (.iload_n 1, 1) := by decide +kernel
theorem dX1_across_41 : decode cX1_across 41 = .ok (.ireturn, 1) := by decide +kernel
def pc_X1_across (i : Nat) : Nat := ([0, 4, 12, 25, 29, 30, 40] : List Nat).getD i 0
set_option maxRecDepth 20000 in
theorem ob_X1_across_0 {x : ip_Cx} {G : ip_Gl} {d : Nat} (X : ip_X x G tb 3 d 0 0 RX1 cX1_across) (hr : x.2.2.2.2.2.2.2.2.1.sig.returnType = (some .int)) (hnm : x.2.2.2.2.2.2.2.2.1.name = "across") : ip_okB x G 3 pc_X1_across 0 ([oI (0), oStI 1, oI (0), oStI 2], tGo 1) := ⟨_, okC (ok_ic X (by decide) dX1_across_0)
  (okC (ok_istn X rfl (by decide) dX1_across_1)
  (okC (ok_ic X (by decide) dX1_across_2)
  (okC (ok_istn X rfl (by decide) dX1_across_3)
  (okN)))), ok_fall rfl⟩
set_option maxRecDepth 20000 in
theorem ob_X1_across_1 {x : ip_Cx} {G : ip_Gl} {d : Nat} (X : ip_X x G tb 3 d 0 0 RX1 cX1_across) (hr : x.2.2.2.2.2.2.2.2.1.sig.returnType = (some .int)) (hnm : x.2.2.2.2.2.2.2.2.1.name = "across") : ip_okB x G 3 pc_X1_across 4 ([oLdI 2, oLdA 0, oGet 1 4], tCm (fun a b => a < b) 2 6) := ⟨_, okC (ok_ildn X rfl dX1_across_4)
  (okC (ok_aldn X rfl dX1_across_5)
  (okC (ok_get X (ci := 1) rfl (by decide) iw_X1 tw_50 dX1_across_6)
  (okN))), ok_cmge X (by decide) rfl dX1_across_9⟩
set_option maxRecDepth 20000 in
theorem ob_X1_across_2 {x : ip_Cx} {G : ip_Gl} {d : Nat} (X : ip_X x G tb 3 d 0 0 RX1 cX1_across) (hr : x.2.2.2.2.2.2.2.2.1.sig.returnType = (some .int)) (hnm : x.2.2.2.2.2.2.2.2.1.name = "across") : ip_okB x G 3 pc_X1_across 12 ([oLdI 1, oLdI 2, oLdA 0, oGet 1 7, oLdI 2, oAldI, oI (20)], tCm (fun a b => a = b) 3 4) := ⟨_, okC (ok_ildn X rfl dX1_across_12)
  (okC (ok_ildn X rfl dX1_across_13)
  (okC (ok_aldn X rfl dX1_across_14)
  (okC (ok_get X (ci := 1) rfl (by decide) iw_X1 tw_60 dX1_across_15)
  (okC (ok_ildn X rfl dX1_across_18)
  (okC (ok_iald X dX1_across_19)
  (okC (ok_bi X (by decide) dX1_across_20)
  (okN))))))), ok_cmne X (by decide) rfl dX1_across_22⟩
set_option maxRecDepth 20000 in
theorem ob_X1_across_3 {x : ip_Cx} {G : ip_Gl} {d : Nat} (X : ip_X x G tb 3 d 0 0 RX1 cX1_across) (hr : x.2.2.2.2.2.2.2.2.1.sig.returnType = (some .int)) (hnm : x.2.2.2.2.2.2.2.2.1.name = "across") : ip_okB x G 3 pc_X1_across 25 ([oI (1)], tGo 5) := ⟨_, okC (ok_ic X (by decide) dX1_across_25)
  (okN), ok_go X (by decide) dX1_across_26⟩
set_option maxRecDepth 20000 in
theorem ob_X1_across_4 {x : ip_Cx} {G : ip_Gl} {d : Nat} (X : ip_X x G tb 3 d 0 0 RX1 cX1_across) (hr : x.2.2.2.2.2.2.2.2.1.sig.returnType = (some .int)) (hnm : x.2.2.2.2.2.2.2.2.1.name = "across") : ip_okB x G 3 pc_X1_across 29 ([oI (0)], tGo 5) := ⟨_, okC (ok_ic X (by decide) dX1_across_29)
  (okN), ok_fall rfl⟩
set_option maxRecDepth 20000 in
theorem ob_X1_across_5 {x : ip_Cx} {G : ip_Gl} {d : Nat} (X : ip_X x G tb 3 d 0 0 RX1 cX1_across) (hr : x.2.2.2.2.2.2.2.2.1.sig.returnType = (some .int)) (hnm : x.2.2.2.2.2.2.2.2.1.name = "across") : ip_okB x G 3 pc_X1_across 30 ([oCal (ip_call tb d) 0 0 105 3 0 0, oStI 1, oInc 2 (1)], tGo 1) := ⟨_, okC (ok_calSN X (i := 82) (e := en_105) rfl mt_105 rfl rfl rfl (List.mem_of_getElem? (i := 5) rfl) tw_392 dX1_across_30)
  (okC (ok_istn X rfl (by decide) dX1_across_33)
  (okC (ok_inc X (by decide) dX1_across_34)
  (okN))), ok_go X (by decide) dX1_across_37⟩
set_option maxRecDepth 20000 in
theorem ob_X1_across_6 {x : ip_Cx} {G : ip_Gl} {d : Nat} (X : ip_X x G tb 3 d 0 0 RX1 cX1_across) (hr : x.2.2.2.2.2.2.2.2.1.sig.returnType = (some .int)) (hnm : x.2.2.2.2.2.2.2.2.1.name = "across") : ip_okB x G 3 pc_X1_across 40 ([oLdI 1], tRI .int 0 0) := ⟨_, okC (ok_ildn X rfl dX1_across_40)
  (okN), ok_ret X hr dX1_across_41⟩
theorem om_16 : ip_MOk tb en_16 pc_X1_across := fun x G d X hr hnm => ⟨ob_X1_across_0 X hr hnm, ⟨ob_X1_across_1 X hr hnm, ⟨ob_X1_across_2 X hr hnm, ⟨ob_X1_across_3 X hr hnm, ⟨ob_X1_across_4 X hr hnm, ⟨ob_X1_across_5 X hr hnm, ⟨ob_X1_across_6 X hr hnm, trivial⟩⟩⟩⟩⟩⟩⟩
theorem dX1_placesTogether_0 : decode cX1_placesTogether 0 = .ok (.iconst 0, 1) := by decide +kernel
theorem dX1_placesTogether_1 : decode cX1_placesTogether 1 = .ok (.istore_n 1, 1) := by decide +kernel
theorem dX1_placesTogether_2 : decode cX1_placesTogether 2 = .ok (.iconst 0, 1) := by decide +kernel
theorem dX1_placesTogether_3 : decode cX1_placesTogether 3 = .ok (.istore_n 2, 1) := by decide +kernel
theorem dX1_placesTogether_4 : decode cX1_placesTogether 4 = .ok (.iload_n 2, 1) := by decide +kernel
theorem dX1_placesTogether_5 : decode cX1_placesTogether 5 = .ok (.aload_n 0, 1) := by decide +kernel
theorem dX1_placesTogether_6 : decode cX1_placesTogether 6 = .ok (.getfield 52, 3) := by decide +kernel
theorem dX1_placesTogether_9 : decode cX1_placesTogether 9 = .ok (.if_icmp .ge 18, 3) := by decide +kernel
theorem dX1_placesTogether_12 : decode cX1_placesTogether 12 = .ok (.iload_n 1, 1) := by decide +kernel
theorem dX1_placesTogether_13 : decode cX1_placesTogether 13 = .ok (.aload_n 0, 1) := by decide +kernel
theorem dX1_placesTogether_14 : decode cX1_placesTogether 14 = .ok (.getfield 25, 3) := by decide +kernel
theorem dX1_placesTogether_17 : decode cX1_placesTogether 17 = .ok (.iload_n 2, 1) := by decide +kernel
theorem dX1_placesTogether_18 : decode cX1_placesTogether 18 = .ok (.iaload, 1) := by decide +kernel
theorem dX1_placesTogether_19 : decode cX1_placesTogether 19 = .ok (.iadd, 1) := by decide +kernel
theorem dX1_placesTogether_20 : decode cX1_placesTogether 20 = .ok (.istore_n 1, 1) := by decide +kernel
theorem dX1_placesTogether_21 : decode cX1_placesTogether 21 = .ok (.iinc 2 1, 3) := by decide +kernel
theorem dX1_placesTogether_24 : decode cX1_placesTogether 24 = .ok (.goto (-20), 3) := by decide +kernel
theorem dX1_placesTogether_27 : decode cX1_placesTogether 27 = .ok (.iload_n 1, 1) := by decide +kernel
theorem dX1_placesTogether_28 : decode cX1_placesTogether 28 = .ok (.ireturn, 1) := by decide +kernel
def pc_X1_placesTogether (i : Nat) : Nat := ([0, 4, 12, 27] : List Nat).getD i 0
set_option maxRecDepth 20000 in
theorem ob_X1_placesTogether_0 {x : ip_Cx} {G : ip_Gl} {d : Nat} (X : ip_X x G tb 3 d 0 0 RX1 cX1_placesTogether) (hr : x.2.2.2.2.2.2.2.2.1.sig.returnType = (some .int)) (hnm : x.2.2.2.2.2.2.2.2.1.name = "placesTogether") : ip_okB x G 3 pc_X1_placesTogether 0 ([oI (0), oStI 1, oI (0), oStI 2], tGo 1) := ⟨_, okC (ok_ic X (by decide) dX1_placesTogether_0)
  (okC (ok_istn X rfl (by decide) dX1_placesTogether_1)
  (okC (ok_ic X (by decide) dX1_placesTogether_2)
  (okC (ok_istn X rfl (by decide) dX1_placesTogether_3)
  (okN)))), ok_fall rfl⟩
set_option maxRecDepth 20000 in
theorem ob_X1_placesTogether_1 {x : ip_Cx} {G : ip_Gl} {d : Nat} (X : ip_X x G tb 3 d 0 0 RX1 cX1_placesTogether) (hr : x.2.2.2.2.2.2.2.2.1.sig.returnType = (some .int)) (hnm : x.2.2.2.2.2.2.2.2.1.name = "placesTogether") : ip_okB x G 3 pc_X1_placesTogether 4 ([oLdI 2, oLdA 0, oGet 1 4], tCm (fun a b => a < b) 2 3) := ⟨_, okC (ok_ildn X rfl dX1_placesTogether_4)
  (okC (ok_aldn X rfl dX1_placesTogether_5)
  (okC (ok_get X (ci := 1) rfl (by decide) iw_X1 tw_50 dX1_placesTogether_6)
  (okN))), ok_cmge X (by decide) rfl dX1_placesTogether_9⟩
set_option maxRecDepth 20000 in
theorem ob_X1_placesTogether_2 {x : ip_Cx} {G : ip_Gl} {d : Nat} (X : ip_X x G tb 3 d 0 0 RX1 cX1_placesTogether) (hr : x.2.2.2.2.2.2.2.2.1.sig.returnType = (some .int)) (hnm : x.2.2.2.2.2.2.2.2.1.name = "placesTogether") : ip_okB x G 3 pc_X1_placesTogether 12 ([oLdI 1, oLdA 0, oGet 1 7, oLdI 2, oAldI, oBI (fun a b => a + b), oStI 1, oInc 2 (1)], tGo 1) := ⟨_, okC (ok_ildn X rfl dX1_placesTogether_12)
  (okC (ok_aldn X rfl dX1_placesTogether_13)
  (okC (ok_get X (ci := 1) rfl (by decide) iw_X1 tw_60 dX1_placesTogether_14)
  (okC (ok_ildn X rfl dX1_placesTogether_17)
  (okC (ok_iald X dX1_placesTogether_18)
  (okC (ok_iadd X dX1_placesTogether_19)
  (okC (ok_istn X rfl (by decide) dX1_placesTogether_20)
  (okC (ok_inc X (by decide) dX1_placesTogether_21)
  (okN)))))))), ok_go X (by decide) dX1_placesTogether_24⟩
set_option maxRecDepth 20000 in
theorem ob_X1_placesTogether_3 {x : ip_Cx} {G : ip_Gl} {d : Nat} (X : ip_X x G tb 3 d 0 0 RX1 cX1_placesTogether) (hr : x.2.2.2.2.2.2.2.2.1.sig.returnType = (some .int)) (hnm : x.2.2.2.2.2.2.2.2.1.name = "placesTogether") : ip_okB x G 3 pc_X1_placesTogether 27 ([oLdI 1], tRI .int 0 0) := ⟨_, okC (ok_ildn X rfl dX1_placesTogether_27)
  (okN), ok_ret X hr dX1_placesTogether_28⟩
theorem om_17 : ip_MOk tb en_17 pc_X1_placesTogether := fun x G d X hr hnm => ⟨ob_X1_placesTogether_0 X hr hnm, ⟨ob_X1_placesTogether_1 X hr hnm, ⟨ob_X1_placesTogether_2 X hr hnm, ⟨ob_X1_placesTogether_3 X hr hnm, trivial⟩⟩⟩⟩
theorem dX1_held_0 : decode cX1_held 0 = .ok (.iconst 0, 1) := by decide +kernel
theorem dX1_held_1 : decode cX1_held 1 = .ok (.istore_n 1, 1) := by decide +kernel
theorem dX1_held_2 : decode cX1_held 2 = .ok (.iconst 0, 1) := by decide +kernel
theorem dX1_held_3 : decode cX1_held 3 = .ok (.istore_n 2, 1) := by decide +kernel
theorem dX1_held_4 : decode cX1_held 4 = .ok (.iload_n 2, 1) := by decide +kernel
theorem dX1_held_5 : decode cX1_held 5 = .ok (.iconst 1, 1) := by decide +kernel
theorem dX1_held_6 : decode cX1_held 6 = .ok (.aload_n 0, 1) := by decide +kernel
theorem dX1_held_7 : decode cX1_held 7 = .ok (.getfield 52, 3) := by decide +kernel
theorem dX1_held_10 : decode cX1_held 10 = .ok (.ishl, 1) := by decide +kernel
theorem dX1_held_11 : decode cX1_held 11 = .ok (.if_icmp .ge 79, 3) := by decide +kernel
theorem dX1_held_14 : decode cX1_held 14 = .ok (.iconst 0, 1) := by decide +kernel
theorem dX1_held_15 : decode cX1_held 15 = .ok (.istore_n 3, 1) := by decide +kernel
theorem dX1_held_16 : decode cX1_held 16 = .ok (.iconst 0, 1) := by decide +kernel
theorem dX1_held_17 : decode cX1_held 17 = .ok (.istore 4, 2) := by decide +kernel
theorem dX1_held_19 : decode cX1_held 19 = .ok (.iconst 0, 1) := by decide +kernel
theorem dX1_held_20 : decode cX1_held 20 = .ok (.istore 5, 2) := by decide +kernel
theorem dX1_held_22 : decode cX1_held 22 = .ok (.iload 5, 2) := by decide +kernel
theorem dX1_held_24 : decode cX1_held 24 = .ok (.aload_n 0, 1) := by decide +kernel
theorem dX1_held_25 : decode cX1_held 25 = .ok (.getfield 52, 3) := by decide +kernel
theorem dX1_held_28 : decode cX1_held 28 = .ok (.if_icmp .ge 40, 3) := by decide +kernel
theorem dX1_held_31 : decode cX1_held 31 = .ok (.iload_n 2, 1) := by decide +kernel
theorem dX1_held_32 : decode cX1_held 32 = .ok (.iload 5, 2) := by decide +kernel
theorem dX1_held_34 : decode cX1_held 34 = .ok (.invokestatic 94, 3) := by decide +kernel
theorem dX1_held_37 : decode cX1_held 37 = .ok (.ifCond .eq 25, 3) := by decide +kernel
theorem dX1_held_40 : decode cX1_held 40 = .ok (.iload_n 3, 1) := by decide +kernel
theorem dX1_held_41 : decode cX1_held 41 = .ok (.aload_n 0, 1) := by decide +kernel
theorem dX1_held_42 : decode cX1_held 42 = .ok (.getfield 28, 3) := by decide +kernel
theorem dX1_held_45 : decode cX1_held 45 = .ok (.iload 5, 2) := by decide +kernel
theorem dX1_held_47 : decode cX1_held 47 = .ok (.iaload, 1) := by decide +kernel
theorem dX1_held_48 : decode cX1_held 48 = .ok (.ior, 1) := by decide +kernel
theorem dX1_held_49 : decode cX1_held 49 = .ok (.istore_n 3, 1) := by decide +kernel
theorem dX1_held_50 : decode cX1_held 50 = .ok (.iload 4, 2) := by decide +kernel
theorem dX1_held_52 : decode cX1_held 52 = .ok (.aload_n 0, 1) := by decide +kernel
theorem dX1_held_53 : decode cX1_held 53 = .ok (.getfield 31, 3) := by decide +kernel
theorem dX1_held_56 : decode cX1_held 56 = .ok (.iload 5, 2) := by decide +kernel
theorem dX1_held_58 : decode cX1_held 58 = .ok (.iaload, 1) := by decide +kernel
theorem dX1_held_59 : decode cX1_held 59 = .ok (.ior, 1) := by decide +kernel
theorem dX1_held_60 : decode cX1_held 60 = .ok (.istore 4, 2) := by decide +kernel
theorem dX1_held_62 : decode cX1_held 62 = .ok (.iinc 5 1, 3) := by decide +kernel
theorem dX1_held_65 : decode cX1_held 65 = .ok (.goto (-43), 3) := by decide +kernel
theorem dX1_held_68 : decode cX1_held 68 = .ok (.iload_n 3, 1) := by decide +kernel
theorem dX1_held_69 : decode cX1_held 69 = .ok (.iload 4, 2) := by decide +kernel
theorem dX1_held_71 : decode cX1_held 71 = .ok (.iand, 1) := by decide +kernel
theorem dX1_held_72 : decode cX1_held 72 = .ok (.ifCond .ne 12, 3) := by decide +kernel
theorem dX1_held_75 : decode cX1_held 75 = .ok (.iload_n 1, 1) := by decide +kernel
theorem dX1_held_76 : decode cX1_held 76 = .ok (.iload_n 2, 1) := by decide +kernel
theorem dX1_held_77 : decode cX1_held 77 = .ok (.invokestatic 58, 3) := by decide +kernel
theorem dX1_held_80 : decode cX1_held 80 = .ok (.invokestatic 98, 3) := by decide +kernel
theorem dX1_held_83 : decode cX1_held 83 = .ok (.istore_n 1, 1) := by decide +kernel
theorem dX1_held_84 : decode cX1_held 84 = .ok (.iinc 2 1, 3) := by decide +kernel
theorem dX1_held_87 : decode cX1_held 87 = .ok (.goto (-83), 3) := by decide +kernel
theorem dX1_held_90 : decode cX1_held 90 = .ok (.iload_n 1, 1) := by decide +kernel
theorem dX1_held_91 : decode cX1_held 91 = .ok (.ireturn, 1) := by decide +kernel
def pc_X1_held (i : Nat) : Nat := ([0, 4, 14, 22, 31, 40, 62, 68, 75, 84, 90] : List Nat).getD i 0
set_option maxRecDepth 20000 in
theorem ob_X1_held_0 {x : ip_Cx} {G : ip_Gl} {d : Nat} (X : ip_X x G tb 6 d 0 0 RX1 cX1_held) (hr : x.2.2.2.2.2.2.2.2.1.sig.returnType = (some .int)) (hnm : x.2.2.2.2.2.2.2.2.1.name = "held") : ip_okB x G 6 pc_X1_held 0 ([oI (0), oStI 1, oI (0), oStI 2], tGo 1) := ⟨_, okC (ok_ic X (by decide) dX1_held_0)
  (okC (ok_istn X rfl (by decide) dX1_held_1)
  (okC (ok_ic X (by decide) dX1_held_2)
  (okC (ok_istn X rfl (by decide) dX1_held_3)
  (okN)))), ok_fall rfl⟩
set_option maxRecDepth 20000 in
theorem ob_X1_held_1 {x : ip_Cx} {G : ip_Gl} {d : Nat} (X : ip_X x G tb 6 d 0 0 RX1 cX1_held) (hr : x.2.2.2.2.2.2.2.2.1.sig.returnType = (some .int)) (hnm : x.2.2.2.2.2.2.2.2.1.name = "held") : ip_okB x G 6 pc_X1_held 4 ([oLdI 2, oI (1), oLdA 0, oGet 1 4, oBI (fun a b => a <<< (b &&& 31))], tCm (fun a b => a < b) 2 10) := ⟨_, okC (ok_ildn X rfl dX1_held_4)
  (okC (ok_ic X (by decide) dX1_held_5)
  (okC (ok_aldn X rfl dX1_held_6)
  (okC (ok_get X (ci := 1) rfl (by decide) iw_X1 tw_50 dX1_held_7)
  (okC (ok_ishl X dX1_held_10)
  (okN))))), ok_cmge X (by decide) rfl dX1_held_11⟩
set_option maxRecDepth 20000 in
theorem ob_X1_held_2 {x : ip_Cx} {G : ip_Gl} {d : Nat} (X : ip_X x G tb 6 d 0 0 RX1 cX1_held) (hr : x.2.2.2.2.2.2.2.2.1.sig.returnType = (some .int)) (hnm : x.2.2.2.2.2.2.2.2.1.name = "held") : ip_okB x G 6 pc_X1_held 14 ([oI (0), oStI 3, oI (0), oStI 4, oI (0), oStI 5], tGo 3) := ⟨_, okC (ok_ic X (by decide) dX1_held_14)
  (okC (ok_istn X rfl (by decide) dX1_held_15)
  (okC (ok_ic X (by decide) dX1_held_16)
  (okC (ok_ist X (by decide) dX1_held_17)
  (okC (ok_ic X (by decide) dX1_held_19)
  (okC (ok_ist X (by decide) dX1_held_20)
  (okN)))))), ok_fall rfl⟩
set_option maxRecDepth 20000 in
theorem ob_X1_held_3 {x : ip_Cx} {G : ip_Gl} {d : Nat} (X : ip_X x G tb 6 d 0 0 RX1 cX1_held) (hr : x.2.2.2.2.2.2.2.2.1.sig.returnType = (some .int)) (hnm : x.2.2.2.2.2.2.2.2.1.name = "held") : ip_okB x G 6 pc_X1_held 22 ([oLdI 5, oLdA 0, oGet 1 4], tCm (fun a b => a < b) 4 7) := ⟨_, okC (ok_ild X dX1_held_22)
  (okC (ok_aldn X rfl dX1_held_24)
  (okC (ok_get X (ci := 1) rfl (by decide) iw_X1 tw_50 dX1_held_25)
  (okN))), ok_cmge X (by decide) rfl dX1_held_28⟩
set_option maxRecDepth 20000 in
theorem ob_X1_held_4 {x : ip_Cx} {G : ip_Gl} {d : Nat} (X : ip_X x G tb 6 d 0 0 RX1 cX1_held) (hr : x.2.2.2.2.2.2.2.2.1.sig.returnType = (some .int)) (hnm : x.2.2.2.2.2.2.2.2.1.name = "held") : ip_okB x G 6 pc_X1_held 31 ([oLdI 2, oLdI 5, oCal (ip_call tb d) 0 0 104 2 0 0], tIf (fun a => a = 0) 6 5) := ⟨_, okC (ok_ildn X rfl dX1_held_31)
  (okC (ok_ild X dX1_held_32)
  (okC (ok_calSN X (i := 94) (e := en_104) rfl mt_104 rfl rfl rfl (List.mem_of_getElem? (i := 6) rfl) tw_422 dX1_held_34)
  (okN))), ok_ifeq X (by decide) rfl dX1_held_37⟩
set_option maxRecDepth 20000 in
theorem ob_X1_held_5 {x : ip_Cx} {G : ip_Gl} {d : Nat} (X : ip_X x G tb 6 d 0 0 RX1 cX1_held) (hr : x.2.2.2.2.2.2.2.2.1.sig.returnType = (some .int)) (hnm : x.2.2.2.2.2.2.2.2.1.name = "held") : ip_okB x G 6 pc_X1_held 40 ([oLdI 3, oLdA 0, oGet 1 8, oLdI 5, oAldI, oBI (fun a b => a ||| b), oStI 3, oLdI 4, oLdA 0, oGet 1 9, oLdI 5, oAldI, oBI (fun a b => a ||| b), oStI 4], tGo 6) := ⟨_, okC (ok_ildn X rfl dX1_held_40)
  (okC (ok_aldn X rfl dX1_held_41)
  (okC (ok_get X (ci := 1) rfl (by decide) iw_X1 tw_64 dX1_held_42)
  (okC (ok_ild X dX1_held_45)
  (okC (ok_iald X dX1_held_47)
  (okC (ok_ior X dX1_held_48)
  (okC (ok_istn X rfl (by decide) dX1_held_49)
  (okC (ok_ild X dX1_held_50)
  (okC (ok_aldn X rfl dX1_held_52)
  (okC (ok_get X (ci := 1) rfl (by decide) iw_X1 tw_67 dX1_held_53)
  (okC (ok_ild X dX1_held_56)
  (okC (ok_iald X dX1_held_58)
  (okC (ok_ior X dX1_held_59)
  (okC (ok_ist X (by decide) dX1_held_60)
  (okN)))))))))))))), ok_fall rfl⟩
set_option maxRecDepth 20000 in
theorem ob_X1_held_6 {x : ip_Cx} {G : ip_Gl} {d : Nat} (X : ip_X x G tb 6 d 0 0 RX1 cX1_held) (hr : x.2.2.2.2.2.2.2.2.1.sig.returnType = (some .int)) (hnm : x.2.2.2.2.2.2.2.2.1.name = "held") : ip_okB x G 6 pc_X1_held 62 ([oInc 5 (1)], tGo 3) := ⟨_, okC (ok_inc X (by decide) dX1_held_62)
  (okN), ok_go X (by decide) dX1_held_65⟩
set_option maxRecDepth 20000 in
theorem ob_X1_held_7 {x : ip_Cx} {G : ip_Gl} {d : Nat} (X : ip_X x G tb 6 d 0 0 RX1 cX1_held) (hr : x.2.2.2.2.2.2.2.2.1.sig.returnType = (some .int)) (hnm : x.2.2.2.2.2.2.2.2.1.name = "held") : ip_okB x G 6 pc_X1_held 68 ([oLdI 3, oLdI 4, oBI (fun a b => a &&& b)], tIf (fun a => a = 0) 8 9) := ⟨_, okC (ok_ildn X rfl dX1_held_68)
  (okC (ok_ild X dX1_held_69)
  (okC (ok_iand X dX1_held_71)
  (okN))), ok_ifne X (by decide) rfl dX1_held_72⟩
set_option maxRecDepth 20000 in
theorem ob_X1_held_8 {x : ip_Cx} {G : ip_Gl} {d : Nat} (X : ip_X x G tb 6 d 0 0 RX1 cX1_held) (hr : x.2.2.2.2.2.2.2.2.1.sig.returnType = (some .int)) (hnm : x.2.2.2.2.2.2.2.2.1.name = "held") : ip_okB x G 6 pc_X1_held 75 ([oLdI 1, oLdI 2, oCal (ip_call tb d) 0 0 227 1 0 0, oMax 0 0, oStI 1], tGo 9) := ⟨_, okC (ok_ildn X rfl dX1_held_75)
  (okC (ok_ildn X rfl dX1_held_76)
  (okC (ok_calS X (i := 58) (e := en_227) rfl mt_227 rfl rfl rfl tw_441 tw_432 dX1_held_77)
  (okC (ok_max X tw_548 tw_549 tw_13 tw_550 dX1_held_80)
  (okC (ok_istn X rfl (by decide) dX1_held_83)
  (okN))))), ok_fall rfl⟩
set_option maxRecDepth 20000 in
theorem ob_X1_held_9 {x : ip_Cx} {G : ip_Gl} {d : Nat} (X : ip_X x G tb 6 d 0 0 RX1 cX1_held) (hr : x.2.2.2.2.2.2.2.2.1.sig.returnType = (some .int)) (hnm : x.2.2.2.2.2.2.2.2.1.name = "held") : ip_okB x G 6 pc_X1_held 84 ([oInc 2 (1)], tGo 1) := ⟨_, okC (ok_inc X (by decide) dX1_held_84)
  (okN), ok_go X (by decide) dX1_held_87⟩
set_option maxRecDepth 20000 in
theorem ob_X1_held_10 {x : ip_Cx} {G : ip_Gl} {d : Nat} (X : ip_X x G tb 6 d 0 0 RX1 cX1_held) (hr : x.2.2.2.2.2.2.2.2.1.sig.returnType = (some .int)) (hnm : x.2.2.2.2.2.2.2.2.1.name = "held") : ip_okB x G 6 pc_X1_held 90 ([oLdI 1], tRI .int 0 0) := ⟨_, okC (ok_ildn X rfl dX1_held_90)
  (okN), ok_ret X hr dX1_held_91⟩
theorem om_18 : ip_MOk tb en_18 pc_X1_held := fun x G d X hr hnm => ⟨ob_X1_held_0 X hr hnm, ⟨ob_X1_held_1 X hr hnm, ⟨ob_X1_held_2 X hr hnm, ⟨ob_X1_held_3 X hr hnm, ⟨ob_X1_held_4 X hr hnm, ⟨ob_X1_held_5 X hr hnm, ⟨ob_X1_held_6 X hr hnm, ⟨ob_X1_held_7 X hr hnm, ⟨ob_X1_held_8 X hr hnm, ⟨ob_X1_held_9 X hr hnm, ⟨ob_X1_held_10 X hr hnm, trivial⟩⟩⟩⟩⟩⟩⟩⟩⟩⟩⟩
theorem dX1_rowItem_0 : decode cX1_rowItem 0 = .ok (.iload_n 2, 1) := by decide +kernel
theorem dX1_rowItem_1 : decode cX1_rowItem 1 = .ok (.lookupswitch 43 #[(0, 27), (1, 34)], 27) := by decide +kernel
theorem dX1_rowItem_28 : decode cX1_rowItem 28 = .ok (.aload_n 0, 1) := by decide +kernel
theorem dX1_rowItem_29 : decode cX1_rowItem 29 = .ok (.getfield 25, 3) := by decide +kernel
theorem dX1_rowItem_32 : decode cX1_rowItem 32 = .ok (.iload_n 1, 1) := by decide +kernel
theorem dX1_rowItem_33 : decode cX1_rowItem 33 = .ok (.iaload, 1) := by decide +kernel
theorem dX1_rowItem_34 : decode cX1_rowItem 34 = .ok (.ireturn, 1) := by decide +kernel
theorem dX1_rowItem_35 : decode cX1_rowItem 35 = .ok (.aload_n 0, 1) := by decide +kernel
theorem dX1_rowItem_36 : decode cX1_rowItem 36 = .ok (.getfield 55, 3) := by decide +kernel
theorem dX1_rowItem_39 : decode cX1_rowItem 39 = .ok (.iload_n 1, 1) := by decide +kernel
theorem dX1_rowItem_40 : decode cX1_rowItem 40 = .ok (.ishr, 1) := by decide +kernel
theorem dX1_rowItem_41 : decode cX1_rowItem 41 = .ok (.iconst 1, 1) := by decide +kernel
theorem dX1_rowItem_42 : decode cX1_rowItem 42 = .ok (.iand, 1) := by decide +kernel
theorem dX1_rowItem_43 : decode cX1_rowItem 43 = .ok (.ireturn, 1) := by decide +kernel
theorem dX1_rowItem_44 : decode cX1_rowItem 44 = .ok (.aload_n 0, 1) := by decide +kernel
theorem dX1_rowItem_45 : decode cX1_rowItem 45 = .ok (.invokevirtual 104, 3) := by decide +kernel
theorem dX1_rowItem_48 : decode cX1_rowItem 48 = .ok (.invokestatic 58, 3) := by decide +kernel
theorem dX1_rowItem_51 : decode cX1_rowItem 51 = .ok (.ireturn, 1) := by decide +kernel
def pc_X1_rowItem (i : Nat) : Nat := ([0, 28, 35, 44] : List Nat).getD i 0
set_option maxRecDepth 20000 in
theorem ob_X1_rowItem_0 {x : ip_Cx} {G : ip_Gl} {d : Nat} (X : ip_X x G tb 3 d 0 0 RX1 cX1_rowItem) (hr : x.2.2.2.2.2.2.2.2.1.sig.returnType = (some .int)) (hnm : x.2.2.2.2.2.2.2.2.1.name = "rowItem") : ip_okB x G 3 pc_X1_rowItem 0 ([oLdI 2], tSw [(0, 1), (1, 2)] 3) := ⟨_, okC (ok_ildn X rfl dX1_rowItem_0)
  (okN), ok_lsw X (by decide) (by decide +kernel) (by decide) dX1_rowItem_1⟩
set_option maxRecDepth 20000 in
theorem ob_X1_rowItem_1 {x : ip_Cx} {G : ip_Gl} {d : Nat} (X : ip_X x G tb 3 d 0 0 RX1 cX1_rowItem) (hr : x.2.2.2.2.2.2.2.2.1.sig.returnType = (some .int)) (hnm : x.2.2.2.2.2.2.2.2.1.name = "rowItem") : ip_okB x G 3 pc_X1_rowItem 28 ([oLdA 0, oGet 1 7, oLdI 1, oAldI], tRI .int 0 0) := ⟨_, okC (ok_aldn X rfl dX1_rowItem_28)
  (okC (ok_get X (ci := 1) rfl (by decide) iw_X1 tw_60 dX1_rowItem_29)
  (okC (ok_ildn X rfl dX1_rowItem_32)
  (okC (ok_iald X dX1_rowItem_33)
  (okN)))), ok_ret X hr dX1_rowItem_34⟩
set_option maxRecDepth 20000 in
theorem ob_X1_rowItem_2 {x : ip_Cx} {G : ip_Gl} {d : Nat} (X : ip_X x G tb 3 d 0 0 RX1 cX1_rowItem) (hr : x.2.2.2.2.2.2.2.2.1.sig.returnType = (some .int)) (hnm : x.2.2.2.2.2.2.2.2.1.name = "rowItem") : ip_okB x G 3 pc_X1_rowItem 35 ([oLdA 0, oGet 1 10, oLdI 1, oBI (fun a b => a >>> (b &&& 31)), oI (1), oBI (fun a b => a &&& b)], tRI .int 0 0) := ⟨_, okC (ok_aldn X rfl dX1_rowItem_35)
  (okC (ok_get X (ci := 1) rfl (by decide) iw_X1 tw_70 dX1_rowItem_36)
  (okC (ok_ildn X rfl dX1_rowItem_39)
  (okC (ok_ishr X dX1_rowItem_40)
  (okC (ok_ic X (by decide) dX1_rowItem_41)
  (okC (ok_iand X dX1_rowItem_42)
  (okN)))))), ok_ret X hr dX1_rowItem_43⟩
set_option maxRecDepth 20000 in
theorem ob_X1_rowItem_3 {x : ip_Cx} {G : ip_Gl} {d : Nat} (X : ip_X x G tb 3 d 0 0 RX1 cX1_rowItem) (hr : x.2.2.2.2.2.2.2.2.1.sig.returnType = (some .int)) (hnm : x.2.2.2.2.2.2.2.2.1.name = "rowItem") : ip_okB x G 3 pc_X1_rowItem 44 ([oLdA 0, oCaV (ip_call tb d) 0 0 1 16 1 0 0, oCal (ip_call tb d) 0 0 227 1 0 0], tRI .int 0 0) := ⟨_, okC (ok_aldn X rfl dX1_rowItem_44)
  (okC (ok_calV X (i := 104) (e := en_16) rfl mt_16 rfl rfl rfl tw_663 tw_510 (Or.inl ⟨_, _, rfl⟩) tw_511 dX1_rowItem_45)
  (okC (ok_calS X (i := 58) (e := en_227) rfl mt_227 rfl rfl rfl tw_441 tw_432 dX1_rowItem_48)
  (okN))), ok_ret X hr dX1_rowItem_51⟩
theorem om_19 : ip_MOk tb en_19 pc_X1_rowItem := fun x G d X hr hnm => ⟨ob_X1_rowItem_0 X hr hnm, ⟨ob_X1_rowItem_1 X hr hnm, ⟨ob_X1_rowItem_2 X hr hnm, ⟨ob_X1_rowItem_3 X hr hnm, trivial⟩⟩⟩⟩
theorem dX2_init_0 : decode cX2_init 0 = .ok (.aload_n 0, 1) := by decide +kernel
theorem dX2_init_1 : decode cX2_init 1 = .ok (.invokespecial 3, 3) := by decide +kernel
theorem dX2_init_4 : decode cX2_init 4 = .ok (.aload_n 0, 1) := by decide +kernel
theorem dX2_init_5 : decode cX2_init 5 = .ok (.iload_n 1, 1) := by decide +kernel
theorem dX2_init_6 : decode cX2_init 6 = .ok (.putfield 9, 3) := by decide +kernel
theorem dX2_init_9 : decode cX2_init 9 = .ok (.aload_n 0, 1) := by decide +kernel
theorem dX2_init_10 : decode cX2_init 10 = .ok (.iconst 0, 1) := by decide +kernel
theorem dX2_init_11 : decode cX2_init 11 = .ok (.iload_n 2, 1) := by decide +kernel
theorem dX2_init_12 : decode cX2_init 12 = .ok (.invokestatic 15, 3) := by decide +kernel
theorem dX2_init_15 : decode cX2_init 15 = .ok (.newarray .int, 2) := by decide +kernel
theorem dX2_init_17 : decode cX2_init 17 = .ok (.putfield 21, 3) := by decide +kernel
theorem dX2_init_20 : decode cX2_init 20 = .ok (.return_, 1) := by decide +kernel
def pc_X2_init (i : Nat) : Nat := ([0] : List Nat).getD i 0
set_option maxRecDepth 20000 in
theorem ob_X2_init_0 {x : ip_Cx} {G : ip_Gl} {d : Nat} (X : ip_X x G tb 3 d 1 40 RX2 cX2_init) (hr : x.2.2.2.2.2.2.2.2.1.sig.returnType = none) (hnm : x.2.2.2.2.2.2.2.2.1.name = "<init>") : ip_okB x G 3 pc_X2_init 0 ([oLdA 0, oObj, oLdA 0, oLdI 1, oPut 2 0 .int, oLdA 0, oI (0), oLdI 2, oMax 1 40, oNwA 1 40 .int (fun N => (N, .inl (fun _ => 0))), oPut 2 1 (.array .int)], tRV 1 40) := ⟨_, okC (ok_aldn X rfl dX2_init_0)
  (okC (ok_obj X tw_695 tw_21 tw_22 dX2_init_1)
  (okC (ok_aldn X rfl dX2_init_4)
  (okC (ok_ildn X rfl dX2_init_5)
  (okC (ok_put X (ci := 2) rfl (by decide) iw_X2 tyX2_ok nmX2 rfl (Or.inr ⟨rfl, hnm, rfl⟩) tw_697 dX2_init_6)
  (okC (ok_aldn X rfl dX2_init_9)
  (okC (ok_ic X (by decide) dX2_init_10)
  (okC (ok_ildn X rfl dX2_init_11)
  (okC (ok_max X tw_696 tw_549 tw_13 tw_550 dX2_init_12)
  (okC (ok_nwI X tw_96 dX2_init_15)
  (okC (ok_put X (ci := 2) rfl (by decide) iw_X2 tyX2_ok nmX2 rfl (Or.inr ⟨rfl, hnm, rfl⟩) tw_699 dX2_init_17)
  (okN))))))))))), ok_vret X hr dX2_init_20⟩
theorem om_20 : ip_MOk tb en_20 pc_X2_init := fun x G d X hr hnm => ⟨ob_X2_init_0 X hr hnm, trivial⟩
theorem dX2_narrowed_0 : decode cX2_narrowed 0 = .ok (.aload_n 0, 1) := by decide +kernel
theorem dX2_narrowed_1 : decode cX2_narrowed 1 = .ok (.getfield 9, 3) := by decide +kernel
theorem dX2_narrowed_4 : decode cX2_narrowed 4 = .ok (.lookupswitch 34 #[(0, 28), (1, 31)], 28) := by decide +kernel
theorem dX2_narrowed_32 : decode cX2_narrowed 32 = .ok (.iload_n 1, 1) := by decide +kernel
theorem dX2_narrowed_33 : decode cX2_narrowed 33 = .ok (.i2b, 1) := by decide +kernel
theorem dX2_narrowed_34 : decode cX2_narrowed 34 = .ok (.ireturn, 1) := by decide +kernel
theorem dX2_narrowed_35 : decode cX2_narrowed 35 = .ok (.iload_n 1, 1) := by decide +kernel
theorem dX2_narrowed_36 : decode cX2_narrowed 36 = .ok (.i2s, 1) := by decide +kernel
theorem dX2_narrowed_37 : decode cX2_narrowed 37 = .ok (.ireturn, 1) := by decide +kernel
theorem dX2_narrowed_38 : decode cX2_narrowed 38 = .ok (.iload_n 1, 1) := by decide +kernel
theorem dX2_narrowed_39 : decode cX2_narrowed 39 = .ok (.ireturn, 1) := by decide +kernel
def pc_X2_narrowed (i : Nat) : Nat := ([0, 32, 35, 38] : List Nat).getD i 0
set_option maxRecDepth 20000 in
theorem ob_X2_narrowed_0 {x : ip_Cx} {G : ip_Gl} {d : Nat} (X : ip_X x G tb 2 d 0 0 RX2 cX2_narrowed) (hr : x.2.2.2.2.2.2.2.2.1.sig.returnType = (some .int)) (hnm : x.2.2.2.2.2.2.2.2.1.name = "narrowed") : ip_okB x G 2 pc_X2_narrowed 0 ([oLdA 0, oGet 2 0], tSw [(0, 1), (1, 2)] 3) := ⟨_, okC (ok_aldn X rfl dX2_narrowed_0)
  (okC (ok_get X (ci := 2) rfl (by decide) iw_X2 tw_697 dX2_narrowed_1)
  (okN)), ok_lsw X (by decide) (by decide +kernel) (by decide) dX2_narrowed_4⟩
set_option maxRecDepth 20000 in
theorem ob_X2_narrowed_1 {x : ip_Cx} {G : ip_Gl} {d : Nat} (X : ip_X x G tb 2 d 0 0 RX2 cX2_narrowed) (hr : x.2.2.2.2.2.2.2.2.1.sig.returnType = (some .int)) (hnm : x.2.2.2.2.2.2.2.2.1.name = "narrowed") : ip_okB x G 2 pc_X2_narrowed 32 ([oLdI 1, oUI (fun a => a.toInt8.toInt32)], tRI .int 0 0) := ⟨_, okC (ok_ildn X rfl dX2_narrowed_32)
  (okC (ok_i2b X dX2_narrowed_33)
  (okN)), ok_ret X hr dX2_narrowed_34⟩
set_option maxRecDepth 20000 in
theorem ob_X2_narrowed_2 {x : ip_Cx} {G : ip_Gl} {d : Nat} (X : ip_X x G tb 2 d 0 0 RX2 cX2_narrowed) (hr : x.2.2.2.2.2.2.2.2.1.sig.returnType = (some .int)) (hnm : x.2.2.2.2.2.2.2.2.1.name = "narrowed") : ip_okB x G 2 pc_X2_narrowed 35 ([oLdI 1, oUI (fun a => a.toInt16.toInt32)], tRI .int 0 0) := ⟨_, okC (ok_ildn X rfl dX2_narrowed_35)
  (okC (ok_i2s X dX2_narrowed_36)
  (okN)), ok_ret X hr dX2_narrowed_37⟩
set_option maxRecDepth 20000 in
theorem ob_X2_narrowed_3 {x : ip_Cx} {G : ip_Gl} {d : Nat} (X : ip_X x G tb 2 d 0 0 RX2 cX2_narrowed) (hr : x.2.2.2.2.2.2.2.2.1.sig.returnType = (some .int)) (hnm : x.2.2.2.2.2.2.2.2.1.name = "narrowed") : ip_okB x G 2 pc_X2_narrowed 38 ([oLdI 1], tRI .int 0 0) := ⟨_, okC (ok_ildn X rfl dX2_narrowed_38)
  (okN), ok_ret X hr dX2_narrowed_39⟩
theorem om_21 : ip_MOk tb en_21 pc_X2_narrowed := fun x G d X hr hnm => ⟨ob_X2_narrowed_0 X hr hnm, ⟨ob_X2_narrowed_1 X hr hnm, ⟨ob_X2_narrowed_2 X hr hnm, ⟨ob_X2_narrowed_3 X hr hnm, trivial⟩⟩⟩⟩
theorem dX3_init_0 : decode cX3_init 0 = .ok (.aload_n 0, 1) := by decide +kernel
theorem dX3_init_1 : decode cX3_init 1 = .ok (.invokespecial 3, 3) := by decide +kernel
theorem dX3_init_4 : decode cX3_init 4 = .ok (.aload_n 0, 1) := by decide +kernel
theorem dX3_init_5 : decode cX3_init 5 = .ok (.sipush 200, 3) := by decide +kernel
theorem dX3_init_8 : decode cX3_init 8 = .ok (.newarray .byte, 2) := by decide +kernel
theorem dX3_init_10 : decode cX3_init 10 = .ok (.putfield 9, 3) := by decide +kernel
theorem dX3_init_13 : decode cX3_init 13 = .ok (.aload_n 0, 1) := by decide +kernel
theorem dX3_init_14 : decode cX3_init 14 = .ok (.iconst 0, 1) := by decide +kernel
theorem dX3_init_15 : decode cX3_init 15 = .ok (.putfield 15, 3) := by decide +kernel
theorem dX3_init_18 : decode cX3_init 18 = .ok (.aload_n 0, 1) := by decide +kernel
theorem dX3_init_19 : decode cX3_init 19 = .ok (.iconst (-1), 1) := by decide +kernel
theorem dX3_init_20 : decode cX3_init 20 = .ok (.putfield 19, 3) := by decide +kernel
theorem dX3_init_23 : decode cX3_init 23 = .ok (.return_, 1) := by decide +kernel
def pc_X3_init (i : Nat) : Nat := ([0] : List Nat).getD i 0
set_option maxRecDepth 20000 in
theorem ob_X3_init_0 {x : ip_Cx} {G : ip_Gl} {d : Nat} (X : ip_X x G tb 1 d 1 200 RX3 cX3_init) (hr : x.2.2.2.2.2.2.2.2.1.sig.returnType = none) (hnm : x.2.2.2.2.2.2.2.2.1.name = "<init>") : ip_okB x G 1 pc_X3_init 0 ([oLdA 0, oObj, oLdA 0, oI (200), oNwA 1 200 .byte (fun N => (N, .inl (fun _ => 0))), oPut 3 0 (.array .byte), oLdA 0, oI (0), oPut 3 2 .int, oLdA 0, oI (-1), oPut 3 5 .int], tRV 1 200) := ⟨_, okC (ok_aldn X rfl dX3_init_0)
  (okC (ok_obj X tw_147 tw_21 tw_22 dX3_init_1)
  (okC (ok_aldn X rfl dX3_init_4)
  (okC (ok_si X (by decide) dX3_init_5)
  (okC (ok_nwB X tw_168 dX3_init_8)
  (okC (ok_put X (ci := 3) rfl (by decide) iw_X3 tyX3_ok nmX3 rfl (Or.inr ⟨rfl, hnm, rfl⟩) tw_148 dX3_init_10)
  (okC (ok_aldn X rfl dX3_init_13)
  (okC (ok_ic X (by decide) dX3_init_14)
  (okC (ok_put X (ci := 3) rfl (by decide) iw_X3 tyX3_ok nmX3 rfl (Or.inl rfl) tw_151 dX3_init_15)
  (okC (ok_aldn X rfl dX3_init_18)
  (okC (ok_ic X (by decide) dX3_init_19)
  (okC (ok_put X (ci := 3) rfl (by decide) iw_X3 tyX3_ok nmX3 rfl (Or.inl rfl) tw_154 dX3_init_20)
  (okN)))))))))))), ok_vret X hr dX3_init_23⟩
theorem om_22 : ip_MOk tb en_22 pc_X3_init := fun x G d X hr hnm => ⟨ob_X3_init_0 X hr hnm, trivial⟩
theorem dX3_append_0 : decode cX3_append 0 = .ok (.aload_n 0, 1) := by decide +kernel
theorem dX3_append_1 : decode cX3_append 1 = .ok (.getfield 22, 3) := by decide +kernel
theorem dX3_append_4 : decode cX3_append 4 = .ok (.sipush 200, 3) := by decide +kernel
theorem dX3_append_7 : decode cX3_append 7 = .ok (.if_icmp .ge 23, 3) := by decide +kernel
theorem dX3_append_10 : decode cX3_append 10 = .ok (.aload_n 0, 1) := by decide +kernel
theorem dX3_append_11 : decode cX3_append 11 = .ok (.getfield 9, 3) := by decide +kernel
theorem dX3_append_14 : decode cX3_append 14 = .ok (.aload_n 0, 1) := by decide +kernel
theorem dX3_append_15 : decode cX3_append 15 = .ok (.getfield 22, 3) := by decide +kernel
theorem dX3_append_18 : decode cX3_append 18 = .ok (.iload_n 1, 1) := by decide +kernel
theorem dX3_append_19 : decode cX3_append 19 = .ok (.bastore, 1) := by decide +kernel
theorem dX3_append_20 : decode cX3_append 20 = .ok (.aload_n 0, 1) := by decide +kernel
theorem dX3_append_21 : decode cX3_append 21 = .ok (.dup, 1) := by decide +kernel
theorem dX3_append_22 : decode cX3_append 22 = .ok (.getfield 22, 3) := by decide +kernel
theorem dX3_append_25 : decode cX3_append 25 = .ok (.iconst 1, 1) := by decide +kernel
theorem dX3_append_26 : decode cX3_append 26 = .ok (.iadd, 1) := by decide +kernel
theorem dX3_append_27 : decode cX3_append 27 = .ok (.putfield 22, 3) := by decide +kernel
theorem dX3_append_30 : decode cX3_append 30 = .ok (.return_, 1) := by decide +kernel
def pc_X3_append (i : Nat) : Nat := ([0, 10, 30] : List Nat).getD i 0
set_option maxRecDepth 20000 in
theorem ob_X3_append_0 {x : ip_Cx} {G : ip_Gl} {d : Nat} (X : ip_X x G tb 2 d 0 0 RX3 cX3_append) (hr : x.2.2.2.2.2.2.2.2.1.sig.returnType = none) (hnm : x.2.2.2.2.2.2.2.2.1.name = "append") : ip_okB x G 2 pc_X3_append 0 ([oLdA 0, oGet 3 1, oI (200)], tCm (fun a b => a < b) 1 2) := ⟨_, okC (ok_aldn X rfl dX3_append_0)
  (okC (ok_get X (ci := 3) rfl (by decide) iw_X3 tw_149 dX3_append_1)
  (okC (ok_si X (by decide) dX3_append_4)
  (okN))), ok_cmge X (by decide) rfl dX3_append_7⟩
set_option maxRecDepth 20000 in
theorem ob_X3_append_1 {x : ip_Cx} {G : ip_Gl} {d : Nat} (X : ip_X x G tb 2 d 0 0 RX3 cX3_append) (hr : x.2.2.2.2.2.2.2.2.1.sig.returnType = none) (hnm : x.2.2.2.2.2.2.2.2.1.name = "append") : ip_okB x G 2 pc_X3_append 10 ([oLdA 0, oGet 3 0, oLdA 0, oGet 3 1, oLdI 1, oAstB, oLdA 0, oDup, oGet 3 1, oI (1), oBI (fun a b => a + b), oPut 3 1 .int], tGo 2) := ⟨_, okC (ok_aldn X rfl dX3_append_10)
  (okC (ok_get X (ci := 3) rfl (by decide) iw_X3 tw_148 dX3_append_11)
  (okC (ok_aldn X rfl dX3_append_14)
  (okC (ok_get X (ci := 3) rfl (by decide) iw_X3 tw_149 dX3_append_15)
  (okC (ok_ildn X rfl dX3_append_18)
  (okC (ok_bast X dX3_append_19)
  (okC (ok_aldn X rfl dX3_append_20)
  (okC (ok_dup X dX3_append_21)
  (okC (ok_get X (ci := 3) rfl (by decide) iw_X3 tw_149 dX3_append_22)
  (okC (ok_ic X (by decide) dX3_append_25)
  (okC (ok_iadd X dX3_append_26)
  (okC (ok_put X (ci := 3) rfl (by decide) iw_X3 tyX3_ok nmX3 rfl (Or.inl rfl) tw_149 dX3_append_27)
  (okN)))))))))))), ok_fall rfl⟩
set_option maxRecDepth 20000 in
theorem ob_X3_append_2 {x : ip_Cx} {G : ip_Gl} {d : Nat} (X : ip_X x G tb 2 d 0 0 RX3 cX3_append) (hr : x.2.2.2.2.2.2.2.2.1.sig.returnType = none) (hnm : x.2.2.2.2.2.2.2.2.1.name = "append") : ip_okB x G 2 pc_X3_append 30 ([], tRV 0 0) := ⟨_, okN, ok_vret X hr dX3_append_30⟩
theorem om_23 : ip_MOk tb en_23 pc_X3_append := fun x G d X hr hnm => ⟨ob_X3_append_0 X hr hnm, ⟨ob_X3_append_1 X hr hnm, ⟨ob_X3_append_2 X hr hnm, trivial⟩⟩⟩
theorem dX3_readInto_0 : decode cX3_readInto 0 = .ok (.aload_n 0, 1) := by decide +kernel
theorem dX3_readInto_1 : decode cX3_readInto 1 = .ok (.iconst (-1), 1) := by decide +kernel
theorem dX3_readInto_2 : decode cX3_readInto 2 = .ok (.putfield 19, 3) := by decide +kernel
theorem dX3_readInto_5 : decode cX3_readInto 5 = .ok (.aload_n 0, 1) := by decide +kernel
theorem dX3_readInto_6 : decode cX3_readInto 6 = .ok (.iconst 0, 1) := by decide +kernel
theorem dX3_readInto_7 : decode cX3_readInto 7 = .ok (.putfield 25, 3) := by decide +kernel
theorem dX3_readInto_10 : decode cX3_readInto 10 = .ok (.aload_n 0, 1) := by decide +kernel
theorem dX3_readInto_11 : decode cX3_readInto 11 = .ok (.invokevirtual 28, 3) := by decide +kernel
theorem dX3_readInto_14 : decode cX3_readInto 14 = .ok (.iconst 0, 1) := by decide +kernel
theorem dX3_readInto_15 : decode cX3_readInto 15 = .ok (.istore_n 2, 1) := by decide +kernel
theorem dX3_readInto_16 : decode cX3_readInto 16 = .ok (.iload_n 2, 1) := by decide +kernel
theorem dX3_readInto_17 : decode cX3_readInto 17 = .ok (.sipush 200, 3) := by decide +kernel
theorem dX3_readInto_20 : decode cX3_readInto 20 = .ok (.if_icmp .ge 29, 3) := by decide +kernel
theorem dX3_readInto_23 : decode cX3_readInto 23 = .ok (.aload_n 0, 1) := by decide +kernel
theorem dX3_readInto_24 : decode cX3_readInto 24 = .ok (.getfield 15, 3) := by decide +kernel
theorem dX3_readInto_27 : decode cX3_readInto 27 = .ok (.ifCond .eq 22, 3) := by decide +kernel
theorem dX3_readInto_30 : decode cX3_readInto 30 = .ok (.aload_n 0, 1) := by decide +kernel
theorem dX3_readInto_31 : decode cX3_readInto 31 = .ok (.getfield 19, 3) := by decide +kernel
theorem dX3_readInto_34 : decode cX3_readInto 34 = .ok (.iconst (-1), 1) := by decide +kernel
theorem dX3_readInto_35 : decode cX3_readInto 35 = .ok (.if_icmp .ne 14, 3) := by decide +kernel
theorem dX3_readInto_38 : decode cX3_readInto 38 = .ok (.aload_n 0, 1) := by decide +kernel
theorem dX3_readInto_39 : decode cX3_readInto 39 = .ok (.aload_n 1, 1) := by decide +kernel
theorem dX3_readInto_40 : decode cX3_readInto 40 = .ok (.invokevirtual 31, 3) := by decide +kernel
theorem dX3_readInto_43 : decode cX3_readInto 43 = .ok (.iinc 2 1, 3) := by decide +kernel
theorem dX3_readInto_46 : decode cX3_readInto 46 = .ok (.goto (-30), 3) := by decide +kernel
theorem dX3_readInto_49 : decode cX3_readInto 49 = .ok (.aload_n 0, 1) := by decide +kernel
theorem dX3_readInto_50 : decode cX3_readInto 50 = .ok (.getfield 19, 3) := by decide +kernel
theorem dX3_readInto_53 : decode cX3_readInto 53 = .ok (.ireturn, 1) := by decide +kernel
def pc_X3_readInto (i : Nat) : Nat := ([0, 16, 23, 30, 38, 49] : List Nat).getD i 0
set_option maxRecDepth 20000 in
theorem ob_X3_readInto_0 {x : ip_Cx} {G : ip_Gl} {d : Nat} (X : ip_X x G tb 3 d 0 0 RX3 cX3_readInto) (hr : x.2.2.2.2.2.2.2.2.1.sig.returnType = (some .int)) (hnm : x.2.2.2.2.2.2.2.2.1.name = "readInto") : ip_okB x G 3 pc_X3_readInto 0 ([oLdA 0, oI (-1), oPut 3 5 .int, oLdA 0, oI (0), oPut 3 4 .int, oLdA 0, oCaV (ip_call tb d) 0 0 3 31 1 0 0, oI (0), oStI 2], tGo 1) := ⟨_, okC (ok_aldn X rfl dX3_readInto_0)
  (okC (ok_ic X (by decide) dX3_readInto_1)
  (okC (ok_put X (ci := 3) rfl (by decide) iw_X3 tyX3_ok nmX3 rfl (Or.inl rfl) tw_154 dX3_readInto_2)
  (okC (ok_aldn X rfl dX3_readInto_5)
  (okC (ok_ic X (by decide) dX3_readInto_6)
  (okC (ok_put X (ci := 3) rfl (by decide) iw_X3 tyX3_ok nmX3 rfl (Or.inl rfl) tw_153 dX3_readInto_7)
  (okC (ok_aldn X rfl dX3_readInto_10)
  (okC (ok_calV X (i := 28) (e := en_31) rfl mt_31 rfl rfl rfl tw_255 tw_256 (Or.inl ⟨_, _, rfl⟩) tw_257 dX3_readInto_11)
  (okC (ok_ic X (by decide) dX3_readInto_14)
  (okC (ok_istn X rfl (by decide) dX3_readInto_15)
  (okN)))))))))), ok_fall rfl⟩
set_option maxRecDepth 20000 in
theorem ob_X3_readInto_1 {x : ip_Cx} {G : ip_Gl} {d : Nat} (X : ip_X x G tb 3 d 0 0 RX3 cX3_readInto) (hr : x.2.2.2.2.2.2.2.2.1.sig.returnType = (some .int)) (hnm : x.2.2.2.2.2.2.2.2.1.name = "readInto") : ip_okB x G 3 pc_X3_readInto 16 ([oLdI 2, oI (200)], tCm (fun a b => a < b) 2 5) := ⟨_, okC (ok_ildn X rfl dX3_readInto_16)
  (okC (ok_si X (by decide) dX3_readInto_17)
  (okN)), ok_cmge X (by decide) rfl dX3_readInto_20⟩
set_option maxRecDepth 20000 in
theorem ob_X3_readInto_2 {x : ip_Cx} {G : ip_Gl} {d : Nat} (X : ip_X x G tb 3 d 0 0 RX3 cX3_readInto) (hr : x.2.2.2.2.2.2.2.2.1.sig.returnType = (some .int)) (hnm : x.2.2.2.2.2.2.2.2.1.name = "readInto") : ip_okB x G 3 pc_X3_readInto 23 ([oLdA 0, oGet 3 2], tIf (fun a => a = 0) 5 3) := ⟨_, okC (ok_aldn X rfl dX3_readInto_23)
  (okC (ok_get X (ci := 3) rfl (by decide) iw_X3 tw_151 dX3_readInto_24)
  (okN)), ok_ifeq X (by decide) rfl dX3_readInto_27⟩
set_option maxRecDepth 20000 in
theorem ob_X3_readInto_3 {x : ip_Cx} {G : ip_Gl} {d : Nat} (X : ip_X x G tb 3 d 0 0 RX3 cX3_readInto) (hr : x.2.2.2.2.2.2.2.2.1.sig.returnType = (some .int)) (hnm : x.2.2.2.2.2.2.2.2.1.name = "readInto") : ip_okB x G 3 pc_X3_readInto 30 ([oLdA 0, oGet 3 5, oI (-1)], tCm (fun a b => a = b) 4 5) := ⟨_, okC (ok_aldn X rfl dX3_readInto_30)
  (okC (ok_get X (ci := 3) rfl (by decide) iw_X3 tw_154 dX3_readInto_31)
  (okC (ok_ic X (by decide) dX3_readInto_34)
  (okN))), ok_cmne X (by decide) rfl dX3_readInto_35⟩
set_option maxRecDepth 20000 in
theorem ob_X3_readInto_4 {x : ip_Cx} {G : ip_Gl} {d : Nat} (X : ip_X x G tb 3 d 0 0 RX3 cX3_readInto) (hr : x.2.2.2.2.2.2.2.2.1.sig.returnType = (some .int)) (hnm : x.2.2.2.2.2.2.2.2.1.name = "readInto") : ip_okB x G 3 pc_X3_readInto 38 ([oLdA 0, oLdA 1, oCaV (ip_call tb d) 0 0 3 25 2 0 0, oInc 2 (1)], tGo 1) := ⟨_, okC (ok_aldn X rfl dX3_readInto_38)
  (okC (ok_aldn X rfl dX3_readInto_39)
  (okC (ok_calV X (i := 31) (e := en_25) rfl mt_25 rfl rfl rfl tw_265 tw_266 (Or.inl ⟨_, _, rfl⟩) tw_267 dX3_readInto_40)
  (okC (ok_inc X (by decide) dX3_readInto_43)
  (okN)))), ok_go X (by decide) dX3_readInto_46⟩
set_option maxRecDepth 20000 in
theorem ob_X3_readInto_5 {x : ip_Cx} {G : ip_Gl} {d : Nat} (X : ip_X x G tb 3 d 0 0 RX3 cX3_readInto) (hr : x.2.2.2.2.2.2.2.2.1.sig.returnType = (some .int)) (hnm : x.2.2.2.2.2.2.2.2.1.name = "readInto") : ip_okB x G 3 pc_X3_readInto 49 ([oLdA 0, oGet 3 5], tRI .int 0 0) := ⟨_, okC (ok_aldn X rfl dX3_readInto_49)
  (okC (ok_get X (ci := 3) rfl (by decide) iw_X3 tw_154 dX3_readInto_50)
  (okN)), ok_ret X hr dX3_readInto_53⟩
theorem om_24 : ip_MOk tb en_24 pc_X3_readInto := fun x G d X hr hnm => ⟨ob_X3_readInto_0 X hr hnm, ⟨ob_X3_readInto_1 X hr hnm, ⟨ob_X3_readInto_2 X hr hnm, ⟨ob_X3_readInto_3 X hr hnm, ⟨ob_X3_readInto_4 X hr hnm, ⟨ob_X3_readInto_5 X hr hnm, trivial⟩⟩⟩⟩⟩⟩
theorem dX3_readOne_0 : decode cX3_readOne 0 = .ok (.aload_n 0, 1) := by decide +kernel
theorem dX3_readOne_1 : decode cX3_readOne 1 = .ok (.invokevirtual 35, 3) := by decide +kernel
theorem dX3_readOne_4 : decode cX3_readOne 4 = .ok (.istore_n 2, 1) := by decide +kernel
theorem dX3_readOne_5 : decode cX3_readOne 5 = .ok (.aload_n 0, 1) := by decide +kernel
theorem dX3_readOne_6 : decode cX3_readOne 6 = .ok (.invokevirtual 39, 3) := by decide +kernel
theorem dX3_readOne_9 : decode cX3_readOne 9 = .ok (.istore_n 3, 1) := by decide +kernel
theorem dX3_readOne_10 : decode cX3_readOne 10 = .ok (.iload_n 2, 1) := by decide +kernel
theorem dX3_readOne_11 : decode cX3_readOne 11 = .ok (.iconst (-1), 1) := by decide +kernel
theorem dX3_readOne_12 : decode cX3_readOne 12 = .ok (.if_icmp .eq 31, 3) := by decide +kernel
theorem dX3_readOne_15 : decode cX3_readOne 15 = .ok (.aload_n 1, 1) := by decide +kernel
theorem dX3_readOne_16 : decode cX3_readOne 16 = .ok (.getfield 42, 3) := by decide +kernel
theorem dX3_readOne_19 : decode cX3_readOne 19 = .ok (.bipush 8, 2) := by decide +kernel
theorem dX3_readOne_21 : decode cX3_readOne 21 = .ok (.if_icmp .ge 22, 3) := by decide +kernel
theorem dX3_readOne_24 : decode cX3_readOne 24 = .ok (.aload_n 0, 1) := by decide +kernel
theorem dX3_readOne_25 : decode cX3_readOne 25 = .ok (.invokevirtual 28, 3) := by decide +kernel
theorem dX3_readOne_28 : decode cX3_readOne 28 = .ok (.aload_n 0, 1) := by decide +kernel
theorem dX3_readOne_29 : decode cX3_readOne 29 = .ok (.aload_n 1, 1) := by decide +kernel
theorem dX3_readOne_30 : decode cX3_readOne 30 = .ok (.aload_n 1, 1) := by decide +kernel
theorem dX3_readOne_31 : decode cX3_readOne 31 = .ok (.iload_n 2, 1) := by decide +kernel
theorem dX3_readOne_32 : decode cX3_readOne 32 = .ok (.bipush 10, 2) := by decide +kernel
theorem dX3_readOne_34 : decode cX3_readOne 34 = .ok (.invokevirtual 47, 3) := by decide +kernel
theorem dX3_readOne_37 : decode cX3_readOne 37 = .ok (.invokevirtual 51, 3) := by decide +kernel
theorem dX3_readOne_40 : decode cX3_readOne 40 = .ok (.goto 69, 3) := by decide +kernel
theorem dX3_readOne_43 : decode cX3_readOne 43 = .ok (.iload_n 3, 1) := by decide +kernel
theorem dX3_readOne_44 : decode cX3_readOne 44 = .ok (.iconst (-1), 1) := by decide +kernel
theorem dX3_readOne_45 : decode cX3_readOne 45 = .ok (.if_icmp .eq 26, 3) := by decide +kernel
theorem dX3_readOne_48 : decode cX3_readOne 48 = .ok (.aload_n 0, 1) := by decide +kernel
theorem dX3_readOne_49 : decode cX3_readOne 49 = .ok (.invokevirtual 28, 3) := by decide +kernel
theorem dX3_readOne_52 : decode cX3_readOne 52 = .ok (.aload_n 1, 1) := by decide +kernel
theorem dX3_readOne_53 : decode cX3_readOne 53 = .ok (.getfield 55, 3) := by decide +kernel
theorem dX3_readOne_56 : decode cX3_readOne 56 = .ok (.iload_n 3, 1) := by decide +kernel
theorem dX3_readOne_57 : decode cX3_readOne 57 = .ok (.aload_n 0, 1) := by decide +kernel
theorem dX3_readOne_58 : decode cX3_readOne 58 = .ok (.getstatic 59, 3) := by decide +kernel
theorem dX3_readOne_61 : decode cX3_readOne 61 = .ok (.iload_n 3, 1) := by decide +kernel
theorem dX3_readOne_62 : decode cX3_readOne 62 = .ok (.iaload, 1) := by decide +kernel
theorem dX3_readOne_63 : decode cX3_readOne 63 = .ok (.iconst 0, 1) := by decide +kernel
theorem dX3_readOne_64 : decode cX3_readOne 64 = .ok (.invokevirtual 62, 3) := by decide +kernel
theorem dX3_readOne_67 : decode cX3_readOne 67 = .ok (.iastore, 1) := by decide +kernel
theorem dX3_readOne_68 : decode cX3_readOne 68 = .ok (.goto 41, 3) := by decide +kernel
theorem dX3_readOne_71 : decode cX3_readOne 71 = .ok (.aload_n 0, 1) := by decide +kernel
theorem dX3_readOne_72 : decode cX3_readOne 72 = .ok (.ldc 65, 2) := by decide +kernel
theorem dX3_readOne_74 : decode cX3_readOne 74 = .ok (.invokevirtual 67, 3) := by decide +kernel
theorem dX3_readOne_77 : decode cX3_readOne 77 = .ok (.ifCond .eq 28, 3) := by decide +kernel
theorem dX3_readOne_80 : decode cX3_readOne 80 = .ok (.aload_n 0, 1) := by decide +kernel
theorem dX3_readOne_81 : decode cX3_readOne 81 = .ok (.invokevirtual 28, 3) := by decide +kernel
theorem dX3_readOne_84 : decode cX3_readOne 84 = .ok (.aload_n 1, 1) := by decide +kernel
theorem dX3_readOne_85 : decode cX3_readOne 85 = .ok (.dup, 1) := by decide +kernel
theorem dX3_readOne_86 : decode cX3_readOne 86 = .ok (.getfield 71, 3) := by decide +kernel
theorem dX3_readOne_89 : decode cX3_readOne 89 = .ok (.iconst 1, 1) := by decide +kernel
theorem dX3_readOne_90 : decode cX3_readOne 90 = .ok (.aload_n 0, 1) := by decide +kernel
theorem dX3_readOne_91 : decode cX3_readOne 91 = .ok (.bipush 7, 2) := by decide +kernel
theorem dX3_readOne_93 : decode cX3_readOne 93 = .ok (.iconst 0, 1) := by decide +kernel
theorem dX3_readOne_94 : decode cX3_readOne 94 = .ok (.invokevirtual 62, 3) := by decide +kernel
theorem dX3_readOne_97 : decode cX3_readOne 97 = .ok (.ishl, 1) := by decide +kernel
theorem dX3_readOne_98 : decode cX3_readOne 98 = .ok (.ior, 1) := by decide +kernel
theorem dX3_readOne_99 : decode cX3_readOne 99 = .ok (.putfield 71, 3) := by decide +kernel
theorem dX3_readOne_102 : decode cX3_readOne 102 = .ok (.goto 7, 3) := by decide +kernel
theorem dX3_readOne_105 : decode cX3_readOne 105 = .ok (.aload_n 0, 1) := by decide +kernel
theorem dX3_readOne_106 : decode cX3_readOne 106 = .ok (.invokevirtual 74, 3) := by decide +kernel
theorem dX3_readOne_109 : decode cX3_readOne 109 = .ok (.aload_n 0, 1) := by decide +kernel
theorem dX3_readOne_110 : decode cX3_readOne 110 = .ok (.invokevirtual 77, 3) := by decide +kernel
theorem dX3_readOne_113 : decode cX3_readOne 113 = .ok (.return_, 1) := by decide +kernel
def pc_X3_readOne (i : Nat) : Nat := ([0, 15, 24, 43, 48, 71, 80, 105, 109] : List Nat).getD i 0
set_option maxRecDepth 20000 in
theorem ob_X3_readOne_0 {x : ip_Cx} {G : ip_Gl} {d : Nat} (X : ip_X x G tb 4 d 0 0 RX3 cX3_readOne) (hr : x.2.2.2.2.2.2.2.2.1.sig.returnType = none) (hnm : x.2.2.2.2.2.2.2.2.1.name = "readOne") : ip_okB x G 4 pc_X3_readOne 0 ([oLdA 0, oCaV (ip_call tb d) 0 0 3 36 1 0 0, oStI 2, oLdA 0, oCaV (ip_call tb d) 0 0 3 37 1 0 0, oStI 3, oLdI 2, oI (-1)], tCm (fun a b => a = b) 3 1) := ⟨_, okC (ok_aldn X rfl dX3_readOne_0)
  (okC (ok_calV X (i := 35) (e := en_36) rfl mt_36 rfl rfl rfl tw_269 tw_270 (Or.inl ⟨_, _, rfl⟩) tw_271 dX3_readOne_1)
  (okC (ok_istn X rfl (by decide) dX3_readOne_4)
  (okC (ok_aldn X rfl dX3_readOne_5)
  (okC (ok_calV X (i := 39) (e := en_37) rfl mt_37 rfl rfl rfl tw_331 tw_332 (Or.inl ⟨_, _, rfl⟩) tw_333 dX3_readOne_6)
  (okC (ok_istn X rfl (by decide) dX3_readOne_9)
  (okC (ok_ildn X rfl dX3_readOne_10)
  (okC (ok_ic X (by decide) dX3_readOne_11)
  (okN)))))))), ok_cmeq X (by decide) rfl dX3_readOne_12⟩
set_option maxRecDepth 20000 in
theorem ob_X3_readOne_1 {x : ip_Cx} {G : ip_Gl} {d : Nat} (X : ip_X x G tb 4 d 0 0 RX3 cX3_readOne) (hr : x.2.2.2.2.2.2.2.2.1.sig.returnType = none) (hnm : x.2.2.2.2.2.2.2.2.1.name = "readOne") : ip_okB x G 4 pc_X3_readOne 15 ([oLdA 1, oGet 1 4, oI (8)], tCm (fun a b => a < b) 2 3) := ⟨_, okC (ok_aldn X rfl dX3_readOne_15)
  (okC (ok_get X (ci := 1) rfl (by decide) iw_X1 tw_52 dX3_readOne_16)
  (okC (ok_bi X (by decide) dX3_readOne_19)
  (okN))), ok_cmge X (by decide) rfl dX3_readOne_21⟩
set_option maxRecDepth 20000 in
theorem ob_X3_readOne_2 {x : ip_Cx} {G : ip_Gl} {d : Nat} (X : ip_X x G tb 4 d 0 0 RX3 cX3_readOne) (hr : x.2.2.2.2.2.2.2.2.1.sig.returnType = none) (hnm : x.2.2.2.2.2.2.2.2.1.name = "readOne") : ip_okB x G 4 pc_X3_readOne 24 ([oLdA 0, oCaV (ip_call tb d) 0 0 3 31 1 0 0, oLdA 0, oLdA 1, oLdA 1, oLdI 2, oI (10), oCaV (ip_call tb d) 0 0 1 10 3 0 0, oCaV (ip_call tb d) 0 0 3 26 3 0 0], tGo 8) := ⟨_, okC (ok_aldn X rfl dX3_readOne_24)
  (okC (ok_calV X (i := 28) (e := en_31) rfl mt_31 rfl rfl rfl tw_255 tw_256 (Or.inl ⟨_, _, rfl⟩) tw_257 dX3_readOne_25)
  (okC (ok_aldn X rfl dX3_readOne_28)
  (okC (ok_aldn X rfl dX3_readOne_29)
  (okC (ok_aldn X rfl dX3_readOne_30)
  (okC (ok_ildn X rfl dX3_readOne_31)
  (okC (ok_bi X (by decide) dX3_readOne_32)
  (okC (ok_calV X (i := 47) (e := en_10) rfl mt_10 rfl rfl rfl tw_339 tw_340 (Or.inl ⟨_, _, rfl⟩) tw_341 dX3_readOne_34)
  (okC (ok_calV X (i := 51) (e := en_26) rfl mt_26 rfl rfl rfl tw_343 tw_344 (Or.inl ⟨_, _, rfl⟩) tw_345 dX3_readOne_37)
  (okN))))))))), ok_go X (by decide) dX3_readOne_40⟩
set_option maxRecDepth 20000 in
theorem ob_X3_readOne_3 {x : ip_Cx} {G : ip_Gl} {d : Nat} (X : ip_X x G tb 4 d 0 0 RX3 cX3_readOne) (hr : x.2.2.2.2.2.2.2.2.1.sig.returnType = none) (hnm : x.2.2.2.2.2.2.2.2.1.name = "readOne") : ip_okB x G 4 pc_X3_readOne 43 ([oLdI 3, oI (-1)], tCm (fun a b => a = b) 5 4) := ⟨_, okC (ok_ildn X rfl dX3_readOne_43)
  (okC (ok_ic X (by decide) dX3_readOne_44)
  (okN)), ok_cmeq X (by decide) rfl dX3_readOne_45⟩
set_option maxRecDepth 20000 in
theorem ob_X3_readOne_4 {x : ip_Cx} {G : ip_Gl} {d : Nat} (X : ip_X x G tb 4 d 0 0 RX3 cX3_readOne) (hr : x.2.2.2.2.2.2.2.2.1.sig.returnType = none) (hnm : x.2.2.2.2.2.2.2.2.1.name = "readOne") : ip_okB x G 4 pc_X3_readOne 48 ([oLdA 0, oCaV (ip_call tb d) 0 0 3 31 1 0 0, oLdA 1, oGet 1 0, oLdI 3, oLdA 0, oRef 2, oLdI 3, oAldI, oI (0), oCaV (ip_call tb d) 0 0 3 28 3 0 0, oAstI], tGo 8) := ⟨_, okC (ok_aldn X rfl dX3_readOne_48)
  (okC (ok_calV X (i := 28) (e := en_31) rfl mt_31 rfl rfl rfl tw_255 tw_256 (Or.inl ⟨_, _, rfl⟩) tw_257 dX3_readOne_49)
  (okC (ok_aldn X rfl dX3_readOne_52)
  (okC (ok_get X (ci := 1) rfl (by decide) iw_X1 tw_41 dX3_readOne_53)
  (okC (ok_ildn X rfl dX3_readOne_56)
  (okC (ok_aldn X rfl dX3_readOne_57)
  (okC (ok_gsN X (q := (RX5, "HIGHEST_LAWS", "[I", .ref 2)) (by simp [ip_stat]) rfl rfl (by simp [ip_nesF]) dX3_readOne_58)
  (okC (ok_ildn X rfl dX3_readOne_61)
  (okC (ok_iald X dX3_readOne_62)
  (okC (ok_ic X (by decide) dX3_readOne_63)
  (okC (ok_calV X (i := 62) (e := en_28) rfl mt_28 rfl rfl rfl tw_352 tw_353 (Or.inl ⟨_, _, rfl⟩) tw_354 dX3_readOne_64)
  (okC (ok_iast X dX3_readOne_67)
  (okN)))))))))))), ok_go X (by decide) dX3_readOne_68⟩
set_option maxRecDepth 20000 in
theorem ob_X3_readOne_5 {x : ip_Cx} {G : ip_Gl} {d : Nat} (X : ip_X x G tb 4 d 0 0 RX3 cX3_readOne) (hr : x.2.2.2.2.2.2.2.2.1.sig.returnType = none) (hnm : x.2.2.2.2.2.2.2.2.1.name = "readOne") : ip_okB x G 4 pc_X3_readOne 71 ([oLdA 0, oRef 19, oCaV (ip_call tb d) 0 0 3 35 2 0 0], tIf (fun a => a = 0) 7 6) := ⟨_, okC (ok_aldn X rfl dX3_readOne_71)
  (okC (ok_str X (tx := "fact") rfl (by decide) (by decide +kernel) dX3_readOne_72)
  (okC (ok_calV X (i := 67) (e := en_35) rfl mt_35 rfl rfl rfl tw_274 tw_275 (Or.inl ⟨_, _, rfl⟩) tw_276 dX3_readOne_74)
  (okN))), ok_ifeq X (by decide) rfl dX3_readOne_77⟩
set_option maxRecDepth 20000 in
theorem ob_X3_readOne_6 {x : ip_Cx} {G : ip_Gl} {d : Nat} (X : ip_X x G tb 4 d 0 0 RX3 cX3_readOne) (hr : x.2.2.2.2.2.2.2.2.1.sig.returnType = none) (hnm : x.2.2.2.2.2.2.2.2.1.name = "readOne") : ip_okB x G 4 pc_X3_readOne 80 ([oLdA 0, oCaV (ip_call tb d) 0 0 3 31 1 0 0, oLdA 1, oDup, oGet 1 1, oI (1), oLdA 0, oI (7), oI (0), oCaV (ip_call tb d) 0 0 3 28 3 0 0, oBI (fun a b => a <<< (b &&& 31)), oBI (fun a b => a ||| b), oPut 1 1 .int], tGo 8) := ⟨_, okC (ok_aldn X rfl dX3_readOne_80)
  (okC (ok_calV X (i := 28) (e := en_31) rfl mt_31 rfl rfl rfl tw_255 tw_256 (Or.inl ⟨_, _, rfl⟩) tw_257 dX3_readOne_81)
  (okC (ok_aldn X rfl dX3_readOne_84)
  (okC (ok_dup X dX3_readOne_85)
  (okC (ok_get X (ci := 1) rfl (by decide) iw_X1 tw_43 dX3_readOne_86)
  (okC (ok_ic X (by decide) dX3_readOne_89)
  (okC (ok_aldn X rfl dX3_readOne_90)
  (okC (ok_bi X (by decide) dX3_readOne_91)
  (okC (ok_ic X (by decide) dX3_readOne_93)
  (okC (ok_calV X (i := 62) (e := en_28) rfl mt_28 rfl rfl rfl tw_352 tw_353 (Or.inl ⟨_, _, rfl⟩) tw_354 dX3_readOne_94)
  (okC (ok_ishl X dX3_readOne_97)
  (okC (ok_ior X dX3_readOne_98)
  (okC (ok_put X (ci := 1) rfl (by decide) iw_X1 tyX1_ok nmX1 rfl (Or.inl rfl) tw_43 dX3_readOne_99)
  (okN))))))))))))), ok_go X (by decide) dX3_readOne_102⟩
set_option maxRecDepth 20000 in
theorem ob_X3_readOne_7 {x : ip_Cx} {G : ip_Gl} {d : Nat} (X : ip_X x G tb 4 d 0 0 RX3 cX3_readOne) (hr : x.2.2.2.2.2.2.2.2.1.sig.returnType = none) (hnm : x.2.2.2.2.2.2.2.2.1.name = "readOne") : ip_okB x G 4 pc_X3_readOne 105 ([oLdA 0, oCaV (ip_call tb d) 0 0 3 30 1 0 0], tGo 8) := ⟨_, okC (ok_aldn X rfl dX3_readOne_105)
  (okC (ok_calV X (i := 74) (e := en_30) rfl mt_30 rfl rfl rfl tw_360 tw_361 (Or.inl ⟨_, _, rfl⟩) tw_362 dX3_readOne_106)
  (okN)), ok_fall rfl⟩
set_option maxRecDepth 20000 in
theorem ob_X3_readOne_8 {x : ip_Cx} {G : ip_Gl} {d : Nat} (X : ip_X x G tb 4 d 0 0 RX3 cX3_readOne) (hr : x.2.2.2.2.2.2.2.2.1.sig.returnType = none) (hnm : x.2.2.2.2.2.2.2.2.1.name = "readOne") : ip_okB x G 4 pc_X3_readOne 109 ([oLdA 0, oCaV (ip_call tb d) 0 0 3 29 1 0 0], tRV 0 0) := ⟨_, okC (ok_aldn X rfl dX3_readOne_109)
  (okC (ok_calV X (i := 77) (e := en_29) rfl mt_29 rfl rfl rfl tw_370 tw_371 (Or.inl ⟨_, _, rfl⟩) tw_372 dX3_readOne_110)
  (okN)), ok_vret X hr dX3_readOne_113⟩
theorem om_25 : ip_MOk tb en_25 pc_X3_readOne := fun x G d X hr hnm => ⟨ob_X3_readOne_0 X hr hnm, ⟨ob_X3_readOne_1 X hr hnm, ⟨ob_X3_readOne_2 X hr hnm, ⟨ob_X3_readOne_3 X hr hnm, ⟨ob_X3_readOne_4 X hr hnm, ⟨ob_X3_readOne_5 X hr hnm, ⟨ob_X3_readOne_6 X hr hnm, ⟨ob_X3_readOne_7 X hr hnm, ⟨ob_X3_readOne_8 X hr hnm, trivial⟩⟩⟩⟩⟩⟩⟩⟩⟩
