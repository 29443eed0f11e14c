theorem dX5_both_0 : decode cX5_both 0 = .ok (.aload_n 0, 1) := by decide +kernel
theorem dX5_both_1 : decode cX5_both 1 = .ok (.iload_n 1, 1) := by decide +kernel
theorem dX5_both_2 : decode cX5_both 2 = .ok (.invokevirtual 119, 3) := by decide +kernel
theorem dX5_both_5 : decode cX5_both 5 = .ok (.ifCond .eq 16, 3) := by decide +kernel
theorem dX5_both_8 : decode cX5_both 8 = .ok (.aload_n 0, 1) := by decide +kernel
theorem dX5_both_9 : decode cX5_both 9 = .ok (.iload_n 2, 1) := by decide +kernel
theorem dX5_both_10 : decode cX5_both 10 = .ok (.invokevirtual 119, 3) := by decide +kernel
theorem dX5_both_13 : decode cX5_both 13 = .ok (.ifCond .eq 8, 3) := by decide +kernel
theorem dX5_both_16 : decode cX5_both 16 = .ok (.iload_n 1, 1) := by decide +kernel
theorem dX5_both_17 : decode cX5_both 17 = .ok (.iload_n 2, 1) := by decide +kernel
theorem dX5_both_18 : decode cX5_both 18 = .ok (.if_icmp .ne 5, 3) := by decide +kernel
theorem dX5_both_21 : decode cX5_both 21 = .ok (.iconst (-1), 1) := by decide +kernel
theorem dX5_both_22 : decode cX5_both 22 = .ok (.ireturn, 1) := by decide +kernel
theorem dX5_both_23 : decode cX5_both 23 = .ok (.iload_n 3, 1) := by decide +kernel
theorem dX5_both_24 : decode cX5_both 24 = .ok (.lookupswitch 120 #[(0, 28), (1, 74)], 28) := by decide +kernel
theorem dX5_both_52 : decode cX5_both 52 = .ok (.aload_n 0, 1) := by decide +kernel
theorem dX5_both_53 : decode cX5_both 53 = .ok (.getfield 10, 3) := by decide +kernel
theorem dX5_both_56 : decode cX5_both 56 = .ok (.getfield 131, 3) := by decide +kernel
theorem dX5_both_59 : decode cX5_both 59 = .ok (.iload_n 1, 1) := by decide +kernel
theorem dX5_both_60 : decode cX5_both 60 = .ok (.iaload, 1) := by decide +kernel
theorem dX5_both_61 : decode cX5_both 61 = .ok (.aload_n 0, 1) := by decide +kernel
theorem dX5_both_62 : decode cX5_both 62 = .ok (.getfield 10, 3) := by decide +kernel
theorem dX5_both_65 : decode cX5_both 65 = .ok (.getfield 131, 3) := by decide +kernel
theorem dX5_both_68 : decode cX5_both 68 = .ok (.iload_n 2, 1) := by decide +kernel
theorem dX5_both_69 : decode cX5_both 69 = .ok (.iaload, 1) := by decide +kernel
theorem dX5_both_70 : decode cX5_both 70 = .ok (.iand, 1) := by decide +kernel
theorem dX5_both_71 : decode cX5_both 71 = .ok (.invokestatic 171, 3) := by decide +kernel
theorem dX5_both_74 : decode cX5_both 74 = .ok (.aload_n 0, 1) := by decide +kernel
theorem dX5_both_75 : decode cX5_both 75 = .ok (.getfield 10, 3) := by decide +kernel
theorem dX5_both_78 : decode cX5_both 78 = .ok (.getfield 134, 3) := by decide +kernel
theorem dX5_both_81 : decode cX5_both 81 = .ok (.iload_n 1, 1) := by decide +kernel
theorem dX5_both_82 : decode cX5_both 82 = .ok (.iaload, 1) := by decide +kernel
theorem dX5_both_83 : decode cX5_both 83 = .ok (.aload_n 0, 1) := by decide +kernel
theorem dX5_both_84 : decode cX5_both 84 = .ok (.getfield 10, 3) := by decide +kernel
theorem dX5_both_87 : decode cX5_both 87 = .ok (.getfield 134, 3) := by decide +kernel
theorem dX5_both_90 : decode cX5_both 90 = .ok (.iload_n 2, 1) := by decide +kernel
theorem dX5_both_91 : decode cX5_both 91 = .ok (.iaload, 1) := by decide +kernel
theorem dX5_both_92 : decode cX5_both 92 = .ok (.iand, 1) := by decide +kernel
theorem dX5_both_93 : decode cX5_both 93 = .ok (.invokestatic 171, 3) := by decide +kernel
theorem dX5_both_96 : decode cX5_both 96 = .ok (.iadd, 1) := by decide +kernel
theorem dX5_both_97 : decode cX5_both 97 = .ok (.ireturn, 1) := by decide +kernel
theorem dX5_both_98 : decode cX5_both 98 = .ok (.aload_n 0, 1) := by decide +kernel
theorem dX5_both_99 : decode cX5_both 99 = .ok (.getfield 10, 3) := by decide +kernel
theorem dX5_both_102 : decode cX5_both 102 = .ok (.getfield 131, 3) := by decide +kernel
theorem dX5_both_105 : decode cX5_both 105 = .ok (.iload_n 1, 1) := by decide +kernel
theorem dX5_both_106 : decode cX5_both 106 = .ok (.iaload, 1) := by decide +kernel
theorem dX5_both_107 : decode cX5_both 107 = .ok (.aload_n 0, 1) := by decide +kernel
theorem dX5_both_108 : decode cX5_both 108 = .ok (.getfield 10, 3) := by decide +kernel
theorem dX5_both_111 : decode cX5_both 111 = .ok (.getfield 134, 3) := by decide +kernel
theorem dX5_both_114 : decode cX5_both 114 = .ok (.iload_n 2, 1) := by decide +kernel
theorem dX5_both_115 : decode cX5_both 115 = .ok (.iaload, 1) := by decide +kernel
theorem dX5_both_116 : decode cX5_both 116 = .ok (.iand, 1) := by decide +kernel
theorem dX5_both_117 : decode cX5_both 117 = .ok (.invokestatic 171, 3) := by decide +kernel
theorem dX5_both_120 : decode cX5_both 120 = .ok (.aload_n 0, 1) := by decide +kernel
theorem dX5_both_121 : decode cX5_both 121 = .ok (.getfield 10, 3) := by decide +kernel
theorem dX5_both_124 : decode cX5_both 124 = .ok (.getfield 134, 3) := by decide +kernel
theorem dX5_both_127 : decode cX5_both 127 = .ok (.iload_n 1, 1) := by decide +kernel
theorem dX5_both_128 : decode cX5_both 128 = .ok (.iaload, 1) := by decide +kernel
theorem dX5_both_129 : decode cX5_both 129 = .ok (.aload_n 0, 1) := by decide +kernel
theorem dX5_both_130 : decode cX5_both 130 = .ok (.getfield 10, 3) := by decide +kernel
theorem dX5_both_133 : decode cX5_both 133 = .ok (.getfield 131, 3) := by decide +kernel
theorem dX5_both_136 : decode cX5_both 136 = .ok (.iload_n 2, 1) := by decide +kernel
theorem dX5_both_137 : decode cX5_both 137 = .ok (.iaload, 1) := by decide +kernel
theorem dX5_both_138 : decode cX5_both 138 = .ok (.iand, 1) := by decide +kernel
theorem dX5_both_139 : decode cX5_both 139 = .ok (.invokestatic 171, 3) := by decide +kernel
theorem dX5_both_142 : decode cX5_both 142 = .ok (.iadd, 1) := by decide +kernel
theorem dX5_both_143 : decode cX5_both 143 = .ok (.ireturn, 1) := by decide +kernel
theorem dX5_both_144 : decode cX5_both 144 = .ok (.iconst (-1), 1) := by decide +kernel
theorem dX5_both_145 : decode cX5_both 145 = .ok (.ireturn, 1) := by decide +kernel
def pc_X5_both (i : Nat) : Nat := ([0, 8, 16, 21, 23, 52, 98, 144] : List Nat).getD i 0
set_option maxRecDepth 20000 in
theorem ob_X5_both_0 {x : ip_Cx} {G : ip_Gl} {d : Nat} (X : ip_X x G tb 4 d 0 0 RX5 cX5_both) (hr : x.2.2.2.2.2.2.2.2.1.sig.returnType = (some .int)) (hnm : x.2.2.2.2.2.2.2.2.1.name = "both") : ip_okB x G 4 pc_X5_both 0 ([oLdA 0, oLdI 1, oCaV (ip_call tb d) 0 0 5 102 2 0 0], tIf (fun a => a = 0) 3 1) := ⟨_, okC (ok_aldn X rfl dX5_both_0)
  (okC (ok_ildn X rfl dX5_both_1)
  (okC (ok_calV X (i := 119) (e := en_102) rfl mt_102 rfl rfl rfl tw_409 tw_411 (Or.inl ⟨_, _, rfl⟩) tp_0 dX5_both_2)
  (okN))), ok_ifeq X (by decide) rfl dX5_both_5⟩
set_option maxRecDepth 20000 in
theorem ob_X5_both_1 {x : ip_Cx} {G : ip_Gl} {d : Nat} (X : ip_X x G tb 4 d 0 0 RX5 cX5_both) (hr : x.2.2.2.2.2.2.2.2.1.sig.returnType = (some .int)) (hnm : x.2.2.2.2.2.2.2.2.1.name = "both") : ip_okB x G 4 pc_X5_both 8 ([oLdA 0, oLdI 2, oCaV (ip_call tb d) 0 0 5 102 2 0 0], tIf (fun a => a = 0) 3 2) := ⟨_, okC (ok_aldn X rfl dX5_both_8)
  (okC (ok_ildn X rfl dX5_both_9)
  (okC (ok_calV X (i := 119) (e := en_102) rfl mt_102 rfl rfl rfl tw_409 tw_411 (Or.inl ⟨_, _, rfl⟩) tp_0 dX5_both_10)
  (okN))), ok_ifeq X (by decide) rfl dX5_both_13⟩
set_option maxRecDepth 20000 in
theorem ob_X5_both_2 {x : ip_Cx} {G : ip_Gl} {d : Nat} (X : ip_X x G tb 4 d 0 0 RX5 cX5_both) (hr : x.2.2.2.2.2.2.2.2.1.sig.returnType = (some .int)) (hnm : x.2.2.2.2.2.2.2.2.1.name = "both") : ip_okB x G 4 pc_X5_both 16 ([oLdI 1, oLdI 2], tCm (fun a b => a = b) 3 4) := ⟨_, okC (ok_ildn X rfl dX5_both_16)
  (okC (ok_ildn X rfl dX5_both_17)
  (okN)), ok_cmne X (by decide) rfl dX5_both_18⟩
set_option maxRecDepth 20000 in
theorem ob_X5_both_3 {x : ip_Cx} {G : ip_Gl} {d : Nat} (X : ip_X x G tb 4 d 0 0 RX5 cX5_both) (hr : x.2.2.2.2.2.2.2.2.1.sig.returnType = (some .int)) (hnm : x.2.2.2.2.2.2.2.2.1.name = "both") : ip_okB x G 4 pc_X5_both 21 ([oI (-1)], tRI .int 0 0) := ⟨_, okC (ok_ic X (by decide) dX5_both_21)
  (okN), ok_ret X hr dX5_both_22⟩
set_option maxRecDepth 20000 in
theorem ob_X5_both_4 {x : ip_Cx} {G : ip_Gl} {d : Nat} (X : ip_X x G tb 4 d 0 0 RX5 cX5_both) (hr : x.2.2.2.2.2.2.2.2.1.sig.returnType = (some .int)) (hnm : x.2.2.2.2.2.2.2.2.1.name = "both") : ip_okB x G 4 pc_X5_both 23 ([oLdI 3], tSw [(0, 5), (1, 6)] 7) := ⟨_, okC (ok_ildn X rfl dX5_both_23)
  (okN), ok_lsw X (by decide) (by decide +kernel) (by decide) dX5_both_24⟩
set_option maxRecDepth 20000 in
theorem ob_X5_both_5 {x : ip_Cx} {G : ip_Gl} {d : Nat} (X : ip_X x G tb 4 d 0 0 RX5 cX5_both) (hr : x.2.2.2.2.2.2.2.2.1.sig.returnType = (some .int)) (hnm : x.2.2.2.2.2.2.2.2.1.name = "both") : ip_okB x G 4 pc_X5_both 52 ([oLdA 0, oGet 5 0, oGet 1 8, oLdI 1, oAldI, oLdA 0, oGet 5 0, oGet 1 8, oLdI 2, oAldI, oBI (fun a b => a &&& b), oCal (ip_call tb d) 0 0 227 1 0 0, oLdA 0, oGet 5 0, oGet 1 9, oLdI 1, oAldI, oLdA 0, oGet 5 0, oGet 1 9, oLdI 2, oAldI, oBI (fun a b => a &&& b), oCal (ip_call tb d) 0 0 227 1 0 0, oBI (fun a b => a + b)], tRI .int 0 0) := ⟨_, okC (ok_aldn X rfl dX5_both_52)
  (okC (ok_get X (ci := 5) rfl (by decide) iw_X5 tw_198 dX5_both_53)
  (okC (ok_get X (ci := 1) rfl (by decide) iw_X1 tw_66 dX5_both_56)
  (okC (ok_ildn X rfl dX5_both_59)
  (okC (ok_iald X dX5_both_60)
  (okC (ok_aldn X rfl dX5_both_61)
  (okC (ok_get X (ci := 5) rfl (by decide) iw_X5 tw_198 dX5_both_62)
  (okC (ok_get X (ci := 1) rfl (by decide) iw_X1 tw_66 dX5_both_65)
  (okC (ok_ildn X rfl dX5_both_68)
  (okC (ok_iald X dX5_both_69)
  (okC (ok_iand X dX5_both_70)
  (okC (ok_calS X (i := 171) (e := en_227) rfl mt_227 rfl rfl rfl tw_431 tw_432 dX5_both_71)
  (okC (ok_aldn X rfl dX5_both_74)
  (okC (ok_get X (ci := 5) rfl (by decide) iw_X5 tw_198 dX5_both_75)
  (okC (ok_get X (ci := 1) rfl (by decide) iw_X1 tw_69 dX5_both_78)
  (okC (ok_ildn X rfl dX5_both_81)
  (okC (ok_iald X dX5_both_82)
  (okC (ok_aldn X rfl dX5_both_83)
  (okC (ok_get X (ci := 5) rfl (by decide) iw_X5 tw_198 dX5_both_84)
  (okC (ok_get X (ci := 1) rfl (by decide) iw_X1 tw_69 dX5_both_87)
  (okC (ok_ildn X rfl dX5_both_90)
  (okC (ok_iald X dX5_both_91)
  (okC (ok_iand X dX5_both_92)
  (okC (ok_calS X (i := 171) (e := en_227) rfl mt_227 rfl rfl rfl tw_431 tw_432 dX5_both_93)
  (okC (ok_iadd X dX5_both_96)
  (okN))))))))))))))))))))))))), ok_ret X hr dX5_both_97⟩
set_option maxRecDepth 20000 in
theorem ob_X5_both_6 {x : ip_Cx} {G : ip_Gl} {d : Nat} (X : ip_X x G tb 4 d 0 0 RX5 cX5_both) (hr : x.2.2.2.2.2.2.2.2.1.sig.returnType = (some .int)) (hnm : x.2.2.2.2.2.2.2.2.1.name = "both") : ip_okB x G 4 pc_X5_both 98 ([oLdA 0, oGet 5 0, oGet 1 8, oLdI 1, oAldI, oLdA 0, oGet 5 0, oGet 1 9, oLdI 2, oAldI, oBI (fun a b => a &&& b), oCal (ip_call tb d) 0 0 227 1 0 0, oLdA 0, oGet 5 0, oGet 1 9, oLdI 1, oAldI, oLdA 0, oGet 5 0, oGet 1 8, oLdI 2, oAldI, oBI (fun a b => a &&& b), oCal (ip_call tb d) 0 0 227 1 0 0, oBI (fun a b => a + b)], tRI .int 0 0) := ⟨_, okC (ok_aldn X rfl dX5_both_98)
  (okC (ok_get X (ci := 5) rfl (by decide) iw_X5 tw_198 dX5_both_99)
  (okC (ok_get X (ci := 1) rfl (by decide) iw_X1 tw_66 dX5_both_102)
  (okC (ok_ildn X rfl dX5_both_105)
  (okC (ok_iald X dX5_both_106)
  (okC (ok_aldn X rfl dX5_both_107)
  (okC (ok_get X (ci := 5) rfl (by decide) iw_X5 tw_198 dX5_both_108)
  (okC (ok_get X (ci := 1) rfl (by decide) iw_X1 tw_69 dX5_both_111)
  (okC (ok_ildn X rfl dX5_both_114)
  (okC (ok_iald X dX5_both_115)
  (okC (ok_iand X dX5_both_116)
  (okC (ok_calS X (i := 171) (e := en_227) rfl mt_227 rfl rfl rfl tw_431 tw_432 dX5_both_117)
  (okC (ok_aldn X rfl dX5_both_120)
  (okC (ok_get X (ci := 5) rfl (by decide) iw_X5 tw_198 dX5_both_121)
  (okC (ok_get X (ci := 1) rfl (by decide) iw_X1 tw_69 dX5_both_124)
  (okC (ok_ildn X rfl dX5_both_127)
  (okC (ok_iald X dX5_both_128)
  (okC (ok_aldn X rfl dX5_both_129)
  (okC (ok_get X (ci := 5) rfl (by decide) iw_X5 tw_198 dX5_both_130)
  (okC (ok_get X (ci := 1) rfl (by decide) iw_X1 tw_66 dX5_both_133)
  (okC (ok_ildn X rfl dX5_both_136)
  (okC (ok_iald X dX5_both_137)
  (okC (ok_iand X dX5_both_138)
  (okC (ok_calS X (i := 171) (e := en_227) rfl mt_227 rfl rfl rfl tw_431 tw_432 dX5_both_139)
  (okC (ok_iadd X dX5_both_142)
  (okN))))))))))))))))))))))))), ok_ret X hr dX5_both_143⟩
set_option maxRecDepth 20000 in
theorem ob_X5_both_7 {x : ip_Cx} {G : ip_Gl} {d : Nat} (X : ip_X x G tb 4 d 0 0 RX5 cX5_both) (hr : x.2.2.2.2.2.2.2.2.1.sig.returnType = (some .int)) (hnm : x.2.2.2.2.2.2.2.2.1.name = "both") : ip_okB x G 4 pc_X5_both 144 ([oI (-1)], tRI .int 0 0) := ⟨_, okC (ok_ic X (by decide) dX5_both_144)
  (okN), ok_ret X hr dX5_both_145⟩
theorem om_76 : ip_MOk tb en_76 pc_X5_both := fun x G d X hr hnm => ⟨ob_X5_both_0 X hr hnm, ⟨ob_X5_both_1 X hr hnm, ⟨ob_X5_both_2 X hr hnm, ⟨ob_X5_both_3 X hr hnm, ⟨ob_X5_both_4 X hr hnm, ⟨ob_X5_both_5 X hr hnm, ⟨ob_X5_both_6 X hr hnm, ⟨ob_X5_both_7 X hr hnm, trivial⟩⟩⟩⟩⟩⟩⟩⟩
theorem dX5_fits_0 : decode cX5_fits 0 = .ok (.iload_n 1, 1) := by decide +kernel
theorem dX5_fits_1 : decode cX5_fits 1 = .ok (.invokestatic 222, 3) := by decide +kernel
theorem dX5_fits_4 : decode cX5_fits 4 = .ok (.ifCond .eq 20, 3) := by decide +kernel
theorem dX5_fits_7 : decode cX5_fits 7 = .ok (.aload_n 0, 1) := by decide +kernel
theorem dX5_fits_8 : decode cX5_fits 8 = .ok (.iload_n 2, 1) := by decide +kernel
theorem dX5_fits_9 : decode cX5_fits 9 = .ok (.invokevirtual 119, 3) := by decide +kernel
theorem dX5_fits_12 : decode cX5_fits 12 = .ok (.ifCond .eq 12, 3) := by decide +kernel
theorem dX5_fits_15 : decode cX5_fits 15 = .ok (.iload_n 3, 1) := by decide +kernel
theorem dX5_fits_16 : decode cX5_fits 16 = .ok (.iconst 0, 1) := by decide +kernel
theorem dX5_fits_17 : decode cX5_fits 17 = .ok (.iconst 1, 1) := by decide +kernel
theorem dX5_fits_18 : decode cX5_fits 18 = .ok (.invokestatic 67, 3) := by decide +kernel
theorem dX5_fits_21 : decode cX5_fits 21 = .ok (.ifCond .ne 5, 3) := by decide +kernel
theorem dX5_fits_24 : decode cX5_fits 24 = .ok (.iconst (-1), 1) := by decide +kernel
theorem dX5_fits_25 : decode cX5_fits 25 = .ok (.ireturn, 1) := by decide +kernel
theorem dX5_fits_26 : decode cX5_fits 26 = .ok (.aload_n 0, 1) := by decide +kernel
theorem dX5_fits_27 : decode cX5_fits 27 = .ok (.getfield 57, 3) := by decide +kernel
theorem dX5_fits_30 : decode cX5_fits 30 = .ok (.iload_n 1, 1) := by decide +kernel
theorem dX5_fits_31 : decode cX5_fits 31 = .ok (.aaload, 1) := by decide +kernel
theorem dX5_fits_32 : decode cX5_fits 32 = .ok (.astore 4, 2) := by decide +kernel
theorem dX5_fits_34 : decode cX5_fits 34 = .ok (.aload 4, 2) := by decide +kernel
theorem dX5_fits_36 : decode cX5_fits 36 = .ok (.ifnonnull 6, 3) := by decide +kernel
theorem dX5_fits_39 : decode cX5_fits 39 = .ok (.bipush (-11), 2) := by decide +kernel
theorem dX5_fits_41 : decode cX5_fits 41 = .ok (.ireturn, 1) := by decide +kernel
theorem dX5_fits_42 : decode cX5_fits 42 = .ok (.aload_n 0, 1) := by decide +kernel
theorem dX5_fits_43 : decode cX5_fits 43 = .ok (.iload_n 2, 1) := by decide +kernel
theorem dX5_fits_44 : decode cX5_fits 44 = .ok (.aload 4, 2) := by decide +kernel
theorem dX5_fits_46 : decode cX5_fits 46 = .ok (.invokevirtual 225, 3) := by decide +kernel
theorem dX5_fits_49 : decode cX5_fits 49 = .ok (.istore 5, 2) := by decide +kernel
theorem dX5_fits_51 : decode cX5_fits 51 = .ok (.iconst 0, 1) := by decide +kernel
theorem dX5_fits_52 : decode cX5_fits 52 = .ok (.istore 6, 2) := by decide +kernel
theorem dX5_fits_54 : decode cX5_fits 54 = .ok (.iconst 0, 1) := by decide +kernel
theorem dX5_fits_55 : decode cX5_fits 55 = .ok (.istore 7, 2) := by decide +kernel
theorem dX5_fits_57 : decode cX5_fits 57 = .ok (.iload 7, 2) := by decide +kernel
theorem dX5_fits_59 : decode cX5_fits 59 = .ok (.sipush 256, 3) := by decide +kernel
theorem dX5_fits_62 : decode cX5_fits 62 = .ok (.if_icmp .ge 38, 3) := by decide +kernel
theorem dX5_fits_65 : decode cX5_fits 65 = .ok (.iload 5, 2) := by decide +kernel
theorem dX5_fits_67 : decode cX5_fits 67 = .ok (.aload_n 0, 1) := by decide +kernel
theorem dX5_fits_68 : decode cX5_fits 68 = .ok (.getfield 10, 3) := by decide +kernel
theorem dX5_fits_71 : decode cX5_fits 71 = .ok (.iload_n 2, 1) := by decide +kernel
theorem dX5_fits_72 : decode cX5_fits 72 = .ok (.iload 7, 2) := by decide +kernel
theorem dX5_fits_74 : decode cX5_fits 74 = .ok (.invokevirtual 229, 3) := by decide +kernel
theorem dX5_fits_77 : decode cX5_fits 77 = .ok (.invokestatic 232, 3) := by decide +kernel
theorem dX5_fits_80 : decode cX5_fits 80 = .ok (.ifCond .eq 14, 3) := by decide +kernel
theorem dX5_fits_83 : decode cX5_fits 83 = .ok (.iload_n 3, 1) := by decide +kernel
theorem dX5_fits_84 : decode cX5_fits 84 = .ok (.iconst 1, 1) := by decide +kernel
theorem dX5_fits_85 : decode cX5_fits 85 = .ok (.if_icmp .ne 6, 3) := by decide +kernel
theorem dX5_fits_88 : decode cX5_fits 88 = .ok (.iload 7, 2) := by decide +kernel
theorem dX5_fits_90 : decode cX5_fits 90 = .ok (.ireturn, 1) := by decide +kernel
theorem dX5_fits_91 : decode cX5_fits 91 = .ok (.iinc 6 1, 3) := by decide +kernel
theorem dX5_fits_94 : decode cX5_fits 94 = .ok (.iinc 7 1, 3) := by decide +kernel
theorem dX5_fits_97 : decode cX5_fits 97 = .ok (.goto (-40), 3) := by decide +kernel
theorem dX5_fits_100 : decode cX5_fits 100 = .ok (.iload_n 3, 1) := by decide +kernel
theorem dX5_fits_101 : decode cX5_fits 101 = .ok (.iconst 1, 1) := by decide +kernel
theorem dX5_fits_102 : decode cX5_fits 102 = .ok (.if_icmp .ne 8, 3) := by decide +kernel
theorem dX5_fits_105 : decode cX5_fits 105 = .ok (.bipush (-3), 2) := by decide +kernel
theorem dX5_fits_107 : decode cX5_fits 107 = .ok (.goto 5, 3) := by decide +kernel
theorem dX5_fits_110 : decode cX5_fits 110 = .ok (.iload 6, 2) := by decide +kernel
theorem dX5_fits_112 : decode cX5_fits 112 = .ok (.ireturn, 1) := by decide +kernel
def pc_X5_fits (i : Nat) : Nat := ([0, 7, 15, 24, 26, 39, 42, 57, 65, 83, 88, 91, 94, 100, 105, 110, 112] : List Nat).getD i 0
set_option maxRecDepth 20000 in
theorem ob_X5_fits_0 {x : ip_Cx} {G : ip_Gl} {d : Nat} (X : ip_X x G tb 8 d 0 0 RX5 cX5_fits) (hr : x.2.2.2.2.2.2.2.2.1.sig.returnType = (some .int)) (hnm : x.2.2.2.2.2.2.2.2.1.name = "fits") : ip_okB x G 8 pc_X5_fits 0 ([oLdI 1, oCal (ip_call tb d) 0 0 99 1 0 0], tIf (fun a => a = 0) 3 1) := ⟨_, okC (ok_ildn X rfl dX5_fits_0)
  (okC (ok_calS X (i := 222) (e := en_99) rfl mt_99 rfl rfl rfl tw_624 tw_625 dX5_fits_1)
  (okN)), ok_ifeq X (by decide) rfl dX5_fits_4⟩
set_option maxRecDepth 20000 in
theorem ob_X5_fits_1 {x : ip_Cx} {G : ip_Gl} {d : Nat} (X : ip_X x G tb 8 d 0 0 RX5 cX5_fits) (hr : x.2.2.2.2.2.2.2.2.1.sig.returnType = (some .int)) (hnm : x.2.2.2.2.2.2.2.2.1.name = "fits") : ip_okB x G 8 pc_X5_fits 7 ([oLdA 0, oLdI 2, oCaV (ip_call tb d) 0 0 5 102 2 0 0], tIf (fun a => a = 0) 3 2) := ⟨_, okC (ok_aldn X rfl dX5_fits_7)
  (okC (ok_ildn X rfl dX5_fits_8)
  (okC (ok_calV X (i := 119) (e := en_102) rfl mt_102 rfl rfl rfl tw_409 tw_411 (Or.inl ⟨_, _, rfl⟩) tp_0 dX5_fits_9)
  (okN))), ok_ifeq X (by decide) rfl dX5_fits_12⟩
set_option maxRecDepth 20000 in
theorem ob_X5_fits_2 {x : ip_Cx} {G : ip_Gl} {d : Nat} (X : ip_X x G tb 8 d 0 0 RX5 cX5_fits) (hr : x.2.2.2.2.2.2.2.2.1.sig.returnType = (some .int)) (hnm : x.2.2.2.2.2.2.2.2.1.name = "fits") : ip_okB x G 8 pc_X5_fits 15 ([oLdI 3, oI (0), oI (1), oCal (ip_call tb d) 0 0 95 3 0 0], tIf (fun a => a = 0) 3 4) := ⟨_, okC (ok_ildn X rfl dX5_fits_15)
  (okC (ok_ic X (by decide) dX5_fits_16)
  (okC (ok_ic X (by decide) dX5_fits_17)
  (okC (ok_calS X (i := 67) (e := en_95) rfl mt_95 rfl rfl rfl tw_239 tw_240 dX5_fits_18)
  (okN)))), ok_ifne X (by decide) rfl dX5_fits_21⟩
set_option maxRecDepth 20000 in
theorem ob_X5_fits_3 {x : ip_Cx} {G : ip_Gl} {d : Nat} (X : ip_X x G tb 8 d 0 0 RX5 cX5_fits) (hr : x.2.2.2.2.2.2.2.2.1.sig.returnType = (some .int)) (hnm : x.2.2.2.2.2.2.2.2.1.name = "fits") : ip_okB x G 8 pc_X5_fits 24 ([oI (-1)], tRI .int 0 0) := ⟨_, okC (ok_ic X (by decide) dX5_fits_24)
  (okN), ok_ret X hr dX5_fits_25⟩
set_option maxRecDepth 20000 in
theorem ob_X5_fits_4 {x : ip_Cx} {G : ip_Gl} {d : Nat} (X : ip_X x G tb 8 d 0 0 RX5 cX5_fits) (hr : x.2.2.2.2.2.2.2.2.1.sig.returnType = (some .int)) (hnm : x.2.2.2.2.2.2.2.2.1.name = "fits") : ip_okB x G 8 pc_X5_fits 26 ([oLdA 0, oGet 5 9, oLdI 1, oAldA, oStA 4, oLdA 4], tNu 5 6) := ⟨_, okC (ok_aldn X rfl dX5_fits_26)
  (okC (ok_get X (ci := 5) rfl (by decide) iw_X5 tw_207 dX5_fits_27)
  (okC (ok_ildn X rfl dX5_fits_30)
  (okC (ok_aald X dX5_fits_31)
  (okC (ok_ast X (by decide) dX5_fits_32)
  (okC (ok_ald X dX5_fits_34)
  (okN)))))), ok_ifnn X (by decide) rfl dX5_fits_36⟩
set_option maxRecDepth 20000 in
theorem ob_X5_fits_5 {x : ip_Cx} {G : ip_Gl} {d : Nat} (X : ip_X x G tb 8 d 0 0 RX5 cX5_fits) (hr : x.2.2.2.2.2.2.2.2.1.sig.returnType = (some .int)) (hnm : x.2.2.2.2.2.2.2.2.1.name = "fits") : ip_okB x G 8 pc_X5_fits 39 ([oI (-11)], tRI .int 0 0) := ⟨_, okC (ok_bi X (by decide) dX5_fits_39)
  (okN), ok_ret X hr dX5_fits_41⟩
set_option maxRecDepth 20000 in
theorem ob_X5_fits_6 {x : ip_Cx} {G : ip_Gl} {d : Nat} (X : ip_X x G tb 8 d 0 0 RX5 cX5_fits) (hr : x.2.2.2.2.2.2.2.2.1.sig.returnType = (some .int)) (hnm : x.2.2.2.2.2.2.2.2.1.name = "fits") : ip_okB x G 8 pc_X5_fits 42 ([oLdA 0, oLdI 2, oLdA 4, oCaV (ip_call tb d) 0 0 5 110 3 0 0, oStI 5, oI (0), oStI 6, oI (0), oStI 7], tGo 7) := ⟨_, okC (ok_aldn X rfl dX5_fits_42)
  (okC (ok_ildn X rfl dX5_fits_43)
  (okC (ok_ald X dX5_fits_44)
  (okC (ok_calV X (i := 225) (e := en_110) rfl mt_110 rfl rfl rfl tw_627 tw_629 (Or.inl ⟨_, _, rfl⟩) tp_6 dX5_fits_46)
  (okC (ok_ist X (by decide) dX5_fits_49)
  (okC (ok_ic X (by decide) dX5_fits_51)
  (okC (ok_ist X (by decide) dX5_fits_52)
  (okC (ok_ic X (by decide) dX5_fits_54)
  (okC (ok_ist X (by decide) dX5_fits_55)
  (okN))))))))), ok_fall rfl⟩
set_option maxRecDepth 20000 in
theorem ob_X5_fits_7 {x : ip_Cx} {G : ip_Gl} {d : Nat} (X : ip_X x G tb 8 d 0 0 RX5 cX5_fits) (hr : x.2.2.2.2.2.2.2.2.1.sig.returnType = (some .int)) (hnm : x.2.2.2.2.2.2.2.2.1.name = "fits") : ip_okB x G 8 pc_X5_fits 57 ([oLdI 7, oI (256)], tCm (fun a b => a < b) 8 13) := ⟨_, okC (ok_ild X dX5_fits_57)
  (okC (ok_si X (by decide) dX5_fits_59)
  (okN)), ok_cmge X (by decide) rfl dX5_fits_62⟩
set_option maxRecDepth 20000 in
theorem ob_X5_fits_8 {x : ip_Cx} {G : ip_Gl} {d : Nat} (X : ip_X x G tb 8 d 0 0 RX5 cX5_fits) (hr : x.2.2.2.2.2.2.2.2.1.sig.returnType = (some .int)) (hnm : x.2.2.2.2.2.2.2.2.1.name = "fits") : ip_okB x G 8 pc_X5_fits 65 ([oLdI 5, oLdA 0, oGet 5 0, oLdI 2, oLdI 7, oCaV (ip_call tb d) 0 0 1 12 3 0 0, oCal (ip_call tb d) 0 0 104 2 0 0], tIf (fun a => a = 0) 12 9) := ⟨_, okC (ok_ild X dX5_fits_65)
  (okC (ok_aldn X rfl dX5_fits_67)
  (okC (ok_get X (ci := 5) rfl (by decide) iw_X5 tw_198 dX5_fits_68)
  (okC (ok_ildn X rfl dX5_fits_71)
  (okC (ok_ild X dX5_fits_72)
  (okC (ok_calV X (i := 229) (e := en_12) rfl mt_12 rfl rfl rfl tw_635 tw_425 (Or.inl ⟨_, _, rfl⟩) tw_426 dX5_fits_74)
  (okC (ok_calS X (i := 232) (e := en_104) rfl mt_104 rfl rfl rfl tw_598 tw_422 dX5_fits_77)
  (okN))))))), ok_ifeq X (by decide) rfl dX5_fits_80⟩
set_option maxRecDepth 20000 in
theorem ob_X5_fits_9 {x : ip_Cx} {G : ip_Gl} {d : Nat} (X : ip_X x G tb 8 d 0 0 RX5 cX5_fits) (hr : x.2.2.2.2.2.2.2.2.1.sig.returnType = (some .int)) (hnm : x.2.2.2.2.2.2.2.2.1.name = "fits") : ip_okB x G 8 pc_X5_fits 83 ([oLdI 3, oI (1)], tCm (fun a b => a = b) 10 11) := ⟨_, okC (ok_ildn X rfl dX5_fits_83)
  (okC (ok_ic X (by decide) dX5_fits_84)
  (okN)), ok_cmne X (by decide) rfl dX5_fits_85⟩
set_option maxRecDepth 20000 in
theorem ob_X5_fits_10 {x : ip_Cx} {G : ip_Gl} {d : Nat} (X : ip_X x G tb 8 d 0 0 RX5 cX5_fits) (hr : x.2.2.2.2.2.2.2.2.1.sig.returnType = (some .int)) (hnm : x.2.2.2.2.2.2.2.2.1.name = "fits") : ip_okB x G 8 pc_X5_fits 88 ([oLdI 7], tRI .int 0 0) := ⟨_, okC (ok_ild X dX5_fits_88)
  (okN), ok_ret X hr dX5_fits_90⟩
set_option maxRecDepth 20000 in
theorem ob_X5_fits_11 {x : ip_Cx} {G : ip_Gl} {d : Nat} (X : ip_X x G tb 8 d 0 0 RX5 cX5_fits) (hr : x.2.2.2.2.2.2.2.2.1.sig.returnType = (some .int)) (hnm : x.2.2.2.2.2.2.2.2.1.name = "fits") : ip_okB x G 8 pc_X5_fits 91 ([oInc 6 (1)], tGo 12) := ⟨_, okC (ok_inc X (by decide) dX5_fits_91)
  (okN), ok_fall rfl⟩
set_option maxRecDepth 20000 in
theorem ob_X5_fits_12 {x : ip_Cx} {G : ip_Gl} {d : Nat} (X : ip_X x G tb 8 d 0 0 RX5 cX5_fits) (hr : x.2.2.2.2.2.2.2.2.1.sig.returnType = (some .int)) (hnm : x.2.2.2.2.2.2.2.2.1.name = "fits") : ip_okB x G 8 pc_X5_fits 94 ([oInc 7 (1)], tGo 7) := ⟨_, okC (ok_inc X (by decide) dX5_fits_94)
  (okN), ok_go X (by decide) dX5_fits_97⟩
set_option maxRecDepth 20000 in
theorem ob_X5_fits_13 {x : ip_Cx} {G : ip_Gl} {d : Nat} (X : ip_X x G tb 8 d 0 0 RX5 cX5_fits) (hr : x.2.2.2.2.2.2.2.2.1.sig.returnType = (some .int)) (hnm : x.2.2.2.2.2.2.2.2.1.name = "fits") : ip_okB x G 8 pc_X5_fits 100 ([oLdI 3, oI (1)], tCm (fun a b => a = b) 14 15) := ⟨_, okC (ok_ildn X rfl dX5_fits_100)
  (okC (ok_ic X (by decide) dX5_fits_101)
  (okN)), ok_cmne X (by decide) rfl dX5_fits_102⟩
set_option maxRecDepth 20000 in
theorem ob_X5_fits_14 {x : ip_Cx} {G : ip_Gl} {d : Nat} (X : ip_X x G tb 8 d 0 0 RX5 cX5_fits) (hr : x.2.2.2.2.2.2.2.2.1.sig.returnType = (some .int)) (hnm : x.2.2.2.2.2.2.2.2.1.name = "fits") : ip_okB x G 8 pc_X5_fits 105 ([oI (-3)], tGo 16) := ⟨_, okC (ok_bi X (by decide) dX5_fits_105)
  (okN), ok_go X (by decide) dX5_fits_107⟩
set_option maxRecDepth 20000 in
theorem ob_X5_fits_15 {x : ip_Cx} {G : ip_Gl} {d : Nat} (X : ip_X x G tb 8 d 0 0 RX5 cX5_fits) (hr : x.2.2.2.2.2.2.2.2.1.sig.returnType = (some .int)) (hnm : x.2.2.2.2.2.2.2.2.1.name = "fits") : ip_okB x G 8 pc_X5_fits 110 ([oLdI 6], tGo 16) := ⟨_, okC (ok_ild X dX5_fits_110)
  (okN), ok_fall rfl⟩
set_option maxRecDepth 20000 in
theorem ob_X5_fits_16 {x : ip_Cx} {G : ip_Gl} {d : Nat} (X : ip_X x G tb 8 d 0 0 RX5 cX5_fits) (hr : x.2.2.2.2.2.2.2.2.1.sig.returnType = (some .int)) (hnm : x.2.2.2.2.2.2.2.2.1.name = "fits") : ip_okB x G 8 pc_X5_fits 112 ([], tRI .int 0 0) := ⟨_, okN, ok_ret X hr dX5_fits_112⟩
theorem om_77 : ip_MOk tb en_77 pc_X5_fits := fun x G d X hr hnm => ⟨ob_X5_fits_0 X hr hnm, ⟨ob_X5_fits_1 X hr hnm, ⟨ob_X5_fits_2 X hr hnm, ⟨ob_X5_fits_3 X hr hnm, ⟨ob_X5_fits_4 X hr hnm, ⟨ob_X5_fits_5 X hr hnm, ⟨ob_X5_fits_6 X hr hnm, ⟨ob_X5_fits_7 X hr hnm, ⟨ob_X5_fits_8 X hr hnm, ⟨ob_X5_fits_9 X hr hnm, ⟨ob_X5_fits_10 X hr hnm, ⟨ob_X5_fits_11 X hr hnm, ⟨ob_X5_fits_12 X hr hnm, ⟨ob_X5_fits_13 X hr hnm, ⟨ob_X5_fits_14 X hr hnm, ⟨ob_X5_fits_15 X hr hnm, ⟨ob_X5_fits_16 X hr hnm, trivial⟩⟩⟩⟩⟩⟩⟩⟩⟩⟩⟩⟩⟩⟩⟩⟩⟩
theorem dX5_odds_0 : decode cX5_odds 0 = .ok (.iload_n 1, 1) := by decide +kernel
theorem dX5_odds_1 : decode cX5_odds 1 = .ok (.iconst 0, 1) := by decide +kernel
theorem dX5_odds_2 : decode cX5_odds 2 = .ok (.bipush 8, 2) := by decide +kernel
theorem dX5_odds_4 : decode cX5_odds 4 = .ok (.invokestatic 67, 3) := by decide +kernel
theorem dX5_odds_7 : decode cX5_odds 7 = .ok (.ifCond .eq 21, 3) := by decide +kernel
theorem dX5_odds_10 : decode cX5_odds 10 = .ok (.iload_n 2, 1) := by decide +kernel
theorem dX5_odds_11 : decode cX5_odds 11 = .ok (.iconst 0, 1) := by decide +kernel
theorem dX5_odds_12 : decode cX5_odds 12 = .ok (.iload_n 1, 1) := by decide +kernel
theorem dX5_odds_13 : decode cX5_odds 13 = .ok (.invokestatic 67, 3) := by decide +kernel
theorem dX5_odds_16 : decode cX5_odds 16 = .ok (.ifCond .eq 12, 3) := by decide +kernel
theorem dX5_odds_19 : decode cX5_odds 19 = .ok (.iload_n 3, 1) := by decide +kernel
theorem dX5_odds_20 : decode cX5_odds 20 = .ok (.iconst 0, 1) := by decide +kernel
theorem dX5_odds_21 : decode cX5_odds 21 = .ok (.iconst 1, 1) := by decide +kernel
theorem dX5_odds_22 : decode cX5_odds 22 = .ok (.invokestatic 67, 3) := by decide +kernel
theorem dX5_odds_25 : decode cX5_odds 25 = .ok (.ifCond .ne 7, 3) := by decide +kernel
theorem dX5_odds_28 : decode cX5_odds 28 = .ok (.ldc2_w 236, 3) := by decide +kernel
theorem dX5_odds_31 : decode cX5_odds 31 = .ok (.lreturn, 1) := by decide +kernel
theorem dX5_odds_32 : decode cX5_odds 32 = .ok (.aload_n 0, 1) := by decide +kernel
theorem dX5_odds_33 : decode cX5_odds 33 = .ok (.getfield 10, 3) := by decide +kernel
theorem dX5_odds_36 : decode cX5_odds 36 = .ok (.getfield 98, 3) := by decide +kernel
theorem dX5_odds_39 : decode cX5_odds 39 = .ok (.iconst 3, 1) := by decide +kernel
theorem dX5_odds_40 : decode cX5_odds 40 = .ok (.iaload, 1) := by decide +kernel
theorem dX5_odds_41 : decode cX5_odds 41 = .ok (.istore 4, 2) := by decide +kernel
theorem dX5_odds_43 : decode cX5_odds 43 = .ok (.iload_n 1, 1) := by decide +kernel
theorem dX5_odds_44 : decode cX5_odds 44 = .ok (.iload_n 2, 1) := by decide +kernel
theorem dX5_odds_45 : decode cX5_odds 45 = .ok (.invokestatic 238, 3) := by decide +kernel
theorem dX5_odds_48 : decode cX5_odds 48 = .ok (.lstore 5, 2) := by decide +kernel
theorem dX5_odds_50 : decode cX5_odds 50 = .ok (.lconst 1, 1) := by decide +kernel
theorem dX5_odds_51 : decode cX5_odds 51 = .ok (.lstore 7, 2) := by decide +kernel
theorem dX5_odds_53 : decode cX5_odds 53 = .ok (.iconst 0, 1) := by decide +kernel
theorem dX5_odds_54 : decode cX5_odds 54 = .ok (.istore 9, 2) := by decide +kernel
theorem dX5_odds_56 : decode cX5_odds 56 = .ok (.iload 9, 2) := by decide +kernel
theorem dX5_odds_58 : decode cX5_odds 58 = .ok (.iload_n 1, 1) := by decide +kernel
theorem dX5_odds_59 : decode cX5_odds 59 = .ok (.if_icmp .ge 40, 3) := by decide +kernel
theorem dX5_odds_62 : decode cX5_odds 62 = .ok (.lload 5, 2) := by decide +kernel
theorem dX5_odds_64 : decode cX5_odds 64 = .ok (.iload 9, 2) := by decide +kernel
theorem dX5_odds_66 : decode cX5_odds 66 = .ok (.iload_n 2, 1) := by decide +kernel
theorem dX5_odds_67 : decode cX5_odds 67 = .ok (.if_icmp .ge 9, 3) := by decide +kernel
theorem dX5_odds_70 : decode cX5_odds 70 = .ok (.iload 4, 2) := by decide +kernel
theorem dX5_odds_72 : decode cX5_odds 72 = .ok (.i2l, 1) := by decide +kernel
theorem dX5_odds_73 : decode cX5_odds 73 = .ok (.goto 9, 3) := by decide +kernel
theorem dX5_odds_76 : decode cX5_odds 76 = .ok (.bipush 100, 2) := by decide +kernel
theorem dX5_odds_78 : decode cX5_odds 78 = .ok (.iload 4, 2) := by decide +kernel
theorem dX5_odds_80 : decode cX5_odds 80 = .ok (.isub, 1) := by decide +kernel
theorem dX5_odds_81 : decode cX5_odds 81 = .ok (.i2l, 1) := by decide +kernel
theorem dX5_odds_82 : decode cX5_odds 82 = .ok (.lmul, 1) := by decide +kernel
theorem dX5_odds_83 : decode cX5_odds 83 = .ok (.lstore 5, 2) := by decide +kernel
theorem dX5_odds_85 : decode cX5_odds 85 = .ok (.lload 7, 2) := by decide +kernel
theorem dX5_odds_87 : decode cX5_odds 87 = .ok (.ldc2_w 242, 3) := by decide +kernel
theorem dX5_odds_90 : decode cX5_odds 90 = .ok (.lmul, 1) := by decide +kernel
theorem dX5_odds_91 : decode cX5_odds 91 = .ok (.lstore 7, 2) := by decide +kernel
theorem dX5_odds_93 : decode cX5_odds 93 = .ok (.iinc 9 1, 3) := by decide +kernel
theorem dX5_odds_96 : decode cX5_odds 96 = .ok (.goto (-40), 3) := by decide +kernel
theorem dX5_odds_99 : decode cX5_odds 99 = .ok (.lload 5, 2) := by decide +kernel
theorem dX5_odds_101 : decode cX5_odds 101 = .ok (.lload 7, 2) := by decide +kernel
theorem dX5_odds_103 : decode cX5_odds 103 = .ok (.iload_n 3, 1) := by decide +kernel
theorem dX5_odds_104 : decode cX5_odds 104 = .ok (.invokestatic 244, 3) := by decide +kernel
theorem dX5_odds_107 : decode cX5_odds 107 = .ok (.lreturn, 1) := by decide +kernel
def pc_X5_odds (i : Nat) : Nat := ([0, 10, 19, 28, 32, 56, 62, 70, 76, 82, 99] : List Nat).getD i 0
set_option maxRecDepth 20000 in
theorem ob_X5_odds_0 {x : ip_Cx} {G : ip_Gl} {d : Nat} (X : ip_X x G tb 10 d 0 0 RX5 cX5_odds) (hr : x.2.2.2.2.2.2.2.2.1.sig.returnType = (some .long)) (hnm : x.2.2.2.2.2.2.2.2.1.name = "odds") : ip_okB x G 10 pc_X5_odds 0 ([oLdI 1, oI (0), oI (8), oCal (ip_call tb d) 0 0 95 3 0 0], tIf (fun a => a = 0) 3 1) := ⟨_, okC (ok_ildn X rfl dX5_odds_0)
  (okC (ok_ic X (by decide) dX5_odds_1)
  (okC (ok_bi X (by decide) dX5_odds_2)
  (okC (ok_calS X (i := 67) (e := en_95) rfl mt_95 rfl rfl rfl tw_239 tw_240 dX5_odds_4)
  (okN)))), ok_ifeq X (by decide) rfl dX5_odds_7⟩
set_option maxRecDepth 20000 in
theorem ob_X5_odds_1 {x : ip_Cx} {G : ip_Gl} {d : Nat} (X : ip_X x G tb 10 d 0 0 RX5 cX5_odds) (hr : x.2.2.2.2.2.2.2.2.1.sig.returnType = (some .long)) (hnm : x.2.2.2.2.2.2.2.2.1.name = "odds") : ip_okB x G 10 pc_X5_odds 10 ([oLdI 2, oI (0), oLdI 1, oCal (ip_call tb d) 0 0 95 3 0 0], tIf (fun a => a = 0) 3 2) := ⟨_, okC (ok_ildn X rfl dX5_odds_10)
  (okC (ok_ic X (by decide) dX5_odds_11)
  (okC (ok_ildn X rfl dX5_odds_12)
  (okC (ok_calS X (i := 67) (e := en_95) rfl mt_95 rfl rfl rfl tw_239 tw_240 dX5_odds_13)
  (okN)))), ok_ifeq X (by decide) rfl dX5_odds_16⟩
set_option maxRecDepth 20000 in
theorem ob_X5_odds_2 {x : ip_Cx} {G : ip_Gl} {d : Nat} (X : ip_X x G tb 10 d 0 0 RX5 cX5_odds) (hr : x.2.2.2.2.2.2.2.2.1.sig.returnType = (some .long)) (hnm : x.2.2.2.2.2.2.2.2.1.name = "odds") : ip_okB x G 10 pc_X5_odds 19 ([oLdI 3, oI (0), oI (1), oCal (ip_call tb d) 0 0 95 3 0 0], tIf (fun a => a = 0) 3 4) := ⟨_, okC (ok_ildn X rfl dX5_odds_19)
  (okC (ok_ic X (by decide) dX5_odds_20)
  (okC (ok_ic X (by decide) dX5_odds_21)
  (okC (ok_calS X (i := 67) (e := en_95) rfl mt_95 rfl rfl rfl tw_239 tw_240 dX5_odds_22)
  (okN)))), ok_ifne X (by decide) rfl dX5_odds_25⟩
set_option maxRecDepth 20000 in
theorem ob_X5_odds_3 {x : ip_Cx} {G : ip_Gl} {d : Nat} (X : ip_X x G tb 10 d 0 0 RX5 cX5_odds) (hr : x.2.2.2.2.2.2.2.2.1.sig.returnType = (some .long)) (hnm : x.2.2.2.2.2.2.2.2.1.name = "odds") : ip_okB x G 10 pc_X5_odds 28 ([oL (-1)], tRL 0 0) := ⟨_, okC (ok_ldc2 X tw_640 dX5_odds_28)
  (okN), ok_lret X hr dX5_odds_31⟩
set_option maxRecDepth 20000 in
theorem ob_X5_odds_4 {x : ip_Cx} {G : ip_Gl} {d : Nat} (X : ip_X x G tb 10 d 0 0 RX5 cX5_odds) (hr : x.2.2.2.2.2.2.2.2.1.sig.returnType = (some .long)) (hnm : x.2.2.2.2.2.2.2.2.1.name = "odds") : ip_okB x G 10 pc_X5_odds 32 ([oLdA 0, oGet 5 0, oGet 1 0, oI (3), oAldI, oStI 4, oLdI 1, oLdI 2, oCal (ip_call tb d) 0 0 115 2 0 0, oStL 5, oL 1, oStL 7, oI (0), oStI 9], tGo 5) := ⟨_, okC (ok_aldn X rfl dX5_odds_32)
  (okC (ok_get X (ci := 5) rfl (by decide) iw_X5 tw_198 dX5_odds_33)
  (okC (ok_get X (ci := 1) rfl (by decide) iw_X1 tw_40 dX5_odds_36)
  (okC (ok_ic X (by decide) dX5_odds_39)
  (okC (ok_iald X dX5_odds_40)
  (okC (ok_ist X (by decide) dX5_odds_41)
  (okC (ok_ildn X rfl dX5_odds_43)
  (okC (ok_ildn X rfl dX5_odds_44)
  (okC (ok_calS X (i := 238) (e := en_115) rfl mt_115 rfl rfl rfl tw_641 tw_642 dX5_odds_45)
  (okC (ok_lst X (by decide) dX5_odds_48)
  (okC (ok_lc X (by decide) dX5_odds_50)
  (okC (ok_lst X (by decide) dX5_odds_51)
  (okC (ok_ic X (by decide) dX5_odds_53)
  (okC (ok_ist X (by decide) dX5_odds_54)
  (okN)))))))))))))), ok_fall rfl⟩
set_option maxRecDepth 20000 in
theorem ob_X5_odds_5 {x : ip_Cx} {G : ip_Gl} {d : Nat} (X : ip_X x G tb 10 d 0 0 RX5 cX5_odds) (hr : x.2.2.2.2.2.2.2.2.1.sig.returnType = (some .long)) (hnm : x.2.2.2.2.2.2.2.2.1.name = "odds") : ip_okB x G 10 pc_X5_odds 56 ([oLdI 9, oLdI 1], tCm (fun a b => a < b) 6 10) := ⟨_, okC (ok_ild X dX5_odds_56)
  (okC (ok_ildn X rfl dX5_odds_58)
  (okN)), ok_cmge X (by decide) rfl dX5_odds_59⟩
set_option maxRecDepth 20000 in
theorem ob_X5_odds_6 {x : ip_Cx} {G : ip_Gl} {d : Nat} (X : ip_X x G tb 10 d 0 0 RX5 cX5_odds) (hr : x.2.2.2.2.2.2.2.2.1.sig.returnType = (some .long)) (hnm : x.2.2.2.2.2.2.2.2.1.name = "odds") : ip_okB x G 10 pc_X5_odds 62 ([oLdL 5, oLdI 9, oLdI 2], tCm (fun a b => a < b) 7 8) := ⟨_, okC (ok_lld X dX5_odds_62)
  (okC (ok_ild X dX5_odds_64)
  (okC (ok_ildn X rfl dX5_odds_66)
  (okN))), ok_cmge X (by decide) rfl dX5_odds_67⟩
set_option maxRecDepth 20000 in
theorem ob_X5_odds_7 {x : ip_Cx} {G : ip_Gl} {d : Nat} (X : ip_X x G tb 10 d 0 0 RX5 cX5_odds) (hr : x.2.2.2.2.2.2.2.2.1.sig.returnType = (some .long)) (hnm : x.2.2.2.2.2.2.2.2.1.name = "odds") : ip_okB x G 10 pc_X5_odds 70 ([oLdI 4, oIL], tGo 9) := ⟨_, okC (ok_ild X dX5_odds_70)
  (okC (ok_i2l X dX5_odds_72)
  (okN)), ok_go X (by decide) dX5_odds_73⟩
set_option maxRecDepth 20000 in
theorem ob_X5_odds_8 {x : ip_Cx} {G : ip_Gl} {d : Nat} (X : ip_X x G tb 10 d 0 0 RX5 cX5_odds) (hr : x.2.2.2.2.2.2.2.2.1.sig.returnType = (some .long)) (hnm : x.2.2.2.2.2.2.2.2.1.name = "odds") : ip_okB x G 10 pc_X5_odds 76 ([oI (100), oLdI 4, oBI (fun a b => a - b), oIL], tGo 9) := ⟨_, okC (ok_bi X (by decide) dX5_odds_76)
  (okC (ok_ild X dX5_odds_78)
  (okC (ok_isub X dX5_odds_80)
  (okC (ok_i2l X dX5_odds_81)
  (okN)))), ok_fall rfl⟩
set_option maxRecDepth 20000 in
theorem ob_X5_odds_9 {x : ip_Cx} {G : ip_Gl} {d : Nat} (X : ip_X x G tb 10 d 0 0 RX5 cX5_odds) (hr : x.2.2.2.2.2.2.2.2.1.sig.returnType = (some .long)) (hnm : x.2.2.2.2.2.2.2.2.1.name = "odds") : ip_okB x G 10 pc_X5_odds 82 ([oBL (fun a b => a * b), oStL 5, oLdL 7, oL (100), oBL (fun a b => a * b), oStL 7, oInc 9 (1)], tGo 5) := ⟨_, okC (ok_lmul X dX5_odds_82)
  (okC (ok_lst X (by decide) dX5_odds_83)
  (okC (ok_lld X dX5_odds_85)
  (okC (ok_ldc2 X tw_644 dX5_odds_87)
  (okC (ok_lmul X dX5_odds_90)
  (okC (ok_lst X (by decide) dX5_odds_91)
  (okC (ok_inc X (by decide) dX5_odds_93)
  (okN))))))), ok_go X (by decide) dX5_odds_96⟩
set_option maxRecDepth 20000 in
theorem ob_X5_odds_10 {x : ip_Cx} {G : ip_Gl} {d : Nat} (X : ip_X x G tb 10 d 0 0 RX5 cX5_odds) (hr : x.2.2.2.2.2.2.2.2.1.sig.returnType = (some .long)) (hnm : x.2.2.2.2.2.2.2.2.1.name = "odds") : ip_okB x G 10 pc_X5_odds 99 ([oLdL 5, oLdL 7, oLdI 3, oCal (ip_call tb d) 0 0 116 3 0 0], tRL 0 0) := ⟨_, okC (ok_lld X dX5_odds_99)
  (okC (ok_lld X dX5_odds_101)
  (okC (ok_ildn X rfl dX5_odds_103)
  (okC (ok_calS X (i := 244) (e := en_116) rfl mt_116 rfl rfl rfl tw_645 tw_646 dX5_odds_104)
  (okN)))), ok_lret X hr dX5_odds_107⟩
theorem om_78 : ip_MOk tb en_78 pc_X5_odds := fun x G d X hr hnm => ⟨ob_X5_odds_0 X hr hnm, ⟨ob_X5_odds_1 X hr hnm, ⟨ob_X5_odds_2 X hr hnm, ⟨ob_X5_odds_3 X hr hnm, ⟨ob_X5_odds_4 X hr hnm, ⟨ob_X5_odds_5 X hr hnm, ⟨ob_X5_odds_6 X hr hnm, ⟨ob_X5_odds_7 X hr hnm, ⟨ob_X5_odds_8 X hr hnm, ⟨ob_X5_odds_9 X hr hnm, ⟨ob_X5_odds_10 X hr hnm, trivial⟩⟩⟩⟩⟩⟩⟩⟩⟩⟩⟩
theorem dX5_hope_0 : decode cX5_hope 0 = .ok (.iload_n 1, 1) := by decide +kernel
theorem dX5_hope_1 : decode cX5_hope 1 = .ok (.iconst 0, 1) := by decide +kernel
theorem dX5_hope_2 : decode cX5_hope 2 = .ok (.bipush 99, 2) := by decide +kernel
theorem dX5_hope_4 : decode cX5_hope 4 = .ok (.invokestatic 67, 3) := by decide +kernel
theorem dX5_hope_7 : decode cX5_hope 7 = .ok (.ifCond .eq 12, 3) := by decide +kernel
theorem dX5_hope_10 : decode cX5_hope 10 = .ok (.iload_n 2, 1) := by decide +kernel
theorem dX5_hope_11 : decode cX5_hope 11 = .ok (.iconst 0, 1) := by decide +kernel
theorem dX5_hope_12 : decode cX5_hope 12 = .ok (.iconst 1, 1) := by decide +kernel
theorem dX5_hope_13 : decode cX5_hope 13 = .ok (.invokestatic 67, 3) := by decide +kernel
theorem dX5_hope_16 : decode cX5_hope 16 = .ok (.ifCond .ne 7, 3) := by decide +kernel
theorem dX5_hope_19 : decode cX5_hope 19 = .ok (.ldc2_w 236, 3) := by decide +kernel
theorem dX5_hope_22 : decode cX5_hope 22 = .ok (.lreturn, 1) := by decide +kernel
theorem dX5_hope_23 : decode cX5_hope 23 = .ok (.iload_n 1, 1) := by decide +kernel
theorem dX5_hope_24 : decode cX5_hope 24 = .ok (.i2l, 1) := by decide +kernel
theorem dX5_hope_25 : decode cX5_hope 25 = .ok (.aload_n 0, 1) := by decide +kernel
theorem dX5_hope_26 : decode cX5_hope 26 = .ok (.getfield 10, 3) := by decide +kernel
theorem dX5_hope_29 : decode cX5_hope 29 = .ok (.getfield 98, 3) := by decide +kernel
theorem dX5_hope_32 : decode cX5_hope 32 = .ok (.iconst 3, 1) := by decide +kernel
theorem dX5_hope_33 : decode cX5_hope 33 = .ok (.iaload, 1) := by decide +kernel
theorem dX5_hope_34 : decode cX5_hope 34 = .ok (.i2l, 1) := by decide +kernel
theorem dX5_hope_35 : decode cX5_hope 35 = .ok (.lmul, 1) := by decide +kernel
theorem dX5_hope_36 : decode cX5_hope 36 = .ok (.ldc2_w 242, 3) := by decide +kernel
theorem dX5_hope_39 : decode cX5_hope 39 = .ok (.iload_n 2, 1) := by decide +kernel
theorem dX5_hope_40 : decode cX5_hope 40 = .ok (.invokestatic 244, 3) := by decide +kernel
theorem dX5_hope_43 : decode cX5_hope 43 = .ok (.lreturn, 1) := by decide +kernel
def pc_X5_hope (i : Nat) : Nat := ([0, 10, 19, 23] : List Nat).getD i 0
set_option maxRecDepth 20000 in
theorem ob_X5_hope_0 {x : ip_Cx} {G : ip_Gl} {d : Nat} (X : ip_X x G tb 3 d 0 0 RX5 cX5_hope) (hr : x.2.2.2.2.2.2.2.2.1.sig.returnType = (some .long)) (hnm : x.2.2.2.2.2.2.2.2.1.name = "hope") : ip_okB x G 3 pc_X5_hope 0 ([oLdI 1, oI (0), oI (99), oCal (ip_call tb d) 0 0 95 3 0 0], tIf (fun a => a = 0) 2 1) := ⟨_, okC (ok_ildn X rfl dX5_hope_0)
  (okC (ok_ic X (by decide) dX5_hope_1)
  (okC (ok_bi X (by decide) dX5_hope_2)
  (okC (ok_calS X (i := 67) (e := en_95) rfl mt_95 rfl rfl rfl tw_239 tw_240 dX5_hope_4)
  (okN)))), ok_ifeq X (by decide) rfl dX5_hope_7⟩
set_option maxRecDepth 20000 in
theorem ob_X5_hope_1 {x : ip_Cx} {G : ip_Gl} {d : Nat} (X : ip_X x G tb 3 d 0 0 RX5 cX5_hope) (hr : x.2.2.2.2.2.2.2.2.1.sig.returnType = (some .long)) (hnm : x.2.2.2.2.2.2.2.2.1.name = "hope") : ip_okB x G 3 pc_X5_hope 10 ([oLdI 2, oI (0), oI (1), oCal (ip_call tb d) 0 0 95 3 0 0], tIf (fun a => a = 0) 2 3) := ⟨_, okC (ok_ildn X rfl dX5_hope_10)
  (okC (ok_ic X (by decide) dX5_hope_11)
  (okC (ok_ic X (by decide) dX5_hope_12)
  (okC (ok_calS X (i := 67) (e := en_95) rfl mt_95 rfl rfl rfl tw_239 tw_240 dX5_hope_13)
  (okN)))), ok_ifne X (by decide) rfl dX5_hope_16⟩
set_option maxRecDepth 20000 in
theorem ob_X5_hope_2 {x : ip_Cx} {G : ip_Gl} {d : Nat} (X : ip_X x G tb 3 d 0 0 RX5 cX5_hope) (hr : x.2.2.2.2.2.2.2.2.1.sig.returnType = (some .long)) (hnm : x.2.2.2.2.2.2.2.2.1.name = "hope") : ip_okB x G 3 pc_X5_hope 19 ([oL (-1)], tRL 0 0) := ⟨_, okC (ok_ldc2 X tw_640 dX5_hope_19)
  (okN), ok_lret X hr dX5_hope_22⟩
set_option maxRecDepth 20000 in
theorem ob_X5_hope_3 {x : ip_Cx} {G : ip_Gl} {d : Nat} (X : ip_X x G tb 3 d 0 0 RX5 cX5_hope) (hr : x.2.2.2.2.2.2.2.2.1.sig.returnType = (some .long)) (hnm : x.2.2.2.2.2.2.2.2.1.name = "hope") : ip_okB x G 3 pc_X5_hope 23 ([oLdI 1, oIL, oLdA 0, oGet 5 0, oGet 1 0, oI (3), oAldI, oIL, oBL (fun a b => a * b), oL (100), oLdI 2, oCal (ip_call tb d) 0 0 116 3 0 0], tRL 0 0) := ⟨_, okC (ok_ildn X rfl dX5_hope_23)
  (okC (ok_i2l X dX5_hope_24)
  (okC (ok_aldn X rfl dX5_hope_25)
  (okC (ok_get X (ci := 5) rfl (by decide) iw_X5 tw_198 dX5_hope_26)
  (okC (ok_get X (ci := 1) rfl (by decide) iw_X1 tw_40 dX5_hope_29)
  (okC (ok_ic X (by decide) dX5_hope_32)
  (okC (ok_iald X dX5_hope_33)
  (okC (ok_i2l X dX5_hope_34)
  (okC (ok_lmul X dX5_hope_35)
  (okC (ok_ldc2 X tw_644 dX5_hope_36)
  (okC (ok_ildn X rfl dX5_hope_39)
  (okC (ok_calS X (i := 244) (e := en_116) rfl mt_116 rfl rfl rfl tw_645 tw_646 dX5_hope_40)
  (okN)))))))))))), ok_lret X hr dX5_hope_43⟩
theorem om_79 : ip_MOk tb en_79 pc_X5_hope := fun x G d X hr hnm => ⟨ob_X5_hope_0 X hr hnm, ⟨ob_X5_hope_1 X hr hnm, ⟨ob_X5_hope_2 X hr hnm, ⟨ob_X5_hope_3 X hr hnm, trivial⟩⟩⟩⟩
theorem dX5_prove_0 : decode cX5_prove 0 = .ok (.aload_n 0, 1) := by decide +kernel
theorem dX5_prove_1 : decode cX5_prove 1 = .ok (.iload_n 1, 1) := by decide +kernel
theorem dX5_prove_2 : decode cX5_prove 2 = .ok (.invokevirtual 119, 3) := by decide +kernel
theorem dX5_prove_5 : decode cX5_prove 5 = .ok (.ifCond .eq 13, 3) := by decide +kernel
theorem dX5_prove_8 : decode cX5_prove 8 = .ok (.iload_n 2, 1) := by decide +kernel
theorem dX5_prove_9 : decode cX5_prove 9 = .ok (.iconst 1, 1) := by decide +kernel
theorem dX5_prove_10 : decode cX5_prove 10 = .ok (.bipush 10, 2) := by decide +kernel
theorem dX5_prove_12 : decode cX5_prove 12 = .ok (.invokestatic 67, 3) := by decide +kernel
theorem dX5_prove_15 : decode cX5_prove 15 = .ok (.ifCond .ne 5, 3) := by decide +kernel
theorem dX5_prove_18 : decode cX5_prove 18 = .ok (.iconst (-1), 1) := by decide +kernel
theorem dX5_prove_19 : decode cX5_prove 19 = .ok (.ireturn, 1) := by decide +kernel
theorem dX5_prove_20 : decode cX5_prove 20 = .ok (.aload_n 0, 1) := by decide +kernel
theorem dX5_prove_21 : decode cX5_prove 21 = .ok (.getfield 16, 3) := by decide +kernel
theorem dX5_prove_24 : decode cX5_prove 24 = .ok (.aload_n 0, 1) := by decide +kernel
theorem dX5_prove_25 : decode cX5_prove 25 = .ok (.getfield 10, 3) := by decide +kernel
theorem dX5_prove_28 : decode cX5_prove 28 = .ok (.invokevirtual 88, 3) := by decide +kernel
theorem dX5_prove_31 : decode cX5_prove 31 = .ok (.iconst 0, 1) := by decide +kernel
theorem dX5_prove_32 : decode cX5_prove 32 = .ok (.istore_n 3, 1) := by decide +kernel
theorem dX5_prove_33 : decode cX5_prove 33 = .ok (.iload_n 3, 1) := by decide +kernel
theorem dX5_prove_34 : decode cX5_prove 34 = .ok (.iload_n 2, 1) := by decide +kernel
theorem dX5_prove_35 : decode cX5_prove 35 = .ok (.if_icmp .ge 56, 3) := by decide +kernel
theorem dX5_prove_38 : decode cX5_prove 38 = .ok (.aload_n 0, 1) := by decide +kernel
theorem dX5_prove_39 : decode cX5_prove 39 = .ok (.getfield 16, 3) := by decide +kernel
theorem dX5_prove_42 : decode cX5_prove 42 = .ok (.aload_n 0, 1) := by decide +kernel
theorem dX5_prove_43 : decode cX5_prove 43 = .ok (.getfield 29, 3) := by decide +kernel
theorem dX5_prove_46 : decode cX5_prove 46 = .ok (.invokevirtual 164, 3) := by decide +kernel
theorem dX5_prove_49 : decode cX5_prove 49 = .ok (.iconst 0, 1) := by decide +kernel
theorem dX5_prove_50 : decode cX5_prove 50 = .ok (.istore 4, 2) := by decide +kernel
theorem dX5_prove_52 : decode cX5_prove 52 = .ok (.iload 4, 2) := by decide +kernel
theorem dX5_prove_54 : decode cX5_prove 54 = .ok (.iconst 3, 1) := by decide +kernel
theorem dX5_prove_55 : decode cX5_prove 55 = .ok (.if_icmp .ge 30, 3) := by decide +kernel
theorem dX5_prove_58 : decode cX5_prove 58 = .ok (.aload_n 0, 1) := by decide +kernel
theorem dX5_prove_59 : decode cX5_prove 59 = .ok (.getfield 47, 3) := by decide +kernel
theorem dX5_prove_62 : decode cX5_prove 62 = .ok (.iload_n 3, 1) := by decide +kernel
theorem dX5_prove_63 : decode cX5_prove 63 = .ok (.iconst 3, 1) := by decide +kernel
theorem dX5_prove_64 : decode cX5_prove 64 = .ok (.imul, 1) := by decide +kernel
theorem dX5_prove_65 : decode cX5_prove 65 = .ok (.iload 4, 2) := by decide +kernel
theorem dX5_prove_67 : decode cX5_prove 67 = .ok (.iadd, 1) := by decide +kernel
theorem dX5_prove_68 : decode cX5_prove 68 = .ok (.aload_n 0, 1) := by decide +kernel
theorem dX5_prove_69 : decode cX5_prove 69 = .ok (.getfield 16, 3) := by decide +kernel
theorem dX5_prove_72 : decode cX5_prove 72 = .ok (.iload_n 1, 1) := by decide +kernel
theorem dX5_prove_73 : decode cX5_prove 73 = .ok (.iload 4, 2) := by decide +kernel
theorem dX5_prove_75 : decode cX5_prove 75 = .ok (.invokevirtual 248, 3) := by decide +kernel
theorem dX5_prove_78 : decode cX5_prove 78 = .ok (.iastore, 1) := by decide +kernel
theorem dX5_prove_79 : decode cX5_prove 79 = .ok (.iinc 4 1, 3) := by decide +kernel
theorem dX5_prove_82 : decode cX5_prove 82 = .ok (.goto (-30), 3) := by decide +kernel
theorem dX5_prove_85 : decode cX5_prove 85 = .ok (.iinc 3 1, 3) := by decide +kernel
theorem dX5_prove_88 : decode cX5_prove 88 = .ok (.goto (-55), 3) := by decide +kernel
theorem dX5_prove_91 : decode cX5_prove 91 = .ok (.aload_n 0, 1) := by decide +kernel
theorem dX5_prove_92 : decode cX5_prove 92 = .ok (.iload_n 2, 1) := by decide +kernel
theorem dX5_prove_93 : decode cX5_prove 93 = .ok (.putfield 51, 3) := by decide +kernel
theorem dX5_prove_96 : decode cX5_prove 96 = .ok (.iload_n 2, 1) := by decide +kernel
theorem dX5_prove_97 : decode cX5_prove 97 = .ok (.ireturn, 1) := by decide +kernel
def pc_X5_prove (i : Nat) : Nat := ([0, 8, 18, 20, 33, 38, 52, 58, 85, 91] : List Nat).getD i 0
set_option maxRecDepth 20000 in
theorem ob_X5_prove_0 {x : ip_Cx} {G : ip_Gl} {d : Nat} (X : ip_X x G tb 5 d 0 0 RX5 cX5_prove) (hr : x.2.2.2.2.2.2.2.2.1.sig.returnType = (some .int)) (hnm : x.2.2.2.2.2.2.2.2.1.name = "prove") : ip_okB x G 5 pc_X5_prove 0 ([oLdA 0, oLdI 1, oCaV (ip_call tb d) 0 0 5 102 2 0 0], tIf (fun a => a = 0) 2 1) := ⟨_, okC (ok_aldn X rfl dX5_prove_0)
  (okC (ok_ildn X rfl dX5_prove_1)
  (okC (ok_calV X (i := 119) (e := en_102) rfl mt_102 rfl rfl rfl tw_409 tw_411 (Or.inl ⟨_, _, rfl⟩) tp_0 dX5_prove_2)
  (okN))), ok_ifeq X (by decide) rfl dX5_prove_5⟩
set_option maxRecDepth 20000 in
theorem ob_X5_prove_1 {x : ip_Cx} {G : ip_Gl} {d : Nat} (X : ip_X x G tb 5 d 0 0 RX5 cX5_prove) (hr : x.2.2.2.2.2.2.2.2.1.sig.returnType = (some .int)) (hnm : x.2.2.2.2.2.2.2.2.1.name = "prove") : ip_okB x G 5 pc_X5_prove 8 ([oLdI 2, oI (1), oI (10), oCal (ip_call tb d) 0 0 95 3 0 0], tIf (fun a => a = 0) 2 3) := ⟨_, okC (ok_ildn X rfl dX5_prove_8)
  (okC (ok_ic X (by decide) dX5_prove_9)
  (okC (ok_bi X (by decide) dX5_prove_10)
  (okC (ok_calS X (i := 67) (e := en_95) rfl mt_95 rfl rfl rfl tw_239 tw_240 dX5_prove_12)
  (okN)))), ok_ifne X (by decide) rfl dX5_prove_15⟩
set_option maxRecDepth 20000 in
theorem ob_X5_prove_2 {x : ip_Cx} {G : ip_Gl} {d : Nat} (X : ip_X x G tb 5 d 0 0 RX5 cX5_prove) (hr : x.2.2.2.2.2.2.2.2.1.sig.returnType = (some .int)) (hnm : x.2.2.2.2.2.2.2.2.1.name = "prove") : ip_okB x G 5 pc_X5_prove 18 ([oI (-1)], tRI .int 0 0) := ⟨_, okC (ok_ic X (by decide) dX5_prove_18)
  (okN), ok_ret X hr dX5_prove_19⟩
set_option maxRecDepth 20000 in
theorem ob_X5_prove_3 {x : ip_Cx} {G : ip_Gl} {d : Nat} (X : ip_X x G tb 5 d 0 0 RX5 cX5_prove) (hr : x.2.2.2.2.2.2.2.2.1.sig.returnType = (some .int)) (hnm : x.2.2.2.2.2.2.2.2.1.name = "prove") : ip_okB x G 5 pc_X5_prove 20 ([oLdA 0, oGet 5 1, oLdA 0, oGet 5 0, oCaV (ip_call tb d) 0 0 1 9 2 0 0, oI (0), oStI 3], tGo 4) := ⟨_, okC (ok_aldn X rfl dX5_prove_20)
  (okC (ok_get X (ci := 5) rfl (by decide) iw_X5 tw_199 dX5_prove_21)
  (okC (ok_aldn X rfl dX5_prove_24)
  (okC (ok_get X (ci := 5) rfl (by decide) iw_X5 tw_198 dX5_prove_25)
  (okC (ok_calV X (i := 88) (e := en_9) rfl mt_9 rfl rfl rfl tw_374 tw_375 (Or.inl ⟨_, _, rfl⟩) tw_376 dX5_prove_28)
  (okC (ok_ic X (by decide) dX5_prove_31)
  (okC (ok_istn X rfl (by decide) dX5_prove_32)
  (okN))))))), ok_fall rfl⟩
set_option maxRecDepth 20000 in
theorem ob_X5_prove_4 {x : ip_Cx} {G : ip_Gl} {d : Nat} (X : ip_X x G tb 5 d 0 0 RX5 cX5_prove) (hr : x.2.2.2.2.2.2.2.2.1.sig.returnType = (some .int)) (hnm : x.2.2.2.2.2.2.2.2.1.name = "prove") : ip_okB x G 5 pc_X5_prove 33 ([oLdI 3, oLdI 2], tCm (fun a b => a < b) 5 9) := ⟨_, okC (ok_ildn X rfl dX5_prove_33)
  (okC (ok_ildn X rfl dX5_prove_34)
  (okN)), ok_cmge X (by decide) rfl dX5_prove_35⟩
set_option maxRecDepth 20000 in
theorem ob_X5_prove_5 {x : ip_Cx} {G : ip_Gl} {d : Nat} (X : ip_X x G tb 5 d 0 0 RX5 cX5_prove) (hr : x.2.2.2.2.2.2.2.2.1.sig.returnType = (some .int)) (hnm : x.2.2.2.2.2.2.2.2.1.name = "prove") : ip_okB x G 5 pc_X5_prove 38 ([oLdA 0, oGet 5 1, oLdA 0, oGet 5 4, oCaV (ip_call tb d) 0 0 1 13 2 0 0, oI (0), oStI 4], tGo 6) := ⟨_, okC (ok_aldn X rfl dX5_prove_38)
  (okC (ok_get X (ci := 5) rfl (by decide) iw_X5 tw_199 dX5_prove_39)
  (okC (ok_aldn X rfl dX5_prove_42)
  (okC (ok_get X (ci := 5) rfl (by decide) iw_X5 tw_202 dX5_prove_43)
  (okC (ok_calV X (i := 164) (e := en_13) rfl mt_13 rfl rfl rfl tw_486 tw_487 (Or.inl ⟨_, _, rfl⟩) tw_488 dX5_prove_46)
  (okC (ok_ic X (by decide) dX5_prove_49)
  (okC (ok_ist X (by decide) dX5_prove_50)
  (okN))))))), ok_fall rfl⟩
set_option maxRecDepth 20000 in
theorem ob_X5_prove_6 {x : ip_Cx} {G : ip_Gl} {d : Nat} (X : ip_X x G tb 5 d 0 0 RX5 cX5_prove) (hr : x.2.2.2.2.2.2.2.2.1.sig.returnType = (some .int)) (hnm : x.2.2.2.2.2.2.2.2.1.name = "prove") : ip_okB x G 5 pc_X5_prove 52 ([oLdI 4, oI (3)], tCm (fun a b => a < b) 7 8) := ⟨_, okC (ok_ild X dX5_prove_52)
  (okC (ok_ic X (by decide) dX5_prove_54)
  (okN)), ok_cmge X (by decide) rfl dX5_prove_55⟩
set_option maxRecDepth 20000 in
theorem ob_X5_prove_7 {x : ip_Cx} {G : ip_Gl} {d : Nat} (X : ip_X x G tb 5 d 0 0 RX5 cX5_prove) (hr : x.2.2.2.2.2.2.2.2.1.sig.returnType = (some .int)) (hnm : x.2.2.2.2.2.2.2.2.1.name = "prove") : ip_okB x G 5 pc_X5_prove 58 ([oLdA 0, oGet 5 7, oLdI 3, oI (3), oBI (fun a b => a * b), oLdI 4, oBI (fun a b => a + b), oLdA 0, oGet 5 1, oLdI 1, oLdI 4, oCaV (ip_call tb d) 0 0 1 19 3 0 0, oAstI, oInc 4 (1)], tGo 6) := ⟨_, okC (ok_aldn X rfl dX5_prove_58)
  (okC (ok_get X (ci := 5) rfl (by decide) iw_X5 tw_205 dX5_prove_59)
  (okC (ok_ildn X rfl dX5_prove_62)
  (okC (ok_ic X (by decide) dX5_prove_63)
  (okC (ok_imul X dX5_prove_64)
  (okC (ok_ild X dX5_prove_65)
  (okC (ok_iadd X dX5_prove_67)
  (okC (ok_aldn X rfl dX5_prove_68)
  (okC (ok_get X (ci := 5) rfl (by decide) iw_X5 tw_199 dX5_prove_69)
  (okC (ok_ildn X rfl dX5_prove_72)
  (okC (ok_ild X dX5_prove_73)
  (okC (ok_calV X (i := 248) (e := en_19) rfl mt_19 rfl rfl rfl tw_659 tw_660 (Or.inl ⟨_, _, rfl⟩) tw_661 dX5_prove_75)
  (okC (ok_iast X dX5_prove_78)
  (okC (ok_inc X (by decide) dX5_prove_79)
  (okN)))))))))))))), ok_go X (by decide) dX5_prove_82⟩
set_option maxRecDepth 20000 in
theorem ob_X5_prove_8 {x : ip_Cx} {G : ip_Gl} {d : Nat} (X : ip_X x G tb 5 d 0 0 RX5 cX5_prove) (hr : x.2.2.2.2.2.2.2.2.1.sig.returnType = (some .int)) (hnm : x.2.2.2.2.2.2.2.2.1.name = "prove") : ip_okB x G 5 pc_X5_prove 85 ([oInc 3 (1)], tGo 4) := ⟨_, okC (ok_inc X (by decide) dX5_prove_85)
  (okN), ok_go X (by decide) dX5_prove_88⟩
set_option maxRecDepth 20000 in
theorem ob_X5_prove_9 {x : ip_Cx} {G : ip_Gl} {d : Nat} (X : ip_X x G tb 5 d 0 0 RX5 cX5_prove) (hr : x.2.2.2.2.2.2.2.2.1.sig.returnType = (some .int)) (hnm : x.2.2.2.2.2.2.2.2.1.name = "prove") : ip_okB x G 5 pc_X5_prove 91 ([oLdA 0, oLdI 2, oPut 5 8 .int, oLdI 2], tRI .int 0 0) := ⟨_, okC (ok_aldn X rfl dX5_prove_91)
  (okC (ok_ildn X rfl dX5_prove_92)
  (okC (ok_put X (ci := 5) rfl (by decide) iw_X5 tyX5_ok nmX5 rfl (Or.inl rfl) tw_206 dX5_prove_93)
  (okC (ok_ildn X rfl dX5_prove_96)
  (okN)))), ok_ret X hr dX5_prove_97⟩
theorem om_80 : ip_MOk tb en_80 pc_X5_prove := fun x G d X hr hnm => ⟨ob_X5_prove_0 X hr hnm, ⟨ob_X5_prove_1 X hr hnm, ⟨ob_X5_prove_2 X hr hnm, ⟨ob_X5_prove_3 X hr hnm, ⟨ob_X5_prove_4 X hr hnm, ⟨ob_X5_prove_5 X hr hnm, ⟨ob_X5_prove_6 X hr hnm, ⟨ob_X5_prove_7 X hr hnm, ⟨ob_X5_prove_8 X hr hnm, ⟨ob_X5_prove_9 X hr hnm, trivial⟩⟩⟩⟩⟩⟩⟩⟩⟩⟩
theorem dX5_row_0 : decode cX5_row 0 = .ok (.aload_n 0, 1) := by decide +kernel
theorem dX5_row_1 : decode cX5_row 1 = .ok (.iload_n 1, 1) := by decide +kernel
theorem dX5_row_2 : decode cX5_row 2 = .ok (.iload_n 2, 1) := by decide +kernel
theorem dX5_row_3 : decode cX5_row 3 = .ok (.invokevirtual 251, 3) := by decide +kernel
theorem dX5_row_6 : decode cX5_row 6 = .ok (.ifCond .eq 16, 3) := by decide +kernel
theorem dX5_row_9 : decode cX5_row 9 = .ok (.aload_n 0, 1) := by decide +kernel
theorem dX5_row_10 : decode cX5_row 10 = .ok (.getfield 47, 3) := by decide +kernel
theorem dX5_row_13 : decode cX5_row 13 = .ok (.iload_n 1, 1) := by decide +kernel
theorem dX5_row_14 : decode cX5_row 14 = .ok (.iconst 3, 1) := by decide +kernel
theorem dX5_row_15 : decode cX5_row 15 = .ok (.imul, 1) := by decide +kernel
theorem dX5_row_16 : decode cX5_row 16 = .ok (.iload_n 2, 1) := by decide +kernel
theorem dX5_row_17 : decode cX5_row 17 = .ok (.iadd, 1) := by decide +kernel
theorem dX5_row_18 : decode cX5_row 18 = .ok (.iaload, 1) := by decide +kernel
theorem dX5_row_19 : decode cX5_row 19 = .ok (.goto 5, 3) := by decide +kernel
theorem dX5_row_22 : decode cX5_row 22 = .ok (.bipush (-9), 2) := by decide +kernel
theorem dX5_row_24 : decode cX5_row 24 = .ok (.ireturn, 1) := by decide +kernel
def pc_X5_row (i : Nat) : Nat := ([0, 9, 22, 24] : List Nat).getD i 0
set_option maxRecDepth 20000 in
theorem ob_X5_row_0 {x : ip_Cx} {G : ip_Gl} {d : Nat} (X : ip_X x G tb 3 d 0 0 RX5 cX5_row) (hr : x.2.2.2.2.2.2.2.2.1.sig.returnType = (some .int)) (hnm : x.2.2.2.2.2.2.2.2.1.name = "row") : ip_okB x G 3 pc_X5_row 0 ([oLdA 0, oLdI 1, oLdI 2, oCaV (ip_call tb d) 0 0 5 103 3 0 0], tIf (fun a => a = 0) 2 1) := ⟨_, okC (ok_aldn X rfl dX5_row_0)
  (okC (ok_ildn X rfl dX5_row_1)
  (okC (ok_ildn X rfl dX5_row_2)
  (okC (ok_calV X (i := 251) (e := en_103) rfl mt_103 rfl rfl rfl tw_668 tw_670 (Or.inl ⟨_, _, rfl⟩) tp_7 dX5_row_3)
  (okN)))), ok_ifeq X (by decide) rfl dX5_row_6⟩
set_option maxRecDepth 20000 in
theorem ob_X5_row_1 {x : ip_Cx} {G : ip_Gl} {d : Nat} (X : ip_X x G tb 3 d 0 0 RX5 cX5_row) (hr : x.2.2.2.2.2.2.2.2.1.sig.returnType = (some .int)) (hnm : x.2.2.2.2.2.2.2.2.1.name = "row") : ip_okB x G 3 pc_X5_row 9 ([oLdA 0, oGet 5 7, oLdI 1, oI (3), oBI (fun a b => a * b), oLdI 2, oBI (fun a b => a + b), oAldI], tGo 3) := ⟨_, okC (ok_aldn X rfl dX5_row_9)
  (okC (ok_get X (ci := 5) rfl (by decide) iw_X5 tw_205 dX5_row_10)
  (okC (ok_ildn X rfl dX5_row_13)
  (okC (ok_ic X (by decide) dX5_row_14)
  (okC (ok_imul X dX5_row_15)
  (okC (ok_ildn X rfl dX5_row_16)
  (okC (ok_iadd X dX5_row_17)
  (okC (ok_iald X dX5_row_18)
  (okN)))))))), ok_go X (by decide) dX5_row_19⟩
set_option maxRecDepth 20000 in
theorem ob_X5_row_2 {x : ip_Cx} {G : ip_Gl} {d : Nat} (X : ip_X x G tb 3 d 0 0 RX5 cX5_row) (hr : x.2.2.2.2.2.2.2.2.1.sig.returnType = (some .int)) (hnm : x.2.2.2.2.2.2.2.2.1.name = "row") : ip_okB x G 3 pc_X5_row 22 ([oI (-9)], tGo 3) := ⟨_, okC (ok_bi X (by decide) dX5_row_22)
  (okN), ok_fall rfl⟩
set_option maxRecDepth 20000 in
theorem ob_X5_row_3 {x : ip_Cx} {G : ip_Gl} {d : Nat} (X : ip_X x G tb 3 d 0 0 RX5 cX5_row) (hr : x.2.2.2.2.2.2.2.2.1.sig.returnType = (some .int)) (hnm : x.2.2.2.2.2.2.2.2.1.name = "row") : ip_okB x G 3 pc_X5_row 24 ([], tRI .int 0 0) := ⟨_, okN, ok_ret X hr dX5_row_24⟩
theorem om_81 : ip_MOk tb en_81 pc_X5_row := fun x G d X hr hnm => ⟨ob_X5_row_0 X hr hnm, ⟨ob_X5_row_1 X hr hnm, ⟨ob_X5_row_2 X hr hnm, ⟨ob_X5_row_3 X hr hnm, trivial⟩⟩⟩⟩
theorem dX5_alterRow_0 : decode cX5_alterRow 0 = .ok (.aload_n 0, 1) := by decide +kernel
theorem dX5_alterRow_1 : decode cX5_alterRow 1 = .ok (.iload_n 1, 1) := by decide +kernel
theorem dX5_alterRow_2 : decode cX5_alterRow 2 = .ok (.iload_n 2, 1) := by decide +kernel
theorem dX5_alterRow_3 : decode cX5_alterRow 3 = .ok (.invokevirtual 251, 3) := by decide +kernel
theorem dX5_alterRow_6 : decode cX5_alterRow 6 = .ok (.ifCond .ne 6, 3) := by decide +kernel
theorem dX5_alterRow_9 : decode cX5_alterRow 9 = .ok (.bipush (-9), 2) := by decide +kernel
theorem dX5_alterRow_11 : decode cX5_alterRow 11 = .ok (.ireturn, 1) := by decide +kernel
theorem dX5_alterRow_12 : decode cX5_alterRow 12 = .ok (.aload_n 0, 1) := by decide +kernel
theorem dX5_alterRow_13 : decode cX5_alterRow 13 = .ok (.getfield 47, 3) := by decide +kernel
theorem dX5_alterRow_16 : decode cX5_alterRow 16 = .ok (.iload_n 1, 1) := by decide +kernel
theorem dX5_alterRow_17 : decode cX5_alterRow 17 = .ok (.iconst 3, 1) := by decide +kernel
theorem dX5_alterRow_18 : decode cX5_alterRow 18 = .ok (.imul, 1) := by decide +kernel
theorem dX5_alterRow_19 : decode cX5_alterRow 19 = .ok (.iload_n 2, 1) := by decide +kernel
theorem dX5_alterRow_20 : decode cX5_alterRow 20 = .ok (.iadd, 1) := by decide +kernel
theorem dX5_alterRow_21 : decode cX5_alterRow 21 = .ok (.iaload, 1) := by decide +kernel
theorem dX5_alterRow_22 : decode cX5_alterRow 22 = .ok (.istore 4, 2) := by decide +kernel
theorem dX5_alterRow_24 : decode cX5_alterRow 24 = .ok (.aload_n 0, 1) := by decide +kernel
theorem dX5_alterRow_25 : decode cX5_alterRow 25 = .ok (.getfield 47, 3) := by decide +kernel
theorem dX5_alterRow_28 : decode cX5_alterRow 28 = .ok (.iload_n 1, 1) := by decide +kernel
theorem dX5_alterRow_29 : decode cX5_alterRow 29 = .ok (.iconst 3, 1) := by decide +kernel
theorem dX5_alterRow_30 : decode cX5_alterRow 30 = .ok (.imul, 1) := by decide +kernel
theorem dX5_alterRow_31 : decode cX5_alterRow 31 = .ok (.iload_n 2, 1) := by decide +kernel
theorem dX5_alterRow_32 : decode cX5_alterRow 32 = .ok (.iadd, 1) := by decide +kernel
theorem dX5_alterRow_33 : decode cX5_alterRow 33 = .ok (.iload_n 3, 1) := by decide +kernel
theorem dX5_alterRow_34 : decode cX5_alterRow 34 = .ok (.iastore, 1) := by decide +kernel
theorem dX5_alterRow_35 : decode cX5_alterRow 35 = .ok (.iload 4, 2) := by decide +kernel
theorem dX5_alterRow_37 : decode cX5_alterRow 37 = .ok (.ireturn, 1) := by decide +kernel
def pc_X5_alterRow (i : Nat) : Nat := ([0, 9, 12] : List Nat).getD i 0
set_option maxRecDepth 20000 in
theorem ob_X5_alterRow_0 {x : ip_Cx} {G : ip_Gl} {d : Nat} (X : ip_X x G tb 5 d 0 0 RX5 cX5_alterRow) (hr : x.2.2.2.2.2.2.2.2.1.sig.returnType = (some .int)) (hnm : x.2.2.2.2.2.2.2.2.1.name = "alterRow") : ip_okB x G 5 pc_X5_alterRow 0 ([oLdA 0, oLdI 1, oLdI 2, oCaV (ip_call tb d) 0 0 5 103 3 0 0], tIf (fun a => a = 0) 1 2) := ⟨_, okC (ok_aldn X rfl dX5_alterRow_0)
  (okC (ok_ildn X rfl dX5_alterRow_1)
  (okC (ok_ildn X rfl dX5_alterRow_2)
  (okC (ok_calV X (i := 251) (e := en_103) rfl mt_103 rfl rfl rfl tw_668 tw_670 (Or.inl ⟨_, _, rfl⟩) tp_7 dX5_alterRow_3)
  (okN)))), ok_ifne X (by decide) rfl dX5_alterRow_6⟩
set_option maxRecDepth 20000 in
theorem ob_X5_alterRow_1 {x : ip_Cx} {G : ip_Gl} {d : Nat} (X : ip_X x G tb 5 d 0 0 RX5 cX5_alterRow) (hr : x.2.2.2.2.2.2.2.2.1.sig.returnType = (some .int)) (hnm : x.2.2.2.2.2.2.2.2.1.name = "alterRow") : ip_okB x G 5 pc_X5_alterRow 9 ([oI (-9)], tRI .int 0 0) := ⟨_, okC (ok_bi X (by decide) dX5_alterRow_9)
  (okN), ok_ret X hr dX5_alterRow_11⟩
set_option maxRecDepth 20000 in
theorem ob_X5_alterRow_2 {x : ip_Cx} {G : ip_Gl} {d : Nat} (X : ip_X x G tb 5 d 0 0 RX5 cX5_alterRow) (hr : x.2.2.2.2.2.2.2.2.1.sig.returnType = (some .int)) (hnm : x.2.2.2.2.2.2.2.2.1.name = "alterRow") : ip_okB x G 5 pc_X5_alterRow 12 ([oLdA 0, oGet 5 7, oLdI 1, oI (3), oBI (fun a b => a * b), oLdI 2, oBI (fun a b => a + b), oAldI, oStI 4, oLdA 0, oGet 5 7, oLdI 1, oI (3), oBI (fun a b => a * b), oLdI 2, oBI (fun a b => a + b), oLdI 3, oAstI, oLdI 4], tRI .int 0 0) := ⟨_, okC (ok_aldn X rfl dX5_alterRow_12)
  (okC (ok_get X (ci := 5) rfl (by decide) iw_X5 tw_205 dX5_alterRow_13)
  (okC (ok_ildn X rfl dX5_alterRow_16)
  (okC (ok_ic X (by decide) dX5_alterRow_17)
  (okC (ok_imul X dX5_alterRow_18)
  (okC (ok_ildn X rfl dX5_alterRow_19)
  (okC (ok_iadd X dX5_alterRow_20)
  (okC (ok_iald X dX5_alterRow_21)
  (okC (ok_ist X (by decide) dX5_alterRow_22)
  (okC (ok_aldn X rfl dX5_alterRow_24)
  (okC (ok_get X (ci := 5) rfl (by decide) iw_X5 tw_205 dX5_alterRow_25)
  (okC (ok_ildn X rfl dX5_alterRow_28)
  (okC (ok_ic X (by decide) dX5_alterRow_29)
  (okC (ok_imul X dX5_alterRow_30)
  (okC (ok_ildn X rfl dX5_alterRow_31)
  (okC (ok_iadd X dX5_alterRow_32)
  (okC (ok_ildn X rfl dX5_alterRow_33)
  (okC (ok_iast X dX5_alterRow_34)
  (okC (ok_ild X dX5_alterRow_35)
  (okN))))))))))))))))))), ok_ret X hr dX5_alterRow_37⟩
theorem om_82 : ip_MOk tb en_82 pc_X5_alterRow := fun x G d X hr hnm => ⟨ob_X5_alterRow_0 X hr hnm, ⟨ob_X5_alterRow_1 X hr hnm, ⟨ob_X5_alterRow_2 X hr hnm, trivial⟩⟩⟩
theorem dX5_judge_0 : decode cX5_judge 0 = .ok (.aload_n 0, 1) := by decide +kernel
theorem dX5_judge_1 : decode cX5_judge 1 = .ok (.iload_n 1, 1) := by decide +kernel
theorem dX5_judge_2 : decode cX5_judge 2 = .ok (.invokevirtual 119, 3) := by decide +kernel
theorem dX5_judge_5 : decode cX5_judge 5 = .ok (.ifCond .ne 5, 3) := by decide +kernel
theorem dX5_judge_8 : decode cX5_judge 8 = .ok (.iconst (-1), 1) := by decide +kernel
theorem dX5_judge_9 : decode cX5_judge 9 = .ok (.ireturn, 1) := by decide +kernel
theorem dX5_judge_10 : decode cX5_judge 10 = .ok (.aload_n 0, 1) := by decide +kernel
theorem dX5_judge_11 : decode cX5_judge 11 = .ok (.getfield 16, 3) := by decide +kernel
theorem dX5_judge_14 : decode cX5_judge 14 = .ok (.aload_n 0, 1) := by decide +kernel
theorem dX5_judge_15 : decode cX5_judge 15 = .ok (.getfield 10, 3) := by decide +kernel
theorem dX5_judge_18 : decode cX5_judge 18 = .ok (.invokevirtual 88, 3) := by decide +kernel
theorem dX5_judge_21 : decode cX5_judge 21 = .ok (.iconst 0, 1) := by decide +kernel
theorem dX5_judge_22 : decode cX5_judge 22 = .ok (.istore_n 2, 1) := by decide +kernel
theorem dX5_judge_23 : decode cX5_judge 23 = .ok (.iload_n 2, 1) := by decide +kernel
theorem dX5_judge_24 : decode cX5_judge 24 = .ok (.aload_n 0, 1) := by decide +kernel
theorem dX5_judge_25 : decode cX5_judge 25 = .ok (.getfield 51, 3) := by decide +kernel
theorem dX5_judge_28 : decode cX5_judge 28 = .ok (.if_icmp .ge 59, 3) := by decide +kernel
theorem dX5_judge_31 : decode cX5_judge 31 = .ok (.aload_n 0, 1) := by decide +kernel
theorem dX5_judge_32 : decode cX5_judge 32 = .ok (.getfield 16, 3) := by decide +kernel
theorem dX5_judge_35 : decode cX5_judge 35 = .ok (.aload_n 0, 1) := by decide +kernel
theorem dX5_judge_36 : decode cX5_judge 36 = .ok (.getfield 29, 3) := by decide +kernel
theorem dX5_judge_39 : decode cX5_judge 39 = .ok (.invokevirtual 164, 3) := by decide +kernel
theorem dX5_judge_42 : decode cX5_judge 42 = .ok (.iconst 0, 1) := by decide +kernel
theorem dX5_judge_43 : decode cX5_judge 43 = .ok (.istore_n 3, 1) := by decide +kernel
theorem dX5_judge_44 : decode cX5_judge 44 = .ok (.iload_n 3, 1) := by decide +kernel
theorem dX5_judge_45 : decode cX5_judge 45 = .ok (.iconst 3, 1) := by decide +kernel
theorem dX5_judge_46 : decode cX5_judge 46 = .ok (.if_icmp .ge 35, 3) := by decide +kernel
theorem dX5_judge_49 : decode cX5_judge 49 = .ok (.aload_n 0, 1) := by decide +kernel
theorem dX5_judge_50 : decode cX5_judge 50 = .ok (.getfield 47, 3) := by decide +kernel
theorem dX5_judge_53 : decode cX5_judge 53 = .ok (.iload_n 2, 1) := by decide +kernel
theorem dX5_judge_54 : decode cX5_judge 54 = .ok (.iconst 3, 1) := by decide +kernel
theorem dX5_judge_55 : decode cX5_judge 55 = .ok (.imul, 1) := by decide +kernel
theorem dX5_judge_56 : decode cX5_judge 56 = .ok (.iload_n 3, 1) := by decide +kernel
theorem dX5_judge_57 : decode cX5_judge 57 = .ok (.iadd, 1) := by decide +kernel
theorem dX5_judge_58 : decode cX5_judge 58 = .ok (.iaload, 1) := by decide +kernel
theorem dX5_judge_59 : decode cX5_judge 59 = .ok (.aload_n 0, 1) := by decide +kernel
theorem dX5_judge_60 : decode cX5_judge 60 = .ok (.getfield 16, 3) := by decide +kernel
theorem dX5_judge_63 : decode cX5_judge 63 = .ok (.iload_n 1, 1) := by decide +kernel
theorem dX5_judge_64 : decode cX5_judge 64 = .ok (.iload_n 3, 1) := by decide +kernel
theorem dX5_judge_65 : decode cX5_judge 65 = .ok (.invokevirtual 248, 3) := by decide +kernel
theorem dX5_judge_68 : decode cX5_judge 68 = .ok (.if_icmp .eq 7, 3) := by decide +kernel
theorem dX5_judge_71 : decode cX5_judge 71 = .ok (.iload_n 2, 1) := by decide +kernel
theorem dX5_judge_72 : decode cX5_judge 72 = .ok (.iconst 1, 1) := by decide +kernel
theorem dX5_judge_73 : decode cX5_judge 73 = .ok (.iadd, 1) := by decide +kernel
theorem dX5_judge_74 : decode cX5_judge 74 = .ok (.ireturn, 1) := by decide +kernel
theorem dX5_judge_75 : decode cX5_judge 75 = .ok (.iinc 3 1, 3) := by decide +kernel
theorem dX5_judge_78 : decode cX5_judge 78 = .ok (.goto (-34), 3) := by decide +kernel
theorem dX5_judge_81 : decode cX5_judge 81 = .ok (.iinc 2 1, 3) := by decide +kernel
theorem dX5_judge_84 : decode cX5_judge 84 = .ok (.goto (-61), 3) := by decide +kernel
theorem dX5_judge_87 : decode cX5_judge 87 = .ok (.iconst 0, 1) := by decide +kernel
theorem dX5_judge_88 : decode cX5_judge 88 = .ok (.ireturn, 1) := by decide +kernel
def pc_X5_judge (i : Nat) : Nat := ([0, 8, 10, 23, 31, 44, 49, 71, 75, 81, 87] : List Nat).getD i 0
set_option maxRecDepth 20000 in
theorem ob_X5_judge_0 {x : ip_Cx} {G : ip_Gl} {d : Nat} (X : ip_X x G tb 4 d 0 0 RX5 cX5_judge) (hr : x.2.2.2.2.2.2.2.2.1.sig.returnType = (some .int)) (hnm : x.2.2.2.2.2.2.2.2.1.name = "judge") : ip_okB x G 4 pc_X5_judge 0 ([oLdA 0, oLdI 1, oCaV (ip_call tb d) 0 0 5 102 2 0 0], tIf (fun a => a = 0) 1 2) := ⟨_, okC (ok_aldn X rfl dX5_judge_0)
  (okC (ok_ildn X rfl dX5_judge_1)
  (okC (ok_calV X (i := 119) (e := en_102) rfl mt_102 rfl rfl rfl tw_409 tw_411 (Or.inl ⟨_, _, rfl⟩) tp_0 dX5_judge_2)
  (okN))), ok_ifne X (by decide) rfl dX5_judge_5⟩
set_option maxRecDepth 20000 in
theorem ob_X5_judge_1 {x : ip_Cx} {G : ip_Gl} {d : Nat} (X : ip_X x G tb 4 d 0 0 RX5 cX5_judge) (hr : x.2.2.2.2.2.2.2.2.1.sig.returnType = (some .int)) (hnm : x.2.2.2.2.2.2.2.2.1.name = "judge") : ip_okB x G 4 pc_X5_judge 8 ([oI (-1)], tRI .int 0 0) := ⟨_, okC (ok_ic X (by decide) dX5_judge_8)
  (okN), ok_ret X hr dX5_judge_9⟩
set_option maxRecDepth 20000 in
theorem ob_X5_judge_2 {x : ip_Cx} {G : ip_Gl} {d : Nat} (X : ip_X x G tb 4 d 0 0 RX5 cX5_judge) (hr : x.2.2.2.2.2.2.2.2.1.sig.returnType = (some .int)) (hnm : x.2.2.2.2.2.2.2.2.1.name = "judge") : ip_okB x G 4 pc_X5_judge 10 ([oLdA 0, oGet 5 1, oLdA 0, oGet 5 0, oCaV (ip_call tb d) 0 0 1 9 2 0 0, oI (0), oStI 2], tGo 3) := ⟨_, okC (ok_aldn X rfl dX5_judge_10)
  (okC (ok_get X (ci := 5) rfl (by decide) iw_X5 tw_199 dX5_judge_11)
  (okC (ok_aldn X rfl dX5_judge_14)
  (okC (ok_get X (ci := 5) rfl (by decide) iw_X5 tw_198 dX5_judge_15)
  (okC (ok_calV X (i := 88) (e := en_9) rfl mt_9 rfl rfl rfl tw_374 tw_375 (Or.inl ⟨_, _, rfl⟩) tw_376 dX5_judge_18)
  (okC (ok_ic X (by decide) dX5_judge_21)
  (okC (ok_istn X rfl (by decide) dX5_judge_22)
  (okN))))))), ok_fall rfl⟩
set_option maxRecDepth 20000 in
theorem ob_X5_judge_3 {x : ip_Cx} {G : ip_Gl} {d : Nat} (X : ip_X x G tb 4 d 0 0 RX5 cX5_judge) (hr : x.2.2.2.2.2.2.2.2.1.sig.returnType = (some .int)) (hnm : x.2.2.2.2.2.2.2.2.1.name = "judge") : ip_okB x G 4 pc_X5_judge 23 ([oLdI 2, oLdA 0, oGet 5 8], tCm (fun a b => a < b) 4 10) := ⟨_, okC (ok_ildn X rfl dX5_judge_23)
  (okC (ok_aldn X rfl dX5_judge_24)
  (okC (ok_get X (ci := 5) rfl (by decide) iw_X5 tw_206 dX5_judge_25)
  (okN))), ok_cmge X (by decide) rfl dX5_judge_28⟩
set_option maxRecDepth 20000 in
theorem ob_X5_judge_4 {x : ip_Cx} {G : ip_Gl} {d : Nat} (X : ip_X x G tb 4 d 0 0 RX5 cX5_judge) (hr : x.2.2.2.2.2.2.2.2.1.sig.returnType = (some .int)) (hnm : x.2.2.2.2.2.2.2.2.1.name = "judge") : ip_okB x G 4 pc_X5_judge 31 ([oLdA 0, oGet 5 1, oLdA 0, oGet 5 4, oCaV (ip_call tb d) 0 0 1 13 2 0 0, oI (0), oStI 3], tGo 5) := ⟨_, okC (ok_aldn X rfl dX5_judge_31)
  (okC (ok_get X (ci := 5) rfl (by decide) iw_X5 tw_199 dX5_judge_32)
  (okC (ok_aldn X rfl dX5_judge_35)
  (okC (ok_get X (ci := 5) rfl (by decide) iw_X5 tw_202 dX5_judge_36)
  (okC (ok_calV X (i := 164) (e := en_13) rfl mt_13 rfl rfl rfl tw_486 tw_487 (Or.inl ⟨_, _, rfl⟩) tw_488 dX5_judge_39)
  (okC (ok_ic X (by decide) dX5_judge_42)
  (okC (ok_istn X rfl (by decide) dX5_judge_43)
  (okN))))))), ok_fall rfl⟩
set_option maxRecDepth 20000 in
theorem ob_X5_judge_5 {x : ip_Cx} {G : ip_Gl} {d : Nat} (X : ip_X x G tb 4 d 0 0 RX5 cX5_judge) (hr : x.2.2.2.2.2.2.2.2.1.sig.returnType = (some .int)) (hnm : x.2.2.2.2.2.2.2.2.1.name = "judge") : ip_okB x G 4 pc_X5_judge 44 ([oLdI 3, oI (3)], tCm (fun a b => a < b) 6 9) := ⟨_, okC (ok_ildn X rfl dX5_judge_44)
  (okC (ok_ic X (by decide) dX5_judge_45)
  (okN)), ok_cmge X (by decide) rfl dX5_judge_46⟩
set_option maxRecDepth 20000 in
theorem ob_X5_judge_6 {x : ip_Cx} {G : ip_Gl} {d : Nat} (X : ip_X x G tb 4 d 0 0 RX5 cX5_judge) (hr : x.2.2.2.2.2.2.2.2.1.sig.returnType = (some .int)) (hnm : x.2.2.2.2.2.2.2.2.1.name = "judge") : ip_okB x G 4 pc_X5_judge 49 ([oLdA 0, oGet 5 7, oLdI 2, oI (3), oBI (fun a b => a * b), oLdI 3, oBI (fun a b => a + b), oAldI, oLdA 0, oGet 5 1, oLdI 1, oLdI 3, oCaV (ip_call tb d) 0 0 1 19 3 0 0], tCm (fun a b => a = b) 8 7) := ⟨_, okC (ok_aldn X rfl dX5_judge_49)
  (okC (ok_get X (ci := 5) rfl (by decide) iw_X5 tw_205 dX5_judge_50)
  (okC (ok_ildn X rfl dX5_judge_53)
  (okC (ok_ic X (by decide) dX5_judge_54)
  (okC (ok_imul X dX5_judge_55)
  (okC (ok_ildn X rfl dX5_judge_56)
  (okC (ok_iadd X dX5_judge_57)
  (okC (ok_iald X dX5_judge_58)
  (okC (ok_aldn X rfl dX5_judge_59)
  (okC (ok_get X (ci := 5) rfl (by decide) iw_X5 tw_199 dX5_judge_60)
  (okC (ok_ildn X rfl dX5_judge_63)
  (okC (ok_ildn X rfl dX5_judge_64)
  (okC (ok_calV X (i := 248) (e := en_19) rfl mt_19 rfl rfl rfl tw_659 tw_660 (Or.inl ⟨_, _, rfl⟩) tw_661 dX5_judge_65)
  (okN))))))))))))), ok_cmeq X (by decide) rfl dX5_judge_68⟩
set_option maxRecDepth 20000 in
theorem ob_X5_judge_7 {x : ip_Cx} {G : ip_Gl} {d : Nat} (X : ip_X x G tb 4 d 0 0 RX5 cX5_judge) (hr : x.2.2.2.2.2.2.2.2.1.sig.returnType = (some .int)) (hnm : x.2.2.2.2.2.2.2.2.1.name = "judge") : ip_okB x G 4 pc_X5_judge 71 ([oLdI 2, oI (1), oBI (fun a b => a + b)], tRI .int 0 0) := ⟨_, okC (ok_ildn X rfl dX5_judge_71)
  (okC (ok_ic X (by decide) dX5_judge_72)
  (okC (ok_iadd X dX5_judge_73)
  (okN))), ok_ret X hr dX5_judge_74⟩
set_option maxRecDepth 20000 in
theorem ob_X5_judge_8 {x : ip_Cx} {G : ip_Gl} {d : Nat} (X : ip_X x G tb 4 d 0 0 RX5 cX5_judge) (hr : x.2.2.2.2.2.2.2.2.1.sig.returnType = (some .int)) (hnm : x.2.2.2.2.2.2.2.2.1.name = "judge") : ip_okB x G 4 pc_X5_judge 75 ([oInc 3 (1)], tGo 5) := ⟨_, okC (ok_inc X (by decide) dX5_judge_75)
  (okN), ok_go X (by decide) dX5_judge_78⟩
set_option maxRecDepth 20000 in
theorem ob_X5_judge_9 {x : ip_Cx} {G : ip_Gl} {d : Nat} (X : ip_X x G tb 4 d 0 0 RX5 cX5_judge) (hr : x.2.2.2.2.2.2.2.2.1.sig.returnType = (some .int)) (hnm : x.2.2.2.2.2.2.2.2.1.name = "judge") : ip_okB x G 4 pc_X5_judge 81 ([oInc 2 (1)], tGo 3) := ⟨_, okC (ok_inc X (by decide) dX5_judge_81)
  (okN), ok_go X (by decide) dX5_judge_84⟩
set_option maxRecDepth 20000 in
theorem ob_X5_judge_10 {x : ip_Cx} {G : ip_Gl} {d : Nat} (X : ip_X x G tb 4 d 0 0 RX5 cX5_judge) (hr : x.2.2.2.2.2.2.2.2.1.sig.returnType = (some .int)) (hnm : x.2.2.2.2.2.2.2.2.1.name = "judge") : ip_okB x G 4 pc_X5_judge 87 ([oI (0)], tRI .int 0 0) := ⟨_, okC (ok_ic X (by decide) dX5_judge_87)
  (okN), ok_ret X hr dX5_judge_88⟩
theorem om_83 : ip_MOk tb en_83 pc_X5_judge := fun x G d X hr hnm => ⟨ob_X5_judge_0 X hr hnm, ⟨ob_X5_judge_1 X hr hnm, ⟨ob_X5_judge_2 X hr hnm, ⟨ob_X5_judge_3 X hr hnm, ⟨ob_X5_judge_4 X hr hnm, ⟨ob_X5_judge_5 X hr hnm, ⟨ob_X5_judge_6 X hr hnm, ⟨ob_X5_judge_7 X hr hnm, ⟨ob_X5_judge_8 X hr hnm, ⟨ob_X5_judge_9 X hr hnm, ⟨ob_X5_judge_10 X hr hnm, trivial⟩⟩⟩⟩⟩⟩⟩⟩⟩⟩⟩
theorem dX5_minds_0 : decode cX5_minds 0 = .ok (.iload_n 1, 1) := by decide +kernel
theorem dX5_minds_1 : decode cX5_minds 1 = .ok (.invokestatic 222, 3) := by decide +kernel
theorem dX5_minds_4 : decode cX5_minds 4 = .ok (.ifCond .eq 36, 3) := by decide +kernel
theorem dX5_minds_7 : decode cX5_minds 7 = .ok (.aload_n 0, 1) := by decide +kernel
theorem dX5_minds_8 : decode cX5_minds 8 = .ok (.iload_n 3, 1) := by decide +kernel
theorem dX5_minds_9 : decode cX5_minds 9 = .ok (.invokevirtual 119, 3) := by decide +kernel
theorem dX5_minds_12 : decode cX5_minds 12 = .ok (.ifCond .eq 28, 3) := by decide +kernel
theorem dX5_minds_15 : decode cX5_minds 15 = .ok (.iload 4, 2) := by decide +kernel
theorem dX5_minds_17 : decode cX5_minds 17 = .ok (.iconst 0, 1) := by decide +kernel
theorem dX5_minds_18 : decode cX5_minds 18 = .ok (.bipush 8, 2) := by decide +kernel
theorem dX5_minds_20 : decode cX5_minds 20 = .ok (.invokestatic 67, 3) := by decide +kernel
theorem dX5_minds_23 : decode cX5_minds 23 = .ok (.ifCond .eq 17, 3) := by decide +kernel
theorem dX5_minds_26 : decode cX5_minds 26 = .ok (.iload_n 3, 1) := by decide +kernel
theorem dX5_minds_27 : decode cX5_minds 27 = .ok (.iload 4, 2) := by decide +kernel
theorem dX5_minds_29 : decode cX5_minds 29 = .ok (.iadd, 1) := by decide +kernel
theorem dX5_minds_30 : decode cX5_minds 30 = .ok (.aload_n 0, 1) := by decide +kernel
theorem dX5_minds_31 : decode cX5_minds 31 = .ok (.getfield 10, 3) := by decide +kernel
theorem dX5_minds_34 : decode cX5_minds 34 = .ok (.getfield 92, 3) := by decide +kernel
theorem dX5_minds_37 : decode cX5_minds 37 = .ok (.if_icmp .le 5, 3) := by decide +kernel
theorem dX5_minds_40 : decode cX5_minds 40 = .ok (.iconst (-1), 1) := by decide +kernel
theorem dX5_minds_41 : decode cX5_minds 41 = .ok (.ireturn, 1) := by decide +kernel
theorem dX5_minds_42 : decode cX5_minds 42 = .ok (.aload_n 0, 1) := by decide +kernel
theorem dX5_minds_43 : decode cX5_minds 43 = .ok (.getfield 57, 3) := by decide +kernel
theorem dX5_minds_46 : decode cX5_minds 46 = .ok (.iload_n 1, 1) := by decide +kernel
theorem dX5_minds_47 : decode cX5_minds 47 = .ok (.aaload, 1) := by decide +kernel
theorem dX5_minds_48 : decode cX5_minds 48 = .ok (.astore 5, 2) := by decide +kernel
theorem dX5_minds_50 : decode cX5_minds 50 = .ok (.aload 5, 2) := by decide +kernel
theorem dX5_minds_52 : decode cX5_minds 52 = .ok (.ifnonnull 6, 3) := by decide +kernel
theorem dX5_minds_55 : decode cX5_minds 55 = .ok (.bipush (-11), 2) := by decide +kernel
theorem dX5_minds_57 : decode cX5_minds 57 = .ok (.ireturn, 1) := by decide +kernel
theorem dX5_minds_58 : decode cX5_minds 58 = .ok (.aload 5, 2) := by decide +kernel
theorem dX5_minds_60 : decode cX5_minds 60 = .ok (.getfield 254, 3) := by decide +kernel
theorem dX5_minds_63 : decode cX5_minds 63 = .ok (.ifCond .eq 6, 3) := by decide +kernel
theorem dX5_minds_66 : decode cX5_minds 66 = .ok (.bipush (-13), 2) := by decide +kernel
theorem dX5_minds_68 : decode cX5_minds 68 = .ok (.ireturn, 1) := by decide +kernel
theorem dX5_minds_69 : decode cX5_minds 69 = .ok (.iload_n 2, 1) := by decide +kernel
theorem dX5_minds_70 : decode cX5_minds 70 = .ok (.iconst 0, 1) := by decide +kernel
theorem dX5_minds_71 : decode cX5_minds 71 = .ok (.aload 5, 2) := by decide +kernel
theorem dX5_minds_73 : decode cX5_minds 73 = .ok (.getfield 257, 3) := by decide +kernel
theorem dX5_minds_76 : decode cX5_minds 76 = .ok (.arraylength, 1) := by decide +kernel
theorem dX5_minds_77 : decode cX5_minds 77 = .ok (.invokestatic 67, 3) := by decide +kernel
theorem dX5_minds_80 : decode cX5_minds 80 = .ok (.ifCond .eq 16, 3) := by decide +kernel
theorem dX5_minds_83 : decode cX5_minds 83 = .ok (.iload 4, 2) := by decide +kernel
theorem dX5_minds_85 : decode cX5_minds 85 = .ok (.aload 5, 2) := by decide +kernel
theorem dX5_minds_87 : decode cX5_minds 87 = .ok (.getfield 257, 3) := by decide +kernel
theorem dX5_minds_90 : decode cX5_minds 90 = .ok (.arraylength, 1) := by decide +kernel
theorem dX5_minds_91 : decode cX5_minds 91 = .ok (.iload_n 2, 1) := by decide +kernel
theorem dX5_minds_92 : decode cX5_minds 92 = .ok (.isub, 1) := by decide +kernel
theorem dX5_minds_93 : decode cX5_minds 93 = .ok (.if_icmp .le 6, 3) := by decide +kernel
theorem dX5_minds_96 : decode cX5_minds 96 = .ok (.bipush (-12), 2) := by decide +kernel
theorem dX5_minds_98 : decode cX5_minds 98 = .ok (.ireturn, 1) := by decide +kernel
theorem dX5_minds_99 : decode cX5_minds 99 = .ok (.iconst 0, 1) := by decide +kernel
theorem dX5_minds_100 : decode cX5_minds 100 = .ok (.istore 6, 2) := by decide +kernel
theorem dX5_minds_102 : decode cX5_minds 102 = .ok (.iload 6, 2) := by decide +kernel
theorem dX5_minds_104 : decode cX5_minds 104 = .ok (.iload 4, 2) := by decide +kernel
theorem dX5_minds_106 : decode cX5_minds 106 = .ok (.if_icmp .ge 40, 3) := by decide +kernel
theorem dX5_minds_109 : decode cX5_minds 109 = .ok (.aload_n 0, 1) := by decide +kernel
theorem dX5_minds_110 : decode cX5_minds 110 = .ok (.getfield 10, 3) := by decide +kernel
theorem dX5_minds_113 : decode cX5_minds 113 = .ok (.getfield 125, 3) := by decide +kernel
theorem dX5_minds_116 : decode cX5_minds 116 = .ok (.iload_n 3, 1) := by decide +kernel
theorem dX5_minds_117 : decode cX5_minds 117 = .ok (.iload 6, 2) := by decide +kernel
theorem dX5_minds_119 : decode cX5_minds 119 = .ok (.iadd, 1) := by decide +kernel
theorem dX5_minds_120 : decode cX5_minds 120 = .ok (.iconst 0, 1) := by decide +kernel
theorem dX5_minds_121 : decode cX5_minds 121 = .ok (.bipush 99, 2) := by decide +kernel
theorem dX5_minds_123 : decode cX5_minds 123 = .ok (.aload 5, 2) := by decide +kernel
theorem dX5_minds_125 : decode cX5_minds 125 = .ok (.getfield 257, 3) := by decide +kernel
theorem dX5_minds_128 : decode cX5_minds 128 = .ok (.iload_n 2, 1) := by decide +kernel
theorem dX5_minds_129 : decode cX5_minds 129 = .ok (.iload 6, 2) := by decide +kernel
theorem dX5_minds_131 : decode cX5_minds 131 = .ok (.iadd, 1) := by decide +kernel
theorem dX5_minds_132 : decode cX5_minds 132 = .ok (.iaload, 1) := by decide +kernel
theorem dX5_minds_133 : decode cX5_minds 133 = .ok (.invokestatic 260, 3) := by decide +kernel
theorem dX5_minds_136 : decode cX5_minds 136 = .ok (.invokestatic 206, 3) := by decide +kernel
theorem dX5_minds_139 : decode cX5_minds 139 = .ok (.iastore, 1) := by decide +kernel
theorem dX5_minds_140 : decode cX5_minds 140 = .ok (.iinc 6 1, 3) := by decide +kernel
theorem dX5_minds_143 : decode cX5_minds 143 = .ok (.goto (-41), 3) := by decide +kernel
theorem dX5_minds_146 : decode cX5_minds 146 = .ok (.iload 4, 2) := by decide +kernel
theorem dX5_minds_148 : decode cX5_minds 148 = .ok (.ireturn, 1) := by decide +kernel
def pc_X5_minds (i : Nat) : Nat := ([0, 7, 15, 26, 40, 42, 55, 58, 66, 69, 83, 96, 99, 102, 109, 146] : List Nat).getD i 0
set_option maxRecDepth 20000 in
theorem ob_X5_minds_0 {x : ip_Cx} {G : ip_Gl} {d : Nat} (X : ip_X x G tb 7 d 0 0 RX5 cX5_minds) (hr : x.2.2.2.2.2.2.2.2.1.sig.returnType = (some .int)) (hnm : x.2.2.2.2.2.2.2.2.1.name = "minds") : ip_okB x G 7 pc_X5_minds 0 ([oLdI 1, oCal (ip_call tb d) 0 0 99 1 0 0], tIf (fun a => a = 0) 4 1) := ⟨_, okC (ok_ildn X rfl dX5_minds_0)
  (okC (ok_calS X (i := 222) (e := en_99) rfl mt_99 rfl rfl rfl tw_624 tw_625 dX5_minds_1)
  (okN)), ok_ifeq X (by decide) rfl dX5_minds_4⟩
set_option maxRecDepth 20000 in
theorem ob_X5_minds_1 {x : ip_Cx} {G : ip_Gl} {d : Nat} (X : ip_X x G tb 7 d 0 0 RX5 cX5_minds) (hr : x.2.2.2.2.2.2.2.2.1.sig.returnType = (some .int)) (hnm : x.2.2.2.2.2.2.2.2.1.name = "minds") : ip_okB x G 7 pc_X5_minds 7 ([oLdA 0, oLdI 3, oCaV (ip_call tb d) 0 0 5 102 2 0 0], tIf (fun a => a = 0) 4 2) := ⟨_, okC (ok_aldn X rfl dX5_minds_7)
  (okC (ok_ildn X rfl dX5_minds_8)
  (okC (ok_calV X (i := 119) (e := en_102) rfl mt_102 rfl rfl rfl tw_409 tw_411 (Or.inl ⟨_, _, rfl⟩) tp_0 dX5_minds_9)
  (okN))), ok_ifeq X (by decide) rfl dX5_minds_12⟩
set_option maxRecDepth 20000 in
theorem ob_X5_minds_2 {x : ip_Cx} {G : ip_Gl} {d : Nat} (X : ip_X x G tb 7 d 0 0 RX5 cX5_minds) (hr : x.2.2.2.2.2.2.2.2.1.sig.returnType = (some .int)) (hnm : x.2.2.2.2.2.2.2.2.1.name = "minds") : ip_okB x G 7 pc_X5_minds 15 ([oLdI 4, oI (0), oI (8), oCal (ip_call tb d) 0 0 95 3 0 0], tIf (fun a => a = 0) 4 3) := ⟨_, okC (ok_ild X dX5_minds_15)
  (okC (ok_ic X (by decide) dX5_minds_17)
  (okC (ok_bi X (by decide) dX5_minds_18)
  (okC (ok_calS X (i := 67) (e := en_95) rfl mt_95 rfl rfl rfl tw_239 tw_240 dX5_minds_20)
  (okN)))), ok_ifeq X (by decide) rfl dX5_minds_23⟩
set_option maxRecDepth 20000 in
theorem ob_X5_minds_3 {x : ip_Cx} {G : ip_Gl} {d : Nat} (X : ip_X x G tb 7 d 0 0 RX5 cX5_minds) (hr : x.2.2.2.2.2.2.2.2.1.sig.returnType = (some .int)) (hnm : x.2.2.2.2.2.2.2.2.1.name = "minds") : ip_okB x G 7 pc_X5_minds 26 ([oLdI 3, oLdI 4, oBI (fun a b => a + b), oLdA 0, oGet 5 0, oGet 1 4], tCm (fun a b => b < a) 4 5) := ⟨_, okC (ok_ildn X rfl dX5_minds_26)
  (okC (ok_ild X dX5_minds_27)
  (okC (ok_iadd X dX5_minds_29)
  (okC (ok_aldn X rfl dX5_minds_30)
  (okC (ok_get X (ci := 5) rfl (by decide) iw_X5 tw_198 dX5_minds_31)
  (okC (ok_get X (ci := 1) rfl (by decide) iw_X1 tw_51 dX5_minds_34)
  (okN)))))), ok_cmle X (by decide) rfl dX5_minds_37⟩
set_option maxRecDepth 20000 in
theorem ob_X5_minds_4 {x : ip_Cx} {G : ip_Gl} {d : Nat} (X : ip_X x G tb 7 d 0 0 RX5 cX5_minds) (hr : x.2.2.2.2.2.2.2.2.1.sig.returnType = (some .int)) (hnm : x.2.2.2.2.2.2.2.2.1.name = "minds") : ip_okB x G 7 pc_X5_minds 40 ([oI (-1)], tRI .int 0 0) := ⟨_, okC (ok_ic X (by decide) dX5_minds_40)
  (okN), ok_ret X hr dX5_minds_41⟩
set_option maxRecDepth 20000 in
theorem ob_X5_minds_5 {x : ip_Cx} {G : ip_Gl} {d : Nat} (X : ip_X x G tb 7 d 0 0 RX5 cX5_minds) (hr : x.2.2.2.2.2.2.2.2.1.sig.returnType = (some .int)) (hnm : x.2.2.2.2.2.2.2.2.1.name = "minds") : ip_okB x G 7 pc_X5_minds 42 ([oLdA 0, oGet 5 9, oLdI 1, oAldA, oStA 5, oLdA 5], tNu 6 7) := ⟨_, okC (ok_aldn X rfl dX5_minds_42)
  (okC (ok_get X (ci := 5) rfl (by decide) iw_X5 tw_207 dX5_minds_43)
  (okC (ok_ildn X rfl dX5_minds_46)
  (okC (ok_aald X dX5_minds_47)
  (okC (ok_ast X (by decide) dX5_minds_48)
  (okC (ok_ald X dX5_minds_50)
  (okN)))))), ok_ifnn X (by decide) rfl dX5_minds_52⟩
set_option maxRecDepth 20000 in
theorem ob_X5_minds_6 {x : ip_Cx} {G : ip_Gl} {d : Nat} (X : ip_X x G tb 7 d 0 0 RX5 cX5_minds) (hr : x.2.2.2.2.2.2.2.2.1.sig.returnType = (some .int)) (hnm : x.2.2.2.2.2.2.2.2.1.name = "minds") : ip_okB x G 7 pc_X5_minds 55 ([oI (-11)], tRI .int 0 0) := ⟨_, okC (ok_bi X (by decide) dX5_minds_55)
  (okN), ok_ret X hr dX5_minds_57⟩
set_option maxRecDepth 20000 in
theorem ob_X5_minds_7 {x : ip_Cx} {G : ip_Gl} {d : Nat} (X : ip_X x G tb 7 d 0 0 RX5 cX5_minds) (hr : x.2.2.2.2.2.2.2.2.1.sig.returnType = (some .int)) (hnm : x.2.2.2.2.2.2.2.2.1.name = "minds") : ip_okB x G 7 pc_X5_minds 58 ([oLdA 5, oGet 2 0], tIf (fun a => a = 0) 9 8) := ⟨_, okC (ok_ald X dX5_minds_58)
  (okC (ok_get X (ci := 2) rfl (by decide) iw_X2 tw_698 dX5_minds_60)
  (okN)), ok_ifeq X (by decide) rfl dX5_minds_63⟩
set_option maxRecDepth 20000 in
theorem ob_X5_minds_8 {x : ip_Cx} {G : ip_Gl} {d : Nat} (X : ip_X x G tb 7 d 0 0 RX5 cX5_minds) (hr : x.2.2.2.2.2.2.2.2.1.sig.returnType = (some .int)) (hnm : x.2.2.2.2.2.2.2.2.1.name = "minds") : ip_okB x G 7 pc_X5_minds 66 ([oI (-13)], tRI .int 0 0) := ⟨_, okC (ok_bi X (by decide) dX5_minds_66)
  (okN), ok_ret X hr dX5_minds_68⟩
set_option maxRecDepth 20000 in
theorem ob_X5_minds_9 {x : ip_Cx} {G : ip_Gl} {d : Nat} (X : ip_X x G tb 7 d 0 0 RX5 cX5_minds) (hr : x.2.2.2.2.2.2.2.2.1.sig.returnType = (some .int)) (hnm : x.2.2.2.2.2.2.2.2.1.name = "minds") : ip_okB x G 7 pc_X5_minds 69 ([oLdI 2, oI (0), oLdA 5, oGet 2 1, oLen, oCal (ip_call tb d) 0 0 95 3 0 0], tIf (fun a => a = 0) 11 10) := ⟨_, okC (ok_ildn X rfl dX5_minds_69)
  (okC (ok_ic X (by decide) dX5_minds_70)
  (okC (ok_ald X dX5_minds_71)
  (okC (ok_get X (ci := 2) rfl (by decide) iw_X2 tw_701 dX5_minds_73)
  (okC (ok_len X dX5_minds_76)
  (okC (ok_calS X (i := 67) (e := en_95) rfl mt_95 rfl rfl rfl tw_239 tw_240 dX5_minds_77)
  (okN)))))), ok_ifeq X (by decide) rfl dX5_minds_80⟩
set_option maxRecDepth 20000 in
theorem ob_X5_minds_10 {x : ip_Cx} {G : ip_Gl} {d : Nat} (X : ip_X x G tb 7 d 0 0 RX5 cX5_minds) (hr : x.2.2.2.2.2.2.2.2.1.sig.returnType = (some .int)) (hnm : x.2.2.2.2.2.2.2.2.1.name = "minds") : ip_okB x G 7 pc_X5_minds 83 ([oLdI 4, oLdA 5, oGet 2 1, oLen, oLdI 2, oBI (fun a b => a - b)], tCm (fun a b => b < a) 11 12) := ⟨_, okC (ok_ild X dX5_minds_83)
  (okC (ok_ald X dX5_minds_85)
  (okC (ok_get X (ci := 2) rfl (by decide) iw_X2 tw_701 dX5_minds_87)
  (okC (ok_len X dX5_minds_90)
  (okC (ok_ildn X rfl dX5_minds_91)
  (okC (ok_isub X dX5_minds_92)
  (okN)))))), ok_cmle X (by decide) rfl dX5_minds_93⟩
set_option maxRecDepth 20000 in
theorem ob_X5_minds_11 {x : ip_Cx} {G : ip_Gl} {d : Nat} (X : ip_X x G tb 7 d 0 0 RX5 cX5_minds) (hr : x.2.2.2.2.2.2.2.2.1.sig.returnType = (some .int)) (hnm : x.2.2.2.2.2.2.2.2.1.name = "minds") : ip_okB x G 7 pc_X5_minds 96 ([oI (-12)], tRI .int 0 0) := ⟨_, okC (ok_bi X (by decide) dX5_minds_96)
  (okN), ok_ret X hr dX5_minds_98⟩
set_option maxRecDepth 20000 in
theorem ob_X5_minds_12 {x : ip_Cx} {G : ip_Gl} {d : Nat} (X : ip_X x G tb 7 d 0 0 RX5 cX5_minds) (hr : x.2.2.2.2.2.2.2.2.1.sig.returnType = (some .int)) (hnm : x.2.2.2.2.2.2.2.2.1.name = "minds") : ip_okB x G 7 pc_X5_minds 99 ([oI (0), oStI 6], tGo 13) := ⟨_, okC (ok_ic X (by decide) dX5_minds_99)
  (okC (ok_ist X (by decide) dX5_minds_100)
  (okN)), ok_fall rfl⟩
set_option maxRecDepth 20000 in
theorem ob_X5_minds_13 {x : ip_Cx} {G : ip_Gl} {d : Nat} (X : ip_X x G tb 7 d 0 0 RX5 cX5_minds) (hr : x.2.2.2.2.2.2.2.2.1.sig.returnType = (some .int)) (hnm : x.2.2.2.2.2.2.2.2.1.name = "minds") : ip_okB x G 7 pc_X5_minds 102 ([oLdI 6, oLdI 4], tCm (fun a b => a < b) 14 15) := ⟨_, okC (ok_ild X dX5_minds_102)
  (okC (ok_ild X dX5_minds_104)
  (okN)), ok_cmge X (by decide) rfl dX5_minds_106⟩
set_option maxRecDepth 20000 in
theorem ob_X5_minds_14 {x : ip_Cx} {G : ip_Gl} {d : Nat} (X : ip_X x G tb 7 d 0 0 RX5 cX5_minds) (hr : x.2.2.2.2.2.2.2.2.1.sig.returnType = (some .int)) (hnm : x.2.2.2.2.2.2.2.2.1.name = "minds") : ip_okB x G 7 pc_X5_minds 109 ([oLdA 0, oGet 5 0, oGet 1 6, oLdI 3, oLdI 6, oBI (fun a b => a + b), oI (0), oI (99), oLdA 5, oGet 2 1, oLdI 2, oLdI 6, oBI (fun a b => a + b), oAldI, oMin 0 0, oMax 0 0, oAstI, oInc 6 (1)], tGo 13) := ⟨_, okC (ok_aldn X rfl dX5_minds_109)
  (okC (ok_get X (ci := 5) rfl (by decide) iw_X5 tw_198 dX5_minds_110)
  (okC (ok_get X (ci := 1) rfl (by decide) iw_X1 tw_59 dX5_minds_113)
  (okC (ok_ildn X rfl dX5_minds_116)
  (okC (ok_ild X dX5_minds_117)
  (okC (ok_iadd X dX5_minds_119)
  (okC (ok_ic X (by decide) dX5_minds_120)
  (okC (ok_bi X (by decide) dX5_minds_121)
  (okC (ok_ald X dX5_minds_123)
  (okC (ok_get X (ci := 2) rfl (by decide) iw_X2 tw_701 dX5_minds_125)
  (okC (ok_ildn X rfl dX5_minds_128)
  (okC (ok_ild X dX5_minds_129)
  (okC (ok_iadd X dX5_minds_131)
  (okC (ok_iald X dX5_minds_132)
  (okC (ok_min X tw_597 tw_506 tw_13 tw_507 dX5_minds_133)
  (okC (ok_max X tw_579 tw_549 tw_13 tw_550 dX5_minds_136)
  (okC (ok_iast X dX5_minds_139)
  (okC (ok_inc X (by decide) dX5_minds_140)
  (okN)))))))))))))))))), ok_go X (by decide) dX5_minds_143⟩
set_option maxRecDepth 20000 in
theorem ob_X5_minds_15 {x : ip_Cx} {G : ip_Gl} {d : Nat} (X : ip_X x G tb 7 d 0 0 RX5 cX5_minds) (hr : x.2.2.2.2.2.2.2.2.1.sig.returnType = (some .int)) (hnm : x.2.2.2.2.2.2.2.2.1.name = "minds") : ip_okB x G 7 pc_X5_minds 146 ([oLdI 4], tRI .int 0 0) := ⟨_, okC (ok_ild X dX5_minds_146)
  (okN), ok_ret X hr dX5_minds_148⟩
theorem om_84 : ip_MOk tb en_84 pc_X5_minds := fun x G d X hr hnm => ⟨ob_X5_minds_0 X hr hnm, ⟨ob_X5_minds_1 X hr hnm, ⟨ob_X5_minds_2 X hr hnm, ⟨ob_X5_minds_3 X hr hnm, ⟨ob_X5_minds_4 X hr hnm, ⟨ob_X5_minds_5 X hr hnm, ⟨ob_X5_minds_6 X hr hnm, ⟨ob_X5_minds_7 X hr hnm, ⟨ob_X5_minds_8 X hr hnm, ⟨ob_X5_minds_9 X hr hnm, ⟨ob_X5_minds_10 X hr hnm, ⟨ob_X5_minds_11 X hr hnm, ⟨ob_X5_minds_12 X hr hnm, ⟨ob_X5_minds_13 X hr hnm, ⟨ob_X5_minds_14 X hr hnm, ⟨ob_X5_minds_15 X hr hnm, trivial⟩⟩⟩⟩⟩⟩⟩⟩⟩⟩⟩⟩⟩⟩⟩⟩
theorem dX5_sheet_0 : decode cX5_sheet 0 = .ok (.iload_n 1, 1) := by decide +kernel
theorem dX5_sheet_1 : decode cX5_sheet 1 = .ok (.invokestatic 222, 3) := by decide +kernel
theorem dX5_sheet_4 : decode cX5_sheet 4 = .ok (.ifCond .ne 5, 3) := by decide +kernel
theorem dX5_sheet_7 : decode cX5_sheet 7 = .ok (.iconst (-1), 1) := by decide +kernel
theorem dX5_sheet_8 : decode cX5_sheet 8 = .ok (.ireturn, 1) := by decide +kernel
theorem dX5_sheet_9 : decode cX5_sheet 9 = .ok (.iload_n 2, 1) := by decide +kernel
theorem dX5_sheet_10 : decode cX5_sheet 10 = .ok (.iconst (-1), 1) := by decide +kernel
theorem dX5_sheet_11 : decode cX5_sheet 11 = .ok (.if_icmp .ne 12, 3) := by decide +kernel
theorem dX5_sheet_14 : decode cX5_sheet 14 = .ok (.aload_n 0, 1) := by decide +kernel
theorem dX5_sheet_15 : decode cX5_sheet 15 = .ok (.getfield 57, 3) := by decide +kernel
theorem dX5_sheet_18 : decode cX5_sheet 18 = .ok (.iload_n 1, 1) := by decide +kernel
theorem dX5_sheet_19 : decode cX5_sheet 19 = .ok (.aconst_null, 1) := by decide +kernel
theorem dX5_sheet_20 : decode cX5_sheet 20 = .ok (.aastore, 1) := by decide +kernel
theorem dX5_sheet_21 : decode cX5_sheet 21 = .ok (.iconst 1, 1) := by decide +kernel
theorem dX5_sheet_22 : decode cX5_sheet 22 = .ok (.ireturn, 1) := by decide +kernel
theorem dX5_sheet_23 : decode cX5_sheet 23 = .ok (.iload_n 2, 1) := by decide +kernel
theorem dX5_sheet_24 : decode cX5_sheet 24 = .ok (.invokestatic 263, 3) := by decide +kernel
theorem dX5_sheet_27 : decode cX5_sheet 27 = .ok (.ifCond .eq 9, 3) := by decide +kernel
theorem dX5_sheet_30 : decode cX5_sheet 30 = .ok (.iload_n 3, 1) := by decide +kernel
theorem dX5_sheet_31 : decode cX5_sheet 31 = .ok (.bipush 40, 2) := by decide +kernel
theorem dX5_sheet_33 : decode cX5_sheet 33 = .ok (.if_icmp .le 5, 3) := by decide +kernel
theorem dX5_sheet_36 : decode cX5_sheet 36 = .ok (.iconst (-1), 1) := by decide +kernel
theorem dX5_sheet_37 : decode cX5_sheet 37 = .ok (.ireturn, 1) := by decide +kernel
theorem dX5_sheet_38 : decode cX5_sheet 38 = .ok (.iload_n 3, 1) := by decide +kernel
theorem dX5_sheet_39 : decode cX5_sheet 39 = .ok (.ifCond .ge 6, 3) := by decide +kernel
theorem dX5_sheet_42 : decode cX5_sheet 42 = .ok (.bipush (-14), 2) := by decide +kernel
theorem dX5_sheet_44 : decode cX5_sheet 44 = .ok (.ireturn, 1) := by decide +kernel
theorem dX5_sheet_45 : decode cX5_sheet 45 = .ok (.aload_n 0, 1) := by decide +kernel
theorem dX5_sheet_46 : decode cX5_sheet 46 = .ok (.getfield 57, 3) := by decide +kernel
theorem dX5_sheet_49 : decode cX5_sheet 49 = .ok (.iload_n 1, 1) := by decide +kernel
theorem dX5_sheet_50 : decode cX5_sheet 50 = .ok (.new 55, 3) := by decide +kernel
theorem dX5_sheet_53 : decode cX5_sheet 53 = .ok (.dup, 1) := by decide +kernel
theorem dX5_sheet_54 : decode cX5_sheet 54 = .ok (.iload_n 2, 1) := by decide +kernel
theorem dX5_sheet_55 : decode cX5_sheet 55 = .ok (.iload_n 3, 1) := by decide +kernel
theorem dX5_sheet_56 : decode cX5_sheet 56 = .ok (.invokespecial 266, 3) := by decide +kernel
theorem dX5_sheet_59 : decode cX5_sheet 59 = .ok (.aastore, 1) := by decide +kernel
theorem dX5_sheet_60 : decode cX5_sheet 60 = .ok (.iconst 1, 1) := by decide +kernel
theorem dX5_sheet_61 : decode cX5_sheet 61 = .ok (.ireturn, 1) := by decide +kernel
def pc_X5_sheet (i : Nat) : Nat := ([0, 7, 9, 14, 23, 30, 36, 38, 42, 45] : List Nat).getD i 0
set_option maxRecDepth 20000 in
theorem ob_X5_sheet_0 {x : ip_Cx} {G : ip_Gl} {d : Nat} (X : ip_X x G tb 4 d 2 42 RX5 cX5_sheet) (hr : x.2.2.2.2.2.2.2.2.1.sig.returnType = (some .int)) (hnm : x.2.2.2.2.2.2.2.2.1.name = "sheet") : ip_okB x G 4 pc_X5_sheet 0 ([oLdI 1, oCal (ip_call tb d) 2 42 99 1 0 0], tIf (fun a => a = 0) 1 2) := ⟨_, okC (ok_ildn X rfl dX5_sheet_0)
  (okC (ok_calS X (i := 222) (e := en_99) rfl mt_99 rfl rfl rfl tw_624 tw_625 dX5_sheet_1)
  (okN)), ok_ifne X (by decide) rfl dX5_sheet_4⟩
set_option maxRecDepth 20000 in
theorem ob_X5_sheet_1 {x : ip_Cx} {G : ip_Gl} {d : Nat} (X : ip_X x G tb 4 d 2 42 RX5 cX5_sheet) (hr : x.2.2.2.2.2.2.2.2.1.sig.returnType = (some .int)) (hnm : x.2.2.2.2.2.2.2.2.1.name = "sheet") : ip_okB x G 4 pc_X5_sheet 7 ([oI (-1)], tRI .int 2 42) := ⟨_, okC (ok_ic X (by decide) dX5_sheet_7)
  (okN), ok_ret X hr dX5_sheet_8⟩
set_option maxRecDepth 20000 in
theorem ob_X5_sheet_2 {x : ip_Cx} {G : ip_Gl} {d : Nat} (X : ip_X x G tb 4 d 2 42 RX5 cX5_sheet) (hr : x.2.2.2.2.2.2.2.2.1.sig.returnType = (some .int)) (hnm : x.2.2.2.2.2.2.2.2.1.name = "sheet") : ip_okB x G 4 pc_X5_sheet 9 ([oLdI 2, oI (-1)], tCm (fun a b => a = b) 3 4) := ⟨_, okC (ok_ildn X rfl dX5_sheet_9)
  (okC (ok_ic X (by decide) dX5_sheet_10)
  (okN)), ok_cmne X (by decide) rfl dX5_sheet_11⟩
set_option maxRecDepth 20000 in
theorem ob_X5_sheet_3 {x : ip_Cx} {G : ip_Gl} {d : Nat} (X : ip_X x G tb 4 d 2 42 RX5 cX5_sheet) (hr : x.2.2.2.2.2.2.2.2.1.sig.returnType = (some .int)) (hnm : x.2.2.2.2.2.2.2.2.1.name = "sheet") : ip_okB x G 4 pc_X5_sheet 14 ([oLdA 0, oGet 5 9, oLdI 1, oNul, oAstA, oI (1)], tRI .int 2 42) := ⟨_, okC (ok_aldn X rfl dX5_sheet_14)
  (okC (ok_get X (ci := 5) rfl (by decide) iw_X5 tw_207 dX5_sheet_15)
  (okC (ok_ildn X rfl dX5_sheet_18)
  (okC (ok_nul X dX5_sheet_19)
  (okC (ok_aast X dX5_sheet_20)
  (okC (ok_ic X (by decide) dX5_sheet_21)
  (okN)))))), ok_ret X hr dX5_sheet_22⟩
set_option maxRecDepth 20000 in
theorem ob_X5_sheet_4 {x : ip_Cx} {G : ip_Gl} {d : Nat} (X : ip_X x G tb 4 d 2 42 RX5 cX5_sheet) (hr : x.2.2.2.2.2.2.2.2.1.sig.returnType = (some .int)) (hnm : x.2.2.2.2.2.2.2.2.1.name = "sheet") : ip_okB x G 4 pc_X5_sheet 23 ([oLdI 2, oCal (ip_call tb d) 2 42 100 1 0 0], tIf (fun a => a = 0) 6 5) := ⟨_, okC (ok_ildn X rfl dX5_sheet_23)
  (okC (ok_calS X (i := 263) (e := en_100) rfl mt_100 rfl rfl rfl tw_688 tw_689 dX5_sheet_24)
  (okN)), ok_ifeq X (by decide) rfl dX5_sheet_27⟩
set_option maxRecDepth 20000 in
theorem ob_X5_sheet_5 {x : ip_Cx} {G : ip_Gl} {d : Nat} (X : ip_X x G tb 4 d 2 42 RX5 cX5_sheet) (hr : x.2.2.2.2.2.2.2.2.1.sig.returnType = (some .int)) (hnm : x.2.2.2.2.2.2.2.2.1.name = "sheet") : ip_okB x G 4 pc_X5_sheet 30 ([oLdI 3, oI (40)], tCm (fun a b => b < a) 6 7) := ⟨_, okC (ok_ildn X rfl dX5_sheet_30)
  (okC (ok_bi X (by decide) dX5_sheet_31)
  (okN)), ok_cmle X (by decide) rfl dX5_sheet_33⟩
set_option maxRecDepth 20000 in
theorem ob_X5_sheet_6 {x : ip_Cx} {G : ip_Gl} {d : Nat} (X : ip_X x G tb 4 d 2 42 RX5 cX5_sheet) (hr : x.2.2.2.2.2.2.2.2.1.sig.returnType = (some .int)) (hnm : x.2.2.2.2.2.2.2.2.1.name = "sheet") : ip_okB x G 4 pc_X5_sheet 36 ([oI (-1)], tRI .int 2 42) := ⟨_, okC (ok_ic X (by decide) dX5_sheet_36)
  (okN), ok_ret X hr dX5_sheet_37⟩
set_option maxRecDepth 20000 in
theorem ob_X5_sheet_7 {x : ip_Cx} {G : ip_Gl} {d : Nat} (X : ip_X x G tb 4 d 2 42 RX5 cX5_sheet) (hr : x.2.2.2.2.2.2.2.2.1.sig.returnType = (some .int)) (hnm : x.2.2.2.2.2.2.2.2.1.name = "sheet") : ip_okB x G 4 pc_X5_sheet 38 ([oLdI 3], tIf (fun a => a < 0) 8 9) := ⟨_, okC (ok_ildn X rfl dX5_sheet_38)
  (okN), ok_ifge X (by decide) rfl dX5_sheet_39⟩
set_option maxRecDepth 20000 in
theorem ob_X5_sheet_8 {x : ip_Cx} {G : ip_Gl} {d : Nat} (X : ip_X x G tb 4 d 2 42 RX5 cX5_sheet) (hr : x.2.2.2.2.2.2.2.2.1.sig.returnType = (some .int)) (hnm : x.2.2.2.2.2.2.2.2.1.name = "sheet") : ip_okB x G 4 pc_X5_sheet 42 ([oI (-14)], tRI .int 2 42) := ⟨_, okC (ok_bi X (by decide) dX5_sheet_42)
  (okN), ok_ret X hr dX5_sheet_44⟩
set_option maxRecDepth 20000 in
theorem ob_X5_sheet_9 {x : ip_Cx} {G : ip_Gl} {d : Nat} (X : ip_X x G tb 4 d 2 42 RX5 cX5_sheet) (hr : x.2.2.2.2.2.2.2.2.1.sig.returnType = (some .int)) (hnm : x.2.2.2.2.2.2.2.2.1.name = "sheet") : ip_okB x G 4 pc_X5_sheet 45 ([oLdA 0, oGet 5 9, oLdI 1, oNew 2 42 2 [.int 0, .null], oDup, oLdI 2, oLdI 3, oCaV (ip_call tb d) 2 42 2 20 3 1 40, oAstA, oI (1)], tRI .int 2 42) := ⟨_, okC (ok_aldn X rfl dX5_sheet_45)
  (okC (ok_get X (ci := 5) rfl (by decide) iw_X5 tw_207 dX5_sheet_46)
  (okC (ok_ildn X rfl dX5_sheet_49)
  (okC (ok_new X (ci := 2) rfl iw_X2 tyX2_ok rfl tw_196 tw_691 tw_14 dX5_sheet_50)
  (okC (ok_dup X dX5_sheet_53)
  (okC (ok_ildn X rfl dX5_sheet_54)
  (okC (ok_ildn X rfl dX5_sheet_55)
  (okC (ok_calI X (i := 266) (e := en_20) rfl mt_20 rfl rfl rfl tw_692 tw_693 rfl rfl dX5_sheet_56)
  (okC (ok_aast X dX5_sheet_59)
  (okC (ok_ic X (by decide) dX5_sheet_60)
  (okN)))))))))), ok_ret X hr dX5_sheet_61⟩
theorem om_85 : ip_MOk tb en_85 pc_X5_sheet := fun x G d X hr hnm => ⟨ob_X5_sheet_0 X hr hnm, ⟨ob_X5_sheet_1 X hr hnm, ⟨ob_X5_sheet_2 X hr hnm, ⟨ob_X5_sheet_3 X hr hnm, ⟨ob_X5_sheet_4 X hr hnm, ⟨ob_X5_sheet_5 X hr hnm, ⟨ob_X5_sheet_6 X hr hnm, ⟨ob_X5_sheet_7 X hr hnm, ⟨ob_X5_sheet_8 X hr hnm, ⟨ob_X5_sheet_9 X hr hnm, trivial⟩⟩⟩⟩⟩⟩⟩⟩⟩⟩
theorem dX5_put_0 : decode cX5_put 0 = .ok (.iload_n 1, 1) := by decide +kernel
theorem dX5_put_1 : decode cX5_put 1 = .ok (.invokestatic 222, 3) := by decide +kernel
theorem dX5_put_4 : decode cX5_put 4 = .ok (.ifCond .ne 5, 3) := by decide +kernel
theorem dX5_put_7 : decode cX5_put 7 = .ok (.iconst (-1), 1) := by decide +kernel
theorem dX5_put_8 : decode cX5_put 8 = .ok (.ireturn, 1) := by decide +kernel
theorem dX5_put_9 : decode cX5_put 9 = .ok (.aload_n 0, 1) := by decide +kernel
theorem dX5_put_10 : decode cX5_put 10 = .ok (.getfield 57, 3) := by decide +kernel
theorem dX5_put_13 : decode cX5_put 13 = .ok (.iload_n 1, 1) := by decide +kernel
theorem dX5_put_14 : decode cX5_put 14 = .ok (.aaload, 1) := by decide +kernel
theorem dX5_put_15 : decode cX5_put 15 = .ok (.astore 4, 2) := by decide +kernel
theorem dX5_put_17 : decode cX5_put 17 = .ok (.aload 4, 2) := by decide +kernel
theorem dX5_put_19 : decode cX5_put 19 = .ok (.ifnonnull 6, 3) := by decide +kernel
theorem dX5_put_22 : decode cX5_put 22 = .ok (.bipush (-11), 2) := by decide +kernel
theorem dX5_put_24 : decode cX5_put 24 = .ok (.ireturn, 1) := by decide +kernel
theorem dX5_put_25 : decode cX5_put 25 = .ok (.iload_n 2, 1) := by decide +kernel
theorem dX5_put_26 : decode cX5_put 26 = .ok (.iconst 0, 1) := by decide +kernel
theorem dX5_put_27 : decode cX5_put 27 = .ok (.aload 4, 2) := by decide +kernel
theorem dX5_put_29 : decode cX5_put 29 = .ok (.getfield 257, 3) := by decide +kernel
theorem dX5_put_32 : decode cX5_put 32 = .ok (.arraylength, 1) := by decide +kernel
theorem dX5_put_33 : decode cX5_put 33 = .ok (.iconst 1, 1) := by decide +kernel
theorem dX5_put_34 : decode cX5_put 34 = .ok (.isub, 1) := by decide +kernel
theorem dX5_put_35 : decode cX5_put 35 = .ok (.invokestatic 67, 3) := by decide +kernel
theorem dX5_put_38 : decode cX5_put 38 = .ok (.ifCond .ne 6, 3) := by decide +kernel
theorem dX5_put_41 : decode cX5_put 41 = .ok (.bipush (-12), 2) := by decide +kernel
theorem dX5_put_43 : decode cX5_put 43 = .ok (.ireturn, 1) := by decide +kernel
theorem dX5_put_44 : decode cX5_put 44 = .ok (.aload 4, 2) := by decide +kernel
theorem dX5_put_46 : decode cX5_put 46 = .ok (.getfield 257, 3) := by decide +kernel
theorem dX5_put_49 : decode cX5_put 49 = .ok (.iload_n 2, 1) := by decide +kernel
theorem dX5_put_50 : decode cX5_put 50 = .ok (.aload 4, 2) := by decide +kernel
theorem dX5_put_52 : decode cX5_put 52 = .ok (.iload_n 3, 1) := by decide +kernel
theorem dX5_put_53 : decode cX5_put 53 = .ok (.invokevirtual 269, 3) := by decide +kernel
theorem dX5_put_56 : decode cX5_put 56 = .ok (.iastore, 1) := by decide +kernel
theorem dX5_put_57 : decode cX5_put 57 = .ok (.iconst 1, 1) := by decide +kernel
theorem dX5_put_58 : decode cX5_put 58 = .ok (.ireturn, 1) := by decide +kernel
def pc_X5_put (i : Nat) : Nat := ([0, 7, 9, 22, 25, 41, 44] : List Nat).getD i 0
set_option maxRecDepth 20000 in
theorem ob_X5_put_0 {x : ip_Cx} {G : ip_Gl} {d : Nat} (X : ip_X x G tb 5 d 0 0 RX5 cX5_put) (hr : x.2.2.2.2.2.2.2.2.1.sig.returnType = (some .int)) (hnm : x.2.2.2.2.2.2.2.2.1.name = "put") : ip_okB x G 5 pc_X5_put 0 ([oLdI 1, oCal (ip_call tb d) 0 0 99 1 0 0], tIf (fun a => a = 0) 1 2) := ⟨_, okC (ok_ildn X rfl dX5_put_0)
  (okC (ok_calS X (i := 222) (e := en_99) rfl mt_99 rfl rfl rfl tw_624 tw_625 dX5_put_1)
  (okN)), ok_ifne X (by decide) rfl dX5_put_4⟩
set_option maxRecDepth 20000 in
theorem ob_X5_put_1 {x : ip_Cx} {G : ip_Gl} {d : Nat} (X : ip_X x G tb 5 d 0 0 RX5 cX5_put) (hr : x.2.2.2.2.2.2.2.2.1.sig.returnType = (some .int)) (hnm : x.2.2.2.2.2.2.2.2.1.name = "put") : ip_okB x G 5 pc_X5_put 7 ([oI (-1)], tRI .int 0 0) := ⟨_, okC (ok_ic X (by decide) dX5_put_7)
  (okN), ok_ret X hr dX5_put_8⟩
set_option maxRecDepth 20000 in
theorem ob_X5_put_2 {x : ip_Cx} {G : ip_Gl} {d : Nat} (X : ip_X x G tb 5 d 0 0 RX5 cX5_put) (hr : x.2.2.2.2.2.2.2.2.1.sig.returnType = (some .int)) (hnm : x.2.2.2.2.2.2.2.2.1.name = "put") : ip_okB x G 5 pc_X5_put 9 ([oLdA 0, oGet 5 9, oLdI 1, oAldA, oStA 4, oLdA 4], tNu 3 4) := ⟨_, okC (ok_aldn X rfl dX5_put_9)
  (okC (ok_get X (ci := 5) rfl (by decide) iw_X5 tw_207 dX5_put_10)
  (okC (ok_ildn X rfl dX5_put_13)
  (okC (ok_aald X dX5_put_14)
  (okC (ok_ast X (by decide) dX5_put_15)
  (okC (ok_ald X dX5_put_17)
  (okN)))))), ok_ifnn X (by decide) rfl dX5_put_19⟩
set_option maxRecDepth 20000 in
theorem ob_X5_put_3 {x : ip_Cx} {G : ip_Gl} {d : Nat} (X : ip_X x G tb 5 d 0 0 RX5 cX5_put) (hr : x.2.2.2.2.2.2.2.2.1.sig.returnType = (some .int)) (hnm : x.2.2.2.2.2.2.2.2.1.name = "put") : ip_okB x G 5 pc_X5_put 22 ([oI (-11)], tRI .int 0 0) := ⟨_, okC (ok_bi X (by decide) dX5_put_22)
  (okN), ok_ret X hr dX5_put_24⟩
set_option maxRecDepth 20000 in
theorem ob_X5_put_4 {x : ip_Cx} {G : ip_Gl} {d : Nat} (X : ip_X x G tb 5 d 0 0 RX5 cX5_put) (hr : x.2.2.2.2.2.2.2.2.1.sig.returnType = (some .int)) (hnm : x.2.2.2.2.2.2.2.2.1.name = "put") : ip_okB x G 5 pc_X5_put 25 ([oLdI 2, oI (0), oLdA 4, oGet 2 1, oLen, oI (1), oBI (fun a b => a - b), oCal (ip_call tb d) 0 0 95 3 0 0], tIf (fun a => a = 0) 5 6) := ⟨_, okC (ok_ildn X rfl dX5_put_25)
  (okC (ok_ic X (by decide) dX5_put_26)
  (okC (ok_ald X dX5_put_27)
  (okC (ok_get X (ci := 2) rfl (by decide) iw_X2 tw_701 dX5_put_29)
  (okC (ok_len X dX5_put_32)
  (okC (ok_ic X (by decide) dX5_put_33)
  (okC (ok_isub X dX5_put_34)
  (okC (ok_calS X (i := 67) (e := en_95) rfl mt_95 rfl rfl rfl tw_239 tw_240 dX5_put_35)
  (okN)))))))), ok_ifne X (by decide) rfl dX5_put_38⟩
set_option maxRecDepth 20000 in
theorem ob_X5_put_5 {x : ip_Cx} {G : ip_Gl} {d : Nat} (X : ip_X x G tb 5 d 0 0 RX5 cX5_put) (hr : x.2.2.2.2.2.2.2.2.1.sig.returnType = (some .int)) (hnm : x.2.2.2.2.2.2.2.2.1.name = "put") : ip_okB x G 5 pc_X5_put 41 ([oI (-12)], tRI .int 0 0) := ⟨_, okC (ok_bi X (by decide) dX5_put_41)
  (okN), ok_ret X hr dX5_put_43⟩
set_option maxRecDepth 20000 in
theorem ob_X5_put_6 {x : ip_Cx} {G : ip_Gl} {d : Nat} (X : ip_X x G tb 5 d 0 0 RX5 cX5_put) (hr : x.2.2.2.2.2.2.2.2.1.sig.returnType = (some .int)) (hnm : x.2.2.2.2.2.2.2.2.1.name = "put") : ip_okB x G 5 pc_X5_put 44 ([oLdA 4, oGet 2 1, oLdI 2, oLdA 4, oLdI 3, oCaV (ip_call tb d) 0 0 2 21 2 0 0, oAstI, oI (1)], tRI .int 0 0) := ⟨_, okC (ok_ald X dX5_put_44)
  (okC (ok_get X (ci := 2) rfl (by decide) iw_X2 tw_701 dX5_put_46)
  (okC (ok_ildn X rfl dX5_put_49)
  (okC (ok_ald X dX5_put_50)
  (okC (ok_ildn X rfl dX5_put_52)
  (okC (ok_calV X (i := 269) (e := en_21) rfl mt_21 rfl rfl rfl tw_711 tw_712 (Or.inl ⟨_, _, rfl⟩) tw_713 dX5_put_53)
  (okC (ok_iast X dX5_put_56)
  (okC (ok_ic X (by decide) dX5_put_57)
  (okN)))))))), ok_ret X hr dX5_put_58⟩
theorem om_86 : ip_MOk tb en_86 pc_X5_put := fun x G d X hr hnm => ⟨ob_X5_put_0 X hr hnm, ⟨ob_X5_put_1 X hr hnm, ⟨ob_X5_put_2 X hr hnm, ⟨ob_X5_put_3 X hr hnm, ⟨ob_X5_put_4 X hr hnm, ⟨ob_X5_put_5 X hr hnm, ⟨ob_X5_put_6 X hr hnm, trivial⟩⟩⟩⟩⟩⟩⟩
theorem dX5_item_0 : decode cX5_item 0 = .ok (.iload_n 1, 1) := by decide +kernel
theorem dX5_item_1 : decode cX5_item 1 = .ok (.invokestatic 222, 3) := by decide +kernel
theorem dX5_item_4 : decode cX5_item 4 = .ok (.ifCond .eq 10, 3) := by decide +kernel
theorem dX5_item_7 : decode cX5_item 7 = .ok (.iload_n 2, 1) := by decide +kernel
theorem dX5_item_8 : decode cX5_item 8 = .ok (.invokestatic 263, 3) := by decide +kernel
theorem dX5_item_11 : decode cX5_item 11 = .ok (.ifCond .ne 5, 3) := by decide +kernel
theorem dX5_item_14 : decode cX5_item 14 = .ok (.iconst (-1), 1) := by decide +kernel
theorem dX5_item_15 : decode cX5_item 15 = .ok (.ireturn, 1) := by decide +kernel
theorem dX5_item_16 : decode cX5_item 16 = .ok (.aload_n 0, 1) := by decide +kernel
theorem dX5_item_17 : decode cX5_item 17 = .ok (.getfield 57, 3) := by decide +kernel
theorem dX5_item_20 : decode cX5_item 20 = .ok (.iload_n 1, 1) := by decide +kernel
theorem dX5_item_21 : decode cX5_item 21 = .ok (.aaload, 1) := by decide +kernel
theorem dX5_item_22 : decode cX5_item 22 = .ok (.astore 4, 2) := by decide +kernel
theorem dX5_item_24 : decode cX5_item 24 = .ok (.aload 4, 2) := by decide +kernel
theorem dX5_item_26 : decode cX5_item 26 = .ok (.ifnonnull 6, 3) := by decide +kernel
theorem dX5_item_29 : decode cX5_item 29 = .ok (.bipush (-11), 2) := by decide +kernel
theorem dX5_item_31 : decode cX5_item 31 = .ok (.ireturn, 1) := by decide +kernel
theorem dX5_item_32 : decode cX5_item 32 = .ok (.aload 4, 2) := by decide +kernel
theorem dX5_item_34 : decode cX5_item 34 = .ok (.getfield 254, 3) := by decide +kernel
theorem dX5_item_37 : decode cX5_item 37 = .ok (.iload_n 2, 1) := by decide +kernel
theorem dX5_item_38 : decode cX5_item 38 = .ok (.if_icmp .eq 6, 3) := by decide +kernel
theorem dX5_item_41 : decode cX5_item 41 = .ok (.bipush (-13), 2) := by decide +kernel
theorem dX5_item_43 : decode cX5_item 43 = .ok (.ireturn, 1) := by decide +kernel
theorem dX5_item_44 : decode cX5_item 44 = .ok (.iload_n 3, 1) := by decide +kernel
theorem dX5_item_45 : decode cX5_item 45 = .ok (.iconst 0, 1) := by decide +kernel
theorem dX5_item_46 : decode cX5_item 46 = .ok (.aload 4, 2) := by decide +kernel
theorem dX5_item_48 : decode cX5_item 48 = .ok (.getfield 257, 3) := by decide +kernel
theorem dX5_item_51 : decode cX5_item 51 = .ok (.arraylength, 1) := by decide +kernel
theorem dX5_item_52 : decode cX5_item 52 = .ok (.iconst 1, 1) := by decide +kernel
theorem dX5_item_53 : decode cX5_item 53 = .ok (.isub, 1) := by decide +kernel
theorem dX5_item_54 : decode cX5_item 54 = .ok (.invokestatic 67, 3) := by decide +kernel
theorem dX5_item_57 : decode cX5_item 57 = .ok (.ifCond .eq 13, 3) := by decide +kernel
theorem dX5_item_60 : decode cX5_item 60 = .ok (.aload 4, 2) := by decide +kernel
theorem dX5_item_62 : decode cX5_item 62 = .ok (.getfield 257, 3) := by decide +kernel
theorem dX5_item_65 : decode cX5_item 65 = .ok (.iload_n 3, 1) := by decide +kernel
theorem dX5_item_66 : decode cX5_item 66 = .ok (.iaload, 1) := by decide +kernel
theorem dX5_item_67 : decode cX5_item 67 = .ok (.goto 5, 3) := by decide +kernel
theorem dX5_item_70 : decode cX5_item 70 = .ok (.bipush (-12), 2) := by decide +kernel
theorem dX5_item_72 : decode cX5_item 72 = .ok (.ireturn, 1) := by decide +kernel
def pc_X5_item (i : Nat) : Nat := ([0, 7, 14, 16, 29, 32, 41, 44, 60, 70, 72] : List Nat).getD i 0
set_option maxRecDepth 20000 in
theorem ob_X5_item_0 {x : ip_Cx} {G : ip_Gl} {d : Nat} (X : ip_X x G tb 5 d 0 0 RX5 cX5_item) (hr : x.2.2.2.2.2.2.2.2.1.sig.returnType = (some .int)) (hnm : x.2.2.2.2.2.2.2.2.1.name = "item") : ip_okB x G 5 pc_X5_item 0 ([oLdI 1, oCal (ip_call tb d) 0 0 99 1 0 0], tIf (fun a => a = 0) 2 1) := ⟨_, okC (ok_ildn X rfl dX5_item_0)
  (okC (ok_calS X (i := 222) (e := en_99) rfl mt_99 rfl rfl rfl tw_624 tw_625 dX5_item_1)
  (okN)), ok_ifeq X (by decide) rfl dX5_item_4⟩
set_option maxRecDepth 20000 in
theorem ob_X5_item_1 {x : ip_Cx} {G : ip_Gl} {d : Nat} (X : ip_X x G tb 5 d 0 0 RX5 cX5_item) (hr : x.2.2.2.2.2.2.2.2.1.sig.returnType = (some .int)) (hnm : x.2.2.2.2.2.2.2.2.1.name = "item") : ip_okB x G 5 pc_X5_item 7 ([oLdI 2, oCal (ip_call tb d) 0 0 100 1 0 0], tIf (fun a => a = 0) 2 3) := ⟨_, okC (ok_ildn X rfl dX5_item_7)
  (okC (ok_calS X (i := 263) (e := en_100) rfl mt_100 rfl rfl rfl tw_688 tw_689 dX5_item_8)
  (okN)), ok_ifne X (by decide) rfl dX5_item_11⟩
set_option maxRecDepth 20000 in
theorem ob_X5_item_2 {x : ip_Cx} {G : ip_Gl} {d : Nat} (X : ip_X x G tb 5 d 0 0 RX5 cX5_item) (hr : x.2.2.2.2.2.2.2.2.1.sig.returnType = (some .int)) (hnm : x.2.2.2.2.2.2.2.2.1.name = "item") : ip_okB x G 5 pc_X5_item 14 ([oI (-1)], tRI .int 0 0) := ⟨_, okC (ok_ic X (by decide) dX5_item_14)
  (okN), ok_ret X hr dX5_item_15⟩
set_option maxRecDepth 20000 in
theorem ob_X5_item_3 {x : ip_Cx} {G : ip_Gl} {d : Nat} (X : ip_X x G tb 5 d 0 0 RX5 cX5_item) (hr : x.2.2.2.2.2.2.2.2.1.sig.returnType = (some .int)) (hnm : x.2.2.2.2.2.2.2.2.1.name = "item") : ip_okB x G 5 pc_X5_item 16 ([oLdA 0, oGet 5 9, oLdI 1, oAldA, oStA 4, oLdA 4], tNu 4 5) := ⟨_, okC (ok_aldn X rfl dX5_item_16)
  (okC (ok_get X (ci := 5) rfl (by decide) iw_X5 tw_207 dX5_item_17)
  (okC (ok_ildn X rfl dX5_item_20)
  (okC (ok_aald X dX5_item_21)
  (okC (ok_ast X (by decide) dX5_item_22)
  (okC (ok_ald X dX5_item_24)
  (okN)))))), ok_ifnn X (by decide) rfl dX5_item_26⟩
set_option maxRecDepth 20000 in
theorem ob_X5_item_4 {x : ip_Cx} {G : ip_Gl} {d : Nat} (X : ip_X x G tb 5 d 0 0 RX5 cX5_item) (hr : x.2.2.2.2.2.2.2.2.1.sig.returnType = (some .int)) (hnm : x.2.2.2.2.2.2.2.2.1.name = "item") : ip_okB x G 5 pc_X5_item 29 ([oI (-11)], tRI .int 0 0) := ⟨_, okC (ok_bi X (by decide) dX5_item_29)
  (okN), ok_ret X hr dX5_item_31⟩
set_option maxRecDepth 20000 in
theorem ob_X5_item_5 {x : ip_Cx} {G : ip_Gl} {d : Nat} (X : ip_X x G tb 5 d 0 0 RX5 cX5_item) (hr : x.2.2.2.2.2.2.2.2.1.sig.returnType = (some .int)) (hnm : x.2.2.2.2.2.2.2.2.1.name = "item") : ip_okB x G 5 pc_X5_item 32 ([oLdA 4, oGet 2 0, oLdI 2], tCm (fun a b => a = b) 7 6) := ⟨_, okC (ok_ald X dX5_item_32)
  (okC (ok_get X (ci := 2) rfl (by decide) iw_X2 tw_698 dX5_item_34)
  (okC (ok_ildn X rfl dX5_item_37)
  (okN))), ok_cmeq X (by decide) rfl dX5_item_38⟩
set_option maxRecDepth 20000 in
theorem ob_X5_item_6 {x : ip_Cx} {G : ip_Gl} {d : Nat} (X : ip_X x G tb 5 d 0 0 RX5 cX5_item) (hr : x.2.2.2.2.2.2.2.2.1.sig.returnType = (some .int)) (hnm : x.2.2.2.2.2.2.2.2.1.name = "item") : ip_okB x G 5 pc_X5_item 41 ([oI (-13)], tRI .int 0 0) := ⟨_, okC (ok_bi X (by decide) dX5_item_41)
  (okN), ok_ret X hr dX5_item_43⟩
set_option maxRecDepth 20000 in
theorem ob_X5_item_7 {x : ip_Cx} {G : ip_Gl} {d : Nat} (X : ip_X x G tb 5 d 0 0 RX5 cX5_item) (hr : x.2.2.2.2.2.2.2.2.1.sig.returnType = (some .int)) (hnm : x.2.2.2.2.2.2.2.2.1.name = "item") : ip_okB x G 5 pc_X5_item 44 ([oLdI 3, oI (0), oLdA 4, oGet 2 1, oLen, oI (1), oBI (fun a b => a - b), oCal (ip_call tb d) 0 0 95 3 0 0], tIf (fun a => a = 0) 9 8) := ⟨_, okC (ok_ildn X rfl dX5_item_44)
  (okC (ok_ic X (by decide) dX5_item_45)
  (okC (ok_ald X dX5_item_46)
  (okC (ok_get X (ci := 2) rfl (by decide) iw_X2 tw_701 dX5_item_48)
  (okC (ok_len X dX5_item_51)
  (okC (ok_ic X (by decide) dX5_item_52)
  (okC (ok_isub X dX5_item_53)
  (okC (ok_calS X (i := 67) (e := en_95) rfl mt_95 rfl rfl rfl tw_239 tw_240 dX5_item_54)
  (okN)))))))), ok_ifeq X (by decide) rfl dX5_item_57⟩
set_option maxRecDepth 20000 in
theorem ob_X5_item_8 {x : ip_Cx} {G : ip_Gl} {d : Nat} (X : ip_X x G tb 5 d 0 0 RX5 cX5_item) (hr : x.2.2.2.2.2.2.2.2.1.sig.returnType = (some .int)) (hnm : x.2.2.2.2.2.2.2.2.1.name = "item") : ip_okB x G 5 pc_X5_item 60 ([oLdA 4, oGet 2 1, oLdI 3, oAldI], tGo 10) := ⟨_, okC (ok_ald X dX5_item_60)
  (okC (ok_get X (ci := 2) rfl (by decide) iw_X2 tw_701 dX5_item_62)
  (okC (ok_ildn X rfl dX5_item_65)
  (okC (ok_iald X dX5_item_66)
  (okN)))), ok_go X (by decide) dX5_item_67⟩
set_option maxRecDepth 20000 in
theorem ob_X5_item_9 {x : ip_Cx} {G : ip_Gl} {d : Nat} (X : ip_X x G tb 5 d 0 0 RX5 cX5_item) (hr : x.2.2.2.2.2.2.2.2.1.sig.returnType = (some .int)) (hnm : x.2.2.2.2.2.2.2.2.1.name = "item") : ip_okB x G 5 pc_X5_item 70 ([oI (-12)], tGo 10) := ⟨_, okC (ok_bi X (by decide) dX5_item_70)
  (okN), ok_fall rfl⟩
set_option maxRecDepth 20000 in
theorem ob_X5_item_10 {x : ip_Cx} {G : ip_Gl} {d : Nat} (X : ip_X x G tb 5 d 0 0 RX5 cX5_item) (hr : x.2.2.2.2.2.2.2.2.1.sig.returnType = (some .int)) (hnm : x.2.2.2.2.2.2.2.2.1.name = "item") : ip_okB x G 5 pc_X5_item 72 ([], tRI .int 0 0) := ⟨_, okN, ok_ret X hr dX5_item_72⟩
theorem om_87 : ip_MOk tb en_87 pc_X5_item := fun x G d X hr hnm => ⟨ob_X5_item_0 X hr hnm, ⟨ob_X5_item_1 X hr hnm, ⟨ob_X5_item_2 X hr hnm, ⟨ob_X5_item_3 X hr hnm, ⟨ob_X5_item_4 X hr hnm, ⟨ob_X5_item_5 X hr hnm, ⟨ob_X5_item_6 X hr hnm, ⟨ob_X5_item_7 X hr hnm, ⟨ob_X5_item_8 X hr hnm, ⟨ob_X5_item_9 X hr hnm, ⟨ob_X5_item_10 X hr hnm, trivial⟩⟩⟩⟩⟩⟩⟩⟩⟩⟩⟩
theorem dX5_shelf_0 : decode cX5_shelf 0 = .ok (.iload_n 1, 1) := by decide +kernel
theorem dX5_shelf_1 : decode cX5_shelf 1 = .ok (.invokestatic 272, 3) := by decide +kernel
theorem dX5_shelf_4 : decode cX5_shelf 4 = .ok (.ifCond .ne 5, 3) := by decide +kernel
theorem dX5_shelf_7 : decode cX5_shelf 7 = .ok (.iconst (-1), 1) := by decide +kernel
theorem dX5_shelf_8 : decode cX5_shelf 8 = .ok (.ireturn, 1) := by decide +kernel
theorem dX5_shelf_9 : decode cX5_shelf 9 = .ok (.iload_n 2, 1) := by decide +kernel
theorem dX5_shelf_10 : decode cX5_shelf 10 = .ok (.tableswitch 74 0 2 #[26, 44, 66], 26) := by decide +kernel
theorem dX5_shelf_36 : decode cX5_shelf 36 = .ok (.aload_n 0, 1) := by decide +kernel
theorem dX5_shelf_37 : decode cX5_shelf 37 = .ok (.iload_n 3, 1) := by decide +kernel
theorem dX5_shelf_38 : decode cX5_shelf 38 = .ok (.invokevirtual 119, 3) := by decide +kernel
theorem dX5_shelf_41 : decode cX5_shelf 41 = .ok (.ifCond .ne 5, 3) := by decide +kernel
theorem dX5_shelf_44 : decode cX5_shelf 44 = .ok (.iconst (-1), 1) := by decide +kernel
theorem dX5_shelf_45 : decode cX5_shelf 45 = .ok (.ireturn, 1) := by decide +kernel
theorem dX5_shelf_46 : decode cX5_shelf 46 = .ok (.aload_n 0, 1) := by decide +kernel
theorem dX5_shelf_47 : decode cX5_shelf 47 = .ok (.iload_n 1, 1) := by decide +kernel
theorem dX5_shelf_48 : decode cX5_shelf 48 = .ok (.iload_n 3, 1) := by decide +kernel
theorem dX5_shelf_49 : decode cX5_shelf 49 = .ok (.aconst_null, 1) := by decide +kernel
theorem dX5_shelf_50 : decode cX5_shelf 50 = .ok (.invokevirtual 275, 3) := by decide +kernel
theorem dX5_shelf_53 : decode cX5_shelf 53 = .ok (.ireturn, 1) := by decide +kernel
theorem dX5_shelf_54 : decode cX5_shelf 54 = .ok (.iload_n 3, 1) := by decide +kernel
theorem dX5_shelf_55 : decode cX5_shelf 55 = .ok (.invokestatic 222, 3) := by decide +kernel
theorem dX5_shelf_58 : decode cX5_shelf 58 = .ok (.ifCond .ne 5, 3) := by decide +kernel
theorem dX5_shelf_61 : decode cX5_shelf 61 = .ok (.iconst (-1), 1) := by decide +kernel
theorem dX5_shelf_62 : decode cX5_shelf 62 = .ok (.ireturn, 1) := by decide +kernel
theorem dX5_shelf_63 : decode cX5_shelf 63 = .ok (.aload_n 0, 1) := by decide +kernel
theorem dX5_shelf_64 : decode cX5_shelf 64 = .ok (.iload_n 1, 1) := by decide +kernel
theorem dX5_shelf_65 : decode cX5_shelf 65 = .ok (.iconst (-1), 1) := by decide +kernel
theorem dX5_shelf_66 : decode cX5_shelf 66 = .ok (.aload_n 0, 1) := by decide +kernel
theorem dX5_shelf_67 : decode cX5_shelf 67 = .ok (.getfield 57, 3) := by decide +kernel
theorem dX5_shelf_70 : decode cX5_shelf 70 = .ok (.iload_n 3, 1) := by decide +kernel
theorem dX5_shelf_71 : decode cX5_shelf 71 = .ok (.aaload, 1) := by decide +kernel
theorem dX5_shelf_72 : decode cX5_shelf 72 = .ok (.invokevirtual 275, 3) := by decide +kernel
theorem dX5_shelf_75 : decode cX5_shelf 75 = .ok (.ireturn, 1) := by decide +kernel
theorem dX5_shelf_76 : decode cX5_shelf 76 = .ok (.aload_n 0, 1) := by decide +kernel
theorem dX5_shelf_77 : decode cX5_shelf 77 = .ok (.iload_n 1, 1) := by decide +kernel
theorem dX5_shelf_78 : decode cX5_shelf 78 = .ok (.iconst (-1), 1) := by decide +kernel
theorem dX5_shelf_79 : decode cX5_shelf 79 = .ok (.aconst_null, 1) := by decide +kernel
theorem dX5_shelf_80 : decode cX5_shelf 80 = .ok (.invokevirtual 275, 3) := by decide +kernel
theorem dX5_shelf_83 : decode cX5_shelf 83 = .ok (.ireturn, 1) := by decide +kernel
theorem dX5_shelf_84 : decode cX5_shelf 84 = .ok (.iconst (-1), 1) := by decide +kernel
theorem dX5_shelf_85 : decode cX5_shelf 85 = .ok (.ireturn, 1) := by decide +kernel
def pc_X5_shelf (i : Nat) : Nat := ([0, 7, 9, 36, 44, 46, 54, 61, 63, 76, 84] : List Nat).getD i 0
set_option maxRecDepth 20000 in
theorem ob_X5_shelf_0 {x : ip_Cx} {G : ip_Gl} {d : Nat} (X : ip_X x G tb 4 d 0 0 RX5 cX5_shelf) (hr : x.2.2.2.2.2.2.2.2.1.sig.returnType = (some .int)) (hnm : x.2.2.2.2.2.2.2.2.1.name = "shelf") : ip_okB x G 4 pc_X5_shelf 0 ([oLdI 1, oCal (ip_call tb d) 0 0 101 1 0 0], tIf (fun a => a = 0) 1 2) := ⟨_, okC (ok_ildn X rfl dX5_shelf_0)
  (okC (ok_calS X (i := 272) (e := en_101) rfl mt_101 rfl rfl rfl tw_723 tw_724 dX5_shelf_1)
  (okN)), ok_ifne X (by decide) rfl dX5_shelf_4⟩
set_option maxRecDepth 20000 in
theorem ob_X5_shelf_1 {x : ip_Cx} {G : ip_Gl} {d : Nat} (X : ip_X x G tb 4 d 0 0 RX5 cX5_shelf) (hr : x.2.2.2.2.2.2.2.2.1.sig.returnType = (some .int)) (hnm : x.2.2.2.2.2.2.2.2.1.name = "shelf") : ip_okB x G 4 pc_X5_shelf 7 ([oI (-1)], tRI .int 0 0) := ⟨_, okC (ok_ic X (by decide) dX5_shelf_7)
  (okN), ok_ret X hr dX5_shelf_8⟩
set_option maxRecDepth 20000 in
theorem ob_X5_shelf_2 {x : ip_Cx} {G : ip_Gl} {d : Nat} (X : ip_X x G tb 4 d 0 0 RX5 cX5_shelf) (hr : x.2.2.2.2.2.2.2.2.1.sig.returnType = (some .int)) (hnm : x.2.2.2.2.2.2.2.2.1.name = "shelf") : ip_okB x G 4 pc_X5_shelf 9 ([oLdI 2], tSw [(0, 3), (1, 6), (2, 9)] 10) := ⟨_, okC (ok_ildn X rfl dX5_shelf_9)
  (okN), ok_tsw X (by decide) (by decide +kernel) (by decide) dX5_shelf_10⟩
set_option maxRecDepth 20000 in
theorem ob_X5_shelf_3 {x : ip_Cx} {G : ip_Gl} {d : Nat} (X : ip_X x G tb 4 d 0 0 RX5 cX5_shelf) (hr : x.2.2.2.2.2.2.2.2.1.sig.returnType = (some .int)) (hnm : x.2.2.2.2.2.2.2.2.1.name = "shelf") : ip_okB x G 4 pc_X5_shelf 36 ([oLdA 0, oLdI 3, oCaV (ip_call tb d) 0 0 5 102 2 0 0], tIf (fun a => a = 0) 4 5) := ⟨_, okC (ok_aldn X rfl dX5_shelf_36)
  (okC (ok_ildn X rfl dX5_shelf_37)
  (okC (ok_calV X (i := 119) (e := en_102) rfl mt_102 rfl rfl rfl tw_409 tw_411 (Or.inl ⟨_, _, rfl⟩) tp_0 dX5_shelf_38)
  (okN))), ok_ifne X (by decide) rfl dX5_shelf_41⟩
set_option maxRecDepth 20000 in
theorem ob_X5_shelf_4 {x : ip_Cx} {G : ip_Gl} {d : Nat} (X : ip_X x G tb 4 d 0 0 RX5 cX5_shelf) (hr : x.2.2.2.2.2.2.2.2.1.sig.returnType = (some .int)) (hnm : x.2.2.2.2.2.2.2.2.1.name = "shelf") : ip_okB x G 4 pc_X5_shelf 44 ([oI (-1)], tRI .int 0 0) := ⟨_, okC (ok_ic X (by decide) dX5_shelf_44)
  (okN), ok_ret X hr dX5_shelf_45⟩
set_option maxRecDepth 20000 in
theorem ob_X5_shelf_5 {x : ip_Cx} {G : ip_Gl} {d : Nat} (X : ip_X x G tb 4 d 0 0 RX5 cX5_shelf) (hr : x.2.2.2.2.2.2.2.2.1.sig.returnType = (some .int)) (hnm : x.2.2.2.2.2.2.2.2.1.name = "shelf") : ip_okB x G 4 pc_X5_shelf 46 ([oLdA 0, oLdI 1, oLdI 3, oNul, oCaV (ip_call tb d) 0 0 5 107 4 0 0], tRI .int 0 0) := ⟨_, okC (ok_aldn X rfl dX5_shelf_46)
  (okC (ok_ildn X rfl dX5_shelf_47)
  (okC (ok_ildn X rfl dX5_shelf_48)
  (okC (ok_nul X dX5_shelf_49)
  (okC (ok_calV X (i := 275) (e := en_107) rfl mt_107 rfl rfl rfl tw_726 tw_728 (Or.inl ⟨_, _, rfl⟩) tp_8 dX5_shelf_50)
  (okN))))), ok_ret X hr dX5_shelf_53⟩
set_option maxRecDepth 20000 in
theorem ob_X5_shelf_6 {x : ip_Cx} {G : ip_Gl} {d : Nat} (X : ip_X x G tb 4 d 0 0 RX5 cX5_shelf) (hr : x.2.2.2.2.2.2.2.2.1.sig.returnType = (some .int)) (hnm : x.2.2.2.2.2.2.2.2.1.name = "shelf") : ip_okB x G 4 pc_X5_shelf 54 ([oLdI 3, oCal (ip_call tb d) 0 0 99 1 0 0], tIf (fun a => a = 0) 7 8) := ⟨_, okC (ok_ildn X rfl dX5_shelf_54)
  (okC (ok_calS X (i := 222) (e := en_99) rfl mt_99 rfl rfl rfl tw_624 tw_625 dX5_shelf_55)
  (okN)), ok_ifne X (by decide) rfl dX5_shelf_58⟩
set_option maxRecDepth 20000 in
theorem ob_X5_shelf_7 {x : ip_Cx} {G : ip_Gl} {d : Nat} (X : ip_X x G tb 4 d 0 0 RX5 cX5_shelf) (hr : x.2.2.2.2.2.2.2.2.1.sig.returnType = (some .int)) (hnm : x.2.2.2.2.2.2.2.2.1.name = "shelf") : ip_okB x G 4 pc_X5_shelf 61 ([oI (-1)], tRI .int 0 0) := ⟨_, okC (ok_ic X (by decide) dX5_shelf_61)
  (okN), ok_ret X hr dX5_shelf_62⟩
set_option maxRecDepth 20000 in
theorem ob_X5_shelf_8 {x : ip_Cx} {G : ip_Gl} {d : Nat} (X : ip_X x G tb 4 d 0 0 RX5 cX5_shelf) (hr : x.2.2.2.2.2.2.2.2.1.sig.returnType = (some .int)) (hnm : x.2.2.2.2.2.2.2.2.1.name = "shelf") : ip_okB x G 4 pc_X5_shelf 63 ([oLdA 0, oLdI 1, oI (-1), oLdA 0, oGet 5 9, oLdI 3, oAldA, oCaV (ip_call tb d) 0 0 5 107 4 0 0], tRI .int 0 0) := ⟨_, okC (ok_aldn X rfl dX5_shelf_63)
  (okC (ok_ildn X rfl dX5_shelf_64)
  (okC (ok_ic X (by decide) dX5_shelf_65)
  (okC (ok_aldn X rfl dX5_shelf_66)
  (okC (ok_get X (ci := 5) rfl (by decide) iw_X5 tw_207 dX5_shelf_67)
  (okC (ok_ildn X rfl dX5_shelf_70)
  (okC (ok_aald X dX5_shelf_71)
  (okC (ok_calV X (i := 275) (e := en_107) rfl mt_107 rfl rfl rfl tw_726 tw_728 (Or.inl ⟨_, _, rfl⟩) tp_8 dX5_shelf_72)
  (okN)))))))), ok_ret X hr dX5_shelf_75⟩
set_option maxRecDepth 20000 in
theorem ob_X5_shelf_9 {x : ip_Cx} {G : ip_Gl} {d : Nat} (X : ip_X x G tb 4 d 0 0 RX5 cX5_shelf) (hr : x.2.2.2.2.2.2.2.2.1.sig.returnType = (some .int)) (hnm : x.2.2.2.2.2.2.2.2.1.name = "shelf") : ip_okB x G 4 pc_X5_shelf 76 ([oLdA 0, oLdI 1, oI (-1), oNul, oCaV (ip_call tb d) 0 0 5 107 4 0 0], tRI .int 0 0) := ⟨_, okC (ok_aldn X rfl dX5_shelf_76)
  (okC (ok_ildn X rfl dX5_shelf_77)
  (okC (ok_ic X (by decide) dX5_shelf_78)
  (okC (ok_nul X dX5_shelf_79)
  (okC (ok_calV X (i := 275) (e := en_107) rfl mt_107 rfl rfl rfl tw_726 tw_728 (Or.inl ⟨_, _, rfl⟩) tp_8 dX5_shelf_80)
  (okN))))), ok_ret X hr dX5_shelf_83⟩
set_option maxRecDepth 20000 in
theorem ob_X5_shelf_10 {x : ip_Cx} {G : ip_Gl} {d : Nat} (X : ip_X x G tb 4 d 0 0 RX5 cX5_shelf) (hr : x.2.2.2.2.2.2.2.2.1.sig.returnType = (some .int)) (hnm : x.2.2.2.2.2.2.2.2.1.name = "shelf") : ip_okB x G 4 pc_X5_shelf 84 ([oI (-1)], tRI .int 0 0) := ⟨_, okC (ok_ic X (by decide) dX5_shelf_84)
  (okN), ok_ret X hr dX5_shelf_85⟩
theorem om_88 : ip_MOk tb en_88 pc_X5_shelf := fun x G d X hr hnm => ⟨ob_X5_shelf_0 X hr hnm, ⟨ob_X5_shelf_1 X hr hnm, ⟨ob_X5_shelf_2 X hr hnm, ⟨ob_X5_shelf_3 X hr hnm, ⟨ob_X5_shelf_4 X hr hnm, ⟨ob_X5_shelf_5 X hr hnm, ⟨ob_X5_shelf_6 X hr hnm, ⟨ob_X5_shelf_7 X hr hnm, ⟨ob_X5_shelf_8 X hr hnm, ⟨ob_X5_shelf_9 X hr hnm, ⟨ob_X5_shelf_10 X hr hnm, trivial⟩⟩⟩⟩⟩⟩⟩⟩⟩⟩⟩
theorem dX5_taken_0 : decode cX5_taken 0 = .ok (.iload_n 2, 1) := by decide +kernel
theorem dX5_taken_1 : decode cX5_taken 1 = .ok (.invokestatic 108, 3) := by decide +kernel
theorem dX5_taken_4 : decode cX5_taken 4 = .ok (.istore_n 3, 1) := by decide +kernel
theorem dX5_taken_5 : decode cX5_taken 5 = .ok (.iload_n 1, 1) := by decide +kernel
theorem dX5_taken_6 : decode cX5_taken 6 = .ok (.invokestatic 272, 3) := by decide +kernel
theorem dX5_taken_9 : decode cX5_taken 9 = .ok (.ifCond .eq 17, 3) := by decide +kernel
theorem dX5_taken_12 : decode cX5_taken 12 = .ok (.iload_n 3, 1) := by decide +kernel
theorem dX5_taken_13 : decode cX5_taken 13 = .ok (.ifCond .ne 15, 3) := by decide +kernel
theorem dX5_taken_16 : decode cX5_taken 16 = .ok (.iload_n 2, 1) := by decide +kernel
theorem dX5_taken_17 : decode cX5_taken 17 = .ok (.bipush 10, 2) := by decide +kernel
theorem dX5_taken_19 : decode cX5_taken 19 = .ok (.isub, 1) := by decide +kernel
theorem dX5_taken_20 : decode cX5_taken 20 = .ok (.invokestatic 263, 3) := by decide +kernel
theorem dX5_taken_23 : decode cX5_taken 23 = .ok (.ifCond .ne 5, 3) := by decide +kernel
theorem dX5_taken_26 : decode cX5_taken 26 = .ok (.iconst (-1), 1) := by decide +kernel
theorem dX5_taken_27 : decode cX5_taken 27 = .ok (.ireturn, 1) := by decide +kernel
theorem dX5_taken_28 : decode cX5_taken 28 = .ok (.aload_n 0, 1) := by decide +kernel
theorem dX5_taken_29 : decode cX5_taken 29 = .ok (.getfield 61, 3) := by decide +kernel
theorem dX5_taken_32 : decode cX5_taken 32 = .ok (.iload_n 1, 1) := by decide +kernel
theorem dX5_taken_33 : decode cX5_taken 33 = .ok (.aaload, 1) := by decide +kernel
theorem dX5_taken_34 : decode cX5_taken 34 = .ok (.astore 4, 2) := by decide +kernel
theorem dX5_taken_36 : decode cX5_taken 36 = .ok (.aload 4, 2) := by decide +kernel
theorem dX5_taken_38 : decode cX5_taken 38 = .ok (.ifnull 31, 3) := by decide +kernel
theorem dX5_taken_41 : decode cX5_taken 41 = .ok (.iload_n 3, 1) := by decide +kernel
theorem dX5_taken_42 : decode cX5_taken 42 = .ok (.ifCond .ne 24, 3) := by decide +kernel
theorem dX5_taken_45 : decode cX5_taken 45 = .ok (.aload 4, 2) := by decide +kernel
theorem dX5_taken_47 : decode cX5_taken 47 = .ok (.getfield 254, 3) := by decide +kernel
theorem dX5_taken_50 : decode cX5_taken 50 = .ok (.iload_n 2, 1) := by decide +kernel
theorem dX5_taken_51 : decode cX5_taken 51 = .ok (.bipush 10, 2) := by decide +kernel
theorem dX5_taken_53 : decode cX5_taken 53 = .ok (.isub, 1) := by decide +kernel
theorem dX5_taken_54 : decode cX5_taken 54 = .ok (.if_icmp .ne 12, 3) := by decide +kernel
theorem dX5_taken_57 : decode cX5_taken 57 = .ok (.aload 4, 2) := by decide +kernel
theorem dX5_taken_59 : decode cX5_taken 59 = .ok (.getfield 257, 3) := by decide +kernel
theorem dX5_taken_62 : decode cX5_taken 62 = .ok (.arraylength, 1) := by decide +kernel
theorem dX5_taken_63 : decode cX5_taken 63 = .ok (.goto 5, 3) := by decide +kernel
theorem dX5_taken_66 : decode cX5_taken 66 = .ok (.bipush (-13), 2) := by decide +kernel
theorem dX5_taken_68 : decode cX5_taken 68 = .ok (.ireturn, 1) := by decide +kernel
theorem dX5_taken_69 : decode cX5_taken 69 = .ok (.aload_n 0, 1) := by decide +kernel
theorem dX5_taken_70 : decode cX5_taken 70 = .ok (.getfield 64, 3) := by decide +kernel
theorem dX5_taken_73 : decode cX5_taken 73 = .ok (.iload_n 1, 1) := by decide +kernel
theorem dX5_taken_74 : decode cX5_taken 74 = .ok (.iaload, 1) := by decide +kernel
theorem dX5_taken_75 : decode cX5_taken 75 = .ok (.istore 5, 2) := by decide +kernel
theorem dX5_taken_77 : decode cX5_taken 77 = .ok (.aload_n 0, 1) := by decide +kernel
theorem dX5_taken_78 : decode cX5_taken 78 = .ok (.iload 5, 2) := by decide +kernel
theorem dX5_taken_80 : decode cX5_taken 80 = .ok (.invokevirtual 119, 3) := by decide +kernel
theorem dX5_taken_83 : decode cX5_taken 83 = .ok (.ifCond .ne 6, 3) := by decide +kernel
theorem dX5_taken_86 : decode cX5_taken 86 = .ok (.bipush (-11), 2) := by decide +kernel
theorem dX5_taken_88 : decode cX5_taken 88 = .ok (.ireturn, 1) := by decide +kernel
theorem dX5_taken_89 : decode cX5_taken 89 = .ok (.iload_n 3, 1) := by decide +kernel
theorem dX5_taken_90 : decode cX5_taken 90 = .ok (.ifCond .eq 25, 3) := by decide +kernel
theorem dX5_taken_93 : decode cX5_taken 93 = .ok (.aload_n 0, 1) := by decide +kernel
theorem dX5_taken_94 : decode cX5_taken 94 = .ok (.getfield 10, 3) := by decide +kernel
theorem dX5_taken_97 : decode cX5_taken 97 = .ok (.getfield 122, 3) := by decide +kernel
theorem dX5_taken_100 : decode cX5_taken 100 = .ok (.iload 5, 2) := by decide +kernel
theorem dX5_taken_102 : decode cX5_taken 102 = .ok (.iaload, 1) := by decide +kernel
theorem dX5_taken_103 : decode cX5_taken 103 = .ok (.iload_n 2, 1) := by decide +kernel
theorem dX5_taken_104 : decode cX5_taken 104 = .ok (.invokestatic 279, 3) := by decide +kernel
theorem dX5_taken_107 : decode cX5_taken 107 = .ok (.ifCond .eq 8, 3) := by decide +kernel
theorem dX5_taken_110 : decode cX5_taken 110 = .ok (.iload 5, 2) := by decide +kernel
theorem dX5_taken_112 : decode cX5_taken 112 = .ok (.goto 5, 3) := by decide +kernel
theorem dX5_taken_115 : decode cX5_taken 115 = .ok (.bipush (-13), 2) := by decide +kernel
theorem dX5_taken_117 : decode cX5_taken 117 = .ok (.ireturn, 1) := by decide +kernel
def pc_X5_taken (i : Nat) : Nat := ([0, 12, 16, 26, 28, 41, 45, 57, 66, 68, 69, 86, 89, 93, 110, 115, 117] : List Nat).getD i 0
set_option maxRecDepth 20000 in
theorem ob_X5_taken_0 {x : ip_Cx} {G : ip_Gl} {d : Nat} (X : ip_X x G tb 6 d 0 0 RX5 cX5_taken) (hr : x.2.2.2.2.2.2.2.2.1.sig.returnType = (some .int)) (hnm : x.2.2.2.2.2.2.2.2.1.name = "taken") : ip_okB x G 6 pc_X5_taken 0 ([oLdI 2, oCal (ip_call tb d) 0 0 96 1 0 0, oStI 3, oLdI 1, oCal (ip_call tb d) 0 0 101 1 0 0], tIf (fun a => a = 0) 3 1) := ⟨_, okC (ok_ildn X rfl dX5_taken_0)
  (okC (ok_calS X (i := 108) (e := en_96) rfl mt_96 rfl rfl rfl tw_398 tw_399 dX5_taken_1)
  (okC (ok_istn X rfl (by decide) dX5_taken_4)
  (okC (ok_ildn X rfl dX5_taken_5)
  (okC (ok_calS X (i := 272) (e := en_101) rfl mt_101 rfl rfl rfl tw_723 tw_724 dX5_taken_6)
  (okN))))), ok_ifeq X (by decide) rfl dX5_taken_9⟩
set_option maxRecDepth 20000 in
theorem ob_X5_taken_1 {x : ip_Cx} {G : ip_Gl} {d : Nat} (X : ip_X x G tb 6 d 0 0 RX5 cX5_taken) (hr : x.2.2.2.2.2.2.2.2.1.sig.returnType = (some .int)) (hnm : x.2.2.2.2.2.2.2.2.1.name = "taken") : ip_okB x G 6 pc_X5_taken 12 ([oLdI 3], tIf (fun a => a = 0) 2 4) := ⟨_, okC (ok_ildn X rfl dX5_taken_12)
  (okN), ok_ifne X (by decide) rfl dX5_taken_13⟩
set_option maxRecDepth 20000 in
theorem ob_X5_taken_2 {x : ip_Cx} {G : ip_Gl} {d : Nat} (X : ip_X x G tb 6 d 0 0 RX5 cX5_taken) (hr : x.2.2.2.2.2.2.2.2.1.sig.returnType = (some .int)) (hnm : x.2.2.2.2.2.2.2.2.1.name = "taken") : ip_okB x G 6 pc_X5_taken 16 ([oLdI 2, oI (10), oBI (fun a b => a - b), oCal (ip_call tb d) 0 0 100 1 0 0], tIf (fun a => a = 0) 3 4) := ⟨_, okC (ok_ildn X rfl dX5_taken_16)
  (okC (ok_bi X (by decide) dX5_taken_17)
  (okC (ok_isub X dX5_taken_19)
  (okC (ok_calS X (i := 263) (e := en_100) rfl mt_100 rfl rfl rfl tw_688 tw_689 dX5_taken_20)
  (okN)))), ok_ifne X (by decide) rfl dX5_taken_23⟩
set_option maxRecDepth 20000 in
theorem ob_X5_taken_3 {x : ip_Cx} {G : ip_Gl} {d : Nat} (X : ip_X x G tb 6 d 0 0 RX5 cX5_taken) (hr : x.2.2.2.2.2.2.2.2.1.sig.returnType = (some .int)) (hnm : x.2.2.2.2.2.2.2.2.1.name = "taken") : ip_okB x G 6 pc_X5_taken 26 ([oI (-1)], tRI .int 0 0) := ⟨_, okC (ok_ic X (by decide) dX5_taken_26)
  (okN), ok_ret X hr dX5_taken_27⟩
set_option maxRecDepth 20000 in
theorem ob_X5_taken_4 {x : ip_Cx} {G : ip_Gl} {d : Nat} (X : ip_X x G tb 6 d 0 0 RX5 cX5_taken) (hr : x.2.2.2.2.2.2.2.2.1.sig.returnType = (some .int)) (hnm : x.2.2.2.2.2.2.2.2.1.name = "taken") : ip_okB x G 6 pc_X5_taken 28 ([oLdA 0, oGet 5 10, oLdI 1, oAldA, oStA 4, oLdA 4], tNu 10 5) := ⟨_, okC (ok_aldn X rfl dX5_taken_28)
  (okC (ok_get X (ci := 5) rfl (by decide) iw_X5 tw_208 dX5_taken_29)
  (okC (ok_ildn X rfl dX5_taken_32)
  (okC (ok_aald X dX5_taken_33)
  (okC (ok_ast X (by decide) dX5_taken_34)
  (okC (ok_ald X dX5_taken_36)
  (okN)))))), ok_ifnu X (by decide) rfl dX5_taken_38⟩
set_option maxRecDepth 20000 in
theorem ob_X5_taken_5 {x : ip_Cx} {G : ip_Gl} {d : Nat} (X : ip_X x G tb 6 d 0 0 RX5 cX5_taken) (hr : x.2.2.2.2.2.2.2.2.1.sig.returnType = (some .int)) (hnm : x.2.2.2.2.2.2.2.2.1.name = "taken") : ip_okB x G 6 pc_X5_taken 41 ([oLdI 3], tIf (fun a => a = 0) 6 8) := ⟨_, okC (ok_ildn X rfl dX5_taken_41)
  (okN), ok_ifne X (by decide) rfl dX5_taken_42⟩
set_option maxRecDepth 20000 in
theorem ob_X5_taken_6 {x : ip_Cx} {G : ip_Gl} {d : Nat} (X : ip_X x G tb 6 d 0 0 RX5 cX5_taken) (hr : x.2.2.2.2.2.2.2.2.1.sig.returnType = (some .int)) (hnm : x.2.2.2.2.2.2.2.2.1.name = "taken") : ip_okB x G 6 pc_X5_taken 45 ([oLdA 4, oGet 2 0, oLdI 2, oI (10), oBI (fun a b => a - b)], tCm (fun a b => a = b) 7 8) := ⟨_, okC (ok_ald X dX5_taken_45)
  (okC (ok_get X (ci := 2) rfl (by decide) iw_X2 tw_698 dX5_taken_47)
  (okC (ok_ildn X rfl dX5_taken_50)
  (okC (ok_bi X (by decide) dX5_taken_51)
  (okC (ok_isub X dX5_taken_53)
  (okN))))), ok_cmne X (by decide) rfl dX5_taken_54⟩
set_option maxRecDepth 20000 in
theorem ob_X5_taken_7 {x : ip_Cx} {G : ip_Gl} {d : Nat} (X : ip_X x G tb 6 d 0 0 RX5 cX5_taken) (hr : x.2.2.2.2.2.2.2.2.1.sig.returnType = (some .int)) (hnm : x.2.2.2.2.2.2.2.2.1.name = "taken") : ip_okB x G 6 pc_X5_taken 57 ([oLdA 4, oGet 2 1, oLen], tGo 9) := ⟨_, okC (ok_ald X dX5_taken_57)
  (okC (ok_get X (ci := 2) rfl (by decide) iw_X2 tw_701 dX5_taken_59)
  (okC (ok_len X dX5_taken_62)
  (okN))), ok_go X (by decide) dX5_taken_63⟩
set_option maxRecDepth 20000 in
theorem ob_X5_taken_8 {x : ip_Cx} {G : ip_Gl} {d : Nat} (X : ip_X x G tb 6 d 0 0 RX5 cX5_taken) (hr : x.2.2.2.2.2.2.2.2.1.sig.returnType = (some .int)) (hnm : x.2.2.2.2.2.2.2.2.1.name = "taken") : ip_okB x G 6 pc_X5_taken 66 ([oI (-13)], tGo 9) := ⟨_, okC (ok_bi X (by decide) dX5_taken_66)
  (okN), ok_fall rfl⟩
set_option maxRecDepth 20000 in
theorem ob_X5_taken_9 {x : ip_Cx} {G : ip_Gl} {d : Nat} (X : ip_X x G tb 6 d 0 0 RX5 cX5_taken) (hr : x.2.2.2.2.2.2.2.2.1.sig.returnType = (some .int)) (hnm : x.2.2.2.2.2.2.2.2.1.name = "taken") : ip_okB x G 6 pc_X5_taken 68 ([], tRI .int 0 0) := ⟨_, okN, ok_ret X hr dX5_taken_68⟩
set_option maxRecDepth 20000 in
theorem ob_X5_taken_10 {x : ip_Cx} {G : ip_Gl} {d : Nat} (X : ip_X x G tb 6 d 0 0 RX5 cX5_taken) (hr : x.2.2.2.2.2.2.2.2.1.sig.returnType = (some .int)) (hnm : x.2.2.2.2.2.2.2.2.1.name = "taken") : ip_okB x G 6 pc_X5_taken 69 ([oLdA 0, oGet 5 11, oLdI 1, oAldI, oStI 5, oLdA 0, oLdI 5, oCaV (ip_call tb d) 0 0 5 102 2 0 0], tIf (fun a => a = 0) 11 12) := ⟨_, okC (ok_aldn X rfl dX5_taken_69)
  (okC (ok_get X (ci := 5) rfl (by decide) iw_X5 tw_209 dX5_taken_70)
  (okC (ok_ildn X rfl dX5_taken_73)
  (okC (ok_iald X dX5_taken_74)
  (okC (ok_ist X (by decide) dX5_taken_75)
  (okC (ok_aldn X rfl dX5_taken_77)
  (okC (ok_ild X dX5_taken_78)
  (okC (ok_calV X (i := 119) (e := en_102) rfl mt_102 rfl rfl rfl tw_409 tw_411 (Or.inl ⟨_, _, rfl⟩) tp_0 dX5_taken_80)
  (okN)))))))), ok_ifne X (by decide) rfl dX5_taken_83⟩
set_option maxRecDepth 20000 in
theorem ob_X5_taken_11 {x : ip_Cx} {G : ip_Gl} {d : Nat} (X : ip_X x G tb 6 d 0 0 RX5 cX5_taken) (hr : x.2.2.2.2.2.2.2.2.1.sig.returnType = (some .int)) (hnm : x.2.2.2.2.2.2.2.2.1.name = "taken") : ip_okB x G 6 pc_X5_taken 86 ([oI (-11)], tRI .int 0 0) := ⟨_, okC (ok_bi X (by decide) dX5_taken_86)
  (okN), ok_ret X hr dX5_taken_88⟩
set_option maxRecDepth 20000 in
theorem ob_X5_taken_12 {x : ip_Cx} {G : ip_Gl} {d : Nat} (X : ip_X x G tb 6 d 0 0 RX5 cX5_taken) (hr : x.2.2.2.2.2.2.2.2.1.sig.returnType = (some .int)) (hnm : x.2.2.2.2.2.2.2.2.1.name = "taken") : ip_okB x G 6 pc_X5_taken 89 ([oLdI 3], tIf (fun a => a = 0) 15 13) := ⟨_, okC (ok_ildn X rfl dX5_taken_89)
  (okN), ok_ifeq X (by decide) rfl dX5_taken_90⟩
set_option maxRecDepth 20000 in
theorem ob_X5_taken_13 {x : ip_Cx} {G : ip_Gl} {d : Nat} (X : ip_X x G tb 6 d 0 0 RX5 cX5_taken) (hr : x.2.2.2.2.2.2.2.2.1.sig.returnType = (some .int)) (hnm : x.2.2.2.2.2.2.2.2.1.name = "taken") : ip_okB x G 6 pc_X5_taken 93 ([oLdA 0, oGet 5 0, oGet 1 5, oLdI 5, oAldI, oLdI 2, oCal (ip_call tb d) 0 0 106 2 0 0], tIf (fun a => a = 0) 15 14) := ⟨_, okC (ok_aldn X rfl dX5_taken_93)
  (okC (ok_get X (ci := 5) rfl (by decide) iw_X5 tw_198 dX5_taken_94)
  (okC (ok_get X (ci := 1) rfl (by decide) iw_X1 tw_55 dX5_taken_97)
  (okC (ok_ild X dX5_taken_100)
  (okC (ok_iald X dX5_taken_102)
  (okC (ok_ildn X rfl dX5_taken_103)
  (okC (ok_calS X (i := 279) (e := en_106) rfl mt_106 rfl rfl rfl tw_734 tw_735 dX5_taken_104)
  (okN))))))), ok_ifeq X (by decide) rfl dX5_taken_107⟩
set_option maxRecDepth 20000 in
theorem ob_X5_taken_14 {x : ip_Cx} {G : ip_Gl} {d : Nat} (X : ip_X x G tb 6 d 0 0 RX5 cX5_taken) (hr : x.2.2.2.2.2.2.2.2.1.sig.returnType = (some .int)) (hnm : x.2.2.2.2.2.2.2.2.1.name = "taken") : ip_okB x G 6 pc_X5_taken 110 ([oLdI 5], tGo 16) := ⟨_, okC (ok_ild X dX5_taken_110)
  (okN), ok_go X (by decide) dX5_taken_112⟩
set_option maxRecDepth 20000 in
theorem ob_X5_taken_15 {x : ip_Cx} {G : ip_Gl} {d : Nat} (X : ip_X x G tb 6 d 0 0 RX5 cX5_taken) (hr : x.2.2.2.2.2.2.2.2.1.sig.returnType = (some .int)) (hnm : x.2.2.2.2.2.2.2.2.1.name = "taken") : ip_okB x G 6 pc_X5_taken 115 ([oI (-13)], tGo 16) := ⟨_, okC (ok_bi X (by decide) dX5_taken_115)
  (okN), ok_fall rfl⟩
set_option maxRecDepth 20000 in
theorem ob_X5_taken_16 {x : ip_Cx} {G : ip_Gl} {d : Nat} (X : ip_X x G tb 6 d 0 0 RX5 cX5_taken) (hr : x.2.2.2.2.2.2.2.2.1.sig.returnType = (some .int)) (hnm : x.2.2.2.2.2.2.2.2.1.name = "taken") : ip_okB x G 6 pc_X5_taken 117 ([], tRI .int 0 0) := ⟨_, okN, ok_ret X hr dX5_taken_117⟩
theorem om_89 : ip_MOk tb en_89 pc_X5_taken := fun x G d X hr hnm => ⟨ob_X5_taken_0 X hr hnm, ⟨ob_X5_taken_1 X hr hnm, ⟨ob_X5_taken_2 X hr hnm, ⟨ob_X5_taken_3 X hr hnm, ⟨ob_X5_taken_4 X hr hnm, ⟨ob_X5_taken_5 X hr hnm, ⟨ob_X5_taken_6 X hr hnm, ⟨ob_X5_taken_7 X hr hnm, ⟨ob_X5_taken_8 X hr hnm, ⟨ob_X5_taken_9 X hr hnm, ⟨ob_X5_taken_10 X hr hnm, ⟨ob_X5_taken_11 X hr hnm, ⟨ob_X5_taken_12 X hr hnm, ⟨ob_X5_taken_13 X hr hnm, ⟨ob_X5_taken_14 X hr hnm, ⟨ob_X5_taken_15 X hr hnm, ⟨ob_X5_taken_16 X hr hnm, trivial⟩⟩⟩⟩⟩⟩⟩⟩⟩⟩⟩⟩⟩⟩⟩⟩⟩
theorem dX5_act_0 : decode cX5_act 0 = .ok (.aload_n 0, 1) := by decide +kernel
theorem dX5_act_1 : decode cX5_act 1 = .ok (.getfield 43, 3) := by decide +kernel
theorem dX5_act_4 : decode cX5_act 4 = .ok (.invokevirtual 282, 3) := by decide +kernel
theorem dX5_act_7 : decode cX5_act 7 = .ok (.iload_n 1, 1) := by decide +kernel
theorem dX5_act_8 : decode cX5_act 8 = .ok (.invokestatic 272, 3) := by decide +kernel
theorem dX5_act_11 : decode cX5_act 11 = .ok (.ifCond .eq 25, 3) := by decide +kernel
theorem dX5_act_14 : decode cX5_act 14 = .ok (.iload_n 2, 1) := by decide +kernel
theorem dX5_act_15 : decode cX5_act 15 = .ok (.iconst 0, 1) := by decide +kernel
theorem dX5_act_16 : decode cX5_act 16 = .ok (.iconst 3, 1) := by decide +kernel
theorem dX5_act_17 : decode cX5_act 17 = .ok (.invokestatic 67, 3) := by decide +kernel
theorem dX5_act_20 : decode cX5_act 20 = .ok (.ifCond .eq 16, 3) := by decide +kernel
theorem dX5_act_23 : decode cX5_act 23 = .ok (.aload_n 0, 1) := by decide +kernel
theorem dX5_act_24 : decode cX5_act 24 = .ok (.aload_n 0, 1) := by decide +kernel
theorem dX5_act_25 : decode cX5_act 25 = .ok (.getfield 64, 3) := by decide +kernel
theorem dX5_act_28 : decode cX5_act 28 = .ok (.iload_n 1, 1) := by decide +kernel
theorem dX5_act_29 : decode cX5_act 29 = .ok (.iaload, 1) := by decide +kernel
theorem dX5_act_30 : decode cX5_act 30 = .ok (.invokevirtual 119, 3) := by decide +kernel
theorem dX5_act_33 : decode cX5_act 33 = .ok (.ifCond .ne 5, 3) := by decide +kernel
theorem dX5_act_36 : decode cX5_act 36 = .ok (.iconst 0, 1) := by decide +kernel
theorem dX5_act_37 : decode cX5_act 37 = .ok (.ireturn, 1) := by decide +kernel
theorem dX5_act_38 : decode cX5_act 38 = .ok (.aload_n 0, 1) := by decide +kernel
theorem dX5_act_39 : decode cX5_act 39 = .ok (.getfield 64, 3) := by decide +kernel
theorem dX5_act_42 : decode cX5_act 42 = .ok (.iload_n 1, 1) := by decide +kernel
theorem dX5_act_43 : decode cX5_act 43 = .ok (.iaload, 1) := by decide +kernel
theorem dX5_act_44 : decode cX5_act 44 = .ok (.istore 4, 2) := by decide +kernel
theorem dX5_act_46 : decode cX5_act 46 = .ok (.aload_n 0, 1) := by decide +kernel
theorem dX5_act_47 : decode cX5_act 47 = .ok (.getfield 43, 3) := by decide +kernel
theorem dX5_act_50 : decode cX5_act 50 = .ok (.aload_n 0, 1) := by decide +kernel
theorem dX5_act_51 : decode cX5_act 51 = .ok (.getfield 10, 3) := by decide +kernel
theorem dX5_act_54 : decode cX5_act 54 = .ok (.getfield 122, 3) := by decide +kernel
theorem dX5_act_57 : decode cX5_act 57 = .ok (.iload 4, 2) := by decide +kernel
theorem dX5_act_59 : decode cX5_act 59 = .ok (.iaload, 1) := by decide +kernel
theorem dX5_act_60 : decode cX5_act 60 = .ok (.iload 4, 2) := by decide +kernel
theorem dX5_act_62 : decode cX5_act 62 = .ok (.aload_n 0, 1) := by decide +kernel
theorem dX5_act_63 : decode cX5_act 63 = .ok (.getfield 10, 3) := by decide +kernel
theorem dX5_act_66 : decode cX5_act 66 = .ok (.getfield 128, 3) := by decide +kernel
theorem dX5_act_69 : decode cX5_act 69 = .ok (.iload 4, 2) := by decide +kernel
theorem dX5_act_71 : decode cX5_act 71 = .ok (.iaload, 1) := by decide +kernel
theorem dX5_act_72 : decode cX5_act 72 = .ok (.iload_n 2, 1) := by decide +kernel
theorem dX5_act_73 : decode cX5_act 73 = .ok (.iload_n 3, 1) := by decide +kernel
theorem dX5_act_74 : decode cX5_act 74 = .ok (.invokevirtual 285, 3) := by decide +kernel
theorem dX5_act_77 : decode cX5_act 77 = .ok (.ireturn, 1) := by decide +kernel
def pc_X5_act (i : Nat) : Nat := ([0, 14, 23, 36, 38] : List Nat).getD i 0
set_option maxRecDepth 20000 in
theorem ob_X5_act_0 {x : ip_Cx} {G : ip_Gl} {d : Nat} (X : ip_X x G tb 5 d 0 0 RX5 cX5_act) (hr : x.2.2.2.2.2.2.2.2.1.sig.returnType = (some .int)) (hnm : x.2.2.2.2.2.2.2.2.1.name = "act") : ip_okB x G 5 pc_X5_act 0 ([oLdA 0, oGet 5 6, oCaV (ip_call tb d) 0 0 0 1 1 0 0, oLdI 1, oCal (ip_call tb d) 0 0 101 1 0 0], tIf (fun a => a = 0) 3 1) := ⟨_, okC (ok_aldn X rfl dX5_act_0)
  (okC (ok_get X (ci := 5) rfl (by decide) iw_X5 tw_204 dX5_act_1)
  (okC (ok_calV X (i := 282) (e := en_1) rfl mt_1 rfl rfl rfl tw_743 tw_744 (Or.inl ⟨_, _, rfl⟩) tw_745 dX5_act_4)
  (okC (ok_ildn X rfl dX5_act_7)
  (okC (ok_calS X (i := 272) (e := en_101) rfl mt_101 rfl rfl rfl tw_723 tw_724 dX5_act_8)
  (okN))))), ok_ifeq X (by decide) rfl dX5_act_11⟩
set_option maxRecDepth 20000 in
theorem ob_X5_act_1 {x : ip_Cx} {G : ip_Gl} {d : Nat} (X : ip_X x G tb 5 d 0 0 RX5 cX5_act) (hr : x.2.2.2.2.2.2.2.2.1.sig.returnType = (some .int)) (hnm : x.2.2.2.2.2.2.2.2.1.name = "act") : ip_okB x G 5 pc_X5_act 14 ([oLdI 2, oI (0), oI (3), oCal (ip_call tb d) 0 0 95 3 0 0], tIf (fun a => a = 0) 3 2) := ⟨_, okC (ok_ildn X rfl dX5_act_14)
  (okC (ok_ic X (by decide) dX5_act_15)
  (okC (ok_ic X (by decide) dX5_act_16)
  (okC (ok_calS X (i := 67) (e := en_95) rfl mt_95 rfl rfl rfl tw_239 tw_240 dX5_act_17)
  (okN)))), ok_ifeq X (by decide) rfl dX5_act_20⟩
set_option maxRecDepth 20000 in
theorem ob_X5_act_2 {x : ip_Cx} {G : ip_Gl} {d : Nat} (X : ip_X x G tb 5 d 0 0 RX5 cX5_act) (hr : x.2.2.2.2.2.2.2.2.1.sig.returnType = (some .int)) (hnm : x.2.2.2.2.2.2.2.2.1.name = "act") : ip_okB x G 5 pc_X5_act 23 ([oLdA 0, oLdA 0, oGet 5 11, oLdI 1, oAldI, oCaV (ip_call tb d) 0 0 5 102 2 0 0], tIf (fun a => a = 0) 3 4) := ⟨_, okC (ok_aldn X rfl dX5_act_23)
  (okC (ok_aldn X rfl dX5_act_24)
  (okC (ok_get X (ci := 5) rfl (by decide) iw_X5 tw_209 dX5_act_25)
  (okC (ok_ildn X rfl dX5_act_28)
  (okC (ok_iald X dX5_act_29)
  (okC (ok_calV X (i := 119) (e := en_102) rfl mt_102 rfl rfl rfl tw_409 tw_411 (Or.inl ⟨_, _, rfl⟩) tp_0 dX5_act_30)
  (okN)))))), ok_ifne X (by decide) rfl dX5_act_33⟩
set_option maxRecDepth 20000 in
theorem ob_X5_act_3 {x : ip_Cx} {G : ip_Gl} {d : Nat} (X : ip_X x G tb 5 d 0 0 RX5 cX5_act) (hr : x.2.2.2.2.2.2.2.2.1.sig.returnType = (some .int)) (hnm : x.2.2.2.2.2.2.2.2.1.name = "act") : ip_okB x G 5 pc_X5_act 36 ([oI (0)], tRI .int 0 0) := ⟨_, okC (ok_ic X (by decide) dX5_act_36)
  (okN), ok_ret X hr dX5_act_37⟩
set_option maxRecDepth 20000 in
theorem ob_X5_act_4 {x : ip_Cx} {G : ip_Gl} {d : Nat} (X : ip_X x G tb 5 d 0 0 RX5 cX5_act) (hr : x.2.2.2.2.2.2.2.2.1.sig.returnType = (some .int)) (hnm : x.2.2.2.2.2.2.2.2.1.name = "act") : ip_okB x G 5 pc_X5_act 38 ([oLdA 0, oGet 5 11, oLdI 1, oAldI, oStI 4, oLdA 0, oGet 5 6, oLdA 0, oGet 5 0, oGet 1 5, oLdI 4, oAldI, oLdI 4, oLdA 0, oGet 5 0, oGet 1 7, oLdI 4, oAldI, oLdI 2, oLdI 3, oCaV (ip_call tb d) 0 0 0 2 6 0 0], tRI .int 0 0) := ⟨_, okC (ok_aldn X rfl dX5_act_38)
  (okC (ok_get X (ci := 5) rfl (by decide) iw_X5 tw_209 dX5_act_39)
  (okC (ok_ildn X rfl dX5_act_42)
  (okC (ok_iald X dX5_act_43)
  (okC (ok_ist X (by decide) dX5_act_44)
  (okC (ok_aldn X rfl dX5_act_46)
  (okC (ok_get X (ci := 5) rfl (by decide) iw_X5 tw_204 dX5_act_47)
  (okC (ok_aldn X rfl dX5_act_50)
  (okC (ok_get X (ci := 5) rfl (by decide) iw_X5 tw_198 dX5_act_51)
  (okC (ok_get X (ci := 1) rfl (by decide) iw_X1 tw_55 dX5_act_54)
  (okC (ok_ild X dX5_act_57)
  (okC (ok_iald X dX5_act_59)
  (okC (ok_ild X dX5_act_60)
  (okC (ok_aldn X rfl dX5_act_62)
  (okC (ok_get X (ci := 5) rfl (by decide) iw_X5 tw_198 dX5_act_63)
  (okC (ok_get X (ci := 1) rfl (by decide) iw_X1 tw_63 dX5_act_66)
  (okC (ok_ild X dX5_act_69)
  (okC (ok_iald X dX5_act_71)
  (okC (ok_ildn X rfl dX5_act_72)
  (okC (ok_ildn X rfl dX5_act_73)
  (okC (ok_calV X (i := 285) (e := en_2) rfl mt_2 rfl rfl rfl tw_747 tw_748 (Or.inl ⟨_, _, rfl⟩) tw_749 dX5_act_74)
  (okN))))))))))))))))))))), ok_ret X hr dX5_act_77⟩
theorem om_90 : ip_MOk tb en_90 pc_X5_act := fun x G d X hr hnm => ⟨ob_X5_act_0 X hr hnm, ⟨ob_X5_act_1 X hr hnm, ⟨ob_X5_act_2 X hr hnm, ⟨ob_X5_act_3 X hr hnm, ⟨ob_X5_act_4 X hr hnm, trivial⟩⟩⟩⟩⟩
theorem dX5_trace_0 : decode cX5_trace 0 = .ok (.iload_n 1, 1) := by decide +kernel
theorem dX5_trace_1 : decode cX5_trace 1 = .ok (.iconst 0, 1) := by decide +kernel
theorem dX5_trace_2 : decode cX5_trace 2 = .ok (.aload_n 0, 1) := by decide +kernel
theorem dX5_trace_3 : decode cX5_trace 3 = .ok (.getfield 43, 3) := by decide +kernel
theorem dX5_trace_6 : decode cX5_trace 6 = .ok (.getfield 289, 3) := by decide +kernel
theorem dX5_trace_9 : decode cX5_trace 9 = .ok (.iconst 1, 1) := by decide +kernel
theorem dX5_trace_10 : decode cX5_trace 10 = .ok (.isub, 1) := by decide +kernel
theorem dX5_trace_11 : decode cX5_trace 11 = .ok (.invokestatic 67, 3) := by decide +kernel
theorem dX5_trace_14 : decode cX5_trace 14 = .ok (.ifCond .eq 15, 3) := by decide +kernel
theorem dX5_trace_17 : decode cX5_trace 17 = .ok (.aload_n 0, 1) := by decide +kernel
theorem dX5_trace_18 : decode cX5_trace 18 = .ok (.getfield 43, 3) := by decide +kernel
theorem dX5_trace_21 : decode cX5_trace 21 = .ok (.getfield 292, 3) := by decide +kernel
theorem dX5_trace_24 : decode cX5_trace 24 = .ok (.iload_n 1, 1) := by decide +kernel
theorem dX5_trace_25 : decode cX5_trace 25 = .ok (.iaload, 1) := by decide +kernel
theorem dX5_trace_26 : decode cX5_trace 26 = .ok (.goto 5, 3) := by decide +kernel
theorem dX5_trace_29 : decode cX5_trace 29 = .ok (.bipush (-3), 2) := by decide +kernel
theorem dX5_trace_31 : decode cX5_trace 31 = .ok (.ireturn, 1) := by decide +kernel
def pc_X5_trace (i : Nat) : Nat := ([0, 17, 29, 31] : List Nat).getD i 0
set_option maxRecDepth 20000 in
theorem ob_X5_trace_0 {x : ip_Cx} {G : ip_Gl} {d : Nat} (X : ip_X x G tb 2 d 0 0 RX5 cX5_trace) (hr : x.2.2.2.2.2.2.2.2.1.sig.returnType = (some .int)) (hnm : x.2.2.2.2.2.2.2.2.1.name = "trace") : ip_okB x G 2 pc_X5_trace 0 ([oLdI 1, oI (0), oLdA 0, oGet 5 6, oGet 0 1, oI (1), oBI (fun a b => a - b), oCal (ip_call tb d) 0 0 95 3 0 0], tIf (fun a => a = 0) 2 1) := ⟨_, okC (ok_ildn X rfl dX5_trace_0)
  (okC (ok_ic X (by decide) dX5_trace_1)
  (okC (ok_aldn X rfl dX5_trace_2)
  (okC (ok_get X (ci := 5) rfl (by decide) iw_X5 tw_204 dX5_trace_3)
  (okC (ok_get X (ci := 0) rfl (by decide) iw_X0 tw_178 dX5_trace_6)
  (okC (ok_ic X (by decide) dX5_trace_9)
  (okC (ok_isub X dX5_trace_10)
  (okC (ok_calS X (i := 67) (e := en_95) rfl mt_95 rfl rfl rfl tw_239 tw_240 dX5_trace_11)
  (okN)))))))), ok_ifeq X (by decide) rfl dX5_trace_14⟩
set_option maxRecDepth 20000 in
theorem ob_X5_trace_1 {x : ip_Cx} {G : ip_Gl} {d : Nat} (X : ip_X x G tb 2 d 0 0 RX5 cX5_trace) (hr : x.2.2.2.2.2.2.2.2.1.sig.returnType = (some .int)) (hnm : x.2.2.2.2.2.2.2.2.1.name = "trace") : ip_okB x G 2 pc_X5_trace 17 ([oLdA 0, oGet 5 6, oGet 0 0, oLdI 1, oAldI], tGo 3) := ⟨_, okC (ok_aldn X rfl dX5_trace_17)
  (okC (ok_get X (ci := 5) rfl (by decide) iw_X5 tw_204 dX5_trace_18)
  (okC (ok_get X (ci := 0) rfl (by decide) iw_X0 tw_176 dX5_trace_21)
  (okC (ok_ildn X rfl dX5_trace_24)
  (okC (ok_iald X dX5_trace_25)
  (okN))))), ok_go X (by decide) dX5_trace_26⟩
set_option maxRecDepth 20000 in
theorem ob_X5_trace_2 {x : ip_Cx} {G : ip_Gl} {d : Nat} (X : ip_X x G tb 2 d 0 0 RX5 cX5_trace) (hr : x.2.2.2.2.2.2.2.2.1.sig.returnType = (some .int)) (hnm : x.2.2.2.2.2.2.2.2.1.name = "trace") : ip_okB x G 2 pc_X5_trace 29 ([oI (-3)], tGo 3) := ⟨_, okC (ok_bi X (by decide) dX5_trace_29)
  (okN), ok_fall rfl⟩
set_option maxRecDepth 20000 in
theorem ob_X5_trace_3 {x : ip_Cx} {G : ip_Gl} {d : Nat} (X : ip_X x G tb 2 d 0 0 RX5 cX5_trace) (hr : x.2.2.2.2.2.2.2.2.1.sig.returnType = (some .int)) (hnm : x.2.2.2.2.2.2.2.2.1.name = "trace") : ip_okB x G 2 pc_X5_trace 31 ([], tRI .int 0 0) := ⟨_, okN, ok_ret X hr dX5_trace_31⟩
theorem om_91 : ip_MOk tb en_91 pc_X5_trace := fun x G d X hr hnm => ⟨ob_X5_trace_0 X hr hnm, ⟨ob_X5_trace_1 X hr hnm, ⟨ob_X5_trace_2 X hr hnm, ⟨ob_X5_trace_3 X hr hnm, trivial⟩⟩⟩⟩
