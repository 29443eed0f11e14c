theorem dX6_hope_0 : decode cX6_hope 0 = .ok (.iload_n 1, 1) := by decide +kernel
theorem dX6_hope_1 : decode cX6_hope 1 = .ok (.iconst 0, 1) := by decide +kernel
theorem dX6_hope_2 : decode cX6_hope 2 = .ok (.bipush 99, 2) := by decide +kernel
theorem dX6_hope_4 : decode cX6_hope 4 = .ok (.invokestatic 57, 3) := by decide +kernel
theorem dX6_hope_7 : decode cX6_hope 7 = .ok (.ifCond .eq 32, 3) := by decide +kernel
theorem dX6_hope_10 : decode cX6_hope 10 = .ok (.iload_n 2, 1) := by decide +kernel
theorem dX6_hope_11 : decode cX6_hope 11 = .ok (.iconst 0, 1) := by decide +kernel
theorem dX6_hope_12 : decode cX6_hope 12 = .ok (.iconst 1, 1) := by decide +kernel
theorem dX6_hope_13 : decode cX6_hope 13 = .ok (.invokestatic 57, 3) := by decide +kernel
theorem dX6_hope_16 : decode cX6_hope 16 = .ok (.ifCond .eq 23, 3) := by decide +kernel
theorem dX6_hope_19 : decode cX6_hope 19 = .ok (.iload_n 1, 1) := by decide +kernel
theorem dX6_hope_20 : decode cX6_hope 20 = .ok (.i2l, 1) := by decide +kernel
theorem dX6_hope_21 : decode cX6_hope 21 = .ok (.aload_n 0, 1) := by decide +kernel
theorem dX6_hope_22 : decode cX6_hope 22 = .ok (.getfield 7, 3) := by decide +kernel
theorem dX6_hope_25 : decode cX6_hope 25 = .ok (.iconst 3, 1) := by decide +kernel
theorem dX6_hope_26 : decode cX6_hope 26 = .ok (.iaload, 1) := by decide +kernel
theorem dX6_hope_27 : decode cX6_hope 27 = .ok (.i2l, 1) := by decide +kernel
theorem dX6_hope_28 : decode cX6_hope 28 = .ok (.lmul, 1) := by decide +kernel
theorem dX6_hope_29 : decode cX6_hope 29 = .ok (.ldc2_w 281, 3) := by decide +kernel
theorem dX6_hope_32 : decode cX6_hope 32 = .ok (.iload_n 2, 1) := by decide +kernel
theorem dX6_hope_33 : decode cX6_hope 33 = .ok (.invokestatic 277, 3) := by decide +kernel
theorem dX6_hope_36 : decode cX6_hope 36 = .ok (.goto 6, 3) := by decide +kernel
theorem dX6_hope_39 : decode cX6_hope 39 = .ok (.ldc2_w 97, 3) := by decide +kernel
theorem dX6_hope_42 : decode cX6_hope 42 = .ok (.lreturn, 1) := by decide +kernel
def pc_X6_hope (i : Nat) : Nat := ([0, 10, 19, 39, 42] : List Nat).getD i 0
set_option maxRecDepth 20000 in
theorem ob_X6_hope_0 {x : ip_Cx} {G : ip_Gl} {d : Nat} (X : ip_X x G tb 3 d 0 0 RX6 cX6_hope) (hr : x.2.2.2.2.2.2.2.2.1.sig.returnType = (some .long)) (hnm : x.2.2.2.2.2.2.2.2.1.name = "hope") : ip_okB x G 3 pc_X6_hope 0 ([oLdI 1, oI (0), oI (99), oCal (ip_call tb d) 0 0 120 3 0 0], tIf (fun a => a = 0) 3 1) := ⟨_, okC (ok_ildn X rfl dX6_hope_0)
  (okC (ok_ic X (by decide) dX6_hope_1)
  (okC (ok_bi X (by decide) dX6_hope_2)
  (okC (ok_calS X (i := 57) (e := en_120) rfl mt_120 rfl rfl rfl tw_885 tw_886 dX6_hope_4)
  (okN)))), ok_ifeq X (by decide) rfl dX6_hope_7⟩
set_option maxRecDepth 20000 in
theorem ob_X6_hope_1 {x : ip_Cx} {G : ip_Gl} {d : Nat} (X : ip_X x G tb 3 d 0 0 RX6 cX6_hope) (hr : x.2.2.2.2.2.2.2.2.1.sig.returnType = (some .long)) (hnm : x.2.2.2.2.2.2.2.2.1.name = "hope") : ip_okB x G 3 pc_X6_hope 10 ([oLdI 2, oI (0), oI (1), oCal (ip_call tb d) 0 0 120 3 0 0], tIf (fun a => a = 0) 3 2) := ⟨_, okC (ok_ildn X rfl dX6_hope_10)
  (okC (ok_ic X (by decide) dX6_hope_11)
  (okC (ok_ic X (by decide) dX6_hope_12)
  (okC (ok_calS X (i := 57) (e := en_120) rfl mt_120 rfl rfl rfl tw_885 tw_886 dX6_hope_13)
  (okN)))), ok_ifeq X (by decide) rfl dX6_hope_16⟩
set_option maxRecDepth 20000 in
theorem ob_X6_hope_2 {x : ip_Cx} {G : ip_Gl} {d : Nat} (X : ip_X x G tb 3 d 0 0 RX6 cX6_hope) (hr : x.2.2.2.2.2.2.2.2.1.sig.returnType = (some .long)) (hnm : x.2.2.2.2.2.2.2.2.1.name = "hope") : ip_okB x G 3 pc_X6_hope 19 ([oLdI 1, oIL, oLdA 0, oGet 6 0, oI (3), oAldI, oIL, oBL (fun a b => a * b), oL (100), oLdI 2, oCal (ip_call tb d) 0 0 191 3 0 0], tGo 4) := ⟨_, okC (ok_ildn X rfl dX6_hope_19)
  (okC (ok_i2l X dX6_hope_20)
  (okC (ok_aldn X rfl dX6_hope_21)
  (okC (ok_get X (ci := 6) rfl (by decide) iw_X6 tw_795 dX6_hope_22)
  (okC (ok_ic X (by decide) dX6_hope_25)
  (okC (ok_iald X dX6_hope_26)
  (okC (ok_i2l X dX6_hope_27)
  (okC (ok_lmul X dX6_hope_28)
  (okC (ok_ldc2 X tw_1194 dX6_hope_29)
  (okC (ok_ildn X rfl dX6_hope_32)
  (okC (ok_calS X (i := 277) (e := en_191) rfl mt_191 rfl rfl rfl tw_1187 tw_1188 dX6_hope_33)
  (okN))))))))))), ok_go X (by decide) dX6_hope_36⟩
set_option maxRecDepth 20000 in
theorem ob_X6_hope_3 {x : ip_Cx} {G : ip_Gl} {d : Nat} (X : ip_X x G tb 3 d 0 0 RX6 cX6_hope) (hr : x.2.2.2.2.2.2.2.2.1.sig.returnType = (some .long)) (hnm : x.2.2.2.2.2.2.2.2.1.name = "hope") : ip_okB x G 3 pc_X6_hope 39 ([oL (-1)], tGo 4) := ⟨_, okC (ok_ldc2 X tw_909 dX6_hope_39)
  (okN), ok_fall rfl⟩
set_option maxRecDepth 20000 in
theorem ob_X6_hope_4 {x : ip_Cx} {G : ip_Gl} {d : Nat} (X : ip_X x G tb 3 d 0 0 RX6 cX6_hope) (hr : x.2.2.2.2.2.2.2.2.1.sig.returnType = (some .long)) (hnm : x.2.2.2.2.2.2.2.2.1.name = "hope") : ip_okB x G 3 pc_X6_hope 42 ([], tRL 0 0) := ⟨_, okN, ok_lret X hr dX6_hope_42⟩
theorem om_194 : ip_MOk tb en_194 pc_X6_hope := fun x G d X hr hnm => ⟨ob_X6_hope_0 X hr hnm, ⟨ob_X6_hope_1 X hr hnm, ⟨ob_X6_hope_2 X hr hnm, ⟨ob_X6_hope_3 X hr hnm, ⟨ob_X6_hope_4 X hr hnm, trivial⟩⟩⟩⟩⟩
theorem dX6_findRows_0 : decode cX6_findRows 0 = .ok (.aload_n 0, 1) := by decide +kernel
theorem dX6_findRows_1 : decode cX6_findRows 1 = .ok (.getfield 7, 3) := by decide +kernel
theorem dX6_findRows_4 : decode cX6_findRows 4 = .ok (.aload_n 0, 1) := by decide +kernel
theorem dX6_findRows_5 : decode cX6_findRows 5 = .ok (.getfield 19, 3) := by decide +kernel
theorem dX6_findRows_8 : decode cX6_findRows 8 = .ok (.invokestatic 174, 3) := by decide +kernel
theorem dX6_findRows_11 : decode cX6_findRows 11 = .ok (.iconst 0, 1) := by decide +kernel
theorem dX6_findRows_12 : decode cX6_findRows 12 = .ok (.istore_n 3, 1) := by decide +kernel
theorem dX6_findRows_13 : decode cX6_findRows 13 = .ok (.iload_n 3, 1) := by decide +kernel
theorem dX6_findRows_14 : decode cX6_findRows 14 = .ok (.iload_n 2, 1) := by decide +kernel
theorem dX6_findRows_15 : decode cX6_findRows 15 = .ok (.if_icmp .ge 60, 3) := by decide +kernel
theorem dX6_findRows_18 : decode cX6_findRows 18 = .ok (.aload_n 0, 1) := by decide +kernel
theorem dX6_findRows_19 : decode cX6_findRows 19 = .ok (.invokevirtual 226, 3) := by decide +kernel
theorem dX6_findRows_22 : decode cX6_findRows 22 = .ok (.aload_n 0, 1) := by decide +kernel
theorem dX6_findRows_23 : decode cX6_findRows 23 = .ok (.getfield 28, 3) := by decide +kernel
theorem dX6_findRows_26 : decode cX6_findRows 26 = .ok (.iconst 3, 1) := by decide +kernel
theorem dX6_findRows_27 : decode cX6_findRows 27 = .ok (.iload_n 3, 1) := by decide +kernel
theorem dX6_findRows_28 : decode cX6_findRows 28 = .ok (.imul, 1) := by decide +kernel
theorem dX6_findRows_29 : decode cX6_findRows 29 = .ok (.aload_n 0, 1) := by decide +kernel
theorem dX6_findRows_30 : decode cX6_findRows 30 = .ok (.iload_n 1, 1) := by decide +kernel
theorem dX6_findRows_31 : decode cX6_findRows 31 = .ok (.iconst 2, 1) := by decide +kernel
theorem dX6_findRows_32 : decode cX6_findRows 32 = .ok (.invokevirtual 195, 3) := by decide +kernel
theorem dX6_findRows_35 : decode cX6_findRows 35 = .ok (.iastore, 1) := by decide +kernel
theorem dX6_findRows_36 : decode cX6_findRows 36 = .ok (.aload_n 0, 1) := by decide +kernel
theorem dX6_findRows_37 : decode cX6_findRows 37 = .ok (.getfield 28, 3) := by decide +kernel
theorem dX6_findRows_40 : decode cX6_findRows 40 = .ok (.iconst 3, 1) := by decide +kernel
theorem dX6_findRows_41 : decode cX6_findRows 41 = .ok (.iload_n 3, 1) := by decide +kernel
theorem dX6_findRows_42 : decode cX6_findRows 42 = .ok (.imul, 1) := by decide +kernel
theorem dX6_findRows_43 : decode cX6_findRows 43 = .ok (.iconst 1, 1) := by decide +kernel
theorem dX6_findRows_44 : decode cX6_findRows 44 = .ok (.iadd, 1) := by decide +kernel
theorem dX6_findRows_45 : decode cX6_findRows 45 = .ok (.aload_n 0, 1) := by decide +kernel
theorem dX6_findRows_46 : decode cX6_findRows 46 = .ok (.iload_n 1, 1) := by decide +kernel
theorem dX6_findRows_47 : decode cX6_findRows 47 = .ok (.iconst 5, 1) := by decide +kernel
theorem dX6_findRows_48 : decode cX6_findRows 48 = .ok (.invokevirtual 195, 3) := by decide +kernel
theorem dX6_findRows_51 : decode cX6_findRows 51 = .ok (.iastore, 1) := by decide +kernel
theorem dX6_findRows_52 : decode cX6_findRows 52 = .ok (.aload_n 0, 1) := by decide +kernel
theorem dX6_findRows_53 : decode cX6_findRows 53 = .ok (.getfield 28, 3) := by decide +kernel
theorem dX6_findRows_56 : decode cX6_findRows 56 = .ok (.iconst 3, 1) := by decide +kernel
theorem dX6_findRows_57 : decode cX6_findRows 57 = .ok (.iload_n 3, 1) := by decide +kernel
theorem dX6_findRows_58 : decode cX6_findRows 58 = .ok (.imul, 1) := by decide +kernel
theorem dX6_findRows_59 : decode cX6_findRows 59 = .ok (.iconst 2, 1) := by decide +kernel
theorem dX6_findRows_60 : decode cX6_findRows 60 = .ok (.iadd, 1) := by decide +kernel
theorem dX6_findRows_61 : decode cX6_findRows 61 = .ok (.aload_n 0, 1) := by decide +kernel
theorem dX6_findRows_62 : decode cX6_findRows 62 = .ok (.invokevirtual 229, 3) := by decide +kernel
theorem dX6_findRows_65 : decode cX6_findRows 65 = .ok (.invokestatic 198, 3) := by decide +kernel
theorem dX6_findRows_68 : decode cX6_findRows 68 = .ok (.iastore, 1) := by decide +kernel
theorem dX6_findRows_69 : decode cX6_findRows 69 = .ok (.iinc 3 1, 3) := by decide +kernel
theorem dX6_findRows_72 : decode cX6_findRows 72 = .ok (.goto (-59), 3) := by decide +kernel
theorem dX6_findRows_75 : decode cX6_findRows 75 = .ok (.aload_n 0, 1) := by decide +kernel
theorem dX6_findRows_76 : decode cX6_findRows 76 = .ok (.getfield 19, 3) := by decide +kernel
theorem dX6_findRows_79 : decode cX6_findRows 79 = .ok (.aload_n 0, 1) := by decide +kernel
theorem dX6_findRows_80 : decode cX6_findRows 80 = .ok (.getfield 7, 3) := by decide +kernel
theorem dX6_findRows_83 : decode cX6_findRows 83 = .ok (.invokestatic 174, 3) := by decide +kernel
theorem dX6_findRows_86 : decode cX6_findRows 86 = .ok (.return_, 1) := by decide +kernel
def pc_X6_findRows (i : Nat) : Nat := ([0, 13, 18, 75] : List Nat).getD i 0
set_option maxRecDepth 20000 in
theorem ob_X6_findRows_0 {x : ip_Cx} {G : ip_Gl} {d : Nat} (X : ip_X x G tb 4 d 0 0 RX6 cX6_findRows) (hr : x.2.2.2.2.2.2.2.2.1.sig.returnType = none) (hnm : x.2.2.2.2.2.2.2.2.1.name = "findRows") : ip_okB x G 4 pc_X6_findRows 0 ([oLdA 0, oGet 6 0, oLdA 0, oGet 6 3, oCal (ip_call tb d) 0 0 122 2 0 0, oI (0), oStI 3], tGo 1) := ⟨_, okC (ok_aldn X rfl dX6_findRows_0)
  (okC (ok_get X (ci := 6) rfl (by decide) iw_X6 tw_795 dX6_findRows_1)
  (okC (ok_aldn X rfl dX6_findRows_4)
  (okC (ok_get X (ci := 6) rfl (by decide) iw_X6 tw_798 dX6_findRows_5)
  (okC (ok_calS X (i := 174) (e := en_122) rfl mt_122 rfl rfl rfl tw_968 tw_969 dX6_findRows_8)
  (okC (ok_ic X (by decide) dX6_findRows_11)
  (okC (ok_istn X rfl (by decide) dX6_findRows_12)
  (okN))))))), ok_fall rfl⟩
set_option maxRecDepth 20000 in
theorem ob_X6_findRows_1 {x : ip_Cx} {G : ip_Gl} {d : Nat} (X : ip_X x G tb 4 d 0 0 RX6 cX6_findRows) (hr : x.2.2.2.2.2.2.2.2.1.sig.returnType = none) (hnm : x.2.2.2.2.2.2.2.2.1.name = "findRows") : ip_okB x G 4 pc_X6_findRows 13 ([oLdI 3, oLdI 2], tCm (fun a b => a < b) 2 3) := ⟨_, okC (ok_ildn X rfl dX6_findRows_13)
  (okC (ok_ildn X rfl dX6_findRows_14)
  (okN)), ok_cmge X (by decide) rfl dX6_findRows_15⟩
set_option maxRecDepth 20000 in
theorem ob_X6_findRows_2 {x : ip_Cx} {G : ip_Gl} {d : Nat} (X : ip_X x G tb 4 d 0 0 RX6 cX6_findRows) (hr : x.2.2.2.2.2.2.2.2.1.sig.returnType = none) (hnm : x.2.2.2.2.2.2.2.2.1.name = "findRows") : ip_okB x G 4 pc_X6_findRows 18 ([oLdA 0, oCaV (ip_call tb d) 0 0 6 162 1 0 0, oLdA 0, oGet 6 14, oI (3), oLdI 3, oBI (fun a b => a * b), oLdA 0, oLdI 1, oI (2), oCaV (ip_call tb d) 0 0 6 124 3 0 0, oAstI, oLdA 0, oGet 6 14, oI (3), oLdI 3, oBI (fun a b => a * b), oI (1), oBI (fun a b => a + b), oLdA 0, oLdI 1, oI (5), oCaV (ip_call tb d) 0 0 6 124 3 0 0, oAstI, oLdA 0, oGet 6 14, oI (3), oLdI 3, oBI (fun a b => a * b), oI (2), oBI (fun a b => a + b), oLdA 0, oCaV (ip_call tb d) 0 0 6 163 1 0 0, oCal (ip_call tb d) 0 0 127 1 0 0, oAstI, oInc 3 (1)], tGo 1) := ⟨_, okC (ok_aldn X rfl dX6_findRows_18)
  (okC (ok_calV X (i := 226) (e := en_162) rfl mt_162 rfl rfl rfl tw_1049 tw_1051 (Or.inl ⟨_, _, rfl⟩) tp_29 dX6_findRows_19)
  (okC (ok_aldn X rfl dX6_findRows_22)
  (okC (ok_get X (ci := 6) rfl (by decide) iw_X6 tw_809 dX6_findRows_23)
  (okC (ok_ic X (by decide) dX6_findRows_26)
  (okC (ok_ildn X rfl dX6_findRows_27)
  (okC (ok_imul X dX6_findRows_28)
  (okC (ok_aldn X rfl dX6_findRows_29)
  (okC (ok_ildn X rfl dX6_findRows_30)
  (okC (ok_ic X (by decide) dX6_findRows_31)
  (okC (ok_calV X (i := 195) (e := en_124) rfl mt_124 rfl rfl rfl tw_1006 tw_1008 (Or.inl ⟨_, _, rfl⟩) tp_24 dX6_findRows_32)
  (okC (ok_iast X dX6_findRows_35)
  (okC (ok_aldn X rfl dX6_findRows_36)
  (okC (ok_get X (ci := 6) rfl (by decide) iw_X6 tw_809 dX6_findRows_37)
  (okC (ok_ic X (by decide) dX6_findRows_40)
  (okC (ok_ildn X rfl dX6_findRows_41)
  (okC (ok_imul X dX6_findRows_42)
  (okC (ok_ic X (by decide) dX6_findRows_43)
  (okC (ok_iadd X dX6_findRows_44)
  (okC (ok_aldn X rfl dX6_findRows_45)
  (okC (ok_ildn X rfl dX6_findRows_46)
  (okC (ok_ic X (by decide) dX6_findRows_47)
  (okC (ok_calV X (i := 195) (e := en_124) rfl mt_124 rfl rfl rfl tw_1006 tw_1008 (Or.inl ⟨_, _, rfl⟩) tp_24 dX6_findRows_48)
  (okC (ok_iast X dX6_findRows_51)
  (okC (ok_aldn X rfl dX6_findRows_52)
  (okC (ok_get X (ci := 6) rfl (by decide) iw_X6 tw_809 dX6_findRows_53)
  (okC (ok_ic X (by decide) dX6_findRows_56)
  (okC (ok_ildn X rfl dX6_findRows_57)
  (okC (ok_imul X dX6_findRows_58)
  (okC (ok_ic X (by decide) dX6_findRows_59)
  (okC (ok_iadd X dX6_findRows_60)
  (okC (ok_aldn X rfl dX6_findRows_61)
  (okC (ok_calV X (i := 229) (e := en_163) rfl mt_163 rfl rfl rfl tw_1068 tw_1070 (Or.inl ⟨_, _, rfl⟩) tp_33 dX6_findRows_62)
  (okC (ok_calS X (i := 198) (e := en_127) rfl mt_127 rfl rfl rfl tw_1022 tw_1023 dX6_findRows_65)
  (okC (ok_iast X dX6_findRows_68)
  (okC (ok_inc X (by decide) dX6_findRows_69)
  (okN)))))))))))))))))))))))))))))))))))), ok_go X (by decide) dX6_findRows_72⟩
set_option maxRecDepth 20000 in
theorem ob_X6_findRows_3 {x : ip_Cx} {G : ip_Gl} {d : Nat} (X : ip_X x G tb 4 d 0 0 RX6 cX6_findRows) (hr : x.2.2.2.2.2.2.2.2.1.sig.returnType = none) (hnm : x.2.2.2.2.2.2.2.2.1.name = "findRows") : ip_okB x G 4 pc_X6_findRows 75 ([oLdA 0, oGet 6 3, oLdA 0, oGet 6 0, oCal (ip_call tb d) 0 0 122 2 0 0], tRV 0 0) := ⟨_, okC (ok_aldn X rfl dX6_findRows_75)
  (okC (ok_get X (ci := 6) rfl (by decide) iw_X6 tw_798 dX6_findRows_76)
  (okC (ok_aldn X rfl dX6_findRows_79)
  (okC (ok_get X (ci := 6) rfl (by decide) iw_X6 tw_795 dX6_findRows_80)
  (okC (ok_calS X (i := 174) (e := en_122) rfl mt_122 rfl rfl rfl tw_968 tw_969 dX6_findRows_83)
  (okN))))), ok_vret X hr dX6_findRows_86⟩
theorem om_195 : ip_MOk tb en_195 pc_X6_findRows := fun x G d X hr hnm => ⟨ob_X6_findRows_0 X hr hnm, ⟨ob_X6_findRows_1 X hr hnm, ⟨ob_X6_findRows_2 X hr hnm, ⟨ob_X6_findRows_3 X hr hnm, trivial⟩⟩⟩⟩
theorem dX6_prove_0 : decode cX6_prove 0 = .ok (.aload_n 0, 1) := by decide +kernel
theorem dX6_prove_1 : decode cX6_prove 1 = .ok (.iload_n 1, 1) := by decide +kernel
theorem dX6_prove_2 : decode cX6_prove 2 = .ok (.invokevirtual 192, 3) := by decide +kernel
theorem dX6_prove_5 : decode cX6_prove 5 = .ok (.ifCond .eq 13, 3) := by decide +kernel
theorem dX6_prove_8 : decode cX6_prove 8 = .ok (.iload_n 2, 1) := by decide +kernel
theorem dX6_prove_9 : decode cX6_prove 9 = .ok (.iconst 1, 1) := by decide +kernel
theorem dX6_prove_10 : decode cX6_prove 10 = .ok (.bipush 10, 2) := by decide +kernel
theorem dX6_prove_12 : decode cX6_prove 12 = .ok (.invokestatic 57, 3) := by decide +kernel
theorem dX6_prove_15 : decode cX6_prove 15 = .ok (.ifCond .ne 5, 3) := by decide +kernel
theorem dX6_prove_18 : decode cX6_prove 18 = .ok (.iconst (-1), 1) := by decide +kernel
theorem dX6_prove_19 : decode cX6_prove 19 = .ok (.ireturn, 1) := by decide +kernel
theorem dX6_prove_20 : decode cX6_prove 20 = .ok (.aload_n 0, 1) := by decide +kernel
theorem dX6_prove_21 : decode cX6_prove 21 = .ok (.iload_n 1, 1) := by decide +kernel
theorem dX6_prove_22 : decode cX6_prove 22 = .ok (.iload_n 2, 1) := by decide +kernel
theorem dX6_prove_23 : decode cX6_prove 23 = .ok (.invokevirtual 283, 3) := by decide +kernel
theorem dX6_prove_26 : decode cX6_prove 26 = .ok (.aload_n 0, 1) := by decide +kernel
theorem dX6_prove_27 : decode cX6_prove 27 = .ok (.iload_n 2, 1) := by decide +kernel
theorem dX6_prove_28 : decode cX6_prove 28 = .ok (.putfield 178, 3) := by decide +kernel
theorem dX6_prove_31 : decode cX6_prove 31 = .ok (.iconst 0, 1) := by decide +kernel
theorem dX6_prove_32 : decode cX6_prove 32 = .ok (.istore_n 3, 1) := by decide +kernel
theorem dX6_prove_33 : decode cX6_prove 33 = .ok (.iload_n 3, 1) := by decide +kernel
theorem dX6_prove_34 : decode cX6_prove 34 = .ok (.iconst 3, 1) := by decide +kernel
theorem dX6_prove_35 : decode cX6_prove 35 = .ok (.iload_n 2, 1) := by decide +kernel
theorem dX6_prove_36 : decode cX6_prove 36 = .ok (.imul, 1) := by decide +kernel
theorem dX6_prove_37 : decode cX6_prove 37 = .ok (.if_icmp .ge 21, 3) := by decide +kernel
theorem dX6_prove_40 : decode cX6_prove 40 = .ok (.aload_n 0, 1) := by decide +kernel
theorem dX6_prove_41 : decode cX6_prove 41 = .ok (.getfield 25, 3) := by decide +kernel
theorem dX6_prove_44 : decode cX6_prove 44 = .ok (.iload_n 3, 1) := by decide +kernel
theorem dX6_prove_45 : decode cX6_prove 45 = .ok (.aload_n 0, 1) := by decide +kernel
theorem dX6_prove_46 : decode cX6_prove 46 = .ok (.getfield 28, 3) := by decide +kernel
theorem dX6_prove_49 : decode cX6_prove 49 = .ok (.iload_n 3, 1) := by decide +kernel
theorem dX6_prove_50 : decode cX6_prove 50 = .ok (.iaload, 1) := by decide +kernel
theorem dX6_prove_51 : decode cX6_prove 51 = .ok (.iastore, 1) := by decide +kernel
theorem dX6_prove_52 : decode cX6_prove 52 = .ok (.iinc 3 1, 3) := by decide +kernel
theorem dX6_prove_55 : decode cX6_prove 55 = .ok (.goto (-22), 3) := by decide +kernel
theorem dX6_prove_58 : decode cX6_prove 58 = .ok (.iload_n 2, 1) := by decide +kernel
theorem dX6_prove_59 : decode cX6_prove 59 = .ok (.ireturn, 1) := by decide +kernel
def pc_X6_prove (i : Nat) : Nat := ([0, 8, 18, 20, 33, 40, 58] : List Nat).getD i 0
set_option maxRecDepth 20000 in
theorem ob_X6_prove_0 {x : ip_Cx} {G : ip_Gl} {d : Nat} (X : ip_X x G tb 4 d 0 0 RX6 cX6_prove) (hr : x.2.2.2.2.2.2.2.2.1.sig.returnType = (some .int)) (hnm : x.2.2.2.2.2.2.2.2.1.name = "prove") : ip_okB x G 4 pc_X6_prove 0 ([oLdA 0, oLdI 1, oCaV (ip_call tb d) 0 0 6 123 2 0 0], tIf (fun a => a = 0) 2 1) := ⟨_, okC (ok_aldn X rfl dX6_prove_0)
  (okC (ok_ildn X rfl dX6_prove_1)
  (okC (ok_calV X (i := 192) (e := en_123) rfl mt_123 rfl rfl rfl tw_1002 tw_1004 (Or.inl ⟨_, _, rfl⟩) tp_23 dX6_prove_2)
  (okN))), ok_ifeq X (by decide) rfl dX6_prove_5⟩
set_option maxRecDepth 20000 in
theorem ob_X6_prove_1 {x : ip_Cx} {G : ip_Gl} {d : Nat} (X : ip_X x G tb 4 d 0 0 RX6 cX6_prove) (hr : x.2.2.2.2.2.2.2.2.1.sig.returnType = (some .int)) (hnm : x.2.2.2.2.2.2.2.2.1.name = "prove") : ip_okB x G 4 pc_X6_prove 8 ([oLdI 2, oI (1), oI (10), oCal (ip_call tb d) 0 0 120 3 0 0], tIf (fun a => a = 0) 2 3) := ⟨_, okC (ok_ildn X rfl dX6_prove_8)
  (okC (ok_ic X (by decide) dX6_prove_9)
  (okC (ok_bi X (by decide) dX6_prove_10)
  (okC (ok_calS X (i := 57) (e := en_120) rfl mt_120 rfl rfl rfl tw_885 tw_886 dX6_prove_12)
  (okN)))), ok_ifne X (by decide) rfl dX6_prove_15⟩
set_option maxRecDepth 20000 in
theorem ob_X6_prove_2 {x : ip_Cx} {G : ip_Gl} {d : Nat} (X : ip_X x G tb 4 d 0 0 RX6 cX6_prove) (hr : x.2.2.2.2.2.2.2.2.1.sig.returnType = (some .int)) (hnm : x.2.2.2.2.2.2.2.2.1.name = "prove") : ip_okB x G 4 pc_X6_prove 18 ([oI (-1)], tRI .int 0 0) := ⟨_, okC (ok_ic X (by decide) dX6_prove_18)
  (okN), ok_ret X hr dX6_prove_19⟩
set_option maxRecDepth 20000 in
theorem ob_X6_prove_3 {x : ip_Cx} {G : ip_Gl} {d : Nat} (X : ip_X x G tb 4 d 0 0 RX6 cX6_prove) (hr : x.2.2.2.2.2.2.2.2.1.sig.returnType = (some .int)) (hnm : x.2.2.2.2.2.2.2.2.1.name = "prove") : ip_okB x G 4 pc_X6_prove 20 ([oLdA 0, oLdI 1, oLdI 2, oCaV (ip_call tb d) 0 0 6 195 3 0 0, oLdA 0, oLdI 2, oPut 6 15 .int, oI (0), oStI 3], tGo 4) := ⟨_, okC (ok_aldn X rfl dX6_prove_20)
  (okC (ok_ildn X rfl dX6_prove_21)
  (okC (ok_ildn X rfl dX6_prove_22)
  (okC (ok_calV X (i := 283) (e := en_195) rfl mt_195 rfl rfl rfl tw_1199 tw_1201 (Or.inl ⟨_, _, rfl⟩) tp_46 dX6_prove_23)
  (okC (ok_aldn X rfl dX6_prove_26)
  (okC (ok_ildn X rfl dX6_prove_27)
  (okC (ok_put X (ci := 6) rfl (by decide) iw_X6 tyX6_ok nmX6 rfl (Or.inl rfl) tw_810 dX6_prove_28)
  (okC (ok_ic X (by decide) dX6_prove_31)
  (okC (ok_istn X rfl (by decide) dX6_prove_32)
  (okN))))))))), ok_fall rfl⟩
set_option maxRecDepth 20000 in
theorem ob_X6_prove_4 {x : ip_Cx} {G : ip_Gl} {d : Nat} (X : ip_X x G tb 4 d 0 0 RX6 cX6_prove) (hr : x.2.2.2.2.2.2.2.2.1.sig.returnType = (some .int)) (hnm : x.2.2.2.2.2.2.2.2.1.name = "prove") : ip_okB x G 4 pc_X6_prove 33 ([oLdI 3, oI (3), oLdI 2, oBI (fun a b => a * b)], tCm (fun a b => a < b) 5 6) := ⟨_, okC (ok_ildn X rfl dX6_prove_33)
  (okC (ok_ic X (by decide) dX6_prove_34)
  (okC (ok_ildn X rfl dX6_prove_35)
  (okC (ok_imul X dX6_prove_36)
  (okN)))), ok_cmge X (by decide) rfl dX6_prove_37⟩
set_option maxRecDepth 20000 in
theorem ob_X6_prove_5 {x : ip_Cx} {G : ip_Gl} {d : Nat} (X : ip_X x G tb 4 d 0 0 RX6 cX6_prove) (hr : x.2.2.2.2.2.2.2.2.1.sig.returnType = (some .int)) (hnm : x.2.2.2.2.2.2.2.2.1.name = "prove") : ip_okB x G 4 pc_X6_prove 40 ([oLdA 0, oGet 6 13, oLdI 3, oLdA 0, oGet 6 14, oLdI 3, oAldI, oAstI, oInc 3 (1)], tGo 4) := ⟨_, okC (ok_aldn X rfl dX6_prove_40)
  (okC (ok_get X (ci := 6) rfl (by decide) iw_X6 tw_808 dX6_prove_41)
  (okC (ok_ildn X rfl dX6_prove_44)
  (okC (ok_aldn X rfl dX6_prove_45)
  (okC (ok_get X (ci := 6) rfl (by decide) iw_X6 tw_809 dX6_prove_46)
  (okC (ok_ildn X rfl dX6_prove_49)
  (okC (ok_iald X dX6_prove_50)
  (okC (ok_iast X dX6_prove_51)
  (okC (ok_inc X (by decide) dX6_prove_52)
  (okN))))))))), ok_go X (by decide) dX6_prove_55⟩
set_option maxRecDepth 20000 in
theorem ob_X6_prove_6 {x : ip_Cx} {G : ip_Gl} {d : Nat} (X : ip_X x G tb 4 d 0 0 RX6 cX6_prove) (hr : x.2.2.2.2.2.2.2.2.1.sig.returnType = (some .int)) (hnm : x.2.2.2.2.2.2.2.2.1.name = "prove") : ip_okB x G 4 pc_X6_prove 58 ([oLdI 2], tRI .int 0 0) := ⟨_, okC (ok_ildn X rfl dX6_prove_58)
  (okN), ok_ret X hr dX6_prove_59⟩
theorem om_196 : ip_MOk tb en_196 pc_X6_prove := fun x G d X hr hnm => ⟨ob_X6_prove_0 X hr hnm, ⟨ob_X6_prove_1 X hr hnm, ⟨ob_X6_prove_2 X hr hnm, ⟨ob_X6_prove_3 X hr hnm, ⟨ob_X6_prove_4 X hr hnm, ⟨ob_X6_prove_5 X hr hnm, ⟨ob_X6_prove_6 X hr hnm, trivial⟩⟩⟩⟩⟩⟩⟩
theorem dX6_isRow_0 : decode cX6_isRow 0 = .ok (.iload_n 1, 1) := by decide +kernel
theorem dX6_isRow_1 : decode cX6_isRow 1 = .ok (.iconst 0, 1) := by decide +kernel
theorem dX6_isRow_2 : decode cX6_isRow 2 = .ok (.aload_n 0, 1) := by decide +kernel
theorem dX6_isRow_3 : decode cX6_isRow 3 = .ok (.getfield 178, 3) := by decide +kernel
theorem dX6_isRow_6 : decode cX6_isRow 6 = .ok (.iconst 1, 1) := by decide +kernel
theorem dX6_isRow_7 : decode cX6_isRow 7 = .ok (.isub, 1) := by decide +kernel
theorem dX6_isRow_8 : decode cX6_isRow 8 = .ok (.invokestatic 57, 3) := by decide +kernel
theorem dX6_isRow_11 : decode cX6_isRow 11 = .ok (.ifCond .eq 16, 3) := by decide +kernel
theorem dX6_isRow_14 : decode cX6_isRow 14 = .ok (.iload_n 2, 1) := by decide +kernel
theorem dX6_isRow_15 : decode cX6_isRow 15 = .ok (.iconst 0, 1) := by decide +kernel
theorem dX6_isRow_16 : decode cX6_isRow 16 = .ok (.iconst 2, 1) := by decide +kernel
theorem dX6_isRow_17 : decode cX6_isRow 17 = .ok (.invokestatic 57, 3) := by decide +kernel
theorem dX6_isRow_20 : decode cX6_isRow 20 = .ok (.ifCond .eq 7, 3) := by decide +kernel
theorem dX6_isRow_23 : decode cX6_isRow 23 = .ok (.iconst 1, 1) := by decide +kernel
theorem dX6_isRow_24 : decode cX6_isRow 24 = .ok (.goto 4, 3) := by decide +kernel
theorem dX6_isRow_27 : decode cX6_isRow 27 = .ok (.iconst 0, 1) := by decide +kernel
theorem dX6_isRow_28 : decode cX6_isRow 28 = .ok (.ireturn, 1) := by decide +kernel
def pc_X6_isRow (i : Nat) : Nat := ([0, 14, 23, 27, 28] : List Nat).getD i 0
set_option maxRecDepth 20000 in
theorem ob_X6_isRow_0 {x : ip_Cx} {G : ip_Gl} {d : Nat} (X : ip_X x G tb 3 d 0 0 RX6 cX6_isRow) (hr : x.2.2.2.2.2.2.2.2.1.sig.returnType = (some .boolean)) (hnm : x.2.2.2.2.2.2.2.2.1.name = "isRow") : ip_okB x G 3 pc_X6_isRow 0 ([oLdI 1, oI (0), oLdA 0, oGet 6 15, oI (1), oBI (fun a b => a - b), oCal (ip_call tb d) 0 0 120 3 0 0], tIf (fun a => a = 0) 3 1) := ⟨_, okC (ok_ildn X rfl dX6_isRow_0)
  (okC (ok_ic X (by decide) dX6_isRow_1)
  (okC (ok_aldn X rfl dX6_isRow_2)
  (okC (ok_get X (ci := 6) rfl (by decide) iw_X6 tw_810 dX6_isRow_3)
  (okC (ok_ic X (by decide) dX6_isRow_6)
  (okC (ok_isub X dX6_isRow_7)
  (okC (ok_calS X (i := 57) (e := en_120) rfl mt_120 rfl rfl rfl tw_885 tw_886 dX6_isRow_8)
  (okN))))))), ok_ifeq X (by decide) rfl dX6_isRow_11⟩
set_option maxRecDepth 20000 in
theorem ob_X6_isRow_1 {x : ip_Cx} {G : ip_Gl} {d : Nat} (X : ip_X x G tb 3 d 0 0 RX6 cX6_isRow) (hr : x.2.2.2.2.2.2.2.2.1.sig.returnType = (some .boolean)) (hnm : x.2.2.2.2.2.2.2.2.1.name = "isRow") : ip_okB x G 3 pc_X6_isRow 14 ([oLdI 2, oI (0), oI (2), oCal (ip_call tb d) 0 0 120 3 0 0], tIf (fun a => a = 0) 3 2) := ⟨_, okC (ok_ildn X rfl dX6_isRow_14)
  (okC (ok_ic X (by decide) dX6_isRow_15)
  (okC (ok_ic X (by decide) dX6_isRow_16)
  (okC (ok_calS X (i := 57) (e := en_120) rfl mt_120 rfl rfl rfl tw_885 tw_886 dX6_isRow_17)
  (okN)))), ok_ifeq X (by decide) rfl dX6_isRow_20⟩
set_option maxRecDepth 20000 in
theorem ob_X6_isRow_2 {x : ip_Cx} {G : ip_Gl} {d : Nat} (X : ip_X x G tb 3 d 0 0 RX6 cX6_isRow) (hr : x.2.2.2.2.2.2.2.2.1.sig.returnType = (some .boolean)) (hnm : x.2.2.2.2.2.2.2.2.1.name = "isRow") : ip_okB x G 3 pc_X6_isRow 23 ([oI (1)], tGo 4) := ⟨_, okC (ok_ic X (by decide) dX6_isRow_23)
  (okN), ok_go X (by decide) dX6_isRow_24⟩
set_option maxRecDepth 20000 in
theorem ob_X6_isRow_3 {x : ip_Cx} {G : ip_Gl} {d : Nat} (X : ip_X x G tb 3 d 0 0 RX6 cX6_isRow) (hr : x.2.2.2.2.2.2.2.2.1.sig.returnType = (some .boolean)) (hnm : x.2.2.2.2.2.2.2.2.1.name = "isRow") : ip_okB x G 3 pc_X6_isRow 27 ([oI (0)], tGo 4) := ⟨_, okC (ok_ic X (by decide) dX6_isRow_27)
  (okN), ok_fall rfl⟩
set_option maxRecDepth 20000 in
theorem ob_X6_isRow_4 {x : ip_Cx} {G : ip_Gl} {d : Nat} (X : ip_X x G tb 3 d 0 0 RX6 cX6_isRow) (hr : x.2.2.2.2.2.2.2.2.1.sig.returnType = (some .boolean)) (hnm : x.2.2.2.2.2.2.2.2.1.name = "isRow") : ip_okB x G 3 pc_X6_isRow 28 ([], tRI .boolean 0 0) := ⟨_, okN, ok_ret X hr dX6_isRow_28⟩
theorem om_197 : ip_MOk tb en_197 pc_X6_isRow := fun x G d X hr hnm => ⟨ob_X6_isRow_0 X hr hnm, ⟨ob_X6_isRow_1 X hr hnm, ⟨ob_X6_isRow_2 X hr hnm, ⟨ob_X6_isRow_3 X hr hnm, ⟨ob_X6_isRow_4 X hr hnm, trivial⟩⟩⟩⟩⟩
theorem dX6_row_0 : decode cX6_row 0 = .ok (.aload_n 0, 1) := by decide +kernel
theorem dX6_row_1 : decode cX6_row 1 = .ok (.iload_n 1, 1) := by decide +kernel
theorem dX6_row_2 : decode cX6_row 2 = .ok (.iload_n 2, 1) := by decide +kernel
theorem dX6_row_3 : decode cX6_row 3 = .ok (.invokevirtual 287, 3) := by decide +kernel
theorem dX6_row_6 : decode cX6_row 6 = .ok (.ifCond .eq 16, 3) := by decide +kernel
theorem dX6_row_9 : decode cX6_row 9 = .ok (.aload_n 0, 1) := by decide +kernel
theorem dX6_row_10 : decode cX6_row 10 = .ok (.getfield 25, 3) := by decide +kernel
theorem dX6_row_13 : decode cX6_row 13 = .ok (.iconst 3, 1) := by decide +kernel
theorem dX6_row_14 : decode cX6_row 14 = .ok (.iload_n 1, 1) := by decide +kernel
theorem dX6_row_15 : decode cX6_row 15 = .ok (.imul, 1) := by decide +kernel
theorem dX6_row_16 : decode cX6_row 16 = .ok (.iload_n 2, 1) := by decide +kernel
theorem dX6_row_17 : decode cX6_row 17 = .ok (.iadd, 1) := by decide +kernel
theorem dX6_row_18 : decode cX6_row 18 = .ok (.iaload, 1) := by decide +kernel
theorem dX6_row_19 : decode cX6_row 19 = .ok (.goto 5, 3) := by decide +kernel
theorem dX6_row_22 : decode cX6_row 22 = .ok (.bipush (-9), 2) := by decide +kernel
theorem dX6_row_24 : decode cX6_row 24 = .ok (.ireturn, 1) := by decide +kernel
def pc_X6_row (i : Nat) : Nat := ([0, 9, 22, 24] : List Nat).getD i 0
set_option maxRecDepth 20000 in
theorem ob_X6_row_0 {x : ip_Cx} {G : ip_Gl} {d : Nat} (X : ip_X x G tb 3 d 0 0 RX6 cX6_row) (hr : x.2.2.2.2.2.2.2.2.1.sig.returnType = (some .int)) (hnm : x.2.2.2.2.2.2.2.2.1.name = "row") : ip_okB x G 3 pc_X6_row 0 ([oLdA 0, oLdI 1, oLdI 2, oCaV (ip_call tb d) 0 0 6 197 3 0 0], tIf (fun a => a = 0) 2 1) := ⟨_, okC (ok_aldn X rfl dX6_row_0)
  (okC (ok_ildn X rfl dX6_row_1)
  (okC (ok_ildn X rfl dX6_row_2)
  (okC (ok_calV X (i := 287) (e := en_197) rfl mt_197 rfl rfl rfl tw_1207 tw_1209 (Or.inl ⟨_, _, rfl⟩) tp_47 dX6_row_3)
  (okN)))), ok_ifeq X (by decide) rfl dX6_row_6⟩
set_option maxRecDepth 20000 in
theorem ob_X6_row_1 {x : ip_Cx} {G : ip_Gl} {d : Nat} (X : ip_X x G tb 3 d 0 0 RX6 cX6_row) (hr : x.2.2.2.2.2.2.2.2.1.sig.returnType = (some .int)) (hnm : x.2.2.2.2.2.2.2.2.1.name = "row") : ip_okB x G 3 pc_X6_row 9 ([oLdA 0, oGet 6 13, oI (3), oLdI 1, oBI (fun a b => a * b), oLdI 2, oBI (fun a b => a + b), oAldI], tGo 3) := ⟨_, okC (ok_aldn X rfl dX6_row_9)
  (okC (ok_get X (ci := 6) rfl (by decide) iw_X6 tw_808 dX6_row_10)
  (okC (ok_ic X (by decide) dX6_row_13)
  (okC (ok_ildn X rfl dX6_row_14)
  (okC (ok_imul X dX6_row_15)
  (okC (ok_ildn X rfl dX6_row_16)
  (okC (ok_iadd X dX6_row_17)
  (okC (ok_iald X dX6_row_18)
  (okN)))))))), ok_go X (by decide) dX6_row_19⟩
set_option maxRecDepth 20000 in
theorem ob_X6_row_2 {x : ip_Cx} {G : ip_Gl} {d : Nat} (X : ip_X x G tb 3 d 0 0 RX6 cX6_row) (hr : x.2.2.2.2.2.2.2.2.1.sig.returnType = (some .int)) (hnm : x.2.2.2.2.2.2.2.2.1.name = "row") : ip_okB x G 3 pc_X6_row 22 ([oI (-9)], tGo 3) := ⟨_, okC (ok_bi X (by decide) dX6_row_22)
  (okN), ok_fall rfl⟩
set_option maxRecDepth 20000 in
theorem ob_X6_row_3 {x : ip_Cx} {G : ip_Gl} {d : Nat} (X : ip_X x G tb 3 d 0 0 RX6 cX6_row) (hr : x.2.2.2.2.2.2.2.2.1.sig.returnType = (some .int)) (hnm : x.2.2.2.2.2.2.2.2.1.name = "row") : ip_okB x G 3 pc_X6_row 24 ([], tRI .int 0 0) := ⟨_, okN, ok_ret X hr dX6_row_24⟩
theorem om_198 : ip_MOk tb en_198 pc_X6_row := fun x G d X hr hnm => ⟨ob_X6_row_0 X hr hnm, ⟨ob_X6_row_1 X hr hnm, ⟨ob_X6_row_2 X hr hnm, ⟨ob_X6_row_3 X hr hnm, trivial⟩⟩⟩⟩
theorem dX6_alterRow_0 : decode cX6_alterRow 0 = .ok (.aload_n 0, 1) := by decide +kernel
theorem dX6_alterRow_1 : decode cX6_alterRow 1 = .ok (.iload_n 1, 1) := by decide +kernel
theorem dX6_alterRow_2 : decode cX6_alterRow 2 = .ok (.iload_n 2, 1) := by decide +kernel
theorem dX6_alterRow_3 : decode cX6_alterRow 3 = .ok (.invokevirtual 287, 3) := by decide +kernel
theorem dX6_alterRow_6 : decode cX6_alterRow 6 = .ok (.ifCond .ne 6, 3) := by decide +kernel
theorem dX6_alterRow_9 : decode cX6_alterRow 9 = .ok (.bipush (-9), 2) := by decide +kernel
theorem dX6_alterRow_11 : decode cX6_alterRow 11 = .ok (.ireturn, 1) := by decide +kernel
theorem dX6_alterRow_12 : decode cX6_alterRow 12 = .ok (.aload_n 0, 1) := by decide +kernel
theorem dX6_alterRow_13 : decode cX6_alterRow 13 = .ok (.getfield 25, 3) := by decide +kernel
theorem dX6_alterRow_16 : decode cX6_alterRow 16 = .ok (.iconst 3, 1) := by decide +kernel
theorem dX6_alterRow_17 : decode cX6_alterRow 17 = .ok (.iload_n 1, 1) := by decide +kernel
theorem dX6_alterRow_18 : decode cX6_alterRow 18 = .ok (.imul, 1) := by decide +kernel
theorem dX6_alterRow_19 : decode cX6_alterRow 19 = .ok (.iload_n 2, 1) := by decide +kernel
theorem dX6_alterRow_20 : decode cX6_alterRow 20 = .ok (.iadd, 1) := by decide +kernel
theorem dX6_alterRow_21 : decode cX6_alterRow 21 = .ok (.iaload, 1) := by decide +kernel
theorem dX6_alterRow_22 : decode cX6_alterRow 22 = .ok (.istore 4, 2) := by decide +kernel
theorem dX6_alterRow_24 : decode cX6_alterRow 24 = .ok (.aload_n 0, 1) := by decide +kernel
theorem dX6_alterRow_25 : decode cX6_alterRow 25 = .ok (.getfield 25, 3) := by decide +kernel
theorem dX6_alterRow_28 : decode cX6_alterRow 28 = .ok (.iconst 3, 1) := by decide +kernel
theorem dX6_alterRow_29 : decode cX6_alterRow 29 = .ok (.iload_n 1, 1) := by decide +kernel
theorem dX6_alterRow_30 : decode cX6_alterRow 30 = .ok (.imul, 1) := by decide +kernel
theorem dX6_alterRow_31 : decode cX6_alterRow 31 = .ok (.iload_n 2, 1) := by decide +kernel
theorem dX6_alterRow_32 : decode cX6_alterRow 32 = .ok (.iadd, 1) := by decide +kernel
theorem dX6_alterRow_33 : decode cX6_alterRow 33 = .ok (.iload_n 3, 1) := by decide +kernel
theorem dX6_alterRow_34 : decode cX6_alterRow 34 = .ok (.iastore, 1) := by decide +kernel
theorem dX6_alterRow_35 : decode cX6_alterRow 35 = .ok (.iload 4, 2) := by decide +kernel
theorem dX6_alterRow_37 : decode cX6_alterRow 37 = .ok (.ireturn, 1) := by decide +kernel
def pc_X6_alterRow (i : Nat) : Nat := ([0, 9, 12] : List Nat).getD i 0
set_option maxRecDepth 20000 in
theorem ob_X6_alterRow_0 {x : ip_Cx} {G : ip_Gl} {d : Nat} (X : ip_X x G tb 5 d 0 0 RX6 cX6_alterRow) (hr : x.2.2.2.2.2.2.2.2.1.sig.returnType = (some .int)) (hnm : x.2.2.2.2.2.2.2.2.1.name = "alterRow") : ip_okB x G 5 pc_X6_alterRow 0 ([oLdA 0, oLdI 1, oLdI 2, oCaV (ip_call tb d) 0 0 6 197 3 0 0], tIf (fun a => a = 0) 1 2) := ⟨_, okC (ok_aldn X rfl dX6_alterRow_0)
  (okC (ok_ildn X rfl dX6_alterRow_1)
  (okC (ok_ildn X rfl dX6_alterRow_2)
  (okC (ok_calV X (i := 287) (e := en_197) rfl mt_197 rfl rfl rfl tw_1207 tw_1209 (Or.inl ⟨_, _, rfl⟩) tp_47 dX6_alterRow_3)
  (okN)))), ok_ifne X (by decide) rfl dX6_alterRow_6⟩
set_option maxRecDepth 20000 in
theorem ob_X6_alterRow_1 {x : ip_Cx} {G : ip_Gl} {d : Nat} (X : ip_X x G tb 5 d 0 0 RX6 cX6_alterRow) (hr : x.2.2.2.2.2.2.2.2.1.sig.returnType = (some .int)) (hnm : x.2.2.2.2.2.2.2.2.1.name = "alterRow") : ip_okB x G 5 pc_X6_alterRow 9 ([oI (-9)], tRI .int 0 0) := ⟨_, okC (ok_bi X (by decide) dX6_alterRow_9)
  (okN), ok_ret X hr dX6_alterRow_11⟩
set_option maxRecDepth 20000 in
theorem ob_X6_alterRow_2 {x : ip_Cx} {G : ip_Gl} {d : Nat} (X : ip_X x G tb 5 d 0 0 RX6 cX6_alterRow) (hr : x.2.2.2.2.2.2.2.2.1.sig.returnType = (some .int)) (hnm : x.2.2.2.2.2.2.2.2.1.name = "alterRow") : ip_okB x G 5 pc_X6_alterRow 12 ([oLdA 0, oGet 6 13, oI (3), oLdI 1, oBI (fun a b => a * b), oLdI 2, oBI (fun a b => a + b), oAldI, oStI 4, oLdA 0, oGet 6 13, oI (3), oLdI 1, oBI (fun a b => a * b), oLdI 2, oBI (fun a b => a + b), oLdI 3, oAstI, oLdI 4], tRI .int 0 0) := ⟨_, okC (ok_aldn X rfl dX6_alterRow_12)
  (okC (ok_get X (ci := 6) rfl (by decide) iw_X6 tw_808 dX6_alterRow_13)
  (okC (ok_ic X (by decide) dX6_alterRow_16)
  (okC (ok_ildn X rfl dX6_alterRow_17)
  (okC (ok_imul X dX6_alterRow_18)
  (okC (ok_ildn X rfl dX6_alterRow_19)
  (okC (ok_iadd X dX6_alterRow_20)
  (okC (ok_iald X dX6_alterRow_21)
  (okC (ok_ist X (by decide) dX6_alterRow_22)
  (okC (ok_aldn X rfl dX6_alterRow_24)
  (okC (ok_get X (ci := 6) rfl (by decide) iw_X6 tw_808 dX6_alterRow_25)
  (okC (ok_ic X (by decide) dX6_alterRow_28)
  (okC (ok_ildn X rfl dX6_alterRow_29)
  (okC (ok_imul X dX6_alterRow_30)
  (okC (ok_ildn X rfl dX6_alterRow_31)
  (okC (ok_iadd X dX6_alterRow_32)
  (okC (ok_ildn X rfl dX6_alterRow_33)
  (okC (ok_iast X dX6_alterRow_34)
  (okC (ok_ild X dX6_alterRow_35)
  (okN))))))))))))))))))), ok_ret X hr dX6_alterRow_37⟩
theorem om_199 : ip_MOk tb en_199 pc_X6_alterRow := fun x G d X hr hnm => ⟨ob_X6_alterRow_0 X hr hnm, ⟨ob_X6_alterRow_1 X hr hnm, ⟨ob_X6_alterRow_2 X hr hnm, trivial⟩⟩⟩
theorem dX6_judge_0 : decode cX6_judge 0 = .ok (.aload_n 0, 1) := by decide +kernel
theorem dX6_judge_1 : decode cX6_judge 1 = .ok (.iload_n 1, 1) := by decide +kernel
theorem dX6_judge_2 : decode cX6_judge 2 = .ok (.invokevirtual 192, 3) := by decide +kernel
theorem dX6_judge_5 : decode cX6_judge 5 = .ok (.ifCond .ne 5, 3) := by decide +kernel
theorem dX6_judge_8 : decode cX6_judge 8 = .ok (.iconst (-1), 1) := by decide +kernel
theorem dX6_judge_9 : decode cX6_judge 9 = .ok (.ireturn, 1) := by decide +kernel
theorem dX6_judge_10 : decode cX6_judge 10 = .ok (.aload_n 0, 1) := by decide +kernel
theorem dX6_judge_11 : decode cX6_judge 11 = .ok (.iload_n 1, 1) := by decide +kernel
theorem dX6_judge_12 : decode cX6_judge 12 = .ok (.aload_n 0, 1) := by decide +kernel
theorem dX6_judge_13 : decode cX6_judge 13 = .ok (.getfield 178, 3) := by decide +kernel
theorem dX6_judge_16 : decode cX6_judge 16 = .ok (.invokevirtual 283, 3) := by decide +kernel
theorem dX6_judge_19 : decode cX6_judge 19 = .ok (.iconst 0, 1) := by decide +kernel
theorem dX6_judge_20 : decode cX6_judge 20 = .ok (.istore_n 2, 1) := by decide +kernel
theorem dX6_judge_21 : decode cX6_judge 21 = .ok (.iload_n 2, 1) := by decide +kernel
theorem dX6_judge_22 : decode cX6_judge 22 = .ok (.iconst 3, 1) := by decide +kernel
theorem dX6_judge_23 : decode cX6_judge 23 = .ok (.aload_n 0, 1) := by decide +kernel
theorem dX6_judge_24 : decode cX6_judge 24 = .ok (.getfield 178, 3) := by decide +kernel
theorem dX6_judge_27 : decode cX6_judge 27 = .ok (.imul, 1) := by decide +kernel
theorem dX6_judge_28 : decode cX6_judge 28 = .ok (.if_icmp .ge 30, 3) := by decide +kernel
theorem dX6_judge_31 : decode cX6_judge 31 = .ok (.aload_n 0, 1) := by decide +kernel
theorem dX6_judge_32 : decode cX6_judge 32 = .ok (.getfield 25, 3) := by decide +kernel
theorem dX6_judge_35 : decode cX6_judge 35 = .ok (.iload_n 2, 1) := by decide +kernel
theorem dX6_judge_36 : decode cX6_judge 36 = .ok (.iaload, 1) := by decide +kernel
theorem dX6_judge_37 : decode cX6_judge 37 = .ok (.aload_n 0, 1) := by decide +kernel
theorem dX6_judge_38 : decode cX6_judge 38 = .ok (.getfield 28, 3) := by decide +kernel
theorem dX6_judge_41 : decode cX6_judge 41 = .ok (.iload_n 2, 1) := by decide +kernel
theorem dX6_judge_42 : decode cX6_judge 42 = .ok (.iaload, 1) := by decide +kernel
theorem dX6_judge_43 : decode cX6_judge 43 = .ok (.if_icmp .eq 9, 3) := by decide +kernel
theorem dX6_judge_46 : decode cX6_judge 46 = .ok (.iload_n 2, 1) := by decide +kernel
theorem dX6_judge_47 : decode cX6_judge 47 = .ok (.iconst 3, 1) := by decide +kernel
theorem dX6_judge_48 : decode cX6_judge 48 = .ok (.idiv, 1) := by decide +kernel
theorem dX6_judge_49 : decode cX6_judge 49 = .ok (.iconst 1, 1) := by decide +kernel
theorem dX6_judge_50 : decode cX6_judge 50 = .ok (.iadd, 1) := by decide +kernel
theorem dX6_judge_51 : decode cX6_judge 51 = .ok (.ireturn, 1) := by decide +kernel
theorem dX6_judge_52 : decode cX6_judge 52 = .ok (.iinc 2 1, 3) := by decide +kernel
theorem dX6_judge_55 : decode cX6_judge 55 = .ok (.goto (-34), 3) := by decide +kernel
theorem dX6_judge_58 : decode cX6_judge 58 = .ok (.iconst 0, 1) := by decide +kernel
theorem dX6_judge_59 : decode cX6_judge 59 = .ok (.ireturn, 1) := by decide +kernel
def pc_X6_judge (i : Nat) : Nat := ([0, 8, 10, 21, 31, 46, 52, 58] : List Nat).getD i 0
set_option maxRecDepth 20000 in
theorem ob_X6_judge_0 {x : ip_Cx} {G : ip_Gl} {d : Nat} (X : ip_X x G tb 3 d 0 0 RX6 cX6_judge) (hr : x.2.2.2.2.2.2.2.2.1.sig.returnType = (some .int)) (hnm : x.2.2.2.2.2.2.2.2.1.name = "judge") : ip_okB x G 3 pc_X6_judge 0 ([oLdA 0, oLdI 1, oCaV (ip_call tb d) 0 0 6 123 2 0 0], tIf (fun a => a = 0) 1 2) := ⟨_, okC (ok_aldn X rfl dX6_judge_0)
  (okC (ok_ildn X rfl dX6_judge_1)
  (okC (ok_calV X (i := 192) (e := en_123) rfl mt_123 rfl rfl rfl tw_1002 tw_1004 (Or.inl ⟨_, _, rfl⟩) tp_23 dX6_judge_2)
  (okN))), ok_ifne X (by decide) rfl dX6_judge_5⟩
set_option maxRecDepth 20000 in
theorem ob_X6_judge_1 {x : ip_Cx} {G : ip_Gl} {d : Nat} (X : ip_X x G tb 3 d 0 0 RX6 cX6_judge) (hr : x.2.2.2.2.2.2.2.2.1.sig.returnType = (some .int)) (hnm : x.2.2.2.2.2.2.2.2.1.name = "judge") : ip_okB x G 3 pc_X6_judge 8 ([oI (-1)], tRI .int 0 0) := ⟨_, okC (ok_ic X (by decide) dX6_judge_8)
  (okN), ok_ret X hr dX6_judge_9⟩
set_option maxRecDepth 20000 in
theorem ob_X6_judge_2 {x : ip_Cx} {G : ip_Gl} {d : Nat} (X : ip_X x G tb 3 d 0 0 RX6 cX6_judge) (hr : x.2.2.2.2.2.2.2.2.1.sig.returnType = (some .int)) (hnm : x.2.2.2.2.2.2.2.2.1.name = "judge") : ip_okB x G 3 pc_X6_judge 10 ([oLdA 0, oLdI 1, oLdA 0, oGet 6 15, oCaV (ip_call tb d) 0 0 6 195 3 0 0, oI (0), oStI 2], tGo 3) := ⟨_, okC (ok_aldn X rfl dX6_judge_10)
  (okC (ok_ildn X rfl dX6_judge_11)
  (okC (ok_aldn X rfl dX6_judge_12)
  (okC (ok_get X (ci := 6) rfl (by decide) iw_X6 tw_810 dX6_judge_13)
  (okC (ok_calV X (i := 283) (e := en_195) rfl mt_195 rfl rfl rfl tw_1199 tw_1201 (Or.inl ⟨_, _, rfl⟩) tp_46 dX6_judge_16)
  (okC (ok_ic X (by decide) dX6_judge_19)
  (okC (ok_istn X rfl (by decide) dX6_judge_20)
  (okN))))))), ok_fall rfl⟩
set_option maxRecDepth 20000 in
theorem ob_X6_judge_3 {x : ip_Cx} {G : ip_Gl} {d : Nat} (X : ip_X x G tb 3 d 0 0 RX6 cX6_judge) (hr : x.2.2.2.2.2.2.2.2.1.sig.returnType = (some .int)) (hnm : x.2.2.2.2.2.2.2.2.1.name = "judge") : ip_okB x G 3 pc_X6_judge 21 ([oLdI 2, oI (3), oLdA 0, oGet 6 15, oBI (fun a b => a * b)], tCm (fun a b => a < b) 4 7) := ⟨_, okC (ok_ildn X rfl dX6_judge_21)
  (okC (ok_ic X (by decide) dX6_judge_22)
  (okC (ok_aldn X rfl dX6_judge_23)
  (okC (ok_get X (ci := 6) rfl (by decide) iw_X6 tw_810 dX6_judge_24)
  (okC (ok_imul X dX6_judge_27)
  (okN))))), ok_cmge X (by decide) rfl dX6_judge_28⟩
set_option maxRecDepth 20000 in
theorem ob_X6_judge_4 {x : ip_Cx} {G : ip_Gl} {d : Nat} (X : ip_X x G tb 3 d 0 0 RX6 cX6_judge) (hr : x.2.2.2.2.2.2.2.2.1.sig.returnType = (some .int)) (hnm : x.2.2.2.2.2.2.2.2.1.name = "judge") : ip_okB x G 3 pc_X6_judge 31 ([oLdA 0, oGet 6 13, oLdI 2, oAldI, oLdA 0, oGet 6 14, oLdI 2, oAldI], tCm (fun a b => a = b) 6 5) := ⟨_, okC (ok_aldn X rfl dX6_judge_31)
  (okC (ok_get X (ci := 6) rfl (by decide) iw_X6 tw_808 dX6_judge_32)
  (okC (ok_ildn X rfl dX6_judge_35)
  (okC (ok_iald X dX6_judge_36)
  (okC (ok_aldn X rfl dX6_judge_37)
  (okC (ok_get X (ci := 6) rfl (by decide) iw_X6 tw_809 dX6_judge_38)
  (okC (ok_ildn X rfl dX6_judge_41)
  (okC (ok_iald X dX6_judge_42)
  (okN)))))))), ok_cmeq X (by decide) rfl dX6_judge_43⟩
set_option maxRecDepth 20000 in
theorem ob_X6_judge_5 {x : ip_Cx} {G : ip_Gl} {d : Nat} (X : ip_X x G tb 3 d 0 0 RX6 cX6_judge) (hr : x.2.2.2.2.2.2.2.2.1.sig.returnType = (some .int)) (hnm : x.2.2.2.2.2.2.2.2.1.name = "judge") : ip_okB x G 3 pc_X6_judge 46 ([oLdI 2, oI (3), oDI (fun a b => a / b), oI (1), oBI (fun a b => a + b)], tRI .int 0 0) := ⟨_, okC (ok_ildn X rfl dX6_judge_46)
  (okC (ok_ic X (by decide) dX6_judge_47)
  (okC (ok_idiv X dX6_judge_48)
  (okC (ok_ic X (by decide) dX6_judge_49)
  (okC (ok_iadd X dX6_judge_50)
  (okN))))), ok_ret X hr dX6_judge_51⟩
set_option maxRecDepth 20000 in
theorem ob_X6_judge_6 {x : ip_Cx} {G : ip_Gl} {d : Nat} (X : ip_X x G tb 3 d 0 0 RX6 cX6_judge) (hr : x.2.2.2.2.2.2.2.2.1.sig.returnType = (some .int)) (hnm : x.2.2.2.2.2.2.2.2.1.name = "judge") : ip_okB x G 3 pc_X6_judge 52 ([oInc 2 (1)], tGo 3) := ⟨_, okC (ok_inc X (by decide) dX6_judge_52)
  (okN), ok_go X (by decide) dX6_judge_55⟩
set_option maxRecDepth 20000 in
theorem ob_X6_judge_7 {x : ip_Cx} {G : ip_Gl} {d : Nat} (X : ip_X x G tb 3 d 0 0 RX6 cX6_judge) (hr : x.2.2.2.2.2.2.2.2.1.sig.returnType = (some .int)) (hnm : x.2.2.2.2.2.2.2.2.1.name = "judge") : ip_okB x G 3 pc_X6_judge 58 ([oI (0)], tRI .int 0 0) := ⟨_, okC (ok_ic X (by decide) dX6_judge_58)
  (okN), ok_ret X hr dX6_judge_59⟩
theorem om_200 : ip_MOk tb en_200 pc_X6_judge := fun x G d X hr hnm => ⟨ob_X6_judge_0 X hr hnm, ⟨ob_X6_judge_1 X hr hnm, ⟨ob_X6_judge_2 X hr hnm, ⟨ob_X6_judge_3 X hr hnm, ⟨ob_X6_judge_4 X hr hnm, ⟨ob_X6_judge_5 X hr hnm, ⟨ob_X6_judge_6 X hr hnm, ⟨ob_X6_judge_7 X hr hnm, trivial⟩⟩⟩⟩⟩⟩⟩⟩
theorem dX6_minds_0 : decode cX6_minds 0 = .ok (.iload_n 1, 1) := by decide +kernel
theorem dX6_minds_1 : decode cX6_minds 1 = .ok (.invokestatic 267, 3) := by decide +kernel
theorem dX6_minds_4 : decode cX6_minds 4 = .ok (.ifCond .eq 36, 3) := by decide +kernel
theorem dX6_minds_7 : decode cX6_minds 7 = .ok (.aload_n 0, 1) := by decide +kernel
theorem dX6_minds_8 : decode cX6_minds 8 = .ok (.iload_n 3, 1) := by decide +kernel
theorem dX6_minds_9 : decode cX6_minds 9 = .ok (.invokevirtual 192, 3) := by decide +kernel
theorem dX6_minds_12 : decode cX6_minds 12 = .ok (.ifCond .eq 28, 3) := by decide +kernel
theorem dX6_minds_15 : decode cX6_minds 15 = .ok (.iload 4, 2) := by decide +kernel
theorem dX6_minds_17 : decode cX6_minds 17 = .ok (.iconst 0, 1) := by decide +kernel
theorem dX6_minds_18 : decode cX6_minds 18 = .ok (.bipush 8, 2) := by decide +kernel
theorem dX6_minds_20 : decode cX6_minds 20 = .ok (.invokestatic 57, 3) := by decide +kernel
theorem dX6_minds_23 : decode cX6_minds 23 = .ok (.ifCond .eq 17, 3) := by decide +kernel
theorem dX6_minds_26 : decode cX6_minds 26 = .ok (.iload 4, 2) := by decide +kernel
theorem dX6_minds_28 : decode cX6_minds 28 = .ok (.aload_n 0, 1) := by decide +kernel
theorem dX6_minds_29 : decode cX6_minds 29 = .ok (.getfield 7, 3) := by decide +kernel
theorem dX6_minds_32 : decode cX6_minds 32 = .ok (.bipush 6, 2) := by decide +kernel
theorem dX6_minds_34 : decode cX6_minds 34 = .ok (.iaload, 1) := by decide +kernel
theorem dX6_minds_35 : decode cX6_minds 35 = .ok (.iload_n 3, 1) := by decide +kernel
theorem dX6_minds_36 : decode cX6_minds 36 = .ok (.isub, 1) := by decide +kernel
theorem dX6_minds_37 : decode cX6_minds 37 = .ok (.if_icmp .le 5, 3) := by decide +kernel
theorem dX6_minds_40 : decode cX6_minds 40 = .ok (.iconst (-1), 1) := by decide +kernel
theorem dX6_minds_41 : decode cX6_minds 41 = .ok (.ireturn, 1) := by decide +kernel
theorem dX6_minds_42 : decode cX6_minds 42 = .ok (.aload_n 0, 1) := by decide +kernel
theorem dX6_minds_43 : decode cX6_minds 43 = .ok (.iload_n 1, 1) := by decide +kernel
theorem dX6_minds_44 : decode cX6_minds 44 = .ok (.iconst 0, 1) := by decide +kernel
theorem dX6_minds_45 : decode cX6_minds 45 = .ok (.invokevirtual 290, 3) := by decide +kernel
theorem dX6_minds_48 : decode cX6_minds 48 = .ok (.istore 5, 2) := by decide +kernel
theorem dX6_minds_50 : decode cX6_minds 50 = .ok (.iload 5, 2) := by decide +kernel
theorem dX6_minds_52 : decode cX6_minds 52 = .ok (.ifCond .eq 6, 3) := by decide +kernel
theorem dX6_minds_55 : decode cX6_minds 55 = .ok (.iload 5, 2) := by decide +kernel
theorem dX6_minds_57 : decode cX6_minds 57 = .ok (.ireturn, 1) := by decide +kernel
theorem dX6_minds_58 : decode cX6_minds 58 = .ok (.iload_n 2, 1) := by decide +kernel
theorem dX6_minds_59 : decode cX6_minds 59 = .ok (.ifCond .lt 16, 3) := by decide +kernel
theorem dX6_minds_62 : decode cX6_minds 62 = .ok (.iload_n 2, 1) := by decide +kernel
theorem dX6_minds_63 : decode cX6_minds 63 = .ok (.aload_n 0, 1) := by decide +kernel
theorem dX6_minds_64 : decode cX6_minds 64 = .ok (.getfield 34, 3) := by decide +kernel
theorem dX6_minds_67 : decode cX6_minds 67 = .ok (.iload_n 1, 1) := by decide +kernel
theorem dX6_minds_68 : decode cX6_minds 68 = .ok (.iaload, 1) := by decide +kernel
theorem dX6_minds_69 : decode cX6_minds 69 = .ok (.iload 4, 2) := by decide +kernel
theorem dX6_minds_71 : decode cX6_minds 71 = .ok (.isub, 1) := by decide +kernel
theorem dX6_minds_72 : decode cX6_minds 72 = .ok (.if_icmp .le 6, 3) := by decide +kernel
theorem dX6_minds_75 : decode cX6_minds 75 = .ok (.bipush (-12), 2) := by decide +kernel
theorem dX6_minds_77 : decode cX6_minds 77 = .ok (.ireturn, 1) := by decide +kernel
theorem dX6_minds_78 : decode cX6_minds 78 = .ok (.iconst 0, 1) := by decide +kernel
theorem dX6_minds_79 : decode cX6_minds 79 = .ok (.istore 6, 2) := by decide +kernel
theorem dX6_minds_81 : decode cX6_minds 81 = .ok (.iload 6, 2) := by decide +kernel
theorem dX6_minds_83 : decode cX6_minds 83 = .ok (.iload 4, 2) := by decide +kernel
theorem dX6_minds_85 : decode cX6_minds 85 = .ok (.if_icmp .ge 39, 3) := by decide +kernel
theorem dX6_minds_88 : decode cX6_minds 88 = .ok (.aload_n 0, 1) := by decide +kernel
theorem dX6_minds_89 : decode cX6_minds 89 = .ok (.iload_n 3, 1) := by decide +kernel
theorem dX6_minds_90 : decode cX6_minds 90 = .ok (.iload 6, 2) := by decide +kernel
theorem dX6_minds_92 : decode cX6_minds 92 = .ok (.iadd, 1) := by decide +kernel
theorem dX6_minds_93 : decode cX6_minds 93 = .ok (.iconst 1, 1) := by decide +kernel
theorem dX6_minds_94 : decode cX6_minds 94 = .ok (.aload_n 0, 1) := by decide +kernel
theorem dX6_minds_95 : decode cX6_minds 95 = .ok (.getfield 37, 3) := by decide +kernel
theorem dX6_minds_98 : decode cX6_minds 98 = .ok (.bipush 40, 2) := by decide +kernel
theorem dX6_minds_100 : decode cX6_minds 100 = .ok (.iload_n 1, 1) := by decide +kernel
theorem dX6_minds_101 : decode cX6_minds 101 = .ok (.imul, 1) := by decide +kernel
theorem dX6_minds_102 : decode cX6_minds 102 = .ok (.iload_n 2, 1) := by decide +kernel
theorem dX6_minds_103 : decode cX6_minds 103 = .ok (.iadd, 1) := by decide +kernel
theorem dX6_minds_104 : decode cX6_minds 104 = .ok (.iload 6, 2) := by decide +kernel
theorem dX6_minds_106 : decode cX6_minds 106 = .ok (.iadd, 1) := by decide +kernel
theorem dX6_minds_107 : decode cX6_minds 107 = .ok (.laload, 1) := by decide +kernel
theorem dX6_minds_108 : decode cX6_minds 108 = .ok (.l2i, 1) := by decide +kernel
theorem dX6_minds_109 : decode cX6_minds 109 = .ok (.iconst 0, 1) := by decide +kernel
theorem dX6_minds_110 : decode cX6_minds 110 = .ok (.bipush 99, 2) := by decide +kernel
theorem dX6_minds_112 : decode cX6_minds 112 = .ok (.invokestatic 219, 3) := by decide +kernel
theorem dX6_minds_115 : decode cX6_minds 115 = .ok (.invokevirtual 188, 3) := by decide +kernel
theorem dX6_minds_118 : decode cX6_minds 118 = .ok (.iinc 6 1, 3) := by decide +kernel
theorem dX6_minds_121 : decode cX6_minds 121 = .ok (.goto (-40), 3) := by decide +kernel
theorem dX6_minds_124 : decode cX6_minds 124 = .ok (.iload 4, 2) := by decide +kernel
theorem dX6_minds_126 : decode cX6_minds 126 = .ok (.ireturn, 1) := by decide +kernel
def pc_X6_minds (i : Nat) : Nat := ([0, 7, 15, 26, 40, 42, 55, 58, 62, 75, 78, 81, 88, 124] : List Nat).getD i 0
set_option maxRecDepth 20000 in
theorem ob_X6_minds_0 {x : ip_Cx} {G : ip_Gl} {d : Nat} (X : ip_X x G tb 7 d 0 0 RX6 cX6_minds) (hr : x.2.2.2.2.2.2.2.2.1.sig.returnType = (some .int)) (hnm : x.2.2.2.2.2.2.2.2.1.name = "minds") : ip_okB x G 7 pc_X6_minds 0 ([oLdI 1, oCal (ip_call tb d) 0 0 202 1 0 0], tIf (fun a => a = 0) 4 1) := ⟨_, okC (ok_ildn X rfl dX6_minds_0)
  (okC (ok_calS X (i := 267) (e := en_202) rfl mt_202 rfl rfl rfl tw_1173 tw_1174 dX6_minds_1)
  (okN)), ok_ifeq X (by decide) rfl dX6_minds_4⟩
set_option maxRecDepth 20000 in
theorem ob_X6_minds_1 {x : ip_Cx} {G : ip_Gl} {d : Nat} (X : ip_X x G tb 7 d 0 0 RX6 cX6_minds) (hr : x.2.2.2.2.2.2.2.2.1.sig.returnType = (some .int)) (hnm : x.2.2.2.2.2.2.2.2.1.name = "minds") : ip_okB x G 7 pc_X6_minds 7 ([oLdA 0, oLdI 3, oCaV (ip_call tb d) 0 0 6 123 2 0 0], tIf (fun a => a = 0) 4 2) := ⟨_, okC (ok_aldn X rfl dX6_minds_7)
  (okC (ok_ildn X rfl dX6_minds_8)
  (okC (ok_calV X (i := 192) (e := en_123) rfl mt_123 rfl rfl rfl tw_1002 tw_1004 (Or.inl ⟨_, _, rfl⟩) tp_23 dX6_minds_9)
  (okN))), ok_ifeq X (by decide) rfl dX6_minds_12⟩
set_option maxRecDepth 20000 in
theorem ob_X6_minds_2 {x : ip_Cx} {G : ip_Gl} {d : Nat} (X : ip_X x G tb 7 d 0 0 RX6 cX6_minds) (hr : x.2.2.2.2.2.2.2.2.1.sig.returnType = (some .int)) (hnm : x.2.2.2.2.2.2.2.2.1.name = "minds") : ip_okB x G 7 pc_X6_minds 15 ([oLdI 4, oI (0), oI (8), oCal (ip_call tb d) 0 0 120 3 0 0], tIf (fun a => a = 0) 4 3) := ⟨_, okC (ok_ild X dX6_minds_15)
  (okC (ok_ic X (by decide) dX6_minds_17)
  (okC (ok_bi X (by decide) dX6_minds_18)
  (okC (ok_calS X (i := 57) (e := en_120) rfl mt_120 rfl rfl rfl tw_885 tw_886 dX6_minds_20)
  (okN)))), ok_ifeq X (by decide) rfl dX6_minds_23⟩
set_option maxRecDepth 20000 in
theorem ob_X6_minds_3 {x : ip_Cx} {G : ip_Gl} {d : Nat} (X : ip_X x G tb 7 d 0 0 RX6 cX6_minds) (hr : x.2.2.2.2.2.2.2.2.1.sig.returnType = (some .int)) (hnm : x.2.2.2.2.2.2.2.2.1.name = "minds") : ip_okB x G 7 pc_X6_minds 26 ([oLdI 4, oLdA 0, oGet 6 0, oI (6), oAldI, oLdI 3, oBI (fun a b => a - b)], tCm (fun a b => b < a) 4 5) := ⟨_, okC (ok_ild X dX6_minds_26)
  (okC (ok_aldn X rfl dX6_minds_28)
  (okC (ok_get X (ci := 6) rfl (by decide) iw_X6 tw_795 dX6_minds_29)
  (okC (ok_bi X (by decide) dX6_minds_32)
  (okC (ok_iald X dX6_minds_34)
  (okC (ok_ildn X rfl dX6_minds_35)
  (okC (ok_isub X dX6_minds_36)
  (okN))))))), ok_cmle X (by decide) rfl dX6_minds_37⟩
set_option maxRecDepth 20000 in
theorem ob_X6_minds_4 {x : ip_Cx} {G : ip_Gl} {d : Nat} (X : ip_X x G tb 7 d 0 0 RX6 cX6_minds) (hr : x.2.2.2.2.2.2.2.2.1.sig.returnType = (some .int)) (hnm : x.2.2.2.2.2.2.2.2.1.name = "minds") : ip_okB x G 7 pc_X6_minds 40 ([oI (-1)], tRI .int 0 0) := ⟨_, okC (ok_ic X (by decide) dX6_minds_40)
  (okN), ok_ret X hr dX6_minds_41⟩
set_option maxRecDepth 20000 in
theorem ob_X6_minds_5 {x : ip_Cx} {G : ip_Gl} {d : Nat} (X : ip_X x G tb 7 d 0 0 RX6 cX6_minds) (hr : x.2.2.2.2.2.2.2.2.1.sig.returnType = (some .int)) (hnm : x.2.2.2.2.2.2.2.2.1.name = "minds") : ip_okB x G 7 pc_X6_minds 42 ([oLdA 0, oLdI 1, oI (0), oCaV (ip_call tb d) 0 0 6 205 3 0 0, oStI 5, oLdI 5], tIf (fun a => a = 0) 7 6) := ⟨_, okC (ok_aldn X rfl dX6_minds_42)
  (okC (ok_ildn X rfl dX6_minds_43)
  (okC (ok_ic X (by decide) dX6_minds_44)
  (okC (ok_calV X (i := 290) (e := en_205) rfl mt_205 rfl rfl rfl tw_1223 tw_1225 (Or.inl ⟨_, _, rfl⟩) tp_48 dX6_minds_45)
  (okC (ok_ist X (by decide) dX6_minds_48)
  (okC (ok_ild X dX6_minds_50)
  (okN)))))), ok_ifeq X (by decide) rfl dX6_minds_52⟩
set_option maxRecDepth 20000 in
theorem ob_X6_minds_6 {x : ip_Cx} {G : ip_Gl} {d : Nat} (X : ip_X x G tb 7 d 0 0 RX6 cX6_minds) (hr : x.2.2.2.2.2.2.2.2.1.sig.returnType = (some .int)) (hnm : x.2.2.2.2.2.2.2.2.1.name = "minds") : ip_okB x G 7 pc_X6_minds 55 ([oLdI 5], tRI .int 0 0) := ⟨_, okC (ok_ild X dX6_minds_55)
  (okN), ok_ret X hr dX6_minds_57⟩
set_option maxRecDepth 20000 in
theorem ob_X6_minds_7 {x : ip_Cx} {G : ip_Gl} {d : Nat} (X : ip_X x G tb 7 d 0 0 RX6 cX6_minds) (hr : x.2.2.2.2.2.2.2.2.1.sig.returnType = (some .int)) (hnm : x.2.2.2.2.2.2.2.2.1.name = "minds") : ip_okB x G 7 pc_X6_minds 58 ([oLdI 2], tIf (fun a => a < 0) 9 8) := ⟨_, okC (ok_ildn X rfl dX6_minds_58)
  (okN), ok_iflt X (by decide) rfl dX6_minds_59⟩
set_option maxRecDepth 20000 in
theorem ob_X6_minds_8 {x : ip_Cx} {G : ip_Gl} {d : Nat} (X : ip_X x G tb 7 d 0 0 RX6 cX6_minds) (hr : x.2.2.2.2.2.2.2.2.1.sig.returnType = (some .int)) (hnm : x.2.2.2.2.2.2.2.2.1.name = "minds") : ip_okB x G 7 pc_X6_minds 62 ([oLdI 2, oLdA 0, oGet 6 17, oLdI 1, oAldI, oLdI 4, oBI (fun a b => a - b)], tCm (fun a b => b < a) 9 10) := ⟨_, okC (ok_ildn X rfl dX6_minds_62)
  (okC (ok_aldn X rfl dX6_minds_63)
  (okC (ok_get X (ci := 6) rfl (by decide) iw_X6 tw_812 dX6_minds_64)
  (okC (ok_ildn X rfl dX6_minds_67)
  (okC (ok_iald X dX6_minds_68)
  (okC (ok_ild X dX6_minds_69)
  (okC (ok_isub X dX6_minds_71)
  (okN))))))), ok_cmle X (by decide) rfl dX6_minds_72⟩
set_option maxRecDepth 20000 in
theorem ob_X6_minds_9 {x : ip_Cx} {G : ip_Gl} {d : Nat} (X : ip_X x G tb 7 d 0 0 RX6 cX6_minds) (hr : x.2.2.2.2.2.2.2.2.1.sig.returnType = (some .int)) (hnm : x.2.2.2.2.2.2.2.2.1.name = "minds") : ip_okB x G 7 pc_X6_minds 75 ([oI (-12)], tRI .int 0 0) := ⟨_, okC (ok_bi X (by decide) dX6_minds_75)
  (okN), ok_ret X hr dX6_minds_77⟩
set_option maxRecDepth 20000 in
theorem ob_X6_minds_10 {x : ip_Cx} {G : ip_Gl} {d : Nat} (X : ip_X x G tb 7 d 0 0 RX6 cX6_minds) (hr : x.2.2.2.2.2.2.2.2.1.sig.returnType = (some .int)) (hnm : x.2.2.2.2.2.2.2.2.1.name = "minds") : ip_okB x G 7 pc_X6_minds 78 ([oI (0), oStI 6], tGo 11) := ⟨_, okC (ok_ic X (by decide) dX6_minds_78)
  (okC (ok_ist X (by decide) dX6_minds_79)
  (okN)), ok_fall rfl⟩
set_option maxRecDepth 20000 in
theorem ob_X6_minds_11 {x : ip_Cx} {G : ip_Gl} {d : Nat} (X : ip_X x G tb 7 d 0 0 RX6 cX6_minds) (hr : x.2.2.2.2.2.2.2.2.1.sig.returnType = (some .int)) (hnm : x.2.2.2.2.2.2.2.2.1.name = "minds") : ip_okB x G 7 pc_X6_minds 81 ([oLdI 6, oLdI 4], tCm (fun a b => a < b) 12 13) := ⟨_, okC (ok_ild X dX6_minds_81)
  (okC (ok_ild X dX6_minds_83)
  (okN)), ok_cmge X (by decide) rfl dX6_minds_85⟩
set_option maxRecDepth 20000 in
theorem ob_X6_minds_12 {x : ip_Cx} {G : ip_Gl} {d : Nat} (X : ip_X x G tb 7 d 0 0 RX6 cX6_minds) (hr : x.2.2.2.2.2.2.2.2.1.sig.returnType = (some .int)) (hnm : x.2.2.2.2.2.2.2.2.1.name = "minds") : ip_okB x G 7 pc_X6_minds 88 ([oLdA 0, oLdI 3, oLdI 6, oBI (fun a b => a + b), oI (1), oLdA 0, oGet 6 18, oI (40), oLdI 1, oBI (fun a b => a * b), oLdI 2, oBI (fun a b => a + b), oLdI 6, oBI (fun a b => a + b), oAldL, oLI, oI (0), oI (99), oCal (ip_call tb d) 0 0 121 3 0 0, oCaV (ip_call tb d) 0 0 6 125 4 0 0, oInc 6 (1)], tGo 11) := ⟨_, okC (ok_aldn X rfl dX6_minds_88)
  (okC (ok_ildn X rfl dX6_minds_89)
  (okC (ok_ild X dX6_minds_90)
  (okC (ok_iadd X dX6_minds_92)
  (okC (ok_ic X (by decide) dX6_minds_93)
  (okC (ok_aldn X rfl dX6_minds_94)
  (okC (ok_get X (ci := 6) rfl (by decide) iw_X6 tw_813 dX6_minds_95)
  (okC (ok_bi X (by decide) dX6_minds_98)
  (okC (ok_ildn X rfl dX6_minds_100)
  (okC (ok_imul X dX6_minds_101)
  (okC (ok_ildn X rfl dX6_minds_102)
  (okC (ok_iadd X dX6_minds_103)
  (okC (ok_ild X dX6_minds_104)
  (okC (ok_iadd X dX6_minds_106)
  (okC (ok_lald X dX6_minds_107)
  (okC (ok_l2i X dX6_minds_108)
  (okC (ok_ic X (by decide) dX6_minds_109)
  (okC (ok_bi X (by decide) dX6_minds_110)
  (okC (ok_calS X (i := 219) (e := en_121) rfl mt_121 rfl rfl rfl tw_1065 tw_1066 dX6_minds_112)
  (okC (ok_calV X (i := 188) (e := en_125) rfl mt_125 rfl rfl rfl tw_994 tw_996 (Or.inl ⟨_, _, rfl⟩) tp_22 dX6_minds_115)
  (okC (ok_inc X (by decide) dX6_minds_118)
  (okN))))))))))))))))))))), ok_go X (by decide) dX6_minds_121⟩
set_option maxRecDepth 20000 in
theorem ob_X6_minds_13 {x : ip_Cx} {G : ip_Gl} {d : Nat} (X : ip_X x G tb 7 d 0 0 RX6 cX6_minds) (hr : x.2.2.2.2.2.2.2.2.1.sig.returnType = (some .int)) (hnm : x.2.2.2.2.2.2.2.2.1.name = "minds") : ip_okB x G 7 pc_X6_minds 124 ([oLdI 4], tRI .int 0 0) := ⟨_, okC (ok_ild X dX6_minds_124)
  (okN), ok_ret X hr dX6_minds_126⟩
theorem om_201 : ip_MOk tb en_201 pc_X6_minds := fun x G d X hr hnm => ⟨ob_X6_minds_0 X hr hnm, ⟨ob_X6_minds_1 X hr hnm, ⟨ob_X6_minds_2 X hr hnm, ⟨ob_X6_minds_3 X hr hnm, ⟨ob_X6_minds_4 X hr hnm, ⟨ob_X6_minds_5 X hr hnm, ⟨ob_X6_minds_6 X hr hnm, ⟨ob_X6_minds_7 X hr hnm, ⟨ob_X6_minds_8 X hr hnm, ⟨ob_X6_minds_9 X hr hnm, ⟨ob_X6_minds_10 X hr hnm, ⟨ob_X6_minds_11 X hr hnm, ⟨ob_X6_minds_12 X hr hnm, ⟨ob_X6_minds_13 X hr hnm, trivial⟩⟩⟩⟩⟩⟩⟩⟩⟩⟩⟩⟩⟩⟩
theorem dX6_isShelf_0 : decode cX6_isShelf 0 = .ok (.iload_n 0, 1) := by decide +kernel
theorem dX6_isShelf_1 : decode cX6_isShelf 1 = .ok (.iconst 0, 1) := by decide +kernel
theorem dX6_isShelf_2 : decode cX6_isShelf 2 = .ok (.iconst 3, 1) := by decide +kernel
theorem dX6_isShelf_3 : decode cX6_isShelf 3 = .ok (.invokestatic 57, 3) := by decide +kernel
theorem dX6_isShelf_6 : decode cX6_isShelf 6 = .ok (.ireturn, 1) := by decide +kernel
def pc_X6_isShelf (i : Nat) : Nat := ([0] : List Nat).getD i 0
set_option maxRecDepth 20000 in
theorem ob_X6_isShelf_0 {x : ip_Cx} {G : ip_Gl} {d : Nat} (X : ip_X x G tb 1 d 0 0 RX6 cX6_isShelf) (hr : x.2.2.2.2.2.2.2.2.1.sig.returnType = (some .boolean)) (hnm : x.2.2.2.2.2.2.2.2.1.name = "isShelf") : ip_okB x G 1 pc_X6_isShelf 0 ([oLdI 0, oI (0), oI (3), oCal (ip_call tb d) 0 0 120 3 0 0], tRI .boolean 0 0) := ⟨_, okC (ok_ildn X rfl dX6_isShelf_0)
  (okC (ok_ic X (by decide) dX6_isShelf_1)
  (okC (ok_ic X (by decide) dX6_isShelf_2)
  (okC (ok_calS X (i := 57) (e := en_120) rfl mt_120 rfl rfl rfl tw_885 tw_886 dX6_isShelf_3)
  (okN)))), ok_ret X hr dX6_isShelf_6⟩
theorem om_202 : ip_MOk tb en_202 pc_X6_isShelf := fun x G d X hr hnm => ⟨ob_X6_isShelf_0 X hr hnm, trivial⟩
theorem dX6_sheet_0 : decode cX6_sheet 0 = .ok (.iload_n 1, 1) := by decide +kernel
theorem dX6_sheet_1 : decode cX6_sheet 1 = .ok (.invokestatic 267, 3) := by decide +kernel
theorem dX6_sheet_4 : decode cX6_sheet 4 = .ok (.ifCond .eq 22, 3) := by decide +kernel
theorem dX6_sheet_7 : decode cX6_sheet 7 = .ok (.iload_n 2, 1) := by decide +kernel
theorem dX6_sheet_8 : decode cX6_sheet 8 = .ok (.iconst (-1), 1) := by decide +kernel
theorem dX6_sheet_9 : decode cX6_sheet 9 = .ok (.iconst 3, 1) := by decide +kernel
theorem dX6_sheet_10 : decode cX6_sheet 10 = .ok (.invokestatic 57, 3) := by decide +kernel
theorem dX6_sheet_13 : decode cX6_sheet 13 = .ok (.ifCond .eq 13, 3) := by decide +kernel
theorem dX6_sheet_16 : decode cX6_sheet 16 = .ok (.iload_n 2, 1) := by decide +kernel
theorem dX6_sheet_17 : decode cX6_sheet 17 = .ok (.ifCond .lt 11, 3) := by decide +kernel
theorem dX6_sheet_20 : decode cX6_sheet 20 = .ok (.iload_n 3, 1) := by decide +kernel
theorem dX6_sheet_21 : decode cX6_sheet 21 = .ok (.bipush 40, 2) := by decide +kernel
theorem dX6_sheet_23 : decode cX6_sheet 23 = .ok (.if_icmp .le 5, 3) := by decide +kernel
theorem dX6_sheet_26 : decode cX6_sheet 26 = .ok (.iconst (-1), 1) := by decide +kernel
theorem dX6_sheet_27 : decode cX6_sheet 27 = .ok (.ireturn, 1) := by decide +kernel
theorem dX6_sheet_28 : decode cX6_sheet 28 = .ok (.iload_n 2, 1) := by decide +kernel
theorem dX6_sheet_29 : decode cX6_sheet 29 = .ok (.ifCond .lt 10, 3) := by decide +kernel
theorem dX6_sheet_32 : decode cX6_sheet 32 = .ok (.iload_n 3, 1) := by decide +kernel
theorem dX6_sheet_33 : decode cX6_sheet 33 = .ok (.ifCond .ge 6, 3) := by decide +kernel
theorem dX6_sheet_36 : decode cX6_sheet 36 = .ok (.bipush (-14), 2) := by decide +kernel
theorem dX6_sheet_38 : decode cX6_sheet 38 = .ok (.ireturn, 1) := by decide +kernel
theorem dX6_sheet_39 : decode cX6_sheet 39 = .ok (.aload_n 0, 1) := by decide +kernel
theorem dX6_sheet_40 : decode cX6_sheet 40 = .ok (.getfield 31, 3) := by decide +kernel
theorem dX6_sheet_43 : decode cX6_sheet 43 = .ok (.iload_n 1, 1) := by decide +kernel
theorem dX6_sheet_44 : decode cX6_sheet 44 = .ok (.iload_n 2, 1) := by decide +kernel
theorem dX6_sheet_45 : decode cX6_sheet 45 = .ok (.iastore, 1) := by decide +kernel
theorem dX6_sheet_46 : decode cX6_sheet 46 = .ok (.aload_n 0, 1) := by decide +kernel
theorem dX6_sheet_47 : decode cX6_sheet 47 = .ok (.getfield 34, 3) := by decide +kernel
theorem dX6_sheet_50 : decode cX6_sheet 50 = .ok (.iload_n 1, 1) := by decide +kernel
theorem dX6_sheet_51 : decode cX6_sheet 51 = .ok (.iload_n 2, 1) := by decide +kernel
theorem dX6_sheet_52 : decode cX6_sheet 52 = .ok (.ifCond .ge 7, 3) := by decide +kernel
theorem dX6_sheet_55 : decode cX6_sheet 55 = .ok (.iconst 0, 1) := by decide +kernel
theorem dX6_sheet_56 : decode cX6_sheet 56 = .ok (.goto 4, 3) := by decide +kernel
theorem dX6_sheet_59 : decode cX6_sheet 59 = .ok (.iload_n 3, 1) := by decide +kernel
theorem dX6_sheet_60 : decode cX6_sheet 60 = .ok (.iastore, 1) := by decide +kernel
theorem dX6_sheet_61 : decode cX6_sheet 61 = .ok (.iconst 0, 1) := by decide +kernel
theorem dX6_sheet_62 : decode cX6_sheet 62 = .ok (.istore 4, 2) := by decide +kernel
theorem dX6_sheet_64 : decode cX6_sheet 64 = .ok (.iload 4, 2) := by decide +kernel
theorem dX6_sheet_66 : decode cX6_sheet 66 = .ok (.bipush 40, 2) := by decide +kernel
theorem dX6_sheet_68 : decode cX6_sheet 68 = .ok (.if_icmp .ge 22, 3) := by decide +kernel
theorem dX6_sheet_71 : decode cX6_sheet 71 = .ok (.aload_n 0, 1) := by decide +kernel
theorem dX6_sheet_72 : decode cX6_sheet 72 = .ok (.getfield 37, 3) := by decide +kernel
theorem dX6_sheet_75 : decode cX6_sheet 75 = .ok (.bipush 40, 2) := by decide +kernel
theorem dX6_sheet_77 : decode cX6_sheet 77 = .ok (.iload_n 1, 1) := by decide +kernel
theorem dX6_sheet_78 : decode cX6_sheet 78 = .ok (.imul, 1) := by decide +kernel
theorem dX6_sheet_79 : decode cX6_sheet 79 = .ok (.iload 4, 2) := by decide +kernel
theorem dX6_sheet_81 : decode cX6_sheet 81 = .ok (.iadd, 1) := by decide +kernel
theorem dX6_sheet_82 : decode cX6_sheet 82 = .ok (.lconst 0, 1) := by decide +kernel
theorem dX6_sheet_83 : decode cX6_sheet 83 = .ok (.lastore, 1) := by decide +kernel
theorem dX6_sheet_84 : decode cX6_sheet 84 = .ok (.iinc 4 1, 3) := by decide +kernel
theorem dX6_sheet_87 : decode cX6_sheet 87 = .ok (.goto (-23), 3) := by decide +kernel
theorem dX6_sheet_90 : decode cX6_sheet 90 = .ok (.iconst 1, 1) := by decide +kernel
theorem dX6_sheet_91 : decode cX6_sheet 91 = .ok (.ireturn, 1) := by decide +kernel
def pc_X6_sheet (i : Nat) : Nat := ([0, 7, 16, 20, 26, 28, 32, 36, 39, 55, 59, 60, 64, 71, 90] : List Nat).getD i 0
set_option maxRecDepth 20000 in
theorem ob_X6_sheet_0 {x : ip_Cx} {G : ip_Gl} {d : Nat} (X : ip_X x G tb 5 d 0 0 RX6 cX6_sheet) (hr : x.2.2.2.2.2.2.2.2.1.sig.returnType = (some .int)) (hnm : x.2.2.2.2.2.2.2.2.1.name = "sheet") : ip_okB x G 5 pc_X6_sheet 0 ([oLdI 1, oCal (ip_call tb d) 0 0 202 1 0 0], tIf (fun a => a = 0) 4 1) := ⟨_, okC (ok_ildn X rfl dX6_sheet_0)
  (okC (ok_calS X (i := 267) (e := en_202) rfl mt_202 rfl rfl rfl tw_1173 tw_1174 dX6_sheet_1)
  (okN)), ok_ifeq X (by decide) rfl dX6_sheet_4⟩
set_option maxRecDepth 20000 in
theorem ob_X6_sheet_1 {x : ip_Cx} {G : ip_Gl} {d : Nat} (X : ip_X x G tb 5 d 0 0 RX6 cX6_sheet) (hr : x.2.2.2.2.2.2.2.2.1.sig.returnType = (some .int)) (hnm : x.2.2.2.2.2.2.2.2.1.name = "sheet") : ip_okB x G 5 pc_X6_sheet 7 ([oLdI 2, oI (-1), oI (3), oCal (ip_call tb d) 0 0 120 3 0 0], tIf (fun a => a = 0) 4 2) := ⟨_, okC (ok_ildn X rfl dX6_sheet_7)
  (okC (ok_ic X (by decide) dX6_sheet_8)
  (okC (ok_ic X (by decide) dX6_sheet_9)
  (okC (ok_calS X (i := 57) (e := en_120) rfl mt_120 rfl rfl rfl tw_885 tw_886 dX6_sheet_10)
  (okN)))), ok_ifeq X (by decide) rfl dX6_sheet_13⟩
set_option maxRecDepth 20000 in
theorem ob_X6_sheet_2 {x : ip_Cx} {G : ip_Gl} {d : Nat} (X : ip_X x G tb 5 d 0 0 RX6 cX6_sheet) (hr : x.2.2.2.2.2.2.2.2.1.sig.returnType = (some .int)) (hnm : x.2.2.2.2.2.2.2.2.1.name = "sheet") : ip_okB x G 5 pc_X6_sheet 16 ([oLdI 2], tIf (fun a => a < 0) 5 3) := ⟨_, okC (ok_ildn X rfl dX6_sheet_16)
  (okN), ok_iflt X (by decide) rfl dX6_sheet_17⟩
set_option maxRecDepth 20000 in
theorem ob_X6_sheet_3 {x : ip_Cx} {G : ip_Gl} {d : Nat} (X : ip_X x G tb 5 d 0 0 RX6 cX6_sheet) (hr : x.2.2.2.2.2.2.2.2.1.sig.returnType = (some .int)) (hnm : x.2.2.2.2.2.2.2.2.1.name = "sheet") : ip_okB x G 5 pc_X6_sheet 20 ([oLdI 3, oI (40)], tCm (fun a b => b < a) 4 5) := ⟨_, okC (ok_ildn X rfl dX6_sheet_20)
  (okC (ok_bi X (by decide) dX6_sheet_21)
  (okN)), ok_cmle X (by decide) rfl dX6_sheet_23⟩
set_option maxRecDepth 20000 in
theorem ob_X6_sheet_4 {x : ip_Cx} {G : ip_Gl} {d : Nat} (X : ip_X x G tb 5 d 0 0 RX6 cX6_sheet) (hr : x.2.2.2.2.2.2.2.2.1.sig.returnType = (some .int)) (hnm : x.2.2.2.2.2.2.2.2.1.name = "sheet") : ip_okB x G 5 pc_X6_sheet 26 ([oI (-1)], tRI .int 0 0) := ⟨_, okC (ok_ic X (by decide) dX6_sheet_26)
  (okN), ok_ret X hr dX6_sheet_27⟩
set_option maxRecDepth 20000 in
theorem ob_X6_sheet_5 {x : ip_Cx} {G : ip_Gl} {d : Nat} (X : ip_X x G tb 5 d 0 0 RX6 cX6_sheet) (hr : x.2.2.2.2.2.2.2.2.1.sig.returnType = (some .int)) (hnm : x.2.2.2.2.2.2.2.2.1.name = "sheet") : ip_okB x G 5 pc_X6_sheet 28 ([oLdI 2], tIf (fun a => a < 0) 8 6) := ⟨_, okC (ok_ildn X rfl dX6_sheet_28)
  (okN), ok_iflt X (by decide) rfl dX6_sheet_29⟩
set_option maxRecDepth 20000 in
theorem ob_X6_sheet_6 {x : ip_Cx} {G : ip_Gl} {d : Nat} (X : ip_X x G tb 5 d 0 0 RX6 cX6_sheet) (hr : x.2.2.2.2.2.2.2.2.1.sig.returnType = (some .int)) (hnm : x.2.2.2.2.2.2.2.2.1.name = "sheet") : ip_okB x G 5 pc_X6_sheet 32 ([oLdI 3], tIf (fun a => a < 0) 7 8) := ⟨_, okC (ok_ildn X rfl dX6_sheet_32)
  (okN), ok_ifge X (by decide) rfl dX6_sheet_33⟩
set_option maxRecDepth 20000 in
theorem ob_X6_sheet_7 {x : ip_Cx} {G : ip_Gl} {d : Nat} (X : ip_X x G tb 5 d 0 0 RX6 cX6_sheet) (hr : x.2.2.2.2.2.2.2.2.1.sig.returnType = (some .int)) (hnm : x.2.2.2.2.2.2.2.2.1.name = "sheet") : ip_okB x G 5 pc_X6_sheet 36 ([oI (-14)], tRI .int 0 0) := ⟨_, okC (ok_bi X (by decide) dX6_sheet_36)
  (okN), ok_ret X hr dX6_sheet_38⟩
set_option maxRecDepth 20000 in
theorem ob_X6_sheet_8 {x : ip_Cx} {G : ip_Gl} {d : Nat} (X : ip_X x G tb 5 d 0 0 RX6 cX6_sheet) (hr : x.2.2.2.2.2.2.2.2.1.sig.returnType = (some .int)) (hnm : x.2.2.2.2.2.2.2.2.1.name = "sheet") : ip_okB x G 5 pc_X6_sheet 39 ([oLdA 0, oGet 6 16, oLdI 1, oLdI 2, oAstI, oLdA 0, oGet 6 17, oLdI 1, oLdI 2], tIf (fun a => a < 0) 9 10) := ⟨_, okC (ok_aldn X rfl dX6_sheet_39)
  (okC (ok_get X (ci := 6) rfl (by decide) iw_X6 tw_811 dX6_sheet_40)
  (okC (ok_ildn X rfl dX6_sheet_43)
  (okC (ok_ildn X rfl dX6_sheet_44)
  (okC (ok_iast X dX6_sheet_45)
  (okC (ok_aldn X rfl dX6_sheet_46)
  (okC (ok_get X (ci := 6) rfl (by decide) iw_X6 tw_812 dX6_sheet_47)
  (okC (ok_ildn X rfl dX6_sheet_50)
  (okC (ok_ildn X rfl dX6_sheet_51)
  (okN))))))))), ok_ifge X (by decide) rfl dX6_sheet_52⟩
set_option maxRecDepth 20000 in
theorem ob_X6_sheet_9 {x : ip_Cx} {G : ip_Gl} {d : Nat} (X : ip_X x G tb 5 d 0 0 RX6 cX6_sheet) (hr : x.2.2.2.2.2.2.2.2.1.sig.returnType = (some .int)) (hnm : x.2.2.2.2.2.2.2.2.1.name = "sheet") : ip_okB x G 5 pc_X6_sheet 55 ([oI (0)], tGo 11) := ⟨_, okC (ok_ic X (by decide) dX6_sheet_55)
  (okN), ok_go X (by decide) dX6_sheet_56⟩
set_option maxRecDepth 20000 in
theorem ob_X6_sheet_10 {x : ip_Cx} {G : ip_Gl} {d : Nat} (X : ip_X x G tb 5 d 0 0 RX6 cX6_sheet) (hr : x.2.2.2.2.2.2.2.2.1.sig.returnType = (some .int)) (hnm : x.2.2.2.2.2.2.2.2.1.name = "sheet") : ip_okB x G 5 pc_X6_sheet 59 ([oLdI 3], tGo 11) := ⟨_, okC (ok_ildn X rfl dX6_sheet_59)
  (okN), ok_fall rfl⟩
set_option maxRecDepth 20000 in
theorem ob_X6_sheet_11 {x : ip_Cx} {G : ip_Gl} {d : Nat} (X : ip_X x G tb 5 d 0 0 RX6 cX6_sheet) (hr : x.2.2.2.2.2.2.2.2.1.sig.returnType = (some .int)) (hnm : x.2.2.2.2.2.2.2.2.1.name = "sheet") : ip_okB x G 5 pc_X6_sheet 60 ([oAstI, oI (0), oStI 4], tGo 12) := ⟨_, okC (ok_iast X dX6_sheet_60)
  (okC (ok_ic X (by decide) dX6_sheet_61)
  (okC (ok_ist X (by decide) dX6_sheet_62)
  (okN))), ok_fall rfl⟩
set_option maxRecDepth 20000 in
theorem ob_X6_sheet_12 {x : ip_Cx} {G : ip_Gl} {d : Nat} (X : ip_X x G tb 5 d 0 0 RX6 cX6_sheet) (hr : x.2.2.2.2.2.2.2.2.1.sig.returnType = (some .int)) (hnm : x.2.2.2.2.2.2.2.2.1.name = "sheet") : ip_okB x G 5 pc_X6_sheet 64 ([oLdI 4, oI (40)], tCm (fun a b => a < b) 13 14) := ⟨_, okC (ok_ild X dX6_sheet_64)
  (okC (ok_bi X (by decide) dX6_sheet_66)
  (okN)), ok_cmge X (by decide) rfl dX6_sheet_68⟩
set_option maxRecDepth 20000 in
theorem ob_X6_sheet_13 {x : ip_Cx} {G : ip_Gl} {d : Nat} (X : ip_X x G tb 5 d 0 0 RX6 cX6_sheet) (hr : x.2.2.2.2.2.2.2.2.1.sig.returnType = (some .int)) (hnm : x.2.2.2.2.2.2.2.2.1.name = "sheet") : ip_okB x G 5 pc_X6_sheet 71 ([oLdA 0, oGet 6 18, oI (40), oLdI 1, oBI (fun a b => a * b), oLdI 4, oBI (fun a b => a + b), oL 0, oAstL, oInc 4 (1)], tGo 12) := ⟨_, okC (ok_aldn X rfl dX6_sheet_71)
  (okC (ok_get X (ci := 6) rfl (by decide) iw_X6 tw_813 dX6_sheet_72)
  (okC (ok_bi X (by decide) dX6_sheet_75)
  (okC (ok_ildn X rfl dX6_sheet_77)
  (okC (ok_imul X dX6_sheet_78)
  (okC (ok_ild X dX6_sheet_79)
  (okC (ok_iadd X dX6_sheet_81)
  (okC (ok_lc X (by decide) dX6_sheet_82)
  (okC (ok_last X dX6_sheet_83)
  (okC (ok_inc X (by decide) dX6_sheet_84)
  (okN)))))))))), ok_go X (by decide) dX6_sheet_87⟩
set_option maxRecDepth 20000 in
theorem ob_X6_sheet_14 {x : ip_Cx} {G : ip_Gl} {d : Nat} (X : ip_X x G tb 5 d 0 0 RX6 cX6_sheet) (hr : x.2.2.2.2.2.2.2.2.1.sig.returnType = (some .int)) (hnm : x.2.2.2.2.2.2.2.2.1.name = "sheet") : ip_okB x G 5 pc_X6_sheet 90 ([oI (1)], tRI .int 0 0) := ⟨_, okC (ok_ic X (by decide) dX6_sheet_90)
  (okN), ok_ret X hr dX6_sheet_91⟩
theorem om_203 : ip_MOk tb en_203 pc_X6_sheet := fun x G d X hr hnm => ⟨ob_X6_sheet_0 X hr hnm, ⟨ob_X6_sheet_1 X hr hnm, ⟨ob_X6_sheet_2 X hr hnm, ⟨ob_X6_sheet_3 X hr hnm, ⟨ob_X6_sheet_4 X hr hnm, ⟨ob_X6_sheet_5 X hr hnm, ⟨ob_X6_sheet_6 X hr hnm, ⟨ob_X6_sheet_7 X hr hnm, ⟨ob_X6_sheet_8 X hr hnm, ⟨ob_X6_sheet_9 X hr hnm, ⟨ob_X6_sheet_10 X hr hnm, ⟨ob_X6_sheet_11 X hr hnm, ⟨ob_X6_sheet_12 X hr hnm, ⟨ob_X6_sheet_13 X hr hnm, ⟨ob_X6_sheet_14 X hr hnm, trivial⟩⟩⟩⟩⟩⟩⟩⟩⟩⟩⟩⟩⟩⟩⟩
theorem dX6_put_0 : decode cX6_put 0 = .ok (.iload_n 1, 1) := by decide +kernel
theorem dX6_put_1 : decode cX6_put 1 = .ok (.invokestatic 267, 3) := by decide +kernel
theorem dX6_put_4 : decode cX6_put 4 = .ok (.ifCond .ne 5, 3) := by decide +kernel
theorem dX6_put_7 : decode cX6_put 7 = .ok (.iconst (-1), 1) := by decide +kernel
theorem dX6_put_8 : decode cX6_put 8 = .ok (.ireturn, 1) := by decide +kernel
theorem dX6_put_9 : decode cX6_put 9 = .ok (.aload_n 0, 1) := by decide +kernel
theorem dX6_put_10 : decode cX6_put 10 = .ok (.getfield 31, 3) := by decide +kernel
theorem dX6_put_13 : decode cX6_put 13 = .ok (.iload_n 1, 1) := by decide +kernel
theorem dX6_put_14 : decode cX6_put 14 = .ok (.iaload, 1) := by decide +kernel
theorem dX6_put_15 : decode cX6_put 15 = .ok (.ifCond .ge 6, 3) := by decide +kernel
theorem dX6_put_18 : decode cX6_put 18 = .ok (.bipush (-11), 2) := by decide +kernel
theorem dX6_put_20 : decode cX6_put 20 = .ok (.ireturn, 1) := by decide +kernel
theorem dX6_put_21 : decode cX6_put 21 = .ok (.iload_n 2, 1) := by decide +kernel
theorem dX6_put_22 : decode cX6_put 22 = .ok (.iconst 0, 1) := by decide +kernel
theorem dX6_put_23 : decode cX6_put 23 = .ok (.aload_n 0, 1) := by decide +kernel
theorem dX6_put_24 : decode cX6_put 24 = .ok (.getfield 34, 3) := by decide +kernel
theorem dX6_put_27 : decode cX6_put 27 = .ok (.iload_n 1, 1) := by decide +kernel
theorem dX6_put_28 : decode cX6_put 28 = .ok (.iaload, 1) := by decide +kernel
theorem dX6_put_29 : decode cX6_put 29 = .ok (.iconst 1, 1) := by decide +kernel
theorem dX6_put_30 : decode cX6_put 30 = .ok (.isub, 1) := by decide +kernel
theorem dX6_put_31 : decode cX6_put 31 = .ok (.invokestatic 57, 3) := by decide +kernel
theorem dX6_put_34 : decode cX6_put 34 = .ok (.ifCond .ne 6, 3) := by decide +kernel
theorem dX6_put_37 : decode cX6_put 37 = .ok (.bipush (-12), 2) := by decide +kernel
theorem dX6_put_39 : decode cX6_put 39 = .ok (.ireturn, 1) := by decide +kernel
theorem dX6_put_40 : decode cX6_put 40 = .ok (.aload_n 0, 1) := by decide +kernel
theorem dX6_put_41 : decode cX6_put 41 = .ok (.getfield 37, 3) := by decide +kernel
theorem dX6_put_44 : decode cX6_put 44 = .ok (.bipush 40, 2) := by decide +kernel
theorem dX6_put_46 : decode cX6_put 46 = .ok (.iload_n 1, 1) := by decide +kernel
theorem dX6_put_47 : decode cX6_put 47 = .ok (.imul, 1) := by decide +kernel
theorem dX6_put_48 : decode cX6_put 48 = .ok (.iload_n 2, 1) := by decide +kernel
theorem dX6_put_49 : decode cX6_put 49 = .ok (.iadd, 1) := by decide +kernel
theorem dX6_put_50 : decode cX6_put 50 = .ok (.aload_n 0, 1) := by decide +kernel
theorem dX6_put_51 : decode cX6_put 51 = .ok (.getfield 31, 3) := by decide +kernel
theorem dX6_put_54 : decode cX6_put 54 = .ok (.iload_n 1, 1) := by decide +kernel
theorem dX6_put_55 : decode cX6_put 55 = .ok (.iaload, 1) := by decide +kernel
theorem dX6_put_56 : decode cX6_put 56 = .ok (.ifCond .ne 9, 3) := by decide +kernel
theorem dX6_put_59 : decode cX6_put 59 = .ok (.iload_n 3, 1) := by decide +kernel
theorem dX6_put_60 : decode cX6_put 60 = .ok (.i2b, 1) := by decide +kernel
theorem dX6_put_61 : decode cX6_put 61 = .ok (.i2l, 1) := by decide +kernel
theorem dX6_put_62 : decode cX6_put 62 = .ok (.goto 21, 3) := by decide +kernel
theorem dX6_put_65 : decode cX6_put 65 = .ok (.aload_n 0, 1) := by decide +kernel
theorem dX6_put_66 : decode cX6_put 66 = .ok (.getfield 31, 3) := by decide +kernel
theorem dX6_put_69 : decode cX6_put 69 = .ok (.iload_n 1, 1) := by decide +kernel
theorem dX6_put_70 : decode cX6_put 70 = .ok (.iaload, 1) := by decide +kernel
theorem dX6_put_71 : decode cX6_put 71 = .ok (.iconst 1, 1) := by decide +kernel
theorem dX6_put_72 : decode cX6_put 72 = .ok (.if_icmp .ne 9, 3) := by decide +kernel
theorem dX6_put_75 : decode cX6_put 75 = .ok (.iload_n 3, 1) := by decide +kernel
theorem dX6_put_76 : decode cX6_put 76 = .ok (.i2s, 1) := by decide +kernel
theorem dX6_put_77 : decode cX6_put 77 = .ok (.i2l, 1) := by decide +kernel
theorem dX6_put_78 : decode cX6_put 78 = .ok (.goto 5, 3) := by decide +kernel
theorem dX6_put_81 : decode cX6_put 81 = .ok (.iload_n 3, 1) := by decide +kernel
theorem dX6_put_82 : decode cX6_put 82 = .ok (.i2l, 1) := by decide +kernel
theorem dX6_put_83 : decode cX6_put 83 = .ok (.lastore, 1) := by decide +kernel
theorem dX6_put_84 : decode cX6_put 84 = .ok (.iconst 1, 1) := by decide +kernel
theorem dX6_put_85 : decode cX6_put 85 = .ok (.ireturn, 1) := by decide +kernel
def pc_X6_put (i : Nat) : Nat := ([0, 7, 9, 18, 21, 37, 40, 59, 65, 75, 81, 83] : List Nat).getD i 0
set_option maxRecDepth 20000 in
theorem ob_X6_put_0 {x : ip_Cx} {G : ip_Gl} {d : Nat} (X : ip_X x G tb 4 d 0 0 RX6 cX6_put) (hr : x.2.2.2.2.2.2.2.2.1.sig.returnType = (some .int)) (hnm : x.2.2.2.2.2.2.2.2.1.name = "put") : ip_okB x G 4 pc_X6_put 0 ([oLdI 1, oCal (ip_call tb d) 0 0 202 1 0 0], tIf (fun a => a = 0) 1 2) := ⟨_, okC (ok_ildn X rfl dX6_put_0)
  (okC (ok_calS X (i := 267) (e := en_202) rfl mt_202 rfl rfl rfl tw_1173 tw_1174 dX6_put_1)
  (okN)), ok_ifne X (by decide) rfl dX6_put_4⟩
set_option maxRecDepth 20000 in
theorem ob_X6_put_1 {x : ip_Cx} {G : ip_Gl} {d : Nat} (X : ip_X x G tb 4 d 0 0 RX6 cX6_put) (hr : x.2.2.2.2.2.2.2.2.1.sig.returnType = (some .int)) (hnm : x.2.2.2.2.2.2.2.2.1.name = "put") : ip_okB x G 4 pc_X6_put 7 ([oI (-1)], tRI .int 0 0) := ⟨_, okC (ok_ic X (by decide) dX6_put_7)
  (okN), ok_ret X hr dX6_put_8⟩
set_option maxRecDepth 20000 in
theorem ob_X6_put_2 {x : ip_Cx} {G : ip_Gl} {d : Nat} (X : ip_X x G tb 4 d 0 0 RX6 cX6_put) (hr : x.2.2.2.2.2.2.2.2.1.sig.returnType = (some .int)) (hnm : x.2.2.2.2.2.2.2.2.1.name = "put") : ip_okB x G 4 pc_X6_put 9 ([oLdA 0, oGet 6 16, oLdI 1, oAldI], tIf (fun a => a < 0) 3 4) := ⟨_, okC (ok_aldn X rfl dX6_put_9)
  (okC (ok_get X (ci := 6) rfl (by decide) iw_X6 tw_811 dX6_put_10)
  (okC (ok_ildn X rfl dX6_put_13)
  (okC (ok_iald X dX6_put_14)
  (okN)))), ok_ifge X (by decide) rfl dX6_put_15⟩
set_option maxRecDepth 20000 in
theorem ob_X6_put_3 {x : ip_Cx} {G : ip_Gl} {d : Nat} (X : ip_X x G tb 4 d 0 0 RX6 cX6_put) (hr : x.2.2.2.2.2.2.2.2.1.sig.returnType = (some .int)) (hnm : x.2.2.2.2.2.2.2.2.1.name = "put") : ip_okB x G 4 pc_X6_put 18 ([oI (-11)], tRI .int 0 0) := ⟨_, okC (ok_bi X (by decide) dX6_put_18)
  (okN), ok_ret X hr dX6_put_20⟩
set_option maxRecDepth 20000 in
theorem ob_X6_put_4 {x : ip_Cx} {G : ip_Gl} {d : Nat} (X : ip_X x G tb 4 d 0 0 RX6 cX6_put) (hr : x.2.2.2.2.2.2.2.2.1.sig.returnType = (some .int)) (hnm : x.2.2.2.2.2.2.2.2.1.name = "put") : ip_okB x G 4 pc_X6_put 21 ([oLdI 2, oI (0), oLdA 0, oGet 6 17, oLdI 1, oAldI, oI (1), oBI (fun a b => a - b), oCal (ip_call tb d) 0 0 120 3 0 0], tIf (fun a => a = 0) 5 6) := ⟨_, okC (ok_ildn X rfl dX6_put_21)
  (okC (ok_ic X (by decide) dX6_put_22)
  (okC (ok_aldn X rfl dX6_put_23)
  (okC (ok_get X (ci := 6) rfl (by decide) iw_X6 tw_812 dX6_put_24)
  (okC (ok_ildn X rfl dX6_put_27)
  (okC (ok_iald X dX6_put_28)
  (okC (ok_ic X (by decide) dX6_put_29)
  (okC (ok_isub X dX6_put_30)
  (okC (ok_calS X (i := 57) (e := en_120) rfl mt_120 rfl rfl rfl tw_885 tw_886 dX6_put_31)
  (okN))))))))), ok_ifne X (by decide) rfl dX6_put_34⟩
set_option maxRecDepth 20000 in
theorem ob_X6_put_5 {x : ip_Cx} {G : ip_Gl} {d : Nat} (X : ip_X x G tb 4 d 0 0 RX6 cX6_put) (hr : x.2.2.2.2.2.2.2.2.1.sig.returnType = (some .int)) (hnm : x.2.2.2.2.2.2.2.2.1.name = "put") : ip_okB x G 4 pc_X6_put 37 ([oI (-12)], tRI .int 0 0) := ⟨_, okC (ok_bi X (by decide) dX6_put_37)
  (okN), ok_ret X hr dX6_put_39⟩
set_option maxRecDepth 20000 in
theorem ob_X6_put_6 {x : ip_Cx} {G : ip_Gl} {d : Nat} (X : ip_X x G tb 4 d 0 0 RX6 cX6_put) (hr : x.2.2.2.2.2.2.2.2.1.sig.returnType = (some .int)) (hnm : x.2.2.2.2.2.2.2.2.1.name = "put") : ip_okB x G 4 pc_X6_put 40 ([oLdA 0, oGet 6 18, oI (40), oLdI 1, oBI (fun a b => a * b), oLdI 2, oBI (fun a b => a + b), oLdA 0, oGet 6 16, oLdI 1, oAldI], tIf (fun a => a = 0) 7 8) := ⟨_, okC (ok_aldn X rfl dX6_put_40)
  (okC (ok_get X (ci := 6) rfl (by decide) iw_X6 tw_813 dX6_put_41)
  (okC (ok_bi X (by decide) dX6_put_44)
  (okC (ok_ildn X rfl dX6_put_46)
  (okC (ok_imul X dX6_put_47)
  (okC (ok_ildn X rfl dX6_put_48)
  (okC (ok_iadd X dX6_put_49)
  (okC (ok_aldn X rfl dX6_put_50)
  (okC (ok_get X (ci := 6) rfl (by decide) iw_X6 tw_811 dX6_put_51)
  (okC (ok_ildn X rfl dX6_put_54)
  (okC (ok_iald X dX6_put_55)
  (okN))))))))))), ok_ifne X (by decide) rfl dX6_put_56⟩
set_option maxRecDepth 20000 in
theorem ob_X6_put_7 {x : ip_Cx} {G : ip_Gl} {d : Nat} (X : ip_X x G tb 4 d 0 0 RX6 cX6_put) (hr : x.2.2.2.2.2.2.2.2.1.sig.returnType = (some .int)) (hnm : x.2.2.2.2.2.2.2.2.1.name = "put") : ip_okB x G 4 pc_X6_put 59 ([oLdI 3, oUI (fun a => a.toInt8.toInt32), oIL], tGo 11) := ⟨_, okC (ok_ildn X rfl dX6_put_59)
  (okC (ok_i2b X dX6_put_60)
  (okC (ok_i2l X dX6_put_61)
  (okN))), ok_go X (by decide) dX6_put_62⟩
set_option maxRecDepth 20000 in
theorem ob_X6_put_8 {x : ip_Cx} {G : ip_Gl} {d : Nat} (X : ip_X x G tb 4 d 0 0 RX6 cX6_put) (hr : x.2.2.2.2.2.2.2.2.1.sig.returnType = (some .int)) (hnm : x.2.2.2.2.2.2.2.2.1.name = "put") : ip_okB x G 4 pc_X6_put 65 ([oLdA 0, oGet 6 16, oLdI 1, oAldI, oI (1)], tCm (fun a b => a = b) 9 10) := ⟨_, okC (ok_aldn X rfl dX6_put_65)
  (okC (ok_get X (ci := 6) rfl (by decide) iw_X6 tw_811 dX6_put_66)
  (okC (ok_ildn X rfl dX6_put_69)
  (okC (ok_iald X dX6_put_70)
  (okC (ok_ic X (by decide) dX6_put_71)
  (okN))))), ok_cmne X (by decide) rfl dX6_put_72⟩
set_option maxRecDepth 20000 in
theorem ob_X6_put_9 {x : ip_Cx} {G : ip_Gl} {d : Nat} (X : ip_X x G tb 4 d 0 0 RX6 cX6_put) (hr : x.2.2.2.2.2.2.2.2.1.sig.returnType = (some .int)) (hnm : x.2.2.2.2.2.2.2.2.1.name = "put") : ip_okB x G 4 pc_X6_put 75 ([oLdI 3, oUI (fun a => a.toInt16.toInt32), oIL], tGo 11) := ⟨_, okC (ok_ildn X rfl dX6_put_75)
  (okC (ok_i2s X dX6_put_76)
  (okC (ok_i2l X dX6_put_77)
  (okN))), ok_go X (by decide) dX6_put_78⟩
set_option maxRecDepth 20000 in
theorem ob_X6_put_10 {x : ip_Cx} {G : ip_Gl} {d : Nat} (X : ip_X x G tb 4 d 0 0 RX6 cX6_put) (hr : x.2.2.2.2.2.2.2.2.1.sig.returnType = (some .int)) (hnm : x.2.2.2.2.2.2.2.2.1.name = "put") : ip_okB x G 4 pc_X6_put 81 ([oLdI 3, oIL], tGo 11) := ⟨_, okC (ok_ildn X rfl dX6_put_81)
  (okC (ok_i2l X dX6_put_82)
  (okN)), ok_fall rfl⟩
set_option maxRecDepth 20000 in
theorem ob_X6_put_11 {x : ip_Cx} {G : ip_Gl} {d : Nat} (X : ip_X x G tb 4 d 0 0 RX6 cX6_put) (hr : x.2.2.2.2.2.2.2.2.1.sig.returnType = (some .int)) (hnm : x.2.2.2.2.2.2.2.2.1.name = "put") : ip_okB x G 4 pc_X6_put 83 ([oAstL, oI (1)], tRI .int 0 0) := ⟨_, okC (ok_last X dX6_put_83)
  (okC (ok_ic X (by decide) dX6_put_84)
  (okN)), ok_ret X hr dX6_put_85⟩
theorem om_204 : ip_MOk tb en_204 pc_X6_put := fun x G d X hr hnm => ⟨ob_X6_put_0 X hr hnm, ⟨ob_X6_put_1 X hr hnm, ⟨ob_X6_put_2 X hr hnm, ⟨ob_X6_put_3 X hr hnm, ⟨ob_X6_put_4 X hr hnm, ⟨ob_X6_put_5 X hr hnm, ⟨ob_X6_put_6 X hr hnm, ⟨ob_X6_put_7 X hr hnm, ⟨ob_X6_put_8 X hr hnm, ⟨ob_X6_put_9 X hr hnm, ⟨ob_X6_put_10 X hr hnm, ⟨ob_X6_put_11 X hr hnm, trivial⟩⟩⟩⟩⟩⟩⟩⟩⟩⟩⟩⟩
theorem dX6_lacksSort_0 : decode cX6_lacksSort 0 = .ok (.aload_n 0, 1) := by decide +kernel
theorem dX6_lacksSort_1 : decode cX6_lacksSort 1 = .ok (.getfield 31, 3) := by decide +kernel
theorem dX6_lacksSort_4 : decode cX6_lacksSort 4 = .ok (.iload_n 1, 1) := by decide +kernel
theorem dX6_lacksSort_5 : decode cX6_lacksSort 5 = .ok (.iaload, 1) := by decide +kernel
theorem dX6_lacksSort_6 : decode cX6_lacksSort 6 = .ok (.ifCond .ge 8, 3) := by decide +kernel
theorem dX6_lacksSort_9 : decode cX6_lacksSort 9 = .ok (.bipush (-11), 2) := by decide +kernel
theorem dX6_lacksSort_11 : decode cX6_lacksSort 11 = .ok (.goto 19, 3) := by decide +kernel
theorem dX6_lacksSort_14 : decode cX6_lacksSort 14 = .ok (.aload_n 0, 1) := by decide +kernel
theorem dX6_lacksSort_15 : decode cX6_lacksSort 15 = .ok (.getfield 31, 3) := by decide +kernel
theorem dX6_lacksSort_18 : decode cX6_lacksSort 18 = .ok (.iload_n 1, 1) := by decide +kernel
theorem dX6_lacksSort_19 : decode cX6_lacksSort 19 = .ok (.iaload, 1) := by decide +kernel
theorem dX6_lacksSort_20 : decode cX6_lacksSort 20 = .ok (.iload_n 2, 1) := by decide +kernel
theorem dX6_lacksSort_21 : decode cX6_lacksSort 21 = .ok (.if_icmp .eq 8, 3) := by decide +kernel
theorem dX6_lacksSort_24 : decode cX6_lacksSort 24 = .ok (.bipush (-13), 2) := by decide +kernel
theorem dX6_lacksSort_26 : decode cX6_lacksSort 26 = .ok (.goto 4, 3) := by decide +kernel
theorem dX6_lacksSort_29 : decode cX6_lacksSort 29 = .ok (.iconst 0, 1) := by decide +kernel
theorem dX6_lacksSort_30 : decode cX6_lacksSort 30 = .ok (.ireturn, 1) := by decide +kernel
def pc_X6_lacksSort (i : Nat) : Nat := ([0, 9, 14, 24, 29, 30] : List Nat).getD i 0
set_option maxRecDepth 20000 in
theorem ob_X6_lacksSort_0 {x : ip_Cx} {G : ip_Gl} {d : Nat} (X : ip_X x G tb 3 d 0 0 RX6 cX6_lacksSort) (hr : x.2.2.2.2.2.2.2.2.1.sig.returnType = (some .int)) (hnm : x.2.2.2.2.2.2.2.2.1.name = "lacksSort") : ip_okB x G 3 pc_X6_lacksSort 0 ([oLdA 0, oGet 6 16, oLdI 1, oAldI], tIf (fun a => a < 0) 1 2) := ⟨_, okC (ok_aldn X rfl dX6_lacksSort_0)
  (okC (ok_get X (ci := 6) rfl (by decide) iw_X6 tw_811 dX6_lacksSort_1)
  (okC (ok_ildn X rfl dX6_lacksSort_4)
  (okC (ok_iald X dX6_lacksSort_5)
  (okN)))), ok_ifge X (by decide) rfl dX6_lacksSort_6⟩
set_option maxRecDepth 20000 in
theorem ob_X6_lacksSort_1 {x : ip_Cx} {G : ip_Gl} {d : Nat} (X : ip_X x G tb 3 d 0 0 RX6 cX6_lacksSort) (hr : x.2.2.2.2.2.2.2.2.1.sig.returnType = (some .int)) (hnm : x.2.2.2.2.2.2.2.2.1.name = "lacksSort") : ip_okB x G 3 pc_X6_lacksSort 9 ([oI (-11)], tGo 5) := ⟨_, okC (ok_bi X (by decide) dX6_lacksSort_9)
  (okN), ok_go X (by decide) dX6_lacksSort_11⟩
set_option maxRecDepth 20000 in
theorem ob_X6_lacksSort_2 {x : ip_Cx} {G : ip_Gl} {d : Nat} (X : ip_X x G tb 3 d 0 0 RX6 cX6_lacksSort) (hr : x.2.2.2.2.2.2.2.2.1.sig.returnType = (some .int)) (hnm : x.2.2.2.2.2.2.2.2.1.name = "lacksSort") : ip_okB x G 3 pc_X6_lacksSort 14 ([oLdA 0, oGet 6 16, oLdI 1, oAldI, oLdI 2], tCm (fun a b => a = b) 4 3) := ⟨_, okC (ok_aldn X rfl dX6_lacksSort_14)
  (okC (ok_get X (ci := 6) rfl (by decide) iw_X6 tw_811 dX6_lacksSort_15)
  (okC (ok_ildn X rfl dX6_lacksSort_18)
  (okC (ok_iald X dX6_lacksSort_19)
  (okC (ok_ildn X rfl dX6_lacksSort_20)
  (okN))))), ok_cmeq X (by decide) rfl dX6_lacksSort_21⟩
set_option maxRecDepth 20000 in
theorem ob_X6_lacksSort_3 {x : ip_Cx} {G : ip_Gl} {d : Nat} (X : ip_X x G tb 3 d 0 0 RX6 cX6_lacksSort) (hr : x.2.2.2.2.2.2.2.2.1.sig.returnType = (some .int)) (hnm : x.2.2.2.2.2.2.2.2.1.name = "lacksSort") : ip_okB x G 3 pc_X6_lacksSort 24 ([oI (-13)], tGo 5) := ⟨_, okC (ok_bi X (by decide) dX6_lacksSort_24)
  (okN), ok_go X (by decide) dX6_lacksSort_26⟩
set_option maxRecDepth 20000 in
theorem ob_X6_lacksSort_4 {x : ip_Cx} {G : ip_Gl} {d : Nat} (X : ip_X x G tb 3 d 0 0 RX6 cX6_lacksSort) (hr : x.2.2.2.2.2.2.2.2.1.sig.returnType = (some .int)) (hnm : x.2.2.2.2.2.2.2.2.1.name = "lacksSort") : ip_okB x G 3 pc_X6_lacksSort 29 ([oI (0)], tGo 5) := ⟨_, okC (ok_ic X (by decide) dX6_lacksSort_29)
  (okN), ok_fall rfl⟩
set_option maxRecDepth 20000 in
theorem ob_X6_lacksSort_5 {x : ip_Cx} {G : ip_Gl} {d : Nat} (X : ip_X x G tb 3 d 0 0 RX6 cX6_lacksSort) (hr : x.2.2.2.2.2.2.2.2.1.sig.returnType = (some .int)) (hnm : x.2.2.2.2.2.2.2.2.1.name = "lacksSort") : ip_okB x G 3 pc_X6_lacksSort 30 ([], tRI .int 0 0) := ⟨_, okN, ok_ret X hr dX6_lacksSort_30⟩
theorem om_205 : ip_MOk tb en_205 pc_X6_lacksSort := fun x G d X hr hnm => ⟨ob_X6_lacksSort_0 X hr hnm, ⟨ob_X6_lacksSort_1 X hr hnm, ⟨ob_X6_lacksSort_2 X hr hnm, ⟨ob_X6_lacksSort_3 X hr hnm, ⟨ob_X6_lacksSort_4 X hr hnm, ⟨ob_X6_lacksSort_5 X hr hnm, trivial⟩⟩⟩⟩⟩⟩
theorem dX6_item_0 : decode cX6_item 0 = .ok (.iload_n 1, 1) := by decide +kernel
theorem dX6_item_1 : decode cX6_item 1 = .ok (.invokestatic 267, 3) := by decide +kernel
theorem dX6_item_4 : decode cX6_item 4 = .ok (.ifCond .eq 12, 3) := by decide +kernel
theorem dX6_item_7 : decode cX6_item 7 = .ok (.iload_n 2, 1) := by decide +kernel
theorem dX6_item_8 : decode cX6_item 8 = .ok (.iconst 0, 1) := by decide +kernel
theorem dX6_item_9 : decode cX6_item 9 = .ok (.iconst 3, 1) := by decide +kernel
theorem dX6_item_10 : decode cX6_item 10 = .ok (.invokestatic 57, 3) := by decide +kernel
theorem dX6_item_13 : decode cX6_item 13 = .ok (.ifCond .ne 5, 3) := by decide +kernel
theorem dX6_item_16 : decode cX6_item 16 = .ok (.iconst (-1), 1) := by decide +kernel
theorem dX6_item_17 : decode cX6_item 17 = .ok (.ireturn, 1) := by decide +kernel
theorem dX6_item_18 : decode cX6_item 18 = .ok (.aload_n 0, 1) := by decide +kernel
theorem dX6_item_19 : decode cX6_item 19 = .ok (.iload_n 1, 1) := by decide +kernel
theorem dX6_item_20 : decode cX6_item 20 = .ok (.iload_n 2, 1) := by decide +kernel
theorem dX6_item_21 : decode cX6_item 21 = .ok (.invokevirtual 290, 3) := by decide +kernel
theorem dX6_item_24 : decode cX6_item 24 = .ok (.istore 4, 2) := by decide +kernel
theorem dX6_item_26 : decode cX6_item 26 = .ok (.iload 4, 2) := by decide +kernel
theorem dX6_item_28 : decode cX6_item 28 = .ok (.ifCond .eq 6, 3) := by decide +kernel
theorem dX6_item_31 : decode cX6_item 31 = .ok (.iload 4, 2) := by decide +kernel
theorem dX6_item_33 : decode cX6_item 33 = .ok (.ireturn, 1) := by decide +kernel
theorem dX6_item_34 : decode cX6_item 34 = .ok (.iload_n 3, 1) := by decide +kernel
theorem dX6_item_35 : decode cX6_item 35 = .ok (.iconst 0, 1) := by decide +kernel
theorem dX6_item_36 : decode cX6_item 36 = .ok (.aload_n 0, 1) := by decide +kernel
theorem dX6_item_37 : decode cX6_item 37 = .ok (.getfield 34, 3) := by decide +kernel
theorem dX6_item_40 : decode cX6_item 40 = .ok (.iload_n 1, 1) := by decide +kernel
theorem dX6_item_41 : decode cX6_item 41 = .ok (.iaload, 1) := by decide +kernel
theorem dX6_item_42 : decode cX6_item 42 = .ok (.iconst 1, 1) := by decide +kernel
theorem dX6_item_43 : decode cX6_item 43 = .ok (.isub, 1) := by decide +kernel
theorem dX6_item_44 : decode cX6_item 44 = .ok (.invokestatic 57, 3) := by decide +kernel
theorem dX6_item_47 : decode cX6_item 47 = .ok (.ifCond .eq 18, 3) := by decide +kernel
theorem dX6_item_50 : decode cX6_item 50 = .ok (.aload_n 0, 1) := by decide +kernel
theorem dX6_item_51 : decode cX6_item 51 = .ok (.getfield 37, 3) := by decide +kernel
theorem dX6_item_54 : decode cX6_item 54 = .ok (.bipush 40, 2) := by decide +kernel
theorem dX6_item_56 : decode cX6_item 56 = .ok (.iload_n 1, 1) := by decide +kernel
theorem dX6_item_57 : decode cX6_item 57 = .ok (.imul, 1) := by decide +kernel
theorem dX6_item_58 : decode cX6_item 58 = .ok (.iload_n 3, 1) := by decide +kernel
theorem dX6_item_59 : decode cX6_item 59 = .ok (.iadd, 1) := by decide +kernel
theorem dX6_item_60 : decode cX6_item 60 = .ok (.laload, 1) := by decide +kernel
theorem dX6_item_61 : decode cX6_item 61 = .ok (.l2i, 1) := by decide +kernel
theorem dX6_item_62 : decode cX6_item 62 = .ok (.goto 5, 3) := by decide +kernel
theorem dX6_item_65 : decode cX6_item 65 = .ok (.bipush (-12), 2) := by decide +kernel
theorem dX6_item_67 : decode cX6_item 67 = .ok (.ireturn, 1) := by decide +kernel
def pc_X6_item (i : Nat) : Nat := ([0, 7, 16, 18, 31, 34, 50, 65, 67] : List Nat).getD i 0
set_option maxRecDepth 20000 in
theorem ob_X6_item_0 {x : ip_Cx} {G : ip_Gl} {d : Nat} (X : ip_X x G tb 5 d 0 0 RX6 cX6_item) (hr : x.2.2.2.2.2.2.2.2.1.sig.returnType = (some .int)) (hnm : x.2.2.2.2.2.2.2.2.1.name = "item") : ip_okB x G 5 pc_X6_item 0 ([oLdI 1, oCal (ip_call tb d) 0 0 202 1 0 0], tIf (fun a => a = 0) 2 1) := ⟨_, okC (ok_ildn X rfl dX6_item_0)
  (okC (ok_calS X (i := 267) (e := en_202) rfl mt_202 rfl rfl rfl tw_1173 tw_1174 dX6_item_1)
  (okN)), ok_ifeq X (by decide) rfl dX6_item_4⟩
set_option maxRecDepth 20000 in
theorem ob_X6_item_1 {x : ip_Cx} {G : ip_Gl} {d : Nat} (X : ip_X x G tb 5 d 0 0 RX6 cX6_item) (hr : x.2.2.2.2.2.2.2.2.1.sig.returnType = (some .int)) (hnm : x.2.2.2.2.2.2.2.2.1.name = "item") : ip_okB x G 5 pc_X6_item 7 ([oLdI 2, oI (0), oI (3), oCal (ip_call tb d) 0 0 120 3 0 0], tIf (fun a => a = 0) 2 3) := ⟨_, okC (ok_ildn X rfl dX6_item_7)
  (okC (ok_ic X (by decide) dX6_item_8)
  (okC (ok_ic X (by decide) dX6_item_9)
  (okC (ok_calS X (i := 57) (e := en_120) rfl mt_120 rfl rfl rfl tw_885 tw_886 dX6_item_10)
  (okN)))), ok_ifne X (by decide) rfl dX6_item_13⟩
set_option maxRecDepth 20000 in
theorem ob_X6_item_2 {x : ip_Cx} {G : ip_Gl} {d : Nat} (X : ip_X x G tb 5 d 0 0 RX6 cX6_item) (hr : x.2.2.2.2.2.2.2.2.1.sig.returnType = (some .int)) (hnm : x.2.2.2.2.2.2.2.2.1.name = "item") : ip_okB x G 5 pc_X6_item 16 ([oI (-1)], tRI .int 0 0) := ⟨_, okC (ok_ic X (by decide) dX6_item_16)
  (okN), ok_ret X hr dX6_item_17⟩
set_option maxRecDepth 20000 in
theorem ob_X6_item_3 {x : ip_Cx} {G : ip_Gl} {d : Nat} (X : ip_X x G tb 5 d 0 0 RX6 cX6_item) (hr : x.2.2.2.2.2.2.2.2.1.sig.returnType = (some .int)) (hnm : x.2.2.2.2.2.2.2.2.1.name = "item") : ip_okB x G 5 pc_X6_item 18 ([oLdA 0, oLdI 1, oLdI 2, oCaV (ip_call tb d) 0 0 6 205 3 0 0, oStI 4, oLdI 4], tIf (fun a => a = 0) 5 4) := ⟨_, okC (ok_aldn X rfl dX6_item_18)
  (okC (ok_ildn X rfl dX6_item_19)
  (okC (ok_ildn X rfl dX6_item_20)
  (okC (ok_calV X (i := 290) (e := en_205) rfl mt_205 rfl rfl rfl tw_1223 tw_1225 (Or.inl ⟨_, _, rfl⟩) tp_48 dX6_item_21)
  (okC (ok_ist X (by decide) dX6_item_24)
  (okC (ok_ild X dX6_item_26)
  (okN)))))), ok_ifeq X (by decide) rfl dX6_item_28⟩
set_option maxRecDepth 20000 in
theorem ob_X6_item_4 {x : ip_Cx} {G : ip_Gl} {d : Nat} (X : ip_X x G tb 5 d 0 0 RX6 cX6_item) (hr : x.2.2.2.2.2.2.2.2.1.sig.returnType = (some .int)) (hnm : x.2.2.2.2.2.2.2.2.1.name = "item") : ip_okB x G 5 pc_X6_item 31 ([oLdI 4], tRI .int 0 0) := ⟨_, okC (ok_ild X dX6_item_31)
  (okN), ok_ret X hr dX6_item_33⟩
set_option maxRecDepth 20000 in
theorem ob_X6_item_5 {x : ip_Cx} {G : ip_Gl} {d : Nat} (X : ip_X x G tb 5 d 0 0 RX6 cX6_item) (hr : x.2.2.2.2.2.2.2.2.1.sig.returnType = (some .int)) (hnm : x.2.2.2.2.2.2.2.2.1.name = "item") : ip_okB x G 5 pc_X6_item 34 ([oLdI 3, oI (0), oLdA 0, oGet 6 17, oLdI 1, oAldI, oI (1), oBI (fun a b => a - b), oCal (ip_call tb d) 0 0 120 3 0 0], tIf (fun a => a = 0) 7 6) := ⟨_, okC (ok_ildn X rfl dX6_item_34)
  (okC (ok_ic X (by decide) dX6_item_35)
  (okC (ok_aldn X rfl dX6_item_36)
  (okC (ok_get X (ci := 6) rfl (by decide) iw_X6 tw_812 dX6_item_37)
  (okC (ok_ildn X rfl dX6_item_40)
  (okC (ok_iald X dX6_item_41)
  (okC (ok_ic X (by decide) dX6_item_42)
  (okC (ok_isub X dX6_item_43)
  (okC (ok_calS X (i := 57) (e := en_120) rfl mt_120 rfl rfl rfl tw_885 tw_886 dX6_item_44)
  (okN))))))))), ok_ifeq X (by decide) rfl dX6_item_47⟩
set_option maxRecDepth 20000 in
theorem ob_X6_item_6 {x : ip_Cx} {G : ip_Gl} {d : Nat} (X : ip_X x G tb 5 d 0 0 RX6 cX6_item) (hr : x.2.2.2.2.2.2.2.2.1.sig.returnType = (some .int)) (hnm : x.2.2.2.2.2.2.2.2.1.name = "item") : ip_okB x G 5 pc_X6_item 50 ([oLdA 0, oGet 6 18, oI (40), oLdI 1, oBI (fun a b => a * b), oLdI 3, oBI (fun a b => a + b), oAldL, oLI], tGo 8) := ⟨_, okC (ok_aldn X rfl dX6_item_50)
  (okC (ok_get X (ci := 6) rfl (by decide) iw_X6 tw_813 dX6_item_51)
  (okC (ok_bi X (by decide) dX6_item_54)
  (okC (ok_ildn X rfl dX6_item_56)
  (okC (ok_imul X dX6_item_57)
  (okC (ok_ildn X rfl dX6_item_58)
  (okC (ok_iadd X dX6_item_59)
  (okC (ok_lald X dX6_item_60)
  (okC (ok_l2i X dX6_item_61)
  (okN))))))))), ok_go X (by decide) dX6_item_62⟩
set_option maxRecDepth 20000 in
theorem ob_X6_item_7 {x : ip_Cx} {G : ip_Gl} {d : Nat} (X : ip_X x G tb 5 d 0 0 RX6 cX6_item) (hr : x.2.2.2.2.2.2.2.2.1.sig.returnType = (some .int)) (hnm : x.2.2.2.2.2.2.2.2.1.name = "item") : ip_okB x G 5 pc_X6_item 65 ([oI (-12)], tGo 8) := ⟨_, okC (ok_bi X (by decide) dX6_item_65)
  (okN), ok_fall rfl⟩
set_option maxRecDepth 20000 in
theorem ob_X6_item_8 {x : ip_Cx} {G : ip_Gl} {d : Nat} (X : ip_X x G tb 5 d 0 0 RX6 cX6_item) (hr : x.2.2.2.2.2.2.2.2.1.sig.returnType = (some .int)) (hnm : x.2.2.2.2.2.2.2.2.1.name = "item") : ip_okB x G 5 pc_X6_item 67 ([], tRI .int 0 0) := ⟨_, okN, ok_ret X hr dX6_item_67⟩
theorem om_206 : ip_MOk tb en_206 pc_X6_item := fun x G d X hr hnm => ⟨ob_X6_item_0 X hr hnm, ⟨ob_X6_item_1 X hr hnm, ⟨ob_X6_item_2 X hr hnm, ⟨ob_X6_item_3 X hr hnm, ⟨ob_X6_item_4 X hr hnm, ⟨ob_X6_item_5 X hr hnm, ⟨ob_X6_item_6 X hr hnm, ⟨ob_X6_item_7 X hr hnm, ⟨ob_X6_item_8 X hr hnm, trivial⟩⟩⟩⟩⟩⟩⟩⟩⟩
theorem dX6_isHeld_0 : decode cX6_isHeld 0 = .ok (.iload_n 1, 1) := by decide +kernel
theorem dX6_isHeld_1 : decode cX6_isHeld 1 = .ok (.ifCond .ne 11, 3) := by decide +kernel
theorem dX6_isHeld_4 : decode cX6_isHeld 4 = .ok (.aload_n 0, 1) := by decide +kernel
theorem dX6_isHeld_5 : decode cX6_isHeld 5 = .ok (.iload_n 2, 1) := by decide +kernel
theorem dX6_isHeld_6 : decode cX6_isHeld 6 = .ok (.invokevirtual 192, 3) := by decide +kernel
theorem dX6_isHeld_9 : decode cX6_isHeld 9 = .ok (.goto 25, 3) := by decide +kernel
theorem dX6_isHeld_12 : decode cX6_isHeld 12 = .ok (.iload_n 1, 1) := by decide +kernel
theorem dX6_isHeld_13 : decode cX6_isHeld 13 = .ok (.iconst 1, 1) := by decide +kernel
theorem dX6_isHeld_14 : decode cX6_isHeld 14 = .ok (.if_icmp .ne 10, 3) := by decide +kernel
theorem dX6_isHeld_17 : decode cX6_isHeld 17 = .ok (.iload_n 2, 1) := by decide +kernel
theorem dX6_isHeld_18 : decode cX6_isHeld 18 = .ok (.invokestatic 267, 3) := by decide +kernel
theorem dX6_isHeld_21 : decode cX6_isHeld 21 = .ok (.goto 13, 3) := by decide +kernel
theorem dX6_isHeld_24 : decode cX6_isHeld 24 = .ok (.iload_n 1, 1) := by decide +kernel
theorem dX6_isHeld_25 : decode cX6_isHeld 25 = .ok (.iconst 2, 1) := by decide +kernel
theorem dX6_isHeld_26 : decode cX6_isHeld 26 = .ok (.if_icmp .ne 7, 3) := by decide +kernel
theorem dX6_isHeld_29 : decode cX6_isHeld 29 = .ok (.iconst 1, 1) := by decide +kernel
theorem dX6_isHeld_30 : decode cX6_isHeld 30 = .ok (.goto 4, 3) := by decide +kernel
theorem dX6_isHeld_33 : decode cX6_isHeld 33 = .ok (.iconst 0, 1) := by decide +kernel
theorem dX6_isHeld_34 : decode cX6_isHeld 34 = .ok (.ireturn, 1) := by decide +kernel
def pc_X6_isHeld (i : Nat) : Nat := ([0, 4, 12, 17, 24, 29, 33, 34] : List Nat).getD i 0
set_option maxRecDepth 20000 in
theorem ob_X6_isHeld_0 {x : ip_Cx} {G : ip_Gl} {d : Nat} (X : ip_X x G tb 3 d 0 0 RX6 cX6_isHeld) (hr : x.2.2.2.2.2.2.2.2.1.sig.returnType = (some .boolean)) (hnm : x.2.2.2.2.2.2.2.2.1.name = "isHeld") : ip_okB x G 3 pc_X6_isHeld 0 ([oLdI 1], tIf (fun a => a = 0) 1 2) := ⟨_, okC (ok_ildn X rfl dX6_isHeld_0)
  (okN), ok_ifne X (by decide) rfl dX6_isHeld_1⟩
set_option maxRecDepth 20000 in
theorem ob_X6_isHeld_1 {x : ip_Cx} {G : ip_Gl} {d : Nat} (X : ip_X x G tb 3 d 0 0 RX6 cX6_isHeld) (hr : x.2.2.2.2.2.2.2.2.1.sig.returnType = (some .boolean)) (hnm : x.2.2.2.2.2.2.2.2.1.name = "isHeld") : ip_okB x G 3 pc_X6_isHeld 4 ([oLdA 0, oLdI 2, oCaV (ip_call tb d) 0 0 6 123 2 0 0], tGo 7) := ⟨_, okC (ok_aldn X rfl dX6_isHeld_4)
  (okC (ok_ildn X rfl dX6_isHeld_5)
  (okC (ok_calV X (i := 192) (e := en_123) rfl mt_123 rfl rfl rfl tw_1002 tw_1004 (Or.inl ⟨_, _, rfl⟩) tp_23 dX6_isHeld_6)
  (okN))), ok_go X (by decide) dX6_isHeld_9⟩
set_option maxRecDepth 20000 in
theorem ob_X6_isHeld_2 {x : ip_Cx} {G : ip_Gl} {d : Nat} (X : ip_X x G tb 3 d 0 0 RX6 cX6_isHeld) (hr : x.2.2.2.2.2.2.2.2.1.sig.returnType = (some .boolean)) (hnm : x.2.2.2.2.2.2.2.2.1.name = "isHeld") : ip_okB x G 3 pc_X6_isHeld 12 ([oLdI 1, oI (1)], tCm (fun a b => a = b) 3 4) := ⟨_, okC (ok_ildn X rfl dX6_isHeld_12)
  (okC (ok_ic X (by decide) dX6_isHeld_13)
  (okN)), ok_cmne X (by decide) rfl dX6_isHeld_14⟩
set_option maxRecDepth 20000 in
theorem ob_X6_isHeld_3 {x : ip_Cx} {G : ip_Gl} {d : Nat} (X : ip_X x G tb 3 d 0 0 RX6 cX6_isHeld) (hr : x.2.2.2.2.2.2.2.2.1.sig.returnType = (some .boolean)) (hnm : x.2.2.2.2.2.2.2.2.1.name = "isHeld") : ip_okB x G 3 pc_X6_isHeld 17 ([oLdI 2, oCal (ip_call tb d) 0 0 202 1 0 0], tGo 7) := ⟨_, okC (ok_ildn X rfl dX6_isHeld_17)
  (okC (ok_calS X (i := 267) (e := en_202) rfl mt_202 rfl rfl rfl tw_1173 tw_1174 dX6_isHeld_18)
  (okN)), ok_go X (by decide) dX6_isHeld_21⟩
set_option maxRecDepth 20000 in
theorem ob_X6_isHeld_4 {x : ip_Cx} {G : ip_Gl} {d : Nat} (X : ip_X x G tb 3 d 0 0 RX6 cX6_isHeld) (hr : x.2.2.2.2.2.2.2.2.1.sig.returnType = (some .boolean)) (hnm : x.2.2.2.2.2.2.2.2.1.name = "isHeld") : ip_okB x G 3 pc_X6_isHeld 24 ([oLdI 1, oI (2)], tCm (fun a b => a = b) 5 6) := ⟨_, okC (ok_ildn X rfl dX6_isHeld_24)
  (okC (ok_ic X (by decide) dX6_isHeld_25)
  (okN)), ok_cmne X (by decide) rfl dX6_isHeld_26⟩
set_option maxRecDepth 20000 in
theorem ob_X6_isHeld_5 {x : ip_Cx} {G : ip_Gl} {d : Nat} (X : ip_X x G tb 3 d 0 0 RX6 cX6_isHeld) (hr : x.2.2.2.2.2.2.2.2.1.sig.returnType = (some .boolean)) (hnm : x.2.2.2.2.2.2.2.2.1.name = "isHeld") : ip_okB x G 3 pc_X6_isHeld 29 ([oI (1)], tGo 7) := ⟨_, okC (ok_ic X (by decide) dX6_isHeld_29)
  (okN), ok_go X (by decide) dX6_isHeld_30⟩
set_option maxRecDepth 20000 in
theorem ob_X6_isHeld_6 {x : ip_Cx} {G : ip_Gl} {d : Nat} (X : ip_X x G tb 3 d 0 0 RX6 cX6_isHeld) (hr : x.2.2.2.2.2.2.2.2.1.sig.returnType = (some .boolean)) (hnm : x.2.2.2.2.2.2.2.2.1.name = "isHeld") : ip_okB x G 3 pc_X6_isHeld 33 ([oI (0)], tGo 7) := ⟨_, okC (ok_ic X (by decide) dX6_isHeld_33)
  (okN), ok_fall rfl⟩
set_option maxRecDepth 20000 in
theorem ob_X6_isHeld_7 {x : ip_Cx} {G : ip_Gl} {d : Nat} (X : ip_X x G tb 3 d 0 0 RX6 cX6_isHeld) (hr : x.2.2.2.2.2.2.2.2.1.sig.returnType = (some .boolean)) (hnm : x.2.2.2.2.2.2.2.2.1.name = "isHeld") : ip_okB x G 3 pc_X6_isHeld 34 ([], tRI .boolean 0 0) := ⟨_, okN, ok_ret X hr dX6_isHeld_34⟩
theorem om_207 : ip_MOk tb en_207 pc_X6_isHeld := fun x G d X hr hnm => ⟨ob_X6_isHeld_0 X hr hnm, ⟨ob_X6_isHeld_1 X hr hnm, ⟨ob_X6_isHeld_2 X hr hnm, ⟨ob_X6_isHeld_3 X hr hnm, ⟨ob_X6_isHeld_4 X hr hnm, ⟨ob_X6_isHeld_5 X hr hnm, ⟨ob_X6_isHeld_6 X hr hnm, ⟨ob_X6_isHeld_7 X hr hnm, trivial⟩⟩⟩⟩⟩⟩⟩⟩
theorem dX6_shelf_0 : decode cX6_shelf 0 = .ok (.iload_n 1, 1) := by decide +kernel
theorem dX6_shelf_1 : decode cX6_shelf 1 = .ok (.invokestatic 267, 3) := by decide +kernel
theorem dX6_shelf_4 : decode cX6_shelf 4 = .ok (.ifCond .eq 12, 3) := by decide +kernel
theorem dX6_shelf_7 : decode cX6_shelf 7 = .ok (.aload_n 0, 1) := by decide +kernel
theorem dX6_shelf_8 : decode cX6_shelf 8 = .ok (.iload_n 2, 1) := by decide +kernel
theorem dX6_shelf_9 : decode cX6_shelf 9 = .ok (.iload_n 3, 1) := by decide +kernel
theorem dX6_shelf_10 : decode cX6_shelf 10 = .ok (.invokevirtual 293, 3) := by decide +kernel
theorem dX6_shelf_13 : decode cX6_shelf 13 = .ok (.ifCond .ne 5, 3) := by decide +kernel
theorem dX6_shelf_16 : decode cX6_shelf 16 = .ok (.iconst (-1), 1) := by decide +kernel
theorem dX6_shelf_17 : decode cX6_shelf 17 = .ok (.ireturn, 1) := by decide +kernel
theorem dX6_shelf_18 : decode cX6_shelf 18 = .ok (.aload_n 0, 1) := by decide +kernel
theorem dX6_shelf_19 : decode cX6_shelf 19 = .ok (.getfield 41, 3) := by decide +kernel
theorem dX6_shelf_22 : decode cX6_shelf 22 = .ok (.iload_n 1, 1) := by decide +kernel
theorem dX6_shelf_23 : decode cX6_shelf 23 = .ok (.iload_n 2, 1) := by decide +kernel
theorem dX6_shelf_24 : decode cX6_shelf 24 = .ok (.iconst 2, 1) := by decide +kernel
theorem dX6_shelf_25 : decode cX6_shelf 25 = .ok (.if_icmp .eq 17, 3) := by decide +kernel
theorem dX6_shelf_28 : decode cX6_shelf 28 = .ok (.iload_n 2, 1) := by decide +kernel
theorem dX6_shelf_29 : decode cX6_shelf 29 = .ok (.iconst 1, 1) := by decide +kernel
theorem dX6_shelf_30 : decode cX6_shelf 30 = .ok (.if_icmp .ne 16, 3) := by decide +kernel
theorem dX6_shelf_33 : decode cX6_shelf 33 = .ok (.aload_n 0, 1) := by decide +kernel
theorem dX6_shelf_34 : decode cX6_shelf 34 = .ok (.getfield 31, 3) := by decide +kernel
theorem dX6_shelf_37 : decode cX6_shelf 37 = .ok (.iload_n 3, 1) := by decide +kernel
theorem dX6_shelf_38 : decode cX6_shelf 38 = .ok (.iaload, 1) := by decide +kernel
theorem dX6_shelf_39 : decode cX6_shelf 39 = .ok (.ifCond .ge 7, 3) := by decide +kernel
theorem dX6_shelf_42 : decode cX6_shelf 42 = .ok (.iconst (-1), 1) := by decide +kernel
theorem dX6_shelf_43 : decode cX6_shelf 43 = .ok (.goto 4, 3) := by decide +kernel
theorem dX6_shelf_46 : decode cX6_shelf 46 = .ok (.iload_n 2, 1) := by decide +kernel
theorem dX6_shelf_47 : decode cX6_shelf 47 = .ok (.iastore, 1) := by decide +kernel
theorem dX6_shelf_48 : decode cX6_shelf 48 = .ok (.aload_n 0, 1) := by decide +kernel
theorem dX6_shelf_49 : decode cX6_shelf 49 = .ok (.getfield 44, 3) := by decide +kernel
theorem dX6_shelf_52 : decode cX6_shelf 52 = .ok (.iload_n 1, 1) := by decide +kernel
theorem dX6_shelf_53 : decode cX6_shelf 53 = .ok (.iload_n 2, 1) := by decide +kernel
theorem dX6_shelf_54 : decode cX6_shelf 54 = .ok (.iconst 1, 1) := by decide +kernel
theorem dX6_shelf_55 : decode cX6_shelf 55 = .ok (.if_icmp .ne 12, 3) := by decide +kernel
theorem dX6_shelf_58 : decode cX6_shelf 58 = .ok (.aload_n 0, 1) := by decide +kernel
theorem dX6_shelf_59 : decode cX6_shelf 59 = .ok (.getfield 31, 3) := by decide +kernel
theorem dX6_shelf_62 : decode cX6_shelf 62 = .ok (.iload_n 3, 1) := by decide +kernel
theorem dX6_shelf_63 : decode cX6_shelf 63 = .ok (.iaload, 1) := by decide +kernel
theorem dX6_shelf_64 : decode cX6_shelf 64 = .ok (.goto 4, 3) := by decide +kernel
theorem dX6_shelf_67 : decode cX6_shelf 67 = .ok (.iload_n 3, 1) := by decide +kernel
theorem dX6_shelf_68 : decode cX6_shelf 68 = .ok (.iastore, 1) := by decide +kernel
theorem dX6_shelf_69 : decode cX6_shelf 69 = .ok (.aload_n 0, 1) := by decide +kernel
theorem dX6_shelf_70 : decode cX6_shelf 70 = .ok (.getfield 47, 3) := by decide +kernel
theorem dX6_shelf_73 : decode cX6_shelf 73 = .ok (.iload_n 1, 1) := by decide +kernel
theorem dX6_shelf_74 : decode cX6_shelf 74 = .ok (.iload_n 2, 1) := by decide +kernel
theorem dX6_shelf_75 : decode cX6_shelf 75 = .ok (.iconst 1, 1) := by decide +kernel
theorem dX6_shelf_76 : decode cX6_shelf 76 = .ok (.if_icmp .ne 12, 3) := by decide +kernel
theorem dX6_shelf_79 : decode cX6_shelf 79 = .ok (.aload_n 0, 1) := by decide +kernel
theorem dX6_shelf_80 : decode cX6_shelf 80 = .ok (.getfield 34, 3) := by decide +kernel
theorem dX6_shelf_83 : decode cX6_shelf 83 = .ok (.iload_n 3, 1) := by decide +kernel
theorem dX6_shelf_84 : decode cX6_shelf 84 = .ok (.iaload, 1) := by decide +kernel
theorem dX6_shelf_85 : decode cX6_shelf 85 = .ok (.goto 4, 3) := by decide +kernel
theorem dX6_shelf_88 : decode cX6_shelf 88 = .ok (.iconst 0, 1) := by decide +kernel
theorem dX6_shelf_89 : decode cX6_shelf 89 = .ok (.iastore, 1) := by decide +kernel
theorem dX6_shelf_90 : decode cX6_shelf 90 = .ok (.iconst 1, 1) := by decide +kernel
theorem dX6_shelf_91 : decode cX6_shelf 91 = .ok (.ireturn, 1) := by decide +kernel
def pc_X6_shelf (i : Nat) : Nat := ([0, 7, 16, 18, 28, 33, 42, 46, 47, 58, 67, 68, 79, 88, 89] : List Nat).getD i 0
set_option maxRecDepth 20000 in
theorem ob_X6_shelf_0 {x : ip_Cx} {G : ip_Gl} {d : Nat} (X : ip_X x G tb 4 d 0 0 RX6 cX6_shelf) (hr : x.2.2.2.2.2.2.2.2.1.sig.returnType = (some .int)) (hnm : x.2.2.2.2.2.2.2.2.1.name = "shelf") : ip_okB x G 4 pc_X6_shelf 0 ([oLdI 1, oCal (ip_call tb d) 0 0 202 1 0 0], tIf (fun a => a = 0) 2 1) := ⟨_, okC (ok_ildn X rfl dX6_shelf_0)
  (okC (ok_calS X (i := 267) (e := en_202) rfl mt_202 rfl rfl rfl tw_1173 tw_1174 dX6_shelf_1)
  (okN)), ok_ifeq X (by decide) rfl dX6_shelf_4⟩
set_option maxRecDepth 20000 in
theorem ob_X6_shelf_1 {x : ip_Cx} {G : ip_Gl} {d : Nat} (X : ip_X x G tb 4 d 0 0 RX6 cX6_shelf) (hr : x.2.2.2.2.2.2.2.2.1.sig.returnType = (some .int)) (hnm : x.2.2.2.2.2.2.2.2.1.name = "shelf") : ip_okB x G 4 pc_X6_shelf 7 ([oLdA 0, oLdI 2, oLdI 3, oCaV (ip_call tb d) 0 0 6 207 3 0 0], tIf (fun a => a = 0) 2 3) := ⟨_, okC (ok_aldn X rfl dX6_shelf_7)
  (okC (ok_ildn X rfl dX6_shelf_8)
  (okC (ok_ildn X rfl dX6_shelf_9)
  (okC (ok_calV X (i := 293) (e := en_207) rfl mt_207 rfl rfl rfl tw_1243 tw_1245 (Or.inl ⟨_, _, rfl⟩) tp_49 dX6_shelf_10)
  (okN)))), ok_ifne X (by decide) rfl dX6_shelf_13⟩
set_option maxRecDepth 20000 in
theorem ob_X6_shelf_2 {x : ip_Cx} {G : ip_Gl} {d : Nat} (X : ip_X x G tb 4 d 0 0 RX6 cX6_shelf) (hr : x.2.2.2.2.2.2.2.2.1.sig.returnType = (some .int)) (hnm : x.2.2.2.2.2.2.2.2.1.name = "shelf") : ip_okB x G 4 pc_X6_shelf 16 ([oI (-1)], tRI .int 0 0) := ⟨_, okC (ok_ic X (by decide) dX6_shelf_16)
  (okN), ok_ret X hr dX6_shelf_17⟩
set_option maxRecDepth 20000 in
theorem ob_X6_shelf_3 {x : ip_Cx} {G : ip_Gl} {d : Nat} (X : ip_X x G tb 4 d 0 0 RX6 cX6_shelf) (hr : x.2.2.2.2.2.2.2.2.1.sig.returnType = (some .int)) (hnm : x.2.2.2.2.2.2.2.2.1.name = "shelf") : ip_okB x G 4 pc_X6_shelf 18 ([oLdA 0, oGet 6 19, oLdI 1, oLdI 2, oI (2)], tCm (fun a b => a = b) 6 4) := ⟨_, okC (ok_aldn X rfl dX6_shelf_18)
  (okC (ok_get X (ci := 6) rfl (by decide) iw_X6 tw_814 dX6_shelf_19)
  (okC (ok_ildn X rfl dX6_shelf_22)
  (okC (ok_ildn X rfl dX6_shelf_23)
  (okC (ok_ic X (by decide) dX6_shelf_24)
  (okN))))), ok_cmeq X (by decide) rfl dX6_shelf_25⟩
set_option maxRecDepth 20000 in
theorem ob_X6_shelf_4 {x : ip_Cx} {G : ip_Gl} {d : Nat} (X : ip_X x G tb 4 d 0 0 RX6 cX6_shelf) (hr : x.2.2.2.2.2.2.2.2.1.sig.returnType = (some .int)) (hnm : x.2.2.2.2.2.2.2.2.1.name = "shelf") : ip_okB x G 4 pc_X6_shelf 28 ([oLdI 2, oI (1)], tCm (fun a b => a = b) 5 7) := ⟨_, okC (ok_ildn X rfl dX6_shelf_28)
  (okC (ok_ic X (by decide) dX6_shelf_29)
  (okN)), ok_cmne X (by decide) rfl dX6_shelf_30⟩
set_option maxRecDepth 20000 in
theorem ob_X6_shelf_5 {x : ip_Cx} {G : ip_Gl} {d : Nat} (X : ip_X x G tb 4 d 0 0 RX6 cX6_shelf) (hr : x.2.2.2.2.2.2.2.2.1.sig.returnType = (some .int)) (hnm : x.2.2.2.2.2.2.2.2.1.name = "shelf") : ip_okB x G 4 pc_X6_shelf 33 ([oLdA 0, oGet 6 16, oLdI 3, oAldI], tIf (fun a => a < 0) 6 7) := ⟨_, okC (ok_aldn X rfl dX6_shelf_33)
  (okC (ok_get X (ci := 6) rfl (by decide) iw_X6 tw_811 dX6_shelf_34)
  (okC (ok_ildn X rfl dX6_shelf_37)
  (okC (ok_iald X dX6_shelf_38)
  (okN)))), ok_ifge X (by decide) rfl dX6_shelf_39⟩
set_option maxRecDepth 20000 in
theorem ob_X6_shelf_6 {x : ip_Cx} {G : ip_Gl} {d : Nat} (X : ip_X x G tb 4 d 0 0 RX6 cX6_shelf) (hr : x.2.2.2.2.2.2.2.2.1.sig.returnType = (some .int)) (hnm : x.2.2.2.2.2.2.2.2.1.name = "shelf") : ip_okB x G 4 pc_X6_shelf 42 ([oI (-1)], tGo 8) := ⟨_, okC (ok_ic X (by decide) dX6_shelf_42)
  (okN), ok_go X (by decide) dX6_shelf_43⟩
set_option maxRecDepth 20000 in
theorem ob_X6_shelf_7 {x : ip_Cx} {G : ip_Gl} {d : Nat} (X : ip_X x G tb 4 d 0 0 RX6 cX6_shelf) (hr : x.2.2.2.2.2.2.2.2.1.sig.returnType = (some .int)) (hnm : x.2.2.2.2.2.2.2.2.1.name = "shelf") : ip_okB x G 4 pc_X6_shelf 46 ([oLdI 2], tGo 8) := ⟨_, okC (ok_ildn X rfl dX6_shelf_46)
  (okN), ok_fall rfl⟩
set_option maxRecDepth 20000 in
theorem ob_X6_shelf_8 {x : ip_Cx} {G : ip_Gl} {d : Nat} (X : ip_X x G tb 4 d 0 0 RX6 cX6_shelf) (hr : x.2.2.2.2.2.2.2.2.1.sig.returnType = (some .int)) (hnm : x.2.2.2.2.2.2.2.2.1.name = "shelf") : ip_okB x G 4 pc_X6_shelf 47 ([oAstI, oLdA 0, oGet 6 20, oLdI 1, oLdI 2, oI (1)], tCm (fun a b => a = b) 9 10) := ⟨_, okC (ok_iast X dX6_shelf_47)
  (okC (ok_aldn X rfl dX6_shelf_48)
  (okC (ok_get X (ci := 6) rfl (by decide) iw_X6 tw_815 dX6_shelf_49)
  (okC (ok_ildn X rfl dX6_shelf_52)
  (okC (ok_ildn X rfl dX6_shelf_53)
  (okC (ok_ic X (by decide) dX6_shelf_54)
  (okN)))))), ok_cmne X (by decide) rfl dX6_shelf_55⟩
set_option maxRecDepth 20000 in
theorem ob_X6_shelf_9 {x : ip_Cx} {G : ip_Gl} {d : Nat} (X : ip_X x G tb 4 d 0 0 RX6 cX6_shelf) (hr : x.2.2.2.2.2.2.2.2.1.sig.returnType = (some .int)) (hnm : x.2.2.2.2.2.2.2.2.1.name = "shelf") : ip_okB x G 4 pc_X6_shelf 58 ([oLdA 0, oGet 6 16, oLdI 3, oAldI], tGo 11) := ⟨_, okC (ok_aldn X rfl dX6_shelf_58)
  (okC (ok_get X (ci := 6) rfl (by decide) iw_X6 tw_811 dX6_shelf_59)
  (okC (ok_ildn X rfl dX6_shelf_62)
  (okC (ok_iald X dX6_shelf_63)
  (okN)))), ok_go X (by decide) dX6_shelf_64⟩
set_option maxRecDepth 20000 in
theorem ob_X6_shelf_10 {x : ip_Cx} {G : ip_Gl} {d : Nat} (X : ip_X x G tb 4 d 0 0 RX6 cX6_shelf) (hr : x.2.2.2.2.2.2.2.2.1.sig.returnType = (some .int)) (hnm : x.2.2.2.2.2.2.2.2.1.name = "shelf") : ip_okB x G 4 pc_X6_shelf 67 ([oLdI 3], tGo 11) := ⟨_, okC (ok_ildn X rfl dX6_shelf_67)
  (okN), ok_fall rfl⟩
set_option maxRecDepth 20000 in
theorem ob_X6_shelf_11 {x : ip_Cx} {G : ip_Gl} {d : Nat} (X : ip_X x G tb 4 d 0 0 RX6 cX6_shelf) (hr : x.2.2.2.2.2.2.2.2.1.sig.returnType = (some .int)) (hnm : x.2.2.2.2.2.2.2.2.1.name = "shelf") : ip_okB x G 4 pc_X6_shelf 68 ([oAstI, oLdA 0, oGet 6 21, oLdI 1, oLdI 2, oI (1)], tCm (fun a b => a = b) 12 13) := ⟨_, okC (ok_iast X dX6_shelf_68)
  (okC (ok_aldn X rfl dX6_shelf_69)
  (okC (ok_get X (ci := 6) rfl (by decide) iw_X6 tw_816 dX6_shelf_70)
  (okC (ok_ildn X rfl dX6_shelf_73)
  (okC (ok_ildn X rfl dX6_shelf_74)
  (okC (ok_ic X (by decide) dX6_shelf_75)
  (okN)))))), ok_cmne X (by decide) rfl dX6_shelf_76⟩
set_option maxRecDepth 20000 in
theorem ob_X6_shelf_12 {x : ip_Cx} {G : ip_Gl} {d : Nat} (X : ip_X x G tb 4 d 0 0 RX6 cX6_shelf) (hr : x.2.2.2.2.2.2.2.2.1.sig.returnType = (some .int)) (hnm : x.2.2.2.2.2.2.2.2.1.name = "shelf") : ip_okB x G 4 pc_X6_shelf 79 ([oLdA 0, oGet 6 17, oLdI 3, oAldI], tGo 14) := ⟨_, okC (ok_aldn X rfl dX6_shelf_79)
  (okC (ok_get X (ci := 6) rfl (by decide) iw_X6 tw_812 dX6_shelf_80)
  (okC (ok_ildn X rfl dX6_shelf_83)
  (okC (ok_iald X dX6_shelf_84)
  (okN)))), ok_go X (by decide) dX6_shelf_85⟩
set_option maxRecDepth 20000 in
theorem ob_X6_shelf_13 {x : ip_Cx} {G : ip_Gl} {d : Nat} (X : ip_X x G tb 4 d 0 0 RX6 cX6_shelf) (hr : x.2.2.2.2.2.2.2.2.1.sig.returnType = (some .int)) (hnm : x.2.2.2.2.2.2.2.2.1.name = "shelf") : ip_okB x G 4 pc_X6_shelf 88 ([oI (0)], tGo 14) := ⟨_, okC (ok_ic X (by decide) dX6_shelf_88)
  (okN), ok_fall rfl⟩
set_option maxRecDepth 20000 in
theorem ob_X6_shelf_14 {x : ip_Cx} {G : ip_Gl} {d : Nat} (X : ip_X x G tb 4 d 0 0 RX6 cX6_shelf) (hr : x.2.2.2.2.2.2.2.2.1.sig.returnType = (some .int)) (hnm : x.2.2.2.2.2.2.2.2.1.name = "shelf") : ip_okB x G 4 pc_X6_shelf 89 ([oAstI, oI (1)], tRI .int 0 0) := ⟨_, okC (ok_iast X dX6_shelf_89)
  (okC (ok_ic X (by decide) dX6_shelf_90)
  (okN)), ok_ret X hr dX6_shelf_91⟩
theorem om_208 : ip_MOk tb en_208 pc_X6_shelf := fun x G d X hr hnm => ⟨ob_X6_shelf_0 X hr hnm, ⟨ob_X6_shelf_1 X hr hnm, ⟨ob_X6_shelf_2 X hr hnm, ⟨ob_X6_shelf_3 X hr hnm, ⟨ob_X6_shelf_4 X hr hnm, ⟨ob_X6_shelf_5 X hr hnm, ⟨ob_X6_shelf_6 X hr hnm, ⟨ob_X6_shelf_7 X hr hnm, ⟨ob_X6_shelf_8 X hr hnm, ⟨ob_X6_shelf_9 X hr hnm, ⟨ob_X6_shelf_10 X hr hnm, ⟨ob_X6_shelf_11 X hr hnm, ⟨ob_X6_shelf_12 X hr hnm, ⟨ob_X6_shelf_13 X hr hnm, ⟨ob_X6_shelf_14 X hr hnm, trivial⟩⟩⟩⟩⟩⟩⟩⟩⟩⟩⟩⟩⟩⟩⟩
theorem dX6_kindOn_0 : decode cX6_kindOn 0 = .ok (.aload_n 0, 1) := by decide +kernel
theorem dX6_kindOn_1 : decode cX6_kindOn 1 = .ok (.getfield 41, 3) := by decide +kernel
theorem dX6_kindOn_4 : decode cX6_kindOn 4 = .ok (.iload_n 1, 1) := by decide +kernel
theorem dX6_kindOn_5 : decode cX6_kindOn 5 = .ok (.iaload, 1) := by decide +kernel
theorem dX6_kindOn_6 : decode cX6_kindOn 6 = .ok (.ifCond .eq 19, 3) := by decide +kernel
theorem dX6_kindOn_9 : decode cX6_kindOn 9 = .ok (.aload_n 0, 1) := by decide +kernel
theorem dX6_kindOn_10 : decode cX6_kindOn 10 = .ok (.getfield 41, 3) := by decide +kernel
theorem dX6_kindOn_13 : decode cX6_kindOn 13 = .ok (.iload_n 1, 1) := by decide +kernel
theorem dX6_kindOn_14 : decode cX6_kindOn 14 = .ok (.iaload, 1) := by decide +kernel
theorem dX6_kindOn_15 : decode cX6_kindOn 15 = .ok (.ifCond .ge 7, 3) := by decide +kernel
theorem dX6_kindOn_18 : decode cX6_kindOn 18 = .ok (.iconst (-1), 1) := by decide +kernel
theorem dX6_kindOn_19 : decode cX6_kindOn 19 = .ok (.goto 5, 3) := by decide +kernel
theorem dX6_kindOn_22 : decode cX6_kindOn 22 = .ok (.bipush 9, 2) := by decide +kernel
theorem dX6_kindOn_24 : decode cX6_kindOn 24 = .ok (.ireturn, 1) := by decide +kernel
theorem dX6_kindOn_25 : decode cX6_kindOn 25 = .ok (.aload_n 0, 1) := by decide +kernel
theorem dX6_kindOn_26 : decode cX6_kindOn 26 = .ok (.aload_n 0, 1) := by decide +kernel
theorem dX6_kindOn_27 : decode cX6_kindOn 27 = .ok (.getfield 44, 3) := by decide +kernel
theorem dX6_kindOn_30 : decode cX6_kindOn 30 = .ok (.iload_n 1, 1) := by decide +kernel
theorem dX6_kindOn_31 : decode cX6_kindOn 31 = .ok (.iaload, 1) := by decide +kernel
theorem dX6_kindOn_32 : decode cX6_kindOn 32 = .ok (.invokevirtual 192, 3) := by decide +kernel
theorem dX6_kindOn_35 : decode cX6_kindOn 35 = .ok (.ifCond .eq 17, 3) := by decide +kernel
theorem dX6_kindOn_38 : decode cX6_kindOn 38 = .ok (.aload_n 0, 1) := by decide +kernel
theorem dX6_kindOn_39 : decode cX6_kindOn 39 = .ok (.aload_n 0, 1) := by decide +kernel
theorem dX6_kindOn_40 : decode cX6_kindOn 40 = .ok (.getfield 44, 3) := by decide +kernel
theorem dX6_kindOn_43 : decode cX6_kindOn 43 = .ok (.iload_n 1, 1) := by decide +kernel
theorem dX6_kindOn_44 : decode cX6_kindOn 44 = .ok (.iaload, 1) := by decide +kernel
theorem dX6_kindOn_45 : decode cX6_kindOn 45 = .ok (.iconst 0, 1) := by decide +kernel
theorem dX6_kindOn_46 : decode cX6_kindOn 46 = .ok (.invokevirtual 195, 3) := by decide +kernel
theorem dX6_kindOn_49 : decode cX6_kindOn 49 = .ok (.goto 4, 3) := by decide +kernel
theorem dX6_kindOn_52 : decode cX6_kindOn 52 = .ok (.iconst (-1), 1) := by decide +kernel
theorem dX6_kindOn_53 : decode cX6_kindOn 53 = .ok (.ireturn, 1) := by decide +kernel
def pc_X6_kindOn (i : Nat) : Nat := ([0, 9, 18, 22, 24, 25, 38, 52, 53] : List Nat).getD i 0
set_option maxRecDepth 20000 in
theorem ob_X6_kindOn_0 {x : ip_Cx} {G : ip_Gl} {d : Nat} (X : ip_X x G tb 2 d 0 0 RX6 cX6_kindOn) (hr : x.2.2.2.2.2.2.2.2.1.sig.returnType = (some .int)) (hnm : x.2.2.2.2.2.2.2.2.1.name = "kindOn") : ip_okB x G 2 pc_X6_kindOn 0 ([oLdA 0, oGet 6 19, oLdI 1, oAldI], tIf (fun a => a = 0) 5 1) := ⟨_, okC (ok_aldn X rfl dX6_kindOn_0)
  (okC (ok_get X (ci := 6) rfl (by decide) iw_X6 tw_814 dX6_kindOn_1)
  (okC (ok_ildn X rfl dX6_kindOn_4)
  (okC (ok_iald X dX6_kindOn_5)
  (okN)))), ok_ifeq X (by decide) rfl dX6_kindOn_6⟩
set_option maxRecDepth 20000 in
theorem ob_X6_kindOn_1 {x : ip_Cx} {G : ip_Gl} {d : Nat} (X : ip_X x G tb 2 d 0 0 RX6 cX6_kindOn) (hr : x.2.2.2.2.2.2.2.2.1.sig.returnType = (some .int)) (hnm : x.2.2.2.2.2.2.2.2.1.name = "kindOn") : ip_okB x G 2 pc_X6_kindOn 9 ([oLdA 0, oGet 6 19, oLdI 1, oAldI], tIf (fun a => a < 0) 2 3) := ⟨_, okC (ok_aldn X rfl dX6_kindOn_9)
  (okC (ok_get X (ci := 6) rfl (by decide) iw_X6 tw_814 dX6_kindOn_10)
  (okC (ok_ildn X rfl dX6_kindOn_13)
  (okC (ok_iald X dX6_kindOn_14)
  (okN)))), ok_ifge X (by decide) rfl dX6_kindOn_15⟩
set_option maxRecDepth 20000 in
theorem ob_X6_kindOn_2 {x : ip_Cx} {G : ip_Gl} {d : Nat} (X : ip_X x G tb 2 d 0 0 RX6 cX6_kindOn) (hr : x.2.2.2.2.2.2.2.2.1.sig.returnType = (some .int)) (hnm : x.2.2.2.2.2.2.2.2.1.name = "kindOn") : ip_okB x G 2 pc_X6_kindOn 18 ([oI (-1)], tGo 4) := ⟨_, okC (ok_ic X (by decide) dX6_kindOn_18)
  (okN), ok_go X (by decide) dX6_kindOn_19⟩
set_option maxRecDepth 20000 in
theorem ob_X6_kindOn_3 {x : ip_Cx} {G : ip_Gl} {d : Nat} (X : ip_X x G tb 2 d 0 0 RX6 cX6_kindOn) (hr : x.2.2.2.2.2.2.2.2.1.sig.returnType = (some .int)) (hnm : x.2.2.2.2.2.2.2.2.1.name = "kindOn") : ip_okB x G 2 pc_X6_kindOn 22 ([oI (9)], tGo 4) := ⟨_, okC (ok_bi X (by decide) dX6_kindOn_22)
  (okN), ok_fall rfl⟩
set_option maxRecDepth 20000 in
theorem ob_X6_kindOn_4 {x : ip_Cx} {G : ip_Gl} {d : Nat} (X : ip_X x G tb 2 d 0 0 RX6 cX6_kindOn) (hr : x.2.2.2.2.2.2.2.2.1.sig.returnType = (some .int)) (hnm : x.2.2.2.2.2.2.2.2.1.name = "kindOn") : ip_okB x G 2 pc_X6_kindOn 24 ([], tRI .int 0 0) := ⟨_, okN, ok_ret X hr dX6_kindOn_24⟩
set_option maxRecDepth 20000 in
theorem ob_X6_kindOn_5 {x : ip_Cx} {G : ip_Gl} {d : Nat} (X : ip_X x G tb 2 d 0 0 RX6 cX6_kindOn) (hr : x.2.2.2.2.2.2.2.2.1.sig.returnType = (some .int)) (hnm : x.2.2.2.2.2.2.2.2.1.name = "kindOn") : ip_okB x G 2 pc_X6_kindOn 25 ([oLdA 0, oLdA 0, oGet 6 20, oLdI 1, oAldI, oCaV (ip_call tb d) 0 0 6 123 2 0 0], tIf (fun a => a = 0) 7 6) := ⟨_, okC (ok_aldn X rfl dX6_kindOn_25)
  (okC (ok_aldn X rfl dX6_kindOn_26)
  (okC (ok_get X (ci := 6) rfl (by decide) iw_X6 tw_815 dX6_kindOn_27)
  (okC (ok_ildn X rfl dX6_kindOn_30)
  (okC (ok_iald X dX6_kindOn_31)
  (okC (ok_calV X (i := 192) (e := en_123) rfl mt_123 rfl rfl rfl tw_1002 tw_1004 (Or.inl ⟨_, _, rfl⟩) tp_23 dX6_kindOn_32)
  (okN)))))), ok_ifeq X (by decide) rfl dX6_kindOn_35⟩
set_option maxRecDepth 20000 in
theorem ob_X6_kindOn_6 {x : ip_Cx} {G : ip_Gl} {d : Nat} (X : ip_X x G tb 2 d 0 0 RX6 cX6_kindOn) (hr : x.2.2.2.2.2.2.2.2.1.sig.returnType = (some .int)) (hnm : x.2.2.2.2.2.2.2.2.1.name = "kindOn") : ip_okB x G 2 pc_X6_kindOn 38 ([oLdA 0, oLdA 0, oGet 6 20, oLdI 1, oAldI, oI (0), oCaV (ip_call tb d) 0 0 6 124 3 0 0], tGo 8) := ⟨_, okC (ok_aldn X rfl dX6_kindOn_38)
  (okC (ok_aldn X rfl dX6_kindOn_39)
  (okC (ok_get X (ci := 6) rfl (by decide) iw_X6 tw_815 dX6_kindOn_40)
  (okC (ok_ildn X rfl dX6_kindOn_43)
  (okC (ok_iald X dX6_kindOn_44)
  (okC (ok_ic X (by decide) dX6_kindOn_45)
  (okC (ok_calV X (i := 195) (e := en_124) rfl mt_124 rfl rfl rfl tw_1006 tw_1008 (Or.inl ⟨_, _, rfl⟩) tp_24 dX6_kindOn_46)
  (okN))))))), ok_go X (by decide) dX6_kindOn_49⟩
set_option maxRecDepth 20000 in
theorem ob_X6_kindOn_7 {x : ip_Cx} {G : ip_Gl} {d : Nat} (X : ip_X x G tb 2 d 0 0 RX6 cX6_kindOn) (hr : x.2.2.2.2.2.2.2.2.1.sig.returnType = (some .int)) (hnm : x.2.2.2.2.2.2.2.2.1.name = "kindOn") : ip_okB x G 2 pc_X6_kindOn 52 ([oI (-1)], tGo 8) := ⟨_, okC (ok_ic X (by decide) dX6_kindOn_52)
  (okN), ok_fall rfl⟩
set_option maxRecDepth 20000 in
theorem ob_X6_kindOn_8 {x : ip_Cx} {G : ip_Gl} {d : Nat} (X : ip_X x G tb 2 d 0 0 RX6 cX6_kindOn) (hr : x.2.2.2.2.2.2.2.2.1.sig.returnType = (some .int)) (hnm : x.2.2.2.2.2.2.2.2.1.name = "kindOn") : ip_okB x G 2 pc_X6_kindOn 53 ([], tRI .int 0 0) := ⟨_, okN, ok_ret X hr dX6_kindOn_53⟩
theorem om_209 : ip_MOk tb en_209 pc_X6_kindOn := fun x G d X hr hnm => ⟨ob_X6_kindOn_0 X hr hnm, ⟨ob_X6_kindOn_1 X hr hnm, ⟨ob_X6_kindOn_2 X hr hnm, ⟨ob_X6_kindOn_3 X hr hnm, ⟨ob_X6_kindOn_4 X hr hnm, ⟨ob_X6_kindOn_5 X hr hnm, ⟨ob_X6_kindOn_6 X hr hnm, ⟨ob_X6_kindOn_7 X hr hnm, ⟨ob_X6_kindOn_8 X hr hnm, trivial⟩⟩⟩⟩⟩⟩⟩⟩⟩
theorem dX6_isUnder_0 : decode cX6_isUnder 0 = .ok (.iload_n 1, 1) := by decide +kernel
theorem dX6_isUnder_1 : decode cX6_isUnder 1 = .ok (.ifCond .eq 28, 3) := by decide +kernel
theorem dX6_isUnder_4 : decode cX6_isUnder 4 = .ok (.iload_n 1, 1) := by decide +kernel
theorem dX6_isUnder_5 : decode cX6_isUnder 5 = .ok (.iload_n 0, 1) := by decide +kernel
theorem dX6_isUnder_6 : decode cX6_isUnder 6 = .ok (.if_icmp .eq 23, 3) := by decide +kernel
theorem dX6_isUnder_9 : decode cX6_isUnder 9 = .ok (.iload_n 1, 1) := by decide +kernel
theorem dX6_isUnder_10 : decode cX6_isUnder 10 = .ok (.iconst 1, 1) := by decide +kernel
theorem dX6_isUnder_11 : decode cX6_isUnder 11 = .ok (.if_icmp .ne 8, 3) := by decide +kernel
theorem dX6_isUnder_14 : decode cX6_isUnder 14 = .ok (.iload_n 0, 1) := by decide +kernel
theorem dX6_isUnder_15 : decode cX6_isUnder 15 = .ok (.iconst 3, 1) := by decide +kernel
theorem dX6_isUnder_16 : decode cX6_isUnder 16 = .ok (.if_icmp .eq 13, 3) := by decide +kernel
theorem dX6_isUnder_19 : decode cX6_isUnder 19 = .ok (.iload_n 1, 1) := by decide +kernel
theorem dX6_isUnder_20 : decode cX6_isUnder 20 = .ok (.iconst 2, 1) := by decide +kernel
theorem dX6_isUnder_21 : decode cX6_isUnder 21 = .ok (.if_icmp .ne 12, 3) := by decide +kernel
theorem dX6_isUnder_24 : decode cX6_isUnder 24 = .ok (.iload_n 0, 1) := by decide +kernel
theorem dX6_isUnder_25 : decode cX6_isUnder 25 = .ok (.iconst 4, 1) := by decide +kernel
theorem dX6_isUnder_26 : decode cX6_isUnder 26 = .ok (.if_icmp .ne 7, 3) := by decide +kernel
theorem dX6_isUnder_29 : decode cX6_isUnder 29 = .ok (.iconst 1, 1) := by decide +kernel
theorem dX6_isUnder_30 : decode cX6_isUnder 30 = .ok (.goto 4, 3) := by decide +kernel
theorem dX6_isUnder_33 : decode cX6_isUnder 33 = .ok (.iconst 0, 1) := by decide +kernel
theorem dX6_isUnder_34 : decode cX6_isUnder 34 = .ok (.ireturn, 1) := by decide +kernel
def pc_X6_isUnder (i : Nat) : Nat := ([0, 4, 9, 14, 19, 24, 29, 33, 34] : List Nat).getD i 0
set_option maxRecDepth 20000 in
theorem ob_X6_isUnder_0 {x : ip_Cx} {G : ip_Gl} {d : Nat} (X : ip_X x G tb 2 d 0 0 RX6 cX6_isUnder) (hr : x.2.2.2.2.2.2.2.2.1.sig.returnType = (some .boolean)) (hnm : x.2.2.2.2.2.2.2.2.1.name = "isUnder") : ip_okB x G 2 pc_X6_isUnder 0 ([oLdI 1], tIf (fun a => a = 0) 6 1) := ⟨_, okC (ok_ildn X rfl dX6_isUnder_0)
  (okN), ok_ifeq X (by decide) rfl dX6_isUnder_1⟩
set_option maxRecDepth 20000 in
theorem ob_X6_isUnder_1 {x : ip_Cx} {G : ip_Gl} {d : Nat} (X : ip_X x G tb 2 d 0 0 RX6 cX6_isUnder) (hr : x.2.2.2.2.2.2.2.2.1.sig.returnType = (some .boolean)) (hnm : x.2.2.2.2.2.2.2.2.1.name = "isUnder") : ip_okB x G 2 pc_X6_isUnder 4 ([oLdI 1, oLdI 0], tCm (fun a b => a = b) 6 2) := ⟨_, okC (ok_ildn X rfl dX6_isUnder_4)
  (okC (ok_ildn X rfl dX6_isUnder_5)
  (okN)), ok_cmeq X (by decide) rfl dX6_isUnder_6⟩
set_option maxRecDepth 20000 in
theorem ob_X6_isUnder_2 {x : ip_Cx} {G : ip_Gl} {d : Nat} (X : ip_X x G tb 2 d 0 0 RX6 cX6_isUnder) (hr : x.2.2.2.2.2.2.2.2.1.sig.returnType = (some .boolean)) (hnm : x.2.2.2.2.2.2.2.2.1.name = "isUnder") : ip_okB x G 2 pc_X6_isUnder 9 ([oLdI 1, oI (1)], tCm (fun a b => a = b) 3 4) := ⟨_, okC (ok_ildn X rfl dX6_isUnder_9)
  (okC (ok_ic X (by decide) dX6_isUnder_10)
  (okN)), ok_cmne X (by decide) rfl dX6_isUnder_11⟩
set_option maxRecDepth 20000 in
theorem ob_X6_isUnder_3 {x : ip_Cx} {G : ip_Gl} {d : Nat} (X : ip_X x G tb 2 d 0 0 RX6 cX6_isUnder) (hr : x.2.2.2.2.2.2.2.2.1.sig.returnType = (some .boolean)) (hnm : x.2.2.2.2.2.2.2.2.1.name = "isUnder") : ip_okB x G 2 pc_X6_isUnder 14 ([oLdI 0, oI (3)], tCm (fun a b => a = b) 6 4) := ⟨_, okC (ok_ildn X rfl dX6_isUnder_14)
  (okC (ok_ic X (by decide) dX6_isUnder_15)
  (okN)), ok_cmeq X (by decide) rfl dX6_isUnder_16⟩
set_option maxRecDepth 20000 in
theorem ob_X6_isUnder_4 {x : ip_Cx} {G : ip_Gl} {d : Nat} (X : ip_X x G tb 2 d 0 0 RX6 cX6_isUnder) (hr : x.2.2.2.2.2.2.2.2.1.sig.returnType = (some .boolean)) (hnm : x.2.2.2.2.2.2.2.2.1.name = "isUnder") : ip_okB x G 2 pc_X6_isUnder 19 ([oLdI 1, oI (2)], tCm (fun a b => a = b) 5 7) := ⟨_, okC (ok_ildn X rfl dX6_isUnder_19)
  (okC (ok_ic X (by decide) dX6_isUnder_20)
  (okN)), ok_cmne X (by decide) rfl dX6_isUnder_21⟩
set_option maxRecDepth 20000 in
theorem ob_X6_isUnder_5 {x : ip_Cx} {G : ip_Gl} {d : Nat} (X : ip_X x G tb 2 d 0 0 RX6 cX6_isUnder) (hr : x.2.2.2.2.2.2.2.2.1.sig.returnType = (some .boolean)) (hnm : x.2.2.2.2.2.2.2.2.1.name = "isUnder") : ip_okB x G 2 pc_X6_isUnder 24 ([oLdI 0, oI (4)], tCm (fun a b => a = b) 6 7) := ⟨_, okC (ok_ildn X rfl dX6_isUnder_24)
  (okC (ok_ic X (by decide) dX6_isUnder_25)
  (okN)), ok_cmne X (by decide) rfl dX6_isUnder_26⟩
set_option maxRecDepth 20000 in
theorem ob_X6_isUnder_6 {x : ip_Cx} {G : ip_Gl} {d : Nat} (X : ip_X x G tb 2 d 0 0 RX6 cX6_isUnder) (hr : x.2.2.2.2.2.2.2.2.1.sig.returnType = (some .boolean)) (hnm : x.2.2.2.2.2.2.2.2.1.name = "isUnder") : ip_okB x G 2 pc_X6_isUnder 29 ([oI (1)], tGo 8) := ⟨_, okC (ok_ic X (by decide) dX6_isUnder_29)
  (okN), ok_go X (by decide) dX6_isUnder_30⟩
set_option maxRecDepth 20000 in
theorem ob_X6_isUnder_7 {x : ip_Cx} {G : ip_Gl} {d : Nat} (X : ip_X x G tb 2 d 0 0 RX6 cX6_isUnder) (hr : x.2.2.2.2.2.2.2.2.1.sig.returnType = (some .boolean)) (hnm : x.2.2.2.2.2.2.2.2.1.name = "isUnder") : ip_okB x G 2 pc_X6_isUnder 33 ([oI (0)], tGo 8) := ⟨_, okC (ok_ic X (by decide) dX6_isUnder_33)
  (okN), ok_fall rfl⟩
set_option maxRecDepth 20000 in
theorem ob_X6_isUnder_8 {x : ip_Cx} {G : ip_Gl} {d : Nat} (X : ip_X x G tb 2 d 0 0 RX6 cX6_isUnder) (hr : x.2.2.2.2.2.2.2.2.1.sig.returnType = (some .boolean)) (hnm : x.2.2.2.2.2.2.2.2.1.name = "isUnder") : ip_okB x G 2 pc_X6_isUnder 34 ([], tRI .boolean 0 0) := ⟨_, okN, ok_ret X hr dX6_isUnder_34⟩
theorem om_210 : ip_MOk tb en_210 pc_X6_isUnder := fun x G d X hr hnm => ⟨ob_X6_isUnder_0 X hr hnm, ⟨ob_X6_isUnder_1 X hr hnm, ⟨ob_X6_isUnder_2 X hr hnm, ⟨ob_X6_isUnder_3 X hr hnm, ⟨ob_X6_isUnder_4 X hr hnm, ⟨ob_X6_isUnder_5 X hr hnm, ⟨ob_X6_isUnder_6 X hr hnm, ⟨ob_X6_isUnder_7 X hr hnm, ⟨ob_X6_isUnder_8 X hr hnm, trivial⟩⟩⟩⟩⟩⟩⟩⟩⟩
theorem dX6_taken_0 : decode cX6_taken 0 = .ok (.iload_n 1, 1) := by decide +kernel
theorem dX6_taken_1 : decode cX6_taken 1 = .ok (.invokestatic 267, 3) := by decide +kernel
theorem dX6_taken_4 : decode cX6_taken 4 = .ok (.ifCond .eq 23, 3) := by decide +kernel
theorem dX6_taken_7 : decode cX6_taken 7 = .ok (.iload_n 2, 1) := by decide +kernel
theorem dX6_taken_8 : decode cX6_taken 8 = .ok (.iconst 0, 1) := by decide +kernel
theorem dX6_taken_9 : decode cX6_taken 9 = .ok (.iconst 5, 1) := by decide +kernel
theorem dX6_taken_10 : decode cX6_taken 10 = .ok (.invokestatic 57, 3) := by decide +kernel
theorem dX6_taken_13 : decode cX6_taken 13 = .ok (.ifCond .ne 16, 3) := by decide +kernel
theorem dX6_taken_16 : decode cX6_taken 16 = .ok (.iload_n 2, 1) := by decide +kernel
theorem dX6_taken_17 : decode cX6_taken 17 = .ok (.bipush 10, 2) := by decide +kernel
theorem dX6_taken_19 : decode cX6_taken 19 = .ok (.bipush 13, 2) := by decide +kernel
theorem dX6_taken_21 : decode cX6_taken 21 = .ok (.invokestatic 57, 3) := by decide +kernel
theorem dX6_taken_24 : decode cX6_taken 24 = .ok (.ifCond .ne 5, 3) := by decide +kernel
theorem dX6_taken_27 : decode cX6_taken 27 = .ok (.iconst (-1), 1) := by decide +kernel
theorem dX6_taken_28 : decode cX6_taken 28 = .ok (.ireturn, 1) := by decide +kernel
theorem dX6_taken_29 : decode cX6_taken 29 = .ok (.aload_n 0, 1) := by decide +kernel
theorem dX6_taken_30 : decode cX6_taken 30 = .ok (.iload_n 1, 1) := by decide +kernel
theorem dX6_taken_31 : decode cX6_taken 31 = .ok (.invokevirtual 296, 3) := by decide +kernel
theorem dX6_taken_34 : decode cX6_taken 34 = .ok (.istore_n 3, 1) := by decide +kernel
theorem dX6_taken_35 : decode cX6_taken 35 = .ok (.iload_n 3, 1) := by decide +kernel
theorem dX6_taken_36 : decode cX6_taken 36 = .ok (.ifCond .ge 6, 3) := by decide +kernel
theorem dX6_taken_39 : decode cX6_taken 39 = .ok (.bipush (-11), 2) := by decide +kernel
theorem dX6_taken_41 : decode cX6_taken 41 = .ok (.ireturn, 1) := by decide +kernel
theorem dX6_taken_42 : decode cX6_taken 42 = .ok (.iload_n 3, 1) := by decide +kernel
theorem dX6_taken_43 : decode cX6_taken 43 = .ok (.bipush 9, 2) := by decide +kernel
theorem dX6_taken_45 : decode cX6_taken 45 = .ok (.if_icmp .ne 28, 3) := by decide +kernel
theorem dX6_taken_48 : decode cX6_taken 48 = .ok (.iload_n 2, 1) := by decide +kernel
theorem dX6_taken_49 : decode cX6_taken 49 = .ok (.bipush 10, 2) := by decide +kernel
theorem dX6_taken_51 : decode cX6_taken 51 = .ok (.aload_n 0, 1) := by decide +kernel
theorem dX6_taken_52 : decode cX6_taken 52 = .ok (.getfield 44, 3) := by decide +kernel
theorem dX6_taken_55 : decode cX6_taken 55 = .ok (.iload_n 1, 1) := by decide +kernel
theorem dX6_taken_56 : decode cX6_taken 56 = .ok (.iaload, 1) := by decide +kernel
theorem dX6_taken_57 : decode cX6_taken 57 = .ok (.iadd, 1) := by decide +kernel
theorem dX6_taken_58 : decode cX6_taken 58 = .ok (.if_icmp .ne 12, 3) := by decide +kernel
theorem dX6_taken_61 : decode cX6_taken 61 = .ok (.aload_n 0, 1) := by decide +kernel
theorem dX6_taken_62 : decode cX6_taken 62 = .ok (.getfield 47, 3) := by decide +kernel
theorem dX6_taken_65 : decode cX6_taken 65 = .ok (.iload_n 1, 1) := by decide +kernel
theorem dX6_taken_66 : decode cX6_taken 66 = .ok (.iaload, 1) := by decide +kernel
theorem dX6_taken_67 : decode cX6_taken 67 = .ok (.goto 5, 3) := by decide +kernel
theorem dX6_taken_70 : decode cX6_taken 70 = .ok (.bipush (-13), 2) := by decide +kernel
theorem dX6_taken_72 : decode cX6_taken 72 = .ok (.ireturn, 1) := by decide +kernel
theorem dX6_taken_73 : decode cX6_taken 73 = .ok (.iload_n 2, 1) := by decide +kernel
theorem dX6_taken_74 : decode cX6_taken 74 = .ok (.bipush 10, 2) := by decide +kernel
theorem dX6_taken_76 : decode cX6_taken 76 = .ok (.if_icmp .ge 20, 3) := by decide +kernel
theorem dX6_taken_79 : decode cX6_taken 79 = .ok (.iload_n 3, 1) := by decide +kernel
theorem dX6_taken_80 : decode cX6_taken 80 = .ok (.iload_n 2, 1) := by decide +kernel
theorem dX6_taken_81 : decode cX6_taken 81 = .ok (.invokestatic 299, 3) := by decide +kernel
theorem dX6_taken_84 : decode cX6_taken 84 = .ok (.ifCond .eq 12, 3) := by decide +kernel
theorem dX6_taken_87 : decode cX6_taken 87 = .ok (.aload_n 0, 1) := by decide +kernel
theorem dX6_taken_88 : decode cX6_taken 88 = .ok (.getfield 44, 3) := by decide +kernel
theorem dX6_taken_91 : decode cX6_taken 91 = .ok (.iload_n 1, 1) := by decide +kernel
theorem dX6_taken_92 : decode cX6_taken 92 = .ok (.iaload, 1) := by decide +kernel
theorem dX6_taken_93 : decode cX6_taken 93 = .ok (.goto 5, 3) := by decide +kernel
theorem dX6_taken_96 : decode cX6_taken 96 = .ok (.bipush (-13), 2) := by decide +kernel
theorem dX6_taken_98 : decode cX6_taken 98 = .ok (.ireturn, 1) := by decide +kernel
def pc_X6_taken (i : Nat) : Nat := ([0, 7, 16, 27, 29, 39, 42, 48, 61, 70, 72, 73, 79, 87, 96, 98] : List Nat).getD i 0
set_option maxRecDepth 20000 in
theorem ob_X6_taken_0 {x : ip_Cx} {G : ip_Gl} {d : Nat} (X : ip_X x G tb 4 d 0 0 RX6 cX6_taken) (hr : x.2.2.2.2.2.2.2.2.1.sig.returnType = (some .int)) (hnm : x.2.2.2.2.2.2.2.2.1.name = "taken") : ip_okB x G 4 pc_X6_taken 0 ([oLdI 1, oCal (ip_call tb d) 0 0 202 1 0 0], tIf (fun a => a = 0) 3 1) := ⟨_, okC (ok_ildn X rfl dX6_taken_0)
  (okC (ok_calS X (i := 267) (e := en_202) rfl mt_202 rfl rfl rfl tw_1173 tw_1174 dX6_taken_1)
  (okN)), ok_ifeq X (by decide) rfl dX6_taken_4⟩
set_option maxRecDepth 20000 in
theorem ob_X6_taken_1 {x : ip_Cx} {G : ip_Gl} {d : Nat} (X : ip_X x G tb 4 d 0 0 RX6 cX6_taken) (hr : x.2.2.2.2.2.2.2.2.1.sig.returnType = (some .int)) (hnm : x.2.2.2.2.2.2.2.2.1.name = "taken") : ip_okB x G 4 pc_X6_taken 7 ([oLdI 2, oI (0), oI (5), oCal (ip_call tb d) 0 0 120 3 0 0], tIf (fun a => a = 0) 2 4) := ⟨_, okC (ok_ildn X rfl dX6_taken_7)
  (okC (ok_ic X (by decide) dX6_taken_8)
  (okC (ok_ic X (by decide) dX6_taken_9)
  (okC (ok_calS X (i := 57) (e := en_120) rfl mt_120 rfl rfl rfl tw_885 tw_886 dX6_taken_10)
  (okN)))), ok_ifne X (by decide) rfl dX6_taken_13⟩
set_option maxRecDepth 20000 in
theorem ob_X6_taken_2 {x : ip_Cx} {G : ip_Gl} {d : Nat} (X : ip_X x G tb 4 d 0 0 RX6 cX6_taken) (hr : x.2.2.2.2.2.2.2.2.1.sig.returnType = (some .int)) (hnm : x.2.2.2.2.2.2.2.2.1.name = "taken") : ip_okB x G 4 pc_X6_taken 16 ([oLdI 2, oI (10), oI (13), oCal (ip_call tb d) 0 0 120 3 0 0], tIf (fun a => a = 0) 3 4) := ⟨_, okC (ok_ildn X rfl dX6_taken_16)
  (okC (ok_bi X (by decide) dX6_taken_17)
  (okC (ok_bi X (by decide) dX6_taken_19)
  (okC (ok_calS X (i := 57) (e := en_120) rfl mt_120 rfl rfl rfl tw_885 tw_886 dX6_taken_21)
  (okN)))), ok_ifne X (by decide) rfl dX6_taken_24⟩
set_option maxRecDepth 20000 in
theorem ob_X6_taken_3 {x : ip_Cx} {G : ip_Gl} {d : Nat} (X : ip_X x G tb 4 d 0 0 RX6 cX6_taken) (hr : x.2.2.2.2.2.2.2.2.1.sig.returnType = (some .int)) (hnm : x.2.2.2.2.2.2.2.2.1.name = "taken") : ip_okB x G 4 pc_X6_taken 27 ([oI (-1)], tRI .int 0 0) := ⟨_, okC (ok_ic X (by decide) dX6_taken_27)
  (okN), ok_ret X hr dX6_taken_28⟩
set_option maxRecDepth 20000 in
theorem ob_X6_taken_4 {x : ip_Cx} {G : ip_Gl} {d : Nat} (X : ip_X x G tb 4 d 0 0 RX6 cX6_taken) (hr : x.2.2.2.2.2.2.2.2.1.sig.returnType = (some .int)) (hnm : x.2.2.2.2.2.2.2.2.1.name = "taken") : ip_okB x G 4 pc_X6_taken 29 ([oLdA 0, oLdI 1, oCaV (ip_call tb d) 0 0 6 209 2 0 0, oStI 3, oLdI 3], tIf (fun a => a < 0) 5 6) := ⟨_, okC (ok_aldn X rfl dX6_taken_29)
  (okC (ok_ildn X rfl dX6_taken_30)
  (okC (ok_calV X (i := 296) (e := en_209) rfl mt_209 rfl rfl rfl tw_1251 tw_1253 (Or.inl ⟨_, _, rfl⟩) tp_50 dX6_taken_31)
  (okC (ok_istn X rfl (by decide) dX6_taken_34)
  (okC (ok_ildn X rfl dX6_taken_35)
  (okN))))), ok_ifge X (by decide) rfl dX6_taken_36⟩
set_option maxRecDepth 20000 in
theorem ob_X6_taken_5 {x : ip_Cx} {G : ip_Gl} {d : Nat} (X : ip_X x G tb 4 d 0 0 RX6 cX6_taken) (hr : x.2.2.2.2.2.2.2.2.1.sig.returnType = (some .int)) (hnm : x.2.2.2.2.2.2.2.2.1.name = "taken") : ip_okB x G 4 pc_X6_taken 39 ([oI (-11)], tRI .int 0 0) := ⟨_, okC (ok_bi X (by decide) dX6_taken_39)
  (okN), ok_ret X hr dX6_taken_41⟩
set_option maxRecDepth 20000 in
theorem ob_X6_taken_6 {x : ip_Cx} {G : ip_Gl} {d : Nat} (X : ip_X x G tb 4 d 0 0 RX6 cX6_taken) (hr : x.2.2.2.2.2.2.2.2.1.sig.returnType = (some .int)) (hnm : x.2.2.2.2.2.2.2.2.1.name = "taken") : ip_okB x G 4 pc_X6_taken 42 ([oLdI 3, oI (9)], tCm (fun a b => a = b) 7 11) := ⟨_, okC (ok_ildn X rfl dX6_taken_42)
  (okC (ok_bi X (by decide) dX6_taken_43)
  (okN)), ok_cmne X (by decide) rfl dX6_taken_45⟩
set_option maxRecDepth 20000 in
theorem ob_X6_taken_7 {x : ip_Cx} {G : ip_Gl} {d : Nat} (X : ip_X x G tb 4 d 0 0 RX6 cX6_taken) (hr : x.2.2.2.2.2.2.2.2.1.sig.returnType = (some .int)) (hnm : x.2.2.2.2.2.2.2.2.1.name = "taken") : ip_okB x G 4 pc_X6_taken 48 ([oLdI 2, oI (10), oLdA 0, oGet 6 20, oLdI 1, oAldI, oBI (fun a b => a + b)], tCm (fun a b => a = b) 8 9) := ⟨_, okC (ok_ildn X rfl dX6_taken_48)
  (okC (ok_bi X (by decide) dX6_taken_49)
  (okC (ok_aldn X rfl dX6_taken_51)
  (okC (ok_get X (ci := 6) rfl (by decide) iw_X6 tw_815 dX6_taken_52)
  (okC (ok_ildn X rfl dX6_taken_55)
  (okC (ok_iald X dX6_taken_56)
  (okC (ok_iadd X dX6_taken_57)
  (okN))))))), ok_cmne X (by decide) rfl dX6_taken_58⟩
set_option maxRecDepth 20000 in
theorem ob_X6_taken_8 {x : ip_Cx} {G : ip_Gl} {d : Nat} (X : ip_X x G tb 4 d 0 0 RX6 cX6_taken) (hr : x.2.2.2.2.2.2.2.2.1.sig.returnType = (some .int)) (hnm : x.2.2.2.2.2.2.2.2.1.name = "taken") : ip_okB x G 4 pc_X6_taken 61 ([oLdA 0, oGet 6 21, oLdI 1, oAldI], tGo 10) := ⟨_, okC (ok_aldn X rfl dX6_taken_61)
  (okC (ok_get X (ci := 6) rfl (by decide) iw_X6 tw_816 dX6_taken_62)
  (okC (ok_ildn X rfl dX6_taken_65)
  (okC (ok_iald X dX6_taken_66)
  (okN)))), ok_go X (by decide) dX6_taken_67⟩
set_option maxRecDepth 20000 in
theorem ob_X6_taken_9 {x : ip_Cx} {G : ip_Gl} {d : Nat} (X : ip_X x G tb 4 d 0 0 RX6 cX6_taken) (hr : x.2.2.2.2.2.2.2.2.1.sig.returnType = (some .int)) (hnm : x.2.2.2.2.2.2.2.2.1.name = "taken") : ip_okB x G 4 pc_X6_taken 70 ([oI (-13)], tGo 10) := ⟨_, okC (ok_bi X (by decide) dX6_taken_70)
  (okN), ok_fall rfl⟩
set_option maxRecDepth 20000 in
theorem ob_X6_taken_10 {x : ip_Cx} {G : ip_Gl} {d : Nat} (X : ip_X x G tb 4 d 0 0 RX6 cX6_taken) (hr : x.2.2.2.2.2.2.2.2.1.sig.returnType = (some .int)) (hnm : x.2.2.2.2.2.2.2.2.1.name = "taken") : ip_okB x G 4 pc_X6_taken 72 ([], tRI .int 0 0) := ⟨_, okN, ok_ret X hr dX6_taken_72⟩
set_option maxRecDepth 20000 in
theorem ob_X6_taken_11 {x : ip_Cx} {G : ip_Gl} {d : Nat} (X : ip_X x G tb 4 d 0 0 RX6 cX6_taken) (hr : x.2.2.2.2.2.2.2.2.1.sig.returnType = (some .int)) (hnm : x.2.2.2.2.2.2.2.2.1.name = "taken") : ip_okB x G 4 pc_X6_taken 73 ([oLdI 2, oI (10)], tCm (fun a b => a < b) 12 14) := ⟨_, okC (ok_ildn X rfl dX6_taken_73)
  (okC (ok_bi X (by decide) dX6_taken_74)
  (okN)), ok_cmge X (by decide) rfl dX6_taken_76⟩
set_option maxRecDepth 20000 in
theorem ob_X6_taken_12 {x : ip_Cx} {G : ip_Gl} {d : Nat} (X : ip_X x G tb 4 d 0 0 RX6 cX6_taken) (hr : x.2.2.2.2.2.2.2.2.1.sig.returnType = (some .int)) (hnm : x.2.2.2.2.2.2.2.2.1.name = "taken") : ip_okB x G 4 pc_X6_taken 79 ([oLdI 3, oLdI 2, oCal (ip_call tb d) 0 0 210 2 0 0], tIf (fun a => a = 0) 14 13) := ⟨_, okC (ok_ildn X rfl dX6_taken_79)
  (okC (ok_ildn X rfl dX6_taken_80)
  (okC (ok_calS X (i := 299) (e := en_210) rfl mt_210 rfl rfl rfl tw_1255 tw_1256 dX6_taken_81)
  (okN))), ok_ifeq X (by decide) rfl dX6_taken_84⟩
set_option maxRecDepth 20000 in
theorem ob_X6_taken_13 {x : ip_Cx} {G : ip_Gl} {d : Nat} (X : ip_X x G tb 4 d 0 0 RX6 cX6_taken) (hr : x.2.2.2.2.2.2.2.2.1.sig.returnType = (some .int)) (hnm : x.2.2.2.2.2.2.2.2.1.name = "taken") : ip_okB x G 4 pc_X6_taken 87 ([oLdA 0, oGet 6 20, oLdI 1, oAldI], tGo 15) := ⟨_, okC (ok_aldn X rfl dX6_taken_87)
  (okC (ok_get X (ci := 6) rfl (by decide) iw_X6 tw_815 dX6_taken_88)
  (okC (ok_ildn X rfl dX6_taken_91)
  (okC (ok_iald X dX6_taken_92)
  (okN)))), ok_go X (by decide) dX6_taken_93⟩
set_option maxRecDepth 20000 in
theorem ob_X6_taken_14 {x : ip_Cx} {G : ip_Gl} {d : Nat} (X : ip_X x G tb 4 d 0 0 RX6 cX6_taken) (hr : x.2.2.2.2.2.2.2.2.1.sig.returnType = (some .int)) (hnm : x.2.2.2.2.2.2.2.2.1.name = "taken") : ip_okB x G 4 pc_X6_taken 96 ([oI (-13)], tGo 15) := ⟨_, okC (ok_bi X (by decide) dX6_taken_96)
  (okN), ok_fall rfl⟩
set_option maxRecDepth 20000 in
theorem ob_X6_taken_15 {x : ip_Cx} {G : ip_Gl} {d : Nat} (X : ip_X x G tb 4 d 0 0 RX6 cX6_taken) (hr : x.2.2.2.2.2.2.2.2.1.sig.returnType = (some .int)) (hnm : x.2.2.2.2.2.2.2.2.1.name = "taken") : ip_okB x G 4 pc_X6_taken 98 ([], tRI .int 0 0) := ⟨_, okN, ok_ret X hr dX6_taken_98⟩
theorem om_211 : ip_MOk tb en_211 pc_X6_taken := fun x G d X hr hnm => ⟨ob_X6_taken_0 X hr hnm, ⟨ob_X6_taken_1 X hr hnm, ⟨ob_X6_taken_2 X hr hnm, ⟨ob_X6_taken_3 X hr hnm, ⟨ob_X6_taken_4 X hr hnm, ⟨ob_X6_taken_5 X hr hnm, ⟨ob_X6_taken_6 X hr hnm, ⟨ob_X6_taken_7 X hr hnm, ⟨ob_X6_taken_8 X hr hnm, ⟨ob_X6_taken_9 X hr hnm, ⟨ob_X6_taken_10 X hr hnm, ⟨ob_X6_taken_11 X hr hnm, ⟨ob_X6_taken_12 X hr hnm, ⟨ob_X6_taken_13 X hr hnm, ⟨ob_X6_taken_14 X hr hnm, ⟨ob_X6_taken_15 X hr hnm, trivial⟩⟩⟩⟩⟩⟩⟩⟩⟩⟩⟩⟩⟩⟩⟩⟩
theorem dX6_ran_0 : decode cX6_ran 0 = .ok (.aload_n 0, 1) := by decide +kernel
theorem dX6_ran_1 : decode cX6_ran 1 = .ok (.getfield 302, 3) := by decide +kernel
theorem dX6_ran_4 : decode cX6_ran 4 = .ok (.bipush 30, 2) := by decide +kernel
theorem dX6_ran_6 : decode cX6_ran 6 = .ok (.if_icmp .ge 23, 3) := by decide +kernel
theorem dX6_ran_9 : decode cX6_ran 9 = .ok (.aload_n 0, 1) := by decide +kernel
theorem dX6_ran_10 : decode cX6_ran 10 = .ok (.getfield 50, 3) := by decide +kernel
theorem dX6_ran_13 : decode cX6_ran 13 = .ok (.aload_n 0, 1) := by decide +kernel
theorem dX6_ran_14 : decode cX6_ran 14 = .ok (.getfield 302, 3) := by decide +kernel
theorem dX6_ran_17 : decode cX6_ran 17 = .ok (.iload_n 1, 1) := by decide +kernel
theorem dX6_ran_18 : decode cX6_ran 18 = .ok (.iastore, 1) := by decide +kernel
theorem dX6_ran_19 : decode cX6_ran 19 = .ok (.aload_n 0, 1) := by decide +kernel
theorem dX6_ran_20 : decode cX6_ran 20 = .ok (.dup, 1) := by decide +kernel
theorem dX6_ran_21 : decode cX6_ran 21 = .ok (.getfield 302, 3) := by decide +kernel
theorem dX6_ran_24 : decode cX6_ran 24 = .ok (.iconst 1, 1) := by decide +kernel
theorem dX6_ran_25 : decode cX6_ran 25 = .ok (.iadd, 1) := by decide +kernel
theorem dX6_ran_26 : decode cX6_ran 26 = .ok (.putfield 302, 3) := by decide +kernel
theorem dX6_ran_29 : decode cX6_ran 29 = .ok (.return_, 1) := by decide +kernel
def pc_X6_ran (i : Nat) : Nat := ([0, 9, 29] : List Nat).getD i 0
set_option maxRecDepth 20000 in
theorem ob_X6_ran_0 {x : ip_Cx} {G : ip_Gl} {d : Nat} (X : ip_X x G tb 2 d 0 0 RX6 cX6_ran) (hr : x.2.2.2.2.2.2.2.2.1.sig.returnType = none) (hnm : x.2.2.2.2.2.2.2.2.1.name = "ran") : ip_okB x G 2 pc_X6_ran 0 ([oLdA 0, oGet 6 26, oI (30)], tCm (fun a b => a < b) 1 2) := ⟨_, okC (ok_aldn X rfl dX6_ran_0)
  (okC (ok_get X (ci := 6) rfl (by decide) iw_X6 tw_821 dX6_ran_1)
  (okC (ok_bi X (by decide) dX6_ran_4)
  (okN))), ok_cmge X (by decide) rfl dX6_ran_6⟩
set_option maxRecDepth 20000 in
theorem ob_X6_ran_1 {x : ip_Cx} {G : ip_Gl} {d : Nat} (X : ip_X x G tb 2 d 0 0 RX6 cX6_ran) (hr : x.2.2.2.2.2.2.2.2.1.sig.returnType = none) (hnm : x.2.2.2.2.2.2.2.2.1.name = "ran") : ip_okB x G 2 pc_X6_ran 9 ([oLdA 0, oGet 6 25, oLdA 0, oGet 6 26, oLdI 1, oAstI, oLdA 0, oDup, oGet 6 26, oI (1), oBI (fun a b => a + b), oPut 6 26 .int], tGo 2) := ⟨_, okC (ok_aldn X rfl dX6_ran_9)
  (okC (ok_get X (ci := 6) rfl (by decide) iw_X6 tw_820 dX6_ran_10)
  (okC (ok_aldn X rfl dX6_ran_13)
  (okC (ok_get X (ci := 6) rfl (by decide) iw_X6 tw_821 dX6_ran_14)
  (okC (ok_ildn X rfl dX6_ran_17)
  (okC (ok_iast X dX6_ran_18)
  (okC (ok_aldn X rfl dX6_ran_19)
  (okC (ok_dup X dX6_ran_20)
  (okC (ok_get X (ci := 6) rfl (by decide) iw_X6 tw_821 dX6_ran_21)
  (okC (ok_ic X (by decide) dX6_ran_24)
  (okC (ok_iadd X dX6_ran_25)
  (okC (ok_put X (ci := 6) rfl (by decide) iw_X6 tyX6_ok nmX6 rfl (Or.inl rfl) tw_821 dX6_ran_26)
  (okN)))))))))))), ok_fall rfl⟩
set_option maxRecDepth 20000 in
theorem ob_X6_ran_2 {x : ip_Cx} {G : ip_Gl} {d : Nat} (X : ip_X x G tb 2 d 0 0 RX6 cX6_ran) (hr : x.2.2.2.2.2.2.2.2.1.sig.returnType = none) (hnm : x.2.2.2.2.2.2.2.2.1.name = "ran") : ip_okB x G 2 pc_X6_ran 29 ([], tRV 0 0) := ⟨_, okN, ok_vret X hr dX6_ran_29⟩
theorem om_212 : ip_MOk tb en_212 pc_X6_ran := fun x G d X hr hnm => ⟨ob_X6_ran_0 X hr hnm, ⟨ob_X6_ran_1 X hr hnm, ⟨ob_X6_ran_2 X hr hnm, trivial⟩⟩⟩
theorem dX6_plainLeans_0 : decode cX6_plainLeans 0 = .ok (.aload_n 0, 1) := by decide +kernel
theorem dX6_plainLeans_1 : decode cX6_plainLeans 1 = .ok (.bipush 10, 2) := by decide +kernel
theorem dX6_plainLeans_3 : decode cX6_plainLeans 3 = .ok (.invokevirtual 305, 3) := by decide +kernel
theorem dX6_plainLeans_6 : decode cX6_plainLeans 6 = .ok (.iload_n 1, 1) := by decide +kernel
theorem dX6_plainLeans_7 : decode cX6_plainLeans 7 = .ok (.bipush 8, 2) := by decide +kernel
theorem dX6_plainLeans_9 : decode cX6_plainLeans 9 = .ok (.imul, 1) := by decide +kernel
theorem dX6_plainLeans_10 : decode cX6_plainLeans 10 = .ok (.aload_n 0, 1) := by decide +kernel
theorem dX6_plainLeans_11 : decode cX6_plainLeans 11 = .ok (.getfield 308, 3) := by decide +kernel
theorem dX6_plainLeans_14 : decode cX6_plainLeans 14 = .ok (.isub, 1) := by decide +kernel
theorem dX6_plainLeans_15 : decode cX6_plainLeans 15 = .ok (.ireturn, 1) := by decide +kernel
def pc_X6_plainLeans (i : Nat) : Nat := ([0] : List Nat).getD i 0
set_option maxRecDepth 20000 in
theorem ob_X6_plainLeans_0 {x : ip_Cx} {G : ip_Gl} {d : Nat} (X : ip_X x G tb 2 d 0 0 RX6 cX6_plainLeans) (hr : x.2.2.2.2.2.2.2.2.1.sig.returnType = (some .int)) (hnm : x.2.2.2.2.2.2.2.2.1.name = "plainLeans") : ip_okB x G 2 pc_X6_plainLeans 0 ([oLdA 0, oI (10), oCaV (ip_call tb d) 0 0 6 212 2 0 0, oLdI 1, oI (8), oBI (fun a b => a * b), oLdA 0, oGet 6 23, oBI (fun a b => a - b)], tRI .int 0 0) := ⟨_, okC (ok_aldn X rfl dX6_plainLeans_0)
  (okC (ok_bi X (by decide) dX6_plainLeans_1)
  (okC (ok_calV X (i := 305) (e := en_212) rfl mt_212 rfl rfl rfl tw_1270 tw_1272 (Or.inl ⟨_, _, rfl⟩) tp_53 dX6_plainLeans_3)
  (okC (ok_ildn X rfl dX6_plainLeans_6)
  (okC (ok_bi X (by decide) dX6_plainLeans_7)
  (okC (ok_imul X dX6_plainLeans_9)
  (okC (ok_aldn X rfl dX6_plainLeans_10)
  (okC (ok_get X (ci := 6) rfl (by decide) iw_X6 tw_818 dX6_plainLeans_11)
  (okC (ok_isub X dX6_plainLeans_14)
  (okN))))))))), ok_ret X hr dX6_plainLeans_15⟩
theorem om_213 : ip_MOk tb en_213 pc_X6_plainLeans := fun x G d X hr hnm => ⟨ob_X6_plainLeans_0 X hr hnm, trivial⟩
theorem dX6_childLeans_0 : decode cX6_childLeans 0 = .ok (.aload_n 0, 1) := by decide +kernel
theorem dX6_childLeans_1 : decode cX6_childLeans 1 = .ok (.bipush 30, 2) := by decide +kernel
theorem dX6_childLeans_3 : decode cX6_childLeans 3 = .ok (.invokevirtual 305, 3) := by decide +kernel
theorem dX6_childLeans_6 : decode cX6_childLeans 6 = .ok (.aload_n 0, 1) := by decide +kernel
theorem dX6_childLeans_7 : decode cX6_childLeans 7 = .ok (.iload_n 1, 1) := by decide +kernel
theorem dX6_childLeans_8 : decode cX6_childLeans 8 = .ok (.invokevirtual 311, 3) := by decide +kernel
theorem dX6_childLeans_11 : decode cX6_childLeans 11 = .ok (.bipush 7, 2) := by decide +kernel
theorem dX6_childLeans_13 : decode cX6_childLeans 13 = .ok (.iadd, 1) := by decide +kernel
theorem dX6_childLeans_14 : decode cX6_childLeans 14 = .ok (.ireturn, 1) := by decide +kernel
def pc_X6_childLeans (i : Nat) : Nat := ([0] : List Nat).getD i 0
set_option maxRecDepth 20000 in
theorem ob_X6_childLeans_0 {x : ip_Cx} {G : ip_Gl} {d : Nat} (X : ip_X x G tb 2 d 0 0 RX6 cX6_childLeans) (hr : x.2.2.2.2.2.2.2.2.1.sig.returnType = (some .int)) (hnm : x.2.2.2.2.2.2.2.2.1.name = "childLeans") : ip_okB x G 2 pc_X6_childLeans 0 ([oLdA 0, oI (30), oCaV (ip_call tb d) 0 0 6 212 2 0 0, oLdA 0, oLdI 1, oCaV (ip_call tb d) 0 0 6 213 2 0 0, oI (7), oBI (fun a b => a + b)], tRI .int 0 0) := ⟨_, okC (ok_aldn X rfl dX6_childLeans_0)
  (okC (ok_bi X (by decide) dX6_childLeans_1)
  (okC (ok_calV X (i := 305) (e := en_212) rfl mt_212 rfl rfl rfl tw_1270 tw_1272 (Or.inl ⟨_, _, rfl⟩) tp_53 dX6_childLeans_3)
  (okC (ok_aldn X rfl dX6_childLeans_6)
  (okC (ok_ildn X rfl dX6_childLeans_7)
  (okC (ok_calV X (i := 311) (e := en_213) rfl mt_213 rfl rfl rfl tw_1274 tw_1276 (Or.inl ⟨_, _, rfl⟩) tp_54 dX6_childLeans_8)
  (okC (ok_bi X (by decide) dX6_childLeans_11)
  (okC (ok_iadd X dX6_childLeans_13)
  (okN)))))))), ok_ret X hr dX6_childLeans_14⟩
theorem om_214 : ip_MOk tb en_214 pc_X6_childLeans := fun x G d X hr hnm => ⟨ob_X6_childLeans_0 X hr hnm, trivial⟩
theorem dX6_leansIt_0 : decode cX6_leansIt 0 = .ok (.aload_n 0, 1) := by decide +kernel
theorem dX6_leansIt_1 : decode cX6_leansIt 1 = .ok (.getfield 314, 3) := by decide +kernel
theorem dX6_leansIt_4 : decode cX6_leansIt 4 = .ok (.tableswitch 62 2 4 #[28, 48, 34], 28) := by decide +kernel
theorem dX6_leansIt_32 : decode cX6_leansIt 32 = .ok (.aload_n 0, 1) := by decide +kernel
theorem dX6_leansIt_33 : decode cX6_leansIt 33 = .ok (.iload_n 1, 1) := by decide +kernel
theorem dX6_leansIt_34 : decode cX6_leansIt 34 = .ok (.invokevirtual 317, 3) := by decide +kernel
theorem dX6_leansIt_37 : decode cX6_leansIt 37 = .ok (.ireturn, 1) := by decide +kernel
theorem dX6_leansIt_38 : decode cX6_leansIt 38 = .ok (.aload_n 0, 1) := by decide +kernel
theorem dX6_leansIt_39 : decode cX6_leansIt 39 = .ok (.bipush 40, 2) := by decide +kernel
theorem dX6_leansIt_41 : decode cX6_leansIt 41 = .ok (.invokevirtual 305, 3) := by decide +kernel
theorem dX6_leansIt_44 : decode cX6_leansIt 44 = .ok (.aload_n 0, 1) := by decide +kernel
theorem dX6_leansIt_45 : decode cX6_leansIt 45 = .ok (.iload_n 1, 1) := by decide +kernel
theorem dX6_leansIt_46 : decode cX6_leansIt 46 = .ok (.invokevirtual 317, 3) := by decide +kernel
theorem dX6_leansIt_49 : decode cX6_leansIt 49 = .ok (.iconst 2, 1) := by decide +kernel
theorem dX6_leansIt_50 : decode cX6_leansIt 50 = .ok (.imul, 1) := by decide +kernel
theorem dX6_leansIt_51 : decode cX6_leansIt 51 = .ok (.ireturn, 1) := by decide +kernel
theorem dX6_leansIt_52 : decode cX6_leansIt 52 = .ok (.aload_n 0, 1) := by decide +kernel
theorem dX6_leansIt_53 : decode cX6_leansIt 53 = .ok (.bipush 51, 2) := by decide +kernel
theorem dX6_leansIt_55 : decode cX6_leansIt 55 = .ok (.invokevirtual 305, 3) := by decide +kernel
theorem dX6_leansIt_58 : decode cX6_leansIt 58 = .ok (.aload_n 0, 1) := by decide +kernel
theorem dX6_leansIt_59 : decode cX6_leansIt 59 = .ok (.iload_n 1, 1) := by decide +kernel
theorem dX6_leansIt_60 : decode cX6_leansIt 60 = .ok (.invokevirtual 311, 3) := by decide +kernel
theorem dX6_leansIt_63 : decode cX6_leansIt 63 = .ok (.iconst 3, 1) := by decide +kernel
theorem dX6_leansIt_64 : decode cX6_leansIt 64 = .ok (.ixor, 1) := by decide +kernel
theorem dX6_leansIt_65 : decode cX6_leansIt 65 = .ok (.ireturn, 1) := by decide +kernel
theorem dX6_leansIt_66 : decode cX6_leansIt 66 = .ok (.aload_n 0, 1) := by decide +kernel
theorem dX6_leansIt_67 : decode cX6_leansIt 67 = .ok (.iload_n 1, 1) := by decide +kernel
theorem dX6_leansIt_68 : decode cX6_leansIt 68 = .ok (.invokevirtual 311, 3) := by decide +kernel
theorem dX6_leansIt_71 : decode cX6_leansIt 71 = .ok (.ireturn, 1) := by decide +kernel
def pc_X6_leansIt (i : Nat) : Nat := ([0, 32, 38, 52, 66] : List Nat).getD i 0
set_option maxRecDepth 20000 in
theorem ob_X6_leansIt_0 {x : ip_Cx} {G : ip_Gl} {d : Nat} (X : ip_X x G tb 2 d 0 0 RX6 cX6_leansIt) (hr : x.2.2.2.2.2.2.2.2.1.sig.returnType = (some .int)) (hnm : x.2.2.2.2.2.2.2.2.1.name = "leansIt") : ip_okB x G 2 pc_X6_leansIt 0 ([oLdA 0, oGet 6 22], tSw [(2, 1), (3, 3), (4, 2)] 4) := ⟨_, okC (ok_aldn X rfl dX6_leansIt_0)
  (okC (ok_get X (ci := 6) rfl (by decide) iw_X6 tw_817 dX6_leansIt_1)
  (okN)), ok_tsw X (by decide) (by decide +kernel) (by decide) dX6_leansIt_4⟩
set_option maxRecDepth 20000 in
theorem ob_X6_leansIt_1 {x : ip_Cx} {G : ip_Gl} {d : Nat} (X : ip_X x G tb 2 d 0 0 RX6 cX6_leansIt) (hr : x.2.2.2.2.2.2.2.2.1.sig.returnType = (some .int)) (hnm : x.2.2.2.2.2.2.2.2.1.name = "leansIt") : ip_okB x G 2 pc_X6_leansIt 32 ([oLdA 0, oLdI 1, oCaV (ip_call tb d) 0 0 6 214 2 0 0], tRI .int 0 0) := ⟨_, okC (ok_aldn X rfl dX6_leansIt_32)
  (okC (ok_ildn X rfl dX6_leansIt_33)
  (okC (ok_calV X (i := 317) (e := en_214) rfl mt_214 rfl rfl rfl tw_1266 tw_1268 (Or.inl ⟨_, _, rfl⟩) tp_52 dX6_leansIt_34)
  (okN))), ok_ret X hr dX6_leansIt_37⟩
set_option maxRecDepth 20000 in
theorem ob_X6_leansIt_2 {x : ip_Cx} {G : ip_Gl} {d : Nat} (X : ip_X x G tb 2 d 0 0 RX6 cX6_leansIt) (hr : x.2.2.2.2.2.2.2.2.1.sig.returnType = (some .int)) (hnm : x.2.2.2.2.2.2.2.2.1.name = "leansIt") : ip_okB x G 2 pc_X6_leansIt 38 ([oLdA 0, oI (40), oCaV (ip_call tb d) 0 0 6 212 2 0 0, oLdA 0, oLdI 1, oCaV (ip_call tb d) 0 0 6 214 2 0 0, oI (2), oBI (fun a b => a * b)], tRI .int 0 0) := ⟨_, okC (ok_aldn X rfl dX6_leansIt_38)
  (okC (ok_bi X (by decide) dX6_leansIt_39)
  (okC (ok_calV X (i := 305) (e := en_212) rfl mt_212 rfl rfl rfl tw_1270 tw_1272 (Or.inl ⟨_, _, rfl⟩) tp_53 dX6_leansIt_41)
  (okC (ok_aldn X rfl dX6_leansIt_44)
  (okC (ok_ildn X rfl dX6_leansIt_45)
  (okC (ok_calV X (i := 317) (e := en_214) rfl mt_214 rfl rfl rfl tw_1266 tw_1268 (Or.inl ⟨_, _, rfl⟩) tp_52 dX6_leansIt_46)
  (okC (ok_ic X (by decide) dX6_leansIt_49)
  (okC (ok_imul X dX6_leansIt_50)
  (okN)))))))), ok_ret X hr dX6_leansIt_51⟩
set_option maxRecDepth 20000 in
theorem ob_X6_leansIt_3 {x : ip_Cx} {G : ip_Gl} {d : Nat} (X : ip_X x G tb 2 d 0 0 RX6 cX6_leansIt) (hr : x.2.2.2.2.2.2.2.2.1.sig.returnType = (some .int)) (hnm : x.2.2.2.2.2.2.2.2.1.name = "leansIt") : ip_okB x G 2 pc_X6_leansIt 52 ([oLdA 0, oI (51), oCaV (ip_call tb d) 0 0 6 212 2 0 0, oLdA 0, oLdI 1, oCaV (ip_call tb d) 0 0 6 213 2 0 0, oI (3), oBI (fun a b => a ^^^ b)], tRI .int 0 0) := ⟨_, okC (ok_aldn X rfl dX6_leansIt_52)
  (okC (ok_bi X (by decide) dX6_leansIt_53)
  (okC (ok_calV X (i := 305) (e := en_212) rfl mt_212 rfl rfl rfl tw_1270 tw_1272 (Or.inl ⟨_, _, rfl⟩) tp_53 dX6_leansIt_55)
  (okC (ok_aldn X rfl dX6_leansIt_58)
  (okC (ok_ildn X rfl dX6_leansIt_59)
  (okC (ok_calV X (i := 311) (e := en_213) rfl mt_213 rfl rfl rfl tw_1274 tw_1276 (Or.inl ⟨_, _, rfl⟩) tp_54 dX6_leansIt_60)
  (okC (ok_ic X (by decide) dX6_leansIt_63)
  (okC (ok_ixor X dX6_leansIt_64)
  (okN)))))))), ok_ret X hr dX6_leansIt_65⟩
set_option maxRecDepth 20000 in
theorem ob_X6_leansIt_4 {x : ip_Cx} {G : ip_Gl} {d : Nat} (X : ip_X x G tb 2 d 0 0 RX6 cX6_leansIt) (hr : x.2.2.2.2.2.2.2.2.1.sig.returnType = (some .int)) (hnm : x.2.2.2.2.2.2.2.2.1.name = "leansIt") : ip_okB x G 2 pc_X6_leansIt 66 ([oLdA 0, oLdI 1, oCaV (ip_call tb d) 0 0 6 213 2 0 0], tRI .int 0 0) := ⟨_, okC (ok_aldn X rfl dX6_leansIt_66)
  (okC (ok_ildn X rfl dX6_leansIt_67)
  (okC (ok_calV X (i := 311) (e := en_213) rfl mt_213 rfl rfl rfl tw_1274 tw_1276 (Or.inl ⟨_, _, rfl⟩) tp_54 dX6_leansIt_68)
  (okN))), ok_ret X hr dX6_leansIt_71⟩
theorem om_215 : ip_MOk tb en_215 pc_X6_leansIt := fun x G d X hr hnm => ⟨ob_X6_leansIt_0 X hr hnm, ⟨ob_X6_leansIt_1 X hr hnm, ⟨ob_X6_leansIt_2 X hr hnm, ⟨ob_X6_leansIt_3 X hr hnm, ⟨ob_X6_leansIt_4 X hr hnm, trivial⟩⟩⟩⟩⟩
