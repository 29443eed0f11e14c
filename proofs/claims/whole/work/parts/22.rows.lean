theorem dX6_walker_0 : decode cX6_walker 0 = .ok (.iload_n 1, 1) := by decide +kernel
theorem dX6_walker_1 : decode cX6_walker 1 = .ok (.iload_n 2, 1) := by decide +kernel
theorem dX6_walker_2 : decode cX6_walker 2 = .ok (.invokestatic 184, 3) := by decide +kernel
theorem dX6_walker_5 : decode cX6_walker 5 = .ok (.ifCond .ne 5, 3) := by decide +kernel
theorem dX6_walker_8 : decode cX6_walker 8 = .ok (.iconst (-1), 1) := by decide +kernel
theorem dX6_walker_9 : decode cX6_walker 9 = .ok (.ireturn, 1) := by decide +kernel
theorem dX6_walker_10 : decode cX6_walker 10 = .ok (.aload_n 0, 1) := by decide +kernel
theorem dX6_walker_11 : decode cX6_walker 11 = .ok (.getfield 7, 3) := by decide +kernel
theorem dX6_walker_14 : decode cX6_walker 14 = .ok (.bipush 6, 2) := by decide +kernel
theorem dX6_walker_16 : decode cX6_walker 16 = .ok (.iaload, 1) := by decide +kernel
theorem dX6_walker_17 : decode cX6_walker 17 = .ok (.bipush 8, 2) := by decide +kernel
theorem dX6_walker_19 : decode cX6_walker 19 = .ok (.if_icmp .ne 6, 3) := by decide +kernel
theorem dX6_walker_22 : decode cX6_walker 22 = .ok (.bipush (-2), 2) := by decide +kernel
theorem dX6_walker_24 : decode cX6_walker 24 = .ok (.ireturn, 1) := by decide +kernel
theorem dX6_walker_25 : decode cX6_walker 25 = .ok (.aload_n 0, 1) := by decide +kernel
theorem dX6_walker_26 : decode cX6_walker 26 = .ok (.getfield 7, 3) := by decide +kernel
theorem dX6_walker_29 : decode cX6_walker 29 = .ok (.bipush 6, 2) := by decide +kernel
theorem dX6_walker_31 : decode cX6_walker 31 = .ok (.iaload, 1) := by decide +kernel
theorem dX6_walker_32 : decode cX6_walker 32 = .ok (.istore_n 3, 1) := by decide +kernel
theorem dX6_walker_33 : decode cX6_walker 33 = .ok (.iconst 0, 1) := by decide +kernel
theorem dX6_walker_34 : decode cX6_walker 34 = .ok (.istore 4, 2) := by decide +kernel
theorem dX6_walker_36 : decode cX6_walker 36 = .ok (.iload 4, 2) := by decide +kernel
theorem dX6_walker_38 : decode cX6_walker 38 = .ok (.bipush 6, 2) := by decide +kernel
theorem dX6_walker_40 : decode cX6_walker 40 = .ok (.if_icmp .ge 17, 3) := by decide +kernel
theorem dX6_walker_43 : decode cX6_walker 43 = .ok (.aload_n 0, 1) := by decide +kernel
theorem dX6_walker_44 : decode cX6_walker 44 = .ok (.iload_n 3, 1) := by decide +kernel
theorem dX6_walker_45 : decode cX6_walker 45 = .ok (.iload 4, 2) := by decide +kernel
theorem dX6_walker_47 : decode cX6_walker 47 = .ok (.iconst 0, 1) := by decide +kernel
theorem dX6_walker_48 : decode cX6_walker 48 = .ok (.invokevirtual 188, 3) := by decide +kernel
theorem dX6_walker_51 : decode cX6_walker 51 = .ok (.iinc 4 1, 3) := by decide +kernel
theorem dX6_walker_54 : decode cX6_walker 54 = .ok (.goto (-18), 3) := by decide +kernel
theorem dX6_walker_57 : decode cX6_walker 57 = .ok (.aload_n 0, 1) := by decide +kernel
theorem dX6_walker_58 : decode cX6_walker 58 = .ok (.iload_n 3, 1) := by decide +kernel
theorem dX6_walker_59 : decode cX6_walker 59 = .ok (.iconst 0, 1) := by decide +kernel
theorem dX6_walker_60 : decode cX6_walker 60 = .ok (.iload_n 1, 1) := by decide +kernel
theorem dX6_walker_61 : decode cX6_walker 61 = .ok (.invokevirtual 188, 3) := by decide +kernel
theorem dX6_walker_64 : decode cX6_walker 64 = .ok (.aload_n 0, 1) := by decide +kernel
theorem dX6_walker_65 : decode cX6_walker 65 = .ok (.iload_n 3, 1) := by decide +kernel
theorem dX6_walker_66 : decode cX6_walker 66 = .ok (.iconst 1, 1) := by decide +kernel
theorem dX6_walker_67 : decode cX6_walker 67 = .ok (.iload_n 2, 1) := by decide +kernel
theorem dX6_walker_68 : decode cX6_walker 68 = .ok (.invokevirtual 188, 3) := by decide +kernel
theorem dX6_walker_71 : decode cX6_walker 71 = .ok (.aload_n 0, 1) := by decide +kernel
theorem dX6_walker_72 : decode cX6_walker 72 = .ok (.getfield 7, 3) := by decide +kernel
theorem dX6_walker_75 : decode cX6_walker 75 = .ok (.bipush 6, 2) := by decide +kernel
theorem dX6_walker_77 : decode cX6_walker 77 = .ok (.dup2, 1) := by decide +kernel
theorem dX6_walker_78 : decode cX6_walker 78 = .ok (.iaload, 1) := by decide +kernel
theorem dX6_walker_79 : decode cX6_walker 79 = .ok (.iconst 1, 1) := by decide +kernel
theorem dX6_walker_80 : decode cX6_walker 80 = .ok (.iadd, 1) := by decide +kernel
theorem dX6_walker_81 : decode cX6_walker 81 = .ok (.iastore, 1) := by decide +kernel
theorem dX6_walker_82 : decode cX6_walker 82 = .ok (.iload_n 3, 1) := by decide +kernel
theorem dX6_walker_83 : decode cX6_walker 83 = .ok (.ireturn, 1) := by decide +kernel
def pc_X6_walker (i : Nat) : Nat := ([0, 8, 10, 22, 25, 36, 43, 57] : List Nat).getD i 0
set_option maxRecDepth 20000 in
theorem ob_X6_walker_0 {x : ip_Cx} {G : ip_Gl} {d : Nat} (X : ip_X x G tb 5 d 0 0 RX6 cX6_walker) (hr : x.2.2.2.2.2.2.2.2.1.sig.returnType = (some .int)) (hnm : x.2.2.2.2.2.2.2.2.1.name = "walker") : ip_okB x G 5 pc_X6_walker 0 ([oLdI 1, oLdI 2, oCal (ip_call tb d) 0 0 148 2 0 0], tIf (fun a => a = 0) 1 2) := ⟨_, okC (ok_ildn X rfl dX6_walker_0)
  (okC (ok_ildn X rfl dX6_walker_1)
  (okC (ok_calS X (i := 184) (e := en_148) rfl mt_148 rfl rfl rfl tw_991 tw_992 dX6_walker_2)
  (okN))), ok_ifne X (by decide) rfl dX6_walker_5⟩
set_option maxRecDepth 20000 in
theorem ob_X6_walker_1 {x : ip_Cx} {G : ip_Gl} {d : Nat} (X : ip_X x G tb 5 d 0 0 RX6 cX6_walker) (hr : x.2.2.2.2.2.2.2.2.1.sig.returnType = (some .int)) (hnm : x.2.2.2.2.2.2.2.2.1.name = "walker") : ip_okB x G 5 pc_X6_walker 8 ([oI (-1)], tRI .int 0 0) := ⟨_, okC (ok_ic X (by decide) dX6_walker_8)
  (okN), ok_ret X hr dX6_walker_9⟩
set_option maxRecDepth 20000 in
theorem ob_X6_walker_2 {x : ip_Cx} {G : ip_Gl} {d : Nat} (X : ip_X x G tb 5 d 0 0 RX6 cX6_walker) (hr : x.2.2.2.2.2.2.2.2.1.sig.returnType = (some .int)) (hnm : x.2.2.2.2.2.2.2.2.1.name = "walker") : ip_okB x G 5 pc_X6_walker 10 ([oLdA 0, oGet 6 0, oI (6), oAldI, oI (8)], tCm (fun a b => a = b) 3 4) := ⟨_, okC (ok_aldn X rfl dX6_walker_10)
  (okC (ok_get X (ci := 6) rfl (by decide) iw_X6 tw_795 dX6_walker_11)
  (okC (ok_bi X (by decide) dX6_walker_14)
  (okC (ok_iald X dX6_walker_16)
  (okC (ok_bi X (by decide) dX6_walker_17)
  (okN))))), ok_cmne X (by decide) rfl dX6_walker_19⟩
set_option maxRecDepth 20000 in
theorem ob_X6_walker_3 {x : ip_Cx} {G : ip_Gl} {d : Nat} (X : ip_X x G tb 5 d 0 0 RX6 cX6_walker) (hr : x.2.2.2.2.2.2.2.2.1.sig.returnType = (some .int)) (hnm : x.2.2.2.2.2.2.2.2.1.name = "walker") : ip_okB x G 5 pc_X6_walker 22 ([oI (-2)], tRI .int 0 0) := ⟨_, okC (ok_bi X (by decide) dX6_walker_22)
  (okN), ok_ret X hr dX6_walker_24⟩
set_option maxRecDepth 20000 in
theorem ob_X6_walker_4 {x : ip_Cx} {G : ip_Gl} {d : Nat} (X : ip_X x G tb 5 d 0 0 RX6 cX6_walker) (hr : x.2.2.2.2.2.2.2.2.1.sig.returnType = (some .int)) (hnm : x.2.2.2.2.2.2.2.2.1.name = "walker") : ip_okB x G 5 pc_X6_walker 25 ([oLdA 0, oGet 6 0, oI (6), oAldI, oStI 3, oI (0), oStI 4], tGo 5) := ⟨_, okC (ok_aldn X rfl dX6_walker_25)
  (okC (ok_get X (ci := 6) rfl (by decide) iw_X6 tw_795 dX6_walker_26)
  (okC (ok_bi X (by decide) dX6_walker_29)
  (okC (ok_iald X dX6_walker_31)
  (okC (ok_istn X rfl (by decide) dX6_walker_32)
  (okC (ok_ic X (by decide) dX6_walker_33)
  (okC (ok_ist X (by decide) dX6_walker_34)
  (okN))))))), ok_fall rfl⟩
set_option maxRecDepth 20000 in
theorem ob_X6_walker_5 {x : ip_Cx} {G : ip_Gl} {d : Nat} (X : ip_X x G tb 5 d 0 0 RX6 cX6_walker) (hr : x.2.2.2.2.2.2.2.2.1.sig.returnType = (some .int)) (hnm : x.2.2.2.2.2.2.2.2.1.name = "walker") : ip_okB x G 5 pc_X6_walker 36 ([oLdI 4, oI (6)], tCm (fun a b => a < b) 6 7) := ⟨_, okC (ok_ild X dX6_walker_36)
  (okC (ok_bi X (by decide) dX6_walker_38)
  (okN)), ok_cmge X (by decide) rfl dX6_walker_40⟩
set_option maxRecDepth 20000 in
theorem ob_X6_walker_6 {x : ip_Cx} {G : ip_Gl} {d : Nat} (X : ip_X x G tb 5 d 0 0 RX6 cX6_walker) (hr : x.2.2.2.2.2.2.2.2.1.sig.returnType = (some .int)) (hnm : x.2.2.2.2.2.2.2.2.1.name = "walker") : ip_okB x G 5 pc_X6_walker 43 ([oLdA 0, oLdI 3, oLdI 4, oI (0), oCaV (ip_call tb d) 0 0 6 125 4 0 0, oInc 4 (1)], tGo 5) := ⟨_, okC (ok_aldn X rfl dX6_walker_43)
  (okC (ok_ildn X rfl dX6_walker_44)
  (okC (ok_ild X dX6_walker_45)
  (okC (ok_ic X (by decide) dX6_walker_47)
  (okC (ok_calV X (i := 188) (e := en_125) rfl mt_125 rfl rfl rfl tw_994 tw_996 (Or.inl ⟨_, _, rfl⟩) tp_22 dX6_walker_48)
  (okC (ok_inc X (by decide) dX6_walker_51)
  (okN)))))), ok_go X (by decide) dX6_walker_54⟩
set_option maxRecDepth 20000 in
theorem ob_X6_walker_7 {x : ip_Cx} {G : ip_Gl} {d : Nat} (X : ip_X x G tb 5 d 0 0 RX6 cX6_walker) (hr : x.2.2.2.2.2.2.2.2.1.sig.returnType = (some .int)) (hnm : x.2.2.2.2.2.2.2.2.1.name = "walker") : ip_okB x G 5 pc_X6_walker 57 ([oLdA 0, oLdI 3, oI (0), oLdI 1, oCaV (ip_call tb d) 0 0 6 125 4 0 0, oLdA 0, oLdI 3, oI (1), oLdI 2, oCaV (ip_call tb d) 0 0 6 125 4 0 0, oLdA 0, oGet 6 0, oI (6), oDp2, oAldI, oI (1), oBI (fun a b => a + b), oAstI, oLdI 3], tRI .int 0 0) := ⟨_, okC (ok_aldn X rfl dX6_walker_57)
  (okC (ok_ildn X rfl dX6_walker_58)
  (okC (ok_ic X (by decide) dX6_walker_59)
  (okC (ok_ildn X rfl dX6_walker_60)
  (okC (ok_calV X (i := 188) (e := en_125) rfl mt_125 rfl rfl rfl tw_994 tw_996 (Or.inl ⟨_, _, rfl⟩) tp_22 dX6_walker_61)
  (okC (ok_aldn X rfl dX6_walker_64)
  (okC (ok_ildn X rfl dX6_walker_65)
  (okC (ok_ic X (by decide) dX6_walker_66)
  (okC (ok_ildn X rfl dX6_walker_67)
  (okC (ok_calV X (i := 188) (e := en_125) rfl mt_125 rfl rfl rfl tw_994 tw_996 (Or.inl ⟨_, _, rfl⟩) tp_22 dX6_walker_68)
  (okC (ok_aldn X rfl dX6_walker_71)
  (okC (ok_get X (ci := 6) rfl (by decide) iw_X6 tw_795 dX6_walker_72)
  (okC (ok_bi X (by decide) dX6_walker_75)
  (okC (ok_dp2 X dX6_walker_77)
  (okC (ok_iald X dX6_walker_78)
  (okC (ok_ic X (by decide) dX6_walker_79)
  (okC (ok_iadd X dX6_walker_80)
  (okC (ok_iast X dX6_walker_81)
  (okC (ok_ildn X rfl dX6_walker_82)
  (okN))))))))))))))))))), ok_ret X hr dX6_walker_83⟩
theorem om_149 : ip_MOk tb en_149 pc_X6_walker := fun x G d X hr hnm => ⟨ob_X6_walker_0 X hr hnm, ⟨ob_X6_walker_1 X hr hnm, ⟨ob_X6_walker_2 X hr hnm, ⟨ob_X6_walker_3 X hr hnm, ⟨ob_X6_walker_4 X hr hnm, ⟨ob_X6_walker_5 X hr hnm, ⟨ob_X6_walker_6 X hr hnm, ⟨ob_X6_walker_7 X hr hnm, trivial⟩⟩⟩⟩⟩⟩⟩⟩
theorem dX6_of_0 : decode cX6_of 0 = .ok (.aload_n 0, 1) := by decide +kernel
theorem dX6_of_1 : decode cX6_of 1 = .ok (.iload_n 1, 1) := by decide +kernel
theorem dX6_of_2 : decode cX6_of 2 = .ok (.invokevirtual 192, 3) := by decide +kernel
theorem dX6_of_5 : decode cX6_of 5 = .ok (.ifCond .eq 21, 3) := by decide +kernel
theorem dX6_of_8 : decode cX6_of 8 = .ok (.iload_n 2, 1) := by decide +kernel
theorem dX6_of_9 : decode cX6_of 9 = .ok (.iconst 0, 1) := by decide +kernel
theorem dX6_of_10 : decode cX6_of 10 = .ok (.iconst 5, 1) := by decide +kernel
theorem dX6_of_11 : decode cX6_of 11 = .ok (.invokestatic 57, 3) := by decide +kernel
theorem dX6_of_14 : decode cX6_of 14 = .ok (.ifCond .eq 12, 3) := by decide +kernel
theorem dX6_of_17 : decode cX6_of 17 = .ok (.aload_n 0, 1) := by decide +kernel
theorem dX6_of_18 : decode cX6_of 18 = .ok (.iload_n 1, 1) := by decide +kernel
theorem dX6_of_19 : decode cX6_of 19 = .ok (.iload_n 2, 1) := by decide +kernel
theorem dX6_of_20 : decode cX6_of 20 = .ok (.invokevirtual 195, 3) := by decide +kernel
theorem dX6_of_23 : decode cX6_of 23 = .ok (.goto 4, 3) := by decide +kernel
theorem dX6_of_26 : decode cX6_of 26 = .ok (.iconst (-1), 1) := by decide +kernel
theorem dX6_of_27 : decode cX6_of 27 = .ok (.ireturn, 1) := by decide +kernel
def pc_X6_of (i : Nat) : Nat := ([0, 8, 17, 26, 27] : List Nat).getD i 0
set_option maxRecDepth 20000 in
theorem ob_X6_of_0 {x : ip_Cx} {G : ip_Gl} {d : Nat} (X : ip_X x G tb 3 d 0 0 RX6 cX6_of) (hr : x.2.2.2.2.2.2.2.2.1.sig.returnType = (some .int)) (hnm : x.2.2.2.2.2.2.2.2.1.name = "of") : ip_okB x G 3 pc_X6_of 0 ([oLdA 0, oLdI 1, oCaV (ip_call tb d) 0 0 6 123 2 0 0], tIf (fun a => a = 0) 3 1) := ⟨_, okC (ok_aldn X rfl dX6_of_0)
  (okC (ok_ildn X rfl dX6_of_1)
  (okC (ok_calV X (i := 192) (e := en_123) rfl mt_123 rfl rfl rfl tw_1002 tw_1004 (Or.inl ⟨_, _, rfl⟩) tp_23 dX6_of_2)
  (okN))), ok_ifeq X (by decide) rfl dX6_of_5⟩
set_option maxRecDepth 20000 in
theorem ob_X6_of_1 {x : ip_Cx} {G : ip_Gl} {d : Nat} (X : ip_X x G tb 3 d 0 0 RX6 cX6_of) (hr : x.2.2.2.2.2.2.2.2.1.sig.returnType = (some .int)) (hnm : x.2.2.2.2.2.2.2.2.1.name = "of") : ip_okB x G 3 pc_X6_of 8 ([oLdI 2, oI (0), oI (5), oCal (ip_call tb d) 0 0 120 3 0 0], tIf (fun a => a = 0) 3 2) := ⟨_, okC (ok_ildn X rfl dX6_of_8)
  (okC (ok_ic X (by decide) dX6_of_9)
  (okC (ok_ic X (by decide) dX6_of_10)
  (okC (ok_calS X (i := 57) (e := en_120) rfl mt_120 rfl rfl rfl tw_885 tw_886 dX6_of_11)
  (okN)))), ok_ifeq X (by decide) rfl dX6_of_14⟩
set_option maxRecDepth 20000 in
theorem ob_X6_of_2 {x : ip_Cx} {G : ip_Gl} {d : Nat} (X : ip_X x G tb 3 d 0 0 RX6 cX6_of) (hr : x.2.2.2.2.2.2.2.2.1.sig.returnType = (some .int)) (hnm : x.2.2.2.2.2.2.2.2.1.name = "of") : ip_okB x G 3 pc_X6_of 17 ([oLdA 0, oLdI 1, oLdI 2, oCaV (ip_call tb d) 0 0 6 124 3 0 0], tGo 4) := ⟨_, okC (ok_aldn X rfl dX6_of_17)
  (okC (ok_ildn X rfl dX6_of_18)
  (okC (ok_ildn X rfl dX6_of_19)
  (okC (ok_calV X (i := 195) (e := en_124) rfl mt_124 rfl rfl rfl tw_1006 tw_1008 (Or.inl ⟨_, _, rfl⟩) tp_24 dX6_of_20)
  (okN)))), ok_go X (by decide) dX6_of_23⟩
set_option maxRecDepth 20000 in
theorem ob_X6_of_3 {x : ip_Cx} {G : ip_Gl} {d : Nat} (X : ip_X x G tb 3 d 0 0 RX6 cX6_of) (hr : x.2.2.2.2.2.2.2.2.1.sig.returnType = (some .int)) (hnm : x.2.2.2.2.2.2.2.2.1.name = "of") : ip_okB x G 3 pc_X6_of 26 ([oI (-1)], tGo 4) := ⟨_, okC (ok_ic X (by decide) dX6_of_26)
  (okN), ok_fall rfl⟩
set_option maxRecDepth 20000 in
theorem ob_X6_of_4 {x : ip_Cx} {G : ip_Gl} {d : Nat} (X : ip_X x G tb 3 d 0 0 RX6 cX6_of) (hr : x.2.2.2.2.2.2.2.2.1.sig.returnType = (some .int)) (hnm : x.2.2.2.2.2.2.2.2.1.name = "of") : ip_okB x G 3 pc_X6_of 27 ([], tRI .int 0 0) := ⟨_, okN, ok_ret X hr dX6_of_27⟩
theorem om_150 : ip_MOk tb en_150 pc_X6_of := fun x G d X hr hnm => ⟨ob_X6_of_0 X hr hnm, ⟨ob_X6_of_1 X hr hnm, ⟨ob_X6_of_2 X hr hnm, ⟨ob_X6_of_3 X hr hnm, ⟨ob_X6_of_4 X hr hnm, trivial⟩⟩⟩⟩⟩
theorem dX6_right_0 : decode cX6_right 0 = .ok (.aload_n 0, 1) := by decide +kernel
theorem dX6_right_1 : decode cX6_right 1 = .ok (.iload_n 1, 1) := by decide +kernel
theorem dX6_right_2 : decode cX6_right 2 = .ok (.iconst 3, 1) := by decide +kernel
theorem dX6_right_3 : decode cX6_right 3 = .ok (.invokevirtual 195, 3) := by decide +kernel
theorem dX6_right_6 : decode cX6_right 6 = .ok (.aload_n 0, 1) := by decide +kernel
theorem dX6_right_7 : decode cX6_right 7 = .ok (.getfield 7, 3) := by decide +kernel
theorem dX6_right_10 : decode cX6_right 10 = .ok (.iconst 5, 1) := by decide +kernel
theorem dX6_right_11 : decode cX6_right 11 = .ok (.iaload, 1) := by decide +kernel
theorem dX6_right_12 : decode cX6_right 12 = .ok (.iand, 1) := by decide +kernel
theorem dX6_right_13 : decode cX6_right 13 = .ok (.invokestatic 198, 3) := by decide +kernel
theorem dX6_right_16 : decode cX6_right 16 = .ok (.aload_n 0, 1) := by decide +kernel
theorem dX6_right_17 : decode cX6_right 17 = .ok (.iload_n 1, 1) := by decide +kernel
theorem dX6_right_18 : decode cX6_right 18 = .ok (.iconst 4, 1) := by decide +kernel
theorem dX6_right_19 : decode cX6_right 19 = .ok (.invokevirtual 195, 3) := by decide +kernel
theorem dX6_right_22 : decode cX6_right 22 = .ok (.aload_n 0, 1) := by decide +kernel
theorem dX6_right_23 : decode cX6_right 23 = .ok (.getfield 7, 3) := by decide +kernel
theorem dX6_right_26 : decode cX6_right 26 = .ok (.iconst 5, 1) := by decide +kernel
theorem dX6_right_27 : decode cX6_right 27 = .ok (.iaload, 1) := by decide +kernel
theorem dX6_right_28 : decode cX6_right 28 = .ok (.iconst (-1), 1) := by decide +kernel
theorem dX6_right_29 : decode cX6_right 29 = .ok (.ixor, 1) := by decide +kernel
theorem dX6_right_30 : decode cX6_right 30 = .ok (.iand, 1) := by decide +kernel
theorem dX6_right_31 : decode cX6_right 31 = .ok (.invokestatic 198, 3) := by decide +kernel
theorem dX6_right_34 : decode cX6_right 34 = .ok (.iadd, 1) := by decide +kernel
theorem dX6_right_35 : decode cX6_right 35 = .ok (.ireturn, 1) := by decide +kernel
def pc_X6_right (i : Nat) : Nat := ([0] : List Nat).getD i 0
set_option maxRecDepth 20000 in
theorem ob_X6_right_0 {x : ip_Cx} {G : ip_Gl} {d : Nat} (X : ip_X x G tb 2 d 0 0 RX6 cX6_right) (hr : x.2.2.2.2.2.2.2.2.1.sig.returnType = (some .int)) (hnm : x.2.2.2.2.2.2.2.2.1.name = "right") : ip_okB x G 2 pc_X6_right 0 ([oLdA 0, oLdI 1, oI (3), oCaV (ip_call tb d) 0 0 6 124 3 0 0, oLdA 0, oGet 6 0, oI (5), oAldI, oBI (fun a b => a &&& b), oCal (ip_call tb d) 0 0 127 1 0 0, oLdA 0, oLdI 1, oI (4), oCaV (ip_call tb d) 0 0 6 124 3 0 0, oLdA 0, oGet 6 0, oI (5), oAldI, oI (-1), oBI (fun a b => a ^^^ b), oBI (fun a b => a &&& b), oCal (ip_call tb d) 0 0 127 1 0 0, oBI (fun a b => a + b)], tRI .int 0 0) := ⟨_, okC (ok_aldn X rfl dX6_right_0)
  (okC (ok_ildn X rfl dX6_right_1)
  (okC (ok_ic X (by decide) dX6_right_2)
  (okC (ok_calV X (i := 195) (e := en_124) rfl mt_124 rfl rfl rfl tw_1006 tw_1008 (Or.inl ⟨_, _, rfl⟩) tp_24 dX6_right_3)
  (okC (ok_aldn X rfl dX6_right_6)
  (okC (ok_get X (ci := 6) rfl (by decide) iw_X6 tw_795 dX6_right_7)
  (okC (ok_ic X (by decide) dX6_right_10)
  (okC (ok_iald X dX6_right_11)
  (okC (ok_iand X dX6_right_12)
  (okC (ok_calS X (i := 198) (e := en_127) rfl mt_127 rfl rfl rfl tw_1022 tw_1023 dX6_right_13)
  (okC (ok_aldn X rfl dX6_right_16)
  (okC (ok_ildn X rfl dX6_right_17)
  (okC (ok_ic X (by decide) dX6_right_18)
  (okC (ok_calV X (i := 195) (e := en_124) rfl mt_124 rfl rfl rfl tw_1006 tw_1008 (Or.inl ⟨_, _, rfl⟩) tp_24 dX6_right_19)
  (okC (ok_aldn X rfl dX6_right_22)
  (okC (ok_get X (ci := 6) rfl (by decide) iw_X6 tw_795 dX6_right_23)
  (okC (ok_ic X (by decide) dX6_right_26)
  (okC (ok_iald X dX6_right_27)
  (okC (ok_ic X (by decide) dX6_right_28)
  (okC (ok_ixor X dX6_right_29)
  (okC (ok_iand X dX6_right_30)
  (okC (ok_calS X (i := 198) (e := en_127) rfl mt_127 rfl rfl rfl tw_1022 tw_1023 dX6_right_31)
  (okC (ok_iadd X dX6_right_34)
  (okN))))))))))))))))))))))), ok_ret X hr dX6_right_35⟩
theorem om_151 : ip_MOk tb en_151 pc_X6_right := fun x G d X hr hnm => ⟨ob_X6_right_0 X hr hnm, trivial⟩
theorem dX6_said_0 : decode cX6_said 0 = .ok (.aload_n 0, 1) := by decide +kernel
theorem dX6_said_1 : decode cX6_said 1 = .ok (.iload_n 1, 1) := by decide +kernel
theorem dX6_said_2 : decode cX6_said 2 = .ok (.iconst 3, 1) := by decide +kernel
theorem dX6_said_3 : decode cX6_said 3 = .ok (.invokevirtual 195, 3) := by decide +kernel
theorem dX6_said_6 : decode cX6_said 6 = .ok (.invokestatic 198, 3) := by decide +kernel
theorem dX6_said_9 : decode cX6_said 9 = .ok (.aload_n 0, 1) := by decide +kernel
theorem dX6_said_10 : decode cX6_said 10 = .ok (.iload_n 1, 1) := by decide +kernel
theorem dX6_said_11 : decode cX6_said 11 = .ok (.iconst 4, 1) := by decide +kernel
theorem dX6_said_12 : decode cX6_said 12 = .ok (.invokevirtual 195, 3) := by decide +kernel
theorem dX6_said_15 : decode cX6_said 15 = .ok (.invokestatic 198, 3) := by decide +kernel
theorem dX6_said_18 : decode cX6_said 18 = .ok (.iadd, 1) := by decide +kernel
theorem dX6_said_19 : decode cX6_said 19 = .ok (.ireturn, 1) := by decide +kernel
def pc_X6_said (i : Nat) : Nat := ([0] : List Nat).getD i 0
set_option maxRecDepth 20000 in
theorem ob_X6_said_0 {x : ip_Cx} {G : ip_Gl} {d : Nat} (X : ip_X x G tb 2 d 0 0 RX6 cX6_said) (hr : x.2.2.2.2.2.2.2.2.1.sig.returnType = (some .int)) (hnm : x.2.2.2.2.2.2.2.2.1.name = "said") : ip_okB x G 2 pc_X6_said 0 ([oLdA 0, oLdI 1, oI (3), oCaV (ip_call tb d) 0 0 6 124 3 0 0, oCal (ip_call tb d) 0 0 127 1 0 0, oLdA 0, oLdI 1, oI (4), oCaV (ip_call tb d) 0 0 6 124 3 0 0, oCal (ip_call tb d) 0 0 127 1 0 0, oBI (fun a b => a + b)], tRI .int 0 0) := ⟨_, okC (ok_aldn X rfl dX6_said_0)
  (okC (ok_ildn X rfl dX6_said_1)
  (okC (ok_ic X (by decide) dX6_said_2)
  (okC (ok_calV X (i := 195) (e := en_124) rfl mt_124 rfl rfl rfl tw_1006 tw_1008 (Or.inl ⟨_, _, rfl⟩) tp_24 dX6_said_3)
  (okC (ok_calS X (i := 198) (e := en_127) rfl mt_127 rfl rfl rfl tw_1022 tw_1023 dX6_said_6)
  (okC (ok_aldn X rfl dX6_said_9)
  (okC (ok_ildn X rfl dX6_said_10)
  (okC (ok_ic X (by decide) dX6_said_11)
  (okC (ok_calV X (i := 195) (e := en_124) rfl mt_124 rfl rfl rfl tw_1006 tw_1008 (Or.inl ⟨_, _, rfl⟩) tp_24 dX6_said_12)
  (okC (ok_calS X (i := 198) (e := en_127) rfl mt_127 rfl rfl rfl tw_1022 tw_1023 dX6_said_15)
  (okC (ok_iadd X dX6_said_18)
  (okN))))))))))), ok_ret X hr dX6_said_19⟩
theorem om_152 : ip_MOk tb en_152 pc_X6_said := fun x G d X hr hnm => ⟨ob_X6_said_0 X hr hnm, trivial⟩
theorem dX6_bears_0 : decode cX6_bears 0 = .ok (.aload_n 0, 1) := by decide +kernel
theorem dX6_bears_1 : decode cX6_bears 1 = .ok (.iload_n 1, 1) := by decide +kernel
theorem dX6_bears_2 : decode cX6_bears 2 = .ok (.invokevirtual 201, 3) := by decide +kernel
theorem dX6_bears_5 : decode cX6_bears 5 = .ok (.istore_n 2, 1) := by decide +kernel
theorem dX6_bears_6 : decode cX6_bears 6 = .ok (.aload_n 0, 1) := by decide +kernel
theorem dX6_bears_7 : decode cX6_bears 7 = .ok (.iload_n 1, 1) := by decide +kernel
theorem dX6_bears_8 : decode cX6_bears 8 = .ok (.invokevirtual 204, 3) := by decide +kernel
theorem dX6_bears_11 : decode cX6_bears 11 = .ok (.iload_n 2, 1) := by decide +kernel
theorem dX6_bears_12 : decode cX6_bears 12 = .ok (.isub, 1) := by decide +kernel
theorem dX6_bears_13 : decode cX6_bears 13 = .ok (.istore_n 3, 1) := by decide +kernel
theorem dX6_bears_14 : decode cX6_bears 14 = .ok (.aload_n 0, 1) := by decide +kernel
theorem dX6_bears_15 : decode cX6_bears 15 = .ok (.getfield 7, 3) := by decide +kernel
theorem dX6_bears_18 : decode cX6_bears 18 = .ok (.iconst 0, 1) := by decide +kernel
theorem dX6_bears_19 : decode cX6_bears 19 = .ok (.iaload, 1) := by decide +kernel
theorem dX6_bears_20 : decode cX6_bears 20 = .ok (.iload_n 2, 1) := by decide +kernel
theorem dX6_bears_21 : decode cX6_bears 21 = .ok (.imul, 1) := by decide +kernel
theorem dX6_bears_22 : decode cX6_bears 22 = .ok (.aload_n 0, 1) := by decide +kernel
theorem dX6_bears_23 : decode cX6_bears 23 = .ok (.getfield 7, 3) := by decide +kernel
theorem dX6_bears_26 : decode cX6_bears 26 = .ok (.iconst 1, 1) := by decide +kernel
theorem dX6_bears_27 : decode cX6_bears 27 = .ok (.iaload, 1) := by decide +kernel
theorem dX6_bears_28 : decode cX6_bears 28 = .ok (.iload_n 3, 1) := by decide +kernel
theorem dX6_bears_29 : decode cX6_bears 29 = .ok (.imul, 1) := by decide +kernel
theorem dX6_bears_30 : decode cX6_bears 30 = .ok (.isub, 1) := by decide +kernel
theorem dX6_bears_31 : decode cX6_bears 31 = .ok (.istore 4, 2) := by decide +kernel
theorem dX6_bears_33 : decode cX6_bears 33 = .ok (.aload_n 0, 1) := by decide +kernel
theorem dX6_bears_34 : decode cX6_bears 34 = .ok (.getfield 7, 3) := by decide +kernel
theorem dX6_bears_37 : decode cX6_bears 37 = .ok (.iconst 0, 1) := by decide +kernel
theorem dX6_bears_38 : decode cX6_bears 38 = .ok (.iaload, 1) := by decide +kernel
theorem dX6_bears_39 : decode cX6_bears 39 = .ok (.iload_n 3, 1) := by decide +kernel
theorem dX6_bears_40 : decode cX6_bears 40 = .ok (.imul, 1) := by decide +kernel
theorem dX6_bears_41 : decode cX6_bears 41 = .ok (.aload_n 0, 1) := by decide +kernel
theorem dX6_bears_42 : decode cX6_bears 42 = .ok (.getfield 7, 3) := by decide +kernel
theorem dX6_bears_45 : decode cX6_bears 45 = .ok (.iconst 1, 1) := by decide +kernel
theorem dX6_bears_46 : decode cX6_bears 46 = .ok (.iaload, 1) := by decide +kernel
theorem dX6_bears_47 : decode cX6_bears 47 = .ok (.iload_n 2, 1) := by decide +kernel
theorem dX6_bears_48 : decode cX6_bears 48 = .ok (.imul, 1) := by decide +kernel
theorem dX6_bears_49 : decode cX6_bears 49 = .ok (.isub, 1) := by decide +kernel
theorem dX6_bears_50 : decode cX6_bears 50 = .ok (.istore 5, 2) := by decide +kernel
theorem dX6_bears_52 : decode cX6_bears 52 = .ok (.iload 4, 2) := by decide +kernel
theorem dX6_bears_54 : decode cX6_bears 54 = .ok (.iconst 2, 1) := by decide +kernel
theorem dX6_bears_55 : decode cX6_bears 55 = .ok (.bipush 8, 2) := by decide +kernel
theorem dX6_bears_57 : decode cX6_bears 57 = .ok (.aload_n 0, 1) := by decide +kernel
theorem dX6_bears_58 : decode cX6_bears 58 = .ok (.iload_n 1, 1) := by decide +kernel
theorem dX6_bears_59 : decode cX6_bears 59 = .ok (.invokevirtual 204, 3) := by decide +kernel
theorem dX6_bears_62 : decode cX6_bears 62 = .ok (.isub, 1) := by decide +kernel
theorem dX6_bears_63 : decode cX6_bears 63 = .ok (.imul, 1) := by decide +kernel
theorem dX6_bears_64 : decode cX6_bears 64 = .ok (.iadd, 1) := by decide +kernel
theorem dX6_bears_65 : decode cX6_bears 65 = .ok (.istore 6, 2) := by decide +kernel
theorem dX6_bears_67 : decode cX6_bears 67 = .ok (.aload_n 0, 1) := by decide +kernel
theorem dX6_bears_68 : decode cX6_bears 68 = .ok (.iload_n 1, 1) := by decide +kernel
theorem dX6_bears_69 : decode cX6_bears 69 = .ok (.iconst 0, 1) := by decide +kernel
theorem dX6_bears_70 : decode cX6_bears 70 = .ok (.invokevirtual 195, 3) := by decide +kernel
theorem dX6_bears_73 : decode cX6_bears 73 = .ok (.tableswitch 84 1 5 #[35, 48, 38, 51, 56], 35) := by decide +kernel
theorem dX6_bears_108 : decode cX6_bears 108 = .ok (.iload 5, 2) := by decide +kernel
theorem dX6_bears_110 : decode cX6_bears 110 = .ok (.ireturn, 1) := by decide +kernel
theorem dX6_bears_111 : decode cX6_bears 111 = .ok (.iload 5, 2) := by decide +kernel
theorem dX6_bears_113 : decode cX6_bears 113 = .ok (.aload_n 0, 1) := by decide +kernel
theorem dX6_bears_114 : decode cX6_bears 114 = .ok (.getfield 7, 3) := by decide +kernel
theorem dX6_bears_117 : decode cX6_bears 117 = .ok (.iconst 2, 1) := by decide +kernel
theorem dX6_bears_118 : decode cX6_bears 118 = .ok (.iaload, 1) := by decide +kernel
theorem dX6_bears_119 : decode cX6_bears 119 = .ok (.iadd, 1) := by decide +kernel
theorem dX6_bears_120 : decode cX6_bears 120 = .ok (.ireturn, 1) := by decide +kernel
theorem dX6_bears_121 : decode cX6_bears 121 = .ok (.iload 6, 2) := by decide +kernel
theorem dX6_bears_123 : decode cX6_bears 123 = .ok (.ireturn, 1) := by decide +kernel
theorem dX6_bears_124 : decode cX6_bears 124 = .ok (.iconst 2, 1) := by decide +kernel
theorem dX6_bears_125 : decode cX6_bears 125 = .ok (.iload 6, 2) := by decide +kernel
theorem dX6_bears_127 : decode cX6_bears 127 = .ok (.imul, 1) := by decide +kernel
theorem dX6_bears_128 : decode cX6_bears 128 = .ok (.ireturn, 1) := by decide +kernel
theorem dX6_bears_129 : decode cX6_bears 129 = .ok (.bipush 90, 2) := by decide +kernel
theorem dX6_bears_131 : decode cX6_bears 131 = .ok (.bipush 10, 2) := by decide +kernel
theorem dX6_bears_133 : decode cX6_bears 133 = .ok (.aload_n 0, 1) := by decide +kernel
theorem dX6_bears_134 : decode cX6_bears 134 = .ok (.iload_n 1, 1) := by decide +kernel
theorem dX6_bears_135 : decode cX6_bears 135 = .ok (.iconst 2, 1) := by decide +kernel
theorem dX6_bears_136 : decode cX6_bears 136 = .ok (.invokevirtual 195, 3) := by decide +kernel
theorem dX6_bears_139 : decode cX6_bears 139 = .ok (.imul, 1) := by decide +kernel
theorem dX6_bears_140 : decode cX6_bears 140 = .ok (.isub, 1) := by decide +kernel
theorem dX6_bears_141 : decode cX6_bears 141 = .ok (.aload_n 0, 1) := by decide +kernel
theorem dX6_bears_142 : decode cX6_bears 142 = .ok (.iload_n 1, 1) := by decide +kernel
theorem dX6_bears_143 : decode cX6_bears 143 = .ok (.invokevirtual 204, 3) := by decide +kernel
theorem dX6_bears_146 : decode cX6_bears 146 = .ok (.ifCond .le 8, 3) := by decide +kernel
theorem dX6_bears_149 : decode cX6_bears 149 = .ok (.bipush 50, 2) := by decide +kernel
theorem dX6_bears_151 : decode cX6_bears 151 = .ok (.goto 4, 3) := by decide +kernel
theorem dX6_bears_154 : decode cX6_bears 154 = .ok (.iconst 0, 1) := by decide +kernel
theorem dX6_bears_155 : decode cX6_bears 155 = .ok (.isub, 1) := by decide +kernel
theorem dX6_bears_156 : decode cX6_bears 156 = .ok (.ireturn, 1) := by decide +kernel
theorem dX6_bears_157 : decode cX6_bears 157 = .ok (.iload 4, 2) := by decide +kernel
theorem dX6_bears_159 : decode cX6_bears 159 = .ok (.ireturn, 1) := by decide +kernel
def pc_X6_bears (i : Nat) : Nat := ([0, 108, 111, 121, 124, 129, 149, 154, 155, 157] : List Nat).getD i 0
set_option maxRecDepth 20000 in
theorem ob_X6_bears_0 {x : ip_Cx} {G : ip_Gl} {d : Nat} (X : ip_X x G tb 7 d 0 0 RX6 cX6_bears) (hr : x.2.2.2.2.2.2.2.2.1.sig.returnType = (some .int)) (hnm : x.2.2.2.2.2.2.2.2.1.name = "bears") : ip_okB x G 7 pc_X6_bears 0 ([oLdA 0, oLdI 1, oCaV (ip_call tb d) 0 0 6 151 2 0 0, oStI 2, oLdA 0, oLdI 1, oCaV (ip_call tb d) 0 0 6 152 2 0 0, oLdI 2, oBI (fun a b => a - b), oStI 3, oLdA 0, oGet 6 0, oI (0), oAldI, oLdI 2, oBI (fun a b => a * b), oLdA 0, oGet 6 0, oI (1), oAldI, oLdI 3, oBI (fun a b => a * b), oBI (fun a b => a - b), oStI 4, oLdA 0, oGet 6 0, oI (0), oAldI, oLdI 3, oBI (fun a b => a * b), oLdA 0, oGet 6 0, oI (1), oAldI, oLdI 2, oBI (fun a b => a * b), oBI (fun a b => a - b), oStI 5, oLdI 4, oI (2), oI (8), oLdA 0, oLdI 1, oCaV (ip_call tb d) 0 0 6 152 2 0 0, oBI (fun a b => a - b), oBI (fun a b => a * b), oBI (fun a b => a + b), oStI 6, oLdA 0, oLdI 1, oI (0), oCaV (ip_call tb d) 0 0 6 124 3 0 0], tSw [(1, 1), (2, 3), (3, 2), (4, 4), (5, 5)] 9) := ⟨_, okC (ok_aldn X rfl dX6_bears_0)
  (okC (ok_ildn X rfl dX6_bears_1)
  (okC (ok_calV X (i := 201) (e := en_151) rfl mt_151 rfl rfl rfl tw_1018 tw_1020 (Or.inl ⟨_, _, rfl⟩) tp_26 dX6_bears_2)
  (okC (ok_istn X rfl (by decide) dX6_bears_5)
  (okC (ok_aldn X rfl dX6_bears_6)
  (okC (ok_ildn X rfl dX6_bears_7)
  (okC (ok_calV X (i := 204) (e := en_152) rfl mt_152 rfl rfl rfl tw_1025 tw_1027 (Or.inl ⟨_, _, rfl⟩) tp_27 dX6_bears_8)
  (okC (ok_ildn X rfl dX6_bears_11)
  (okC (ok_isub X dX6_bears_12)
  (okC (ok_istn X rfl (by decide) dX6_bears_13)
  (okC (ok_aldn X rfl dX6_bears_14)
  (okC (ok_get X (ci := 6) rfl (by decide) iw_X6 tw_795 dX6_bears_15)
  (okC (ok_ic X (by decide) dX6_bears_18)
  (okC (ok_iald X dX6_bears_19)
  (okC (ok_ildn X rfl dX6_bears_20)
  (okC (ok_imul X dX6_bears_21)
  (okC (ok_aldn X rfl dX6_bears_22)
  (okC (ok_get X (ci := 6) rfl (by decide) iw_X6 tw_795 dX6_bears_23)
  (okC (ok_ic X (by decide) dX6_bears_26)
  (okC (ok_iald X dX6_bears_27)
  (okC (ok_ildn X rfl dX6_bears_28)
  (okC (ok_imul X dX6_bears_29)
  (okC (ok_isub X dX6_bears_30)
  (okC (ok_ist X (by decide) dX6_bears_31)
  (okC (ok_aldn X rfl dX6_bears_33)
  (okC (ok_get X (ci := 6) rfl (by decide) iw_X6 tw_795 dX6_bears_34)
  (okC (ok_ic X (by decide) dX6_bears_37)
  (okC (ok_iald X dX6_bears_38)
  (okC (ok_ildn X rfl dX6_bears_39)
  (okC (ok_imul X dX6_bears_40)
  (okC (ok_aldn X rfl dX6_bears_41)
  (okC (ok_get X (ci := 6) rfl (by decide) iw_X6 tw_795 dX6_bears_42)
  (okC (ok_ic X (by decide) dX6_bears_45)
  (okC (ok_iald X dX6_bears_46)
  (okC (ok_ildn X rfl dX6_bears_47)
  (okC (ok_imul X dX6_bears_48)
  (okC (ok_isub X dX6_bears_49)
  (okC (ok_ist X (by decide) dX6_bears_50)
  (okC (ok_ild X dX6_bears_52)
  (okC (ok_ic X (by decide) dX6_bears_54)
  (okC (ok_bi X (by decide) dX6_bears_55)
  (okC (ok_aldn X rfl dX6_bears_57)
  (okC (ok_ildn X rfl dX6_bears_58)
  (okC (ok_calV X (i := 204) (e := en_152) rfl mt_152 rfl rfl rfl tw_1025 tw_1027 (Or.inl ⟨_, _, rfl⟩) tp_27 dX6_bears_59)
  (okC (ok_isub X dX6_bears_62)
  (okC (ok_imul X dX6_bears_63)
  (okC (ok_iadd X dX6_bears_64)
  (okC (ok_ist X (by decide) dX6_bears_65)
  (okC (ok_aldn X rfl dX6_bears_67)
  (okC (ok_ildn X rfl dX6_bears_68)
  (okC (ok_ic X (by decide) dX6_bears_69)
  (okC (ok_calV X (i := 195) (e := en_124) rfl mt_124 rfl rfl rfl tw_1006 tw_1008 (Or.inl ⟨_, _, rfl⟩) tp_24 dX6_bears_70)
  (okN)))))))))))))))))))))))))))))))))))))))))))))))))))), ok_tsw X (by decide) (by decide +kernel) (by decide) dX6_bears_73⟩
set_option maxRecDepth 20000 in
theorem ob_X6_bears_1 {x : ip_Cx} {G : ip_Gl} {d : Nat} (X : ip_X x G tb 7 d 0 0 RX6 cX6_bears) (hr : x.2.2.2.2.2.2.2.2.1.sig.returnType = (some .int)) (hnm : x.2.2.2.2.2.2.2.2.1.name = "bears") : ip_okB x G 7 pc_X6_bears 108 ([oLdI 5], tRI .int 0 0) := ⟨_, okC (ok_ild X dX6_bears_108)
  (okN), ok_ret X hr dX6_bears_110⟩
set_option maxRecDepth 20000 in
theorem ob_X6_bears_2 {x : ip_Cx} {G : ip_Gl} {d : Nat} (X : ip_X x G tb 7 d 0 0 RX6 cX6_bears) (hr : x.2.2.2.2.2.2.2.2.1.sig.returnType = (some .int)) (hnm : x.2.2.2.2.2.2.2.2.1.name = "bears") : ip_okB x G 7 pc_X6_bears 111 ([oLdI 5, oLdA 0, oGet 6 0, oI (2), oAldI, oBI (fun a b => a + b)], tRI .int 0 0) := ⟨_, okC (ok_ild X dX6_bears_111)
  (okC (ok_aldn X rfl dX6_bears_113)
  (okC (ok_get X (ci := 6) rfl (by decide) iw_X6 tw_795 dX6_bears_114)
  (okC (ok_ic X (by decide) dX6_bears_117)
  (okC (ok_iald X dX6_bears_118)
  (okC (ok_iadd X dX6_bears_119)
  (okN)))))), ok_ret X hr dX6_bears_120⟩
set_option maxRecDepth 20000 in
theorem ob_X6_bears_3 {x : ip_Cx} {G : ip_Gl} {d : Nat} (X : ip_X x G tb 7 d 0 0 RX6 cX6_bears) (hr : x.2.2.2.2.2.2.2.2.1.sig.returnType = (some .int)) (hnm : x.2.2.2.2.2.2.2.2.1.name = "bears") : ip_okB x G 7 pc_X6_bears 121 ([oLdI 6], tRI .int 0 0) := ⟨_, okC (ok_ild X dX6_bears_121)
  (okN), ok_ret X hr dX6_bears_123⟩
set_option maxRecDepth 20000 in
theorem ob_X6_bears_4 {x : ip_Cx} {G : ip_Gl} {d : Nat} (X : ip_X x G tb 7 d 0 0 RX6 cX6_bears) (hr : x.2.2.2.2.2.2.2.2.1.sig.returnType = (some .int)) (hnm : x.2.2.2.2.2.2.2.2.1.name = "bears") : ip_okB x G 7 pc_X6_bears 124 ([oI (2), oLdI 6, oBI (fun a b => a * b)], tRI .int 0 0) := ⟨_, okC (ok_ic X (by decide) dX6_bears_124)
  (okC (ok_ild X dX6_bears_125)
  (okC (ok_imul X dX6_bears_127)
  (okN))), ok_ret X hr dX6_bears_128⟩
set_option maxRecDepth 20000 in
theorem ob_X6_bears_5 {x : ip_Cx} {G : ip_Gl} {d : Nat} (X : ip_X x G tb 7 d 0 0 RX6 cX6_bears) (hr : x.2.2.2.2.2.2.2.2.1.sig.returnType = (some .int)) (hnm : x.2.2.2.2.2.2.2.2.1.name = "bears") : ip_okB x G 7 pc_X6_bears 129 ([oI (90), oI (10), oLdA 0, oLdI 1, oI (2), oCaV (ip_call tb d) 0 0 6 124 3 0 0, oBI (fun a b => a * b), oBI (fun a b => a - b), oLdA 0, oLdI 1, oCaV (ip_call tb d) 0 0 6 152 2 0 0], tIf (fun a => 0 < a) 6 7) := ⟨_, okC (ok_bi X (by decide) dX6_bears_129)
  (okC (ok_bi X (by decide) dX6_bears_131)
  (okC (ok_aldn X rfl dX6_bears_133)
  (okC (ok_ildn X rfl dX6_bears_134)
  (okC (ok_ic X (by decide) dX6_bears_135)
  (okC (ok_calV X (i := 195) (e := en_124) rfl mt_124 rfl rfl rfl tw_1006 tw_1008 (Or.inl ⟨_, _, rfl⟩) tp_24 dX6_bears_136)
  (okC (ok_imul X dX6_bears_139)
  (okC (ok_isub X dX6_bears_140)
  (okC (ok_aldn X rfl dX6_bears_141)
  (okC (ok_ildn X rfl dX6_bears_142)
  (okC (ok_calV X (i := 204) (e := en_152) rfl mt_152 rfl rfl rfl tw_1025 tw_1027 (Or.inl ⟨_, _, rfl⟩) tp_27 dX6_bears_143)
  (okN))))))))))), ok_ifle X (by decide) rfl dX6_bears_146⟩
set_option maxRecDepth 20000 in
theorem ob_X6_bears_6 {x : ip_Cx} {G : ip_Gl} {d : Nat} (X : ip_X x G tb 7 d 0 0 RX6 cX6_bears) (hr : x.2.2.2.2.2.2.2.2.1.sig.returnType = (some .int)) (hnm : x.2.2.2.2.2.2.2.2.1.name = "bears") : ip_okB x G 7 pc_X6_bears 149 ([oI (50)], tGo 8) := ⟨_, okC (ok_bi X (by decide) dX6_bears_149)
  (okN), ok_go X (by decide) dX6_bears_151⟩
set_option maxRecDepth 20000 in
theorem ob_X6_bears_7 {x : ip_Cx} {G : ip_Gl} {d : Nat} (X : ip_X x G tb 7 d 0 0 RX6 cX6_bears) (hr : x.2.2.2.2.2.2.2.2.1.sig.returnType = (some .int)) (hnm : x.2.2.2.2.2.2.2.2.1.name = "bears") : ip_okB x G 7 pc_X6_bears 154 ([oI (0)], tGo 8) := ⟨_, okC (ok_ic X (by decide) dX6_bears_154)
  (okN), ok_fall rfl⟩
set_option maxRecDepth 20000 in
theorem ob_X6_bears_8 {x : ip_Cx} {G : ip_Gl} {d : Nat} (X : ip_X x G tb 7 d 0 0 RX6 cX6_bears) (hr : x.2.2.2.2.2.2.2.2.1.sig.returnType = (some .int)) (hnm : x.2.2.2.2.2.2.2.2.1.name = "bears") : ip_okB x G 7 pc_X6_bears 155 ([oBI (fun a b => a - b)], tRI .int 0 0) := ⟨_, okC (ok_isub X dX6_bears_155)
  (okN), ok_ret X hr dX6_bears_156⟩
set_option maxRecDepth 20000 in
theorem ob_X6_bears_9 {x : ip_Cx} {G : ip_Gl} {d : Nat} (X : ip_X x G tb 7 d 0 0 RX6 cX6_bears) (hr : x.2.2.2.2.2.2.2.2.1.sig.returnType = (some .int)) (hnm : x.2.2.2.2.2.2.2.2.1.name = "bears") : ip_okB x G 7 pc_X6_bears 157 ([oLdI 4], tRI .int 0 0) := ⟨_, okC (ok_ild X dX6_bears_157)
  (okN), ok_ret X hr dX6_bears_159⟩
theorem om_153 : ip_MOk tb en_153 pc_X6_bears := fun x G d X hr hnm => ⟨ob_X6_bears_0 X hr hnm, ⟨ob_X6_bears_1 X hr hnm, ⟨ob_X6_bears_2 X hr hnm, ⟨ob_X6_bears_3 X hr hnm, ⟨ob_X6_bears_4 X hr hnm, ⟨ob_X6_bears_5 X hr hnm, ⟨ob_X6_bears_6 X hr hnm, ⟨ob_X6_bears_7 X hr hnm, ⟨ob_X6_bears_8 X hr hnm, ⟨ob_X6_bears_9 X hr hnm, trivial⟩⟩⟩⟩⟩⟩⟩⟩⟩⟩
theorem dX6_strides_0 : decode cX6_strides 0 = .ok (.aload_n 0, 1) := by decide +kernel
theorem dX6_strides_1 : decode cX6_strides 1 = .ok (.iload_n 1, 1) := by decide +kernel
theorem dX6_strides_2 : decode cX6_strides 2 = .ok (.iconst 0, 1) := by decide +kernel
theorem dX6_strides_3 : decode cX6_strides 3 = .ok (.invokevirtual 195, 3) := by decide +kernel
theorem dX6_strides_6 : decode cX6_strides 6 = .ok (.tableswitch 57 1 4 #[30, 57, 32, 49], 30) := by decide +kernel
theorem dX6_strides_36 : decode cX6_strides 36 = .ok (.iconst 2, 1) := by decide +kernel
theorem dX6_strides_37 : decode cX6_strides 37 = .ok (.ireturn, 1) := by decide +kernel
theorem dX6_strides_38 : decode cX6_strides 38 = .ok (.aload_n 0, 1) := by decide +kernel
theorem dX6_strides_39 : decode cX6_strides 39 = .ok (.getfield 7, 3) := by decide +kernel
theorem dX6_strides_42 : decode cX6_strides 42 = .ok (.iconst 4, 1) := by decide +kernel
theorem dX6_strides_43 : decode cX6_strides 43 = .ok (.iaload, 1) := by decide +kernel
theorem dX6_strides_44 : decode cX6_strides 44 = .ok (.iconst 2, 1) := by decide +kernel
theorem dX6_strides_45 : decode cX6_strides 45 = .ok (.irem, 1) := by decide +kernel
theorem dX6_strides_46 : decode cX6_strides 46 = .ok (.ifCond .ne 7, 3) := by decide +kernel
theorem dX6_strides_49 : decode cX6_strides 49 = .ok (.iconst 3, 1) := by decide +kernel
theorem dX6_strides_50 : decode cX6_strides 50 = .ok (.goto 4, 3) := by decide +kernel
theorem dX6_strides_53 : decode cX6_strides 53 = .ok (.iconst 2, 1) := by decide +kernel
theorem dX6_strides_54 : decode cX6_strides 54 = .ok (.ireturn, 1) := by decide +kernel
theorem dX6_strides_55 : decode cX6_strides 55 = .ok (.iconst 1, 1) := by decide +kernel
theorem dX6_strides_56 : decode cX6_strides 56 = .ok (.aload_n 0, 1) := by decide +kernel
theorem dX6_strides_57 : decode cX6_strides 57 = .ok (.iload_n 1, 1) := by decide +kernel
theorem dX6_strides_58 : decode cX6_strides 58 = .ok (.invokevirtual 201, 3) := by decide +kernel
theorem dX6_strides_61 : decode cX6_strides 61 = .ok (.iadd, 1) := by decide +kernel
theorem dX6_strides_62 : decode cX6_strides 62 = .ok (.ireturn, 1) := by decide +kernel
theorem dX6_strides_63 : decode cX6_strides 63 = .ok (.iconst 1, 1) := by decide +kernel
theorem dX6_strides_64 : decode cX6_strides 64 = .ok (.ireturn, 1) := by decide +kernel
def pc_X6_strides (i : Nat) : Nat := ([0, 36, 38, 49, 53, 54, 55, 63] : List Nat).getD i 0
set_option maxRecDepth 20000 in
theorem ob_X6_strides_0 {x : ip_Cx} {G : ip_Gl} {d : Nat} (X : ip_X x G tb 2 d 0 0 RX6 cX6_strides) (hr : x.2.2.2.2.2.2.2.2.1.sig.returnType = (some .int)) (hnm : x.2.2.2.2.2.2.2.2.1.name = "strides") : ip_okB x G 2 pc_X6_strides 0 ([oLdA 0, oLdI 1, oI (0), oCaV (ip_call tb d) 0 0 6 124 3 0 0], tSw [(1, 1), (2, 7), (3, 2), (4, 6)] 7) := ⟨_, okC (ok_aldn X rfl dX6_strides_0)
  (okC (ok_ildn X rfl dX6_strides_1)
  (okC (ok_ic X (by decide) dX6_strides_2)
  (okC (ok_calV X (i := 195) (e := en_124) rfl mt_124 rfl rfl rfl tw_1006 tw_1008 (Or.inl ⟨_, _, rfl⟩) tp_24 dX6_strides_3)
  (okN)))), ok_tsw X (by decide) (by decide +kernel) (by decide) dX6_strides_6⟩
set_option maxRecDepth 20000 in
theorem ob_X6_strides_1 {x : ip_Cx} {G : ip_Gl} {d : Nat} (X : ip_X x G tb 2 d 0 0 RX6 cX6_strides) (hr : x.2.2.2.2.2.2.2.2.1.sig.returnType = (some .int)) (hnm : x.2.2.2.2.2.2.2.2.1.name = "strides") : ip_okB x G 2 pc_X6_strides 36 ([oI (2)], tRI .int 0 0) := ⟨_, okC (ok_ic X (by decide) dX6_strides_36)
  (okN), ok_ret X hr dX6_strides_37⟩
set_option maxRecDepth 20000 in
theorem ob_X6_strides_2 {x : ip_Cx} {G : ip_Gl} {d : Nat} (X : ip_X x G tb 2 d 0 0 RX6 cX6_strides) (hr : x.2.2.2.2.2.2.2.2.1.sig.returnType = (some .int)) (hnm : x.2.2.2.2.2.2.2.2.1.name = "strides") : ip_okB x G 2 pc_X6_strides 38 ([oLdA 0, oGet 6 0, oI (4), oAldI, oI (2), oDI (fun a b => a - a / b * b)], tIf (fun a => a = 0) 3 4) := ⟨_, okC (ok_aldn X rfl dX6_strides_38)
  (okC (ok_get X (ci := 6) rfl (by decide) iw_X6 tw_795 dX6_strides_39)
  (okC (ok_ic X (by decide) dX6_strides_42)
  (okC (ok_iald X dX6_strides_43)
  (okC (ok_ic X (by decide) dX6_strides_44)
  (okC (ok_irem X dX6_strides_45)
  (okN)))))), ok_ifne X (by decide) rfl dX6_strides_46⟩
set_option maxRecDepth 20000 in
theorem ob_X6_strides_3 {x : ip_Cx} {G : ip_Gl} {d : Nat} (X : ip_X x G tb 2 d 0 0 RX6 cX6_strides) (hr : x.2.2.2.2.2.2.2.2.1.sig.returnType = (some .int)) (hnm : x.2.2.2.2.2.2.2.2.1.name = "strides") : ip_okB x G 2 pc_X6_strides 49 ([oI (3)], tGo 5) := ⟨_, okC (ok_ic X (by decide) dX6_strides_49)
  (okN), ok_go X (by decide) dX6_strides_50⟩
set_option maxRecDepth 20000 in
theorem ob_X6_strides_4 {x : ip_Cx} {G : ip_Gl} {d : Nat} (X : ip_X x G tb 2 d 0 0 RX6 cX6_strides) (hr : x.2.2.2.2.2.2.2.2.1.sig.returnType = (some .int)) (hnm : x.2.2.2.2.2.2.2.2.1.name = "strides") : ip_okB x G 2 pc_X6_strides 53 ([oI (2)], tGo 5) := ⟨_, okC (ok_ic X (by decide) dX6_strides_53)
  (okN), ok_fall rfl⟩
set_option maxRecDepth 20000 in
theorem ob_X6_strides_5 {x : ip_Cx} {G : ip_Gl} {d : Nat} (X : ip_X x G tb 2 d 0 0 RX6 cX6_strides) (hr : x.2.2.2.2.2.2.2.2.1.sig.returnType = (some .int)) (hnm : x.2.2.2.2.2.2.2.2.1.name = "strides") : ip_okB x G 2 pc_X6_strides 54 ([], tRI .int 0 0) := ⟨_, okN, ok_ret X hr dX6_strides_54⟩
set_option maxRecDepth 20000 in
theorem ob_X6_strides_6 {x : ip_Cx} {G : ip_Gl} {d : Nat} (X : ip_X x G tb 2 d 0 0 RX6 cX6_strides) (hr : x.2.2.2.2.2.2.2.2.1.sig.returnType = (some .int)) (hnm : x.2.2.2.2.2.2.2.2.1.name = "strides") : ip_okB x G 2 pc_X6_strides 55 ([oI (1), oLdA 0, oLdI 1, oCaV (ip_call tb d) 0 0 6 151 2 0 0, oBI (fun a b => a + b)], tRI .int 0 0) := ⟨_, okC (ok_ic X (by decide) dX6_strides_55)
  (okC (ok_aldn X rfl dX6_strides_56)
  (okC (ok_ildn X rfl dX6_strides_57)
  (okC (ok_calV X (i := 201) (e := en_151) rfl mt_151 rfl rfl rfl tw_1018 tw_1020 (Or.inl ⟨_, _, rfl⟩) tp_26 dX6_strides_58)
  (okC (ok_iadd X dX6_strides_61)
  (okN))))), ok_ret X hr dX6_strides_62⟩
set_option maxRecDepth 20000 in
theorem ob_X6_strides_7 {x : ip_Cx} {G : ip_Gl} {d : Nat} (X : ip_X x G tb 2 d 0 0 RX6 cX6_strides) (hr : x.2.2.2.2.2.2.2.2.1.sig.returnType = (some .int)) (hnm : x.2.2.2.2.2.2.2.2.1.name = "strides") : ip_okB x G 2 pc_X6_strides 63 ([oI (1)], tRI .int 0 0) := ⟨_, okC (ok_ic X (by decide) dX6_strides_63)
  (okN), ok_ret X hr dX6_strides_64⟩
theorem om_154 : ip_MOk tb en_154 pc_X6_strides := fun x G d X hr hnm => ⟨ob_X6_strides_0 X hr hnm, ⟨ob_X6_strides_1 X hr hnm, ⟨ob_X6_strides_2 X hr hnm, ⟨ob_X6_strides_3 X hr hnm, ⟨ob_X6_strides_4 X hr hnm, ⟨ob_X6_strides_5 X hr hnm, ⟨ob_X6_strides_6 X hr hnm, ⟨ob_X6_strides_7 X hr hnm, trivial⟩⟩⟩⟩⟩⟩⟩⟩
theorem dX6_does_0 : decode cX6_does 0 = .ok (.aload_n 0, 1) := by decide +kernel
theorem dX6_does_1 : decode cX6_does 1 = .ok (.iload_n 1, 1) := by decide +kernel
theorem dX6_does_2 : decode cX6_does 2 = .ok (.invokevirtual 192, 3) := by decide +kernel
theorem dX6_does_5 : decode cX6_does 5 = .ok (.ifCond .ne 5, 3) := by decide +kernel
theorem dX6_does_8 : decode cX6_does 8 = .ok (.iconst (-1), 1) := by decide +kernel
theorem dX6_does_9 : decode cX6_does 9 = .ok (.ireturn, 1) := by decide +kernel
theorem dX6_does_10 : decode cX6_does 10 = .ok (.iload_n 2, 1) := by decide +kernel
theorem dX6_does_11 : decode cX6_does 11 = .ok (.tableswitch 75 0 3 #[29, 39, 49, 59], 29) := by decide +kernel
theorem dX6_does_40 : decode cX6_does 40 = .ok (.sipush 1000, 3) := by decide +kernel
theorem dX6_does_43 : decode cX6_does 43 = .ok (.aload_n 0, 1) := by decide +kernel
theorem dX6_does_44 : decode cX6_does 44 = .ok (.iload_n 1, 1) := by decide +kernel
theorem dX6_does_45 : decode cX6_does 45 = .ok (.invokevirtual 207, 3) := by decide +kernel
theorem dX6_does_48 : decode cX6_does 48 = .ok (.iadd, 1) := by decide +kernel
theorem dX6_does_49 : decode cX6_does 49 = .ok (.ireturn, 1) := by decide +kernel
theorem dX6_does_50 : decode cX6_does 50 = .ok (.sipush 1000, 3) := by decide +kernel
theorem dX6_does_53 : decode cX6_does 53 = .ok (.aload_n 0, 1) := by decide +kernel
theorem dX6_does_54 : decode cX6_does 54 = .ok (.iload_n 1, 1) := by decide +kernel
theorem dX6_does_55 : decode cX6_does 55 = .ok (.invokevirtual 210, 3) := by decide +kernel
theorem dX6_does_58 : decode cX6_does 58 = .ok (.iadd, 1) := by decide +kernel
theorem dX6_does_59 : decode cX6_does 59 = .ok (.ireturn, 1) := by decide +kernel
theorem dX6_does_60 : decode cX6_does 60 = .ok (.sipush 1000, 3) := by decide +kernel
theorem dX6_does_63 : decode cX6_does 63 = .ok (.aload_n 0, 1) := by decide +kernel
theorem dX6_does_64 : decode cX6_does 64 = .ok (.iload_n 1, 1) := by decide +kernel
theorem dX6_does_65 : decode cX6_does 65 = .ok (.invokevirtual 201, 3) := by decide +kernel
theorem dX6_does_68 : decode cX6_does 68 = .ok (.iadd, 1) := by decide +kernel
theorem dX6_does_69 : decode cX6_does 69 = .ok (.ireturn, 1) := by decide +kernel
theorem dX6_does_70 : decode cX6_does 70 = .ok (.sipush 1000, 3) := by decide +kernel
theorem dX6_does_73 : decode cX6_does 73 = .ok (.aload_n 0, 1) := by decide +kernel
theorem dX6_does_74 : decode cX6_does 74 = .ok (.iload_n 1, 1) := by decide +kernel
theorem dX6_does_75 : decode cX6_does 75 = .ok (.invokevirtual 204, 3) := by decide +kernel
theorem dX6_does_78 : decode cX6_does 78 = .ok (.iadd, 1) := by decide +kernel
theorem dX6_does_79 : decode cX6_does 79 = .ok (.aload_n 0, 1) := by decide +kernel
theorem dX6_does_80 : decode cX6_does 80 = .ok (.iload_n 1, 1) := by decide +kernel
theorem dX6_does_81 : decode cX6_does 81 = .ok (.invokevirtual 201, 3) := by decide +kernel
theorem dX6_does_84 : decode cX6_does 84 = .ok (.isub, 1) := by decide +kernel
theorem dX6_does_85 : decode cX6_does 85 = .ok (.ireturn, 1) := by decide +kernel
theorem dX6_does_86 : decode cX6_does 86 = .ok (.iconst (-1), 1) := by decide +kernel
theorem dX6_does_87 : decode cX6_does 87 = .ok (.ireturn, 1) := by decide +kernel
def pc_X6_does (i : Nat) : Nat := ([0, 8, 10, 40, 50, 60, 70, 86] : List Nat).getD i 0
set_option maxRecDepth 20000 in
theorem ob_X6_does_0 {x : ip_Cx} {G : ip_Gl} {d : Nat} (X : ip_X x G tb 3 d 0 0 RX6 cX6_does) (hr : x.2.2.2.2.2.2.2.2.1.sig.returnType = (some .int)) (hnm : x.2.2.2.2.2.2.2.2.1.name = "does") : ip_okB x G 3 pc_X6_does 0 ([oLdA 0, oLdI 1, oCaV (ip_call tb d) 0 0 6 123 2 0 0], tIf (fun a => a = 0) 1 2) := ⟨_, okC (ok_aldn X rfl dX6_does_0)
  (okC (ok_ildn X rfl dX6_does_1)
  (okC (ok_calV X (i := 192) (e := en_123) rfl mt_123 rfl rfl rfl tw_1002 tw_1004 (Or.inl ⟨_, _, rfl⟩) tp_23 dX6_does_2)
  (okN))), ok_ifne X (by decide) rfl dX6_does_5⟩
set_option maxRecDepth 20000 in
theorem ob_X6_does_1 {x : ip_Cx} {G : ip_Gl} {d : Nat} (X : ip_X x G tb 3 d 0 0 RX6 cX6_does) (hr : x.2.2.2.2.2.2.2.2.1.sig.returnType = (some .int)) (hnm : x.2.2.2.2.2.2.2.2.1.name = "does") : ip_okB x G 3 pc_X6_does 8 ([oI (-1)], tRI .int 0 0) := ⟨_, okC (ok_ic X (by decide) dX6_does_8)
  (okN), ok_ret X hr dX6_does_9⟩
set_option maxRecDepth 20000 in
theorem ob_X6_does_2 {x : ip_Cx} {G : ip_Gl} {d : Nat} (X : ip_X x G tb 3 d 0 0 RX6 cX6_does) (hr : x.2.2.2.2.2.2.2.2.1.sig.returnType = (some .int)) (hnm : x.2.2.2.2.2.2.2.2.1.name = "does") : ip_okB x G 3 pc_X6_does 10 ([oLdI 2], tSw [(0, 3), (1, 4), (2, 5), (3, 6)] 7) := ⟨_, okC (ok_ildn X rfl dX6_does_10)
  (okN), ok_tsw X (by decide) (by decide +kernel) (by decide) dX6_does_11⟩
set_option maxRecDepth 20000 in
theorem ob_X6_does_3 {x : ip_Cx} {G : ip_Gl} {d : Nat} (X : ip_X x G tb 3 d 0 0 RX6 cX6_does) (hr : x.2.2.2.2.2.2.2.2.1.sig.returnType = (some .int)) (hnm : x.2.2.2.2.2.2.2.2.1.name = "does") : ip_okB x G 3 pc_X6_does 40 ([oI (1000), oLdA 0, oLdI 1, oCaV (ip_call tb d) 0 0 6 153 2 0 0, oBI (fun a b => a + b)], tRI .int 0 0) := ⟨_, okC (ok_si X (by decide) dX6_does_40)
  (okC (ok_aldn X rfl dX6_does_43)
  (okC (ok_ildn X rfl dX6_does_44)
  (okC (ok_calV X (i := 207) (e := en_153) rfl mt_153 rfl rfl rfl tw_1014 tw_1016 (Or.inl ⟨_, _, rfl⟩) tp_25 dX6_does_45)
  (okC (ok_iadd X dX6_does_48)
  (okN))))), ok_ret X hr dX6_does_49⟩
set_option maxRecDepth 20000 in
theorem ob_X6_does_4 {x : ip_Cx} {G : ip_Gl} {d : Nat} (X : ip_X x G tb 3 d 0 0 RX6 cX6_does) (hr : x.2.2.2.2.2.2.2.2.1.sig.returnType = (some .int)) (hnm : x.2.2.2.2.2.2.2.2.1.name = "does") : ip_okB x G 3 pc_X6_does 50 ([oI (1000), oLdA 0, oLdI 1, oCaV (ip_call tb d) 0 0 6 154 2 0 0, oBI (fun a b => a + b)], tRI .int 0 0) := ⟨_, okC (ok_si X (by decide) dX6_does_50)
  (okC (ok_aldn X rfl dX6_does_53)
  (okC (ok_ildn X rfl dX6_does_54)
  (okC (ok_calV X (i := 210) (e := en_154) rfl mt_154 rfl rfl rfl tw_1029 tw_1031 (Or.inl ⟨_, _, rfl⟩) tp_28 dX6_does_55)
  (okC (ok_iadd X dX6_does_58)
  (okN))))), ok_ret X hr dX6_does_59⟩
set_option maxRecDepth 20000 in
theorem ob_X6_does_5 {x : ip_Cx} {G : ip_Gl} {d : Nat} (X : ip_X x G tb 3 d 0 0 RX6 cX6_does) (hr : x.2.2.2.2.2.2.2.2.1.sig.returnType = (some .int)) (hnm : x.2.2.2.2.2.2.2.2.1.name = "does") : ip_okB x G 3 pc_X6_does 60 ([oI (1000), oLdA 0, oLdI 1, oCaV (ip_call tb d) 0 0 6 151 2 0 0, oBI (fun a b => a + b)], tRI .int 0 0) := ⟨_, okC (ok_si X (by decide) dX6_does_60)
  (okC (ok_aldn X rfl dX6_does_63)
  (okC (ok_ildn X rfl dX6_does_64)
  (okC (ok_calV X (i := 201) (e := en_151) rfl mt_151 rfl rfl rfl tw_1018 tw_1020 (Or.inl ⟨_, _, rfl⟩) tp_26 dX6_does_65)
  (okC (ok_iadd X dX6_does_68)
  (okN))))), ok_ret X hr dX6_does_69⟩
set_option maxRecDepth 20000 in
theorem ob_X6_does_6 {x : ip_Cx} {G : ip_Gl} {d : Nat} (X : ip_X x G tb 3 d 0 0 RX6 cX6_does) (hr : x.2.2.2.2.2.2.2.2.1.sig.returnType = (some .int)) (hnm : x.2.2.2.2.2.2.2.2.1.name = "does") : ip_okB x G 3 pc_X6_does 70 ([oI (1000), oLdA 0, oLdI 1, oCaV (ip_call tb d) 0 0 6 152 2 0 0, oBI (fun a b => a + b), oLdA 0, oLdI 1, oCaV (ip_call tb d) 0 0 6 151 2 0 0, oBI (fun a b => a - b)], tRI .int 0 0) := ⟨_, okC (ok_si X (by decide) dX6_does_70)
  (okC (ok_aldn X rfl dX6_does_73)
  (okC (ok_ildn X rfl dX6_does_74)
  (okC (ok_calV X (i := 204) (e := en_152) rfl mt_152 rfl rfl rfl tw_1025 tw_1027 (Or.inl ⟨_, _, rfl⟩) tp_27 dX6_does_75)
  (okC (ok_iadd X dX6_does_78)
  (okC (ok_aldn X rfl dX6_does_79)
  (okC (ok_ildn X rfl dX6_does_80)
  (okC (ok_calV X (i := 201) (e := en_151) rfl mt_151 rfl rfl rfl tw_1018 tw_1020 (Or.inl ⟨_, _, rfl⟩) tp_26 dX6_does_81)
  (okC (ok_isub X dX6_does_84)
  (okN))))))))), ok_ret X hr dX6_does_85⟩
set_option maxRecDepth 20000 in
theorem ob_X6_does_7 {x : ip_Cx} {G : ip_Gl} {d : Nat} (X : ip_X x G tb 3 d 0 0 RX6 cX6_does) (hr : x.2.2.2.2.2.2.2.2.1.sig.returnType = (some .int)) (hnm : x.2.2.2.2.2.2.2.2.1.name = "does") : ip_okB x G 3 pc_X6_does 86 ([oI (-1)], tRI .int 0 0) := ⟨_, okC (ok_ic X (by decide) dX6_does_86)
  (okN), ok_ret X hr dX6_does_87⟩
theorem om_155 : ip_MOk tb en_155 pc_X6_does := fun x G d X hr hnm => ⟨ob_X6_does_0 X hr hnm, ⟨ob_X6_does_1 X hr hnm, ⟨ob_X6_does_2 X hr hnm, ⟨ob_X6_does_3 X hr hnm, ⟨ob_X6_does_4 X hr hnm, ⟨ob_X6_does_5 X hr hnm, ⟨ob_X6_does_6 X hr hnm, ⟨ob_X6_does_7 X hr hnm, trivial⟩⟩⟩⟩⟩⟩⟩⟩
theorem dX6_mind_0 : decode cX6_mind 0 = .ok (.aload_n 0, 1) := by decide +kernel
theorem dX6_mind_1 : decode cX6_mind 1 = .ok (.iload_n 1, 1) := by decide +kernel
theorem dX6_mind_2 : decode cX6_mind 2 = .ok (.invokevirtual 192, 3) := by decide +kernel
theorem dX6_mind_5 : decode cX6_mind 5 = .ok (.ifCond .eq 11, 3) := by decide +kernel
theorem dX6_mind_8 : decode cX6_mind 8 = .ok (.iload_n 2, 1) := by decide +kernel
theorem dX6_mind_9 : decode cX6_mind 9 = .ok (.iload_n 3, 1) := by decide +kernel
theorem dX6_mind_10 : decode cX6_mind 10 = .ok (.invokestatic 184, 3) := by decide +kernel
theorem dX6_mind_13 : decode cX6_mind 13 = .ok (.ifCond .ne 5, 3) := by decide +kernel
theorem dX6_mind_16 : decode cX6_mind 16 = .ok (.iconst (-1), 1) := by decide +kernel
theorem dX6_mind_17 : decode cX6_mind 17 = .ok (.ireturn, 1) := by decide +kernel
theorem dX6_mind_18 : decode cX6_mind 18 = .ok (.aload_n 0, 1) := by decide +kernel
theorem dX6_mind_19 : decode cX6_mind 19 = .ok (.iload_n 1, 1) := by decide +kernel
theorem dX6_mind_20 : decode cX6_mind 20 = .ok (.iconst 1, 1) := by decide +kernel
theorem dX6_mind_21 : decode cX6_mind 21 = .ok (.iload_n 3, 1) := by decide +kernel
theorem dX6_mind_22 : decode cX6_mind 22 = .ok (.invokevirtual 188, 3) := by decide +kernel
theorem dX6_mind_25 : decode cX6_mind 25 = .ok (.aload_n 0, 1) := by decide +kernel
theorem dX6_mind_26 : decode cX6_mind 26 = .ok (.bipush 8, 2) := by decide +kernel
theorem dX6_mind_28 : decode cX6_mind 28 = .ok (.bipush 6, 2) := by decide +kernel
theorem dX6_mind_30 : decode cX6_mind 30 = .ok (.iload_n 1, 1) := by decide +kernel
theorem dX6_mind_31 : decode cX6_mind 31 = .ok (.imul, 1) := by decide +kernel
theorem dX6_mind_32 : decode cX6_mind 32 = .ok (.iadd, 1) := by decide +kernel
theorem dX6_mind_33 : decode cX6_mind 33 = .ok (.iload_n 2, 1) := by decide +kernel
theorem dX6_mind_34 : decode cX6_mind 34 = .ok (.invokevirtual 181, 3) := by decide +kernel
theorem dX6_mind_37 : decode cX6_mind 37 = .ok (.ireturn, 1) := by decide +kernel
def pc_X6_mind (i : Nat) : Nat := ([0, 8, 16, 18] : List Nat).getD i 0
set_option maxRecDepth 20000 in
theorem ob_X6_mind_0 {x : ip_Cx} {G : ip_Gl} {d : Nat} (X : ip_X x G tb 4 d 0 0 RX6 cX6_mind) (hr : x.2.2.2.2.2.2.2.2.1.sig.returnType = (some .int)) (hnm : x.2.2.2.2.2.2.2.2.1.name = "mind") : ip_okB x G 4 pc_X6_mind 0 ([oLdA 0, oLdI 1, oCaV (ip_call tb d) 0 0 6 123 2 0 0], tIf (fun a => a = 0) 2 1) := ⟨_, okC (ok_aldn X rfl dX6_mind_0)
  (okC (ok_ildn X rfl dX6_mind_1)
  (okC (ok_calV X (i := 192) (e := en_123) rfl mt_123 rfl rfl rfl tw_1002 tw_1004 (Or.inl ⟨_, _, rfl⟩) tp_23 dX6_mind_2)
  (okN))), ok_ifeq X (by decide) rfl dX6_mind_5⟩
set_option maxRecDepth 20000 in
theorem ob_X6_mind_1 {x : ip_Cx} {G : ip_Gl} {d : Nat} (X : ip_X x G tb 4 d 0 0 RX6 cX6_mind) (hr : x.2.2.2.2.2.2.2.2.1.sig.returnType = (some .int)) (hnm : x.2.2.2.2.2.2.2.2.1.name = "mind") : ip_okB x G 4 pc_X6_mind 8 ([oLdI 2, oLdI 3, oCal (ip_call tb d) 0 0 148 2 0 0], tIf (fun a => a = 0) 2 3) := ⟨_, okC (ok_ildn X rfl dX6_mind_8)
  (okC (ok_ildn X rfl dX6_mind_9)
  (okC (ok_calS X (i := 184) (e := en_148) rfl mt_148 rfl rfl rfl tw_991 tw_992 dX6_mind_10)
  (okN))), ok_ifne X (by decide) rfl dX6_mind_13⟩
set_option maxRecDepth 20000 in
theorem ob_X6_mind_2 {x : ip_Cx} {G : ip_Gl} {d : Nat} (X : ip_X x G tb 4 d 0 0 RX6 cX6_mind) (hr : x.2.2.2.2.2.2.2.2.1.sig.returnType = (some .int)) (hnm : x.2.2.2.2.2.2.2.2.1.name = "mind") : ip_okB x G 4 pc_X6_mind 16 ([oI (-1)], tRI .int 0 0) := ⟨_, okC (ok_ic X (by decide) dX6_mind_16)
  (okN), ok_ret X hr dX6_mind_17⟩
set_option maxRecDepth 20000 in
theorem ob_X6_mind_3 {x : ip_Cx} {G : ip_Gl} {d : Nat} (X : ip_X x G tb 4 d 0 0 RX6 cX6_mind) (hr : x.2.2.2.2.2.2.2.2.1.sig.returnType = (some .int)) (hnm : x.2.2.2.2.2.2.2.2.1.name = "mind") : ip_okB x G 4 pc_X6_mind 18 ([oLdA 0, oLdI 1, oI (1), oLdI 3, oCaV (ip_call tb d) 0 0 6 125 4 0 0, oLdA 0, oI (8), oI (6), oLdI 1, oBI (fun a b => a * b), oBI (fun a b => a + b), oLdI 2, oCaV (ip_call tb d) 0 0 6 126 3 0 0], tRI .int 0 0) := ⟨_, okC (ok_aldn X rfl dX6_mind_18)
  (okC (ok_ildn X rfl dX6_mind_19)
  (okC (ok_ic X (by decide) dX6_mind_20)
  (okC (ok_ildn X rfl dX6_mind_21)
  (okC (ok_calV X (i := 188) (e := en_125) rfl mt_125 rfl rfl rfl tw_994 tw_996 (Or.inl ⟨_, _, rfl⟩) tp_22 dX6_mind_22)
  (okC (ok_aldn X rfl dX6_mind_25)
  (okC (ok_bi X (by decide) dX6_mind_26)
  (okC (ok_bi X (by decide) dX6_mind_28)
  (okC (ok_ildn X rfl dX6_mind_30)
  (okC (ok_imul X dX6_mind_31)
  (okC (ok_iadd X dX6_mind_32)
  (okC (ok_ildn X rfl dX6_mind_33)
  (okC (ok_calV X (i := 181) (e := en_126) rfl mt_126 rfl rfl rfl tw_975 tw_977 (Or.inl ⟨_, _, rfl⟩) tp_21 dX6_mind_34)
  (okN))))))))))))), ok_ret X hr dX6_mind_37⟩
theorem om_156 : ip_MOk tb en_156 pc_X6_mind := fun x G d X hr hnm => ⟨ob_X6_mind_0 X hr hnm, ⟨ob_X6_mind_1 X hr hnm, ⟨ob_X6_mind_2 X hr hnm, ⟨ob_X6_mind_3 X hr hnm, trivial⟩⟩⟩⟩
theorem dX6_say_0 : decode cX6_say 0 = .ok (.aload_n 0, 1) := by decide +kernel
theorem dX6_say_1 : decode cX6_say 1 = .ok (.iload_n 1, 1) := by decide +kernel
theorem dX6_say_2 : decode cX6_say 2 = .ok (.invokevirtual 192, 3) := by decide +kernel
theorem dX6_say_5 : decode cX6_say 5 = .ok (.ifCond .eq 31, 3) := by decide +kernel
theorem dX6_say_8 : decode cX6_say 8 = .ok (.iload_n 2, 1) := by decide +kernel
theorem dX6_say_9 : decode cX6_say 9 = .ok (.iconst 0, 1) := by decide +kernel
theorem dX6_say_10 : decode cX6_say 10 = .ok (.sipush 255, 3) := by decide +kernel
theorem dX6_say_13 : decode cX6_say 13 = .ok (.invokestatic 57, 3) := by decide +kernel
theorem dX6_say_16 : decode cX6_say 16 = .ok (.ifCond .eq 20, 3) := by decide +kernel
theorem dX6_say_19 : decode cX6_say 19 = .ok (.iload_n 3, 1) := by decide +kernel
theorem dX6_say_20 : decode cX6_say 20 = .ok (.iconst 0, 1) := by decide +kernel
theorem dX6_say_21 : decode cX6_say 21 = .ok (.sipush 255, 3) := by decide +kernel
theorem dX6_say_24 : decode cX6_say 24 = .ok (.invokestatic 57, 3) := by decide +kernel
theorem dX6_say_27 : decode cX6_say 27 = .ok (.ifCond .eq 9, 3) := by decide +kernel
theorem dX6_say_30 : decode cX6_say 30 = .ok (.iload_n 2, 1) := by decide +kernel
theorem dX6_say_31 : decode cX6_say 31 = .ok (.iload_n 3, 1) := by decide +kernel
theorem dX6_say_32 : decode cX6_say 32 = .ok (.iand, 1) := by decide +kernel
theorem dX6_say_33 : decode cX6_say 33 = .ok (.ifCond .eq 5, 3) := by decide +kernel
theorem dX6_say_36 : decode cX6_say 36 = .ok (.iconst (-1), 1) := by decide +kernel
theorem dX6_say_37 : decode cX6_say 37 = .ok (.ireturn, 1) := by decide +kernel
theorem dX6_say_38 : decode cX6_say 38 = .ok (.aload_n 0, 1) := by decide +kernel
theorem dX6_say_39 : decode cX6_say 39 = .ok (.iload_n 1, 1) := by decide +kernel
theorem dX6_say_40 : decode cX6_say 40 = .ok (.invokevirtual 204, 3) := by decide +kernel
theorem dX6_say_43 : decode cX6_say 43 = .ok (.istore 4, 2) := by decide +kernel
theorem dX6_say_45 : decode cX6_say 45 = .ok (.aload_n 0, 1) := by decide +kernel
theorem dX6_say_46 : decode cX6_say 46 = .ok (.iload_n 1, 1) := by decide +kernel
theorem dX6_say_47 : decode cX6_say 47 = .ok (.iconst 3, 1) := by decide +kernel
theorem dX6_say_48 : decode cX6_say 48 = .ok (.iload_n 2, 1) := by decide +kernel
theorem dX6_say_49 : decode cX6_say 49 = .ok (.invokevirtual 188, 3) := by decide +kernel
theorem dX6_say_52 : decode cX6_say 52 = .ok (.aload_n 0, 1) := by decide +kernel
theorem dX6_say_53 : decode cX6_say 53 = .ok (.iload_n 1, 1) := by decide +kernel
theorem dX6_say_54 : decode cX6_say 54 = .ok (.iconst 4, 1) := by decide +kernel
theorem dX6_say_55 : decode cX6_say 55 = .ok (.iload_n 3, 1) := by decide +kernel
theorem dX6_say_56 : decode cX6_say 56 = .ok (.invokevirtual 188, 3) := by decide +kernel
theorem dX6_say_59 : decode cX6_say 59 = .ok (.iload 4, 2) := by decide +kernel
theorem dX6_say_61 : decode cX6_say 61 = .ok (.ireturn, 1) := by decide +kernel
def pc_X6_say (i : Nat) : Nat := ([0, 8, 19, 30, 36, 38] : List Nat).getD i 0
set_option maxRecDepth 20000 in
theorem ob_X6_say_0 {x : ip_Cx} {G : ip_Gl} {d : Nat} (X : ip_X x G tb 5 d 0 0 RX6 cX6_say) (hr : x.2.2.2.2.2.2.2.2.1.sig.returnType = (some .int)) (hnm : x.2.2.2.2.2.2.2.2.1.name = "say") : ip_okB x G 5 pc_X6_say 0 ([oLdA 0, oLdI 1, oCaV (ip_call tb d) 0 0 6 123 2 0 0], tIf (fun a => a = 0) 4 1) := ⟨_, okC (ok_aldn X rfl dX6_say_0)
  (okC (ok_ildn X rfl dX6_say_1)
  (okC (ok_calV X (i := 192) (e := en_123) rfl mt_123 rfl rfl rfl tw_1002 tw_1004 (Or.inl ⟨_, _, rfl⟩) tp_23 dX6_say_2)
  (okN))), ok_ifeq X (by decide) rfl dX6_say_5⟩
set_option maxRecDepth 20000 in
theorem ob_X6_say_1 {x : ip_Cx} {G : ip_Gl} {d : Nat} (X : ip_X x G tb 5 d 0 0 RX6 cX6_say) (hr : x.2.2.2.2.2.2.2.2.1.sig.returnType = (some .int)) (hnm : x.2.2.2.2.2.2.2.2.1.name = "say") : ip_okB x G 5 pc_X6_say 8 ([oLdI 2, oI (0), oI (255), oCal (ip_call tb d) 0 0 120 3 0 0], tIf (fun a => a = 0) 4 2) := ⟨_, okC (ok_ildn X rfl dX6_say_8)
  (okC (ok_ic X (by decide) dX6_say_9)
  (okC (ok_si X (by decide) dX6_say_10)
  (okC (ok_calS X (i := 57) (e := en_120) rfl mt_120 rfl rfl rfl tw_885 tw_886 dX6_say_13)
  (okN)))), ok_ifeq X (by decide) rfl dX6_say_16⟩
set_option maxRecDepth 20000 in
theorem ob_X6_say_2 {x : ip_Cx} {G : ip_Gl} {d : Nat} (X : ip_X x G tb 5 d 0 0 RX6 cX6_say) (hr : x.2.2.2.2.2.2.2.2.1.sig.returnType = (some .int)) (hnm : x.2.2.2.2.2.2.2.2.1.name = "say") : ip_okB x G 5 pc_X6_say 19 ([oLdI 3, oI (0), oI (255), oCal (ip_call tb d) 0 0 120 3 0 0], tIf (fun a => a = 0) 4 3) := ⟨_, okC (ok_ildn X rfl dX6_say_19)
  (okC (ok_ic X (by decide) dX6_say_20)
  (okC (ok_si X (by decide) dX6_say_21)
  (okC (ok_calS X (i := 57) (e := en_120) rfl mt_120 rfl rfl rfl tw_885 tw_886 dX6_say_24)
  (okN)))), ok_ifeq X (by decide) rfl dX6_say_27⟩
set_option maxRecDepth 20000 in
theorem ob_X6_say_3 {x : ip_Cx} {G : ip_Gl} {d : Nat} (X : ip_X x G tb 5 d 0 0 RX6 cX6_say) (hr : x.2.2.2.2.2.2.2.2.1.sig.returnType = (some .int)) (hnm : x.2.2.2.2.2.2.2.2.1.name = "say") : ip_okB x G 5 pc_X6_say 30 ([oLdI 2, oLdI 3, oBI (fun a b => a &&& b)], tIf (fun a => a = 0) 5 4) := ⟨_, okC (ok_ildn X rfl dX6_say_30)
  (okC (ok_ildn X rfl dX6_say_31)
  (okC (ok_iand X dX6_say_32)
  (okN))), ok_ifeq X (by decide) rfl dX6_say_33⟩
set_option maxRecDepth 20000 in
theorem ob_X6_say_4 {x : ip_Cx} {G : ip_Gl} {d : Nat} (X : ip_X x G tb 5 d 0 0 RX6 cX6_say) (hr : x.2.2.2.2.2.2.2.2.1.sig.returnType = (some .int)) (hnm : x.2.2.2.2.2.2.2.2.1.name = "say") : ip_okB x G 5 pc_X6_say 36 ([oI (-1)], tRI .int 0 0) := ⟨_, okC (ok_ic X (by decide) dX6_say_36)
  (okN), ok_ret X hr dX6_say_37⟩
set_option maxRecDepth 20000 in
theorem ob_X6_say_5 {x : ip_Cx} {G : ip_Gl} {d : Nat} (X : ip_X x G tb 5 d 0 0 RX6 cX6_say) (hr : x.2.2.2.2.2.2.2.2.1.sig.returnType = (some .int)) (hnm : x.2.2.2.2.2.2.2.2.1.name = "say") : ip_okB x G 5 pc_X6_say 38 ([oLdA 0, oLdI 1, oCaV (ip_call tb d) 0 0 6 152 2 0 0, oStI 4, oLdA 0, oLdI 1, oI (3), oLdI 2, oCaV (ip_call tb d) 0 0 6 125 4 0 0, oLdA 0, oLdI 1, oI (4), oLdI 3, oCaV (ip_call tb d) 0 0 6 125 4 0 0, oLdI 4], tRI .int 0 0) := ⟨_, okC (ok_aldn X rfl dX6_say_38)
  (okC (ok_ildn X rfl dX6_say_39)
  (okC (ok_calV X (i := 204) (e := en_152) rfl mt_152 rfl rfl rfl tw_1025 tw_1027 (Or.inl ⟨_, _, rfl⟩) tp_27 dX6_say_40)
  (okC (ok_ist X (by decide) dX6_say_43)
  (okC (ok_aldn X rfl dX6_say_45)
  (okC (ok_ildn X rfl dX6_say_46)
  (okC (ok_ic X (by decide) dX6_say_47)
  (okC (ok_ildn X rfl dX6_say_48)
  (okC (ok_calV X (i := 188) (e := en_125) rfl mt_125 rfl rfl rfl tw_994 tw_996 (Or.inl ⟨_, _, rfl⟩) tp_22 dX6_say_49)
  (okC (ok_aldn X rfl dX6_say_52)
  (okC (ok_ildn X rfl dX6_say_53)
  (okC (ok_ic X (by decide) dX6_say_54)
  (okC (ok_ildn X rfl dX6_say_55)
  (okC (ok_calV X (i := 188) (e := en_125) rfl mt_125 rfl rfl rfl tw_994 tw_996 (Or.inl ⟨_, _, rfl⟩) tp_22 dX6_say_56)
  (okC (ok_ild X dX6_say_59)
  (okN))))))))))))))), ok_ret X hr dX6_say_61⟩
theorem om_157 : ip_MOk tb en_157 pc_X6_say := fun x G d X hr hnm => ⟨ob_X6_say_0 X hr hnm, ⟨ob_X6_say_1 X hr hnm, ⟨ob_X6_say_2 X hr hnm, ⟨ob_X6_say_3 X hr hnm, ⟨ob_X6_say_4 X hr hnm, ⟨ob_X6_say_5 X hr hnm, trivial⟩⟩⟩⟩⟩⟩
theorem dX6_stand_0 : decode cX6_stand 0 = .ok (.aload_n 0, 1) := by decide +kernel
theorem dX6_stand_1 : decode cX6_stand 1 = .ok (.iload_n 1, 1) := by decide +kernel
theorem dX6_stand_2 : decode cX6_stand 2 = .ok (.invokevirtual 192, 3) := by decide +kernel
theorem dX6_stand_5 : decode cX6_stand 5 = .ok (.ifCond .eq 13, 3) := by decide +kernel
theorem dX6_stand_8 : decode cX6_stand 8 = .ok (.iload_n 2, 1) := by decide +kernel
theorem dX6_stand_9 : decode cX6_stand 9 = .ok (.iconst 0, 1) := by decide +kernel
theorem dX6_stand_10 : decode cX6_stand 10 = .ok (.bipush 20, 2) := by decide +kernel
theorem dX6_stand_12 : decode cX6_stand 12 = .ok (.invokestatic 57, 3) := by decide +kernel
theorem dX6_stand_15 : decode cX6_stand 15 = .ok (.ifCond .ne 5, 3) := by decide +kernel
theorem dX6_stand_18 : decode cX6_stand 18 = .ok (.iconst (-1), 1) := by decide +kernel
theorem dX6_stand_19 : decode cX6_stand 19 = .ok (.ireturn, 1) := by decide +kernel
theorem dX6_stand_20 : decode cX6_stand 20 = .ok (.aload_n 0, 1) := by decide +kernel
theorem dX6_stand_21 : decode cX6_stand 21 = .ok (.iload_n 1, 1) := by decide +kernel
theorem dX6_stand_22 : decode cX6_stand 22 = .ok (.iconst 5, 1) := by decide +kernel
theorem dX6_stand_23 : decode cX6_stand 23 = .ok (.iconst 0, 1) := by decide +kernel
theorem dX6_stand_24 : decode cX6_stand 24 = .ok (.invokevirtual 188, 3) := by decide +kernel
theorem dX6_stand_27 : decode cX6_stand 27 = .ok (.aload_n 0, 1) := by decide +kernel
theorem dX6_stand_28 : decode cX6_stand 28 = .ok (.bipush 8, 2) := by decide +kernel
theorem dX6_stand_30 : decode cX6_stand 30 = .ok (.bipush 6, 2) := by decide +kernel
theorem dX6_stand_32 : decode cX6_stand 32 = .ok (.iload_n 1, 1) := by decide +kernel
theorem dX6_stand_33 : decode cX6_stand 33 = .ok (.imul, 1) := by decide +kernel
theorem dX6_stand_34 : decode cX6_stand 34 = .ok (.iadd, 1) := by decide +kernel
theorem dX6_stand_35 : decode cX6_stand 35 = .ok (.iconst 2, 1) := by decide +kernel
theorem dX6_stand_36 : decode cX6_stand 36 = .ok (.iadd, 1) := by decide +kernel
theorem dX6_stand_37 : decode cX6_stand 37 = .ok (.iload_n 2, 1) := by decide +kernel
theorem dX6_stand_38 : decode cX6_stand 38 = .ok (.invokevirtual 181, 3) := by decide +kernel
theorem dX6_stand_41 : decode cX6_stand 41 = .ok (.ireturn, 1) := by decide +kernel
def pc_X6_stand (i : Nat) : Nat := ([0, 8, 18, 20] : List Nat).getD i 0
set_option maxRecDepth 20000 in
theorem ob_X6_stand_0 {x : ip_Cx} {G : ip_Gl} {d : Nat} (X : ip_X x G tb 3 d 0 0 RX6 cX6_stand) (hr : x.2.2.2.2.2.2.2.2.1.sig.returnType = (some .int)) (hnm : x.2.2.2.2.2.2.2.2.1.name = "stand") : ip_okB x G 3 pc_X6_stand 0 ([oLdA 0, oLdI 1, oCaV (ip_call tb d) 0 0 6 123 2 0 0], tIf (fun a => a = 0) 2 1) := ⟨_, okC (ok_aldn X rfl dX6_stand_0)
  (okC (ok_ildn X rfl dX6_stand_1)
  (okC (ok_calV X (i := 192) (e := en_123) rfl mt_123 rfl rfl rfl tw_1002 tw_1004 (Or.inl ⟨_, _, rfl⟩) tp_23 dX6_stand_2)
  (okN))), ok_ifeq X (by decide) rfl dX6_stand_5⟩
set_option maxRecDepth 20000 in
theorem ob_X6_stand_1 {x : ip_Cx} {G : ip_Gl} {d : Nat} (X : ip_X x G tb 3 d 0 0 RX6 cX6_stand) (hr : x.2.2.2.2.2.2.2.2.1.sig.returnType = (some .int)) (hnm : x.2.2.2.2.2.2.2.2.1.name = "stand") : ip_okB x G 3 pc_X6_stand 8 ([oLdI 2, oI (0), oI (20), oCal (ip_call tb d) 0 0 120 3 0 0], tIf (fun a => a = 0) 2 3) := ⟨_, okC (ok_ildn X rfl dX6_stand_8)
  (okC (ok_ic X (by decide) dX6_stand_9)
  (okC (ok_bi X (by decide) dX6_stand_10)
  (okC (ok_calS X (i := 57) (e := en_120) rfl mt_120 rfl rfl rfl tw_885 tw_886 dX6_stand_12)
  (okN)))), ok_ifne X (by decide) rfl dX6_stand_15⟩
set_option maxRecDepth 20000 in
theorem ob_X6_stand_2 {x : ip_Cx} {G : ip_Gl} {d : Nat} (X : ip_X x G tb 3 d 0 0 RX6 cX6_stand) (hr : x.2.2.2.2.2.2.2.2.1.sig.returnType = (some .int)) (hnm : x.2.2.2.2.2.2.2.2.1.name = "stand") : ip_okB x G 3 pc_X6_stand 18 ([oI (-1)], tRI .int 0 0) := ⟨_, okC (ok_ic X (by decide) dX6_stand_18)
  (okN), ok_ret X hr dX6_stand_19⟩
set_option maxRecDepth 20000 in
theorem ob_X6_stand_3 {x : ip_Cx} {G : ip_Gl} {d : Nat} (X : ip_X x G tb 3 d 0 0 RX6 cX6_stand) (hr : x.2.2.2.2.2.2.2.2.1.sig.returnType = (some .int)) (hnm : x.2.2.2.2.2.2.2.2.1.name = "stand") : ip_okB x G 3 pc_X6_stand 20 ([oLdA 0, oLdI 1, oI (5), oI (0), oCaV (ip_call tb d) 0 0 6 125 4 0 0, oLdA 0, oI (8), oI (6), oLdI 1, oBI (fun a b => a * b), oBI (fun a b => a + b), oI (2), oBI (fun a b => a + b), oLdI 2, oCaV (ip_call tb d) 0 0 6 126 3 0 0], tRI .int 0 0) := ⟨_, okC (ok_aldn X rfl dX6_stand_20)
  (okC (ok_ildn X rfl dX6_stand_21)
  (okC (ok_ic X (by decide) dX6_stand_22)
  (okC (ok_ic X (by decide) dX6_stand_23)
  (okC (ok_calV X (i := 188) (e := en_125) rfl mt_125 rfl rfl rfl tw_994 tw_996 (Or.inl ⟨_, _, rfl⟩) tp_22 dX6_stand_24)
  (okC (ok_aldn X rfl dX6_stand_27)
  (okC (ok_bi X (by decide) dX6_stand_28)
  (okC (ok_bi X (by decide) dX6_stand_30)
  (okC (ok_ildn X rfl dX6_stand_32)
  (okC (ok_imul X dX6_stand_33)
  (okC (ok_iadd X dX6_stand_34)
  (okC (ok_ic X (by decide) dX6_stand_35)
  (okC (ok_iadd X dX6_stand_36)
  (okC (ok_ildn X rfl dX6_stand_37)
  (okC (ok_calV X (i := 181) (e := en_126) rfl mt_126 rfl rfl rfl tw_975 tw_977 (Or.inl ⟨_, _, rfl⟩) tp_21 dX6_stand_38)
  (okN))))))))))))))), ok_ret X hr dX6_stand_41⟩
theorem om_158 : ip_MOk tb en_158 pc_X6_stand := fun x G d X hr hnm => ⟨ob_X6_stand_0 X hr hnm, ⟨ob_X6_stand_1 X hr hnm, ⟨ob_X6_stand_2 X hr hnm, ⟨ob_X6_stand_3 X hr hnm, trivial⟩⟩⟩⟩
theorem dX6_isAcross_0 : decode cX6_isAcross 0 = .ok (.aload_n 0, 1) := by decide +kernel
theorem dX6_isAcross_1 : decode cX6_isAcross 1 = .ok (.iload_n 1, 1) := by decide +kernel
theorem dX6_isAcross_2 : decode cX6_isAcross 2 = .ok (.iconst 2, 1) := by decide +kernel
theorem dX6_isAcross_3 : decode cX6_isAcross 3 = .ok (.invokevirtual 195, 3) := by decide +kernel
theorem dX6_isAcross_6 : decode cX6_isAcross 6 = .ok (.bipush 20, 2) := by decide +kernel
theorem dX6_isAcross_8 : decode cX6_isAcross 8 = .ok (.if_icmp .ne 7, 3) := by decide +kernel
theorem dX6_isAcross_11 : decode cX6_isAcross 11 = .ok (.iconst 1, 1) := by decide +kernel
theorem dX6_isAcross_12 : decode cX6_isAcross 12 = .ok (.goto 4, 3) := by decide +kernel
theorem dX6_isAcross_15 : decode cX6_isAcross 15 = .ok (.iconst 0, 1) := by decide +kernel
theorem dX6_isAcross_16 : decode cX6_isAcross 16 = .ok (.ireturn, 1) := by decide +kernel
def pc_X6_isAcross (i : Nat) : Nat := ([0, 11, 15, 16] : List Nat).getD i 0
set_option maxRecDepth 20000 in
theorem ob_X6_isAcross_0 {x : ip_Cx} {G : ip_Gl} {d : Nat} (X : ip_X x G tb 2 d 0 0 RX6 cX6_isAcross) (hr : x.2.2.2.2.2.2.2.2.1.sig.returnType = (some .boolean)) (hnm : x.2.2.2.2.2.2.2.2.1.name = "isAcross") : ip_okB x G 2 pc_X6_isAcross 0 ([oLdA 0, oLdI 1, oI (2), oCaV (ip_call tb d) 0 0 6 124 3 0 0, oI (20)], tCm (fun a b => a = b) 1 2) := ⟨_, okC (ok_aldn X rfl dX6_isAcross_0)
  (okC (ok_ildn X rfl dX6_isAcross_1)
  (okC (ok_ic X (by decide) dX6_isAcross_2)
  (okC (ok_calV X (i := 195) (e := en_124) rfl mt_124 rfl rfl rfl tw_1006 tw_1008 (Or.inl ⟨_, _, rfl⟩) tp_24 dX6_isAcross_3)
  (okC (ok_bi X (by decide) dX6_isAcross_6)
  (okN))))), ok_cmne X (by decide) rfl dX6_isAcross_8⟩
set_option maxRecDepth 20000 in
theorem ob_X6_isAcross_1 {x : ip_Cx} {G : ip_Gl} {d : Nat} (X : ip_X x G tb 2 d 0 0 RX6 cX6_isAcross) (hr : x.2.2.2.2.2.2.2.2.1.sig.returnType = (some .boolean)) (hnm : x.2.2.2.2.2.2.2.2.1.name = "isAcross") : ip_okB x G 2 pc_X6_isAcross 11 ([oI (1)], tGo 3) := ⟨_, okC (ok_ic X (by decide) dX6_isAcross_11)
  (okN), ok_go X (by decide) dX6_isAcross_12⟩
set_option maxRecDepth 20000 in
theorem ob_X6_isAcross_2 {x : ip_Cx} {G : ip_Gl} {d : Nat} (X : ip_X x G tb 2 d 0 0 RX6 cX6_isAcross) (hr : x.2.2.2.2.2.2.2.2.1.sig.returnType = (some .boolean)) (hnm : x.2.2.2.2.2.2.2.2.1.name = "isAcross") : ip_okB x G 2 pc_X6_isAcross 15 ([oI (0)], tGo 3) := ⟨_, okC (ok_ic X (by decide) dX6_isAcross_15)
  (okN), ok_fall rfl⟩
set_option maxRecDepth 20000 in
theorem ob_X6_isAcross_3 {x : ip_Cx} {G : ip_Gl} {d : Nat} (X : ip_X x G tb 2 d 0 0 RX6 cX6_isAcross) (hr : x.2.2.2.2.2.2.2.2.1.sig.returnType = (some .boolean)) (hnm : x.2.2.2.2.2.2.2.2.1.name = "isAcross") : ip_okB x G 2 pc_X6_isAcross 16 ([], tRI .boolean 0 0) := ⟨_, okN, ok_ret X hr dX6_isAcross_16⟩
theorem om_159 : ip_MOk tb en_159 pc_X6_isAcross := fun x G d X hr hnm => ⟨ob_X6_isAcross_0 X hr hnm, ⟨ob_X6_isAcross_1 X hr hnm, ⟨ob_X6_isAcross_2 X hr hnm, ⟨ob_X6_isAcross_3 X hr hnm, trivial⟩⟩⟩⟩
theorem dX6_isDone_0 : decode cX6_isDone 0 = .ok (.aload_n 0, 1) := by decide +kernel
theorem dX6_isDone_1 : decode cX6_isDone 1 = .ok (.iload_n 1, 1) := by decide +kernel
theorem dX6_isDone_2 : decode cX6_isDone 2 = .ok (.invokevirtual 213, 3) := by decide +kernel
theorem dX6_isDone_5 : decode cX6_isDone 5 = .ok (.ifCond .ne 13, 3) := by decide +kernel
theorem dX6_isDone_8 : decode cX6_isDone 8 = .ok (.aload_n 0, 1) := by decide +kernel
theorem dX6_isDone_9 : decode cX6_isDone 9 = .ok (.iload_n 1, 1) := by decide +kernel
theorem dX6_isDone_10 : decode cX6_isDone 10 = .ok (.iconst 5, 1) := by decide +kernel
theorem dX6_isDone_11 : decode cX6_isDone 11 = .ok (.invokevirtual 195, 3) := by decide +kernel
theorem dX6_isDone_14 : decode cX6_isDone 14 = .ok (.iconst 1, 1) := by decide +kernel
theorem dX6_isDone_15 : decode cX6_isDone 15 = .ok (.if_icmp .ne 7, 3) := by decide +kernel
theorem dX6_isDone_18 : decode cX6_isDone 18 = .ok (.iconst 1, 1) := by decide +kernel
theorem dX6_isDone_19 : decode cX6_isDone 19 = .ok (.goto 4, 3) := by decide +kernel
theorem dX6_isDone_22 : decode cX6_isDone 22 = .ok (.iconst 0, 1) := by decide +kernel
theorem dX6_isDone_23 : decode cX6_isDone 23 = .ok (.ireturn, 1) := by decide +kernel
def pc_X6_isDone (i : Nat) : Nat := ([0, 8, 18, 22, 23] : List Nat).getD i 0
set_option maxRecDepth 20000 in
theorem ob_X6_isDone_0 {x : ip_Cx} {G : ip_Gl} {d : Nat} (X : ip_X x G tb 2 d 0 0 RX6 cX6_isDone) (hr : x.2.2.2.2.2.2.2.2.1.sig.returnType = (some .boolean)) (hnm : x.2.2.2.2.2.2.2.2.1.name = "isDone") : ip_okB x G 2 pc_X6_isDone 0 ([oLdA 0, oLdI 1, oCaV (ip_call tb d) 0 0 6 159 2 0 0], tIf (fun a => a = 0) 1 2) := ⟨_, okC (ok_aldn X rfl dX6_isDone_0)
  (okC (ok_ildn X rfl dX6_isDone_1)
  (okC (ok_calV X (i := 213) (e := en_159) rfl mt_159 rfl rfl rfl tw_1061 tw_1063 (Or.inl ⟨_, _, rfl⟩) tp_32 dX6_isDone_2)
  (okN))), ok_ifne X (by decide) rfl dX6_isDone_5⟩
set_option maxRecDepth 20000 in
theorem ob_X6_isDone_1 {x : ip_Cx} {G : ip_Gl} {d : Nat} (X : ip_X x G tb 2 d 0 0 RX6 cX6_isDone) (hr : x.2.2.2.2.2.2.2.2.1.sig.returnType = (some .boolean)) (hnm : x.2.2.2.2.2.2.2.2.1.name = "isDone") : ip_okB x G 2 pc_X6_isDone 8 ([oLdA 0, oLdI 1, oI (5), oCaV (ip_call tb d) 0 0 6 124 3 0 0, oI (1)], tCm (fun a b => a = b) 2 3) := ⟨_, okC (ok_aldn X rfl dX6_isDone_8)
  (okC (ok_ildn X rfl dX6_isDone_9)
  (okC (ok_ic X (by decide) dX6_isDone_10)
  (okC (ok_calV X (i := 195) (e := en_124) rfl mt_124 rfl rfl rfl tw_1006 tw_1008 (Or.inl ⟨_, _, rfl⟩) tp_24 dX6_isDone_11)
  (okC (ok_ic X (by decide) dX6_isDone_14)
  (okN))))), ok_cmne X (by decide) rfl dX6_isDone_15⟩
set_option maxRecDepth 20000 in
theorem ob_X6_isDone_2 {x : ip_Cx} {G : ip_Gl} {d : Nat} (X : ip_X x G tb 2 d 0 0 RX6 cX6_isDone) (hr : x.2.2.2.2.2.2.2.2.1.sig.returnType = (some .boolean)) (hnm : x.2.2.2.2.2.2.2.2.1.name = "isDone") : ip_okB x G 2 pc_X6_isDone 18 ([oI (1)], tGo 4) := ⟨_, okC (ok_ic X (by decide) dX6_isDone_18)
  (okN), ok_go X (by decide) dX6_isDone_19⟩
set_option maxRecDepth 20000 in
theorem ob_X6_isDone_3 {x : ip_Cx} {G : ip_Gl} {d : Nat} (X : ip_X x G tb 2 d 0 0 RX6 cX6_isDone) (hr : x.2.2.2.2.2.2.2.2.1.sig.returnType = (some .boolean)) (hnm : x.2.2.2.2.2.2.2.2.1.name = "isDone") : ip_okB x G 2 pc_X6_isDone 22 ([oI (0)], tGo 4) := ⟨_, okC (ok_ic X (by decide) dX6_isDone_22)
  (okN), ok_fall rfl⟩
set_option maxRecDepth 20000 in
theorem ob_X6_isDone_4 {x : ip_Cx} {G : ip_Gl} {d : Nat} (X : ip_X x G tb 2 d 0 0 RX6 cX6_isDone) (hr : x.2.2.2.2.2.2.2.2.1.sig.returnType = (some .boolean)) (hnm : x.2.2.2.2.2.2.2.2.1.name = "isDone") : ip_okB x G 2 pc_X6_isDone 23 ([], tRI .boolean 0 0) := ⟨_, okN, ok_ret X hr dX6_isDone_23⟩
theorem om_160 : ip_MOk tb en_160 pc_X6_isDone := fun x G d X hr hnm => ⟨ob_X6_isDone_0 X hr hnm, ⟨ob_X6_isDone_1 X hr hnm, ⟨ob_X6_isDone_2 X hr hnm, ⟨ob_X6_isDone_3 X hr hnm, ⟨ob_X6_isDone_4 X hr hnm, trivial⟩⟩⟩⟩⟩
theorem dX6_goes_0 : decode cX6_goes 0 = .ok (.aload_n 0, 1) := by decide +kernel
theorem dX6_goes_1 : decode cX6_goes 1 = .ok (.iload_n 1, 1) := by decide +kernel
theorem dX6_goes_2 : decode cX6_goes 2 = .ok (.invokevirtual 216, 3) := by decide +kernel
theorem dX6_goes_5 : decode cX6_goes 5 = .ok (.ifCond .eq 4, 3) := by decide +kernel
theorem dX6_goes_8 : decode cX6_goes 8 = .ok (.return_, 1) := by decide +kernel
theorem dX6_goes_9 : decode cX6_goes 9 = .ok (.aload_n 0, 1) := by decide +kernel
theorem dX6_goes_10 : decode cX6_goes 10 = .ok (.iload_n 1, 1) := by decide +kernel
theorem dX6_goes_11 : decode cX6_goes 11 = .ok (.invokevirtual 207, 3) := by decide +kernel
theorem dX6_goes_14 : decode cX6_goes 14 = .ok (.aload_n 0, 1) := by decide +kernel
theorem dX6_goes_15 : decode cX6_goes 15 = .ok (.iload_n 1, 1) := by decide +kernel
theorem dX6_goes_16 : decode cX6_goes 16 = .ok (.iconst 1, 1) := by decide +kernel
theorem dX6_goes_17 : decode cX6_goes 17 = .ok (.invokevirtual 195, 3) := by decide +kernel
theorem dX6_goes_20 : decode cX6_goes 20 = .ok (.if_icmp .lt 30, 3) := by decide +kernel
theorem dX6_goes_23 : decode cX6_goes 23 = .ok (.aload_n 0, 1) := by decide +kernel
theorem dX6_goes_24 : decode cX6_goes 24 = .ok (.iload_n 1, 1) := by decide +kernel
theorem dX6_goes_25 : decode cX6_goes 25 = .ok (.iconst 2, 1) := by decide +kernel
theorem dX6_goes_26 : decode cX6_goes 26 = .ok (.aload_n 0, 1) := by decide +kernel
theorem dX6_goes_27 : decode cX6_goes 27 = .ok (.iload_n 1, 1) := by decide +kernel
theorem dX6_goes_28 : decode cX6_goes 28 = .ok (.iconst 2, 1) := by decide +kernel
theorem dX6_goes_29 : decode cX6_goes 29 = .ok (.invokevirtual 195, 3) := by decide +kernel
theorem dX6_goes_32 : decode cX6_goes 32 = .ok (.aload_n 0, 1) := by decide +kernel
theorem dX6_goes_33 : decode cX6_goes 33 = .ok (.iload_n 1, 1) := by decide +kernel
theorem dX6_goes_34 : decode cX6_goes 34 = .ok (.invokevirtual 210, 3) := by decide +kernel
theorem dX6_goes_37 : decode cX6_goes 37 = .ok (.iadd, 1) := by decide +kernel
theorem dX6_goes_38 : decode cX6_goes 38 = .ok (.iconst 0, 1) := by decide +kernel
theorem dX6_goes_39 : decode cX6_goes 39 = .ok (.bipush 20, 2) := by decide +kernel
theorem dX6_goes_41 : decode cX6_goes 41 = .ok (.invokestatic 219, 3) := by decide +kernel
theorem dX6_goes_44 : decode cX6_goes 44 = .ok (.invokevirtual 188, 3) := by decide +kernel
theorem dX6_goes_47 : decode cX6_goes 47 = .ok (.goto 10, 3) := by decide +kernel
theorem dX6_goes_50 : decode cX6_goes 50 = .ok (.aload_n 0, 1) := by decide +kernel
theorem dX6_goes_51 : decode cX6_goes 51 = .ok (.iload_n 1, 1) := by decide +kernel
theorem dX6_goes_52 : decode cX6_goes 52 = .ok (.iconst 5, 1) := by decide +kernel
theorem dX6_goes_53 : decode cX6_goes 53 = .ok (.iconst 1, 1) := by decide +kernel
theorem dX6_goes_54 : decode cX6_goes 54 = .ok (.invokevirtual 188, 3) := by decide +kernel
theorem dX6_goes_57 : decode cX6_goes 57 = .ok (.return_, 1) := by decide +kernel
def pc_X6_goes (i : Nat) : Nat := ([0, 8, 9, 23, 50, 57] : List Nat).getD i 0
set_option maxRecDepth 20000 in
theorem ob_X6_goes_0 {x : ip_Cx} {G : ip_Gl} {d : Nat} (X : ip_X x G tb 2 d 0 0 RX6 cX6_goes) (hr : x.2.2.2.2.2.2.2.2.1.sig.returnType = none) (hnm : x.2.2.2.2.2.2.2.2.1.name = "goes") : ip_okB x G 2 pc_X6_goes 0 ([oLdA 0, oLdI 1, oCaV (ip_call tb d) 0 0 6 160 2 0 0], tIf (fun a => a = 0) 2 1) := ⟨_, okC (ok_aldn X rfl dX6_goes_0)
  (okC (ok_ildn X rfl dX6_goes_1)
  (okC (ok_calV X (i := 216) (e := en_160) rfl mt_160 rfl rfl rfl tw_1057 tw_1059 (Or.inl ⟨_, _, rfl⟩) tp_31 dX6_goes_2)
  (okN))), ok_ifeq X (by decide) rfl dX6_goes_5⟩
set_option maxRecDepth 20000 in
theorem ob_X6_goes_1 {x : ip_Cx} {G : ip_Gl} {d : Nat} (X : ip_X x G tb 2 d 0 0 RX6 cX6_goes) (hr : x.2.2.2.2.2.2.2.2.1.sig.returnType = none) (hnm : x.2.2.2.2.2.2.2.2.1.name = "goes") : ip_okB x G 2 pc_X6_goes 8 ([], tRV 0 0) := ⟨_, okN, ok_vret X hr dX6_goes_8⟩
set_option maxRecDepth 20000 in
theorem ob_X6_goes_2 {x : ip_Cx} {G : ip_Gl} {d : Nat} (X : ip_X x G tb 2 d 0 0 RX6 cX6_goes) (hr : x.2.2.2.2.2.2.2.2.1.sig.returnType = none) (hnm : x.2.2.2.2.2.2.2.2.1.name = "goes") : ip_okB x G 2 pc_X6_goes 9 ([oLdA 0, oLdI 1, oCaV (ip_call tb d) 0 0 6 153 2 0 0, oLdA 0, oLdI 1, oI (1), oCaV (ip_call tb d) 0 0 6 124 3 0 0], tCm (fun a b => a < b) 4 3) := ⟨_, okC (ok_aldn X rfl dX6_goes_9)
  (okC (ok_ildn X rfl dX6_goes_10)
  (okC (ok_calV X (i := 207) (e := en_153) rfl mt_153 rfl rfl rfl tw_1014 tw_1016 (Or.inl ⟨_, _, rfl⟩) tp_25 dX6_goes_11)
  (okC (ok_aldn X rfl dX6_goes_14)
  (okC (ok_ildn X rfl dX6_goes_15)
  (okC (ok_ic X (by decide) dX6_goes_16)
  (okC (ok_calV X (i := 195) (e := en_124) rfl mt_124 rfl rfl rfl tw_1006 tw_1008 (Or.inl ⟨_, _, rfl⟩) tp_24 dX6_goes_17)
  (okN))))))), ok_cmlt X (by decide) rfl dX6_goes_20⟩
set_option maxRecDepth 20000 in
theorem ob_X6_goes_3 {x : ip_Cx} {G : ip_Gl} {d : Nat} (X : ip_X x G tb 2 d 0 0 RX6 cX6_goes) (hr : x.2.2.2.2.2.2.2.2.1.sig.returnType = none) (hnm : x.2.2.2.2.2.2.2.2.1.name = "goes") : ip_okB x G 2 pc_X6_goes 23 ([oLdA 0, oLdI 1, oI (2), oLdA 0, oLdI 1, oI (2), oCaV (ip_call tb d) 0 0 6 124 3 0 0, oLdA 0, oLdI 1, oCaV (ip_call tb d) 0 0 6 154 2 0 0, oBI (fun a b => a + b), oI (0), oI (20), oCal (ip_call tb d) 0 0 121 3 0 0, oCaV (ip_call tb d) 0 0 6 125 4 0 0], tGo 5) := ⟨_, okC (ok_aldn X rfl dX6_goes_23)
  (okC (ok_ildn X rfl dX6_goes_24)
  (okC (ok_ic X (by decide) dX6_goes_25)
  (okC (ok_aldn X rfl dX6_goes_26)
  (okC (ok_ildn X rfl dX6_goes_27)
  (okC (ok_ic X (by decide) dX6_goes_28)
  (okC (ok_calV X (i := 195) (e := en_124) rfl mt_124 rfl rfl rfl tw_1006 tw_1008 (Or.inl ⟨_, _, rfl⟩) tp_24 dX6_goes_29)
  (okC (ok_aldn X rfl dX6_goes_32)
  (okC (ok_ildn X rfl dX6_goes_33)
  (okC (ok_calV X (i := 210) (e := en_154) rfl mt_154 rfl rfl rfl tw_1029 tw_1031 (Or.inl ⟨_, _, rfl⟩) tp_28 dX6_goes_34)
  (okC (ok_iadd X dX6_goes_37)
  (okC (ok_ic X (by decide) dX6_goes_38)
  (okC (ok_bi X (by decide) dX6_goes_39)
  (okC (ok_calS X (i := 219) (e := en_121) rfl mt_121 rfl rfl rfl tw_1065 tw_1066 dX6_goes_41)
  (okC (ok_calV X (i := 188) (e := en_125) rfl mt_125 rfl rfl rfl tw_994 tw_996 (Or.inl ⟨_, _, rfl⟩) tp_22 dX6_goes_44)
  (okN))))))))))))))), ok_go X (by decide) dX6_goes_47⟩
set_option maxRecDepth 20000 in
theorem ob_X6_goes_4 {x : ip_Cx} {G : ip_Gl} {d : Nat} (X : ip_X x G tb 2 d 0 0 RX6 cX6_goes) (hr : x.2.2.2.2.2.2.2.2.1.sig.returnType = none) (hnm : x.2.2.2.2.2.2.2.2.1.name = "goes") : ip_okB x G 2 pc_X6_goes 50 ([oLdA 0, oLdI 1, oI (5), oI (1), oCaV (ip_call tb d) 0 0 6 125 4 0 0], tGo 5) := ⟨_, okC (ok_aldn X rfl dX6_goes_50)
  (okC (ok_ildn X rfl dX6_goes_51)
  (okC (ok_ic X (by decide) dX6_goes_52)
  (okC (ok_ic X (by decide) dX6_goes_53)
  (okC (ok_calV X (i := 188) (e := en_125) rfl mt_125 rfl rfl rfl tw_994 tw_996 (Or.inl ⟨_, _, rfl⟩) tp_22 dX6_goes_54)
  (okN))))), ok_fall rfl⟩
set_option maxRecDepth 20000 in
theorem ob_X6_goes_5 {x : ip_Cx} {G : ip_Gl} {d : Nat} (X : ip_X x G tb 2 d 0 0 RX6 cX6_goes) (hr : x.2.2.2.2.2.2.2.2.1.sig.returnType = none) (hnm : x.2.2.2.2.2.2.2.2.1.name = "goes") : ip_okB x G 2 pc_X6_goes 57 ([], tRV 0 0) := ⟨_, okN, ok_vret X hr dX6_goes_57⟩
theorem om_161 : ip_MOk tb en_161 pc_X6_goes := fun x G d X hr hnm => ⟨ob_X6_goes_0 X hr hnm, ⟨ob_X6_goes_1 X hr hnm, ⟨ob_X6_goes_2 X hr hnm, ⟨ob_X6_goes_3 X hr hnm, ⟨ob_X6_goes_4 X hr hnm, ⟨ob_X6_goes_5 X hr hnm, trivial⟩⟩⟩⟩⟩⟩
theorem dX6_stepGoes_0 : decode cX6_stepGoes 0 = .ok (.iconst 0, 1) := by decide +kernel
theorem dX6_stepGoes_1 : decode cX6_stepGoes 1 = .ok (.istore_n 1, 1) := by decide +kernel
theorem dX6_stepGoes_2 : decode cX6_stepGoes 2 = .ok (.iload_n 1, 1) := by decide +kernel
theorem dX6_stepGoes_3 : decode cX6_stepGoes 3 = .ok (.aload_n 0, 1) := by decide +kernel
theorem dX6_stepGoes_4 : decode cX6_stepGoes 4 = .ok (.getfield 7, 3) := by decide +kernel
theorem dX6_stepGoes_7 : decode cX6_stepGoes 7 = .ok (.bipush 6, 2) := by decide +kernel
theorem dX6_stepGoes_9 : decode cX6_stepGoes 9 = .ok (.iaload, 1) := by decide +kernel
theorem dX6_stepGoes_10 : decode cX6_stepGoes 10 = .ok (.if_icmp .ge 14, 3) := by decide +kernel
theorem dX6_stepGoes_13 : decode cX6_stepGoes 13 = .ok (.aload_n 0, 1) := by decide +kernel
theorem dX6_stepGoes_14 : decode cX6_stepGoes 14 = .ok (.iload_n 1, 1) := by decide +kernel
theorem dX6_stepGoes_15 : decode cX6_stepGoes 15 = .ok (.invokevirtual 223, 3) := by decide +kernel
theorem dX6_stepGoes_18 : decode cX6_stepGoes 18 = .ok (.iinc 1 1, 3) := by decide +kernel
theorem dX6_stepGoes_21 : decode cX6_stepGoes 21 = .ok (.goto (-19), 3) := by decide +kernel
theorem dX6_stepGoes_24 : decode cX6_stepGoes 24 = .ok (.aload_n 0, 1) := by decide +kernel
theorem dX6_stepGoes_25 : decode cX6_stepGoes 25 = .ok (.getfield 7, 3) := by decide +kernel
theorem dX6_stepGoes_28 : decode cX6_stepGoes 28 = .ok (.iconst 4, 1) := by decide +kernel
theorem dX6_stepGoes_29 : decode cX6_stepGoes 29 = .ok (.dup2, 1) := by decide +kernel
theorem dX6_stepGoes_30 : decode cX6_stepGoes 30 = .ok (.iaload, 1) := by decide +kernel
theorem dX6_stepGoes_31 : decode cX6_stepGoes 31 = .ok (.iconst 1, 1) := by decide +kernel
theorem dX6_stepGoes_32 : decode cX6_stepGoes 32 = .ok (.iadd, 1) := by decide +kernel
theorem dX6_stepGoes_33 : decode cX6_stepGoes 33 = .ok (.iastore, 1) := by decide +kernel
theorem dX6_stepGoes_34 : decode cX6_stepGoes 34 = .ok (.return_, 1) := by decide +kernel
def pc_X6_stepGoes (i : Nat) : Nat := ([0, 2, 13, 24] : List Nat).getD i 0
set_option maxRecDepth 20000 in
theorem ob_X6_stepGoes_0 {x : ip_Cx} {G : ip_Gl} {d : Nat} (X : ip_X x G tb 2 d 0 0 RX6 cX6_stepGoes) (hr : x.2.2.2.2.2.2.2.2.1.sig.returnType = none) (hnm : x.2.2.2.2.2.2.2.2.1.name = "stepGoes") : ip_okB x G 2 pc_X6_stepGoes 0 ([oI (0), oStI 1], tGo 1) := ⟨_, okC (ok_ic X (by decide) dX6_stepGoes_0)
  (okC (ok_istn X rfl (by decide) dX6_stepGoes_1)
  (okN)), ok_fall rfl⟩
set_option maxRecDepth 20000 in
theorem ob_X6_stepGoes_1 {x : ip_Cx} {G : ip_Gl} {d : Nat} (X : ip_X x G tb 2 d 0 0 RX6 cX6_stepGoes) (hr : x.2.2.2.2.2.2.2.2.1.sig.returnType = none) (hnm : x.2.2.2.2.2.2.2.2.1.name = "stepGoes") : ip_okB x G 2 pc_X6_stepGoes 2 ([oLdI 1, oLdA 0, oGet 6 0, oI (6), oAldI], tCm (fun a b => a < b) 2 3) := ⟨_, okC (ok_ildn X rfl dX6_stepGoes_2)
  (okC (ok_aldn X rfl dX6_stepGoes_3)
  (okC (ok_get X (ci := 6) rfl (by decide) iw_X6 tw_795 dX6_stepGoes_4)
  (okC (ok_bi X (by decide) dX6_stepGoes_7)
  (okC (ok_iald X dX6_stepGoes_9)
  (okN))))), ok_cmge X (by decide) rfl dX6_stepGoes_10⟩
set_option maxRecDepth 20000 in
theorem ob_X6_stepGoes_2 {x : ip_Cx} {G : ip_Gl} {d : Nat} (X : ip_X x G tb 2 d 0 0 RX6 cX6_stepGoes) (hr : x.2.2.2.2.2.2.2.2.1.sig.returnType = none) (hnm : x.2.2.2.2.2.2.2.2.1.name = "stepGoes") : ip_okB x G 2 pc_X6_stepGoes 13 ([oLdA 0, oLdI 1, oCaV (ip_call tb d) 0 0 6 161 2 0 0, oInc 1 (1)], tGo 1) := ⟨_, okC (ok_aldn X rfl dX6_stepGoes_13)
  (okC (ok_ildn X rfl dX6_stepGoes_14)
  (okC (ok_calV X (i := 223) (e := en_161) rfl mt_161 rfl rfl rfl tw_1053 tw_1055 (Or.inl ⟨_, _, rfl⟩) tp_30 dX6_stepGoes_15)
  (okC (ok_inc X (by decide) dX6_stepGoes_18)
  (okN)))), ok_go X (by decide) dX6_stepGoes_21⟩
set_option maxRecDepth 20000 in
theorem ob_X6_stepGoes_3 {x : ip_Cx} {G : ip_Gl} {d : Nat} (X : ip_X x G tb 2 d 0 0 RX6 cX6_stepGoes) (hr : x.2.2.2.2.2.2.2.2.1.sig.returnType = none) (hnm : x.2.2.2.2.2.2.2.2.1.name = "stepGoes") : ip_okB x G 2 pc_X6_stepGoes 24 ([oLdA 0, oGet 6 0, oI (4), oDp2, oAldI, oI (1), oBI (fun a b => a + b), oAstI], tRV 0 0) := ⟨_, okC (ok_aldn X rfl dX6_stepGoes_24)
  (okC (ok_get X (ci := 6) rfl (by decide) iw_X6 tw_795 dX6_stepGoes_25)
  (okC (ok_ic X (by decide) dX6_stepGoes_28)
  (okC (ok_dp2 X dX6_stepGoes_29)
  (okC (ok_iald X dX6_stepGoes_30)
  (okC (ok_ic X (by decide) dX6_stepGoes_31)
  (okC (ok_iadd X dX6_stepGoes_32)
  (okC (ok_iast X dX6_stepGoes_33)
  (okN)))))))), ok_vret X hr dX6_stepGoes_34⟩
theorem om_162 : ip_MOk tb en_162 pc_X6_stepGoes := fun x G d X hr hnm => ⟨ob_X6_stepGoes_0 X hr hnm, ⟨ob_X6_stepGoes_1 X hr hnm, ⟨ob_X6_stepGoes_2 X hr hnm, ⟨ob_X6_stepGoes_3 X hr hnm, trivial⟩⟩⟩⟩
theorem dX6_acrossSet_0 : decode cX6_acrossSet 0 = .ok (.iconst 0, 1) := by decide +kernel
theorem dX6_acrossSet_1 : decode cX6_acrossSet 1 = .ok (.istore_n 1, 1) := by decide +kernel
theorem dX6_acrossSet_2 : decode cX6_acrossSet 2 = .ok (.iconst 0, 1) := by decide +kernel
theorem dX6_acrossSet_3 : decode cX6_acrossSet 3 = .ok (.istore_n 2, 1) := by decide +kernel
theorem dX6_acrossSet_4 : decode cX6_acrossSet 4 = .ok (.iload_n 2, 1) := by decide +kernel
theorem dX6_acrossSet_5 : decode cX6_acrossSet 5 = .ok (.aload_n 0, 1) := by decide +kernel
theorem dX6_acrossSet_6 : decode cX6_acrossSet 6 = .ok (.getfield 7, 3) := by decide +kernel
theorem dX6_acrossSet_9 : decode cX6_acrossSet 9 = .ok (.bipush 6, 2) := by decide +kernel
theorem dX6_acrossSet_11 : decode cX6_acrossSet 11 = .ok (.iaload, 1) := by decide +kernel
theorem dX6_acrossSet_12 : decode cX6_acrossSet 12 = .ok (.if_icmp .ge 27, 3) := by decide +kernel
theorem dX6_acrossSet_15 : decode cX6_acrossSet 15 = .ok (.iload_n 1, 1) := by decide +kernel
theorem dX6_acrossSet_16 : decode cX6_acrossSet 16 = .ok (.aload_n 0, 1) := by decide +kernel
theorem dX6_acrossSet_17 : decode cX6_acrossSet 17 = .ok (.iload_n 2, 1) := by decide +kernel
theorem dX6_acrossSet_18 : decode cX6_acrossSet 18 = .ok (.invokevirtual 213, 3) := by decide +kernel
theorem dX6_acrossSet_21 : decode cX6_acrossSet 21 = .ok (.ifCond .eq 9, 3) := by decide +kernel
theorem dX6_acrossSet_24 : decode cX6_acrossSet 24 = .ok (.iconst 1, 1) := by decide +kernel
theorem dX6_acrossSet_25 : decode cX6_acrossSet 25 = .ok (.iload_n 2, 1) := by decide +kernel
theorem dX6_acrossSet_26 : decode cX6_acrossSet 26 = .ok (.ishl, 1) := by decide +kernel
theorem dX6_acrossSet_27 : decode cX6_acrossSet 27 = .ok (.goto 4, 3) := by decide +kernel
theorem dX6_acrossSet_30 : decode cX6_acrossSet 30 = .ok (.iconst 0, 1) := by decide +kernel
theorem dX6_acrossSet_31 : decode cX6_acrossSet 31 = .ok (.ior, 1) := by decide +kernel
theorem dX6_acrossSet_32 : decode cX6_acrossSet 32 = .ok (.istore_n 1, 1) := by decide +kernel
theorem dX6_acrossSet_33 : decode cX6_acrossSet 33 = .ok (.iinc 2 1, 3) := by decide +kernel
theorem dX6_acrossSet_36 : decode cX6_acrossSet 36 = .ok (.goto (-32), 3) := by decide +kernel
theorem dX6_acrossSet_39 : decode cX6_acrossSet 39 = .ok (.iload_n 1, 1) := by decide +kernel
theorem dX6_acrossSet_40 : decode cX6_acrossSet 40 = .ok (.ireturn, 1) := by decide +kernel
def pc_X6_acrossSet (i : Nat) : Nat := ([0, 4, 15, 24, 30, 31, 39] : List Nat).getD i 0
set_option maxRecDepth 20000 in
theorem ob_X6_acrossSet_0 {x : ip_Cx} {G : ip_Gl} {d : Nat} (X : ip_X x G tb 3 d 0 0 RX6 cX6_acrossSet) (hr : x.2.2.2.2.2.2.2.2.1.sig.returnType = (some .int)) (hnm : x.2.2.2.2.2.2.2.2.1.name = "acrossSet") : ip_okB x G 3 pc_X6_acrossSet 0 ([oI (0), oStI 1, oI (0), oStI 2], tGo 1) := ⟨_, okC (ok_ic X (by decide) dX6_acrossSet_0)
  (okC (ok_istn X rfl (by decide) dX6_acrossSet_1)
  (okC (ok_ic X (by decide) dX6_acrossSet_2)
  (okC (ok_istn X rfl (by decide) dX6_acrossSet_3)
  (okN)))), ok_fall rfl⟩
set_option maxRecDepth 20000 in
theorem ob_X6_acrossSet_1 {x : ip_Cx} {G : ip_Gl} {d : Nat} (X : ip_X x G tb 3 d 0 0 RX6 cX6_acrossSet) (hr : x.2.2.2.2.2.2.2.2.1.sig.returnType = (some .int)) (hnm : x.2.2.2.2.2.2.2.2.1.name = "acrossSet") : ip_okB x G 3 pc_X6_acrossSet 4 ([oLdI 2, oLdA 0, oGet 6 0, oI (6), oAldI], tCm (fun a b => a < b) 2 6) := ⟨_, okC (ok_ildn X rfl dX6_acrossSet_4)
  (okC (ok_aldn X rfl dX6_acrossSet_5)
  (okC (ok_get X (ci := 6) rfl (by decide) iw_X6 tw_795 dX6_acrossSet_6)
  (okC (ok_bi X (by decide) dX6_acrossSet_9)
  (okC (ok_iald X dX6_acrossSet_11)
  (okN))))), ok_cmge X (by decide) rfl dX6_acrossSet_12⟩
set_option maxRecDepth 20000 in
theorem ob_X6_acrossSet_2 {x : ip_Cx} {G : ip_Gl} {d : Nat} (X : ip_X x G tb 3 d 0 0 RX6 cX6_acrossSet) (hr : x.2.2.2.2.2.2.2.2.1.sig.returnType = (some .int)) (hnm : x.2.2.2.2.2.2.2.2.1.name = "acrossSet") : ip_okB x G 3 pc_X6_acrossSet 15 ([oLdI 1, oLdA 0, oLdI 2, oCaV (ip_call tb d) 0 0 6 159 2 0 0], tIf (fun a => a = 0) 4 3) := ⟨_, okC (ok_ildn X rfl dX6_acrossSet_15)
  (okC (ok_aldn X rfl dX6_acrossSet_16)
  (okC (ok_ildn X rfl dX6_acrossSet_17)
  (okC (ok_calV X (i := 213) (e := en_159) rfl mt_159 rfl rfl rfl tw_1061 tw_1063 (Or.inl ⟨_, _, rfl⟩) tp_32 dX6_acrossSet_18)
  (okN)))), ok_ifeq X (by decide) rfl dX6_acrossSet_21⟩
set_option maxRecDepth 20000 in
theorem ob_X6_acrossSet_3 {x : ip_Cx} {G : ip_Gl} {d : Nat} (X : ip_X x G tb 3 d 0 0 RX6 cX6_acrossSet) (hr : x.2.2.2.2.2.2.2.2.1.sig.returnType = (some .int)) (hnm : x.2.2.2.2.2.2.2.2.1.name = "acrossSet") : ip_okB x G 3 pc_X6_acrossSet 24 ([oI (1), oLdI 2, oBI (fun a b => a <<< (b &&& 31))], tGo 5) := ⟨_, okC (ok_ic X (by decide) dX6_acrossSet_24)
  (okC (ok_ildn X rfl dX6_acrossSet_25)
  (okC (ok_ishl X dX6_acrossSet_26)
  (okN))), ok_go X (by decide) dX6_acrossSet_27⟩
set_option maxRecDepth 20000 in
theorem ob_X6_acrossSet_4 {x : ip_Cx} {G : ip_Gl} {d : Nat} (X : ip_X x G tb 3 d 0 0 RX6 cX6_acrossSet) (hr : x.2.2.2.2.2.2.2.2.1.sig.returnType = (some .int)) (hnm : x.2.2.2.2.2.2.2.2.1.name = "acrossSet") : ip_okB x G 3 pc_X6_acrossSet 30 ([oI (0)], tGo 5) := ⟨_, okC (ok_ic X (by decide) dX6_acrossSet_30)
  (okN), ok_fall rfl⟩
set_option maxRecDepth 20000 in
theorem ob_X6_acrossSet_5 {x : ip_Cx} {G : ip_Gl} {d : Nat} (X : ip_X x G tb 3 d 0 0 RX6 cX6_acrossSet) (hr : x.2.2.2.2.2.2.2.2.1.sig.returnType = (some .int)) (hnm : x.2.2.2.2.2.2.2.2.1.name = "acrossSet") : ip_okB x G 3 pc_X6_acrossSet 31 ([oBI (fun a b => a ||| b), oStI 1, oInc 2 (1)], tGo 1) := ⟨_, okC (ok_ior X dX6_acrossSet_31)
  (okC (ok_istn X rfl (by decide) dX6_acrossSet_32)
  (okC (ok_inc X (by decide) dX6_acrossSet_33)
  (okN))), ok_go X (by decide) dX6_acrossSet_36⟩
set_option maxRecDepth 20000 in
theorem ob_X6_acrossSet_6 {x : ip_Cx} {G : ip_Gl} {d : Nat} (X : ip_X x G tb 3 d 0 0 RX6 cX6_acrossSet) (hr : x.2.2.2.2.2.2.2.2.1.sig.returnType = (some .int)) (hnm : x.2.2.2.2.2.2.2.2.1.name = "acrossSet") : ip_okB x G 3 pc_X6_acrossSet 39 ([oLdI 1], tRI .int 0 0) := ⟨_, okC (ok_ildn X rfl dX6_acrossSet_39)
  (okN), ok_ret X hr dX6_acrossSet_40⟩
theorem om_163 : ip_MOk tb en_163 pc_X6_acrossSet := fun x G d X hr hnm => ⟨ob_X6_acrossSet_0 X hr hnm, ⟨ob_X6_acrossSet_1 X hr hnm, ⟨ob_X6_acrossSet_2 X hr hnm, ⟨ob_X6_acrossSet_3 X hr hnm, ⟨ob_X6_acrossSet_4 X hr hnm, ⟨ob_X6_acrossSet_5 X hr hnm, ⟨ob_X6_acrossSet_6 X hr hnm, trivial⟩⟩⟩⟩⟩⟩⟩
theorem dX6_fallenSet_0 : decode cX6_fallenSet 0 = .ok (.iconst 0, 1) := by decide +kernel
theorem dX6_fallenSet_1 : decode cX6_fallenSet 1 = .ok (.istore_n 1, 1) := by decide +kernel
theorem dX6_fallenSet_2 : decode cX6_fallenSet 2 = .ok (.iconst 0, 1) := by decide +kernel
theorem dX6_fallenSet_3 : decode cX6_fallenSet 3 = .ok (.istore_n 2, 1) := by decide +kernel
theorem dX6_fallenSet_4 : decode cX6_fallenSet 4 = .ok (.iload_n 2, 1) := by decide +kernel
theorem dX6_fallenSet_5 : decode cX6_fallenSet 5 = .ok (.aload_n 0, 1) := by decide +kernel
theorem dX6_fallenSet_6 : decode cX6_fallenSet 6 = .ok (.getfield 7, 3) := by decide +kernel
theorem dX6_fallenSet_9 : decode cX6_fallenSet 9 = .ok (.bipush 6, 2) := by decide +kernel
theorem dX6_fallenSet_11 : decode cX6_fallenSet 11 = .ok (.iaload, 1) := by decide +kernel
theorem dX6_fallenSet_12 : decode cX6_fallenSet 12 = .ok (.if_icmp .ge 20, 3) := by decide +kernel
theorem dX6_fallenSet_15 : decode cX6_fallenSet 15 = .ok (.iload_n 1, 1) := by decide +kernel
theorem dX6_fallenSet_16 : decode cX6_fallenSet 16 = .ok (.aload_n 0, 1) := by decide +kernel
theorem dX6_fallenSet_17 : decode cX6_fallenSet 17 = .ok (.iload_n 2, 1) := by decide +kernel
theorem dX6_fallenSet_18 : decode cX6_fallenSet 18 = .ok (.iconst 5, 1) := by decide +kernel
theorem dX6_fallenSet_19 : decode cX6_fallenSet 19 = .ok (.invokevirtual 195, 3) := by decide +kernel
theorem dX6_fallenSet_22 : decode cX6_fallenSet 22 = .ok (.iload_n 2, 1) := by decide +kernel
theorem dX6_fallenSet_23 : decode cX6_fallenSet 23 = .ok (.ishl, 1) := by decide +kernel
theorem dX6_fallenSet_24 : decode cX6_fallenSet 24 = .ok (.ior, 1) := by decide +kernel
theorem dX6_fallenSet_25 : decode cX6_fallenSet 25 = .ok (.istore_n 1, 1) := by decide +kernel
theorem dX6_fallenSet_26 : decode cX6_fallenSet 26 = .ok (.iinc 2 1, 3) := by decide +kernel
theorem dX6_fallenSet_29 : decode cX6_fallenSet 29 = .ok (.goto (-25), 3) := by decide +kernel
theorem dX6_fallenSet_32 : decode cX6_fallenSet 32 = .ok (.iload_n 1, 1) := by decide +kernel
theorem dX6_fallenSet_33 : decode cX6_fallenSet 33 = .ok (.ireturn, 1) := by decide +kernel
def pc_X6_fallenSet (i : Nat) : Nat := ([0, 4, 15, 32] : List Nat).getD i 0
set_option maxRecDepth 20000 in
theorem ob_X6_fallenSet_0 {x : ip_Cx} {G : ip_Gl} {d : Nat} (X : ip_X x G tb 3 d 0 0 RX6 cX6_fallenSet) (hr : x.2.2.2.2.2.2.2.2.1.sig.returnType = (some .int)) (hnm : x.2.2.2.2.2.2.2.2.1.name = "fallenSet") : ip_okB x G 3 pc_X6_fallenSet 0 ([oI (0), oStI 1, oI (0), oStI 2], tGo 1) := ⟨_, okC (ok_ic X (by decide) dX6_fallenSet_0)
  (okC (ok_istn X rfl (by decide) dX6_fallenSet_1)
  (okC (ok_ic X (by decide) dX6_fallenSet_2)
  (okC (ok_istn X rfl (by decide) dX6_fallenSet_3)
  (okN)))), ok_fall rfl⟩
set_option maxRecDepth 20000 in
theorem ob_X6_fallenSet_1 {x : ip_Cx} {G : ip_Gl} {d : Nat} (X : ip_X x G tb 3 d 0 0 RX6 cX6_fallenSet) (hr : x.2.2.2.2.2.2.2.2.1.sig.returnType = (some .int)) (hnm : x.2.2.2.2.2.2.2.2.1.name = "fallenSet") : ip_okB x G 3 pc_X6_fallenSet 4 ([oLdI 2, oLdA 0, oGet 6 0, oI (6), oAldI], tCm (fun a b => a < b) 2 3) := ⟨_, okC (ok_ildn X rfl dX6_fallenSet_4)
  (okC (ok_aldn X rfl dX6_fallenSet_5)
  (okC (ok_get X (ci := 6) rfl (by decide) iw_X6 tw_795 dX6_fallenSet_6)
  (okC (ok_bi X (by decide) dX6_fallenSet_9)
  (okC (ok_iald X dX6_fallenSet_11)
  (okN))))), ok_cmge X (by decide) rfl dX6_fallenSet_12⟩
set_option maxRecDepth 20000 in
theorem ob_X6_fallenSet_2 {x : ip_Cx} {G : ip_Gl} {d : Nat} (X : ip_X x G tb 3 d 0 0 RX6 cX6_fallenSet) (hr : x.2.2.2.2.2.2.2.2.1.sig.returnType = (some .int)) (hnm : x.2.2.2.2.2.2.2.2.1.name = "fallenSet") : ip_okB x G 3 pc_X6_fallenSet 15 ([oLdI 1, oLdA 0, oLdI 2, oI (5), oCaV (ip_call tb d) 0 0 6 124 3 0 0, oLdI 2, oBI (fun a b => a <<< (b &&& 31)), oBI (fun a b => a ||| b), oStI 1, oInc 2 (1)], tGo 1) := ⟨_, okC (ok_ildn X rfl dX6_fallenSet_15)
  (okC (ok_aldn X rfl dX6_fallenSet_16)
  (okC (ok_ildn X rfl dX6_fallenSet_17)
  (okC (ok_ic X (by decide) dX6_fallenSet_18)
  (okC (ok_calV X (i := 195) (e := en_124) rfl mt_124 rfl rfl rfl tw_1006 tw_1008 (Or.inl ⟨_, _, rfl⟩) tp_24 dX6_fallenSet_19)
  (okC (ok_ildn X rfl dX6_fallenSet_22)
  (okC (ok_ishl X dX6_fallenSet_23)
  (okC (ok_ior X dX6_fallenSet_24)
  (okC (ok_istn X rfl (by decide) dX6_fallenSet_25)
  (okC (ok_inc X (by decide) dX6_fallenSet_26)
  (okN)))))))))), ok_go X (by decide) dX6_fallenSet_29⟩
set_option maxRecDepth 20000 in
theorem ob_X6_fallenSet_3 {x : ip_Cx} {G : ip_Gl} {d : Nat} (X : ip_X x G tb 3 d 0 0 RX6 cX6_fallenSet) (hr : x.2.2.2.2.2.2.2.2.1.sig.returnType = (some .int)) (hnm : x.2.2.2.2.2.2.2.2.1.name = "fallenSet") : ip_okB x G 3 pc_X6_fallenSet 32 ([oLdI 1], tRI .int 0 0) := ⟨_, okC (ok_ildn X rfl dX6_fallenSet_32)
  (okN), ok_ret X hr dX6_fallenSet_33⟩
theorem om_164 : ip_MOk tb en_164 pc_X6_fallenSet := fun x G d X hr hnm => ⟨ob_X6_fallenSet_0 X hr hnm, ⟨ob_X6_fallenSet_1 X hr hnm, ⟨ob_X6_fallenSet_2 X hr hnm, ⟨ob_X6_fallenSet_3 X hr hnm, trivial⟩⟩⟩⟩
theorem dX6_steps_0 : decode cX6_steps 0 = .ok (.iload_n 1, 1) := by decide +kernel
theorem dX6_steps_1 : decode cX6_steps 1 = .ok (.iconst 1, 1) := by decide +kernel
theorem dX6_steps_2 : decode cX6_steps 2 = .ok (.bipush 60, 2) := by decide +kernel
theorem dX6_steps_4 : decode cX6_steps 4 = .ok (.invokestatic 57, 3) := by decide +kernel
theorem dX6_steps_7 : decode cX6_steps 7 = .ok (.ifCond .ne 5, 3) := by decide +kernel
theorem dX6_steps_10 : decode cX6_steps 10 = .ok (.iconst (-1), 1) := by decide +kernel
theorem dX6_steps_11 : decode cX6_steps 11 = .ok (.ireturn, 1) := by decide +kernel
theorem dX6_steps_12 : decode cX6_steps 12 = .ok (.iconst 0, 1) := by decide +kernel
theorem dX6_steps_13 : decode cX6_steps 13 = .ok (.istore_n 2, 1) := by decide +kernel
theorem dX6_steps_14 : decode cX6_steps 14 = .ok (.iload_n 2, 1) := by decide +kernel
theorem dX6_steps_15 : decode cX6_steps 15 = .ok (.iload_n 1, 1) := by decide +kernel
theorem dX6_steps_16 : decode cX6_steps 16 = .ok (.if_icmp .ge 13, 3) := by decide +kernel
theorem dX6_steps_19 : decode cX6_steps 19 = .ok (.aload_n 0, 1) := by decide +kernel
theorem dX6_steps_20 : decode cX6_steps 20 = .ok (.invokevirtual 226, 3) := by decide +kernel
theorem dX6_steps_23 : decode cX6_steps 23 = .ok (.iinc 2 1, 3) := by decide +kernel
theorem dX6_steps_26 : decode cX6_steps 26 = .ok (.goto (-12), 3) := by decide +kernel
theorem dX6_steps_29 : decode cX6_steps 29 = .ok (.aload_n 0, 1) := by decide +kernel
theorem dX6_steps_30 : decode cX6_steps 30 = .ok (.invokevirtual 229, 3) := by decide +kernel
theorem dX6_steps_33 : decode cX6_steps 33 = .ok (.invokestatic 198, 3) := by decide +kernel
theorem dX6_steps_36 : decode cX6_steps 36 = .ok (.ireturn, 1) := by decide +kernel
def pc_X6_steps (i : Nat) : Nat := ([0, 10, 12, 14, 19, 29] : List Nat).getD i 0
set_option maxRecDepth 20000 in
theorem ob_X6_steps_0 {x : ip_Cx} {G : ip_Gl} {d : Nat} (X : ip_X x G tb 3 d 0 0 RX6 cX6_steps) (hr : x.2.2.2.2.2.2.2.2.1.sig.returnType = (some .int)) (hnm : x.2.2.2.2.2.2.2.2.1.name = "steps") : ip_okB x G 3 pc_X6_steps 0 ([oLdI 1, oI (1), oI (60), oCal (ip_call tb d) 0 0 120 3 0 0], tIf (fun a => a = 0) 1 2) := ⟨_, okC (ok_ildn X rfl dX6_steps_0)
  (okC (ok_ic X (by decide) dX6_steps_1)
  (okC (ok_bi X (by decide) dX6_steps_2)
  (okC (ok_calS X (i := 57) (e := en_120) rfl mt_120 rfl rfl rfl tw_885 tw_886 dX6_steps_4)
  (okN)))), ok_ifne X (by decide) rfl dX6_steps_7⟩
set_option maxRecDepth 20000 in
theorem ob_X6_steps_1 {x : ip_Cx} {G : ip_Gl} {d : Nat} (X : ip_X x G tb 3 d 0 0 RX6 cX6_steps) (hr : x.2.2.2.2.2.2.2.2.1.sig.returnType = (some .int)) (hnm : x.2.2.2.2.2.2.2.2.1.name = "steps") : ip_okB x G 3 pc_X6_steps 10 ([oI (-1)], tRI .int 0 0) := ⟨_, okC (ok_ic X (by decide) dX6_steps_10)
  (okN), ok_ret X hr dX6_steps_11⟩
set_option maxRecDepth 20000 in
theorem ob_X6_steps_2 {x : ip_Cx} {G : ip_Gl} {d : Nat} (X : ip_X x G tb 3 d 0 0 RX6 cX6_steps) (hr : x.2.2.2.2.2.2.2.2.1.sig.returnType = (some .int)) (hnm : x.2.2.2.2.2.2.2.2.1.name = "steps") : ip_okB x G 3 pc_X6_steps 12 ([oI (0), oStI 2], tGo 3) := ⟨_, okC (ok_ic X (by decide) dX6_steps_12)
  (okC (ok_istn X rfl (by decide) dX6_steps_13)
  (okN)), ok_fall rfl⟩
set_option maxRecDepth 20000 in
theorem ob_X6_steps_3 {x : ip_Cx} {G : ip_Gl} {d : Nat} (X : ip_X x G tb 3 d 0 0 RX6 cX6_steps) (hr : x.2.2.2.2.2.2.2.2.1.sig.returnType = (some .int)) (hnm : x.2.2.2.2.2.2.2.2.1.name = "steps") : ip_okB x G 3 pc_X6_steps 14 ([oLdI 2, oLdI 1], tCm (fun a b => a < b) 4 5) := ⟨_, okC (ok_ildn X rfl dX6_steps_14)
  (okC (ok_ildn X rfl dX6_steps_15)
  (okN)), ok_cmge X (by decide) rfl dX6_steps_16⟩
set_option maxRecDepth 20000 in
theorem ob_X6_steps_4 {x : ip_Cx} {G : ip_Gl} {d : Nat} (X : ip_X x G tb 3 d 0 0 RX6 cX6_steps) (hr : x.2.2.2.2.2.2.2.2.1.sig.returnType = (some .int)) (hnm : x.2.2.2.2.2.2.2.2.1.name = "steps") : ip_okB x G 3 pc_X6_steps 19 ([oLdA 0, oCaV (ip_call tb d) 0 0 6 162 1 0 0, oInc 2 (1)], tGo 3) := ⟨_, okC (ok_aldn X rfl dX6_steps_19)
  (okC (ok_calV X (i := 226) (e := en_162) rfl mt_162 rfl rfl rfl tw_1049 tw_1051 (Or.inl ⟨_, _, rfl⟩) tp_29 dX6_steps_20)
  (okC (ok_inc X (by decide) dX6_steps_23)
  (okN))), ok_go X (by decide) dX6_steps_26⟩
set_option maxRecDepth 20000 in
theorem ob_X6_steps_5 {x : ip_Cx} {G : ip_Gl} {d : Nat} (X : ip_X x G tb 3 d 0 0 RX6 cX6_steps) (hr : x.2.2.2.2.2.2.2.2.1.sig.returnType = (some .int)) (hnm : x.2.2.2.2.2.2.2.2.1.name = "steps") : ip_okB x G 3 pc_X6_steps 29 ([oLdA 0, oCaV (ip_call tb d) 0 0 6 163 1 0 0, oCal (ip_call tb d) 0 0 127 1 0 0], tRI .int 0 0) := ⟨_, okC (ok_aldn X rfl dX6_steps_29)
  (okC (ok_calV X (i := 229) (e := en_163) rfl mt_163 rfl rfl rfl tw_1068 tw_1070 (Or.inl ⟨_, _, rfl⟩) tp_33 dX6_steps_30)
  (okC (ok_calS X (i := 198) (e := en_127) rfl mt_127 rfl rfl rfl tw_1022 tw_1023 dX6_steps_33)
  (okN))), ok_ret X hr dX6_steps_36⟩
theorem om_165 : ip_MOk tb en_165 pc_X6_steps := fun x G d X hr hnm => ⟨ob_X6_steps_0 X hr hnm, ⟨ob_X6_steps_1 X hr hnm, ⟨ob_X6_steps_2 X hr hnm, ⟨ob_X6_steps_3 X hr hnm, ⟨ob_X6_steps_4 X hr hnm, ⟨ob_X6_steps_5 X hr hnm, trivial⟩⟩⟩⟩⟩⟩
theorem dX6_drawn_0 : decode cX6_drawn 0 = .ok (.aload_n 0, 1) := by decide +kernel
theorem dX6_drawn_1 : decode cX6_drawn 1 = .ok (.getfield 7, 3) := by decide +kernel
theorem dX6_drawn_4 : decode cX6_drawn 4 = .ok (.bipush 7, 2) := by decide +kernel
theorem dX6_drawn_6 : decode cX6_drawn 6 = .ok (.aload_n 0, 1) := by decide +kernel
theorem dX6_drawn_7 : decode cX6_drawn 7 = .ok (.getfield 7, 3) := by decide +kernel
theorem dX6_drawn_10 : decode cX6_drawn 10 = .ok (.bipush 7, 2) := by decide +kernel
theorem dX6_drawn_12 : decode cX6_drawn 12 = .ok (.iaload, 1) := by decide +kernel
theorem dX6_drawn_13 : decode cX6_drawn 13 = .ok (.ldc 232, 2) := by decide +kernel
theorem dX6_drawn_15 : decode cX6_drawn 15 = .ok (.imul, 1) := by decide +kernel
theorem dX6_drawn_16 : decode cX6_drawn 16 = .ok (.sipush 12345, 3) := by decide +kernel
theorem dX6_drawn_19 : decode cX6_drawn 19 = .ok (.iadd, 1) := by decide +kernel
theorem dX6_drawn_20 : decode cX6_drawn 20 = .ok (.iastore, 1) := by decide +kernel
theorem dX6_drawn_21 : decode cX6_drawn 21 = .ok (.aload_n 0, 1) := by decide +kernel
theorem dX6_drawn_22 : decode cX6_drawn 22 = .ok (.getfield 7, 3) := by decide +kernel
theorem dX6_drawn_25 : decode cX6_drawn 25 = .ok (.bipush 7, 2) := by decide +kernel
theorem dX6_drawn_27 : decode cX6_drawn 27 = .ok (.iaload, 1) := by decide +kernel
theorem dX6_drawn_28 : decode cX6_drawn 28 = .ok (.bipush 16, 2) := by decide +kernel
theorem dX6_drawn_30 : decode cX6_drawn 30 = .ok (.iushr, 1) := by decide +kernel
theorem dX6_drawn_31 : decode cX6_drawn 31 = .ok (.ireturn, 1) := by decide +kernel
def pc_X6_drawn (i : Nat) : Nat := ([0] : List Nat).getD i 0
set_option maxRecDepth 20000 in
theorem ob_X6_drawn_0 {x : ip_Cx} {G : ip_Gl} {d : Nat} (X : ip_X x G tb 1 d 0 0 RX6 cX6_drawn) (hr : x.2.2.2.2.2.2.2.2.1.sig.returnType = (some .int)) (hnm : x.2.2.2.2.2.2.2.2.1.name = "drawn") : ip_okB x G 1 pc_X6_drawn 0 ([oLdA 0, oGet 6 0, oI (7), oLdA 0, oGet 6 0, oI (7), oAldI, oI (1103515245), oBI (fun a b => a * b), oI (12345), oBI (fun a b => a + b), oAstI, oLdA 0, oGet 6 0, oI (7), oAldI, oI (16), oBI (fun a b => (a.toUInt32 >>> (b.toUInt32 &&& Int32.toUInt32 31)).toInt32)], tRI .int 0 0) := ⟨_, okC (ok_aldn X rfl dX6_drawn_0)
  (okC (ok_get X (ci := 6) rfl (by decide) iw_X6 tw_795 dX6_drawn_1)
  (okC (ok_bi X (by decide) dX6_drawn_4)
  (okC (ok_aldn X rfl dX6_drawn_6)
  (okC (ok_get X (ci := 6) rfl (by decide) iw_X6 tw_795 dX6_drawn_7)
  (okC (ok_bi X (by decide) dX6_drawn_10)
  (okC (ok_iald X dX6_drawn_12)
  (okC (ok_ldc X tw_1088 dX6_drawn_13)
  (okC (ok_imul X dX6_drawn_15)
  (okC (ok_si X (by decide) dX6_drawn_16)
  (okC (ok_iadd X dX6_drawn_19)
  (okC (ok_iast X dX6_drawn_20)
  (okC (ok_aldn X rfl dX6_drawn_21)
  (okC (ok_get X (ci := 6) rfl (by decide) iw_X6 tw_795 dX6_drawn_22)
  (okC (ok_bi X (by decide) dX6_drawn_25)
  (okC (ok_iald X dX6_drawn_27)
  (okC (ok_bi X (by decide) dX6_drawn_28)
  (okC (ok_iushr X dX6_drawn_30)
  (okN)))))))))))))))))), ok_ret X hr dX6_drawn_31⟩
theorem om_166 : ip_MOk tb en_166 pc_X6_drawn := fun x G d X hr hnm => ⟨ob_X6_drawn_0 X hr hnm, trivial⟩
theorem dX6_seed_0 : decode cX6_seed 0 = .ok (.aload_n 0, 1) := by decide +kernel
theorem dX6_seed_1 : decode cX6_seed 1 = .ok (.bipush 7, 2) := by decide +kernel
theorem dX6_seed_3 : decode cX6_seed 3 = .ok (.iload_n 1, 1) := by decide +kernel
theorem dX6_seed_4 : decode cX6_seed 4 = .ok (.invokevirtual 181, 3) := by decide +kernel
theorem dX6_seed_7 : decode cX6_seed 7 = .ok (.ireturn, 1) := by decide +kernel
def pc_X6_seed (i : Nat) : Nat := ([0] : List Nat).getD i 0
set_option maxRecDepth 20000 in
theorem ob_X6_seed_0 {x : ip_Cx} {G : ip_Gl} {d : Nat} (X : ip_X x G tb 2 d 0 0 RX6 cX6_seed) (hr : x.2.2.2.2.2.2.2.2.1.sig.returnType = (some .int)) (hnm : x.2.2.2.2.2.2.2.2.1.name = "seed") : ip_okB x G 2 pc_X6_seed 0 ([oLdA 0, oI (7), oLdI 1, oCaV (ip_call tb d) 0 0 6 126 3 0 0], tRI .int 0 0) := ⟨_, okC (ok_aldn X rfl dX6_seed_0)
  (okC (ok_bi X (by decide) dX6_seed_1)
  (okC (ok_ildn X rfl dX6_seed_3)
  (okC (ok_calV X (i := 181) (e := en_126) rfl mt_126 rfl rfl rfl tw_975 tw_977 (Or.inl ⟨_, _, rfl⟩) tp_21 dX6_seed_4)
  (okN)))), ok_ret X hr dX6_seed_7⟩
theorem om_167 : ip_MOk tb en_167 pc_X6_seed := fun x G d X hr hnm => ⟨ob_X6_seed_0 X hr hnm, trivial⟩
theorem dX6_stepByDraws_0 : decode cX6_stepByDraws 0 = .ok (.aload_n 0, 1) := by decide +kernel
theorem dX6_stepByDraws_1 : decode cX6_stepByDraws 1 = .ok (.invokevirtual 233, 3) := by decide +kernel
theorem dX6_stepByDraws_4 : decode cX6_stepByDraws 4 = .ok (.bipush 8, 2) := by decide +kernel
theorem dX6_stepByDraws_6 : decode cX6_stepByDraws 6 = .ok (.irem, 1) := by decide +kernel
theorem dX6_stepByDraws_7 : decode cX6_stepByDraws 7 = .ok (.istore_n 1, 1) := by decide +kernel
theorem dX6_stepByDraws_8 : decode cX6_stepByDraws 8 = .ok (.aload_n 0, 1) := by decide +kernel
theorem dX6_stepByDraws_9 : decode cX6_stepByDraws 9 = .ok (.invokevirtual 233, 3) := by decide +kernel
theorem dX6_stepByDraws_12 : decode cX6_stepByDraws 12 = .ok (.bipush 100, 2) := by decide +kernel
theorem dX6_stepByDraws_14 : decode cX6_stepByDraws 14 = .ok (.irem, 1) := by decide +kernel
theorem dX6_stepByDraws_15 : decode cX6_stepByDraws 15 = .ok (.aload_n 0, 1) := by decide +kernel
theorem dX6_stepByDraws_16 : decode cX6_stepByDraws 16 = .ok (.getfield 7, 3) := by decide +kernel
theorem dX6_stepByDraws_19 : decode cX6_stepByDraws 19 = .ok (.iconst 3, 1) := by decide +kernel
theorem dX6_stepByDraws_20 : decode cX6_stepByDraws 20 = .ok (.iaload, 1) := by decide +kernel
theorem dX6_stepByDraws_21 : decode cX6_stepByDraws 21 = .ok (.if_icmp .ge 15, 3) := by decide +kernel
theorem dX6_stepByDraws_24 : decode cX6_stepByDraws 24 = .ok (.aload_n 0, 1) := by decide +kernel
theorem dX6_stepByDraws_25 : decode cX6_stepByDraws 25 = .ok (.getfield 7, 3) := by decide +kernel
theorem dX6_stepByDraws_28 : decode cX6_stepByDraws 28 = .ok (.iconst 5, 1) := by decide +kernel
theorem dX6_stepByDraws_29 : decode cX6_stepByDraws 29 = .ok (.dup2, 1) := by decide +kernel
theorem dX6_stepByDraws_30 : decode cX6_stepByDraws 30 = .ok (.iaload, 1) := by decide +kernel
theorem dX6_stepByDraws_31 : decode cX6_stepByDraws 31 = .ok (.iconst 1, 1) := by decide +kernel
theorem dX6_stepByDraws_32 : decode cX6_stepByDraws 32 = .ok (.iload_n 1, 1) := by decide +kernel
theorem dX6_stepByDraws_33 : decode cX6_stepByDraws 33 = .ok (.ishl, 1) := by decide +kernel
theorem dX6_stepByDraws_34 : decode cX6_stepByDraws 34 = .ok (.ixor, 1) := by decide +kernel
theorem dX6_stepByDraws_35 : decode cX6_stepByDraws 35 = .ok (.iastore, 1) := by decide +kernel
theorem dX6_stepByDraws_36 : decode cX6_stepByDraws 36 = .ok (.aload_n 0, 1) := by decide +kernel
theorem dX6_stepByDraws_37 : decode cX6_stepByDraws 37 = .ok (.invokevirtual 226, 3) := by decide +kernel
theorem dX6_stepByDraws_40 : decode cX6_stepByDraws 40 = .ok (.return_, 1) := by decide +kernel
def pc_X6_stepByDraws (i : Nat) : Nat := ([0, 24, 36] : List Nat).getD i 0
set_option maxRecDepth 20000 in
theorem ob_X6_stepByDraws_0 {x : ip_Cx} {G : ip_Gl} {d : Nat} (X : ip_X x G tb 2 d 0 0 RX6 cX6_stepByDraws) (hr : x.2.2.2.2.2.2.2.2.1.sig.returnType = none) (hnm : x.2.2.2.2.2.2.2.2.1.name = "stepByDraws") : ip_okB x G 2 pc_X6_stepByDraws 0 ([oLdA 0, oCaV (ip_call tb d) 0 0 6 166 1 0 0, oI (8), oDI (fun a b => a - a / b * b), oStI 1, oLdA 0, oCaV (ip_call tb d) 0 0 6 166 1 0 0, oI (100), oDI (fun a b => a - a / b * b), oLdA 0, oGet 6 0, oI (3), oAldI], tCm (fun a b => a < b) 1 2) := ⟨_, okC (ok_aldn X rfl dX6_stepByDraws_0)
  (okC (ok_calV X (i := 233) (e := en_166) rfl mt_166 rfl rfl rfl tw_1084 tw_1086 (Or.inl ⟨_, _, rfl⟩) tp_35 dX6_stepByDraws_1)
  (okC (ok_bi X (by decide) dX6_stepByDraws_4)
  (okC (ok_irem X dX6_stepByDraws_6)
  (okC (ok_istn X rfl (by decide) dX6_stepByDraws_7)
  (okC (ok_aldn X rfl dX6_stepByDraws_8)
  (okC (ok_calV X (i := 233) (e := en_166) rfl mt_166 rfl rfl rfl tw_1084 tw_1086 (Or.inl ⟨_, _, rfl⟩) tp_35 dX6_stepByDraws_9)
  (okC (ok_bi X (by decide) dX6_stepByDraws_12)
  (okC (ok_irem X dX6_stepByDraws_14)
  (okC (ok_aldn X rfl dX6_stepByDraws_15)
  (okC (ok_get X (ci := 6) rfl (by decide) iw_X6 tw_795 dX6_stepByDraws_16)
  (okC (ok_ic X (by decide) dX6_stepByDraws_19)
  (okC (ok_iald X dX6_stepByDraws_20)
  (okN))))))))))))), ok_cmge X (by decide) rfl dX6_stepByDraws_21⟩
set_option maxRecDepth 20000 in
theorem ob_X6_stepByDraws_1 {x : ip_Cx} {G : ip_Gl} {d : Nat} (X : ip_X x G tb 2 d 0 0 RX6 cX6_stepByDraws) (hr : x.2.2.2.2.2.2.2.2.1.sig.returnType = none) (hnm : x.2.2.2.2.2.2.2.2.1.name = "stepByDraws") : ip_okB x G 2 pc_X6_stepByDraws 24 ([oLdA 0, oGet 6 0, oI (5), oDp2, oAldI, oI (1), oLdI 1, oBI (fun a b => a <<< (b &&& 31)), oBI (fun a b => a ^^^ b), oAstI], tGo 2) := ⟨_, okC (ok_aldn X rfl dX6_stepByDraws_24)
  (okC (ok_get X (ci := 6) rfl (by decide) iw_X6 tw_795 dX6_stepByDraws_25)
  (okC (ok_ic X (by decide) dX6_stepByDraws_28)
  (okC (ok_dp2 X dX6_stepByDraws_29)
  (okC (ok_iald X dX6_stepByDraws_30)
  (okC (ok_ic X (by decide) dX6_stepByDraws_31)
  (okC (ok_ildn X rfl dX6_stepByDraws_32)
  (okC (ok_ishl X dX6_stepByDraws_33)
  (okC (ok_ixor X dX6_stepByDraws_34)
  (okC (ok_iast X dX6_stepByDraws_35)
  (okN)))))))))), ok_fall rfl⟩
set_option maxRecDepth 20000 in
theorem ob_X6_stepByDraws_2 {x : ip_Cx} {G : ip_Gl} {d : Nat} (X : ip_X x G tb 2 d 0 0 RX6 cX6_stepByDraws) (hr : x.2.2.2.2.2.2.2.2.1.sig.returnType = none) (hnm : x.2.2.2.2.2.2.2.2.1.name = "stepByDraws") : ip_okB x G 2 pc_X6_stepByDraws 36 ([oLdA 0, oCaV (ip_call tb d) 0 0 6 162 1 0 0], tRV 0 0) := ⟨_, okC (ok_aldn X rfl dX6_stepByDraws_36)
  (okC (ok_calV X (i := 226) (e := en_162) rfl mt_162 rfl rfl rfl tw_1049 tw_1051 (Or.inl ⟨_, _, rfl⟩) tp_29 dX6_stepByDraws_37)
  (okN)), ok_vret X hr dX6_stepByDraws_40⟩
theorem om_168 : ip_MOk tb en_168 pc_X6_stepByDraws := fun x G d X hr hnm => ⟨ob_X6_stepByDraws_0 X hr hnm, ⟨ob_X6_stepByDraws_1 X hr hnm, ⟨ob_X6_stepByDraws_2 X hr hnm, trivial⟩⟩⟩
theorem dX6_step_0 : decode cX6_step 0 = .ok (.aload_n 0, 1) := by decide +kernel
theorem dX6_step_1 : decode cX6_step 1 = .ok (.invokevirtual 236, 3) := by decide +kernel
theorem dX6_step_4 : decode cX6_step 4 = .ok (.aload_n 0, 1) := by decide +kernel
theorem dX6_step_5 : decode cX6_step 5 = .ok (.invokevirtual 229, 3) := by decide +kernel
theorem dX6_step_8 : decode cX6_step 8 = .ok (.invokestatic 198, 3) := by decide +kernel
theorem dX6_step_11 : decode cX6_step 11 = .ok (.ireturn, 1) := by decide +kernel
def pc_X6_step (i : Nat) : Nat := ([0] : List Nat).getD i 0
set_option maxRecDepth 20000 in
theorem ob_X6_step_0 {x : ip_Cx} {G : ip_Gl} {d : Nat} (X : ip_X x G tb 1 d 0 0 RX6 cX6_step) (hr : x.2.2.2.2.2.2.2.2.1.sig.returnType = (some .int)) (hnm : x.2.2.2.2.2.2.2.2.1.name = "step") : ip_okB x G 1 pc_X6_step 0 ([oLdA 0, oCaV (ip_call tb d) 0 0 6 168 1 0 0, oLdA 0, oCaV (ip_call tb d) 0 0 6 163 1 0 0, oCal (ip_call tb d) 0 0 127 1 0 0], tRI .int 0 0) := ⟨_, okC (ok_aldn X rfl dX6_step_0)
  (okC (ok_calV X (i := 236) (e := en_168) rfl mt_168 rfl rfl rfl tw_1080 tw_1082 (Or.inl ⟨_, _, rfl⟩) tp_34 dX6_step_1)
  (okC (ok_aldn X rfl dX6_step_4)
  (okC (ok_calV X (i := 229) (e := en_163) rfl mt_163 rfl rfl rfl tw_1068 tw_1070 (Or.inl ⟨_, _, rfl⟩) tp_33 dX6_step_5)
  (okC (ok_calS X (i := 198) (e := en_127) rfl mt_127 rfl rfl rfl tw_1022 tw_1023 dX6_step_8)
  (okN))))), ok_ret X hr dX6_step_11⟩
theorem om_169 : ip_MOk tb en_169 pc_X6_step := fun x G d X hr hnm => ⟨ob_X6_step_0 X hr hnm, trivial⟩
theorem dX6_luck_0 : decode cX6_luck 0 = .ok (.iload_n 1, 1) := by decide +kernel
theorem dX6_luck_1 : decode cX6_luck 1 = .ok (.iconst 1, 1) := by decide +kernel
theorem dX6_luck_2 : decode cX6_luck 2 = .ok (.bipush 30, 2) := by decide +kernel
theorem dX6_luck_4 : decode cX6_luck 4 = .ok (.invokestatic 57, 3) := by decide +kernel
theorem dX6_luck_7 : decode cX6_luck 7 = .ok (.ifCond .ne 5, 3) := by decide +kernel
theorem dX6_luck_10 : decode cX6_luck 10 = .ok (.iconst (-1), 1) := by decide +kernel
theorem dX6_luck_11 : decode cX6_luck 11 = .ok (.ireturn, 1) := by decide +kernel
theorem dX6_luck_12 : decode cX6_luck 12 = .ok (.aload_n 0, 1) := by decide +kernel
theorem dX6_luck_13 : decode cX6_luck 13 = .ok (.getfield 7, 3) := by decide +kernel
theorem dX6_luck_16 : decode cX6_luck 16 = .ok (.aload_n 0, 1) := by decide +kernel
theorem dX6_luck_17 : decode cX6_luck 17 = .ok (.getfield 19, 3) := by decide +kernel
theorem dX6_luck_20 : decode cX6_luck 20 = .ok (.invokestatic 174, 3) := by decide +kernel
theorem dX6_luck_23 : decode cX6_luck 23 = .ok (.aload_n 0, 1) := by decide +kernel
theorem dX6_luck_24 : decode cX6_luck 24 = .ok (.invokevirtual 226, 3) := by decide +kernel
theorem dX6_luck_27 : decode cX6_luck 27 = .ok (.aload_n 0, 1) := by decide +kernel
theorem dX6_luck_28 : decode cX6_luck 28 = .ok (.invokevirtual 239, 3) := by decide +kernel
theorem dX6_luck_31 : decode cX6_luck 31 = .ok (.invokestatic 198, 3) := by decide +kernel
theorem dX6_luck_34 : decode cX6_luck 34 = .ok (.istore_n 2, 1) := by decide +kernel
theorem dX6_luck_35 : decode cX6_luck 35 = .ok (.aload_n 0, 1) := by decide +kernel
theorem dX6_luck_36 : decode cX6_luck 36 = .ok (.getfield 19, 3) := by decide +kernel
theorem dX6_luck_39 : decode cX6_luck 39 = .ok (.aload_n 0, 1) := by decide +kernel
theorem dX6_luck_40 : decode cX6_luck 40 = .ok (.getfield 7, 3) := by decide +kernel
theorem dX6_luck_43 : decode cX6_luck 43 = .ok (.invokestatic 174, 3) := by decide +kernel
theorem dX6_luck_46 : decode cX6_luck 46 = .ok (.aload_n 0, 1) := by decide +kernel
theorem dX6_luck_47 : decode cX6_luck 47 = .ok (.getfield 7, 3) := by decide +kernel
theorem dX6_luck_50 : decode cX6_luck 50 = .ok (.bipush 7, 2) := by decide +kernel
theorem dX6_luck_52 : decode cX6_luck 52 = .ok (.iaload, 1) := by decide +kernel
theorem dX6_luck_53 : decode cX6_luck 53 = .ok (.istore_n 3, 1) := by decide +kernel
theorem dX6_luck_54 : decode cX6_luck 54 = .ok (.iconst 0, 1) := by decide +kernel
theorem dX6_luck_55 : decode cX6_luck 55 = .ok (.istore 4, 2) := by decide +kernel
theorem dX6_luck_57 : decode cX6_luck 57 = .ok (.iconst 0, 1) := by decide +kernel
theorem dX6_luck_58 : decode cX6_luck 58 = .ok (.istore 5, 2) := by decide +kernel
theorem dX6_luck_60 : decode cX6_luck 60 = .ok (.iload 5, 2) := by decide +kernel
theorem dX6_luck_62 : decode cX6_luck 62 = .ok (.iload_n 1, 1) := by decide +kernel
theorem dX6_luck_63 : decode cX6_luck 63 = .ok (.if_icmp .ge 61, 3) := by decide +kernel
theorem dX6_luck_66 : decode cX6_luck 66 = .ok (.aload_n 0, 1) := by decide +kernel
theorem dX6_luck_67 : decode cX6_luck 67 = .ok (.getfield 7, 3) := by decide +kernel
theorem dX6_luck_70 : decode cX6_luck 70 = .ok (.bipush 7, 2) := by decide +kernel
theorem dX6_luck_72 : decode cX6_luck 72 = .ok (.iload_n 3, 1) := by decide +kernel
theorem dX6_luck_73 : decode cX6_luck 73 = .ok (.iastore, 1) := by decide +kernel
theorem dX6_luck_74 : decode cX6_luck 74 = .ok (.aload_n 0, 1) := by decide +kernel
theorem dX6_luck_75 : decode cX6_luck 75 = .ok (.invokevirtual 236, 3) := by decide +kernel
theorem dX6_luck_78 : decode cX6_luck 78 = .ok (.iload 4, 2) := by decide +kernel
theorem dX6_luck_80 : decode cX6_luck 80 = .ok (.aload_n 0, 1) := by decide +kernel
theorem dX6_luck_81 : decode cX6_luck 81 = .ok (.invokevirtual 239, 3) := by decide +kernel
theorem dX6_luck_84 : decode cX6_luck 84 = .ok (.invokestatic 198, 3) := by decide +kernel
theorem dX6_luck_87 : decode cX6_luck 87 = .ok (.iload_n 2, 1) := by decide +kernel
theorem dX6_luck_88 : decode cX6_luck 88 = .ok (.if_icmp .le 7, 3) := by decide +kernel
theorem dX6_luck_91 : decode cX6_luck 91 = .ok (.iconst 1, 1) := by decide +kernel
theorem dX6_luck_92 : decode cX6_luck 92 = .ok (.goto 4, 3) := by decide +kernel
theorem dX6_luck_95 : decode cX6_luck 95 = .ok (.iconst 0, 1) := by decide +kernel
theorem dX6_luck_96 : decode cX6_luck 96 = .ok (.iadd, 1) := by decide +kernel
theorem dX6_luck_97 : decode cX6_luck 97 = .ok (.istore 4, 2) := by decide +kernel
theorem dX6_luck_99 : decode cX6_luck 99 = .ok (.aload_n 0, 1) := by decide +kernel
theorem dX6_luck_100 : decode cX6_luck 100 = .ok (.getfield 7, 3) := by decide +kernel
theorem dX6_luck_103 : decode cX6_luck 103 = .ok (.bipush 7, 2) := by decide +kernel
theorem dX6_luck_105 : decode cX6_luck 105 = .ok (.iaload, 1) := by decide +kernel
theorem dX6_luck_106 : decode cX6_luck 106 = .ok (.istore_n 3, 1) := by decide +kernel
theorem dX6_luck_107 : decode cX6_luck 107 = .ok (.aload_n 0, 1) := by decide +kernel
theorem dX6_luck_108 : decode cX6_luck 108 = .ok (.getfield 19, 3) := by decide +kernel
theorem dX6_luck_111 : decode cX6_luck 111 = .ok (.aload_n 0, 1) := by decide +kernel
theorem dX6_luck_112 : decode cX6_luck 112 = .ok (.getfield 7, 3) := by decide +kernel
theorem dX6_luck_115 : decode cX6_luck 115 = .ok (.invokestatic 174, 3) := by decide +kernel
theorem dX6_luck_118 : decode cX6_luck 118 = .ok (.iinc 5 1, 3) := by decide +kernel
theorem dX6_luck_121 : decode cX6_luck 121 = .ok (.goto (-61), 3) := by decide +kernel
theorem dX6_luck_124 : decode cX6_luck 124 = .ok (.iload 4, 2) := by decide +kernel
theorem dX6_luck_126 : decode cX6_luck 126 = .ok (.ireturn, 1) := by decide +kernel
def pc_X6_luck (i : Nat) : Nat := ([0, 10, 12, 60, 66, 91, 95, 96, 124] : List Nat).getD i 0
set_option maxRecDepth 20000 in
theorem ob_X6_luck_0 {x : ip_Cx} {G : ip_Gl} {d : Nat} (X : ip_X x G tb 6 d 0 0 RX6 cX6_luck) (hr : x.2.2.2.2.2.2.2.2.1.sig.returnType = (some .int)) (hnm : x.2.2.2.2.2.2.2.2.1.name = "luck") : ip_okB x G 6 pc_X6_luck 0 ([oLdI 1, oI (1), oI (30), oCal (ip_call tb d) 0 0 120 3 0 0], tIf (fun a => a = 0) 1 2) := ⟨_, okC (ok_ildn X rfl dX6_luck_0)
  (okC (ok_ic X (by decide) dX6_luck_1)
  (okC (ok_bi X (by decide) dX6_luck_2)
  (okC (ok_calS X (i := 57) (e := en_120) rfl mt_120 rfl rfl rfl tw_885 tw_886 dX6_luck_4)
  (okN)))), ok_ifne X (by decide) rfl dX6_luck_7⟩
set_option maxRecDepth 20000 in
theorem ob_X6_luck_1 {x : ip_Cx} {G : ip_Gl} {d : Nat} (X : ip_X x G tb 6 d 0 0 RX6 cX6_luck) (hr : x.2.2.2.2.2.2.2.2.1.sig.returnType = (some .int)) (hnm : x.2.2.2.2.2.2.2.2.1.name = "luck") : ip_okB x G 6 pc_X6_luck 10 ([oI (-1)], tRI .int 0 0) := ⟨_, okC (ok_ic X (by decide) dX6_luck_10)
  (okN), ok_ret X hr dX6_luck_11⟩
set_option maxRecDepth 20000 in
theorem ob_X6_luck_2 {x : ip_Cx} {G : ip_Gl} {d : Nat} (X : ip_X x G tb 6 d 0 0 RX6 cX6_luck) (hr : x.2.2.2.2.2.2.2.2.1.sig.returnType = (some .int)) (hnm : x.2.2.2.2.2.2.2.2.1.name = "luck") : ip_okB x G 6 pc_X6_luck 12 ([oLdA 0, oGet 6 0, oLdA 0, oGet 6 3, oCal (ip_call tb d) 0 0 122 2 0 0, oLdA 0, oCaV (ip_call tb d) 0 0 6 162 1 0 0, oLdA 0, oCaV (ip_call tb d) 0 0 6 164 1 0 0, oCal (ip_call tb d) 0 0 127 1 0 0, oStI 2, oLdA 0, oGet 6 3, oLdA 0, oGet 6 0, oCal (ip_call tb d) 0 0 122 2 0 0, oLdA 0, oGet 6 0, oI (7), oAldI, oStI 3, oI (0), oStI 4, oI (0), oStI 5], tGo 3) := ⟨_, okC (ok_aldn X rfl dX6_luck_12)
  (okC (ok_get X (ci := 6) rfl (by decide) iw_X6 tw_795 dX6_luck_13)
  (okC (ok_aldn X rfl dX6_luck_16)
  (okC (ok_get X (ci := 6) rfl (by decide) iw_X6 tw_798 dX6_luck_17)
  (okC (ok_calS X (i := 174) (e := en_122) rfl mt_122 rfl rfl rfl tw_968 tw_969 dX6_luck_20)
  (okC (ok_aldn X rfl dX6_luck_23)
  (okC (ok_calV X (i := 226) (e := en_162) rfl mt_162 rfl rfl rfl tw_1049 tw_1051 (Or.inl ⟨_, _, rfl⟩) tp_29 dX6_luck_24)
  (okC (ok_aldn X rfl dX6_luck_27)
  (okC (ok_calV X (i := 239) (e := en_164) rfl mt_164 rfl rfl rfl tw_1093 tw_1095 (Or.inl ⟨_, _, rfl⟩) tp_36 dX6_luck_28)
  (okC (ok_calS X (i := 198) (e := en_127) rfl mt_127 rfl rfl rfl tw_1022 tw_1023 dX6_luck_31)
  (okC (ok_istn X rfl (by decide) dX6_luck_34)
  (okC (ok_aldn X rfl dX6_luck_35)
  (okC (ok_get X (ci := 6) rfl (by decide) iw_X6 tw_798 dX6_luck_36)
  (okC (ok_aldn X rfl dX6_luck_39)
  (okC (ok_get X (ci := 6) rfl (by decide) iw_X6 tw_795 dX6_luck_40)
  (okC (ok_calS X (i := 174) (e := en_122) rfl mt_122 rfl rfl rfl tw_968 tw_969 dX6_luck_43)
  (okC (ok_aldn X rfl dX6_luck_46)
  (okC (ok_get X (ci := 6) rfl (by decide) iw_X6 tw_795 dX6_luck_47)
  (okC (ok_bi X (by decide) dX6_luck_50)
  (okC (ok_iald X dX6_luck_52)
  (okC (ok_istn X rfl (by decide) dX6_luck_53)
  (okC (ok_ic X (by decide) dX6_luck_54)
  (okC (ok_ist X (by decide) dX6_luck_55)
  (okC (ok_ic X (by decide) dX6_luck_57)
  (okC (ok_ist X (by decide) dX6_luck_58)
  (okN))))))))))))))))))))))))), ok_fall rfl⟩
set_option maxRecDepth 20000 in
theorem ob_X6_luck_3 {x : ip_Cx} {G : ip_Gl} {d : Nat} (X : ip_X x G tb 6 d 0 0 RX6 cX6_luck) (hr : x.2.2.2.2.2.2.2.2.1.sig.returnType = (some .int)) (hnm : x.2.2.2.2.2.2.2.2.1.name = "luck") : ip_okB x G 6 pc_X6_luck 60 ([oLdI 5, oLdI 1], tCm (fun a b => a < b) 4 8) := ⟨_, okC (ok_ild X dX6_luck_60)
  (okC (ok_ildn X rfl dX6_luck_62)
  (okN)), ok_cmge X (by decide) rfl dX6_luck_63⟩
set_option maxRecDepth 20000 in
theorem ob_X6_luck_4 {x : ip_Cx} {G : ip_Gl} {d : Nat} (X : ip_X x G tb 6 d 0 0 RX6 cX6_luck) (hr : x.2.2.2.2.2.2.2.2.1.sig.returnType = (some .int)) (hnm : x.2.2.2.2.2.2.2.2.1.name = "luck") : ip_okB x G 6 pc_X6_luck 66 ([oLdA 0, oGet 6 0, oI (7), oLdI 3, oAstI, oLdA 0, oCaV (ip_call tb d) 0 0 6 168 1 0 0, oLdI 4, oLdA 0, oCaV (ip_call tb d) 0 0 6 164 1 0 0, oCal (ip_call tb d) 0 0 127 1 0 0, oLdI 2], tCm (fun a b => b < a) 5 6) := ⟨_, okC (ok_aldn X rfl dX6_luck_66)
  (okC (ok_get X (ci := 6) rfl (by decide) iw_X6 tw_795 dX6_luck_67)
  (okC (ok_bi X (by decide) dX6_luck_70)
  (okC (ok_ildn X rfl dX6_luck_72)
  (okC (ok_iast X dX6_luck_73)
  (okC (ok_aldn X rfl dX6_luck_74)
  (okC (ok_calV X (i := 236) (e := en_168) rfl mt_168 rfl rfl rfl tw_1080 tw_1082 (Or.inl ⟨_, _, rfl⟩) tp_34 dX6_luck_75)
  (okC (ok_ild X dX6_luck_78)
  (okC (ok_aldn X rfl dX6_luck_80)
  (okC (ok_calV X (i := 239) (e := en_164) rfl mt_164 rfl rfl rfl tw_1093 tw_1095 (Or.inl ⟨_, _, rfl⟩) tp_36 dX6_luck_81)
  (okC (ok_calS X (i := 198) (e := en_127) rfl mt_127 rfl rfl rfl tw_1022 tw_1023 dX6_luck_84)
  (okC (ok_ildn X rfl dX6_luck_87)
  (okN)))))))))))), ok_cmle X (by decide) rfl dX6_luck_88⟩
set_option maxRecDepth 20000 in
theorem ob_X6_luck_5 {x : ip_Cx} {G : ip_Gl} {d : Nat} (X : ip_X x G tb 6 d 0 0 RX6 cX6_luck) (hr : x.2.2.2.2.2.2.2.2.1.sig.returnType = (some .int)) (hnm : x.2.2.2.2.2.2.2.2.1.name = "luck") : ip_okB x G 6 pc_X6_luck 91 ([oI (1)], tGo 7) := ⟨_, okC (ok_ic X (by decide) dX6_luck_91)
  (okN), ok_go X (by decide) dX6_luck_92⟩
set_option maxRecDepth 20000 in
theorem ob_X6_luck_6 {x : ip_Cx} {G : ip_Gl} {d : Nat} (X : ip_X x G tb 6 d 0 0 RX6 cX6_luck) (hr : x.2.2.2.2.2.2.2.2.1.sig.returnType = (some .int)) (hnm : x.2.2.2.2.2.2.2.2.1.name = "luck") : ip_okB x G 6 pc_X6_luck 95 ([oI (0)], tGo 7) := ⟨_, okC (ok_ic X (by decide) dX6_luck_95)
  (okN), ok_fall rfl⟩
set_option maxRecDepth 20000 in
theorem ob_X6_luck_7 {x : ip_Cx} {G : ip_Gl} {d : Nat} (X : ip_X x G tb 6 d 0 0 RX6 cX6_luck) (hr : x.2.2.2.2.2.2.2.2.1.sig.returnType = (some .int)) (hnm : x.2.2.2.2.2.2.2.2.1.name = "luck") : ip_okB x G 6 pc_X6_luck 96 ([oBI (fun a b => a + b), oStI 4, oLdA 0, oGet 6 0, oI (7), oAldI, oStI 3, oLdA 0, oGet 6 3, oLdA 0, oGet 6 0, oCal (ip_call tb d) 0 0 122 2 0 0, oInc 5 (1)], tGo 3) := ⟨_, okC (ok_iadd X dX6_luck_96)
  (okC (ok_ist X (by decide) dX6_luck_97)
  (okC (ok_aldn X rfl dX6_luck_99)
  (okC (ok_get X (ci := 6) rfl (by decide) iw_X6 tw_795 dX6_luck_100)
  (okC (ok_bi X (by decide) dX6_luck_103)
  (okC (ok_iald X dX6_luck_105)
  (okC (ok_istn X rfl (by decide) dX6_luck_106)
  (okC (ok_aldn X rfl dX6_luck_107)
  (okC (ok_get X (ci := 6) rfl (by decide) iw_X6 tw_798 dX6_luck_108)
  (okC (ok_aldn X rfl dX6_luck_111)
  (okC (ok_get X (ci := 6) rfl (by decide) iw_X6 tw_795 dX6_luck_112)
  (okC (ok_calS X (i := 174) (e := en_122) rfl mt_122 rfl rfl rfl tw_968 tw_969 dX6_luck_115)
  (okC (ok_inc X (by decide) dX6_luck_118)
  (okN))))))))))))), ok_go X (by decide) dX6_luck_121⟩
set_option maxRecDepth 20000 in
theorem ob_X6_luck_8 {x : ip_Cx} {G : ip_Gl} {d : Nat} (X : ip_X x G tb 6 d 0 0 RX6 cX6_luck) (hr : x.2.2.2.2.2.2.2.2.1.sig.returnType = (some .int)) (hnm : x.2.2.2.2.2.2.2.2.1.name = "luck") : ip_okB x G 6 pc_X6_luck 124 ([oLdI 4], tRI .int 0 0) := ⟨_, okC (ok_ild X dX6_luck_124)
  (okN), ok_ret X hr dX6_luck_126⟩
theorem om_170 : ip_MOk tb en_170 pc_X6_luck := fun x G d X hr hnm => ⟨ob_X6_luck_0 X hr hnm, ⟨ob_X6_luck_1 X hr hnm, ⟨ob_X6_luck_2 X hr hnm, ⟨ob_X6_luck_3 X hr hnm, ⟨ob_X6_luck_4 X hr hnm, ⟨ob_X6_luck_5 X hr hnm, ⟨ob_X6_luck_6 X hr hnm, ⟨ob_X6_luck_7 X hr hnm, ⟨ob_X6_luck_8 X hr hnm, trivial⟩⟩⟩⟩⟩⟩⟩⟩⟩
theorem dX6_clash_0 : decode cX6_clash 0 = .ok (.aload_n 0, 1) := by decide +kernel
theorem dX6_clash_1 : decode cX6_clash 1 = .ok (.iload_n 1, 1) := by decide +kernel
theorem dX6_clash_2 : decode cX6_clash 2 = .ok (.iconst 3, 1) := by decide +kernel
theorem dX6_clash_3 : decode cX6_clash 3 = .ok (.invokevirtual 195, 3) := by decide +kernel
theorem dX6_clash_6 : decode cX6_clash 6 = .ok (.aload_n 0, 1) := by decide +kernel
theorem dX6_clash_7 : decode cX6_clash 7 = .ok (.iload_n 2, 1) := by decide +kernel
theorem dX6_clash_8 : decode cX6_clash 8 = .ok (.iconst 4, 1) := by decide +kernel
theorem dX6_clash_9 : decode cX6_clash 9 = .ok (.invokevirtual 195, 3) := by decide +kernel
theorem dX6_clash_12 : decode cX6_clash 12 = .ok (.iand, 1) := by decide +kernel
theorem dX6_clash_13 : decode cX6_clash 13 = .ok (.invokestatic 198, 3) := by decide +kernel
theorem dX6_clash_16 : decode cX6_clash 16 = .ok (.aload_n 0, 1) := by decide +kernel
theorem dX6_clash_17 : decode cX6_clash 17 = .ok (.iload_n 1, 1) := by decide +kernel
theorem dX6_clash_18 : decode cX6_clash 18 = .ok (.iconst 4, 1) := by decide +kernel
theorem dX6_clash_19 : decode cX6_clash 19 = .ok (.invokevirtual 195, 3) := by decide +kernel
theorem dX6_clash_22 : decode cX6_clash 22 = .ok (.aload_n 0, 1) := by decide +kernel
theorem dX6_clash_23 : decode cX6_clash 23 = .ok (.iload_n 2, 1) := by decide +kernel
theorem dX6_clash_24 : decode cX6_clash 24 = .ok (.iconst 3, 1) := by decide +kernel
theorem dX6_clash_25 : decode cX6_clash 25 = .ok (.invokevirtual 195, 3) := by decide +kernel
theorem dX6_clash_28 : decode cX6_clash 28 = .ok (.iand, 1) := by decide +kernel
theorem dX6_clash_29 : decode cX6_clash 29 = .ok (.invokestatic 198, 3) := by decide +kernel
theorem dX6_clash_32 : decode cX6_clash 32 = .ok (.iadd, 1) := by decide +kernel
theorem dX6_clash_33 : decode cX6_clash 33 = .ok (.ireturn, 1) := by decide +kernel
def pc_X6_clash (i : Nat) : Nat := ([0] : List Nat).getD i 0
set_option maxRecDepth 20000 in
theorem ob_X6_clash_0 {x : ip_Cx} {G : ip_Gl} {d : Nat} (X : ip_X x G tb 3 d 0 0 RX6 cX6_clash) (hr : x.2.2.2.2.2.2.2.2.1.sig.returnType = (some .int)) (hnm : x.2.2.2.2.2.2.2.2.1.name = "clash") : ip_okB x G 3 pc_X6_clash 0 ([oLdA 0, oLdI 1, oI (3), oCaV (ip_call tb d) 0 0 6 124 3 0 0, oLdA 0, oLdI 2, oI (4), oCaV (ip_call tb d) 0 0 6 124 3 0 0, oBI (fun a b => a &&& b), oCal (ip_call tb d) 0 0 127 1 0 0, oLdA 0, oLdI 1, oI (4), oCaV (ip_call tb d) 0 0 6 124 3 0 0, oLdA 0, oLdI 2, oI (3), oCaV (ip_call tb d) 0 0 6 124 3 0 0, oBI (fun a b => a &&& b), oCal (ip_call tb d) 0 0 127 1 0 0, oBI (fun a b => a + b)], tRI .int 0 0) := ⟨_, okC (ok_aldn X rfl dX6_clash_0)
  (okC (ok_ildn X rfl dX6_clash_1)
  (okC (ok_ic X (by decide) dX6_clash_2)
  (okC (ok_calV X (i := 195) (e := en_124) rfl mt_124 rfl rfl rfl tw_1006 tw_1008 (Or.inl ⟨_, _, rfl⟩) tp_24 dX6_clash_3)
  (okC (ok_aldn X rfl dX6_clash_6)
  (okC (ok_ildn X rfl dX6_clash_7)
  (okC (ok_ic X (by decide) dX6_clash_8)
  (okC (ok_calV X (i := 195) (e := en_124) rfl mt_124 rfl rfl rfl tw_1006 tw_1008 (Or.inl ⟨_, _, rfl⟩) tp_24 dX6_clash_9)
  (okC (ok_iand X dX6_clash_12)
  (okC (ok_calS X (i := 198) (e := en_127) rfl mt_127 rfl rfl rfl tw_1022 tw_1023 dX6_clash_13)
  (okC (ok_aldn X rfl dX6_clash_16)
  (okC (ok_ildn X rfl dX6_clash_17)
  (okC (ok_ic X (by decide) dX6_clash_18)
  (okC (ok_calV X (i := 195) (e := en_124) rfl mt_124 rfl rfl rfl tw_1006 tw_1008 (Or.inl ⟨_, _, rfl⟩) tp_24 dX6_clash_19)
  (okC (ok_aldn X rfl dX6_clash_22)
  (okC (ok_ildn X rfl dX6_clash_23)
  (okC (ok_ic X (by decide) dX6_clash_24)
  (okC (ok_calV X (i := 195) (e := en_124) rfl mt_124 rfl rfl rfl tw_1006 tw_1008 (Or.inl ⟨_, _, rfl⟩) tp_24 dX6_clash_25)
  (okC (ok_iand X dX6_clash_28)
  (okC (ok_calS X (i := 198) (e := en_127) rfl mt_127 rfl rfl rfl tw_1022 tw_1023 dX6_clash_29)
  (okC (ok_iadd X dX6_clash_32)
  (okN))))))))))))))))))))), ok_ret X hr dX6_clash_33⟩
theorem om_171 : ip_MOk tb en_171 pc_X6_clash := fun x G d X hr hnm => ⟨ob_X6_clash_0 X hr hnm, trivial⟩
theorem dX6_agreed_0 : decode cX6_agreed 0 = .ok (.aload_n 0, 1) := by decide +kernel
theorem dX6_agreed_1 : decode cX6_agreed 1 = .ok (.iload_n 1, 1) := by decide +kernel
theorem dX6_agreed_2 : decode cX6_agreed 2 = .ok (.iconst 3, 1) := by decide +kernel
theorem dX6_agreed_3 : decode cX6_agreed 3 = .ok (.invokevirtual 195, 3) := by decide +kernel
theorem dX6_agreed_6 : decode cX6_agreed 6 = .ok (.aload_n 0, 1) := by decide +kernel
theorem dX6_agreed_7 : decode cX6_agreed 7 = .ok (.iload_n 2, 1) := by decide +kernel
theorem dX6_agreed_8 : decode cX6_agreed 8 = .ok (.iconst 3, 1) := by decide +kernel
theorem dX6_agreed_9 : decode cX6_agreed 9 = .ok (.invokevirtual 195, 3) := by decide +kernel
theorem dX6_agreed_12 : decode cX6_agreed 12 = .ok (.iand, 1) := by decide +kernel
theorem dX6_agreed_13 : decode cX6_agreed 13 = .ok (.invokestatic 198, 3) := by decide +kernel
theorem dX6_agreed_16 : decode cX6_agreed 16 = .ok (.aload_n 0, 1) := by decide +kernel
theorem dX6_agreed_17 : decode cX6_agreed 17 = .ok (.iload_n 1, 1) := by decide +kernel
theorem dX6_agreed_18 : decode cX6_agreed 18 = .ok (.iconst 4, 1) := by decide +kernel
theorem dX6_agreed_19 : decode cX6_agreed 19 = .ok (.invokevirtual 195, 3) := by decide +kernel
theorem dX6_agreed_22 : decode cX6_agreed 22 = .ok (.aload_n 0, 1) := by decide +kernel
theorem dX6_agreed_23 : decode cX6_agreed 23 = .ok (.iload_n 2, 1) := by decide +kernel
theorem dX6_agreed_24 : decode cX6_agreed 24 = .ok (.iconst 4, 1) := by decide +kernel
theorem dX6_agreed_25 : decode cX6_agreed 25 = .ok (.invokevirtual 195, 3) := by decide +kernel
theorem dX6_agreed_28 : decode cX6_agreed 28 = .ok (.iand, 1) := by decide +kernel
theorem dX6_agreed_29 : decode cX6_agreed 29 = .ok (.invokestatic 198, 3) := by decide +kernel
theorem dX6_agreed_32 : decode cX6_agreed 32 = .ok (.iadd, 1) := by decide +kernel
theorem dX6_agreed_33 : decode cX6_agreed 33 = .ok (.ireturn, 1) := by decide +kernel
def pc_X6_agreed (i : Nat) : Nat := ([0] : List Nat).getD i 0
set_option maxRecDepth 20000 in
theorem ob_X6_agreed_0 {x : ip_Cx} {G : ip_Gl} {d : Nat} (X : ip_X x G tb 3 d 0 0 RX6 cX6_agreed) (hr : x.2.2.2.2.2.2.2.2.1.sig.returnType = (some .int)) (hnm : x.2.2.2.2.2.2.2.2.1.name = "agreed") : ip_okB x G 3 pc_X6_agreed 0 ([oLdA 0, oLdI 1, oI (3), oCaV (ip_call tb d) 0 0 6 124 3 0 0, oLdA 0, oLdI 2, oI (3), oCaV (ip_call tb d) 0 0 6 124 3 0 0, oBI (fun a b => a &&& b), oCal (ip_call tb d) 0 0 127 1 0 0, oLdA 0, oLdI 1, oI (4), oCaV (ip_call tb d) 0 0 6 124 3 0 0, oLdA 0, oLdI 2, oI (4), oCaV (ip_call tb d) 0 0 6 124 3 0 0, oBI (fun a b => a &&& b), oCal (ip_call tb d) 0 0 127 1 0 0, oBI (fun a b => a + b)], tRI .int 0 0) := ⟨_, okC (ok_aldn X rfl dX6_agreed_0)
  (okC (ok_ildn X rfl dX6_agreed_1)
  (okC (ok_ic X (by decide) dX6_agreed_2)
  (okC (ok_calV X (i := 195) (e := en_124) rfl mt_124 rfl rfl rfl tw_1006 tw_1008 (Or.inl ⟨_, _, rfl⟩) tp_24 dX6_agreed_3)
  (okC (ok_aldn X rfl dX6_agreed_6)
  (okC (ok_ildn X rfl dX6_agreed_7)
  (okC (ok_ic X (by decide) dX6_agreed_8)
  (okC (ok_calV X (i := 195) (e := en_124) rfl mt_124 rfl rfl rfl tw_1006 tw_1008 (Or.inl ⟨_, _, rfl⟩) tp_24 dX6_agreed_9)
  (okC (ok_iand X dX6_agreed_12)
  (okC (ok_calS X (i := 198) (e := en_127) rfl mt_127 rfl rfl rfl tw_1022 tw_1023 dX6_agreed_13)
  (okC (ok_aldn X rfl dX6_agreed_16)
  (okC (ok_ildn X rfl dX6_agreed_17)
  (okC (ok_ic X (by decide) dX6_agreed_18)
  (okC (ok_calV X (i := 195) (e := en_124) rfl mt_124 rfl rfl rfl tw_1006 tw_1008 (Or.inl ⟨_, _, rfl⟩) tp_24 dX6_agreed_19)
  (okC (ok_aldn X rfl dX6_agreed_22)
  (okC (ok_ildn X rfl dX6_agreed_23)
  (okC (ok_ic X (by decide) dX6_agreed_24)
  (okC (ok_calV X (i := 195) (e := en_124) rfl mt_124 rfl rfl rfl tw_1006 tw_1008 (Or.inl ⟨_, _, rfl⟩) tp_24 dX6_agreed_25)
  (okC (ok_iand X dX6_agreed_28)
  (okC (ok_calS X (i := 198) (e := en_127) rfl mt_127 rfl rfl rfl tw_1022 tw_1023 dX6_agreed_29)
  (okC (ok_iadd X dX6_agreed_32)
  (okN))))))))))))))))))))), ok_ret X hr dX6_agreed_33⟩
theorem om_172 : ip_MOk tb en_172 pc_X6_agreed := fun x G d X hr hnm => ⟨ob_X6_agreed_0 X hr hnm, trivial⟩
theorem dX6_isPeace_0 : decode cX6_isPeace 0 = .ok (.iconst 1, 1) := by decide +kernel
theorem dX6_isPeace_1 : decode cX6_isPeace 1 = .ok (.istore_n 2, 1) := by decide +kernel
theorem dX6_isPeace_2 : decode cX6_isPeace 2 = .ok (.iconst 0, 1) := by decide +kernel
theorem dX6_isPeace_3 : decode cX6_isPeace 3 = .ok (.istore_n 3, 1) := by decide +kernel
theorem dX6_isPeace_4 : decode cX6_isPeace 4 = .ok (.iload_n 3, 1) := by decide +kernel
theorem dX6_isPeace_5 : decode cX6_isPeace 5 = .ok (.aload_n 0, 1) := by decide +kernel
theorem dX6_isPeace_6 : decode cX6_isPeace 6 = .ok (.getfield 7, 3) := by decide +kernel
theorem dX6_isPeace_9 : decode cX6_isPeace 9 = .ok (.bipush 6, 2) := by decide +kernel
theorem dX6_isPeace_11 : decode cX6_isPeace 11 = .ok (.iaload, 1) := by decide +kernel
theorem dX6_isPeace_12 : decode cX6_isPeace 12 = .ok (.if_icmp .ge 65, 3) := by decide +kernel
theorem dX6_isPeace_15 : decode cX6_isPeace 15 = .ok (.iload_n 3, 1) := by decide +kernel
theorem dX6_isPeace_16 : decode cX6_isPeace 16 = .ok (.iconst 1, 1) := by decide +kernel
theorem dX6_isPeace_17 : decode cX6_isPeace 17 = .ok (.iadd, 1) := by decide +kernel
theorem dX6_isPeace_18 : decode cX6_isPeace 18 = .ok (.istore 4, 2) := by decide +kernel
theorem dX6_isPeace_20 : decode cX6_isPeace 20 = .ok (.iload 4, 2) := by decide +kernel
theorem dX6_isPeace_22 : decode cX6_isPeace 22 = .ok (.aload_n 0, 1) := by decide +kernel
theorem dX6_isPeace_23 : decode cX6_isPeace 23 = .ok (.getfield 7, 3) := by decide +kernel
theorem dX6_isPeace_26 : decode cX6_isPeace 26 = .ok (.bipush 6, 2) := by decide +kernel
theorem dX6_isPeace_28 : decode cX6_isPeace 28 = .ok (.iaload, 1) := by decide +kernel
theorem dX6_isPeace_29 : decode cX6_isPeace 29 = .ok (.if_icmp .ge 42, 3) := by decide +kernel
theorem dX6_isPeace_32 : decode cX6_isPeace 32 = .ok (.iload_n 2, 1) := by decide +kernel
theorem dX6_isPeace_33 : decode cX6_isPeace 33 = .ok (.ifCond .eq 38, 3) := by decide +kernel
theorem dX6_isPeace_36 : decode cX6_isPeace 36 = .ok (.iload_n 1, 1) := by decide +kernel
theorem dX6_isPeace_37 : decode cX6_isPeace 37 = .ok (.iload_n 3, 1) := by decide +kernel
theorem dX6_isPeace_38 : decode cX6_isPeace 38 = .ok (.ishr, 1) := by decide +kernel
theorem dX6_isPeace_39 : decode cX6_isPeace 39 = .ok (.iload_n 1, 1) := by decide +kernel
theorem dX6_isPeace_40 : decode cX6_isPeace 40 = .ok (.iload 4, 2) := by decide +kernel
theorem dX6_isPeace_42 : decode cX6_isPeace 42 = .ok (.ishr, 1) := by decide +kernel
theorem dX6_isPeace_43 : decode cX6_isPeace 43 = .ok (.iand, 1) := by decide +kernel
theorem dX6_isPeace_44 : decode cX6_isPeace 44 = .ok (.iconst 1, 1) := by decide +kernel
theorem dX6_isPeace_45 : decode cX6_isPeace 45 = .ok (.iand, 1) := by decide +kernel
theorem dX6_isPeace_46 : decode cX6_isPeace 46 = .ok (.ifCond .eq 13, 3) := by decide +kernel
theorem dX6_isPeace_49 : decode cX6_isPeace 49 = .ok (.aload_n 0, 1) := by decide +kernel
theorem dX6_isPeace_50 : decode cX6_isPeace 50 = .ok (.iload_n 3, 1) := by decide +kernel
theorem dX6_isPeace_51 : decode cX6_isPeace 51 = .ok (.iload 4, 2) := by decide +kernel
theorem dX6_isPeace_53 : decode cX6_isPeace 53 = .ok (.invokevirtual 242, 3) := by decide +kernel
theorem dX6_isPeace_56 : decode cX6_isPeace 56 = .ok (.ifCond .ne 7, 3) := by decide +kernel
theorem dX6_isPeace_59 : decode cX6_isPeace 59 = .ok (.iconst 1, 1) := by decide +kernel
theorem dX6_isPeace_60 : decode cX6_isPeace 60 = .ok (.goto 4, 3) := by decide +kernel
theorem dX6_isPeace_63 : decode cX6_isPeace 63 = .ok (.iconst 0, 1) := by decide +kernel
theorem dX6_isPeace_64 : decode cX6_isPeace 64 = .ok (.istore_n 2, 1) := by decide +kernel
theorem dX6_isPeace_65 : decode cX6_isPeace 65 = .ok (.iinc 4 1, 3) := by decide +kernel
theorem dX6_isPeace_68 : decode cX6_isPeace 68 = .ok (.goto (-48), 3) := by decide +kernel
theorem dX6_isPeace_71 : decode cX6_isPeace 71 = .ok (.iinc 3 1, 3) := by decide +kernel
theorem dX6_isPeace_74 : decode cX6_isPeace 74 = .ok (.goto (-70), 3) := by decide +kernel
theorem dX6_isPeace_77 : decode cX6_isPeace 77 = .ok (.iload_n 2, 1) := by decide +kernel
theorem dX6_isPeace_78 : decode cX6_isPeace 78 = .ok (.ireturn, 1) := by decide +kernel
def pc_X6_isPeace (i : Nat) : Nat := ([0, 4, 15, 20, 32, 36, 49, 59, 63, 64, 71, 77] : List Nat).getD i 0
set_option maxRecDepth 20000 in
theorem ob_X6_isPeace_0 {x : ip_Cx} {G : ip_Gl} {d : Nat} (X : ip_X x G tb 5 d 0 0 RX6 cX6_isPeace) (hr : x.2.2.2.2.2.2.2.2.1.sig.returnType = (some .boolean)) (hnm : x.2.2.2.2.2.2.2.2.1.name = "isPeace") : ip_okB x G 5 pc_X6_isPeace 0 ([oI (1), oStI 2, oI (0), oStI 3], tGo 1) := ⟨_, okC (ok_ic X (by decide) dX6_isPeace_0)
  (okC (ok_istn X rfl (by decide) dX6_isPeace_1)
  (okC (ok_ic X (by decide) dX6_isPeace_2)
  (okC (ok_istn X rfl (by decide) dX6_isPeace_3)
  (okN)))), ok_fall rfl⟩
set_option maxRecDepth 20000 in
theorem ob_X6_isPeace_1 {x : ip_Cx} {G : ip_Gl} {d : Nat} (X : ip_X x G tb 5 d 0 0 RX6 cX6_isPeace) (hr : x.2.2.2.2.2.2.2.2.1.sig.returnType = (some .boolean)) (hnm : x.2.2.2.2.2.2.2.2.1.name = "isPeace") : ip_okB x G 5 pc_X6_isPeace 4 ([oLdI 3, oLdA 0, oGet 6 0, oI (6), oAldI], tCm (fun a b => a < b) 2 11) := ⟨_, okC (ok_ildn X rfl dX6_isPeace_4)
  (okC (ok_aldn X rfl dX6_isPeace_5)
  (okC (ok_get X (ci := 6) rfl (by decide) iw_X6 tw_795 dX6_isPeace_6)
  (okC (ok_bi X (by decide) dX6_isPeace_9)
  (okC (ok_iald X dX6_isPeace_11)
  (okN))))), ok_cmge X (by decide) rfl dX6_isPeace_12⟩
set_option maxRecDepth 20000 in
theorem ob_X6_isPeace_2 {x : ip_Cx} {G : ip_Gl} {d : Nat} (X : ip_X x G tb 5 d 0 0 RX6 cX6_isPeace) (hr : x.2.2.2.2.2.2.2.2.1.sig.returnType = (some .boolean)) (hnm : x.2.2.2.2.2.2.2.2.1.name = "isPeace") : ip_okB x G 5 pc_X6_isPeace 15 ([oLdI 3, oI (1), oBI (fun a b => a + b), oStI 4], tGo 3) := ⟨_, okC (ok_ildn X rfl dX6_isPeace_15)
  (okC (ok_ic X (by decide) dX6_isPeace_16)
  (okC (ok_iadd X dX6_isPeace_17)
  (okC (ok_ist X (by decide) dX6_isPeace_18)
  (okN)))), ok_fall rfl⟩
set_option maxRecDepth 20000 in
theorem ob_X6_isPeace_3 {x : ip_Cx} {G : ip_Gl} {d : Nat} (X : ip_X x G tb 5 d 0 0 RX6 cX6_isPeace) (hr : x.2.2.2.2.2.2.2.2.1.sig.returnType = (some .boolean)) (hnm : x.2.2.2.2.2.2.2.2.1.name = "isPeace") : ip_okB x G 5 pc_X6_isPeace 20 ([oLdI 4, oLdA 0, oGet 6 0, oI (6), oAldI], tCm (fun a b => a < b) 4 10) := ⟨_, okC (ok_ild X dX6_isPeace_20)
  (okC (ok_aldn X rfl dX6_isPeace_22)
  (okC (ok_get X (ci := 6) rfl (by decide) iw_X6 tw_795 dX6_isPeace_23)
  (okC (ok_bi X (by decide) dX6_isPeace_26)
  (okC (ok_iald X dX6_isPeace_28)
  (okN))))), ok_cmge X (by decide) rfl dX6_isPeace_29⟩
set_option maxRecDepth 20000 in
theorem ob_X6_isPeace_4 {x : ip_Cx} {G : ip_Gl} {d : Nat} (X : ip_X x G tb 5 d 0 0 RX6 cX6_isPeace) (hr : x.2.2.2.2.2.2.2.2.1.sig.returnType = (some .boolean)) (hnm : x.2.2.2.2.2.2.2.2.1.name = "isPeace") : ip_okB x G 5 pc_X6_isPeace 32 ([oLdI 2], tIf (fun a => a = 0) 10 5) := ⟨_, okC (ok_ildn X rfl dX6_isPeace_32)
  (okN), ok_ifeq X (by decide) rfl dX6_isPeace_33⟩
set_option maxRecDepth 20000 in
theorem ob_X6_isPeace_5 {x : ip_Cx} {G : ip_Gl} {d : Nat} (X : ip_X x G tb 5 d 0 0 RX6 cX6_isPeace) (hr : x.2.2.2.2.2.2.2.2.1.sig.returnType = (some .boolean)) (hnm : x.2.2.2.2.2.2.2.2.1.name = "isPeace") : ip_okB x G 5 pc_X6_isPeace 36 ([oLdI 1, oLdI 3, oBI (fun a b => a >>> (b &&& 31)), oLdI 1, oLdI 4, oBI (fun a b => a >>> (b &&& 31)), oBI (fun a b => a &&& b), oI (1), oBI (fun a b => a &&& b)], tIf (fun a => a = 0) 7 6) := ⟨_, okC (ok_ildn X rfl dX6_isPeace_36)
  (okC (ok_ildn X rfl dX6_isPeace_37)
  (okC (ok_ishr X dX6_isPeace_38)
  (okC (ok_ildn X rfl dX6_isPeace_39)
  (okC (ok_ild X dX6_isPeace_40)
  (okC (ok_ishr X dX6_isPeace_42)
  (okC (ok_iand X dX6_isPeace_43)
  (okC (ok_ic X (by decide) dX6_isPeace_44)
  (okC (ok_iand X dX6_isPeace_45)
  (okN))))))))), ok_ifeq X (by decide) rfl dX6_isPeace_46⟩
set_option maxRecDepth 20000 in
theorem ob_X6_isPeace_6 {x : ip_Cx} {G : ip_Gl} {d : Nat} (X : ip_X x G tb 5 d 0 0 RX6 cX6_isPeace) (hr : x.2.2.2.2.2.2.2.2.1.sig.returnType = (some .boolean)) (hnm : x.2.2.2.2.2.2.2.2.1.name = "isPeace") : ip_okB x G 5 pc_X6_isPeace 49 ([oLdA 0, oLdI 3, oLdI 4, oCaV (ip_call tb d) 0 0 6 171 3 0 0], tIf (fun a => a = 0) 7 8) := ⟨_, okC (ok_aldn X rfl dX6_isPeace_49)
  (okC (ok_ildn X rfl dX6_isPeace_50)
  (okC (ok_ild X dX6_isPeace_51)
  (okC (ok_calV X (i := 242) (e := en_171) rfl mt_171 rfl rfl rfl tw_1113 tw_1115 (Or.inl ⟨_, _, rfl⟩) tp_40 dX6_isPeace_53)
  (okN)))), ok_ifne X (by decide) rfl dX6_isPeace_56⟩
set_option maxRecDepth 20000 in
theorem ob_X6_isPeace_7 {x : ip_Cx} {G : ip_Gl} {d : Nat} (X : ip_X x G tb 5 d 0 0 RX6 cX6_isPeace) (hr : x.2.2.2.2.2.2.2.2.1.sig.returnType = (some .boolean)) (hnm : x.2.2.2.2.2.2.2.2.1.name = "isPeace") : ip_okB x G 5 pc_X6_isPeace 59 ([oI (1)], tGo 9) := ⟨_, okC (ok_ic X (by decide) dX6_isPeace_59)
  (okN), ok_go X (by decide) dX6_isPeace_60⟩
set_option maxRecDepth 20000 in
theorem ob_X6_isPeace_8 {x : ip_Cx} {G : ip_Gl} {d : Nat} (X : ip_X x G tb 5 d 0 0 RX6 cX6_isPeace) (hr : x.2.2.2.2.2.2.2.2.1.sig.returnType = (some .boolean)) (hnm : x.2.2.2.2.2.2.2.2.1.name = "isPeace") : ip_okB x G 5 pc_X6_isPeace 63 ([oI (0)], tGo 9) := ⟨_, okC (ok_ic X (by decide) dX6_isPeace_63)
  (okN), ok_fall rfl⟩
set_option maxRecDepth 20000 in
theorem ob_X6_isPeace_9 {x : ip_Cx} {G : ip_Gl} {d : Nat} (X : ip_X x G tb 5 d 0 0 RX6 cX6_isPeace) (hr : x.2.2.2.2.2.2.2.2.1.sig.returnType = (some .boolean)) (hnm : x.2.2.2.2.2.2.2.2.1.name = "isPeace") : ip_okB x G 5 pc_X6_isPeace 64 ([oStI 2, oInc 4 (1)], tGo 3) := ⟨_, okC (ok_istn X rfl (by decide) dX6_isPeace_64)
  (okC (ok_inc X (by decide) dX6_isPeace_65)
  (okN)), ok_go X (by decide) dX6_isPeace_68⟩
set_option maxRecDepth 20000 in
theorem ob_X6_isPeace_10 {x : ip_Cx} {G : ip_Gl} {d : Nat} (X : ip_X x G tb 5 d 0 0 RX6 cX6_isPeace) (hr : x.2.2.2.2.2.2.2.2.1.sig.returnType = (some .boolean)) (hnm : x.2.2.2.2.2.2.2.2.1.name = "isPeace") : ip_okB x G 5 pc_X6_isPeace 71 ([oInc 3 (1)], tGo 1) := ⟨_, okC (ok_inc X (by decide) dX6_isPeace_71)
  (okN), ok_go X (by decide) dX6_isPeace_74⟩
set_option maxRecDepth 20000 in
theorem ob_X6_isPeace_11 {x : ip_Cx} {G : ip_Gl} {d : Nat} (X : ip_X x G tb 5 d 0 0 RX6 cX6_isPeace) (hr : x.2.2.2.2.2.2.2.2.1.sig.returnType = (some .boolean)) (hnm : x.2.2.2.2.2.2.2.2.1.name = "isPeace") : ip_okB x G 5 pc_X6_isPeace 77 ([oLdI 2], tRI .boolean 0 0) := ⟨_, okC (ok_ildn X rfl dX6_isPeace_77)
  (okN), ok_ret X hr dX6_isPeace_78⟩
theorem om_173 : ip_MOk tb en_173 pc_X6_isPeace := fun x G d X hr hnm => ⟨ob_X6_isPeace_0 X hr hnm, ⟨ob_X6_isPeace_1 X hr hnm, ⟨ob_X6_isPeace_2 X hr hnm, ⟨ob_X6_isPeace_3 X hr hnm, ⟨ob_X6_isPeace_4 X hr hnm, ⟨ob_X6_isPeace_5 X hr hnm, ⟨ob_X6_isPeace_6 X hr hnm, ⟨ob_X6_isPeace_7 X hr hnm, ⟨ob_X6_isPeace_8 X hr hnm, ⟨ob_X6_isPeace_9 X hr hnm, ⟨ob_X6_isPeace_10 X hr hnm, ⟨ob_X6_isPeace_11 X hr hnm, trivial⟩⟩⟩⟩⟩⟩⟩⟩⟩⟩⟩⟩
