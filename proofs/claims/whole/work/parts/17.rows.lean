theorem dX3_readWalker_0 : decode cX3_readWalker 0 = .ok (.aload_n 1, 1) := by decide +kernel
theorem dX3_readWalker_1 : decode cX3_readWalker 1 = .ok (.getfield 80, 3) := by decide +kernel
theorem dX3_readWalker_4 : decode cX3_readWalker 4 = .ok (.iload_n 2, 1) := by decide +kernel
theorem dX3_readWalker_5 : decode cX3_readWalker 5 = .ok (.aload_n 0, 1) := by decide +kernel
theorem dX3_readWalker_6 : decode cX3_readWalker 6 = .ok (.ldc 83, 2) := by decide +kernel
theorem dX3_readWalker_8 : decode cX3_readWalker 8 = .ok (.bipush 99, 2) := by decide +kernel
theorem dX3_readWalker_10 : decode cX3_readWalker 10 = .ok (.iconst 0, 1) := by decide +kernel
theorem dX3_readWalker_11 : decode cX3_readWalker 11 = .ok (.bipush 10, 2) := by decide +kernel
theorem dX3_readWalker_13 : decode cX3_readWalker 13 = .ok (.invokevirtual 84, 3) := by decide +kernel
theorem dX3_readWalker_16 : decode cX3_readWalker 16 = .ok (.iastore, 1) := by decide +kernel
theorem dX3_readWalker_17 : decode cX3_readWalker 17 = .ok (.aload_n 1, 1) := by decide +kernel
theorem dX3_readWalker_18 : decode cX3_readWalker 18 = .ok (.getfield 88, 3) := by decide +kernel
theorem dX3_readWalker_21 : decode cX3_readWalker 21 = .ok (.iload_n 2, 1) := by decide +kernel
theorem dX3_readWalker_22 : decode cX3_readWalker 22 = .ok (.aload_n 0, 1) := by decide +kernel
theorem dX3_readWalker_23 : decode cX3_readWalker 23 = .ok (.ldc 91, 2) := by decide +kernel
theorem dX3_readWalker_25 : decode cX3_readWalker 25 = .ok (.bipush 20, 2) := by decide +kernel
theorem dX3_readWalker_27 : decode cX3_readWalker 27 = .ok (.iconst 0, 1) := by decide +kernel
theorem dX3_readWalker_28 : decode cX3_readWalker 28 = .ok (.iconst 0, 1) := by decide +kernel
theorem dX3_readWalker_29 : decode cX3_readWalker 29 = .ok (.invokevirtual 84, 3) := by decide +kernel
theorem dX3_readWalker_32 : decode cX3_readWalker 32 = .ok (.iastore, 1) := by decide +kernel
theorem dX3_readWalker_33 : decode cX3_readWalker 33 = .ok (.aload_n 1, 1) := by decide +kernel
theorem dX3_readWalker_34 : decode cX3_readWalker 34 = .ok (.getfield 93, 3) := by decide +kernel
theorem dX3_readWalker_37 : decode cX3_readWalker 37 = .ok (.iload_n 2, 1) := by decide +kernel
theorem dX3_readWalker_38 : decode cX3_readWalker 38 = .ok (.aload_n 0, 1) := by decide +kernel
theorem dX3_readWalker_39 : decode cX3_readWalker 39 = .ok (.ldc 96, 2) := by decide +kernel
theorem dX3_readWalker_41 : decode cX3_readWalker 41 = .ok (.sipush 255, 3) := by decide +kernel
theorem dX3_readWalker_44 : decode cX3_readWalker 44 = .ok (.iconst 0, 1) := by decide +kernel
theorem dX3_readWalker_45 : decode cX3_readWalker 45 = .ok (.iconst 0, 1) := by decide +kernel
theorem dX3_readWalker_46 : decode cX3_readWalker 46 = .ok (.invokevirtual 84, 3) := by decide +kernel
theorem dX3_readWalker_49 : decode cX3_readWalker 49 = .ok (.iastore, 1) := by decide +kernel
theorem dX3_readWalker_50 : decode cX3_readWalker 50 = .ok (.aload_n 1, 1) := by decide +kernel
theorem dX3_readWalker_51 : decode cX3_readWalker 51 = .ok (.getfield 98, 3) := by decide +kernel
theorem dX3_readWalker_54 : decode cX3_readWalker 54 = .ok (.iload_n 2, 1) := by decide +kernel
theorem dX3_readWalker_55 : decode cX3_readWalker 55 = .ok (.aload_n 0, 1) := by decide +kernel
theorem dX3_readWalker_56 : decode cX3_readWalker 56 = .ok (.ldc 101, 2) := by decide +kernel
theorem dX3_readWalker_58 : decode cX3_readWalker 58 = .ok (.sipush 255, 3) := by decide +kernel
theorem dX3_readWalker_61 : decode cX3_readWalker 61 = .ok (.aload_n 1, 1) := by decide +kernel
theorem dX3_readWalker_62 : decode cX3_readWalker 62 = .ok (.getfield 93, 3) := by decide +kernel
theorem dX3_readWalker_65 : decode cX3_readWalker 65 = .ok (.iload_n 2, 1) := by decide +kernel
theorem dX3_readWalker_66 : decode cX3_readWalker 66 = .ok (.iaload, 1) := by decide +kernel
theorem dX3_readWalker_67 : decode cX3_readWalker 67 = .ok (.iconst 0, 1) := by decide +kernel
theorem dX3_readWalker_68 : decode cX3_readWalker 68 = .ok (.invokevirtual 84, 3) := by decide +kernel
theorem dX3_readWalker_71 : decode cX3_readWalker 71 = .ok (.iastore, 1) := by decide +kernel
theorem dX3_readWalker_72 : decode cX3_readWalker 72 = .ok (.return_, 1) := by decide +kernel
def pc_X3_readWalker (i : Nat) : Nat := ([0] : List Nat).getD i 0
set_option maxRecDepth 20000 in
theorem ob_X3_readWalker_0 {x : ip_Cx} {G : ip_Gl} {d : Nat} (X : ip_X x G tb 3 d 0 0 RX3 cX3_readWalker) (hr : x.2.2.2.2.2.2.2.2.1.sig.returnType = none) (hnm : x.2.2.2.2.2.2.2.2.1.name = "readWalker") : ip_okB x G 3 pc_X3_readWalker 0 ([oLdA 1, oGet 1 6, oLdI 2, oLdA 0, oRef 15, oI (99), oI (0), oI (10), oCaV (ip_call tb d) 0 0 3 27 5 0 0, oAstI, oLdA 1, oGet 1 7, oLdI 2, oLdA 0, oRef 16, oI (20), oI (0), oI (0), oCaV (ip_call tb d) 0 0 3 27 5 0 0, oAstI, oLdA 1, oGet 1 8, oLdI 2, oLdA 0, oRef 17, oI (255), oI (0), oI (0), oCaV (ip_call tb d) 0 0 3 27 5 0 0, oAstI, oLdA 1, oGet 1 9, oLdI 2, oLdA 0, oRef 18, oI (255), oLdA 1, oGet 1 8, oLdI 2, oAldI, oI (0), oCaV (ip_call tb d) 0 0 3 27 5 0 0, oAstI], tRV 0 0) := ⟨_, okC (ok_aldn X rfl dX3_readWalker_0)
  (okC (ok_get X (ci := 1) rfl (by decide) iw_X1 tw_58 dX3_readWalker_1)
  (okC (ok_ildn X rfl dX3_readWalker_4)
  (okC (ok_aldn X rfl dX3_readWalker_5)
  (okC (ok_str X (tx := "weight") rfl (by decide) (by decide +kernel) dX3_readWalker_6)
  (okC (ok_bi X (by decide) dX3_readWalker_8)
  (okC (ok_ic X (by decide) dX3_readWalker_10)
  (okC (ok_bi X (by decide) dX3_readWalker_11)
  (okC (ok_calV X (i := 84) (e := en_27) rfl mt_27 rfl rfl rfl tw_348 tw_349 (Or.inl ⟨_, _, rfl⟩) tw_350 dX3_readWalker_13)
  (okC (ok_iast X dX3_readWalker_16)
  (okC (ok_aldn X rfl dX3_readWalker_17)
  (okC (ok_get X (ci := 1) rfl (by decide) iw_X1 tw_62 dX3_readWalker_18)
  (okC (ok_ildn X rfl dX3_readWalker_21)
  (okC (ok_aldn X rfl dX3_readWalker_22)
  (okC (ok_str X (tx := "at") rfl (by decide) (by decide +kernel) dX3_readWalker_23)
  (okC (ok_bi X (by decide) dX3_readWalker_25)
  (okC (ok_ic X (by decide) dX3_readWalker_27)
  (okC (ok_ic X (by decide) dX3_readWalker_28)
  (okC (ok_calV X (i := 84) (e := en_27) rfl mt_27 rfl rfl rfl tw_348 tw_349 (Or.inl ⟨_, _, rfl⟩) tw_350 dX3_readWalker_29)
  (okC (ok_iast X dX3_readWalker_32)
  (okC (ok_aldn X rfl dX3_readWalker_33)
  (okC (ok_get X (ci := 1) rfl (by decide) iw_X1 tw_65 dX3_readWalker_34)
  (okC (ok_ildn X rfl dX3_readWalker_37)
  (okC (ok_aldn X rfl dX3_readWalker_38)
  (okC (ok_str X (tx := "says") rfl (by decide) (by decide +kernel) dX3_readWalker_39)
  (okC (ok_si X (by decide) dX3_readWalker_41)
  (okC (ok_ic X (by decide) dX3_readWalker_44)
  (okC (ok_ic X (by decide) dX3_readWalker_45)
  (okC (ok_calV X (i := 84) (e := en_27) rfl mt_27 rfl rfl rfl tw_348 tw_349 (Or.inl ⟨_, _, rfl⟩) tw_350 dX3_readWalker_46)
  (okC (ok_iast X dX3_readWalker_49)
  (okC (ok_aldn X rfl dX3_readWalker_50)
  (okC (ok_get X (ci := 1) rfl (by decide) iw_X1 tw_68 dX3_readWalker_51)
  (okC (ok_ildn X rfl dX3_readWalker_54)
  (okC (ok_aldn X rfl dX3_readWalker_55)
  (okC (ok_str X (tx := "denies") rfl (by decide) (by decide +kernel) dX3_readWalker_56)
  (okC (ok_si X (by decide) dX3_readWalker_58)
  (okC (ok_aldn X rfl dX3_readWalker_61)
  (okC (ok_get X (ci := 1) rfl (by decide) iw_X1 tw_65 dX3_readWalker_62)
  (okC (ok_ildn X rfl dX3_readWalker_65)
  (okC (ok_iald X dX3_readWalker_66)
  (okC (ok_ic X (by decide) dX3_readWalker_67)
  (okC (ok_calV X (i := 84) (e := en_27) rfl mt_27 rfl rfl rfl tw_348 tw_349 (Or.inl ⟨_, _, rfl⟩) tw_350 dX3_readWalker_68)
  (okC (ok_iast X dX3_readWalker_71)
  (okN))))))))))))))))))))))))))))))))))))))))))), ok_vret X hr dX3_readWalker_72⟩
theorem om_26 : ip_MOk tb en_26 pc_X3_readWalker := fun x G d X hr hnm => ⟨ob_X3_readWalker_0 X hr hnm, trivial⟩
theorem dX3_readOption_0 : decode cX3_readOption 0 = .ok (.aload_n 0, 1) := by decide +kernel
theorem dX3_readOption_1 : decode cX3_readOption 1 = .ok (.aload_n 1, 1) := by decide +kernel
theorem dX3_readOption_2 : decode cX3_readOption 2 = .ok (.invokevirtual 67, 3) := by decide +kernel
theorem dX3_readOption_5 : decode cX3_readOption 5 = .ok (.ifCond .ne 6, 3) := by decide +kernel
theorem dX3_readOption_8 : decode cX3_readOption 8 = .ok (.iload 4, 2) := by decide +kernel
theorem dX3_readOption_10 : decode cX3_readOption 10 = .ok (.ireturn, 1) := by decide +kernel
theorem dX3_readOption_11 : decode cX3_readOption 11 = .ok (.aload_n 0, 1) := by decide +kernel
theorem dX3_readOption_12 : decode cX3_readOption 12 = .ok (.invokevirtual 28, 3) := by decide +kernel
theorem dX3_readOption_15 : decode cX3_readOption 15 = .ok (.aload_n 0, 1) := by decide +kernel
theorem dX3_readOption_16 : decode cX3_readOption 16 = .ok (.iload_n 2, 1) := by decide +kernel
theorem dX3_readOption_17 : decode cX3_readOption 17 = .ok (.iload_n 3, 1) := by decide +kernel
theorem dX3_readOption_18 : decode cX3_readOption 18 = .ok (.invokevirtual 62, 3) := by decide +kernel
theorem dX3_readOption_21 : decode cX3_readOption 21 = .ok (.ireturn, 1) := by decide +kernel
def pc_X3_readOption (i : Nat) : Nat := ([0, 8, 11] : List Nat).getD i 0
set_option maxRecDepth 20000 in
theorem ob_X3_readOption_0 {x : ip_Cx} {G : ip_Gl} {d : Nat} (X : ip_X x G tb 5 d 0 0 RX3 cX3_readOption) (hr : x.2.2.2.2.2.2.2.2.1.sig.returnType = (some .int)) (hnm : x.2.2.2.2.2.2.2.2.1.name = "readOption") : ip_okB x G 5 pc_X3_readOption 0 ([oLdA 0, oLdA 1, oCaV (ip_call tb d) 0 0 3 35 2 0 0], tIf (fun a => a = 0) 1 2) := ⟨_, okC (ok_aldn X rfl dX3_readOption_0)
  (okC (ok_aldn X rfl dX3_readOption_1)
  (okC (ok_calV X (i := 67) (e := en_35) rfl mt_35 rfl rfl rfl tw_274 tw_275 (Or.inl ⟨_, _, rfl⟩) tw_276 dX3_readOption_2)
  (okN))), ok_ifne X (by decide) rfl dX3_readOption_5⟩
set_option maxRecDepth 20000 in
theorem ob_X3_readOption_1 {x : ip_Cx} {G : ip_Gl} {d : Nat} (X : ip_X x G tb 5 d 0 0 RX3 cX3_readOption) (hr : x.2.2.2.2.2.2.2.2.1.sig.returnType = (some .int)) (hnm : x.2.2.2.2.2.2.2.2.1.name = "readOption") : ip_okB x G 5 pc_X3_readOption 8 ([oLdI 4], tRI .int 0 0) := ⟨_, okC (ok_ild X dX3_readOption_8)
  (okN), ok_ret X hr dX3_readOption_10⟩
set_option maxRecDepth 20000 in
theorem ob_X3_readOption_2 {x : ip_Cx} {G : ip_Gl} {d : Nat} (X : ip_X x G tb 5 d 0 0 RX3 cX3_readOption) (hr : x.2.2.2.2.2.2.2.2.1.sig.returnType = (some .int)) (hnm : x.2.2.2.2.2.2.2.2.1.name = "readOption") : ip_okB x G 5 pc_X3_readOption 11 ([oLdA 0, oCaV (ip_call tb d) 0 0 3 31 1 0 0, oLdA 0, oLdI 2, oLdI 3, oCaV (ip_call tb d) 0 0 3 28 3 0 0], tRI .int 0 0) := ⟨_, okC (ok_aldn X rfl dX3_readOption_11)
  (okC (ok_calV X (i := 28) (e := en_31) rfl mt_31 rfl rfl rfl tw_255 tw_256 (Or.inl ⟨_, _, rfl⟩) tw_257 dX3_readOption_12)
  (okC (ok_aldn X rfl dX3_readOption_15)
  (okC (ok_ildn X rfl dX3_readOption_16)
  (okC (ok_ildn X rfl dX3_readOption_17)
  (okC (ok_calV X (i := 62) (e := en_28) rfl mt_28 rfl rfl rfl tw_352 tw_353 (Or.inl ⟨_, _, rfl⟩) tw_354 dX3_readOption_18)
  (okN)))))), ok_ret X hr dX3_readOption_21⟩
theorem om_27 : ip_MOk tb en_27 pc_X3_readOption := fun x G d X hr hnm => ⟨ob_X3_readOption_0 X hr hnm, ⟨ob_X3_readOption_1 X hr hnm, ⟨ob_X3_readOption_2 X hr hnm, trivial⟩⟩⟩
theorem dX3_readNumber_0 : decode cX3_readNumber 0 = .ok (.aload_n 0, 1) := by decide +kernel
theorem dX3_readNumber_1 : decode cX3_readNumber 1 = .ok (.invokevirtual 103, 3) := by decide +kernel
theorem dX3_readNumber_4 : decode cX3_readNumber 4 = .ok (.istore_n 3, 1) := by decide +kernel
theorem dX3_readNumber_5 : decode cX3_readNumber 5 = .ok (.iload_n 3, 1) := by decide +kernel
theorem dX3_readNumber_6 : decode cX3_readNumber 6 = .ok (.ifCond .lt 14, 3) := by decide +kernel
theorem dX3_readNumber_9 : decode cX3_readNumber 9 = .ok (.iload_n 3, 1) := by decide +kernel
theorem dX3_readNumber_10 : decode cX3_readNumber 10 = .ok (.iload_n 1, 1) := by decide +kernel
theorem dX3_readNumber_11 : decode cX3_readNumber 11 = .ok (.if_icmp .gt 9, 3) := by decide +kernel
theorem dX3_readNumber_14 : decode cX3_readNumber 14 = .ok (.iload_n 3, 1) := by decide +kernel
theorem dX3_readNumber_15 : decode cX3_readNumber 15 = .ok (.iload_n 2, 1) := by decide +kernel
theorem dX3_readNumber_16 : decode cX3_readNumber 16 = .ok (.iand, 1) := by decide +kernel
theorem dX3_readNumber_17 : decode cX3_readNumber 17 = .ok (.ifCond .eq 9, 3) := by decide +kernel
theorem dX3_readNumber_20 : decode cX3_readNumber 20 = .ok (.aload_n 0, 1) := by decide +kernel
theorem dX3_readNumber_21 : decode cX3_readNumber 21 = .ok (.invokevirtual 74, 3) := by decide +kernel
theorem dX3_readNumber_24 : decode cX3_readNumber 24 = .ok (.iconst 0, 1) := by decide +kernel
theorem dX3_readNumber_25 : decode cX3_readNumber 25 = .ok (.ireturn, 1) := by decide +kernel
theorem dX3_readNumber_26 : decode cX3_readNumber 26 = .ok (.aload_n 0, 1) := by decide +kernel
theorem dX3_readNumber_27 : decode cX3_readNumber 27 = .ok (.invokevirtual 28, 3) := by decide +kernel
theorem dX3_readNumber_30 : decode cX3_readNumber 30 = .ok (.iload_n 3, 1) := by decide +kernel
theorem dX3_readNumber_31 : decode cX3_readNumber 31 = .ok (.ireturn, 1) := by decide +kernel
def pc_X3_readNumber (i : Nat) : Nat := ([0, 9, 14, 20, 26] : List Nat).getD i 0
set_option maxRecDepth 20000 in
theorem ob_X3_readNumber_0 {x : ip_Cx} {G : ip_Gl} {d : Nat} (X : ip_X x G tb 4 d 0 0 RX3 cX3_readNumber) (hr : x.2.2.2.2.2.2.2.2.1.sig.returnType = (some .int)) (hnm : x.2.2.2.2.2.2.2.2.1.name = "readNumber") : ip_okB x G 4 pc_X3_readNumber 0 ([oLdA 0, oCaV (ip_call tb d) 0 0 3 34 1 0 0, oStI 3, oLdI 3], tIf (fun a => a < 0) 3 1) := ⟨_, okC (ok_aldn X rfl dX3_readNumber_0)
  (okC (ok_calV X (i := 103) (e := en_34) rfl mt_34 rfl rfl rfl tw_356 tw_357 (Or.inl ⟨_, _, rfl⟩) tw_358 dX3_readNumber_1)
  (okC (ok_istn X rfl (by decide) dX3_readNumber_4)
  (okC (ok_ildn X rfl dX3_readNumber_5)
  (okN)))), ok_iflt X (by decide) rfl dX3_readNumber_6⟩
set_option maxRecDepth 20000 in
theorem ob_X3_readNumber_1 {x : ip_Cx} {G : ip_Gl} {d : Nat} (X : ip_X x G tb 4 d 0 0 RX3 cX3_readNumber) (hr : x.2.2.2.2.2.2.2.2.1.sig.returnType = (some .int)) (hnm : x.2.2.2.2.2.2.2.2.1.name = "readNumber") : ip_okB x G 4 pc_X3_readNumber 9 ([oLdI 3, oLdI 1], tCm (fun a b => b < a) 3 2) := ⟨_, okC (ok_ildn X rfl dX3_readNumber_9)
  (okC (ok_ildn X rfl dX3_readNumber_10)
  (okN)), ok_cmgt X (by decide) rfl dX3_readNumber_11⟩
set_option maxRecDepth 20000 in
theorem ob_X3_readNumber_2 {x : ip_Cx} {G : ip_Gl} {d : Nat} (X : ip_X x G tb 4 d 0 0 RX3 cX3_readNumber) (hr : x.2.2.2.2.2.2.2.2.1.sig.returnType = (some .int)) (hnm : x.2.2.2.2.2.2.2.2.1.name = "readNumber") : ip_okB x G 4 pc_X3_readNumber 14 ([oLdI 3, oLdI 2, oBI (fun a b => a &&& b)], tIf (fun a => a = 0) 4 3) := ⟨_, okC (ok_ildn X rfl dX3_readNumber_14)
  (okC (ok_ildn X rfl dX3_readNumber_15)
  (okC (ok_iand X dX3_readNumber_16)
  (okN))), ok_ifeq X (by decide) rfl dX3_readNumber_17⟩
set_option maxRecDepth 20000 in
theorem ob_X3_readNumber_3 {x : ip_Cx} {G : ip_Gl} {d : Nat} (X : ip_X x G tb 4 d 0 0 RX3 cX3_readNumber) (hr : x.2.2.2.2.2.2.2.2.1.sig.returnType = (some .int)) (hnm : x.2.2.2.2.2.2.2.2.1.name = "readNumber") : ip_okB x G 4 pc_X3_readNumber 20 ([oLdA 0, oCaV (ip_call tb d) 0 0 3 30 1 0 0, oI (0)], tRI .int 0 0) := ⟨_, okC (ok_aldn X rfl dX3_readNumber_20)
  (okC (ok_calV X (i := 74) (e := en_30) rfl mt_30 rfl rfl rfl tw_360 tw_361 (Or.inl ⟨_, _, rfl⟩) tw_362 dX3_readNumber_21)
  (okC (ok_ic X (by decide) dX3_readNumber_24)
  (okN))), ok_ret X hr dX3_readNumber_25⟩
set_option maxRecDepth 20000 in
theorem ob_X3_readNumber_4 {x : ip_Cx} {G : ip_Gl} {d : Nat} (X : ip_X x G tb 4 d 0 0 RX3 cX3_readNumber) (hr : x.2.2.2.2.2.2.2.2.1.sig.returnType = (some .int)) (hnm : x.2.2.2.2.2.2.2.2.1.name = "readNumber") : ip_okB x G 4 pc_X3_readNumber 26 ([oLdA 0, oCaV (ip_call tb d) 0 0 3 31 1 0 0, oLdI 3], tRI .int 0 0) := ⟨_, okC (ok_aldn X rfl dX3_readNumber_26)
  (okC (ok_calV X (i := 28) (e := en_31) rfl mt_31 rfl rfl rfl tw_255 tw_256 (Or.inl ⟨_, _, rfl⟩) tw_257 dX3_readNumber_27)
  (okC (ok_ildn X rfl dX3_readNumber_30)
  (okN))), ok_ret X hr dX3_readNumber_31⟩
theorem om_28 : ip_MOk tb en_28 pc_X3_readNumber := fun x G d X hr hnm => ⟨ob_X3_readNumber_0 X hr hnm, ⟨ob_X3_readNumber_1 X hr hnm, ⟨ob_X3_readNumber_2 X hr hnm, ⟨ob_X3_readNumber_3 X hr hnm, ⟨ob_X3_readNumber_4 X hr hnm, trivial⟩⟩⟩⟩⟩
theorem dX3_readClose_0 : decode cX3_readClose 0 = .ok (.aload_n 0, 1) := by decide +kernel
theorem dX3_readClose_1 : decode cX3_readClose 1 = .ok (.getfield 15, 3) := by decide +kernel
theorem dX3_readClose_4 : decode cX3_readClose 4 = .ok (.iconst 3, 1) := by decide +kernel
theorem dX3_readClose_5 : decode cX3_readClose 5 = .ok (.if_icmp .ne 35, 3) := by decide +kernel
theorem dX3_readClose_8 : decode cX3_readClose 8 = .ok (.aload_n 0, 1) := by decide +kernel
theorem dX3_readClose_9 : decode cX3_readClose 9 = .ok (.getfield 106, 3) := by decide +kernel
theorem dX3_readClose_12 : decode cX3_readClose 12 = .ok (.aload_n 0, 1) := by decide +kernel
theorem dX3_readClose_13 : decode cX3_readClose 13 = .ok (.getfield 22, 3) := by decide +kernel
theorem dX3_readClose_16 : decode cX3_readClose 16 = .ok (.if_icmp .ge 24, 3) := by decide +kernel
theorem dX3_readClose_19 : decode cX3_readClose 19 = .ok (.aload_n 0, 1) := by decide +kernel
theorem dX3_readClose_20 : decode cX3_readClose 20 = .ok (.getfield 9, 3) := by decide +kernel
theorem dX3_readClose_23 : decode cX3_readClose 23 = .ok (.aload_n 0, 1) := by decide +kernel
theorem dX3_readClose_24 : decode cX3_readClose 24 = .ok (.getfield 106, 3) := by decide +kernel
theorem dX3_readClose_27 : decode cX3_readClose 27 = .ok (.baload, 1) := by decide +kernel
theorem dX3_readClose_28 : decode cX3_readClose 28 = .ok (.bipush 59, 2) := by decide +kernel
theorem dX3_readClose_30 : decode cX3_readClose 30 = .ok (.if_icmp .ne 10, 3) := by decide +kernel
theorem dX3_readClose_33 : decode cX3_readClose 33 = .ok (.aload_n 0, 1) := by decide +kernel
theorem dX3_readClose_34 : decode cX3_readClose 34 = .ok (.invokevirtual 28, 3) := by decide +kernel
theorem dX3_readClose_37 : decode cX3_readClose 37 = .ok (.goto 7, 3) := by decide +kernel
theorem dX3_readClose_40 : decode cX3_readClose 40 = .ok (.aload_n 0, 1) := by decide +kernel
theorem dX3_readClose_41 : decode cX3_readClose 41 = .ok (.invokevirtual 74, 3) := by decide +kernel
theorem dX3_readClose_44 : decode cX3_readClose 44 = .ok (.return_, 1) := by decide +kernel
def pc_X3_readClose (i : Nat) : Nat := ([0, 8, 19, 33, 40, 44] : List Nat).getD i 0
set_option maxRecDepth 20000 in
theorem ob_X3_readClose_0 {x : ip_Cx} {G : ip_Gl} {d : Nat} (X : ip_X x G tb 1 d 0 0 RX3 cX3_readClose) (hr : x.2.2.2.2.2.2.2.2.1.sig.returnType = none) (hnm : x.2.2.2.2.2.2.2.2.1.name = "readClose") : ip_okB x G 1 pc_X3_readClose 0 ([oLdA 0, oGet 3 2, oI (3)], tCm (fun a b => a = b) 1 4) := ⟨_, okC (ok_aldn X rfl dX3_readClose_0)
  (okC (ok_get X (ci := 3) rfl (by decide) iw_X3 tw_151 dX3_readClose_1)
  (okC (ok_ic X (by decide) dX3_readClose_4)
  (okN))), ok_cmne X (by decide) rfl dX3_readClose_5⟩
set_option maxRecDepth 20000 in
theorem ob_X3_readClose_1 {x : ip_Cx} {G : ip_Gl} {d : Nat} (X : ip_X x G tb 1 d 0 0 RX3 cX3_readClose) (hr : x.2.2.2.2.2.2.2.2.1.sig.returnType = none) (hnm : x.2.2.2.2.2.2.2.2.1.name = "readClose") : ip_okB x G 1 pc_X3_readClose 8 ([oLdA 0, oGet 3 3, oLdA 0, oGet 3 1], tCm (fun a b => a < b) 2 4) := ⟨_, okC (ok_aldn X rfl dX3_readClose_8)
  (okC (ok_get X (ci := 3) rfl (by decide) iw_X3 tw_152 dX3_readClose_9)
  (okC (ok_aldn X rfl dX3_readClose_12)
  (okC (ok_get X (ci := 3) rfl (by decide) iw_X3 tw_149 dX3_readClose_13)
  (okN)))), ok_cmge X (by decide) rfl dX3_readClose_16⟩
set_option maxRecDepth 20000 in
theorem ob_X3_readClose_2 {x : ip_Cx} {G : ip_Gl} {d : Nat} (X : ip_X x G tb 1 d 0 0 RX3 cX3_readClose) (hr : x.2.2.2.2.2.2.2.2.1.sig.returnType = none) (hnm : x.2.2.2.2.2.2.2.2.1.name = "readClose") : ip_okB x G 1 pc_X3_readClose 19 ([oLdA 0, oGet 3 0, oLdA 0, oGet 3 3, oAldB, oI (59)], tCm (fun a b => a = b) 3 4) := ⟨_, okC (ok_aldn X rfl dX3_readClose_19)
  (okC (ok_get X (ci := 3) rfl (by decide) iw_X3 tw_148 dX3_readClose_20)
  (okC (ok_aldn X rfl dX3_readClose_23)
  (okC (ok_get X (ci := 3) rfl (by decide) iw_X3 tw_152 dX3_readClose_24)
  (okC (ok_bald X dX3_readClose_27)
  (okC (ok_bi X (by decide) dX3_readClose_28)
  (okN)))))), ok_cmne X (by decide) rfl dX3_readClose_30⟩
set_option maxRecDepth 20000 in
theorem ob_X3_readClose_3 {x : ip_Cx} {G : ip_Gl} {d : Nat} (X : ip_X x G tb 1 d 0 0 RX3 cX3_readClose) (hr : x.2.2.2.2.2.2.2.2.1.sig.returnType = none) (hnm : x.2.2.2.2.2.2.2.2.1.name = "readClose") : ip_okB x G 1 pc_X3_readClose 33 ([oLdA 0, oCaV (ip_call tb d) 0 0 3 31 1 0 0], tGo 5) := ⟨_, okC (ok_aldn X rfl dX3_readClose_33)
  (okC (ok_calV X (i := 28) (e := en_31) rfl mt_31 rfl rfl rfl tw_255 tw_256 (Or.inl ⟨_, _, rfl⟩) tw_257 dX3_readClose_34)
  (okN)), ok_go X (by decide) dX3_readClose_37⟩
set_option maxRecDepth 20000 in
theorem ob_X3_readClose_4 {x : ip_Cx} {G : ip_Gl} {d : Nat} (X : ip_X x G tb 1 d 0 0 RX3 cX3_readClose) (hr : x.2.2.2.2.2.2.2.2.1.sig.returnType = none) (hnm : x.2.2.2.2.2.2.2.2.1.name = "readClose") : ip_okB x G 1 pc_X3_readClose 40 ([oLdA 0, oCaV (ip_call tb d) 0 0 3 30 1 0 0], tGo 5) := ⟨_, okC (ok_aldn X rfl dX3_readClose_40)
  (okC (ok_calV X (i := 74) (e := en_30) rfl mt_30 rfl rfl rfl tw_360 tw_361 (Or.inl ⟨_, _, rfl⟩) tw_362 dX3_readClose_41)
  (okN)), ok_fall rfl⟩
set_option maxRecDepth 20000 in
theorem ob_X3_readClose_5 {x : ip_Cx} {G : ip_Gl} {d : Nat} (X : ip_X x G tb 1 d 0 0 RX3 cX3_readClose) (hr : x.2.2.2.2.2.2.2.2.1.sig.returnType = none) (hnm : x.2.2.2.2.2.2.2.2.1.name = "readClose") : ip_okB x G 1 pc_X3_readClose 44 ([], tRV 0 0) := ⟨_, okN, ok_vret X hr dX3_readClose_44⟩
theorem om_29 : ip_MOk tb en_29 pc_X3_readClose := fun x G d X hr hnm => ⟨ob_X3_readClose_0 X hr hnm, ⟨ob_X3_readClose_1 X hr hnm, ⟨ob_X3_readClose_2 X hr hnm, ⟨ob_X3_readClose_3 X hr hnm, ⟨ob_X3_readClose_4 X hr hnm, ⟨ob_X3_readClose_5 X hr hnm, trivial⟩⟩⟩⟩⟩⟩
theorem dX3_fail_0 : decode cX3_fail 0 = .ok (.aload_n 0, 1) := by decide +kernel
theorem dX3_fail_1 : decode cX3_fail 1 = .ok (.getfield 19, 3) := by decide +kernel
theorem dX3_fail_4 : decode cX3_fail 4 = .ok (.iconst (-1), 1) := by decide +kernel
theorem dX3_fail_5 : decode cX3_fail 5 = .ok (.if_icmp .ne 11, 3) := by decide +kernel
theorem dX3_fail_8 : decode cX3_fail 8 = .ok (.aload_n 0, 1) := by decide +kernel
theorem dX3_fail_9 : decode cX3_fail 9 = .ok (.aload_n 0, 1) := by decide +kernel
theorem dX3_fail_10 : decode cX3_fail 10 = .ok (.getfield 106, 3) := by decide +kernel
theorem dX3_fail_13 : decode cX3_fail 13 = .ok (.putfield 19, 3) := by decide +kernel
theorem dX3_fail_16 : decode cX3_fail 16 = .ok (.return_, 1) := by decide +kernel
def pc_X3_fail (i : Nat) : Nat := ([0, 8, 16] : List Nat).getD i 0
set_option maxRecDepth 20000 in
theorem ob_X3_fail_0 {x : ip_Cx} {G : ip_Gl} {d : Nat} (X : ip_X x G tb 1 d 0 0 RX3 cX3_fail) (hr : x.2.2.2.2.2.2.2.2.1.sig.returnType = none) (hnm : x.2.2.2.2.2.2.2.2.1.name = "fail") : ip_okB x G 1 pc_X3_fail 0 ([oLdA 0, oGet 3 5, oI (-1)], tCm (fun a b => a = b) 1 2) := ⟨_, okC (ok_aldn X rfl dX3_fail_0)
  (okC (ok_get X (ci := 3) rfl (by decide) iw_X3 tw_154 dX3_fail_1)
  (okC (ok_ic X (by decide) dX3_fail_4)
  (okN))), ok_cmne X (by decide) rfl dX3_fail_5⟩
set_option maxRecDepth 20000 in
theorem ob_X3_fail_1 {x : ip_Cx} {G : ip_Gl} {d : Nat} (X : ip_X x G tb 1 d 0 0 RX3 cX3_fail) (hr : x.2.2.2.2.2.2.2.2.1.sig.returnType = none) (hnm : x.2.2.2.2.2.2.2.2.1.name = "fail") : ip_okB x G 1 pc_X3_fail 8 ([oLdA 0, oLdA 0, oGet 3 3, oPut 3 5 .int], tGo 2) := ⟨_, okC (ok_aldn X rfl dX3_fail_8)
  (okC (ok_aldn X rfl dX3_fail_9)
  (okC (ok_get X (ci := 3) rfl (by decide) iw_X3 tw_152 dX3_fail_10)
  (okC (ok_put X (ci := 3) rfl (by decide) iw_X3 tyX3_ok nmX3 rfl (Or.inl rfl) tw_154 dX3_fail_13)
  (okN)))), ok_fall rfl⟩
set_option maxRecDepth 20000 in
theorem ob_X3_fail_2 {x : ip_Cx} {G : ip_Gl} {d : Nat} (X : ip_X x G tb 1 d 0 0 RX3 cX3_fail) (hr : x.2.2.2.2.2.2.2.2.1.sig.returnType = none) (hnm : x.2.2.2.2.2.2.2.2.1.name = "fail") : ip_okB x G 1 pc_X3_fail 16 ([], tRV 0 0) := ⟨_, okN, ok_vret X hr dX3_fail_16⟩
theorem om_30 : ip_MOk tb en_30 pc_X3_fail := fun x G d X hr hnm => ⟨ob_X3_fail_0 X hr hnm, ⟨ob_X3_fail_1 X hr hnm, ⟨ob_X3_fail_2 X hr hnm, trivial⟩⟩⟩
theorem dX3_advance_0 : decode cX3_advance 0 = .ok (.aload_n 0, 1) := by decide +kernel
theorem dX3_advance_1 : decode cX3_advance 1 = .ok (.getfield 25, 3) := by decide +kernel
theorem dX3_advance_4 : decode cX3_advance 4 = .ok (.istore_n 1, 1) := by decide +kernel
theorem dX3_advance_5 : decode cX3_advance 5 = .ok (.iload_n 1, 1) := by decide +kernel
theorem dX3_advance_6 : decode cX3_advance 6 = .ok (.aload_n 0, 1) := by decide +kernel
theorem dX3_advance_7 : decode cX3_advance 7 = .ok (.getfield 22, 3) := by decide +kernel
theorem dX3_advance_10 : decode cX3_advance 10 = .ok (.if_icmp .ge 20, 3) := by decide +kernel
theorem dX3_advance_13 : decode cX3_advance 13 = .ok (.aload_n 0, 1) := by decide +kernel
theorem dX3_advance_14 : decode cX3_advance 14 = .ok (.getfield 9, 3) := by decide +kernel
theorem dX3_advance_17 : decode cX3_advance 17 = .ok (.iload_n 1, 1) := by decide +kernel
theorem dX3_advance_18 : decode cX3_advance 18 = .ok (.baload, 1) := by decide +kernel
theorem dX3_advance_19 : decode cX3_advance 19 = .ok (.bipush 32, 2) := by decide +kernel
theorem dX3_advance_21 : decode cX3_advance 21 = .ok (.if_icmp .ne 9, 3) := by decide +kernel
theorem dX3_advance_24 : decode cX3_advance 24 = .ok (.iinc 1 1, 3) := by decide +kernel
theorem dX3_advance_27 : decode cX3_advance 27 = .ok (.goto (-22), 3) := by decide +kernel
theorem dX3_advance_30 : decode cX3_advance 30 = .ok (.aload_n 0, 1) := by decide +kernel
theorem dX3_advance_31 : decode cX3_advance 31 = .ok (.iload_n 1, 1) := by decide +kernel
theorem dX3_advance_32 : decode cX3_advance 32 = .ok (.putfield 106, 3) := by decide +kernel
theorem dX3_advance_35 : decode cX3_advance 35 = .ok (.iload_n 1, 1) := by decide +kernel
theorem dX3_advance_36 : decode cX3_advance 36 = .ok (.aload_n 0, 1) := by decide +kernel
theorem dX3_advance_37 : decode cX3_advance 37 = .ok (.getfield 22, 3) := by decide +kernel
theorem dX3_advance_40 : decode cX3_advance 40 = .ok (.if_icmp .lt 11, 3) := by decide +kernel
theorem dX3_advance_43 : decode cX3_advance 43 = .ok (.aload_n 0, 1) := by decide +kernel
theorem dX3_advance_44 : decode cX3_advance 44 = .ok (.iconst 0, 1) := by decide +kernel
theorem dX3_advance_45 : decode cX3_advance 45 = .ok (.putfield 15, 3) := by decide +kernel
theorem dX3_advance_48 : decode cX3_advance 48 = .ok (.goto 97, 3) := by decide +kernel
theorem dX3_advance_51 : decode cX3_advance 51 = .ok (.aload_n 0, 1) := by decide +kernel
theorem dX3_advance_52 : decode cX3_advance 52 = .ok (.getfield 9, 3) := by decide +kernel
theorem dX3_advance_55 : decode cX3_advance 55 = .ok (.iload_n 1, 1) := by decide +kernel
theorem dX3_advance_56 : decode cX3_advance 56 = .ok (.baload, 1) := by decide +kernel
theorem dX3_advance_57 : decode cX3_advance 57 = .ok (.invokestatic 109, 3) := by decide +kernel
theorem dX3_advance_60 : decode cX3_advance 60 = .ok (.ifCond .eq 34, 3) := by decide +kernel
theorem dX3_advance_63 : decode cX3_advance 63 = .ok (.aload_n 0, 1) := by decide +kernel
theorem dX3_advance_64 : decode cX3_advance 64 = .ok (.iconst 1, 1) := by decide +kernel
theorem dX3_advance_65 : decode cX3_advance 65 = .ok (.putfield 15, 3) := by decide +kernel
theorem dX3_advance_68 : decode cX3_advance 68 = .ok (.iload_n 1, 1) := by decide +kernel
theorem dX3_advance_69 : decode cX3_advance 69 = .ok (.aload_n 0, 1) := by decide +kernel
theorem dX3_advance_70 : decode cX3_advance 70 = .ok (.getfield 22, 3) := by decide +kernel
theorem dX3_advance_73 : decode cX3_advance 73 = .ok (.if_icmp .ge 72, 3) := by decide +kernel
theorem dX3_advance_76 : decode cX3_advance 76 = .ok (.aload_n 0, 1) := by decide +kernel
theorem dX3_advance_77 : decode cX3_advance 77 = .ok (.getfield 9, 3) := by decide +kernel
theorem dX3_advance_80 : decode cX3_advance 80 = .ok (.iload_n 1, 1) := by decide +kernel
theorem dX3_advance_81 : decode cX3_advance 81 = .ok (.baload, 1) := by decide +kernel
theorem dX3_advance_82 : decode cX3_advance 82 = .ok (.invokestatic 109, 3) := by decide +kernel
theorem dX3_advance_85 : decode cX3_advance 85 = .ok (.ifCond .eq 60, 3) := by decide +kernel
theorem dX3_advance_88 : decode cX3_advance 88 = .ok (.iinc 1 1, 3) := by decide +kernel
theorem dX3_advance_91 : decode cX3_advance 91 = .ok (.goto (-23), 3) := by decide +kernel
theorem dX3_advance_94 : decode cX3_advance 94 = .ok (.aload_n 0, 1) := by decide +kernel
theorem dX3_advance_95 : decode cX3_advance 95 = .ok (.getfield 9, 3) := by decide +kernel
theorem dX3_advance_98 : decode cX3_advance 98 = .ok (.iload_n 1, 1) := by decide +kernel
theorem dX3_advance_99 : decode cX3_advance 99 = .ok (.baload, 1) := by decide +kernel
theorem dX3_advance_100 : decode cX3_advance 100 = .ok (.invokestatic 113, 3) := by decide +kernel
theorem dX3_advance_103 : decode cX3_advance 103 = .ok (.ifCond .eq 34, 3) := by decide +kernel
theorem dX3_advance_106 : decode cX3_advance 106 = .ok (.aload_n 0, 1) := by decide +kernel
theorem dX3_advance_107 : decode cX3_advance 107 = .ok (.iconst 2, 1) := by decide +kernel
theorem dX3_advance_108 : decode cX3_advance 108 = .ok (.putfield 15, 3) := by decide +kernel
theorem dX3_advance_111 : decode cX3_advance 111 = .ok (.iload_n 1, 1) := by decide +kernel
theorem dX3_advance_112 : decode cX3_advance 112 = .ok (.aload_n 0, 1) := by decide +kernel
theorem dX3_advance_113 : decode cX3_advance 113 = .ok (.getfield 22, 3) := by decide +kernel
theorem dX3_advance_116 : decode cX3_advance 116 = .ok (.if_icmp .ge 29, 3) := by decide +kernel
theorem dX3_advance_119 : decode cX3_advance 119 = .ok (.aload_n 0, 1) := by decide +kernel
theorem dX3_advance_120 : decode cX3_advance 120 = .ok (.getfield 9, 3) := by decide +kernel
theorem dX3_advance_123 : decode cX3_advance 123 = .ok (.iload_n 1, 1) := by decide +kernel
theorem dX3_advance_124 : decode cX3_advance 124 = .ok (.baload, 1) := by decide +kernel
theorem dX3_advance_125 : decode cX3_advance 125 = .ok (.invokestatic 113, 3) := by decide +kernel
theorem dX3_advance_128 : decode cX3_advance 128 = .ok (.ifCond .eq 17, 3) := by decide +kernel
theorem dX3_advance_131 : decode cX3_advance 131 = .ok (.iinc 1 1, 3) := by decide +kernel
theorem dX3_advance_134 : decode cX3_advance 134 = .ok (.goto (-23), 3) := by decide +kernel
theorem dX3_advance_137 : decode cX3_advance 137 = .ok (.aload_n 0, 1) := by decide +kernel
theorem dX3_advance_138 : decode cX3_advance 138 = .ok (.iconst 3, 1) := by decide +kernel
theorem dX3_advance_139 : decode cX3_advance 139 = .ok (.putfield 15, 3) := by decide +kernel
theorem dX3_advance_142 : decode cX3_advance 142 = .ok (.iinc 1 1, 3) := by decide +kernel
theorem dX3_advance_145 : decode cX3_advance 145 = .ok (.aload_n 0, 1) := by decide +kernel
theorem dX3_advance_146 : decode cX3_advance 146 = .ok (.iload_n 1, 1) := by decide +kernel
theorem dX3_advance_147 : decode cX3_advance 147 = .ok (.putfield 25, 3) := by decide +kernel
theorem dX3_advance_150 : decode cX3_advance 150 = .ok (.return_, 1) := by decide +kernel
def pc_X3_advance (i : Nat) : Nat := ([0, 5, 13, 24, 30, 43, 51, 63, 68, 76, 88, 94, 106, 111, 119, 131, 137, 145] : List Nat).getD i 0
set_option maxRecDepth 20000 in
theorem ob_X3_advance_0 {x : ip_Cx} {G : ip_Gl} {d : Nat} (X : ip_X x G tb 2 d 0 0 RX3 cX3_advance) (hr : x.2.2.2.2.2.2.2.2.1.sig.returnType = none) (hnm : x.2.2.2.2.2.2.2.2.1.name = "advance") : ip_okB x G 2 pc_X3_advance 0 ([oLdA 0, oGet 3 4, oStI 1], tGo 1) := ⟨_, okC (ok_aldn X rfl dX3_advance_0)
  (okC (ok_get X (ci := 3) rfl (by decide) iw_X3 tw_153 dX3_advance_1)
  (okC (ok_istn X rfl (by decide) dX3_advance_4)
  (okN))), ok_fall rfl⟩
set_option maxRecDepth 20000 in
theorem ob_X3_advance_1 {x : ip_Cx} {G : ip_Gl} {d : Nat} (X : ip_X x G tb 2 d 0 0 RX3 cX3_advance) (hr : x.2.2.2.2.2.2.2.2.1.sig.returnType = none) (hnm : x.2.2.2.2.2.2.2.2.1.name = "advance") : ip_okB x G 2 pc_X3_advance 5 ([oLdI 1, oLdA 0, oGet 3 1], tCm (fun a b => a < b) 2 4) := ⟨_, okC (ok_ildn X rfl dX3_advance_5)
  (okC (ok_aldn X rfl dX3_advance_6)
  (okC (ok_get X (ci := 3) rfl (by decide) iw_X3 tw_149 dX3_advance_7)
  (okN))), ok_cmge X (by decide) rfl dX3_advance_10⟩
set_option maxRecDepth 20000 in
theorem ob_X3_advance_2 {x : ip_Cx} {G : ip_Gl} {d : Nat} (X : ip_X x G tb 2 d 0 0 RX3 cX3_advance) (hr : x.2.2.2.2.2.2.2.2.1.sig.returnType = none) (hnm : x.2.2.2.2.2.2.2.2.1.name = "advance") : ip_okB x G 2 pc_X3_advance 13 ([oLdA 0, oGet 3 0, oLdI 1, oAldB, oI (32)], tCm (fun a b => a = b) 3 4) := ⟨_, okC (ok_aldn X rfl dX3_advance_13)
  (okC (ok_get X (ci := 3) rfl (by decide) iw_X3 tw_148 dX3_advance_14)
  (okC (ok_ildn X rfl dX3_advance_17)
  (okC (ok_bald X dX3_advance_18)
  (okC (ok_bi X (by decide) dX3_advance_19)
  (okN))))), ok_cmne X (by decide) rfl dX3_advance_21⟩
set_option maxRecDepth 20000 in
theorem ob_X3_advance_3 {x : ip_Cx} {G : ip_Gl} {d : Nat} (X : ip_X x G tb 2 d 0 0 RX3 cX3_advance) (hr : x.2.2.2.2.2.2.2.2.1.sig.returnType = none) (hnm : x.2.2.2.2.2.2.2.2.1.name = "advance") : ip_okB x G 2 pc_X3_advance 24 ([oInc 1 (1)], tGo 1) := ⟨_, okC (ok_inc X (by decide) dX3_advance_24)
  (okN), ok_go X (by decide) dX3_advance_27⟩
set_option maxRecDepth 20000 in
theorem ob_X3_advance_4 {x : ip_Cx} {G : ip_Gl} {d : Nat} (X : ip_X x G tb 2 d 0 0 RX3 cX3_advance) (hr : x.2.2.2.2.2.2.2.2.1.sig.returnType = none) (hnm : x.2.2.2.2.2.2.2.2.1.name = "advance") : ip_okB x G 2 pc_X3_advance 30 ([oLdA 0, oLdI 1, oPut 3 3 .int, oLdI 1, oLdA 0, oGet 3 1], tCm (fun a b => a < b) 6 5) := ⟨_, okC (ok_aldn X rfl dX3_advance_30)
  (okC (ok_ildn X rfl dX3_advance_31)
  (okC (ok_put X (ci := 3) rfl (by decide) iw_X3 tyX3_ok nmX3 rfl (Or.inl rfl) tw_152 dX3_advance_32)
  (okC (ok_ildn X rfl dX3_advance_35)
  (okC (ok_aldn X rfl dX3_advance_36)
  (okC (ok_get X (ci := 3) rfl (by decide) iw_X3 tw_149 dX3_advance_37)
  (okN)))))), ok_cmlt X (by decide) rfl dX3_advance_40⟩
set_option maxRecDepth 20000 in
theorem ob_X3_advance_5 {x : ip_Cx} {G : ip_Gl} {d : Nat} (X : ip_X x G tb 2 d 0 0 RX3 cX3_advance) (hr : x.2.2.2.2.2.2.2.2.1.sig.returnType = none) (hnm : x.2.2.2.2.2.2.2.2.1.name = "advance") : ip_okB x G 2 pc_X3_advance 43 ([oLdA 0, oI (0), oPut 3 2 .int], tGo 17) := ⟨_, okC (ok_aldn X rfl dX3_advance_43)
  (okC (ok_ic X (by decide) dX3_advance_44)
  (okC (ok_put X (ci := 3) rfl (by decide) iw_X3 tyX3_ok nmX3 rfl (Or.inl rfl) tw_151 dX3_advance_45)
  (okN))), ok_go X (by decide) dX3_advance_48⟩
set_option maxRecDepth 20000 in
theorem ob_X3_advance_6 {x : ip_Cx} {G : ip_Gl} {d : Nat} (X : ip_X x G tb 2 d 0 0 RX3 cX3_advance) (hr : x.2.2.2.2.2.2.2.2.1.sig.returnType = none) (hnm : x.2.2.2.2.2.2.2.2.1.name = "advance") : ip_okB x G 2 pc_X3_advance 51 ([oLdA 0, oGet 3 0, oLdI 1, oAldB, oCal (ip_call tb d) 0 0 32 1 0 0], tIf (fun a => a = 0) 11 7) := ⟨_, okC (ok_aldn X rfl dX3_advance_51)
  (okC (ok_get X (ci := 3) rfl (by decide) iw_X3 tw_148 dX3_advance_52)
  (okC (ok_ildn X rfl dX3_advance_55)
  (okC (ok_bald X dX3_advance_56)
  (okC (ok_calS X (i := 109) (e := en_32) rfl mt_32 rfl rfl rfl tw_259 tw_260 dX3_advance_57)
  (okN))))), ok_ifeq X (by decide) rfl dX3_advance_60⟩
set_option maxRecDepth 20000 in
theorem ob_X3_advance_7 {x : ip_Cx} {G : ip_Gl} {d : Nat} (X : ip_X x G tb 2 d 0 0 RX3 cX3_advance) (hr : x.2.2.2.2.2.2.2.2.1.sig.returnType = none) (hnm : x.2.2.2.2.2.2.2.2.1.name = "advance") : ip_okB x G 2 pc_X3_advance 63 ([oLdA 0, oI (1), oPut 3 2 .int], tGo 8) := ⟨_, okC (ok_aldn X rfl dX3_advance_63)
  (okC (ok_ic X (by decide) dX3_advance_64)
  (okC (ok_put X (ci := 3) rfl (by decide) iw_X3 tyX3_ok nmX3 rfl (Or.inl rfl) tw_151 dX3_advance_65)
  (okN))), ok_fall rfl⟩
set_option maxRecDepth 20000 in
theorem ob_X3_advance_8 {x : ip_Cx} {G : ip_Gl} {d : Nat} (X : ip_X x G tb 2 d 0 0 RX3 cX3_advance) (hr : x.2.2.2.2.2.2.2.2.1.sig.returnType = none) (hnm : x.2.2.2.2.2.2.2.2.1.name = "advance") : ip_okB x G 2 pc_X3_advance 68 ([oLdI 1, oLdA 0, oGet 3 1], tCm (fun a b => a < b) 9 17) := ⟨_, okC (ok_ildn X rfl dX3_advance_68)
  (okC (ok_aldn X rfl dX3_advance_69)
  (okC (ok_get X (ci := 3) rfl (by decide) iw_X3 tw_149 dX3_advance_70)
  (okN))), ok_cmge X (by decide) rfl dX3_advance_73⟩
set_option maxRecDepth 20000 in
theorem ob_X3_advance_9 {x : ip_Cx} {G : ip_Gl} {d : Nat} (X : ip_X x G tb 2 d 0 0 RX3 cX3_advance) (hr : x.2.2.2.2.2.2.2.2.1.sig.returnType = none) (hnm : x.2.2.2.2.2.2.2.2.1.name = "advance") : ip_okB x G 2 pc_X3_advance 76 ([oLdA 0, oGet 3 0, oLdI 1, oAldB, oCal (ip_call tb d) 0 0 32 1 0 0], tIf (fun a => a = 0) 17 10) := ⟨_, okC (ok_aldn X rfl dX3_advance_76)
  (okC (ok_get X (ci := 3) rfl (by decide) iw_X3 tw_148 dX3_advance_77)
  (okC (ok_ildn X rfl dX3_advance_80)
  (okC (ok_bald X dX3_advance_81)
  (okC (ok_calS X (i := 109) (e := en_32) rfl mt_32 rfl rfl rfl tw_259 tw_260 dX3_advance_82)
  (okN))))), ok_ifeq X (by decide) rfl dX3_advance_85⟩
set_option maxRecDepth 20000 in
theorem ob_X3_advance_10 {x : ip_Cx} {G : ip_Gl} {d : Nat} (X : ip_X x G tb 2 d 0 0 RX3 cX3_advance) (hr : x.2.2.2.2.2.2.2.2.1.sig.returnType = none) (hnm : x.2.2.2.2.2.2.2.2.1.name = "advance") : ip_okB x G 2 pc_X3_advance 88 ([oInc 1 (1)], tGo 8) := ⟨_, okC (ok_inc X (by decide) dX3_advance_88)
  (okN), ok_go X (by decide) dX3_advance_91⟩
set_option maxRecDepth 20000 in
theorem ob_X3_advance_11 {x : ip_Cx} {G : ip_Gl} {d : Nat} (X : ip_X x G tb 2 d 0 0 RX3 cX3_advance) (hr : x.2.2.2.2.2.2.2.2.1.sig.returnType = none) (hnm : x.2.2.2.2.2.2.2.2.1.name = "advance") : ip_okB x G 2 pc_X3_advance 94 ([oLdA 0, oGet 3 0, oLdI 1, oAldB, oCal (ip_call tb d) 0 0 33 1 0 0], tIf (fun a => a = 0) 16 12) := ⟨_, okC (ok_aldn X rfl dX3_advance_94)
  (okC (ok_get X (ci := 3) rfl (by decide) iw_X3 tw_148 dX3_advance_95)
  (okC (ok_ildn X rfl dX3_advance_98)
  (okC (ok_bald X dX3_advance_99)
  (okC (ok_calS X (i := 113) (e := en_33) rfl mt_33 rfl rfl rfl tw_262 tw_263 dX3_advance_100)
  (okN))))), ok_ifeq X (by decide) rfl dX3_advance_103⟩
set_option maxRecDepth 20000 in
theorem ob_X3_advance_12 {x : ip_Cx} {G : ip_Gl} {d : Nat} (X : ip_X x G tb 2 d 0 0 RX3 cX3_advance) (hr : x.2.2.2.2.2.2.2.2.1.sig.returnType = none) (hnm : x.2.2.2.2.2.2.2.2.1.name = "advance") : ip_okB x G 2 pc_X3_advance 106 ([oLdA 0, oI (2), oPut 3 2 .int], tGo 13) := ⟨_, okC (ok_aldn X rfl dX3_advance_106)
  (okC (ok_ic X (by decide) dX3_advance_107)
  (okC (ok_put X (ci := 3) rfl (by decide) iw_X3 tyX3_ok nmX3 rfl (Or.inl rfl) tw_151 dX3_advance_108)
  (okN))), ok_fall rfl⟩
set_option maxRecDepth 20000 in
theorem ob_X3_advance_13 {x : ip_Cx} {G : ip_Gl} {d : Nat} (X : ip_X x G tb 2 d 0 0 RX3 cX3_advance) (hr : x.2.2.2.2.2.2.2.2.1.sig.returnType = none) (hnm : x.2.2.2.2.2.2.2.2.1.name = "advance") : ip_okB x G 2 pc_X3_advance 111 ([oLdI 1, oLdA 0, oGet 3 1], tCm (fun a b => a < b) 14 17) := ⟨_, okC (ok_ildn X rfl dX3_advance_111)
  (okC (ok_aldn X rfl dX3_advance_112)
  (okC (ok_get X (ci := 3) rfl (by decide) iw_X3 tw_149 dX3_advance_113)
  (okN))), ok_cmge X (by decide) rfl dX3_advance_116⟩
set_option maxRecDepth 20000 in
theorem ob_X3_advance_14 {x : ip_Cx} {G : ip_Gl} {d : Nat} (X : ip_X x G tb 2 d 0 0 RX3 cX3_advance) (hr : x.2.2.2.2.2.2.2.2.1.sig.returnType = none) (hnm : x.2.2.2.2.2.2.2.2.1.name = "advance") : ip_okB x G 2 pc_X3_advance 119 ([oLdA 0, oGet 3 0, oLdI 1, oAldB, oCal (ip_call tb d) 0 0 33 1 0 0], tIf (fun a => a = 0) 17 15) := ⟨_, okC (ok_aldn X rfl dX3_advance_119)
  (okC (ok_get X (ci := 3) rfl (by decide) iw_X3 tw_148 dX3_advance_120)
  (okC (ok_ildn X rfl dX3_advance_123)
  (okC (ok_bald X dX3_advance_124)
  (okC (ok_calS X (i := 113) (e := en_33) rfl mt_33 rfl rfl rfl tw_262 tw_263 dX3_advance_125)
  (okN))))), ok_ifeq X (by decide) rfl dX3_advance_128⟩
set_option maxRecDepth 20000 in
theorem ob_X3_advance_15 {x : ip_Cx} {G : ip_Gl} {d : Nat} (X : ip_X x G tb 2 d 0 0 RX3 cX3_advance) (hr : x.2.2.2.2.2.2.2.2.1.sig.returnType = none) (hnm : x.2.2.2.2.2.2.2.2.1.name = "advance") : ip_okB x G 2 pc_X3_advance 131 ([oInc 1 (1)], tGo 13) := ⟨_, okC (ok_inc X (by decide) dX3_advance_131)
  (okN), ok_go X (by decide) dX3_advance_134⟩
set_option maxRecDepth 20000 in
theorem ob_X3_advance_16 {x : ip_Cx} {G : ip_Gl} {d : Nat} (X : ip_X x G tb 2 d 0 0 RX3 cX3_advance) (hr : x.2.2.2.2.2.2.2.2.1.sig.returnType = none) (hnm : x.2.2.2.2.2.2.2.2.1.name = "advance") : ip_okB x G 2 pc_X3_advance 137 ([oLdA 0, oI (3), oPut 3 2 .int, oInc 1 (1)], tGo 17) := ⟨_, okC (ok_aldn X rfl dX3_advance_137)
  (okC (ok_ic X (by decide) dX3_advance_138)
  (okC (ok_put X (ci := 3) rfl (by decide) iw_X3 tyX3_ok nmX3 rfl (Or.inl rfl) tw_151 dX3_advance_139)
  (okC (ok_inc X (by decide) dX3_advance_142)
  (okN)))), ok_fall rfl⟩
set_option maxRecDepth 20000 in
theorem ob_X3_advance_17 {x : ip_Cx} {G : ip_Gl} {d : Nat} (X : ip_X x G tb 2 d 0 0 RX3 cX3_advance) (hr : x.2.2.2.2.2.2.2.2.1.sig.returnType = none) (hnm : x.2.2.2.2.2.2.2.2.1.name = "advance") : ip_okB x G 2 pc_X3_advance 145 ([oLdA 0, oLdI 1, oPut 3 4 .int], tRV 0 0) := ⟨_, okC (ok_aldn X rfl dX3_advance_145)
  (okC (ok_ildn X rfl dX3_advance_146)
  (okC (ok_put X (ci := 3) rfl (by decide) iw_X3 tyX3_ok nmX3 rfl (Or.inl rfl) tw_153 dX3_advance_147)
  (okN))), ok_vret X hr dX3_advance_150⟩
theorem om_31 : ip_MOk tb en_31 pc_X3_advance := fun x G d X hr hnm => ⟨ob_X3_advance_0 X hr hnm, ⟨ob_X3_advance_1 X hr hnm, ⟨ob_X3_advance_2 X hr hnm, ⟨ob_X3_advance_3 X hr hnm, ⟨ob_X3_advance_4 X hr hnm, ⟨ob_X3_advance_5 X hr hnm, ⟨ob_X3_advance_6 X hr hnm, ⟨ob_X3_advance_7 X hr hnm, ⟨ob_X3_advance_8 X hr hnm, ⟨ob_X3_advance_9 X hr hnm, ⟨ob_X3_advance_10 X hr hnm, ⟨ob_X3_advance_11 X hr hnm, ⟨ob_X3_advance_12 X hr hnm, ⟨ob_X3_advance_13 X hr hnm, ⟨ob_X3_advance_14 X hr hnm, ⟨ob_X3_advance_15 X hr hnm, ⟨ob_X3_advance_16 X hr hnm, ⟨ob_X3_advance_17 X hr hnm, trivial⟩⟩⟩⟩⟩⟩⟩⟩⟩⟩⟩⟩⟩⟩⟩⟩⟩⟩
theorem dX3_isLetter_0 : decode cX3_isLetter 0 = .ok (.iload_n 0, 1) := by decide +kernel
theorem dX3_isLetter_1 : decode cX3_isLetter 1 = .ok (.bipush 97, 2) := by decide +kernel
theorem dX3_isLetter_3 : decode cX3_isLetter 3 = .ok (.if_icmp .lt 13, 3) := by decide +kernel
theorem dX3_isLetter_6 : decode cX3_isLetter 6 = .ok (.iload_n 0, 1) := by decide +kernel
theorem dX3_isLetter_7 : decode cX3_isLetter 7 = .ok (.bipush 122, 2) := by decide +kernel
theorem dX3_isLetter_9 : decode cX3_isLetter 9 = .ok (.if_icmp .gt 7, 3) := by decide +kernel
theorem dX3_isLetter_12 : decode cX3_isLetter 12 = .ok (.iconst 1, 1) := by decide +kernel
theorem dX3_isLetter_13 : decode cX3_isLetter 13 = .ok (.goto 4, 3) := by decide +kernel
theorem dX3_isLetter_16 : decode cX3_isLetter 16 = .ok (.iconst 0, 1) := by decide +kernel
theorem dX3_isLetter_17 : decode cX3_isLetter 17 = .ok (.ireturn, 1) := by decide +kernel
def pc_X3_isLetter (i : Nat) : Nat := ([0, 6, 12, 16, 17] : List Nat).getD i 0
set_option maxRecDepth 20000 in
theorem ob_X3_isLetter_0 {x : ip_Cx} {G : ip_Gl} {d : Nat} (X : ip_X x G tb 1 d 0 0 RX3 cX3_isLetter) (hr : x.2.2.2.2.2.2.2.2.1.sig.returnType = (some .boolean)) (hnm : x.2.2.2.2.2.2.2.2.1.name = "isLetter") : ip_okB x G 1 pc_X3_isLetter 0 ([oLdI 0, oI (97)], tCm (fun a b => a < b) 3 1) := ⟨_, okC (ok_ildn X rfl dX3_isLetter_0)
  (okC (ok_bi X (by decide) dX3_isLetter_1)
  (okN)), ok_cmlt X (by decide) rfl dX3_isLetter_3⟩
set_option maxRecDepth 20000 in
theorem ob_X3_isLetter_1 {x : ip_Cx} {G : ip_Gl} {d : Nat} (X : ip_X x G tb 1 d 0 0 RX3 cX3_isLetter) (hr : x.2.2.2.2.2.2.2.2.1.sig.returnType = (some .boolean)) (hnm : x.2.2.2.2.2.2.2.2.1.name = "isLetter") : ip_okB x G 1 pc_X3_isLetter 6 ([oLdI 0, oI (122)], tCm (fun a b => b < a) 3 2) := ⟨_, okC (ok_ildn X rfl dX3_isLetter_6)
  (okC (ok_bi X (by decide) dX3_isLetter_7)
  (okN)), ok_cmgt X (by decide) rfl dX3_isLetter_9⟩
set_option maxRecDepth 20000 in
theorem ob_X3_isLetter_2 {x : ip_Cx} {G : ip_Gl} {d : Nat} (X : ip_X x G tb 1 d 0 0 RX3 cX3_isLetter) (hr : x.2.2.2.2.2.2.2.2.1.sig.returnType = (some .boolean)) (hnm : x.2.2.2.2.2.2.2.2.1.name = "isLetter") : ip_okB x G 1 pc_X3_isLetter 12 ([oI (1)], tGo 4) := ⟨_, okC (ok_ic X (by decide) dX3_isLetter_12)
  (okN), ok_go X (by decide) dX3_isLetter_13⟩
set_option maxRecDepth 20000 in
theorem ob_X3_isLetter_3 {x : ip_Cx} {G : ip_Gl} {d : Nat} (X : ip_X x G tb 1 d 0 0 RX3 cX3_isLetter) (hr : x.2.2.2.2.2.2.2.2.1.sig.returnType = (some .boolean)) (hnm : x.2.2.2.2.2.2.2.2.1.name = "isLetter") : ip_okB x G 1 pc_X3_isLetter 16 ([oI (0)], tGo 4) := ⟨_, okC (ok_ic X (by decide) dX3_isLetter_16)
  (okN), ok_fall rfl⟩
set_option maxRecDepth 20000 in
theorem ob_X3_isLetter_4 {x : ip_Cx} {G : ip_Gl} {d : Nat} (X : ip_X x G tb 1 d 0 0 RX3 cX3_isLetter) (hr : x.2.2.2.2.2.2.2.2.1.sig.returnType = (some .boolean)) (hnm : x.2.2.2.2.2.2.2.2.1.name = "isLetter") : ip_okB x G 1 pc_X3_isLetter 17 ([], tRI .boolean 0 0) := ⟨_, okN, ok_ret X hr dX3_isLetter_17⟩
theorem om_32 : ip_MOk tb en_32 pc_X3_isLetter := fun x G d X hr hnm => ⟨ob_X3_isLetter_0 X hr hnm, ⟨ob_X3_isLetter_1 X hr hnm, ⟨ob_X3_isLetter_2 X hr hnm, ⟨ob_X3_isLetter_3 X hr hnm, ⟨ob_X3_isLetter_4 X hr hnm, trivial⟩⟩⟩⟩⟩
theorem dX3_isDigit_0 : decode cX3_isDigit 0 = .ok (.iload_n 0, 1) := by decide +kernel
theorem dX3_isDigit_1 : decode cX3_isDigit 1 = .ok (.bipush 48, 2) := by decide +kernel
theorem dX3_isDigit_3 : decode cX3_isDigit 3 = .ok (.if_icmp .lt 13, 3) := by decide +kernel
theorem dX3_isDigit_6 : decode cX3_isDigit 6 = .ok (.iload_n 0, 1) := by decide +kernel
theorem dX3_isDigit_7 : decode cX3_isDigit 7 = .ok (.bipush 57, 2) := by decide +kernel
theorem dX3_isDigit_9 : decode cX3_isDigit 9 = .ok (.if_icmp .gt 7, 3) := by decide +kernel
theorem dX3_isDigit_12 : decode cX3_isDigit 12 = .ok (.iconst 1, 1) := by decide +kernel
theorem dX3_isDigit_13 : decode cX3_isDigit 13 = .ok (.goto 4, 3) := by decide +kernel
theorem dX3_isDigit_16 : decode cX3_isDigit 16 = .ok (.iconst 0, 1) := by decide +kernel
theorem dX3_isDigit_17 : decode cX3_isDigit 17 = .ok (.ireturn, 1) := by decide +kernel
def pc_X3_isDigit (i : Nat) : Nat := ([0, 6, 12, 16, 17] : List Nat).getD i 0
set_option maxRecDepth 20000 in
theorem ob_X3_isDigit_0 {x : ip_Cx} {G : ip_Gl} {d : Nat} (X : ip_X x G tb 1 d 0 0 RX3 cX3_isDigit) (hr : x.2.2.2.2.2.2.2.2.1.sig.returnType = (some .boolean)) (hnm : x.2.2.2.2.2.2.2.2.1.name = "isDigit") : ip_okB x G 1 pc_X3_isDigit 0 ([oLdI 0, oI (48)], tCm (fun a b => a < b) 3 1) := ⟨_, okC (ok_ildn X rfl dX3_isDigit_0)
  (okC (ok_bi X (by decide) dX3_isDigit_1)
  (okN)), ok_cmlt X (by decide) rfl dX3_isDigit_3⟩
set_option maxRecDepth 20000 in
theorem ob_X3_isDigit_1 {x : ip_Cx} {G : ip_Gl} {d : Nat} (X : ip_X x G tb 1 d 0 0 RX3 cX3_isDigit) (hr : x.2.2.2.2.2.2.2.2.1.sig.returnType = (some .boolean)) (hnm : x.2.2.2.2.2.2.2.2.1.name = "isDigit") : ip_okB x G 1 pc_X3_isDigit 6 ([oLdI 0, oI (57)], tCm (fun a b => b < a) 3 2) := ⟨_, okC (ok_ildn X rfl dX3_isDigit_6)
  (okC (ok_bi X (by decide) dX3_isDigit_7)
  (okN)), ok_cmgt X (by decide) rfl dX3_isDigit_9⟩
set_option maxRecDepth 20000 in
theorem ob_X3_isDigit_2 {x : ip_Cx} {G : ip_Gl} {d : Nat} (X : ip_X x G tb 1 d 0 0 RX3 cX3_isDigit) (hr : x.2.2.2.2.2.2.2.2.1.sig.returnType = (some .boolean)) (hnm : x.2.2.2.2.2.2.2.2.1.name = "isDigit") : ip_okB x G 1 pc_X3_isDigit 12 ([oI (1)], tGo 4) := ⟨_, okC (ok_ic X (by decide) dX3_isDigit_12)
  (okN), ok_go X (by decide) dX3_isDigit_13⟩
set_option maxRecDepth 20000 in
theorem ob_X3_isDigit_3 {x : ip_Cx} {G : ip_Gl} {d : Nat} (X : ip_X x G tb 1 d 0 0 RX3 cX3_isDigit) (hr : x.2.2.2.2.2.2.2.2.1.sig.returnType = (some .boolean)) (hnm : x.2.2.2.2.2.2.2.2.1.name = "isDigit") : ip_okB x G 1 pc_X3_isDigit 16 ([oI (0)], tGo 4) := ⟨_, okC (ok_ic X (by decide) dX3_isDigit_16)
  (okN), ok_fall rfl⟩
set_option maxRecDepth 20000 in
theorem ob_X3_isDigit_4 {x : ip_Cx} {G : ip_Gl} {d : Nat} (X : ip_X x G tb 1 d 0 0 RX3 cX3_isDigit) (hr : x.2.2.2.2.2.2.2.2.1.sig.returnType = (some .boolean)) (hnm : x.2.2.2.2.2.2.2.2.1.name = "isDigit") : ip_okB x G 1 pc_X3_isDigit 17 ([], tRI .boolean 0 0) := ⟨_, okN, ok_ret X hr dX3_isDigit_17⟩
theorem om_33 : ip_MOk tb en_33 pc_X3_isDigit := fun x G d X hr hnm => ⟨ob_X3_isDigit_0 X hr hnm, ⟨ob_X3_isDigit_1 X hr hnm, ⟨ob_X3_isDigit_2 X hr hnm, ⟨ob_X3_isDigit_3 X hr hnm, ⟨ob_X3_isDigit_4 X hr hnm, trivial⟩⟩⟩⟩⟩
theorem dX3_tokenNumber_0 : decode cX3_tokenNumber 0 = .ok (.aload_n 0, 1) := by decide +kernel
theorem dX3_tokenNumber_1 : decode cX3_tokenNumber 1 = .ok (.getfield 15, 3) := by decide +kernel
theorem dX3_tokenNumber_4 : decode cX3_tokenNumber 4 = .ok (.iconst 2, 1) := by decide +kernel
theorem dX3_tokenNumber_5 : decode cX3_tokenNumber 5 = .ok (.if_icmp .ne 16, 3) := by decide +kernel
theorem dX3_tokenNumber_8 : decode cX3_tokenNumber 8 = .ok (.aload_n 0, 1) := by decide +kernel
theorem dX3_tokenNumber_9 : decode cX3_tokenNumber 9 = .ok (.getfield 25, 3) := by decide +kernel
theorem dX3_tokenNumber_12 : decode cX3_tokenNumber 12 = .ok (.aload_n 0, 1) := by decide +kernel
theorem dX3_tokenNumber_13 : decode cX3_tokenNumber 13 = .ok (.getfield 106, 3) := by decide +kernel
theorem dX3_tokenNumber_16 : decode cX3_tokenNumber 16 = .ok (.isub, 1) := by decide +kernel
theorem dX3_tokenNumber_17 : decode cX3_tokenNumber 17 = .ok (.iconst 3, 1) := by decide +kernel
theorem dX3_tokenNumber_18 : decode cX3_tokenNumber 18 = .ok (.if_icmp .le 5, 3) := by decide +kernel
theorem dX3_tokenNumber_21 : decode cX3_tokenNumber 21 = .ok (.iconst (-1), 1) := by decide +kernel
theorem dX3_tokenNumber_22 : decode cX3_tokenNumber 22 = .ok (.ireturn, 1) := by decide +kernel
theorem dX3_tokenNumber_23 : decode cX3_tokenNumber 23 = .ok (.iconst 0, 1) := by decide +kernel
theorem dX3_tokenNumber_24 : decode cX3_tokenNumber 24 = .ok (.istore_n 1, 1) := by decide +kernel
theorem dX3_tokenNumber_25 : decode cX3_tokenNumber 25 = .ok (.aload_n 0, 1) := by decide +kernel
theorem dX3_tokenNumber_26 : decode cX3_tokenNumber 26 = .ok (.getfield 106, 3) := by decide +kernel
theorem dX3_tokenNumber_29 : decode cX3_tokenNumber 29 = .ok (.istore_n 2, 1) := by decide +kernel
theorem dX3_tokenNumber_30 : decode cX3_tokenNumber 30 = .ok (.iload_n 2, 1) := by decide +kernel
theorem dX3_tokenNumber_31 : decode cX3_tokenNumber 31 = .ok (.aload_n 0, 1) := by decide +kernel
theorem dX3_tokenNumber_32 : decode cX3_tokenNumber 32 = .ok (.getfield 25, 3) := by decide +kernel
theorem dX3_tokenNumber_35 : decode cX3_tokenNumber 35 = .ok (.if_icmp .ge 24, 3) := by decide +kernel
theorem dX3_tokenNumber_38 : decode cX3_tokenNumber 38 = .ok (.iload_n 1, 1) := by decide +kernel
theorem dX3_tokenNumber_39 : decode cX3_tokenNumber 39 = .ok (.bipush 10, 2) := by decide +kernel
theorem dX3_tokenNumber_41 : decode cX3_tokenNumber 41 = .ok (.imul, 1) := by decide +kernel
theorem dX3_tokenNumber_42 : decode cX3_tokenNumber 42 = .ok (.aload_n 0, 1) := by decide +kernel
theorem dX3_tokenNumber_43 : decode cX3_tokenNumber 43 = .ok (.getfield 9, 3) := by decide +kernel
theorem dX3_tokenNumber_46 : decode cX3_tokenNumber 46 = .ok (.iload_n 2, 1) := by decide +kernel
theorem dX3_tokenNumber_47 : decode cX3_tokenNumber 47 = .ok (.baload, 1) := by decide +kernel
theorem dX3_tokenNumber_48 : decode cX3_tokenNumber 48 = .ok (.bipush 48, 2) := by decide +kernel
theorem dX3_tokenNumber_50 : decode cX3_tokenNumber 50 = .ok (.isub, 1) := by decide +kernel
theorem dX3_tokenNumber_51 : decode cX3_tokenNumber 51 = .ok (.iadd, 1) := by decide +kernel
theorem dX3_tokenNumber_52 : decode cX3_tokenNumber 52 = .ok (.istore_n 1, 1) := by decide +kernel
theorem dX3_tokenNumber_53 : decode cX3_tokenNumber 53 = .ok (.iinc 2 1, 3) := by decide +kernel
theorem dX3_tokenNumber_56 : decode cX3_tokenNumber 56 = .ok (.goto (-26), 3) := by decide +kernel
theorem dX3_tokenNumber_59 : decode cX3_tokenNumber 59 = .ok (.iload_n 1, 1) := by decide +kernel
theorem dX3_tokenNumber_60 : decode cX3_tokenNumber 60 = .ok (.ireturn, 1) := by decide +kernel
def pc_X3_tokenNumber (i : Nat) : Nat := ([0, 8, 21, 23, 30, 38, 59] : List Nat).getD i 0
set_option maxRecDepth 20000 in
theorem ob_X3_tokenNumber_0 {x : ip_Cx} {G : ip_Gl} {d : Nat} (X : ip_X x G tb 3 d 0 0 RX3 cX3_tokenNumber) (hr : x.2.2.2.2.2.2.2.2.1.sig.returnType = (some .int)) (hnm : x.2.2.2.2.2.2.2.2.1.name = "tokenNumber") : ip_okB x G 3 pc_X3_tokenNumber 0 ([oLdA 0, oGet 3 2, oI (2)], tCm (fun a b => a = b) 1 2) := ⟨_, okC (ok_aldn X rfl dX3_tokenNumber_0)
  (okC (ok_get X (ci := 3) rfl (by decide) iw_X3 tw_151 dX3_tokenNumber_1)
  (okC (ok_ic X (by decide) dX3_tokenNumber_4)
  (okN))), ok_cmne X (by decide) rfl dX3_tokenNumber_5⟩
set_option maxRecDepth 20000 in
theorem ob_X3_tokenNumber_1 {x : ip_Cx} {G : ip_Gl} {d : Nat} (X : ip_X x G tb 3 d 0 0 RX3 cX3_tokenNumber) (hr : x.2.2.2.2.2.2.2.2.1.sig.returnType = (some .int)) (hnm : x.2.2.2.2.2.2.2.2.1.name = "tokenNumber") : ip_okB x G 3 pc_X3_tokenNumber 8 ([oLdA 0, oGet 3 4, oLdA 0, oGet 3 3, oBI (fun a b => a - b), oI (3)], tCm (fun a b => b < a) 2 3) := ⟨_, okC (ok_aldn X rfl dX3_tokenNumber_8)
  (okC (ok_get X (ci := 3) rfl (by decide) iw_X3 tw_153 dX3_tokenNumber_9)
  (okC (ok_aldn X rfl dX3_tokenNumber_12)
  (okC (ok_get X (ci := 3) rfl (by decide) iw_X3 tw_152 dX3_tokenNumber_13)
  (okC (ok_isub X dX3_tokenNumber_16)
  (okC (ok_ic X (by decide) dX3_tokenNumber_17)
  (okN)))))), ok_cmle X (by decide) rfl dX3_tokenNumber_18⟩
set_option maxRecDepth 20000 in
theorem ob_X3_tokenNumber_2 {x : ip_Cx} {G : ip_Gl} {d : Nat} (X : ip_X x G tb 3 d 0 0 RX3 cX3_tokenNumber) (hr : x.2.2.2.2.2.2.2.2.1.sig.returnType = (some .int)) (hnm : x.2.2.2.2.2.2.2.2.1.name = "tokenNumber") : ip_okB x G 3 pc_X3_tokenNumber 21 ([oI (-1)], tRI .int 0 0) := ⟨_, okC (ok_ic X (by decide) dX3_tokenNumber_21)
  (okN), ok_ret X hr dX3_tokenNumber_22⟩
set_option maxRecDepth 20000 in
theorem ob_X3_tokenNumber_3 {x : ip_Cx} {G : ip_Gl} {d : Nat} (X : ip_X x G tb 3 d 0 0 RX3 cX3_tokenNumber) (hr : x.2.2.2.2.2.2.2.2.1.sig.returnType = (some .int)) (hnm : x.2.2.2.2.2.2.2.2.1.name = "tokenNumber") : ip_okB x G 3 pc_X3_tokenNumber 23 ([oI (0), oStI 1, oLdA 0, oGet 3 3, oStI 2], tGo 4) := ⟨_, okC (ok_ic X (by decide) dX3_tokenNumber_23)
  (okC (ok_istn X rfl (by decide) dX3_tokenNumber_24)
  (okC (ok_aldn X rfl dX3_tokenNumber_25)
  (okC (ok_get X (ci := 3) rfl (by decide) iw_X3 tw_152 dX3_tokenNumber_26)
  (okC (ok_istn X rfl (by decide) dX3_tokenNumber_29)
  (okN))))), ok_fall rfl⟩
set_option maxRecDepth 20000 in
theorem ob_X3_tokenNumber_4 {x : ip_Cx} {G : ip_Gl} {d : Nat} (X : ip_X x G tb 3 d 0 0 RX3 cX3_tokenNumber) (hr : x.2.2.2.2.2.2.2.2.1.sig.returnType = (some .int)) (hnm : x.2.2.2.2.2.2.2.2.1.name = "tokenNumber") : ip_okB x G 3 pc_X3_tokenNumber 30 ([oLdI 2, oLdA 0, oGet 3 4], tCm (fun a b => a < b) 5 6) := ⟨_, okC (ok_ildn X rfl dX3_tokenNumber_30)
  (okC (ok_aldn X rfl dX3_tokenNumber_31)
  (okC (ok_get X (ci := 3) rfl (by decide) iw_X3 tw_153 dX3_tokenNumber_32)
  (okN))), ok_cmge X (by decide) rfl dX3_tokenNumber_35⟩
set_option maxRecDepth 20000 in
theorem ob_X3_tokenNumber_5 {x : ip_Cx} {G : ip_Gl} {d : Nat} (X : ip_X x G tb 3 d 0 0 RX3 cX3_tokenNumber) (hr : x.2.2.2.2.2.2.2.2.1.sig.returnType = (some .int)) (hnm : x.2.2.2.2.2.2.2.2.1.name = "tokenNumber") : ip_okB x G 3 pc_X3_tokenNumber 38 ([oLdI 1, oI (10), oBI (fun a b => a * b), oLdA 0, oGet 3 0, oLdI 2, oAldB, oI (48), oBI (fun a b => a - b), oBI (fun a b => a + b), oStI 1, oInc 2 (1)], tGo 4) := ⟨_, okC (ok_ildn X rfl dX3_tokenNumber_38)
  (okC (ok_bi X (by decide) dX3_tokenNumber_39)
  (okC (ok_imul X dX3_tokenNumber_41)
  (okC (ok_aldn X rfl dX3_tokenNumber_42)
  (okC (ok_get X (ci := 3) rfl (by decide) iw_X3 tw_148 dX3_tokenNumber_43)
  (okC (ok_ildn X rfl dX3_tokenNumber_46)
  (okC (ok_bald X dX3_tokenNumber_47)
  (okC (ok_bi X (by decide) dX3_tokenNumber_48)
  (okC (ok_isub X dX3_tokenNumber_50)
  (okC (ok_iadd X dX3_tokenNumber_51)
  (okC (ok_istn X rfl (by decide) dX3_tokenNumber_52)
  (okC (ok_inc X (by decide) dX3_tokenNumber_53)
  (okN)))))))))))), ok_go X (by decide) dX3_tokenNumber_56⟩
set_option maxRecDepth 20000 in
theorem ob_X3_tokenNumber_6 {x : ip_Cx} {G : ip_Gl} {d : Nat} (X : ip_X x G tb 3 d 0 0 RX3 cX3_tokenNumber) (hr : x.2.2.2.2.2.2.2.2.1.sig.returnType = (some .int)) (hnm : x.2.2.2.2.2.2.2.2.1.name = "tokenNumber") : ip_okB x G 3 pc_X3_tokenNumber 59 ([oLdI 1], tRI .int 0 0) := ⟨_, okC (ok_ildn X rfl dX3_tokenNumber_59)
  (okN), ok_ret X hr dX3_tokenNumber_60⟩
theorem om_34 : ip_MOk tb en_34 pc_X3_tokenNumber := fun x G d X hr hnm => ⟨ob_X3_tokenNumber_0 X hr hnm, ⟨ob_X3_tokenNumber_1 X hr hnm, ⟨ob_X3_tokenNumber_2 X hr hnm, ⟨ob_X3_tokenNumber_3 X hr hnm, ⟨ob_X3_tokenNumber_4 X hr hnm, ⟨ob_X3_tokenNumber_5 X hr hnm, ⟨ob_X3_tokenNumber_6 X hr hnm, trivial⟩⟩⟩⟩⟩⟩⟩
theorem dX3_isNamed_0 : decode cX3_isNamed 0 = .ok (.aload_n 0, 1) := by decide +kernel
theorem dX3_isNamed_1 : decode cX3_isNamed 1 = .ok (.getfield 15, 3) := by decide +kernel
theorem dX3_isNamed_4 : decode cX3_isNamed 4 = .ok (.iconst 1, 1) := by decide +kernel
theorem dX3_isNamed_5 : decode cX3_isNamed 5 = .ok (.if_icmp .ne 19, 3) := by decide +kernel
theorem dX3_isNamed_8 : decode cX3_isNamed 8 = .ok (.aload_n 0, 1) := by decide +kernel
theorem dX3_isNamed_9 : decode cX3_isNamed 9 = .ok (.getfield 25, 3) := by decide +kernel
theorem dX3_isNamed_12 : decode cX3_isNamed 12 = .ok (.aload_n 0, 1) := by decide +kernel
theorem dX3_isNamed_13 : decode cX3_isNamed 13 = .ok (.getfield 106, 3) := by decide +kernel
theorem dX3_isNamed_16 : decode cX3_isNamed 16 = .ok (.isub, 1) := by decide +kernel
theorem dX3_isNamed_17 : decode cX3_isNamed 17 = .ok (.aload_n 1, 1) := by decide +kernel
theorem dX3_isNamed_18 : decode cX3_isNamed 18 = .ok (.invokevirtual 116, 3) := by decide +kernel
theorem dX3_isNamed_21 : decode cX3_isNamed 21 = .ok (.if_icmp .eq 5, 3) := by decide +kernel
theorem dX3_isNamed_24 : decode cX3_isNamed 24 = .ok (.iconst 0, 1) := by decide +kernel
theorem dX3_isNamed_25 : decode cX3_isNamed 25 = .ok (.ireturn, 1) := by decide +kernel
theorem dX3_isNamed_26 : decode cX3_isNamed 26 = .ok (.iconst 0, 1) := by decide +kernel
theorem dX3_isNamed_27 : decode cX3_isNamed 27 = .ok (.istore_n 2, 1) := by decide +kernel
theorem dX3_isNamed_28 : decode cX3_isNamed 28 = .ok (.iload_n 2, 1) := by decide +kernel
theorem dX3_isNamed_29 : decode cX3_isNamed 29 = .ok (.aload_n 1, 1) := by decide +kernel
theorem dX3_isNamed_30 : decode cX3_isNamed 30 = .ok (.invokevirtual 116, 3) := by decide +kernel
theorem dX3_isNamed_33 : decode cX3_isNamed 33 = .ok (.if_icmp .ge 30, 3) := by decide +kernel
theorem dX3_isNamed_36 : decode cX3_isNamed 36 = .ok (.aload_n 0, 1) := by decide +kernel
theorem dX3_isNamed_37 : decode cX3_isNamed 37 = .ok (.getfield 9, 3) := by decide +kernel
theorem dX3_isNamed_40 : decode cX3_isNamed 40 = .ok (.aload_n 0, 1) := by decide +kernel
theorem dX3_isNamed_41 : decode cX3_isNamed 41 = .ok (.getfield 106, 3) := by decide +kernel
theorem dX3_isNamed_44 : decode cX3_isNamed 44 = .ok (.iload_n 2, 1) := by decide +kernel
theorem dX3_isNamed_45 : decode cX3_isNamed 45 = .ok (.iadd, 1) := by decide +kernel
theorem dX3_isNamed_46 : decode cX3_isNamed 46 = .ok (.baload, 1) := by decide +kernel
theorem dX3_isNamed_47 : decode cX3_isNamed 47 = .ok (.aload_n 1, 1) := by decide +kernel
theorem dX3_isNamed_48 : decode cX3_isNamed 48 = .ok (.iload_n 2, 1) := by decide +kernel
theorem dX3_isNamed_49 : decode cX3_isNamed 49 = .ok (.invokevirtual 120, 3) := by decide +kernel
theorem dX3_isNamed_52 : decode cX3_isNamed 52 = .ok (.if_icmp .eq 5, 3) := by decide +kernel
theorem dX3_isNamed_55 : decode cX3_isNamed 55 = .ok (.iconst 0, 1) := by decide +kernel
theorem dX3_isNamed_56 : decode cX3_isNamed 56 = .ok (.ireturn, 1) := by decide +kernel
theorem dX3_isNamed_57 : decode cX3_isNamed 57 = .ok (.iinc 2 1, 3) := by decide +kernel
theorem dX3_isNamed_60 : decode cX3_isNamed 60 = .ok (.goto (-32), 3) := by decide +kernel
theorem dX3_isNamed_63 : decode cX3_isNamed 63 = .ok (.iconst 1, 1) := by decide +kernel
theorem dX3_isNamed_64 : decode cX3_isNamed 64 = .ok (.ireturn, 1) := by decide +kernel
def pc_X3_isNamed (i : Nat) : Nat := ([0, 8, 24, 26, 28, 36, 55, 57, 63] : List Nat).getD i 0
set_option maxRecDepth 20000 in
theorem ob_X3_isNamed_0 {x : ip_Cx} {G : ip_Gl} {d : Nat} (X : ip_X x G tb 3 d 0 0 RX3 cX3_isNamed) (hr : x.2.2.2.2.2.2.2.2.1.sig.returnType = (some .boolean)) (hnm : x.2.2.2.2.2.2.2.2.1.name = "isNamed") : ip_okB x G 3 pc_X3_isNamed 0 ([oLdA 0, oGet 3 2, oI (1)], tCm (fun a b => a = b) 1 2) := ⟨_, okC (ok_aldn X rfl dX3_isNamed_0)
  (okC (ok_get X (ci := 3) rfl (by decide) iw_X3 tw_151 dX3_isNamed_1)
  (okC (ok_ic X (by decide) dX3_isNamed_4)
  (okN))), ok_cmne X (by decide) rfl dX3_isNamed_5⟩
set_option maxRecDepth 20000 in
theorem ob_X3_isNamed_1 {x : ip_Cx} {G : ip_Gl} {d : Nat} (X : ip_X x G tb 3 d 0 0 RX3 cX3_isNamed) (hr : x.2.2.2.2.2.2.2.2.1.sig.returnType = (some .boolean)) (hnm : x.2.2.2.2.2.2.2.2.1.name = "isNamed") : ip_okB x G 3 pc_X3_isNamed 8 ([oLdA 0, oGet 3 4, oLdA 0, oGet 3 3, oBI (fun a b => a - b), oLdA 1, oCaV (ip_call tb d) 0 0 7 228 1 0 0], tCm (fun a b => a = b) 3 2) := ⟨_, okC (ok_aldn X rfl dX3_isNamed_8)
  (okC (ok_get X (ci := 3) rfl (by decide) iw_X3 tw_153 dX3_isNamed_9)
  (okC (ok_aldn X rfl dX3_isNamed_12)
  (okC (ok_get X (ci := 3) rfl (by decide) iw_X3 tw_152 dX3_isNamed_13)
  (okC (ok_isub X dX3_isNamed_16)
  (okC (ok_aldn X rfl dX3_isNamed_17)
  (okC (ok_calV X (i := 116) (e := en_228) rfl mt_228 rfl rfl rfl tw_278 tw_279 (Or.inr ⟨rfl, rfl⟩) tw_280 dX3_isNamed_18)
  (okN))))))), ok_cmeq X (by decide) rfl dX3_isNamed_21⟩
set_option maxRecDepth 20000 in
theorem ob_X3_isNamed_2 {x : ip_Cx} {G : ip_Gl} {d : Nat} (X : ip_X x G tb 3 d 0 0 RX3 cX3_isNamed) (hr : x.2.2.2.2.2.2.2.2.1.sig.returnType = (some .boolean)) (hnm : x.2.2.2.2.2.2.2.2.1.name = "isNamed") : ip_okB x G 3 pc_X3_isNamed 24 ([oI (0)], tRI .boolean 0 0) := ⟨_, okC (ok_ic X (by decide) dX3_isNamed_24)
  (okN), ok_ret X hr dX3_isNamed_25⟩
set_option maxRecDepth 20000 in
theorem ob_X3_isNamed_3 {x : ip_Cx} {G : ip_Gl} {d : Nat} (X : ip_X x G tb 3 d 0 0 RX3 cX3_isNamed) (hr : x.2.2.2.2.2.2.2.2.1.sig.returnType = (some .boolean)) (hnm : x.2.2.2.2.2.2.2.2.1.name = "isNamed") : ip_okB x G 3 pc_X3_isNamed 26 ([oI (0), oStI 2], tGo 4) := ⟨_, okC (ok_ic X (by decide) dX3_isNamed_26)
  (okC (ok_istn X rfl (by decide) dX3_isNamed_27)
  (okN)), ok_fall rfl⟩
set_option maxRecDepth 20000 in
theorem ob_X3_isNamed_4 {x : ip_Cx} {G : ip_Gl} {d : Nat} (X : ip_X x G tb 3 d 0 0 RX3 cX3_isNamed) (hr : x.2.2.2.2.2.2.2.2.1.sig.returnType = (some .boolean)) (hnm : x.2.2.2.2.2.2.2.2.1.name = "isNamed") : ip_okB x G 3 pc_X3_isNamed 28 ([oLdI 2, oLdA 1, oCaV (ip_call tb d) 0 0 7 228 1 0 0], tCm (fun a b => a < b) 5 8) := ⟨_, okC (ok_ildn X rfl dX3_isNamed_28)
  (okC (ok_aldn X rfl dX3_isNamed_29)
  (okC (ok_calV X (i := 116) (e := en_228) rfl mt_228 rfl rfl rfl tw_278 tw_279 (Or.inr ⟨rfl, rfl⟩) tw_280 dX3_isNamed_30)
  (okN))), ok_cmge X (by decide) rfl dX3_isNamed_33⟩
set_option maxRecDepth 20000 in
theorem ob_X3_isNamed_5 {x : ip_Cx} {G : ip_Gl} {d : Nat} (X : ip_X x G tb 3 d 0 0 RX3 cX3_isNamed) (hr : x.2.2.2.2.2.2.2.2.1.sig.returnType = (some .boolean)) (hnm : x.2.2.2.2.2.2.2.2.1.name = "isNamed") : ip_okB x G 3 pc_X3_isNamed 36 ([oLdA 0, oGet 3 0, oLdA 0, oGet 3 3, oLdI 2, oBI (fun a b => a + b), oAldB, oLdA 1, oLdI 2, oCaV (ip_call tb d) 0 0 7 229 2 0 0], tCm (fun a b => a = b) 7 6) := ⟨_, okC (ok_aldn X rfl dX3_isNamed_36)
  (okC (ok_get X (ci := 3) rfl (by decide) iw_X3 tw_148 dX3_isNamed_37)
  (okC (ok_aldn X rfl dX3_isNamed_40)
  (okC (ok_get X (ci := 3) rfl (by decide) iw_X3 tw_152 dX3_isNamed_41)
  (okC (ok_ildn X rfl dX3_isNamed_44)
  (okC (ok_iadd X dX3_isNamed_45)
  (okC (ok_bald X dX3_isNamed_46)
  (okC (ok_aldn X rfl dX3_isNamed_47)
  (okC (ok_ildn X rfl dX3_isNamed_48)
  (okC (ok_calV X (i := 120) (e := en_229) rfl mt_229 rfl rfl rfl tw_288 tw_289 (Or.inr ⟨rfl, rfl⟩) tw_290 dX3_isNamed_49)
  (okN)))))))))), ok_cmeq X (by decide) rfl dX3_isNamed_52⟩
set_option maxRecDepth 20000 in
theorem ob_X3_isNamed_6 {x : ip_Cx} {G : ip_Gl} {d : Nat} (X : ip_X x G tb 3 d 0 0 RX3 cX3_isNamed) (hr : x.2.2.2.2.2.2.2.2.1.sig.returnType = (some .boolean)) (hnm : x.2.2.2.2.2.2.2.2.1.name = "isNamed") : ip_okB x G 3 pc_X3_isNamed 55 ([oI (0)], tRI .boolean 0 0) := ⟨_, okC (ok_ic X (by decide) dX3_isNamed_55)
  (okN), ok_ret X hr dX3_isNamed_56⟩
set_option maxRecDepth 20000 in
theorem ob_X3_isNamed_7 {x : ip_Cx} {G : ip_Gl} {d : Nat} (X : ip_X x G tb 3 d 0 0 RX3 cX3_isNamed) (hr : x.2.2.2.2.2.2.2.2.1.sig.returnType = (some .boolean)) (hnm : x.2.2.2.2.2.2.2.2.1.name = "isNamed") : ip_okB x G 3 pc_X3_isNamed 57 ([oInc 2 (1)], tGo 4) := ⟨_, okC (ok_inc X (by decide) dX3_isNamed_57)
  (okN), ok_go X (by decide) dX3_isNamed_60⟩
set_option maxRecDepth 20000 in
theorem ob_X3_isNamed_8 {x : ip_Cx} {G : ip_Gl} {d : Nat} (X : ip_X x G tb 3 d 0 0 RX3 cX3_isNamed) (hr : x.2.2.2.2.2.2.2.2.1.sig.returnType = (some .boolean)) (hnm : x.2.2.2.2.2.2.2.2.1.name = "isNamed") : ip_okB x G 3 pc_X3_isNamed 63 ([oI (1)], tRI .boolean 0 0) := ⟨_, okC (ok_ic X (by decide) dX3_isNamed_63)
  (okN), ok_ret X hr dX3_isNamed_64⟩
theorem om_35 : ip_MOk tb en_35 pc_X3_isNamed := fun x G d X hr hnm => ⟨ob_X3_isNamed_0 X hr hnm, ⟨ob_X3_isNamed_1 X hr hnm, ⟨ob_X3_isNamed_2 X hr hnm, ⟨ob_X3_isNamed_3 X hr hnm, ⟨ob_X3_isNamed_4 X hr hnm, ⟨ob_X3_isNamed_5 X hr hnm, ⟨ob_X3_isNamed_6 X hr hnm, ⟨ob_X3_isNamed_7 X hr hnm, ⟨ob_X3_isNamed_8 X hr hnm, trivial⟩⟩⟩⟩⟩⟩⟩⟩⟩
theorem dX3_kindNamed_0 : decode cX3_kindNamed 0 = .ok (.aload_n 0, 1) := by decide +kernel
theorem dX3_kindNamed_1 : decode cX3_kindNamed 1 = .ok (.ldc 124, 2) := by decide +kernel
theorem dX3_kindNamed_3 : decode cX3_kindNamed 3 = .ok (.invokevirtual 67, 3) := by decide +kernel
theorem dX3_kindNamed_6 : decode cX3_kindNamed 6 = .ok (.ifCond .eq 7, 3) := by decide +kernel
theorem dX3_kindNamed_9 : decode cX3_kindNamed 9 = .ok (.iconst 0, 1) := by decide +kernel
theorem dX3_kindNamed_10 : decode cX3_kindNamed 10 = .ok (.goto 69, 3) := by decide +kernel
theorem dX3_kindNamed_13 : decode cX3_kindNamed 13 = .ok (.aload_n 0, 1) := by decide +kernel
theorem dX3_kindNamed_14 : decode cX3_kindNamed 14 = .ok (.ldc 126, 2) := by decide +kernel
theorem dX3_kindNamed_16 : decode cX3_kindNamed 16 = .ok (.invokevirtual 67, 3) := by decide +kernel
theorem dX3_kindNamed_19 : decode cX3_kindNamed 19 = .ok (.ifCond .eq 7, 3) := by decide +kernel
theorem dX3_kindNamed_22 : decode cX3_kindNamed 22 = .ok (.iconst 1, 1) := by decide +kernel
theorem dX3_kindNamed_23 : decode cX3_kindNamed 23 = .ok (.goto 56, 3) := by decide +kernel
theorem dX3_kindNamed_26 : decode cX3_kindNamed 26 = .ok (.aload_n 0, 1) := by decide +kernel
theorem dX3_kindNamed_27 : decode cX3_kindNamed 27 = .ok (.ldc 128, 2) := by decide +kernel
theorem dX3_kindNamed_29 : decode cX3_kindNamed 29 = .ok (.invokevirtual 67, 3) := by decide +kernel
theorem dX3_kindNamed_32 : decode cX3_kindNamed 32 = .ok (.ifCond .eq 7, 3) := by decide +kernel
theorem dX3_kindNamed_35 : decode cX3_kindNamed 35 = .ok (.iconst 2, 1) := by decide +kernel
theorem dX3_kindNamed_36 : decode cX3_kindNamed 36 = .ok (.goto 43, 3) := by decide +kernel
theorem dX3_kindNamed_39 : decode cX3_kindNamed 39 = .ok (.aload_n 0, 1) := by decide +kernel
theorem dX3_kindNamed_40 : decode cX3_kindNamed 40 = .ok (.ldc 130, 2) := by decide +kernel
theorem dX3_kindNamed_42 : decode cX3_kindNamed 42 = .ok (.invokevirtual 67, 3) := by decide +kernel
theorem dX3_kindNamed_45 : decode cX3_kindNamed 45 = .ok (.ifCond .eq 7, 3) := by decide +kernel
theorem dX3_kindNamed_48 : decode cX3_kindNamed 48 = .ok (.iconst 3, 1) := by decide +kernel
theorem dX3_kindNamed_49 : decode cX3_kindNamed 49 = .ok (.goto 30, 3) := by decide +kernel
theorem dX3_kindNamed_52 : decode cX3_kindNamed 52 = .ok (.aload_n 0, 1) := by decide +kernel
theorem dX3_kindNamed_53 : decode cX3_kindNamed 53 = .ok (.ldc 132, 2) := by decide +kernel
theorem dX3_kindNamed_55 : decode cX3_kindNamed 55 = .ok (.invokevirtual 67, 3) := by decide +kernel
theorem dX3_kindNamed_58 : decode cX3_kindNamed 58 = .ok (.ifCond .eq 7, 3) := by decide +kernel
theorem dX3_kindNamed_61 : decode cX3_kindNamed 61 = .ok (.iconst 4, 1) := by decide +kernel
theorem dX3_kindNamed_62 : decode cX3_kindNamed 62 = .ok (.goto 17, 3) := by decide +kernel
theorem dX3_kindNamed_65 : decode cX3_kindNamed 65 = .ok (.aload_n 0, 1) := by decide +kernel
theorem dX3_kindNamed_66 : decode cX3_kindNamed 66 = .ok (.ldc 134, 2) := by decide +kernel
theorem dX3_kindNamed_68 : decode cX3_kindNamed 68 = .ok (.invokevirtual 67, 3) := by decide +kernel
theorem dX3_kindNamed_71 : decode cX3_kindNamed 71 = .ok (.ifCond .eq 7, 3) := by decide +kernel
theorem dX3_kindNamed_74 : decode cX3_kindNamed 74 = .ok (.iconst 5, 1) := by decide +kernel
theorem dX3_kindNamed_75 : decode cX3_kindNamed 75 = .ok (.goto 4, 3) := by decide +kernel
theorem dX3_kindNamed_78 : decode cX3_kindNamed 78 = .ok (.iconst (-1), 1) := by decide +kernel
theorem dX3_kindNamed_79 : decode cX3_kindNamed 79 = .ok (.ireturn, 1) := by decide +kernel
def pc_X3_kindNamed (i : Nat) : Nat := ([0, 9, 13, 22, 26, 35, 39, 48, 52, 61, 65, 74, 78, 79] : List Nat).getD i 0
set_option maxRecDepth 20000 in
theorem ob_X3_kindNamed_0 {x : ip_Cx} {G : ip_Gl} {d : Nat} (X : ip_X x G tb 1 d 0 0 RX3 cX3_kindNamed) (hr : x.2.2.2.2.2.2.2.2.1.sig.returnType = (some .int)) (hnm : x.2.2.2.2.2.2.2.2.1.name = "kindNamed") : ip_okB x G 1 pc_X3_kindNamed 0 ([oLdA 0, oRef 5, oCaV (ip_call tb d) 0 0 3 35 2 0 0], tIf (fun a => a = 0) 2 1) := ⟨_, okC (ok_aldn X rfl dX3_kindNamed_0)
  (okC (ok_str X (tx := "walker") rfl (by decide) (by decide +kernel) dX3_kindNamed_1)
  (okC (ok_calV X (i := 67) (e := en_35) rfl mt_35 rfl rfl rfl tw_274 tw_275 (Or.inl ⟨_, _, rfl⟩) tw_276 dX3_kindNamed_3)
  (okN))), ok_ifeq X (by decide) rfl dX3_kindNamed_6⟩
set_option maxRecDepth 20000 in
theorem ob_X3_kindNamed_1 {x : ip_Cx} {G : ip_Gl} {d : Nat} (X : ip_X x G tb 1 d 0 0 RX3 cX3_kindNamed) (hr : x.2.2.2.2.2.2.2.2.1.sig.returnType = (some .int)) (hnm : x.2.2.2.2.2.2.2.2.1.name = "kindNamed") : ip_okB x G 1 pc_X3_kindNamed 9 ([oI (0)], tGo 13) := ⟨_, okC (ok_ic X (by decide) dX3_kindNamed_9)
  (okN), ok_go X (by decide) dX3_kindNamed_10⟩
set_option maxRecDepth 20000 in
theorem ob_X3_kindNamed_2 {x : ip_Cx} {G : ip_Gl} {d : Nat} (X : ip_X x G tb 1 d 0 0 RX3 cX3_kindNamed) (hr : x.2.2.2.2.2.2.2.2.1.sig.returnType = (some .int)) (hnm : x.2.2.2.2.2.2.2.2.1.name = "kindNamed") : ip_okB x G 1 pc_X3_kindNamed 13 ([oLdA 0, oRef 6, oCaV (ip_call tb d) 0 0 3 35 2 0 0], tIf (fun a => a = 0) 4 3) := ⟨_, okC (ok_aldn X rfl dX3_kindNamed_13)
  (okC (ok_str X (tx := "clown") rfl (by decide) (by decide +kernel) dX3_kindNamed_14)
  (okC (ok_calV X (i := 67) (e := en_35) rfl mt_35 rfl rfl rfl tw_274 tw_275 (Or.inl ⟨_, _, rfl⟩) tw_276 dX3_kindNamed_16)
  (okN))), ok_ifeq X (by decide) rfl dX3_kindNamed_19⟩
set_option maxRecDepth 20000 in
theorem ob_X3_kindNamed_3 {x : ip_Cx} {G : ip_Gl} {d : Nat} (X : ip_X x G tb 1 d 0 0 RX3 cX3_kindNamed) (hr : x.2.2.2.2.2.2.2.2.1.sig.returnType = (some .int)) (hnm : x.2.2.2.2.2.2.2.2.1.name = "kindNamed") : ip_okB x G 1 pc_X3_kindNamed 22 ([oI (1)], tGo 13) := ⟨_, okC (ok_ic X (by decide) dX3_kindNamed_22)
  (okN), ok_go X (by decide) dX3_kindNamed_23⟩
set_option maxRecDepth 20000 in
theorem ob_X3_kindNamed_4 {x : ip_Cx} {G : ip_Gl} {d : Nat} (X : ip_X x G tb 1 d 0 0 RX3 cX3_kindNamed) (hr : x.2.2.2.2.2.2.2.2.1.sig.returnType = (some .int)) (hnm : x.2.2.2.2.2.2.2.2.1.name = "kindNamed") : ip_okB x G 1 pc_X3_kindNamed 26 ([oLdA 0, oRef 7, oCaV (ip_call tb d) 0 0 3 35 2 0 0], tIf (fun a => a = 0) 6 5) := ⟨_, okC (ok_aldn X rfl dX3_kindNamed_26)
  (okC (ok_str X (tx := "child") rfl (by decide) (by decide +kernel) dX3_kindNamed_27)
  (okC (ok_calV X (i := 67) (e := en_35) rfl mt_35 rfl rfl rfl tw_274 tw_275 (Or.inl ⟨_, _, rfl⟩) tw_276 dX3_kindNamed_29)
  (okN))), ok_ifeq X (by decide) rfl dX3_kindNamed_32⟩
set_option maxRecDepth 20000 in
theorem ob_X3_kindNamed_5 {x : ip_Cx} {G : ip_Gl} {d : Nat} (X : ip_X x G tb 1 d 0 0 RX3 cX3_kindNamed) (hr : x.2.2.2.2.2.2.2.2.1.sig.returnType = (some .int)) (hnm : x.2.2.2.2.2.2.2.2.1.name = "kindNamed") : ip_okB x G 1 pc_X3_kindNamed 35 ([oI (2)], tGo 13) := ⟨_, okC (ok_ic X (by decide) dX3_kindNamed_35)
  (okN), ok_go X (by decide) dX3_kindNamed_36⟩
set_option maxRecDepth 20000 in
theorem ob_X3_kindNamed_6 {x : ip_Cx} {G : ip_Gl} {d : Nat} (X : ip_X x G tb 1 d 0 0 RX3 cX3_kindNamed) (hr : x.2.2.2.2.2.2.2.2.1.sig.returnType = (some .int)) (hnm : x.2.2.2.2.2.2.2.2.1.name = "kindNamed") : ip_okB x G 1 pc_X3_kindNamed 39 ([oLdA 0, oRef 8, oCaV (ip_call tb d) 0 0 3 35 2 0 0], tIf (fun a => a = 0) 8 7) := ⟨_, okC (ok_aldn X rfl dX3_kindNamed_39)
  (okC (ok_str X (tx := "jester") rfl (by decide) (by decide +kernel) dX3_kindNamed_40)
  (okC (ok_calV X (i := 67) (e := en_35) rfl mt_35 rfl rfl rfl tw_274 tw_275 (Or.inl ⟨_, _, rfl⟩) tw_276 dX3_kindNamed_42)
  (okN))), ok_ifeq X (by decide) rfl dX3_kindNamed_45⟩
set_option maxRecDepth 20000 in
theorem ob_X3_kindNamed_7 {x : ip_Cx} {G : ip_Gl} {d : Nat} (X : ip_X x G tb 1 d 0 0 RX3 cX3_kindNamed) (hr : x.2.2.2.2.2.2.2.2.1.sig.returnType = (some .int)) (hnm : x.2.2.2.2.2.2.2.2.1.name = "kindNamed") : ip_okB x G 1 pc_X3_kindNamed 48 ([oI (3)], tGo 13) := ⟨_, okC (ok_ic X (by decide) dX3_kindNamed_48)
  (okN), ok_go X (by decide) dX3_kindNamed_49⟩
set_option maxRecDepth 20000 in
theorem ob_X3_kindNamed_8 {x : ip_Cx} {G : ip_Gl} {d : Nat} (X : ip_X x G tb 1 d 0 0 RX3 cX3_kindNamed) (hr : x.2.2.2.2.2.2.2.2.1.sig.returnType = (some .int)) (hnm : x.2.2.2.2.2.2.2.2.1.name = "kindNamed") : ip_okB x G 1 pc_X3_kindNamed 52 ([oLdA 0, oRef 9, oCaV (ip_call tb d) 0 0 3 35 2 0 0], tIf (fun a => a = 0) 10 9) := ⟨_, okC (ok_aldn X rfl dX3_kindNamed_52)
  (okC (ok_str X (tx := "saint") rfl (by decide) (by decide +kernel) dX3_kindNamed_53)
  (okC (ok_calV X (i := 67) (e := en_35) rfl mt_35 rfl rfl rfl tw_274 tw_275 (Or.inl ⟨_, _, rfl⟩) tw_276 dX3_kindNamed_55)
  (okN))), ok_ifeq X (by decide) rfl dX3_kindNamed_58⟩
set_option maxRecDepth 20000 in
theorem ob_X3_kindNamed_9 {x : ip_Cx} {G : ip_Gl} {d : Nat} (X : ip_X x G tb 1 d 0 0 RX3 cX3_kindNamed) (hr : x.2.2.2.2.2.2.2.2.1.sig.returnType = (some .int)) (hnm : x.2.2.2.2.2.2.2.2.1.name = "kindNamed") : ip_okB x G 1 pc_X3_kindNamed 61 ([oI (4)], tGo 13) := ⟨_, okC (ok_ic X (by decide) dX3_kindNamed_61)
  (okN), ok_go X (by decide) dX3_kindNamed_62⟩
set_option maxRecDepth 20000 in
theorem ob_X3_kindNamed_10 {x : ip_Cx} {G : ip_Gl} {d : Nat} (X : ip_X x G tb 1 d 0 0 RX3 cX3_kindNamed) (hr : x.2.2.2.2.2.2.2.2.1.sig.returnType = (some .int)) (hnm : x.2.2.2.2.2.2.2.2.1.name = "kindNamed") : ip_okB x G 1 pc_X3_kindNamed 65 ([oLdA 0, oRef 10, oCaV (ip_call tb d) 0 0 3 35 2 0 0], tIf (fun a => a = 0) 12 11) := ⟨_, okC (ok_aldn X rfl dX3_kindNamed_65)
  (okC (ok_str X (tx := "thinker") rfl (by decide) (by decide +kernel) dX3_kindNamed_66)
  (okC (ok_calV X (i := 67) (e := en_35) rfl mt_35 rfl rfl rfl tw_274 tw_275 (Or.inl ⟨_, _, rfl⟩) tw_276 dX3_kindNamed_68)
  (okN))), ok_ifeq X (by decide) rfl dX3_kindNamed_71⟩
set_option maxRecDepth 20000 in
theorem ob_X3_kindNamed_11 {x : ip_Cx} {G : ip_Gl} {d : Nat} (X : ip_X x G tb 1 d 0 0 RX3 cX3_kindNamed) (hr : x.2.2.2.2.2.2.2.2.1.sig.returnType = (some .int)) (hnm : x.2.2.2.2.2.2.2.2.1.name = "kindNamed") : ip_okB x G 1 pc_X3_kindNamed 74 ([oI (5)], tGo 13) := ⟨_, okC (ok_ic X (by decide) dX3_kindNamed_74)
  (okN), ok_go X (by decide) dX3_kindNamed_75⟩
set_option maxRecDepth 20000 in
theorem ob_X3_kindNamed_12 {x : ip_Cx} {G : ip_Gl} {d : Nat} (X : ip_X x G tb 1 d 0 0 RX3 cX3_kindNamed) (hr : x.2.2.2.2.2.2.2.2.1.sig.returnType = (some .int)) (hnm : x.2.2.2.2.2.2.2.2.1.name = "kindNamed") : ip_okB x G 1 pc_X3_kindNamed 78 ([oI (-1)], tGo 13) := ⟨_, okC (ok_ic X (by decide) dX3_kindNamed_78)
  (okN), ok_fall rfl⟩
set_option maxRecDepth 20000 in
theorem ob_X3_kindNamed_13 {x : ip_Cx} {G : ip_Gl} {d : Nat} (X : ip_X x G tb 1 d 0 0 RX3 cX3_kindNamed) (hr : x.2.2.2.2.2.2.2.2.1.sig.returnType = (some .int)) (hnm : x.2.2.2.2.2.2.2.2.1.name = "kindNamed") : ip_okB x G 1 pc_X3_kindNamed 79 ([], tRI .int 0 0) := ⟨_, okN, ok_ret X hr dX3_kindNamed_79⟩
theorem om_36 : ip_MOk tb en_36 pc_X3_kindNamed := fun x G d X hr hnm => ⟨ob_X3_kindNamed_0 X hr hnm, ⟨ob_X3_kindNamed_1 X hr hnm, ⟨ob_X3_kindNamed_2 X hr hnm, ⟨ob_X3_kindNamed_3 X hr hnm, ⟨ob_X3_kindNamed_4 X hr hnm, ⟨ob_X3_kindNamed_5 X hr hnm, ⟨ob_X3_kindNamed_6 X hr hnm, ⟨ob_X3_kindNamed_7 X hr hnm, ⟨ob_X3_kindNamed_8 X hr hnm, ⟨ob_X3_kindNamed_9 X hr hnm, ⟨ob_X3_kindNamed_10 X hr hnm, ⟨ob_X3_kindNamed_11 X hr hnm, ⟨ob_X3_kindNamed_12 X hr hnm, ⟨ob_X3_kindNamed_13 X hr hnm, trivial⟩⟩⟩⟩⟩⟩⟩⟩⟩⟩⟩⟩⟩⟩
theorem dX3_lawNamed_0 : decode cX3_lawNamed 0 = .ok (.aload_n 0, 1) := by decide +kernel
theorem dX3_lawNamed_1 : decode cX3_lawNamed 1 = .ok (.ldc 136, 2) := by decide +kernel
theorem dX3_lawNamed_3 : decode cX3_lawNamed 3 = .ok (.invokevirtual 67, 3) := by decide +kernel
theorem dX3_lawNamed_6 : decode cX3_lawNamed 6 = .ok (.ifCond .eq 7, 3) := by decide +kernel
theorem dX3_lawNamed_9 : decode cX3_lawNamed 9 = .ok (.iconst 0, 1) := by decide +kernel
theorem dX3_lawNamed_10 : decode cX3_lawNamed 10 = .ok (.goto 43, 3) := by decide +kernel
theorem dX3_lawNamed_13 : decode cX3_lawNamed 13 = .ok (.aload_n 0, 1) := by decide +kernel
theorem dX3_lawNamed_14 : decode cX3_lawNamed 14 = .ok (.ldc 138, 2) := by decide +kernel
theorem dX3_lawNamed_16 : decode cX3_lawNamed 16 = .ok (.invokevirtual 67, 3) := by decide +kernel
theorem dX3_lawNamed_19 : decode cX3_lawNamed 19 = .ok (.ifCond .eq 7, 3) := by decide +kernel
theorem dX3_lawNamed_22 : decode cX3_lawNamed 22 = .ok (.iconst 1, 1) := by decide +kernel
theorem dX3_lawNamed_23 : decode cX3_lawNamed 23 = .ok (.goto 30, 3) := by decide +kernel
theorem dX3_lawNamed_26 : decode cX3_lawNamed 26 = .ok (.aload_n 0, 1) := by decide +kernel
theorem dX3_lawNamed_27 : decode cX3_lawNamed 27 = .ok (.ldc 140, 2) := by decide +kernel
theorem dX3_lawNamed_29 : decode cX3_lawNamed 29 = .ok (.invokevirtual 67, 3) := by decide +kernel
theorem dX3_lawNamed_32 : decode cX3_lawNamed 32 = .ok (.ifCond .eq 7, 3) := by decide +kernel
theorem dX3_lawNamed_35 : decode cX3_lawNamed 35 = .ok (.iconst 2, 1) := by decide +kernel
theorem dX3_lawNamed_36 : decode cX3_lawNamed 36 = .ok (.goto 17, 3) := by decide +kernel
theorem dX3_lawNamed_39 : decode cX3_lawNamed 39 = .ok (.aload_n 0, 1) := by decide +kernel
theorem dX3_lawNamed_40 : decode cX3_lawNamed 40 = .ok (.ldc 142, 2) := by decide +kernel
theorem dX3_lawNamed_42 : decode cX3_lawNamed 42 = .ok (.invokevirtual 67, 3) := by decide +kernel
theorem dX3_lawNamed_45 : decode cX3_lawNamed 45 = .ok (.ifCond .eq 7, 3) := by decide +kernel
theorem dX3_lawNamed_48 : decode cX3_lawNamed 48 = .ok (.iconst 3, 1) := by decide +kernel
theorem dX3_lawNamed_49 : decode cX3_lawNamed 49 = .ok (.goto 4, 3) := by decide +kernel
theorem dX3_lawNamed_52 : decode cX3_lawNamed 52 = .ok (.iconst (-1), 1) := by decide +kernel
theorem dX3_lawNamed_53 : decode cX3_lawNamed 53 = .ok (.ireturn, 1) := by decide +kernel
def pc_X3_lawNamed (i : Nat) : Nat := ([0, 9, 13, 22, 26, 35, 39, 48, 52, 53] : List Nat).getD i 0
set_option maxRecDepth 20000 in
theorem ob_X3_lawNamed_0 {x : ip_Cx} {G : ip_Gl} {d : Nat} (X : ip_X x G tb 1 d 0 0 RX3 cX3_lawNamed) (hr : x.2.2.2.2.2.2.2.2.1.sig.returnType = (some .int)) (hnm : x.2.2.2.2.2.2.2.2.1.name = "lawNamed") : ip_okB x G 1 pc_X3_lawNamed 0 ([oLdA 0, oRef 11, oCaV (ip_call tb d) 0 0 3 35 2 0 0], tIf (fun a => a = 0) 2 1) := ⟨_, okC (ok_aldn X rfl dX3_lawNamed_0)
  (okC (ok_str X (tx := "plank") rfl (by decide) (by decide +kernel) dX3_lawNamed_1)
  (okC (ok_calV X (i := 67) (e := en_35) rfl mt_35 rfl rfl rfl tw_274 tw_275 (Or.inl ⟨_, _, rfl⟩) tw_276 dX3_lawNamed_3)
  (okN))), ok_ifeq X (by decide) rfl dX3_lawNamed_6⟩
set_option maxRecDepth 20000 in
theorem ob_X3_lawNamed_1 {x : ip_Cx} {G : ip_Gl} {d : Nat} (X : ip_X x G tb 1 d 0 0 RX3 cX3_lawNamed) (hr : x.2.2.2.2.2.2.2.2.1.sig.returnType = (some .int)) (hnm : x.2.2.2.2.2.2.2.2.1.name = "lawNamed") : ip_okB x G 1 pc_X3_lawNamed 9 ([oI (0)], tGo 9) := ⟨_, okC (ok_ic X (by decide) dX3_lawNamed_9)
  (okN), ok_go X (by decide) dX3_lawNamed_10⟩
set_option maxRecDepth 20000 in
theorem ob_X3_lawNamed_2 {x : ip_Cx} {G : ip_Gl} {d : Nat} (X : ip_X x G tb 1 d 0 0 RX3 cX3_lawNamed) (hr : x.2.2.2.2.2.2.2.2.1.sig.returnType = (some .int)) (hnm : x.2.2.2.2.2.2.2.2.1.name = "lawNamed") : ip_okB x G 1 pc_X3_lawNamed 13 ([oLdA 0, oRef 12, oCaV (ip_call tb d) 0 0 3 35 2 0 0], tIf (fun a => a = 0) 4 3) := ⟨_, okC (ok_aldn X rfl dX3_lawNamed_13)
  (okC (ok_str X (tx := "but") rfl (by decide) (by decide +kernel) dX3_lawNamed_14)
  (okC (ok_calV X (i := 67) (e := en_35) rfl mt_35 rfl rfl rfl tw_274 tw_275 (Or.inl ⟨_, _, rfl⟩) tw_276 dX3_lawNamed_16)
  (okN))), ok_ifeq X (by decide) rfl dX3_lawNamed_19⟩
set_option maxRecDepth 20000 in
theorem ob_X3_lawNamed_3 {x : ip_Cx} {G : ip_Gl} {d : Nat} (X : ip_X x G tb 1 d 0 0 RX3 cX3_lawNamed) (hr : x.2.2.2.2.2.2.2.2.1.sig.returnType = (some .int)) (hnm : x.2.2.2.2.2.2.2.2.1.name = "lawNamed") : ip_okB x G 1 pc_X3_lawNamed 22 ([oI (1)], tGo 9) := ⟨_, okC (ok_ic X (by decide) dX3_lawNamed_22)
  (okN), ok_go X (by decide) dX3_lawNamed_23⟩
set_option maxRecDepth 20000 in
theorem ob_X3_lawNamed_4 {x : ip_Cx} {G : ip_Gl} {d : Nat} (X : ip_X x G tb 1 d 0 0 RX3 cX3_lawNamed) (hr : x.2.2.2.2.2.2.2.2.1.sig.returnType = (some .int)) (hnm : x.2.2.2.2.2.2.2.2.1.name = "lawNamed") : ip_okB x G 1 pc_X3_lawNamed 26 ([oLdA 0, oRef 13, oCaV (ip_call tb d) 0 0 3 35 2 0 0], tIf (fun a => a = 0) 6 5) := ⟨_, okC (ok_aldn X rfl dX3_lawNamed_26)
  (okC (ok_str X (tx := "wit") rfl (by decide) (by decide +kernel) dX3_lawNamed_27)
  (okC (ok_calV X (i := 67) (e := en_35) rfl mt_35 rfl rfl rfl tw_274 tw_275 (Or.inl ⟨_, _, rfl⟩) tw_276 dX3_lawNamed_29)
  (okN))), ok_ifeq X (by decide) rfl dX3_lawNamed_32⟩
set_option maxRecDepth 20000 in
theorem ob_X3_lawNamed_5 {x : ip_Cx} {G : ip_Gl} {d : Nat} (X : ip_X x G tb 1 d 0 0 RX3 cX3_lawNamed) (hr : x.2.2.2.2.2.2.2.2.1.sig.returnType = (some .int)) (hnm : x.2.2.2.2.2.2.2.2.1.name = "lawNamed") : ip_okB x G 1 pc_X3_lawNamed 35 ([oI (2)], tGo 9) := ⟨_, okC (ok_ic X (by decide) dX3_lawNamed_35)
  (okN), ok_go X (by decide) dX3_lawNamed_36⟩
set_option maxRecDepth 20000 in
theorem ob_X3_lawNamed_6 {x : ip_Cx} {G : ip_Gl} {d : Nat} (X : ip_X x G tb 1 d 0 0 RX3 cX3_lawNamed) (hr : x.2.2.2.2.2.2.2.2.1.sig.returnType = (some .int)) (hnm : x.2.2.2.2.2.2.2.2.1.name = "lawNamed") : ip_okB x G 1 pc_X3_lawNamed 39 ([oLdA 0, oRef 14, oCaV (ip_call tb d) 0 0 3 35 2 0 0], tIf (fun a => a = 0) 8 7) := ⟨_, okC (ok_aldn X rfl dX3_lawNamed_39)
  (okC (ok_str X (tx := "doubt") rfl (by decide) (by decide +kernel) dX3_lawNamed_40)
  (okC (ok_calV X (i := 67) (e := en_35) rfl mt_35 rfl rfl rfl tw_274 tw_275 (Or.inl ⟨_, _, rfl⟩) tw_276 dX3_lawNamed_42)
  (okN))), ok_ifeq X (by decide) rfl dX3_lawNamed_45⟩
set_option maxRecDepth 20000 in
theorem ob_X3_lawNamed_7 {x : ip_Cx} {G : ip_Gl} {d : Nat} (X : ip_X x G tb 1 d 0 0 RX3 cX3_lawNamed) (hr : x.2.2.2.2.2.2.2.2.1.sig.returnType = (some .int)) (hnm : x.2.2.2.2.2.2.2.2.1.name = "lawNamed") : ip_okB x G 1 pc_X3_lawNamed 48 ([oI (3)], tGo 9) := ⟨_, okC (ok_ic X (by decide) dX3_lawNamed_48)
  (okN), ok_go X (by decide) dX3_lawNamed_49⟩
set_option maxRecDepth 20000 in
theorem ob_X3_lawNamed_8 {x : ip_Cx} {G : ip_Gl} {d : Nat} (X : ip_X x G tb 1 d 0 0 RX3 cX3_lawNamed) (hr : x.2.2.2.2.2.2.2.2.1.sig.returnType = (some .int)) (hnm : x.2.2.2.2.2.2.2.2.1.name = "lawNamed") : ip_okB x G 1 pc_X3_lawNamed 52 ([oI (-1)], tGo 9) := ⟨_, okC (ok_ic X (by decide) dX3_lawNamed_52)
  (okN), ok_fall rfl⟩
set_option maxRecDepth 20000 in
theorem ob_X3_lawNamed_9 {x : ip_Cx} {G : ip_Gl} {d : Nat} (X : ip_X x G tb 1 d 0 0 RX3 cX3_lawNamed) (hr : x.2.2.2.2.2.2.2.2.1.sig.returnType = (some .int)) (hnm : x.2.2.2.2.2.2.2.2.1.name = "lawNamed") : ip_okB x G 1 pc_X3_lawNamed 53 ([], tRI .int 0 0) := ⟨_, okN, ok_ret X hr dX3_lawNamed_53⟩
theorem om_37 : ip_MOk tb en_37 pc_X3_lawNamed := fun x G d X hr hnm => ⟨ob_X3_lawNamed_0 X hr hnm, ⟨ob_X3_lawNamed_1 X hr hnm, ⟨ob_X3_lawNamed_2 X hr hnm, ⟨ob_X3_lawNamed_3 X hr hnm, ⟨ob_X3_lawNamed_4 X hr hnm, ⟨ob_X3_lawNamed_5 X hr hnm, ⟨ob_X3_lawNamed_6 X hr hnm, ⟨ob_X3_lawNamed_7 X hr hnm, ⟨ob_X3_lawNamed_8 X hr hnm, ⟨ob_X3_lawNamed_9 X hr hnm, trivial⟩⟩⟩⟩⟩⟩⟩⟩⟩⟩
theorem dX4_init_0 : decode cX4_init 0 = .ok (.aload_n 0, 1) := by decide +kernel
theorem dX4_init_1 : decode cX4_init 1 = .ok (.invokespecial 3, 3) := by decide +kernel
theorem dX4_init_4 : decode cX4_init 4 = .ok (.return_, 1) := by decide +kernel
def pc_X4_init (i : Nat) : Nat := ([0] : List Nat).getD i 0
set_option maxRecDepth 20000 in
theorem ob_X4_init_0 {x : ip_Cx} {G : ip_Gl} {d : Nat} (X : ip_X x G tb 1 d 0 0 RX4 cX4_init) (hr : x.2.2.2.2.2.2.2.2.1.sig.returnType = none) (hnm : x.2.2.2.2.2.2.2.2.1.name = "<init>") : ip_okB x G 1 pc_X4_init 0 ([oLdA 0, oObj], tRV 0 0) := ⟨_, okC (ok_aldn X rfl dX4_init_0)
  (okC (ok_obj X tw_102 tw_21 tw_22 dX4_init_1)
  (okN)), ok_vret X hr dX4_init_4⟩
theorem om_38 : ip_MOk tb en_38 pc_X4_init := fun x G d X hr hnm => ⟨ob_X4_init_0 X hr hnm, trivial⟩
theorem dX4_begin_0 : decode cX4_begin 0 = .ok (.aload_n 0, 1) := by decide +kernel
theorem dX4_begin_1 : decode cX4_begin 1 = .ok (.aload_n 1, 1) := by decide +kernel
theorem dX4_begin_2 : decode cX4_begin 2 = .ok (.getfield 9, 3) := by decide +kernel
theorem dX4_begin_5 : decode cX4_begin 5 = .ok (.iconst 0, 1) := by decide +kernel
theorem dX4_begin_6 : decode cX4_begin 6 = .ok (.iaload, 1) := by decide +kernel
theorem dX4_begin_7 : decode cX4_begin 7 = .ok (.putfield 15, 3) := by decide +kernel
theorem dX4_begin_10 : decode cX4_begin 10 = .ok (.aload_n 0, 1) := by decide +kernel
theorem dX4_begin_11 : decode cX4_begin 11 = .ok (.aload_n 1, 1) := by decide +kernel
theorem dX4_begin_12 : decode cX4_begin 12 = .ok (.getfield 9, 3) := by decide +kernel
theorem dX4_begin_15 : decode cX4_begin 15 = .ok (.iconst 1, 1) := by decide +kernel
theorem dX4_begin_16 : decode cX4_begin 16 = .ok (.iaload, 1) := by decide +kernel
theorem dX4_begin_17 : decode cX4_begin 17 = .ok (.putfield 21, 3) := by decide +kernel
theorem dX4_begin_20 : decode cX4_begin 20 = .ok (.aload_n 0, 1) := by decide +kernel
theorem dX4_begin_21 : decode cX4_begin 21 = .ok (.aload_n 1, 1) := by decide +kernel
theorem dX4_begin_22 : decode cX4_begin 22 = .ok (.getfield 9, 3) := by decide +kernel
theorem dX4_begin_25 : decode cX4_begin 25 = .ok (.iconst 2, 1) := by decide +kernel
theorem dX4_begin_26 : decode cX4_begin 26 = .ok (.iaload, 1) := by decide +kernel
theorem dX4_begin_27 : decode cX4_begin 27 = .ok (.putfield 24, 3) := by decide +kernel
theorem dX4_begin_30 : decode cX4_begin 30 = .ok (.aload_n 0, 1) := by decide +kernel
theorem dX4_begin_31 : decode cX4_begin 31 = .ok (.aload_n 1, 1) := by decide +kernel
theorem dX4_begin_32 : decode cX4_begin 32 = .ok (.getfield 27, 3) := by decide +kernel
theorem dX4_begin_35 : decode cX4_begin 35 = .ok (.putfield 30, 3) := by decide +kernel
theorem dX4_begin_38 : decode cX4_begin 38 = .ok (.aload_n 0, 1) := by decide +kernel
theorem dX4_begin_39 : decode cX4_begin 39 = .ok (.aload_n 1, 1) := by decide +kernel
theorem dX4_begin_40 : decode cX4_begin 40 = .ok (.getfield 31, 3) := by decide +kernel
theorem dX4_begin_43 : decode cX4_begin 43 = .ok (.iload_n 2, 1) := by decide +kernel
theorem dX4_begin_44 : decode cX4_begin 44 = .ok (.iaload, 1) := by decide +kernel
theorem dX4_begin_45 : decode cX4_begin 45 = .ok (.putfield 34, 3) := by decide +kernel
theorem dX4_begin_48 : decode cX4_begin 48 = .ok (.aload_n 0, 1) := by decide +kernel
theorem dX4_begin_49 : decode cX4_begin 49 = .ok (.aload_n 1, 1) := by decide +kernel
theorem dX4_begin_50 : decode cX4_begin 50 = .ok (.getfield 36, 3) := by decide +kernel
theorem dX4_begin_53 : decode cX4_begin 53 = .ok (.iload_n 2, 1) := by decide +kernel
theorem dX4_begin_54 : decode cX4_begin 54 = .ok (.iaload, 1) := by decide +kernel
theorem dX4_begin_55 : decode cX4_begin 55 = .ok (.putfield 39, 3) := by decide +kernel
theorem dX4_begin_58 : decode cX4_begin 58 = .ok (.aload_n 0, 1) := by decide +kernel
theorem dX4_begin_59 : decode cX4_begin 59 = .ok (.aload_n 1, 1) := by decide +kernel
theorem dX4_begin_60 : decode cX4_begin 60 = .ok (.getfield 41, 3) := by decide +kernel
theorem dX4_begin_63 : decode cX4_begin 63 = .ok (.iload_n 2, 1) := by decide +kernel
theorem dX4_begin_64 : decode cX4_begin 64 = .ok (.iaload, 1) := by decide +kernel
theorem dX4_begin_65 : decode cX4_begin 65 = .ok (.putfield 44, 3) := by decide +kernel
theorem dX4_begin_68 : decode cX4_begin 68 = .ok (.aload_n 0, 1) := by decide +kernel
theorem dX4_begin_69 : decode cX4_begin 69 = .ok (.aload_n 1, 1) := by decide +kernel
theorem dX4_begin_70 : decode cX4_begin 70 = .ok (.getfield 46, 3) := by decide +kernel
theorem dX4_begin_73 : decode cX4_begin 73 = .ok (.iload_n 2, 1) := by decide +kernel
theorem dX4_begin_74 : decode cX4_begin 74 = .ok (.invokestatic 49, 3) := by decide +kernel
theorem dX4_begin_77 : decode cX4_begin 77 = .ok (.putfield 53, 3) := by decide +kernel
theorem dX4_begin_80 : decode cX4_begin 80 = .ok (.aload_n 1, 1) := by decide +kernel
theorem dX4_begin_81 : decode cX4_begin 81 = .ok (.iload_n 2, 1) := by decide +kernel
theorem dX4_begin_82 : decode cX4_begin 82 = .ok (.iload_n 3, 1) := by decide +kernel
theorem dX4_begin_83 : decode cX4_begin 83 = .ok (.invokevirtual 56, 3) := by decide +kernel
theorem dX4_begin_86 : decode cX4_begin 86 = .ok (.istore 4, 2) := by decide +kernel
theorem dX4_begin_88 : decode cX4_begin 88 = .ok (.aload_n 0, 1) := by decide +kernel
theorem dX4_begin_89 : decode cX4_begin 89 = .ok (.iload 4, 2) := by decide +kernel
theorem dX4_begin_91 : decode cX4_begin 91 = .ok (.aload_n 1, 1) := by decide +kernel
theorem dX4_begin_92 : decode cX4_begin 92 = .ok (.iload_n 2, 1) := by decide +kernel
theorem dX4_begin_93 : decode cX4_begin 93 = .ok (.invokevirtual 60, 3) := by decide +kernel
theorem dX4_begin_96 : decode cX4_begin 96 = .ok (.iload 4, 2) := by decide +kernel
theorem dX4_begin_98 : decode cX4_begin 98 = .ok (.isub, 1) := by decide +kernel
theorem dX4_begin_99 : decode cX4_begin 99 = .ok (.invokevirtual 64, 3) := by decide +kernel
theorem dX4_begin_102 : decode cX4_begin 102 = .ok (.return_, 1) := by decide +kernel
def pc_X4_begin (i : Nat) : Nat := ([0] : List Nat).getD i 0
set_option maxRecDepth 20000 in
theorem ob_X4_begin_0 {x : ip_Cx} {G : ip_Gl} {d : Nat} (X : ip_X x G tb 5 d 0 0 RX4 cX4_begin) (hr : x.2.2.2.2.2.2.2.2.1.sig.returnType = none) (hnm : x.2.2.2.2.2.2.2.2.1.name = "begin") : ip_okB x G 5 pc_X4_begin 0 ([oLdA 0, oLdA 1, oGet 1 0, oI (0), oAldI, oPut 4 0 .int, oLdA 0, oLdA 1, oGet 1 0, oI (1), oAldI, oPut 4 1 .int, oLdA 0, oLdA 1, oGet 1 0, oI (2), oAldI, oPut 4 2 .int, oLdA 0, oLdA 1, oGet 1 2, oPut 4 3 .int, oLdA 0, oLdA 1, oGet 1 5, oLdI 2, oAldI, oPut 4 4 .int, oLdA 0, oLdA 1, oGet 1 6, oLdI 2, oAldI, oPut 4 5 .int, oLdA 0, oLdA 1, oGet 1 7, oLdI 2, oAldI, oPut 4 6 .int, oLdA 0, oLdA 1, oGet 1 10, oLdI 2, oCal (ip_call tb d) 0 0 104 2 0 0, oPut 4 9 .boolean, oLdA 1, oLdI 2, oLdI 3, oCaV (ip_call tb d) 0 0 1 12 3 0 0, oStI 4, oLdA 0, oLdI 4, oLdA 1, oLdI 2, oCaV (ip_call tb d) 0 0 1 11 2 0 0, oLdI 4, oBI (fun a b => a - b), oCaV (ip_call tb d) 0 0 4 40 3 0 0], tRV 0 0) := ⟨_, okC (ok_aldn X rfl dX4_begin_0)
  (okC (ok_aldn X rfl dX4_begin_1)
  (okC (ok_get X (ci := 1) rfl (by decide) iw_X1 tw_39 dX4_begin_2)
  (okC (ok_ic X (by decide) dX4_begin_5)
  (okC (ok_iald X dX4_begin_6)
  (okC (ok_put X (ci := 4) rfl (by decide) iw_X4 tyX4_ok nmX4 rfl (Or.inl rfl) tw_103 dX4_begin_7)
  (okC (ok_aldn X rfl dX4_begin_10)
  (okC (ok_aldn X rfl dX4_begin_11)
  (okC (ok_get X (ci := 1) rfl (by decide) iw_X1 tw_39 dX4_begin_12)
  (okC (ok_ic X (by decide) dX4_begin_15)
  (okC (ok_iald X dX4_begin_16)
  (okC (ok_put X (ci := 4) rfl (by decide) iw_X4 tyX4_ok nmX4 rfl (Or.inl rfl) tw_104 dX4_begin_17)
  (okC (ok_aldn X rfl dX4_begin_20)
  (okC (ok_aldn X rfl dX4_begin_21)
  (okC (ok_get X (ci := 1) rfl (by decide) iw_X1 tw_39 dX4_begin_22)
  (okC (ok_ic X (by decide) dX4_begin_25)
  (okC (ok_iald X dX4_begin_26)
  (okC (ok_put X (ci := 4) rfl (by decide) iw_X4 tyX4_ok nmX4 rfl (Or.inl rfl) tw_105 dX4_begin_27)
  (okC (ok_aldn X rfl dX4_begin_30)
  (okC (ok_aldn X rfl dX4_begin_31)
  (okC (ok_get X (ci := 1) rfl (by decide) iw_X1 tw_46 dX4_begin_32)
  (okC (ok_put X (ci := 4) rfl (by decide) iw_X4 tyX4_ok nmX4 rfl (Or.inl rfl) tw_106 dX4_begin_35)
  (okC (ok_aldn X rfl dX4_begin_38)
  (okC (ok_aldn X rfl dX4_begin_39)
  (okC (ok_get X (ci := 1) rfl (by decide) iw_X1 tw_54 dX4_begin_40)
  (okC (ok_ildn X rfl dX4_begin_43)
  (okC (ok_iald X dX4_begin_44)
  (okC (ok_put X (ci := 4) rfl (by decide) iw_X4 tyX4_ok nmX4 rfl (Or.inl rfl) tw_107 dX4_begin_45)
  (okC (ok_aldn X rfl dX4_begin_48)
  (okC (ok_aldn X rfl dX4_begin_49)
  (okC (ok_get X (ci := 1) rfl (by decide) iw_X1 tw_57 dX4_begin_50)
  (okC (ok_ildn X rfl dX4_begin_53)
  (okC (ok_iald X dX4_begin_54)
  (okC (ok_put X (ci := 4) rfl (by decide) iw_X4 tyX4_ok nmX4 rfl (Or.inl rfl) tw_109 dX4_begin_55)
  (okC (ok_aldn X rfl dX4_begin_58)
  (okC (ok_aldn X rfl dX4_begin_59)
  (okC (ok_get X (ci := 1) rfl (by decide) iw_X1 tw_61 dX4_begin_60)
  (okC (ok_ildn X rfl dX4_begin_63)
  (okC (ok_iald X dX4_begin_64)
  (okC (ok_put X (ci := 4) rfl (by decide) iw_X4 tyX4_ok nmX4 rfl (Or.inl rfl) tw_111 dX4_begin_65)
  (okC (ok_aldn X rfl dX4_begin_68)
  (okC (ok_aldn X rfl dX4_begin_69)
  (okC (ok_get X (ci := 1) rfl (by decide) iw_X1 tw_71 dX4_begin_70)
  (okC (ok_ildn X rfl dX4_begin_73)
  (okC (ok_calSN X (i := 49) (e := en_104) rfl mt_104 rfl rfl rfl (List.mem_of_getElem? (i := 3) rfl) tw_422 dX4_begin_74)
  (okC (ok_put X (ci := 4) rfl (by decide) iw_X4 tyX4_ok nmX4 rfl (Or.inl rfl) tw_118 dX4_begin_77)
  (okC (ok_aldn X rfl dX4_begin_80)
  (okC (ok_ildn X rfl dX4_begin_81)
  (okC (ok_ildn X rfl dX4_begin_82)
  (okC (ok_calV X (i := 56) (e := en_12) rfl mt_12 rfl rfl rfl tw_424 tw_425 (Or.inl ⟨_, _, rfl⟩) tw_426 dX4_begin_83)
  (okC (ok_ist X (by decide) dX4_begin_86)
  (okC (ok_aldn X rfl dX4_begin_88)
  (okC (ok_ild X dX4_begin_89)
  (okC (ok_aldn X rfl dX4_begin_91)
  (okC (ok_ildn X rfl dX4_begin_92)
  (okC (ok_calV X (i := 60) (e := en_11) rfl mt_11 rfl rfl rfl tw_437 tw_438 (Or.inl ⟨_, _, rfl⟩) tw_439 dX4_begin_93)
  (okC (ok_ild X dX4_begin_96)
  (okC (ok_isub X dX4_begin_98)
  (okC (ok_calV X (i := 64) (e := en_40) rfl mt_40 rfl rfl rfl tw_442 tw_443 (Or.inl ⟨_, _, rfl⟩) tw_444 dX4_begin_99)
  (okN))))))))))))))))))))))))))))))))))))))))))))))))))))))))))), ok_vret X hr dX4_begin_102⟩
theorem om_39 : ip_MOk tb en_39 pc_X4_begin := fun x G d X hr hnm => ⟨ob_X4_begin_0 X hr hnm, trivial⟩
theorem dX4_hear_0 : decode cX4_hear 0 = .ok (.aload_n 0, 1) := by decide +kernel
theorem dX4_hear_1 : decode cX4_hear 1 = .ok (.iload_n 1, 1) := by decide +kernel
theorem dX4_hear_2 : decode cX4_hear 2 = .ok (.putfield 68, 3) := by decide +kernel
theorem dX4_hear_5 : decode cX4_hear 5 = .ok (.aload_n 0, 1) := by decide +kernel
theorem dX4_hear_6 : decode cX4_hear 6 = .ok (.iload_n 2, 1) := by decide +kernel
theorem dX4_hear_7 : decode cX4_hear 7 = .ok (.putfield 71, 3) := by decide +kernel
theorem dX4_hear_10 : decode cX4_hear 10 = .ok (.return_, 1) := by decide +kernel
def pc_X4_hear (i : Nat) : Nat := ([0] : List Nat).getD i 0
set_option maxRecDepth 20000 in
theorem ob_X4_hear_0 {x : ip_Cx} {G : ip_Gl} {d : Nat} (X : ip_X x G tb 3 d 0 0 RX4 cX4_hear) (hr : x.2.2.2.2.2.2.2.2.1.sig.returnType = none) (hnm : x.2.2.2.2.2.2.2.2.1.name = "hear") : ip_okB x G 3 pc_X4_hear 0 ([oLdA 0, oLdI 1, oPut 4 7 .int, oLdA 0, oLdI 2, oPut 4 8 .int], tRV 0 0) := ⟨_, okC (ok_aldn X rfl dX4_hear_0)
  (okC (ok_ildn X rfl dX4_hear_1)
  (okC (ok_put X (ci := 4) rfl (by decide) iw_X4 tyX4_ok nmX4 rfl (Or.inl rfl) tw_114 dX4_hear_2)
  (okC (ok_aldn X rfl dX4_hear_5)
  (okC (ok_ildn X rfl dX4_hear_6)
  (okC (ok_put X (ci := 4) rfl (by decide) iw_X4 tyX4_ok nmX4 rfl (Or.inl rfl) tw_116 dX4_hear_7)
  (okN)))))), ok_vret X hr dX4_hear_10⟩
theorem om_40 : ip_MOk tb en_40 pc_X4_hear := fun x G d X hr hnm => ⟨ob_X4_hear_0 X hr hnm, trivial⟩
theorem dX4_isAcross_0 : decode cX4_isAcross 0 = .ok (.aload_n 0, 1) := by decide +kernel
theorem dX4_isAcross_1 : decode cX4_isAcross 1 = .ok (.getfield 44, 3) := by decide +kernel
theorem dX4_isAcross_4 : decode cX4_isAcross 4 = .ok (.bipush 20, 2) := by decide +kernel
theorem dX4_isAcross_6 : decode cX4_isAcross 6 = .ok (.if_icmp .ne 7, 3) := by decide +kernel
theorem dX4_isAcross_9 : decode cX4_isAcross 9 = .ok (.iconst 1, 1) := by decide +kernel
theorem dX4_isAcross_10 : decode cX4_isAcross 10 = .ok (.goto 4, 3) := by decide +kernel
theorem dX4_isAcross_13 : decode cX4_isAcross 13 = .ok (.iconst 0, 1) := by decide +kernel
theorem dX4_isAcross_14 : decode cX4_isAcross 14 = .ok (.ireturn, 1) := by decide +kernel
def pc_X4_isAcross (i : Nat) : Nat := ([0, 9, 13, 14] : List Nat).getD i 0
set_option maxRecDepth 20000 in
theorem ob_X4_isAcross_0 {x : ip_Cx} {G : ip_Gl} {d : Nat} (X : ip_X x G tb 1 d 0 0 RX4 cX4_isAcross) (hr : x.2.2.2.2.2.2.2.2.1.sig.returnType = (some .boolean)) (hnm : x.2.2.2.2.2.2.2.2.1.name = "isAcross") : ip_okB x G 1 pc_X4_isAcross 0 ([oLdA 0, oGet 4 6, oI (20)], tCm (fun a b => a = b) 1 2) := ⟨_, okC (ok_aldn X rfl dX4_isAcross_0)
  (okC (ok_get X (ci := 4) rfl (by decide) iw_X4 tw_111 dX4_isAcross_1)
  (okC (ok_bi X (by decide) dX4_isAcross_4)
  (okN))), ok_cmne X (by decide) rfl dX4_isAcross_6⟩
set_option maxRecDepth 20000 in
theorem ob_X4_isAcross_1 {x : ip_Cx} {G : ip_Gl} {d : Nat} (X : ip_X x G tb 1 d 0 0 RX4 cX4_isAcross) (hr : x.2.2.2.2.2.2.2.2.1.sig.returnType = (some .boolean)) (hnm : x.2.2.2.2.2.2.2.2.1.name = "isAcross") : ip_okB x G 1 pc_X4_isAcross 9 ([oI (1)], tGo 3) := ⟨_, okC (ok_ic X (by decide) dX4_isAcross_9)
  (okN), ok_go X (by decide) dX4_isAcross_10⟩
set_option maxRecDepth 20000 in
theorem ob_X4_isAcross_2 {x : ip_Cx} {G : ip_Gl} {d : Nat} (X : ip_X x G tb 1 d 0 0 RX4 cX4_isAcross) (hr : x.2.2.2.2.2.2.2.2.1.sig.returnType = (some .boolean)) (hnm : x.2.2.2.2.2.2.2.2.1.name = "isAcross") : ip_okB x G 1 pc_X4_isAcross 13 ([oI (0)], tGo 3) := ⟨_, okC (ok_ic X (by decide) dX4_isAcross_13)
  (okN), ok_fall rfl⟩
set_option maxRecDepth 20000 in
theorem ob_X4_isAcross_3 {x : ip_Cx} {G : ip_Gl} {d : Nat} (X : ip_X x G tb 1 d 0 0 RX4 cX4_isAcross) (hr : x.2.2.2.2.2.2.2.2.1.sig.returnType = (some .boolean)) (hnm : x.2.2.2.2.2.2.2.2.1.name = "isAcross") : ip_okB x G 1 pc_X4_isAcross 14 ([], tRI .boolean 0 0) := ⟨_, okN, ok_ret X hr dX4_isAcross_14⟩
theorem om_41 : ip_MOk tb en_41 pc_X4_isAcross := fun x G d X hr hnm => ⟨ob_X4_isAcross_0 X hr hnm, ⟨ob_X4_isAcross_1 X hr hnm, ⟨ob_X4_isAcross_2 X hr hnm, ⟨ob_X4_isAcross_3 X hr hnm, trivial⟩⟩⟩⟩
theorem dX4_isAtRest_0 : decode cX4_isAtRest 0 = .ok (.aload_n 0, 1) := by decide +kernel
theorem dX4_isAtRest_1 : decode cX4_isAtRest 1 = .ok (.getfield 53, 3) := by decide +kernel
theorem dX4_isAtRest_4 : decode cX4_isAtRest 4 = .ok (.ifCond .ne 10, 3) := by decide +kernel
theorem dX4_isAtRest_7 : decode cX4_isAtRest 7 = .ok (.aload_n 0, 1) := by decide +kernel
theorem dX4_isAtRest_8 : decode cX4_isAtRest 8 = .ok (.invokevirtual 74, 3) := by decide +kernel
theorem dX4_isAtRest_11 : decode cX4_isAtRest 11 = .ok (.ifCond .eq 7, 3) := by decide +kernel
theorem dX4_isAtRest_14 : decode cX4_isAtRest 14 = .ok (.iconst 1, 1) := by decide +kernel
theorem dX4_isAtRest_15 : decode cX4_isAtRest 15 = .ok (.goto 4, 3) := by decide +kernel
theorem dX4_isAtRest_18 : decode cX4_isAtRest 18 = .ok (.iconst 0, 1) := by decide +kernel
theorem dX4_isAtRest_19 : decode cX4_isAtRest 19 = .ok (.ireturn, 1) := by decide +kernel
def pc_X4_isAtRest (i : Nat) : Nat := ([0, 7, 14, 18, 19] : List Nat).getD i 0
set_option maxRecDepth 20000 in
theorem ob_X4_isAtRest_0 {x : ip_Cx} {G : ip_Gl} {d : Nat} (X : ip_X x G tb 1 d 0 0 RX4 cX4_isAtRest) (hr : x.2.2.2.2.2.2.2.2.1.sig.returnType = (some .boolean)) (hnm : x.2.2.2.2.2.2.2.2.1.name = "isAtRest") : ip_okB x G 1 pc_X4_isAtRest 0 ([oLdA 0, oGet 4 9], tIf (fun a => a = 0) 1 2) := ⟨_, okC (ok_aldn X rfl dX4_isAtRest_0)
  (okC (ok_get X (ci := 4) rfl (by decide) iw_X4 tw_118 dX4_isAtRest_1)
  (okN)), ok_ifne X (by decide) rfl dX4_isAtRest_4⟩
set_option maxRecDepth 20000 in
theorem ob_X4_isAtRest_1 {x : ip_Cx} {G : ip_Gl} {d : Nat} (X : ip_X x G tb 1 d 0 0 RX4 cX4_isAtRest) (hr : x.2.2.2.2.2.2.2.2.1.sig.returnType = (some .boolean)) (hnm : x.2.2.2.2.2.2.2.2.1.name = "isAtRest") : ip_okB x G 1 pc_X4_isAtRest 7 ([oLdA 0, oCaV (ip_call tb d) 0 0 4 41 1 0 0], tIf (fun a => a = 0) 3 2) := ⟨_, okC (ok_aldn X rfl dX4_isAtRest_7)
  (okC (ok_calV X (i := 74) (e := en_41) rfl mt_41 rfl rfl rfl tw_499 tw_500 (Or.inl ⟨_, _, rfl⟩) tw_501 dX4_isAtRest_8)
  (okN)), ok_ifeq X (by decide) rfl dX4_isAtRest_11⟩
set_option maxRecDepth 20000 in
theorem ob_X4_isAtRest_2 {x : ip_Cx} {G : ip_Gl} {d : Nat} (X : ip_X x G tb 1 d 0 0 RX4 cX4_isAtRest) (hr : x.2.2.2.2.2.2.2.2.1.sig.returnType = (some .boolean)) (hnm : x.2.2.2.2.2.2.2.2.1.name = "isAtRest") : ip_okB x G 1 pc_X4_isAtRest 14 ([oI (1)], tGo 4) := ⟨_, okC (ok_ic X (by decide) dX4_isAtRest_14)
  (okN), ok_go X (by decide) dX4_isAtRest_15⟩
set_option maxRecDepth 20000 in
theorem ob_X4_isAtRest_3 {x : ip_Cx} {G : ip_Gl} {d : Nat} (X : ip_X x G tb 1 d 0 0 RX4 cX4_isAtRest) (hr : x.2.2.2.2.2.2.2.2.1.sig.returnType = (some .boolean)) (hnm : x.2.2.2.2.2.2.2.2.1.name = "isAtRest") : ip_okB x G 1 pc_X4_isAtRest 18 ([oI (0)], tGo 4) := ⟨_, okC (ok_ic X (by decide) dX4_isAtRest_18)
  (okN), ok_fall rfl⟩
set_option maxRecDepth 20000 in
theorem ob_X4_isAtRest_4 {x : ip_Cx} {G : ip_Gl} {d : Nat} (X : ip_X x G tb 1 d 0 0 RX4 cX4_isAtRest) (hr : x.2.2.2.2.2.2.2.2.1.sig.returnType = (some .boolean)) (hnm : x.2.2.2.2.2.2.2.2.1.name = "isAtRest") : ip_okB x G 1 pc_X4_isAtRest 19 ([], tRI .boolean 0 0) := ⟨_, okN, ok_ret X hr dX4_isAtRest_19⟩
theorem om_42 : ip_MOk tb en_42 pc_X4_isAtRest := fun x G d X hr hnm => ⟨ob_X4_isAtRest_0 X hr hnm, ⟨ob_X4_isAtRest_1 X hr hnm, ⟨ob_X4_isAtRest_2 X hr hnm, ⟨ob_X4_isAtRest_3 X hr hnm, ⟨ob_X4_isAtRest_4 X hr hnm, trivial⟩⟩⟩⟩⟩
theorem dX4_bears_0 : decode cX4_bears 0 = .ok (.aload_n 0, 1) := by decide +kernel
theorem dX4_bears_1 : decode cX4_bears 1 = .ok (.getfield 34, 3) := by decide +kernel
theorem dX4_bears_4 : decode cX4_bears 4 = .ok (.tableswitch 93 1 5 #[36, 51, 41, 56, 63], 36) := by decide +kernel
theorem dX4_bears_40 : decode cX4_bears 40 = .ok (.aload_n 0, 1) := by decide +kernel
theorem dX4_bears_41 : decode cX4_bears 41 = .ok (.invokevirtual 78, 3) := by decide +kernel
theorem dX4_bears_44 : decode cX4_bears 44 = .ok (.ireturn, 1) := by decide +kernel
theorem dX4_bears_45 : decode cX4_bears 45 = .ok (.aload_n 0, 1) := by decide +kernel
theorem dX4_bears_46 : decode cX4_bears 46 = .ok (.invokevirtual 78, 3) := by decide +kernel
theorem dX4_bears_49 : decode cX4_bears 49 = .ok (.aload_n 0, 1) := by decide +kernel
theorem dX4_bears_50 : decode cX4_bears 50 = .ok (.getfield 24, 3) := by decide +kernel
theorem dX4_bears_53 : decode cX4_bears 53 = .ok (.iadd, 1) := by decide +kernel
theorem dX4_bears_54 : decode cX4_bears 54 = .ok (.ireturn, 1) := by decide +kernel
theorem dX4_bears_55 : decode cX4_bears 55 = .ok (.aload_n 0, 1) := by decide +kernel
theorem dX4_bears_56 : decode cX4_bears 56 = .ok (.invokevirtual 82, 3) := by decide +kernel
theorem dX4_bears_59 : decode cX4_bears 59 = .ok (.ireturn, 1) := by decide +kernel
theorem dX4_bears_60 : decode cX4_bears 60 = .ok (.iconst 2, 1) := by decide +kernel
theorem dX4_bears_61 : decode cX4_bears 61 = .ok (.aload_n 0, 1) := by decide +kernel
theorem dX4_bears_62 : decode cX4_bears 62 = .ok (.invokevirtual 82, 3) := by decide +kernel
theorem dX4_bears_65 : decode cX4_bears 65 = .ok (.imul, 1) := by decide +kernel
theorem dX4_bears_66 : decode cX4_bears 66 = .ok (.ireturn, 1) := by decide +kernel
theorem dX4_bears_67 : decode cX4_bears 67 = .ok (.bipush 90, 2) := by decide +kernel
theorem dX4_bears_69 : decode cX4_bears 69 = .ok (.bipush 10, 2) := by decide +kernel
theorem dX4_bears_71 : decode cX4_bears 71 = .ok (.aload_n 0, 1) := by decide +kernel
theorem dX4_bears_72 : decode cX4_bears 72 = .ok (.getfield 44, 3) := by decide +kernel
theorem dX4_bears_75 : decode cX4_bears 75 = .ok (.imul, 1) := by decide +kernel
theorem dX4_bears_76 : decode cX4_bears 76 = .ok (.isub, 1) := by decide +kernel
theorem dX4_bears_77 : decode cX4_bears 77 = .ok (.aload_n 0, 1) := by decide +kernel
theorem dX4_bears_78 : decode cX4_bears 78 = .ok (.getfield 68, 3) := by decide +kernel
theorem dX4_bears_81 : decode cX4_bears 81 = .ok (.aload_n 0, 1) := by decide +kernel
theorem dX4_bears_82 : decode cX4_bears 82 = .ok (.getfield 71, 3) := by decide +kernel
theorem dX4_bears_85 : decode cX4_bears 85 = .ok (.iadd, 1) := by decide +kernel
theorem dX4_bears_86 : decode cX4_bears 86 = .ok (.ifCond .le 8, 3) := by decide +kernel
theorem dX4_bears_89 : decode cX4_bears 89 = .ok (.bipush 50, 2) := by decide +kernel
theorem dX4_bears_91 : decode cX4_bears 91 = .ok (.goto 4, 3) := by decide +kernel
theorem dX4_bears_94 : decode cX4_bears 94 = .ok (.iconst 0, 1) := by decide +kernel
theorem dX4_bears_95 : decode cX4_bears 95 = .ok (.isub, 1) := by decide +kernel
theorem dX4_bears_96 : decode cX4_bears 96 = .ok (.ireturn, 1) := by decide +kernel
theorem dX4_bears_97 : decode cX4_bears 97 = .ok (.aload_n 0, 1) := by decide +kernel
theorem dX4_bears_98 : decode cX4_bears 98 = .ok (.invokevirtual 85, 3) := by decide +kernel
theorem dX4_bears_101 : decode cX4_bears 101 = .ok (.ireturn, 1) := by decide +kernel
def pc_X4_bears (i : Nat) : Nat := ([0, 40, 45, 55, 60, 67, 89, 94, 95, 97] : List Nat).getD i 0
set_option maxRecDepth 20000 in
theorem ob_X4_bears_0 {x : ip_Cx} {G : ip_Gl} {d : Nat} (X : ip_X x G tb 1 d 0 0 RX4 cX4_bears) (hr : x.2.2.2.2.2.2.2.2.1.sig.returnType = (some .int)) (hnm : x.2.2.2.2.2.2.2.2.1.name = "bears") : ip_okB x G 1 pc_X4_bears 0 ([oLdA 0, oGet 4 4], tSw [(1, 1), (2, 3), (3, 2), (4, 4), (5, 5)] 9) := ⟨_, okC (ok_aldn X rfl dX4_bears_0)
  (okC (ok_get X (ci := 4) rfl (by decide) iw_X4 tw_107 dX4_bears_1)
  (okN)), ok_tsw X (by decide) (by decide +kernel) (by decide) dX4_bears_4⟩
set_option maxRecDepth 20000 in
theorem ob_X4_bears_1 {x : ip_Cx} {G : ip_Gl} {d : Nat} (X : ip_X x G tb 1 d 0 0 RX4 cX4_bears) (hr : x.2.2.2.2.2.2.2.2.1.sig.returnType = (some .int)) (hnm : x.2.2.2.2.2.2.2.2.1.name = "bears") : ip_okB x G 1 pc_X4_bears 40 ([oLdA 0, oCaV (ip_call tb d) 0 0 4 45 1 0 0], tRI .int 0 0) := ⟨_, okC (ok_aldn X rfl dX4_bears_40)
  (okC (ok_calV X (i := 78) (e := en_45) rfl mt_45 rfl rfl rfl tw_450 tw_451 (Or.inl ⟨_, _, rfl⟩) tw_452 dX4_bears_41)
  (okN)), ok_ret X hr dX4_bears_44⟩
set_option maxRecDepth 20000 in
theorem ob_X4_bears_2 {x : ip_Cx} {G : ip_Gl} {d : Nat} (X : ip_X x G tb 1 d 0 0 RX4 cX4_bears) (hr : x.2.2.2.2.2.2.2.2.1.sig.returnType = (some .int)) (hnm : x.2.2.2.2.2.2.2.2.1.name = "bears") : ip_okB x G 1 pc_X4_bears 45 ([oLdA 0, oCaV (ip_call tb d) 0 0 4 45 1 0 0, oLdA 0, oGet 4 2, oBI (fun a b => a + b)], tRI .int 0 0) := ⟨_, okC (ok_aldn X rfl dX4_bears_45)
  (okC (ok_calV X (i := 78) (e := en_45) rfl mt_45 rfl rfl rfl tw_450 tw_451 (Or.inl ⟨_, _, rfl⟩) tw_452 dX4_bears_46)
  (okC (ok_aldn X rfl dX4_bears_49)
  (okC (ok_get X (ci := 4) rfl (by decide) iw_X4 tw_105 dX4_bears_50)
  (okC (ok_iadd X dX4_bears_53)
  (okN))))), ok_ret X hr dX4_bears_54⟩
set_option maxRecDepth 20000 in
theorem ob_X4_bears_3 {x : ip_Cx} {G : ip_Gl} {d : Nat} (X : ip_X x G tb 1 d 0 0 RX4 cX4_bears) (hr : x.2.2.2.2.2.2.2.2.1.sig.returnType = (some .int)) (hnm : x.2.2.2.2.2.2.2.2.1.name = "bears") : ip_okB x G 1 pc_X4_bears 55 ([oLdA 0, oCaV (ip_call tb d) 0 0 4 46 1 0 0], tRI .int 0 0) := ⟨_, okC (ok_aldn X rfl dX4_bears_55)
  (okC (ok_calV X (i := 82) (e := en_46) rfl mt_46 rfl rfl rfl tw_454 tw_455 (Or.inl ⟨_, _, rfl⟩) tw_456 dX4_bears_56)
  (okN)), ok_ret X hr dX4_bears_59⟩
set_option maxRecDepth 20000 in
theorem ob_X4_bears_4 {x : ip_Cx} {G : ip_Gl} {d : Nat} (X : ip_X x G tb 1 d 0 0 RX4 cX4_bears) (hr : x.2.2.2.2.2.2.2.2.1.sig.returnType = (some .int)) (hnm : x.2.2.2.2.2.2.2.2.1.name = "bears") : ip_okB x G 1 pc_X4_bears 60 ([oI (2), oLdA 0, oCaV (ip_call tb d) 0 0 4 46 1 0 0, oBI (fun a b => a * b)], tRI .int 0 0) := ⟨_, okC (ok_ic X (by decide) dX4_bears_60)
  (okC (ok_aldn X rfl dX4_bears_61)
  (okC (ok_calV X (i := 82) (e := en_46) rfl mt_46 rfl rfl rfl tw_454 tw_455 (Or.inl ⟨_, _, rfl⟩) tw_456 dX4_bears_62)
  (okC (ok_imul X dX4_bears_65)
  (okN)))), ok_ret X hr dX4_bears_66⟩
set_option maxRecDepth 20000 in
theorem ob_X4_bears_5 {x : ip_Cx} {G : ip_Gl} {d : Nat} (X : ip_X x G tb 1 d 0 0 RX4 cX4_bears) (hr : x.2.2.2.2.2.2.2.2.1.sig.returnType = (some .int)) (hnm : x.2.2.2.2.2.2.2.2.1.name = "bears") : ip_okB x G 1 pc_X4_bears 67 ([oI (90), oI (10), oLdA 0, oGet 4 6, oBI (fun a b => a * b), oBI (fun a b => a - b), oLdA 0, oGet 4 7, oLdA 0, oGet 4 8, oBI (fun a b => a + b)], tIf (fun a => 0 < a) 6 7) := ⟨_, okC (ok_bi X (by decide) dX4_bears_67)
  (okC (ok_bi X (by decide) dX4_bears_69)
  (okC (ok_aldn X rfl dX4_bears_71)
  (okC (ok_get X (ci := 4) rfl (by decide) iw_X4 tw_111 dX4_bears_72)
  (okC (ok_imul X dX4_bears_75)
  (okC (ok_isub X dX4_bears_76)
  (okC (ok_aldn X rfl dX4_bears_77)
  (okC (ok_get X (ci := 4) rfl (by decide) iw_X4 tw_114 dX4_bears_78)
  (okC (ok_aldn X rfl dX4_bears_81)
  (okC (ok_get X (ci := 4) rfl (by decide) iw_X4 tw_116 dX4_bears_82)
  (okC (ok_iadd X dX4_bears_85)
  (okN))))))))))), ok_ifle X (by decide) rfl dX4_bears_86⟩
set_option maxRecDepth 20000 in
theorem ob_X4_bears_6 {x : ip_Cx} {G : ip_Gl} {d : Nat} (X : ip_X x G tb 1 d 0 0 RX4 cX4_bears) (hr : x.2.2.2.2.2.2.2.2.1.sig.returnType = (some .int)) (hnm : x.2.2.2.2.2.2.2.2.1.name = "bears") : ip_okB x G 1 pc_X4_bears 89 ([oI (50)], tGo 8) := ⟨_, okC (ok_bi X (by decide) dX4_bears_89)
  (okN), ok_go X (by decide) dX4_bears_91⟩
set_option maxRecDepth 20000 in
theorem ob_X4_bears_7 {x : ip_Cx} {G : ip_Gl} {d : Nat} (X : ip_X x G tb 1 d 0 0 RX4 cX4_bears) (hr : x.2.2.2.2.2.2.2.2.1.sig.returnType = (some .int)) (hnm : x.2.2.2.2.2.2.2.2.1.name = "bears") : ip_okB x G 1 pc_X4_bears 94 ([oI (0)], tGo 8) := ⟨_, okC (ok_ic X (by decide) dX4_bears_94)
  (okN), ok_fall rfl⟩
set_option maxRecDepth 20000 in
theorem ob_X4_bears_8 {x : ip_Cx} {G : ip_Gl} {d : Nat} (X : ip_X x G tb 1 d 0 0 RX4 cX4_bears) (hr : x.2.2.2.2.2.2.2.2.1.sig.returnType = (some .int)) (hnm : x.2.2.2.2.2.2.2.2.1.name = "bears") : ip_okB x G 1 pc_X4_bears 95 ([oBI (fun a b => a - b)], tRI .int 0 0) := ⟨_, okC (ok_isub X dX4_bears_95)
  (okN), ok_ret X hr dX4_bears_96⟩
set_option maxRecDepth 20000 in
theorem ob_X4_bears_9 {x : ip_Cx} {G : ip_Gl} {d : Nat} (X : ip_X x G tb 1 d 0 0 RX4 cX4_bears) (hr : x.2.2.2.2.2.2.2.2.1.sig.returnType = (some .int)) (hnm : x.2.2.2.2.2.2.2.2.1.name = "bears") : ip_okB x G 1 pc_X4_bears 97 ([oLdA 0, oCaV (ip_call tb d) 0 0 4 44 1 0 0], tRI .int 0 0) := ⟨_, okC (ok_aldn X rfl dX4_bears_97)
  (okC (ok_calV X (i := 85) (e := en_44) rfl mt_44 rfl rfl rfl tw_458 tw_459 (Or.inl ⟨_, _, rfl⟩) tw_460 dX4_bears_98)
  (okN)), ok_ret X hr dX4_bears_101⟩
theorem om_43 : ip_MOk tb en_43 pc_X4_bears := fun x G d X hr hnm => ⟨ob_X4_bears_0 X hr hnm, ⟨ob_X4_bears_1 X hr hnm, ⟨ob_X4_bears_2 X hr hnm, ⟨ob_X4_bears_3 X hr hnm, ⟨ob_X4_bears_4 X hr hnm, ⟨ob_X4_bears_5 X hr hnm, ⟨ob_X4_bears_6 X hr hnm, ⟨ob_X4_bears_7 X hr hnm, ⟨ob_X4_bears_8 X hr hnm, ⟨ob_X4_bears_9 X hr hnm, trivial⟩⟩⟩⟩⟩⟩⟩⟩⟩⟩
theorem dX4_bearsAsWalker_0 : decode cX4_bearsAsWalker 0 = .ok (.aload_n 0, 1) := by decide +kernel
theorem dX4_bearsAsWalker_1 : decode cX4_bearsAsWalker 1 = .ok (.getfield 15, 3) := by decide +kernel
theorem dX4_bearsAsWalker_4 : decode cX4_bearsAsWalker 4 = .ok (.aload_n 0, 1) := by decide +kernel
theorem dX4_bearsAsWalker_5 : decode cX4_bearsAsWalker 5 = .ok (.getfield 68, 3) := by decide +kernel
theorem dX4_bearsAsWalker_8 : decode cX4_bearsAsWalker 8 = .ok (.imul, 1) := by decide +kernel
theorem dX4_bearsAsWalker_9 : decode cX4_bearsAsWalker 9 = .ok (.aload_n 0, 1) := by decide +kernel
theorem dX4_bearsAsWalker_10 : decode cX4_bearsAsWalker 10 = .ok (.getfield 21, 3) := by decide +kernel
theorem dX4_bearsAsWalker_13 : decode cX4_bearsAsWalker 13 = .ok (.aload_n 0, 1) := by decide +kernel
theorem dX4_bearsAsWalker_14 : decode cX4_bearsAsWalker 14 = .ok (.getfield 71, 3) := by decide +kernel
theorem dX4_bearsAsWalker_17 : decode cX4_bearsAsWalker 17 = .ok (.imul, 1) := by decide +kernel
theorem dX4_bearsAsWalker_18 : decode cX4_bearsAsWalker 18 = .ok (.isub, 1) := by decide +kernel
theorem dX4_bearsAsWalker_19 : decode cX4_bearsAsWalker 19 = .ok (.ireturn, 1) := by decide +kernel
def pc_X4_bearsAsWalker (i : Nat) : Nat := ([0] : List Nat).getD i 0
set_option maxRecDepth 20000 in
theorem ob_X4_bearsAsWalker_0 {x : ip_Cx} {G : ip_Gl} {d : Nat} (X : ip_X x G tb 1 d 0 0 RX4 cX4_bearsAsWalker) (hr : x.2.2.2.2.2.2.2.2.1.sig.returnType = (some .int)) (hnm : x.2.2.2.2.2.2.2.2.1.name = "bearsAsWalker") : ip_okB x G 1 pc_X4_bearsAsWalker 0 ([oLdA 0, oGet 4 0, oLdA 0, oGet 4 7, oBI (fun a b => a * b), oLdA 0, oGet 4 1, oLdA 0, oGet 4 8, oBI (fun a b => a * b), oBI (fun a b => a - b)], tRI .int 0 0) := ⟨_, okC (ok_aldn X rfl dX4_bearsAsWalker_0)
  (okC (ok_get X (ci := 4) rfl (by decide) iw_X4 tw_103 dX4_bearsAsWalker_1)
  (okC (ok_aldn X rfl dX4_bearsAsWalker_4)
  (okC (ok_get X (ci := 4) rfl (by decide) iw_X4 tw_114 dX4_bearsAsWalker_5)
  (okC (ok_imul X dX4_bearsAsWalker_8)
  (okC (ok_aldn X rfl dX4_bearsAsWalker_9)
  (okC (ok_get X (ci := 4) rfl (by decide) iw_X4 tw_104 dX4_bearsAsWalker_10)
  (okC (ok_aldn X rfl dX4_bearsAsWalker_13)
  (okC (ok_get X (ci := 4) rfl (by decide) iw_X4 tw_116 dX4_bearsAsWalker_14)
  (okC (ok_imul X dX4_bearsAsWalker_17)
  (okC (ok_isub X dX4_bearsAsWalker_18)
  (okN))))))))))), ok_ret X hr dX4_bearsAsWalker_19⟩
theorem om_44 : ip_MOk tb en_44 pc_X4_bearsAsWalker := fun x G d X hr hnm => ⟨ob_X4_bearsAsWalker_0 X hr hnm, trivial⟩
theorem dX4_bearsAsClown_0 : decode cX4_bearsAsClown 0 = .ok (.aload_n 0, 1) := by decide +kernel
theorem dX4_bearsAsClown_1 : decode cX4_bearsAsClown 1 = .ok (.getfield 15, 3) := by decide +kernel
theorem dX4_bearsAsClown_4 : decode cX4_bearsAsClown 4 = .ok (.aload_n 0, 1) := by decide +kernel
theorem dX4_bearsAsClown_5 : decode cX4_bearsAsClown 5 = .ok (.getfield 71, 3) := by decide +kernel
theorem dX4_bearsAsClown_8 : decode cX4_bearsAsClown 8 = .ok (.imul, 1) := by decide +kernel
theorem dX4_bearsAsClown_9 : decode cX4_bearsAsClown 9 = .ok (.aload_n 0, 1) := by decide +kernel
theorem dX4_bearsAsClown_10 : decode cX4_bearsAsClown 10 = .ok (.getfield 21, 3) := by decide +kernel
theorem dX4_bearsAsClown_13 : decode cX4_bearsAsClown 13 = .ok (.aload_n 0, 1) := by decide +kernel
theorem dX4_bearsAsClown_14 : decode cX4_bearsAsClown 14 = .ok (.getfield 68, 3) := by decide +kernel
theorem dX4_bearsAsClown_17 : decode cX4_bearsAsClown 17 = .ok (.imul, 1) := by decide +kernel
theorem dX4_bearsAsClown_18 : decode cX4_bearsAsClown 18 = .ok (.isub, 1) := by decide +kernel
theorem dX4_bearsAsClown_19 : decode cX4_bearsAsClown 19 = .ok (.ireturn, 1) := by decide +kernel
def pc_X4_bearsAsClown (i : Nat) : Nat := ([0] : List Nat).getD i 0
set_option maxRecDepth 20000 in
theorem ob_X4_bearsAsClown_0 {x : ip_Cx} {G : ip_Gl} {d : Nat} (X : ip_X x G tb 1 d 0 0 RX4 cX4_bearsAsClown) (hr : x.2.2.2.2.2.2.2.2.1.sig.returnType = (some .int)) (hnm : x.2.2.2.2.2.2.2.2.1.name = "bearsAsClown") : ip_okB x G 1 pc_X4_bearsAsClown 0 ([oLdA 0, oGet 4 0, oLdA 0, oGet 4 8, oBI (fun a b => a * b), oLdA 0, oGet 4 1, oLdA 0, oGet 4 7, oBI (fun a b => a * b), oBI (fun a b => a - b)], tRI .int 0 0) := ⟨_, okC (ok_aldn X rfl dX4_bearsAsClown_0)
  (okC (ok_get X (ci := 4) rfl (by decide) iw_X4 tw_103 dX4_bearsAsClown_1)
  (okC (ok_aldn X rfl dX4_bearsAsClown_4)
  (okC (ok_get X (ci := 4) rfl (by decide) iw_X4 tw_116 dX4_bearsAsClown_5)
  (okC (ok_imul X dX4_bearsAsClown_8)
  (okC (ok_aldn X rfl dX4_bearsAsClown_9)
  (okC (ok_get X (ci := 4) rfl (by decide) iw_X4 tw_104 dX4_bearsAsClown_10)
  (okC (ok_aldn X rfl dX4_bearsAsClown_13)
  (okC (ok_get X (ci := 4) rfl (by decide) iw_X4 tw_114 dX4_bearsAsClown_14)
  (okC (ok_imul X dX4_bearsAsClown_17)
  (okC (ok_isub X dX4_bearsAsClown_18)
  (okN))))))))))), ok_ret X hr dX4_bearsAsClown_19⟩
theorem om_45 : ip_MOk tb en_45 pc_X4_bearsAsClown := fun x G d X hr hnm => ⟨ob_X4_bearsAsClown_0 X hr hnm, trivial⟩
theorem dX4_bearsAsChild_0 : decode cX4_bearsAsChild 0 = .ok (.aload_n 0, 1) := by decide +kernel
theorem dX4_bearsAsChild_1 : decode cX4_bearsAsChild 1 = .ok (.invokevirtual 85, 3) := by decide +kernel
theorem dX4_bearsAsChild_4 : decode cX4_bearsAsChild 4 = .ok (.iconst 2, 1) := by decide +kernel
theorem dX4_bearsAsChild_5 : decode cX4_bearsAsChild 5 = .ok (.bipush 8, 2) := by decide +kernel
theorem dX4_bearsAsChild_7 : decode cX4_bearsAsChild 7 = .ok (.aload_n 0, 1) := by decide +kernel
theorem dX4_bearsAsChild_8 : decode cX4_bearsAsChild 8 = .ok (.getfield 68, 3) := by decide +kernel
theorem dX4_bearsAsChild_11 : decode cX4_bearsAsChild 11 = .ok (.isub, 1) := by decide +kernel
theorem dX4_bearsAsChild_12 : decode cX4_bearsAsChild 12 = .ok (.aload_n 0, 1) := by decide +kernel
theorem dX4_bearsAsChild_13 : decode cX4_bearsAsChild 13 = .ok (.getfield 71, 3) := by decide +kernel
theorem dX4_bearsAsChild_16 : decode cX4_bearsAsChild 16 = .ok (.isub, 1) := by decide +kernel
theorem dX4_bearsAsChild_17 : decode cX4_bearsAsChild 17 = .ok (.imul, 1) := by decide +kernel
theorem dX4_bearsAsChild_18 : decode cX4_bearsAsChild 18 = .ok (.iadd, 1) := by decide +kernel
theorem dX4_bearsAsChild_19 : decode cX4_bearsAsChild 19 = .ok (.ireturn, 1) := by decide +kernel
def pc_X4_bearsAsChild (i : Nat) : Nat := ([0] : List Nat).getD i 0
set_option maxRecDepth 20000 in
theorem ob_X4_bearsAsChild_0 {x : ip_Cx} {G : ip_Gl} {d : Nat} (X : ip_X x G tb 1 d 0 0 RX4 cX4_bearsAsChild) (hr : x.2.2.2.2.2.2.2.2.1.sig.returnType = (some .int)) (hnm : x.2.2.2.2.2.2.2.2.1.name = "bearsAsChild") : ip_okB x G 1 pc_X4_bearsAsChild 0 ([oLdA 0, oCaV (ip_call tb d) 0 0 4 44 1 0 0, oI (2), oI (8), oLdA 0, oGet 4 7, oBI (fun a b => a - b), oLdA 0, oGet 4 8, oBI (fun a b => a - b), oBI (fun a b => a * b), oBI (fun a b => a + b)], tRI .int 0 0) := ⟨_, okC (ok_aldn X rfl dX4_bearsAsChild_0)
  (okC (ok_calV X (i := 85) (e := en_44) rfl mt_44 rfl rfl rfl tw_458 tw_459 (Or.inl ⟨_, _, rfl⟩) tw_460 dX4_bearsAsChild_1)
  (okC (ok_ic X (by decide) dX4_bearsAsChild_4)
  (okC (ok_bi X (by decide) dX4_bearsAsChild_5)
  (okC (ok_aldn X rfl dX4_bearsAsChild_7)
  (okC (ok_get X (ci := 4) rfl (by decide) iw_X4 tw_114 dX4_bearsAsChild_8)
  (okC (ok_isub X dX4_bearsAsChild_11)
  (okC (ok_aldn X rfl dX4_bearsAsChild_12)
  (okC (ok_get X (ci := 4) rfl (by decide) iw_X4 tw_116 dX4_bearsAsChild_13)
  (okC (ok_isub X dX4_bearsAsChild_16)
  (okC (ok_imul X dX4_bearsAsChild_17)
  (okC (ok_iadd X dX4_bearsAsChild_18)
  (okN)))))))))))), ok_ret X hr dX4_bearsAsChild_19⟩
theorem om_46 : ip_MOk tb en_46 pc_X4_bearsAsChild := fun x G d X hr hnm => ⟨ob_X4_bearsAsChild_0 X hr hnm, trivial⟩
theorem dX4_strides_0 : decode cX4_strides 0 = .ok (.aload_n 0, 1) := by decide +kernel
theorem dX4_strides_1 : decode cX4_strides 1 = .ok (.getfield 34, 3) := by decide +kernel
theorem dX4_strides_4 : decode cX4_strides 4 = .ok (.tableswitch 56 1 4 #[32, 56, 34, 49], 32) := by decide +kernel
theorem dX4_strides_36 : decode cX4_strides 36 = .ok (.iconst 2, 1) := by decide +kernel
theorem dX4_strides_37 : decode cX4_strides 37 = .ok (.ireturn, 1) := by decide +kernel
theorem dX4_strides_38 : decode cX4_strides 38 = .ok (.aload_n 0, 1) := by decide +kernel
theorem dX4_strides_39 : decode cX4_strides 39 = .ok (.getfield 30, 3) := by decide +kernel
theorem dX4_strides_42 : decode cX4_strides 42 = .ok (.iconst 1, 1) := by decide +kernel
theorem dX4_strides_43 : decode cX4_strides 43 = .ok (.iand, 1) := by decide +kernel
theorem dX4_strides_44 : decode cX4_strides 44 = .ok (.ifCond .ne 7, 3) := by decide +kernel
theorem dX4_strides_47 : decode cX4_strides 47 = .ok (.iconst 3, 1) := by decide +kernel
theorem dX4_strides_48 : decode cX4_strides 48 = .ok (.goto 4, 3) := by decide +kernel
theorem dX4_strides_51 : decode cX4_strides 51 = .ok (.iconst 2, 1) := by decide +kernel
theorem dX4_strides_52 : decode cX4_strides 52 = .ok (.ireturn, 1) := by decide +kernel
theorem dX4_strides_53 : decode cX4_strides 53 = .ok (.iconst 1, 1) := by decide +kernel
theorem dX4_strides_54 : decode cX4_strides 54 = .ok (.aload_n 0, 1) := by decide +kernel
theorem dX4_strides_55 : decode cX4_strides 55 = .ok (.getfield 68, 3) := by decide +kernel
theorem dX4_strides_58 : decode cX4_strides 58 = .ok (.iadd, 1) := by decide +kernel
theorem dX4_strides_59 : decode cX4_strides 59 = .ok (.ireturn, 1) := by decide +kernel
theorem dX4_strides_60 : decode cX4_strides 60 = .ok (.iconst 1, 1) := by decide +kernel
theorem dX4_strides_61 : decode cX4_strides 61 = .ok (.ireturn, 1) := by decide +kernel
def pc_X4_strides (i : Nat) : Nat := ([0, 36, 38, 47, 51, 52, 53, 60] : List Nat).getD i 0
set_option maxRecDepth 20000 in
theorem ob_X4_strides_0 {x : ip_Cx} {G : ip_Gl} {d : Nat} (X : ip_X x G tb 1 d 0 0 RX4 cX4_strides) (hr : x.2.2.2.2.2.2.2.2.1.sig.returnType = (some .int)) (hnm : x.2.2.2.2.2.2.2.2.1.name = "strides") : ip_okB x G 1 pc_X4_strides 0 ([oLdA 0, oGet 4 4], tSw [(1, 1), (2, 7), (3, 2), (4, 6)] 7) := ⟨_, okC (ok_aldn X rfl dX4_strides_0)
  (okC (ok_get X (ci := 4) rfl (by decide) iw_X4 tw_107 dX4_strides_1)
  (okN)), ok_tsw X (by decide) (by decide +kernel) (by decide) dX4_strides_4⟩
set_option maxRecDepth 20000 in
theorem ob_X4_strides_1 {x : ip_Cx} {G : ip_Gl} {d : Nat} (X : ip_X x G tb 1 d 0 0 RX4 cX4_strides) (hr : x.2.2.2.2.2.2.2.2.1.sig.returnType = (some .int)) (hnm : x.2.2.2.2.2.2.2.2.1.name = "strides") : ip_okB x G 1 pc_X4_strides 36 ([oI (2)], tRI .int 0 0) := ⟨_, okC (ok_ic X (by decide) dX4_strides_36)
  (okN), ok_ret X hr dX4_strides_37⟩
set_option maxRecDepth 20000 in
theorem ob_X4_strides_2 {x : ip_Cx} {G : ip_Gl} {d : Nat} (X : ip_X x G tb 1 d 0 0 RX4 cX4_strides) (hr : x.2.2.2.2.2.2.2.2.1.sig.returnType = (some .int)) (hnm : x.2.2.2.2.2.2.2.2.1.name = "strides") : ip_okB x G 1 pc_X4_strides 38 ([oLdA 0, oGet 4 3, oI (1), oBI (fun a b => a &&& b)], tIf (fun a => a = 0) 3 4) := ⟨_, okC (ok_aldn X rfl dX4_strides_38)
  (okC (ok_get X (ci := 4) rfl (by decide) iw_X4 tw_106 dX4_strides_39)
  (okC (ok_ic X (by decide) dX4_strides_42)
  (okC (ok_iand X dX4_strides_43)
  (okN)))), ok_ifne X (by decide) rfl dX4_strides_44⟩
set_option maxRecDepth 20000 in
theorem ob_X4_strides_3 {x : ip_Cx} {G : ip_Gl} {d : Nat} (X : ip_X x G tb 1 d 0 0 RX4 cX4_strides) (hr : x.2.2.2.2.2.2.2.2.1.sig.returnType = (some .int)) (hnm : x.2.2.2.2.2.2.2.2.1.name = "strides") : ip_okB x G 1 pc_X4_strides 47 ([oI (3)], tGo 5) := ⟨_, okC (ok_ic X (by decide) dX4_strides_47)
  (okN), ok_go X (by decide) dX4_strides_48⟩
set_option maxRecDepth 20000 in
theorem ob_X4_strides_4 {x : ip_Cx} {G : ip_Gl} {d : Nat} (X : ip_X x G tb 1 d 0 0 RX4 cX4_strides) (hr : x.2.2.2.2.2.2.2.2.1.sig.returnType = (some .int)) (hnm : x.2.2.2.2.2.2.2.2.1.name = "strides") : ip_okB x G 1 pc_X4_strides 51 ([oI (2)], tGo 5) := ⟨_, okC (ok_ic X (by decide) dX4_strides_51)
  (okN), ok_fall rfl⟩
set_option maxRecDepth 20000 in
theorem ob_X4_strides_5 {x : ip_Cx} {G : ip_Gl} {d : Nat} (X : ip_X x G tb 1 d 0 0 RX4 cX4_strides) (hr : x.2.2.2.2.2.2.2.2.1.sig.returnType = (some .int)) (hnm : x.2.2.2.2.2.2.2.2.1.name = "strides") : ip_okB x G 1 pc_X4_strides 52 ([], tRI .int 0 0) := ⟨_, okN, ok_ret X hr dX4_strides_52⟩
set_option maxRecDepth 20000 in
theorem ob_X4_strides_6 {x : ip_Cx} {G : ip_Gl} {d : Nat} (X : ip_X x G tb 1 d 0 0 RX4 cX4_strides) (hr : x.2.2.2.2.2.2.2.2.1.sig.returnType = (some .int)) (hnm : x.2.2.2.2.2.2.2.2.1.name = "strides") : ip_okB x G 1 pc_X4_strides 53 ([oI (1), oLdA 0, oGet 4 7, oBI (fun a b => a + b)], tRI .int 0 0) := ⟨_, okC (ok_ic X (by decide) dX4_strides_53)
  (okC (ok_aldn X rfl dX4_strides_54)
  (okC (ok_get X (ci := 4) rfl (by decide) iw_X4 tw_114 dX4_strides_55)
  (okC (ok_iadd X dX4_strides_58)
  (okN)))), ok_ret X hr dX4_strides_59⟩
set_option maxRecDepth 20000 in
theorem ob_X4_strides_7 {x : ip_Cx} {G : ip_Gl} {d : Nat} (X : ip_X x G tb 1 d 0 0 RX4 cX4_strides) (hr : x.2.2.2.2.2.2.2.2.1.sig.returnType = (some .int)) (hnm : x.2.2.2.2.2.2.2.2.1.name = "strides") : ip_okB x G 1 pc_X4_strides 60 ([oI (1)], tRI .int 0 0) := ⟨_, okC (ok_ic X (by decide) dX4_strides_60)
  (okN), ok_ret X hr dX4_strides_61⟩
theorem om_47 : ip_MOk tb en_47 pc_X4_strides := fun x G d X hr hnm => ⟨ob_X4_strides_0 X hr hnm, ⟨ob_X4_strides_1 X hr hnm, ⟨ob_X4_strides_2 X hr hnm, ⟨ob_X4_strides_3 X hr hnm, ⟨ob_X4_strides_4 X hr hnm, ⟨ob_X4_strides_5 X hr hnm, ⟨ob_X4_strides_6 X hr hnm, ⟨ob_X4_strides_7 X hr hnm, trivial⟩⟩⟩⟩⟩⟩⟩⟩
theorem dX4_tread_0 : decode cX4_tread 0 = .ok (.aload_n 0, 1) := by decide +kernel
theorem dX4_tread_1 : decode cX4_tread 1 = .ok (.invokevirtual 88, 3) := by decide +kernel
theorem dX4_tread_4 : decode cX4_tread 4 = .ok (.ifCond .ne 40, 3) := by decide +kernel
theorem dX4_tread_7 : decode cX4_tread 7 = .ok (.aload_n 0, 1) := by decide +kernel
theorem dX4_tread_8 : decode cX4_tread 8 = .ok (.invokevirtual 91, 3) := by decide +kernel
theorem dX4_tread_11 : decode cX4_tread 11 = .ok (.aload_n 0, 1) := by decide +kernel
theorem dX4_tread_12 : decode cX4_tread 12 = .ok (.getfield 39, 3) := by decide +kernel
theorem dX4_tread_15 : decode cX4_tread 15 = .ok (.if_icmp .lt 24, 3) := by decide +kernel
theorem dX4_tread_18 : decode cX4_tread 18 = .ok (.aload_n 0, 1) := by decide +kernel
theorem dX4_tread_19 : decode cX4_tread 19 = .ok (.bipush 20, 2) := by decide +kernel
theorem dX4_tread_21 : decode cX4_tread 21 = .ok (.aload_n 0, 1) := by decide +kernel
theorem dX4_tread_22 : decode cX4_tread 22 = .ok (.getfield 44, 3) := by decide +kernel
theorem dX4_tread_25 : decode cX4_tread 25 = .ok (.aload_n 0, 1) := by decide +kernel
theorem dX4_tread_26 : decode cX4_tread 26 = .ok (.invokevirtual 94, 3) := by decide +kernel
theorem dX4_tread_29 : decode cX4_tread 29 = .ok (.iadd, 1) := by decide +kernel
theorem dX4_tread_30 : decode cX4_tread 30 = .ok (.invokestatic 97, 3) := by decide +kernel
theorem dX4_tread_33 : decode cX4_tread 33 = .ok (.putfield 44, 3) := by decide +kernel
theorem dX4_tread_36 : decode cX4_tread 36 = .ok (.goto 8, 3) := by decide +kernel
theorem dX4_tread_39 : decode cX4_tread 39 = .ok (.aload_n 0, 1) := by decide +kernel
theorem dX4_tread_40 : decode cX4_tread 40 = .ok (.iconst 1, 1) := by decide +kernel
theorem dX4_tread_41 : decode cX4_tread 41 = .ok (.putfield 53, 3) := by decide +kernel
theorem dX4_tread_44 : decode cX4_tread 44 = .ok (.aload_n 0, 1) := by decide +kernel
theorem dX4_tread_45 : decode cX4_tread 45 = .ok (.dup, 1) := by decide +kernel
theorem dX4_tread_46 : decode cX4_tread 46 = .ok (.getfield 30, 3) := by decide +kernel
theorem dX4_tread_49 : decode cX4_tread 49 = .ok (.iconst 1, 1) := by decide +kernel
theorem dX4_tread_50 : decode cX4_tread 50 = .ok (.iadd, 1) := by decide +kernel
theorem dX4_tread_51 : decode cX4_tread 51 = .ok (.putfield 30, 3) := by decide +kernel
theorem dX4_tread_54 : decode cX4_tread 54 = .ok (.return_, 1) := by decide +kernel
def pc_X4_tread (i : Nat) : Nat := ([0, 7, 18, 39, 44] : List Nat).getD i 0
set_option maxRecDepth 20000 in
theorem ob_X4_tread_0 {x : ip_Cx} {G : ip_Gl} {d : Nat} (X : ip_X x G tb 1 d 0 0 RX4 cX4_tread) (hr : x.2.2.2.2.2.2.2.2.1.sig.returnType = none) (hnm : x.2.2.2.2.2.2.2.2.1.name = "tread") : ip_okB x G 1 pc_X4_tread 0 ([oLdA 0, oCaV (ip_call tb d) 0 0 4 42 1 0 0], tIf (fun a => a = 0) 1 4) := ⟨_, okC (ok_aldn X rfl dX4_tread_0)
  (okC (ok_calV X (i := 88) (e := en_42) rfl mt_42 rfl rfl rfl tw_495 tw_496 (Or.inl ⟨_, _, rfl⟩) tw_497 dX4_tread_1)
  (okN)), ok_ifne X (by decide) rfl dX4_tread_4⟩
set_option maxRecDepth 20000 in
theorem ob_X4_tread_1 {x : ip_Cx} {G : ip_Gl} {d : Nat} (X : ip_X x G tb 1 d 0 0 RX4 cX4_tread) (hr : x.2.2.2.2.2.2.2.2.1.sig.returnType = none) (hnm : x.2.2.2.2.2.2.2.2.1.name = "tread") : ip_okB x G 1 pc_X4_tread 7 ([oLdA 0, oCaV (ip_call tb d) 0 0 4 43 1 0 0, oLdA 0, oGet 4 5], tCm (fun a b => a < b) 3 2) := ⟨_, okC (ok_aldn X rfl dX4_tread_7)
  (okC (ok_calV X (i := 91) (e := en_43) rfl mt_43 rfl rfl rfl tw_503 tw_447 (Or.inl ⟨_, _, rfl⟩) tw_448 dX4_tread_8)
  (okC (ok_aldn X rfl dX4_tread_11)
  (okC (ok_get X (ci := 4) rfl (by decide) iw_X4 tw_109 dX4_tread_12)
  (okN)))), ok_cmlt X (by decide) rfl dX4_tread_15⟩
set_option maxRecDepth 20000 in
theorem ob_X4_tread_2 {x : ip_Cx} {G : ip_Gl} {d : Nat} (X : ip_X x G tb 1 d 0 0 RX4 cX4_tread) (hr : x.2.2.2.2.2.2.2.2.1.sig.returnType = none) (hnm : x.2.2.2.2.2.2.2.2.1.name = "tread") : ip_okB x G 1 pc_X4_tread 18 ([oLdA 0, oI (20), oLdA 0, oGet 4 6, oLdA 0, oCaV (ip_call tb d) 0 0 4 47 1 0 0, oBI (fun a b => a + b), oMin 0 0, oPut 4 6 .int], tGo 4) := ⟨_, okC (ok_aldn X rfl dX4_tread_18)
  (okC (ok_bi X (by decide) dX4_tread_19)
  (okC (ok_aldn X rfl dX4_tread_21)
  (okC (ok_get X (ci := 4) rfl (by decide) iw_X4 tw_111 dX4_tread_22)
  (okC (ok_aldn X rfl dX4_tread_25)
  (okC (ok_calV X (i := 94) (e := en_47) rfl mt_47 rfl rfl rfl tw_504 tw_463 (Or.inl ⟨_, _, rfl⟩) tw_464 dX4_tread_26)
  (okC (ok_iadd X dX4_tread_29)
  (okC (ok_min X tw_505 tw_506 tw_13 tw_507 dX4_tread_30)
  (okC (ok_put X (ci := 4) rfl (by decide) iw_X4 tyX4_ok nmX4 rfl (Or.inl rfl) tw_111 dX4_tread_33)
  (okN))))))))), ok_go X (by decide) dX4_tread_36⟩
set_option maxRecDepth 20000 in
theorem ob_X4_tread_3 {x : ip_Cx} {G : ip_Gl} {d : Nat} (X : ip_X x G tb 1 d 0 0 RX4 cX4_tread) (hr : x.2.2.2.2.2.2.2.2.1.sig.returnType = none) (hnm : x.2.2.2.2.2.2.2.2.1.name = "tread") : ip_okB x G 1 pc_X4_tread 39 ([oLdA 0, oI (1), oPut 4 9 .boolean], tGo 4) := ⟨_, okC (ok_aldn X rfl dX4_tread_39)
  (okC (ok_ic X (by decide) dX4_tread_40)
  (okC (ok_put X (ci := 4) rfl (by decide) iw_X4 tyX4_ok nmX4 rfl (Or.inl rfl) tw_118 dX4_tread_41)
  (okN))), ok_fall rfl⟩
set_option maxRecDepth 20000 in
theorem ob_X4_tread_4 {x : ip_Cx} {G : ip_Gl} {d : Nat} (X : ip_X x G tb 1 d 0 0 RX4 cX4_tread) (hr : x.2.2.2.2.2.2.2.2.1.sig.returnType = none) (hnm : x.2.2.2.2.2.2.2.2.1.name = "tread") : ip_okB x G 1 pc_X4_tread 44 ([oLdA 0, oDup, oGet 4 3, oI (1), oBI (fun a b => a + b), oPut 4 3 .int], tRV 0 0) := ⟨_, okC (ok_aldn X rfl dX4_tread_44)
  (okC (ok_dup X dX4_tread_45)
  (okC (ok_get X (ci := 4) rfl (by decide) iw_X4 tw_106 dX4_tread_46)
  (okC (ok_ic X (by decide) dX4_tread_49)
  (okC (ok_iadd X dX4_tread_50)
  (okC (ok_put X (ci := 4) rfl (by decide) iw_X4 tyX4_ok nmX4 rfl (Or.inl rfl) tw_106 dX4_tread_51)
  (okN)))))), ok_vret X hr dX4_tread_54⟩
theorem om_48 : ip_MOk tb en_48 pc_X4_tread := fun x G d X hr hnm => ⟨ob_X4_tread_0 X hr hnm, ⟨ob_X4_tread_1 X hr hnm, ⟨ob_X4_tread_2 X hr hnm, ⟨ob_X4_tread_3 X hr hnm, ⟨ob_X4_tread_4 X hr hnm, trivial⟩⟩⟩⟩⟩
theorem dX4_go_0 : decode cX4_go 0 = .ok (.iconst 0, 1) := by decide +kernel
theorem dX4_go_1 : decode cX4_go 1 = .ok (.istore_n 2, 1) := by decide +kernel
theorem dX4_go_2 : decode cX4_go 2 = .ok (.iload_n 2, 1) := by decide +kernel
theorem dX4_go_3 : decode cX4_go 3 = .ok (.iload_n 1, 1) := by decide +kernel
theorem dX4_go_4 : decode cX4_go 4 = .ok (.if_icmp .ge 20, 3) := by decide +kernel
theorem dX4_go_7 : decode cX4_go 7 = .ok (.aload_n 0, 1) := by decide +kernel
theorem dX4_go_8 : decode cX4_go 8 = .ok (.invokevirtual 88, 3) := by decide +kernel
theorem dX4_go_11 : decode cX4_go 11 = .ok (.ifCond .ne 13, 3) := by decide +kernel
theorem dX4_go_14 : decode cX4_go 14 = .ok (.aload_n 0, 1) := by decide +kernel
theorem dX4_go_15 : decode cX4_go 15 = .ok (.invokevirtual 102, 3) := by decide +kernel
theorem dX4_go_18 : decode cX4_go 18 = .ok (.iinc 2 1, 3) := by decide +kernel
theorem dX4_go_21 : decode cX4_go 21 = .ok (.goto (-19), 3) := by decide +kernel
theorem dX4_go_24 : decode cX4_go 24 = .ok (.return_, 1) := by decide +kernel
def pc_X4_go (i : Nat) : Nat := ([0, 2, 7, 14, 24] : List Nat).getD i 0
set_option maxRecDepth 20000 in
theorem ob_X4_go_0 {x : ip_Cx} {G : ip_Gl} {d : Nat} (X : ip_X x G tb 3 d 0 0 RX4 cX4_go) (hr : x.2.2.2.2.2.2.2.2.1.sig.returnType = none) (hnm : x.2.2.2.2.2.2.2.2.1.name = "go") : ip_okB x G 3 pc_X4_go 0 ([oI (0), oStI 2], tGo 1) := ⟨_, okC (ok_ic X (by decide) dX4_go_0)
  (okC (ok_istn X rfl (by decide) dX4_go_1)
  (okN)), ok_fall rfl⟩
set_option maxRecDepth 20000 in
theorem ob_X4_go_1 {x : ip_Cx} {G : ip_Gl} {d : Nat} (X : ip_X x G tb 3 d 0 0 RX4 cX4_go) (hr : x.2.2.2.2.2.2.2.2.1.sig.returnType = none) (hnm : x.2.2.2.2.2.2.2.2.1.name = "go") : ip_okB x G 3 pc_X4_go 2 ([oLdI 2, oLdI 1], tCm (fun a b => a < b) 2 4) := ⟨_, okC (ok_ildn X rfl dX4_go_2)
  (okC (ok_ildn X rfl dX4_go_3)
  (okN)), ok_cmge X (by decide) rfl dX4_go_4⟩
set_option maxRecDepth 20000 in
theorem ob_X4_go_2 {x : ip_Cx} {G : ip_Gl} {d : Nat} (X : ip_X x G tb 3 d 0 0 RX4 cX4_go) (hr : x.2.2.2.2.2.2.2.2.1.sig.returnType = none) (hnm : x.2.2.2.2.2.2.2.2.1.name = "go") : ip_okB x G 3 pc_X4_go 7 ([oLdA 0, oCaV (ip_call tb d) 0 0 4 42 1 0 0], tIf (fun a => a = 0) 3 4) := ⟨_, okC (ok_aldn X rfl dX4_go_7)
  (okC (ok_calV X (i := 88) (e := en_42) rfl mt_42 rfl rfl rfl tw_495 tw_496 (Or.inl ⟨_, _, rfl⟩) tw_497 dX4_go_8)
  (okN)), ok_ifne X (by decide) rfl dX4_go_11⟩
set_option maxRecDepth 20000 in
theorem ob_X4_go_3 {x : ip_Cx} {G : ip_Gl} {d : Nat} (X : ip_X x G tb 3 d 0 0 RX4 cX4_go) (hr : x.2.2.2.2.2.2.2.2.1.sig.returnType = none) (hnm : x.2.2.2.2.2.2.2.2.1.name = "go") : ip_okB x G 3 pc_X4_go 14 ([oLdA 0, oCaV (ip_call tb d) 0 0 4 48 1 0 0, oInc 2 (1)], tGo 1) := ⟨_, okC (ok_aldn X rfl dX4_go_14)
  (okC (ok_calV X (i := 102) (e := en_48) rfl mt_48 rfl rfl rfl tw_559 tw_492 (Or.inl ⟨_, _, rfl⟩) tw_493 dX4_go_15)
  (okC (ok_inc X (by decide) dX4_go_18)
  (okN))), ok_go X (by decide) dX4_go_21⟩
set_option maxRecDepth 20000 in
theorem ob_X4_go_4 {x : ip_Cx} {G : ip_Gl} {d : Nat} (X : ip_X x G tb 3 d 0 0 RX4 cX4_go) (hr : x.2.2.2.2.2.2.2.2.1.sig.returnType = none) (hnm : x.2.2.2.2.2.2.2.2.1.name = "go") : ip_okB x G 3 pc_X4_go 24 ([], tRV 0 0) := ⟨_, okN, ok_vret X hr dX4_go_24⟩
theorem om_49 : ip_MOk tb en_49 pc_X4_go := fun x G d X hr hnm => ⟨ob_X4_go_0 X hr hnm, ⟨ob_X4_go_1 X hr hnm, ⟨ob_X4_go_2 X hr hnm, ⟨ob_X4_go_3 X hr hnm, ⟨ob_X4_go_4 X hr hnm, trivial⟩⟩⟩⟩⟩
theorem dX4_goesAs_0 : decode cX4_goesAs 0 = .ok (.iconst 0, 1) := by decide +kernel
theorem dX4_goesAs_1 : decode cX4_goesAs 1 = .ok (.istore_n 2, 1) := by decide +kernel
theorem dX4_goesAs_2 : decode cX4_goesAs 2 = .ok (.iload_n 2, 1) := by decide +kernel
theorem dX4_goesAs_3 : decode cX4_goesAs 3 = .ok (.aload_n 1, 1) := by decide +kernel
theorem dX4_goesAs_4 : decode cX4_goesAs 4 = .ok (.getfield 105, 3) := by decide +kernel
theorem dX4_goesAs_7 : decode cX4_goesAs 7 = .ok (.arraylength, 1) := by decide +kernel
theorem dX4_goesAs_8 : decode cX4_goesAs 8 = .ok (.if_icmp .ge 38, 3) := by decide +kernel
theorem dX4_goesAs_11 : decode cX4_goesAs 11 = .ok (.aload_n 0, 1) := by decide +kernel
theorem dX4_goesAs_12 : decode cX4_goesAs 12 = .ok (.invokevirtual 102, 3) := by decide +kernel
theorem dX4_goesAs_15 : decode cX4_goesAs 15 = .ok (.aload_n 1, 1) := by decide +kernel
theorem dX4_goesAs_16 : decode cX4_goesAs 16 = .ok (.getfield 105, 3) := by decide +kernel
theorem dX4_goesAs_19 : decode cX4_goesAs 19 = .ok (.iload_n 2, 1) := by decide +kernel
theorem dX4_goesAs_20 : decode cX4_goesAs 20 = .ok (.iaload, 1) := by decide +kernel
theorem dX4_goesAs_21 : decode cX4_goesAs 21 = .ok (.iconst (-1), 1) := by decide +kernel
theorem dX4_goesAs_22 : decode cX4_goesAs 22 = .ok (.if_icmp .eq 18, 3) := by decide +kernel
theorem dX4_goesAs_25 : decode cX4_goesAs 25 = .ok (.aload_n 1, 1) := by decide +kernel
theorem dX4_goesAs_26 : decode cX4_goesAs 26 = .ok (.getfield 105, 3) := by decide +kernel
theorem dX4_goesAs_29 : decode cX4_goesAs 29 = .ok (.iload_n 2, 1) := by decide +kernel
theorem dX4_goesAs_30 : decode cX4_goesAs 30 = .ok (.iaload, 1) := by decide +kernel
theorem dX4_goesAs_31 : decode cX4_goesAs 31 = .ok (.aload_n 0, 1) := by decide +kernel
theorem dX4_goesAs_32 : decode cX4_goesAs 32 = .ok (.getfield 44, 3) := by decide +kernel
theorem dX4_goesAs_35 : decode cX4_goesAs 35 = .ok (.if_icmp .eq 5, 3) := by decide +kernel
theorem dX4_goesAs_38 : decode cX4_goesAs 38 = .ok (.iconst 0, 1) := by decide +kernel
theorem dX4_goesAs_39 : decode cX4_goesAs 39 = .ok (.ireturn, 1) := by decide +kernel
theorem dX4_goesAs_40 : decode cX4_goesAs 40 = .ok (.iinc 2 1, 3) := by decide +kernel
theorem dX4_goesAs_43 : decode cX4_goesAs 43 = .ok (.goto (-41), 3) := by decide +kernel
theorem dX4_goesAs_46 : decode cX4_goesAs 46 = .ok (.iconst 1, 1) := by decide +kernel
theorem dX4_goesAs_47 : decode cX4_goesAs 47 = .ok (.ireturn, 1) := by decide +kernel
def pc_X4_goesAs (i : Nat) : Nat := ([0, 2, 11, 25, 38, 40, 46] : List Nat).getD i 0
set_option maxRecDepth 20000 in
theorem ob_X4_goesAs_0 {x : ip_Cx} {G : ip_Gl} {d : Nat} (X : ip_X x G tb 3 d 0 0 RX4 cX4_goesAs) (hr : x.2.2.2.2.2.2.2.2.1.sig.returnType = (some .boolean)) (hnm : x.2.2.2.2.2.2.2.2.1.name = "goesAs") : ip_okB x G 3 pc_X4_goesAs 0 ([oI (0), oStI 2], tGo 1) := ⟨_, okC (ok_ic X (by decide) dX4_goesAs_0)
  (okC (ok_istn X rfl (by decide) dX4_goesAs_1)
  (okN)), ok_fall rfl⟩
set_option maxRecDepth 20000 in
theorem ob_X4_goesAs_1 {x : ip_Cx} {G : ip_Gl} {d : Nat} (X : ip_X x G tb 3 d 0 0 RX4 cX4_goesAs) (hr : x.2.2.2.2.2.2.2.2.1.sig.returnType = (some .boolean)) (hnm : x.2.2.2.2.2.2.2.2.1.name = "goesAs") : ip_okB x G 3 pc_X4_goesAs 2 ([oLdI 2, oLdA 1, oGet 2 1, oLen], tCm (fun a b => a < b) 2 6) := ⟨_, okC (ok_ildn X rfl dX4_goesAs_2)
  (okC (ok_aldn X rfl dX4_goesAs_3)
  (okC (ok_get X (ci := 2) rfl (by decide) iw_X2 tw_700 dX4_goesAs_4)
  (okC (ok_len X dX4_goesAs_7)
  (okN)))), ok_cmge X (by decide) rfl dX4_goesAs_8⟩
set_option maxRecDepth 20000 in
theorem ob_X4_goesAs_2 {x : ip_Cx} {G : ip_Gl} {d : Nat} (X : ip_X x G tb 3 d 0 0 RX4 cX4_goesAs) (hr : x.2.2.2.2.2.2.2.2.1.sig.returnType = (some .boolean)) (hnm : x.2.2.2.2.2.2.2.2.1.name = "goesAs") : ip_okB x G 3 pc_X4_goesAs 11 ([oLdA 0, oCaV (ip_call tb d) 0 0 4 48 1 0 0, oLdA 1, oGet 2 1, oLdI 2, oAldI, oI (-1)], tCm (fun a b => a = b) 5 3) := ⟨_, okC (ok_aldn X rfl dX4_goesAs_11)
  (okC (ok_calV X (i := 102) (e := en_48) rfl mt_48 rfl rfl rfl tw_559 tw_492 (Or.inl ⟨_, _, rfl⟩) tw_493 dX4_goesAs_12)
  (okC (ok_aldn X rfl dX4_goesAs_15)
  (okC (ok_get X (ci := 2) rfl (by decide) iw_X2 tw_700 dX4_goesAs_16)
  (okC (ok_ildn X rfl dX4_goesAs_19)
  (okC (ok_iald X dX4_goesAs_20)
  (okC (ok_ic X (by decide) dX4_goesAs_21)
  (okN))))))), ok_cmeq X (by decide) rfl dX4_goesAs_22⟩
set_option maxRecDepth 20000 in
theorem ob_X4_goesAs_3 {x : ip_Cx} {G : ip_Gl} {d : Nat} (X : ip_X x G tb 3 d 0 0 RX4 cX4_goesAs) (hr : x.2.2.2.2.2.2.2.2.1.sig.returnType = (some .boolean)) (hnm : x.2.2.2.2.2.2.2.2.1.name = "goesAs") : ip_okB x G 3 pc_X4_goesAs 25 ([oLdA 1, oGet 2 1, oLdI 2, oAldI, oLdA 0, oGet 4 6], tCm (fun a b => a = b) 5 4) := ⟨_, okC (ok_aldn X rfl dX4_goesAs_25)
  (okC (ok_get X (ci := 2) rfl (by decide) iw_X2 tw_700 dX4_goesAs_26)
  (okC (ok_ildn X rfl dX4_goesAs_29)
  (okC (ok_iald X dX4_goesAs_30)
  (okC (ok_aldn X rfl dX4_goesAs_31)
  (okC (ok_get X (ci := 4) rfl (by decide) iw_X4 tw_111 dX4_goesAs_32)
  (okN)))))), ok_cmeq X (by decide) rfl dX4_goesAs_35⟩
set_option maxRecDepth 20000 in
theorem ob_X4_goesAs_4 {x : ip_Cx} {G : ip_Gl} {d : Nat} (X : ip_X x G tb 3 d 0 0 RX4 cX4_goesAs) (hr : x.2.2.2.2.2.2.2.2.1.sig.returnType = (some .boolean)) (hnm : x.2.2.2.2.2.2.2.2.1.name = "goesAs") : ip_okB x G 3 pc_X4_goesAs 38 ([oI (0)], tRI .boolean 0 0) := ⟨_, okC (ok_ic X (by decide) dX4_goesAs_38)
  (okN), ok_ret X hr dX4_goesAs_39⟩
set_option maxRecDepth 20000 in
theorem ob_X4_goesAs_5 {x : ip_Cx} {G : ip_Gl} {d : Nat} (X : ip_X x G tb 3 d 0 0 RX4 cX4_goesAs) (hr : x.2.2.2.2.2.2.2.2.1.sig.returnType = (some .boolean)) (hnm : x.2.2.2.2.2.2.2.2.1.name = "goesAs") : ip_okB x G 3 pc_X4_goesAs 40 ([oInc 2 (1)], tGo 1) := ⟨_, okC (ok_inc X (by decide) dX4_goesAs_40)
  (okN), ok_go X (by decide) dX4_goesAs_43⟩
set_option maxRecDepth 20000 in
theorem ob_X4_goesAs_6 {x : ip_Cx} {G : ip_Gl} {d : Nat} (X : ip_X x G tb 3 d 0 0 RX4 cX4_goesAs) (hr : x.2.2.2.2.2.2.2.2.1.sig.returnType = (some .boolean)) (hnm : x.2.2.2.2.2.2.2.2.1.name = "goesAs") : ip_okB x G 3 pc_X4_goesAs 46 ([oI (1)], tRI .boolean 0 0) := ⟨_, okC (ok_ic X (by decide) dX4_goesAs_46)
  (okN), ok_ret X hr dX4_goesAs_47⟩
theorem om_50 : ip_MOk tb en_50 pc_X4_goesAs := fun x G d X hr hnm => ⟨ob_X4_goesAs_0 X hr hnm, ⟨ob_X4_goesAs_1 X hr hnm, ⟨ob_X4_goesAs_2 X hr hnm, ⟨ob_X4_goesAs_3 X hr hnm, ⟨ob_X4_goesAs_4 X hr hnm, ⟨ob_X4_goesAs_5 X hr hnm, ⟨ob_X4_goesAs_6 X hr hnm, trivial⟩⟩⟩⟩⟩⟩⟩
theorem dX5_init_0 : decode cX5_init 0 = .ok (.aload_n 0, 1) := by decide +kernel
theorem dX5_init_1 : decode cX5_init 1 = .ok (.invokespecial 1, 3) := by decide +kernel
theorem dX5_init_4 : decode cX5_init 4 = .ok (.aload_n 0, 1) := by decide +kernel
theorem dX5_init_5 : decode cX5_init 5 = .ok (.new 7, 3) := by decide +kernel
theorem dX5_init_8 : decode cX5_init 8 = .ok (.dup, 1) := by decide +kernel
theorem dX5_init_9 : decode cX5_init 9 = .ok (.invokespecial 9, 3) := by decide +kernel
theorem dX5_init_12 : decode cX5_init 12 = .ok (.putfield 10, 3) := by decide +kernel
theorem dX5_init_15 : decode cX5_init 15 = .ok (.aload_n 0, 1) := by decide +kernel
theorem dX5_init_16 : decode cX5_init 16 = .ok (.new 7, 3) := by decide +kernel
theorem dX5_init_19 : decode cX5_init 19 = .ok (.dup, 1) := by decide +kernel
theorem dX5_init_20 : decode cX5_init 20 = .ok (.invokespecial 9, 3) := by decide +kernel
theorem dX5_init_23 : decode cX5_init 23 = .ok (.putfield 16, 3) := by decide +kernel
theorem dX5_init_26 : decode cX5_init 26 = .ok (.aload_n 0, 1) := by decide +kernel
theorem dX5_init_27 : decode cX5_init 27 = .ok (.new 7, 3) := by decide +kernel
theorem dX5_init_30 : decode cX5_init 30 = .ok (.dup, 1) := by decide +kernel
theorem dX5_init_31 : decode cX5_init 31 = .ok (.invokespecial 9, 3) := by decide +kernel
theorem dX5_init_34 : decode cX5_init 34 = .ok (.putfield 19, 3) := by decide +kernel
theorem dX5_init_37 : decode cX5_init 37 = .ok (.aload_n 0, 1) := by decide +kernel
theorem dX5_init_38 : decode cX5_init 38 = .ok (.iconst 0, 1) := by decide +kernel
theorem dX5_init_39 : decode cX5_init 39 = .ok (.putfield 22, 3) := by decide +kernel
theorem dX5_init_42 : decode cX5_init 42 = .ok (.aload_n 0, 1) := by decide +kernel
theorem dX5_init_43 : decode cX5_init 43 = .ok (.new 26, 3) := by decide +kernel
theorem dX5_init_46 : decode cX5_init 46 = .ok (.dup, 1) := by decide +kernel
theorem dX5_init_47 : decode cX5_init 47 = .ok (.invokespecial 28, 3) := by decide +kernel
theorem dX5_init_50 : decode cX5_init 50 = .ok (.putfield 29, 3) := by decide +kernel
theorem dX5_init_53 : decode cX5_init 53 = .ok (.aload_n 0, 1) := by decide +kernel
theorem dX5_init_54 : decode cX5_init 54 = .ok (.new 33, 3) := by decide +kernel
theorem dX5_init_57 : decode cX5_init 57 = .ok (.dup, 1) := by decide +kernel
theorem dX5_init_58 : decode cX5_init 58 = .ok (.invokespecial 35, 3) := by decide +kernel
theorem dX5_init_61 : decode cX5_init 61 = .ok (.putfield 36, 3) := by decide +kernel
theorem dX5_init_64 : decode cX5_init 64 = .ok (.aload_n 0, 1) := by decide +kernel
theorem dX5_init_65 : decode cX5_init 65 = .ok (.new 40, 3) := by decide +kernel
theorem dX5_init_68 : decode cX5_init 68 = .ok (.dup, 1) := by decide +kernel
theorem dX5_init_69 : decode cX5_init 69 = .ok (.invokespecial 42, 3) := by decide +kernel
theorem dX5_init_72 : decode cX5_init 72 = .ok (.putfield 43, 3) := by decide +kernel
theorem dX5_init_75 : decode cX5_init 75 = .ok (.aload_n 0, 1) := by decide +kernel
theorem dX5_init_76 : decode cX5_init 76 = .ok (.bipush 30, 2) := by decide +kernel
theorem dX5_init_78 : decode cX5_init 78 = .ok (.newarray .int, 2) := by decide +kernel
theorem dX5_init_80 : decode cX5_init 80 = .ok (.putfield 47, 3) := by decide +kernel
theorem dX5_init_83 : decode cX5_init 83 = .ok (.aload_n 0, 1) := by decide +kernel
theorem dX5_init_84 : decode cX5_init 84 = .ok (.iconst 0, 1) := by decide +kernel
theorem dX5_init_85 : decode cX5_init 85 = .ok (.putfield 51, 3) := by decide +kernel
theorem dX5_init_88 : decode cX5_init 88 = .ok (.aload_n 0, 1) := by decide +kernel
theorem dX5_init_89 : decode cX5_init 89 = .ok (.iconst 4, 1) := by decide +kernel
theorem dX5_init_90 : decode cX5_init 90 = .ok (.anewarray 55, 3) := by decide +kernel
theorem dX5_init_93 : decode cX5_init 93 = .ok (.putfield 57, 3) := by decide +kernel
theorem dX5_init_96 : decode cX5_init 96 = .ok (.aload_n 0, 1) := by decide +kernel
theorem dX5_init_97 : decode cX5_init 97 = .ok (.iconst 4, 1) := by decide +kernel
theorem dX5_init_98 : decode cX5_init 98 = .ok (.anewarray 55, 3) := by decide +kernel
theorem dX5_init_101 : decode cX5_init 101 = .ok (.putfield 61, 3) := by decide +kernel
theorem dX5_init_104 : decode cX5_init 104 = .ok (.aload_n 0, 1) := by decide +kernel
theorem dX5_init_105 : decode cX5_init 105 = .ok (.iconst 4, 1) := by decide +kernel
theorem dX5_init_106 : decode cX5_init 106 = .ok (.newarray .int, 2) := by decide +kernel
theorem dX5_init_108 : decode cX5_init 108 = .ok (.dup, 1) := by decide +kernel
theorem dX5_init_109 : decode cX5_init 109 = .ok (.iconst 0, 1) := by decide +kernel
theorem dX5_init_110 : decode cX5_init 110 = .ok (.iconst (-1), 1) := by decide +kernel
theorem dX5_init_111 : decode cX5_init 111 = .ok (.iastore, 1) := by decide +kernel
theorem dX5_init_112 : decode cX5_init 112 = .ok (.dup, 1) := by decide +kernel
theorem dX5_init_113 : decode cX5_init 113 = .ok (.iconst 1, 1) := by decide +kernel
theorem dX5_init_114 : decode cX5_init 114 = .ok (.iconst (-1), 1) := by decide +kernel
theorem dX5_init_115 : decode cX5_init 115 = .ok (.iastore, 1) := by decide +kernel
theorem dX5_init_116 : decode cX5_init 116 = .ok (.dup, 1) := by decide +kernel
theorem dX5_init_117 : decode cX5_init 117 = .ok (.iconst 2, 1) := by decide +kernel
theorem dX5_init_118 : decode cX5_init 118 = .ok (.iconst (-1), 1) := by decide +kernel
theorem dX5_init_119 : decode cX5_init 119 = .ok (.iastore, 1) := by decide +kernel
theorem dX5_init_120 : decode cX5_init 120 = .ok (.dup, 1) := by decide +kernel
theorem dX5_init_121 : decode cX5_init 121 = .ok (.iconst 3, 1) := by decide +kernel
theorem dX5_init_122 : decode cX5_init 122 = .ok (.iconst (-1), 1) := by decide +kernel
theorem dX5_init_123 : decode cX5_init 123 = .ok (.iastore, 1) := by decide +kernel
theorem dX5_init_124 : decode cX5_init 124 = .ok (.putfield 64, 3) := by decide +kernel
theorem dX5_init_127 : decode cX5_init 127 = .ok (.return_, 1) := by decide +kernel
def pc_X5_init (i : Nat) : Nat := ([0] : List Nat).getD i 0
set_option maxRecDepth 20000 in
theorem ob_X5_init_0 {x : ip_Cx} {G : ip_Gl} {d : Nat} (X : ip_X x G tb 1 d 30 459 RX5 cX5_init) (hr : x.2.2.2.2.2.2.2.2.1.sig.returnType = none) (hnm : x.2.2.2.2.2.2.2.2.1.name = "<init>") : ip_okB x G 1 pc_X5_init 0 ([oLdA 0, oObj, oLdA 0, oNew 30 459 1 [.null, .int 0, .int 0, .int 0, .int 0, .null, .null, .null, .null, .null, .int 0], oDup, oCaV (ip_call tb d) 30 459 1 7 1 6 44, oPut 5 0 (.object "TruthRope$Ring"), oLdA 0, oNew 30 459 1 [.null, .int 0, .int 0, .int 0, .int 0, .null, .null, .null, .null, .null, .int 0], oDup, oCaV (ip_call tb d) 30 459 1 7 1 6 44, oPut 5 1 (.object "TruthRope$Ring"), oLdA 0, oNew 30 459 1 [.null, .int 0, .int 0, .int 0, .int 0, .null, .null, .null, .null, .null, .int 0], oDup, oCaV (ip_call tb d) 30 459 1 7 1 6 44, oPut 5 2 (.object "TruthRope$Ring"), oLdA 0, oI (0), oPut 5 3 .boolean, oLdA 0, oNew 30 459 4 [.int 0, .int 0, .int 0, .int 0, .int 0, .int 0, .int 0, .int 0, .int 0, .int 0], oDup, oCaV (ip_call tb d) 30 459 4 38 1 0 0, oPut 5 4 (.object "TruthRope$Trial"), oLdA 0, oNew 30 459 3 [.null, .int 0, .int 0, .int 0, .int 0, .int 0], oDup, oCaV (ip_call tb d) 30 459 3 22 1 1 200, oPut 5 5 (.object "TruthRope$Text"), oLdA 0, oNew 30 459 0 [.null, .int 0, .int 0, .int 0, .int 0, .int 0], oDup, oCaV (ip_call tb d) 30 459 0 0 1 1 30, oPut 5 6 (.object "TruthRope$Deed"), oLdA 0, oI (30), oNwA 30 459 .int (fun N => (N, .inl (fun _ => 0))), oPut 5 7 (.array .int), oLdA 0, oI (0), oPut 5 8 .int, oLdA 0, oI (4), oNwA 30 459 (.object RX2) (fun N => (N, .inr (.inr (.inr (.inr (fun _ => none)))))), oPut 5 9 (.array (.object "TruthRope$Strip")), oLdA 0, oI (4), oNwA 30 459 (.object RX2) (fun N => (N, .inr (.inr (.inr (.inr (fun _ => none)))))), oPut 5 10 (.array (.object "TruthRope$Strip")), oLdA 0, oI (4), oNwA 30 459 .int (fun N => (N, .inl (fun _ => 0))), oDup, oI (0), oI (-1), oAstI, oDup, oI (1), oI (-1), oAstI, oDup, oI (2), oI (-1), oAstI, oDup, oI (3), oI (-1), oAstI, oPut 5 11 (.array .int)], tRV 30 459) := ⟨_, okC (ok_aldn X rfl dX5_init_0)
  (okC (ok_obj X tw_20 tw_21 tw_22 dX5_init_1)
  (okC (ok_aldn X rfl dX5_init_4)
  (okC (ok_new X (ci := 1) rfl iw_X1 tyX1_ok rfl tw_23 tw_24 tw_2 dX5_init_5)
  (okC (ok_dup X dX5_init_8)
  (okC (ok_calI X (i := 9) (e := en_7) rfl mt_7 rfl rfl rfl tw_25 tw_26 rfl rfl dX5_init_9)
  (okC (ok_put X (ci := 5) rfl (by decide) iw_X5 tyX5_ok nmX5 rfl (Or.inr ⟨rfl, hnm, rfl⟩) tw_198 dX5_init_12)
  (okC (ok_aldn X rfl dX5_init_15)
  (okC (ok_new X (ci := 1) rfl iw_X1 tyX1_ok rfl tw_23 tw_24 tw_2 dX5_init_16)
  (okC (ok_dup X dX5_init_19)
  (okC (ok_calI X (i := 9) (e := en_7) rfl mt_7 rfl rfl rfl tw_25 tw_26 rfl rfl dX5_init_20)
  (okC (ok_put X (ci := 5) rfl (by decide) iw_X5 tyX5_ok nmX5 rfl (Or.inr ⟨rfl, hnm, rfl⟩) tw_199 dX5_init_23)
  (okC (ok_aldn X rfl dX5_init_26)
  (okC (ok_new X (ci := 1) rfl iw_X1 tyX1_ok rfl tw_23 tw_24 tw_2 dX5_init_27)
  (okC (ok_dup X dX5_init_30)
  (okC (ok_calI X (i := 9) (e := en_7) rfl mt_7 rfl rfl rfl tw_25 tw_26 rfl rfl dX5_init_31)
  (okC (ok_put X (ci := 5) rfl (by decide) iw_X5 tyX5_ok nmX5 rfl (Or.inr ⟨rfl, hnm, rfl⟩) tw_200 dX5_init_34)
  (okC (ok_aldn X rfl dX5_init_37)
  (okC (ok_ic X (by decide) dX5_init_38)
  (okC (ok_put X (ci := 5) rfl (by decide) iw_X5 tyX5_ok nmX5 rfl (Or.inl rfl) tw_201 dX5_init_39)
  (okC (ok_aldn X rfl dX5_init_42)
  (okC (ok_new X (ci := 4) rfl iw_X4 tyX4_ok rfl tw_97 tw_98 tw_4 dX5_init_43)
  (okC (ok_dup X dX5_init_46)
  (okC (ok_calIN X (i := 28) (e := en_38) rfl mt_38 rfl rfl rfl (List.mem_of_getElem? (i := 0) rfl) tw_100 rfl rfl dX5_init_47)
  (okC (ok_put X (ci := 5) rfl (by decide) iw_X5 tyX5_ok nmX5 rfl (Or.inr ⟨rfl, hnm, rfl⟩) tw_202 dX5_init_50)
  (okC (ok_aldn X rfl dX5_init_53)
  (okC (ok_new X (ci := 3) rfl iw_X3 tyX3_ok rfl tw_142 tw_143 tw_5 dX5_init_54)
  (okC (ok_dup X dX5_init_57)
  (okC (ok_calIN X (i := 35) (e := en_22) rfl mt_22 rfl rfl rfl (List.mem_of_getElem? (i := 1) rfl) tw_145 rfl rfl dX5_init_58)
  (okC (ok_put X (ci := 5) rfl (by decide) iw_X5 tyX5_ok nmX5 rfl (Or.inr ⟨rfl, hnm, rfl⟩) tw_203 dX5_init_61)
  (okC (ok_aldn X rfl dX5_init_64)
  (okC (ok_new X (ci := 0) rfl iw_X0 tyX0_ok rfl tw_169 tw_170 tw_6 dX5_init_65)
  (okC (ok_dup X dX5_init_68)
  (okC (ok_calIN X (i := 42) (e := en_0) rfl mt_0 rfl rfl rfl (List.mem_of_getElem? (i := 2) rfl) tw_172 rfl rfl dX5_init_69)
  (okC (ok_put X (ci := 5) rfl (by decide) iw_X5 tyX5_ok nmX5 rfl (Or.inr ⟨rfl, hnm, rfl⟩) tw_204 dX5_init_72)
  (okC (ok_aldn X rfl dX5_init_75)
  (okC (ok_bi X (by decide) dX5_init_76)
  (okC (ok_nwI X tw_96 dX5_init_78)
  (okC (ok_put X (ci := 5) rfl (by decide) iw_X5 tyX5_ok nmX5 rfl (Or.inr ⟨rfl, hnm, rfl⟩) tw_205 dX5_init_80)
  (okC (ok_aldn X rfl dX5_init_83)
  (okC (ok_ic X (by decide) dX5_init_84)
  (okC (ok_put X (ci := 5) rfl (by decide) iw_X5 tyX5_ok nmX5 rfl (Or.inl rfl) tw_206 dX5_init_85)
  (okC (ok_aldn X rfl dX5_init_88)
  (okC (ok_ic X (by decide) dX5_init_89)
  (okC (ok_nwQ X tw_196 dX5_init_90)
  (okC (ok_put X (ci := 5) rfl (by decide) iw_X5 tyX5_ok nmX5 rfl (Or.inr ⟨rfl, hnm, rfl⟩) tw_207 dX5_init_93)
  (okC (ok_aldn X rfl dX5_init_96)
  (okC (ok_ic X (by decide) dX5_init_97)
  (okC (ok_nwQ X tw_196 dX5_init_98)
  (okC (ok_put X (ci := 5) rfl (by decide) iw_X5 tyX5_ok nmX5 rfl (Or.inr ⟨rfl, hnm, rfl⟩) tw_208 dX5_init_101)
  (okC (ok_aldn X rfl dX5_init_104)
  (okC (ok_ic X (by decide) dX5_init_105)
  (okC (ok_nwI X tw_96 dX5_init_106)
  (okC (ok_dup X dX5_init_108)
  (okC (ok_ic X (by decide) dX5_init_109)
  (okC (ok_ic X (by decide) dX5_init_110)
  (okC (ok_iast X dX5_init_111)
  (okC (ok_dup X dX5_init_112)
  (okC (ok_ic X (by decide) dX5_init_113)
  (okC (ok_ic X (by decide) dX5_init_114)
  (okC (ok_iast X dX5_init_115)
  (okC (ok_dup X dX5_init_116)
  (okC (ok_ic X (by decide) dX5_init_117)
  (okC (ok_ic X (by decide) dX5_init_118)
  (okC (ok_iast X dX5_init_119)
  (okC (ok_dup X dX5_init_120)
  (okC (ok_ic X (by decide) dX5_init_121)
  (okC (ok_ic X (by decide) dX5_init_122)
  (okC (ok_iast X dX5_init_123)
  (okC (ok_put X (ci := 5) rfl (by decide) iw_X5 tyX5_ok nmX5 rfl (Or.inr ⟨rfl, hnm, rfl⟩) tw_209 dX5_init_124)
  (okN)))))))))))))))))))))))))))))))))))))))))))))))))))))))))))))))))))))), ok_vret X hr dX5_init_127⟩
theorem om_51 : ip_MOk tb en_51 pc_X5_init := fun x G d X hr hnm => ⟨ob_X5_init_0 X hr hnm, trivial⟩
theorem dX5_feed_0 : decode cX5_feed 0 = .ok (.iload_n 3, 1) := by decide +kernel
theorem dX5_feed_1 : decode cX5_feed 1 = .ok (.iconst 1, 1) := by decide +kernel
theorem dX5_feed_2 : decode cX5_feed 2 = .ok (.bipush 8, 2) := by decide +kernel
theorem dX5_feed_4 : decode cX5_feed 4 = .ok (.invokestatic 67, 3) := by decide +kernel
theorem dX5_feed_7 : decode cX5_feed 7 = .ok (.ifCond .ne 5, 3) := by decide +kernel
theorem dX5_feed_10 : decode cX5_feed 10 = .ok (.iconst (-1), 1) := by decide +kernel
theorem dX5_feed_11 : decode cX5_feed 11 = .ok (.ireturn, 1) := by decide +kernel
theorem dX5_feed_12 : decode cX5_feed 12 = .ok (.aload_n 0, 1) := by decide +kernel
theorem dX5_feed_13 : decode cX5_feed 13 = .ok (.getfield 36, 3) := by decide +kernel
theorem dX5_feed_16 : decode cX5_feed 16 = .ok (.getfield 71, 3) := by decide +kernel
theorem dX5_feed_19 : decode cX5_feed 19 = .ok (.iload_n 3, 1) := by decide +kernel
theorem dX5_feed_20 : decode cX5_feed 20 = .ok (.iadd, 1) := by decide +kernel
theorem dX5_feed_21 : decode cX5_feed 21 = .ok (.sipush 200, 3) := by decide +kernel
theorem dX5_feed_24 : decode cX5_feed 24 = .ok (.if_icmp .le 6, 3) := by decide +kernel
theorem dX5_feed_27 : decode cX5_feed 27 = .ok (.bipush (-2), 2) := by decide +kernel
theorem dX5_feed_29 : decode cX5_feed 29 = .ok (.ireturn, 1) := by decide +kernel
theorem dX5_feed_30 : decode cX5_feed 30 = .ok (.iconst 0, 1) := by decide +kernel
theorem dX5_feed_31 : decode cX5_feed 31 = .ok (.istore 4, 2) := by decide +kernel
theorem dX5_feed_33 : decode cX5_feed 33 = .ok (.iload 4, 2) := by decide +kernel
theorem dX5_feed_35 : decode cX5_feed 35 = .ok (.iload_n 3, 1) := by decide +kernel
theorem dX5_feed_36 : decode cX5_feed 36 = .ok (.if_icmp .ge 25, 3) := by decide +kernel
theorem dX5_feed_39 : decode cX5_feed 39 = .ok (.aload_n 0, 1) := by decide +kernel
theorem dX5_feed_40 : decode cX5_feed 40 = .ok (.getfield 36, 3) := by decide +kernel
theorem dX5_feed_43 : decode cX5_feed 43 = .ok (.lload_n 1, 1) := by decide +kernel
theorem dX5_feed_44 : decode cX5_feed 44 = .ok (.bipush 8, 2) := by decide +kernel
theorem dX5_feed_46 : decode cX5_feed 46 = .ok (.iload 4, 2) := by decide +kernel
theorem dX5_feed_48 : decode cX5_feed 48 = .ok (.imul, 1) := by decide +kernel
theorem dX5_feed_49 : decode cX5_feed 49 = .ok (.lushr, 1) := by decide +kernel
theorem dX5_feed_50 : decode cX5_feed 50 = .ok (.l2i, 1) := by decide +kernel
theorem dX5_feed_51 : decode cX5_feed 51 = .ok (.i2b, 1) := by decide +kernel
theorem dX5_feed_52 : decode cX5_feed 52 = .ok (.invokevirtual 74, 3) := by decide +kernel
theorem dX5_feed_55 : decode cX5_feed 55 = .ok (.iinc 4 1, 3) := by decide +kernel
theorem dX5_feed_58 : decode cX5_feed 58 = .ok (.goto (-25), 3) := by decide +kernel
theorem dX5_feed_61 : decode cX5_feed 61 = .ok (.aload_n 0, 1) := by decide +kernel
theorem dX5_feed_62 : decode cX5_feed 62 = .ok (.getfield 36, 3) := by decide +kernel
theorem dX5_feed_65 : decode cX5_feed 65 = .ok (.getfield 71, 3) := by decide +kernel
theorem dX5_feed_68 : decode cX5_feed 68 = .ok (.ireturn, 1) := by decide +kernel
def pc_X5_feed (i : Nat) : Nat := ([0, 10, 12, 27, 30, 33, 39, 61] : List Nat).getD i 0
set_option maxRecDepth 20000 in
theorem ob_X5_feed_0 {x : ip_Cx} {G : ip_Gl} {d : Nat} (X : ip_X x G tb 5 d 0 0 RX5 cX5_feed) (hr : x.2.2.2.2.2.2.2.2.1.sig.returnType = (some .int)) (hnm : x.2.2.2.2.2.2.2.2.1.name = "feed") : ip_okB x G 5 pc_X5_feed 0 ([oLdI 3, oI (1), oI (8), oCal (ip_call tb d) 0 0 95 3 0 0], tIf (fun a => a = 0) 1 2) := ⟨_, okC (ok_ildn X rfl dX5_feed_0)
  (okC (ok_ic X (by decide) dX5_feed_1)
  (okC (ok_bi X (by decide) dX5_feed_2)
  (okC (ok_calS X (i := 67) (e := en_95) rfl mt_95 rfl rfl rfl tw_239 tw_240 dX5_feed_4)
  (okN)))), ok_ifne X (by decide) rfl dX5_feed_7⟩
set_option maxRecDepth 20000 in
theorem ob_X5_feed_1 {x : ip_Cx} {G : ip_Gl} {d : Nat} (X : ip_X x G tb 5 d 0 0 RX5 cX5_feed) (hr : x.2.2.2.2.2.2.2.2.1.sig.returnType = (some .int)) (hnm : x.2.2.2.2.2.2.2.2.1.name = "feed") : ip_okB x G 5 pc_X5_feed 10 ([oI (-1)], tRI .int 0 0) := ⟨_, okC (ok_ic X (by decide) dX5_feed_10)
  (okN), ok_ret X hr dX5_feed_11⟩
set_option maxRecDepth 20000 in
theorem ob_X5_feed_2 {x : ip_Cx} {G : ip_Gl} {d : Nat} (X : ip_X x G tb 5 d 0 0 RX5 cX5_feed) (hr : x.2.2.2.2.2.2.2.2.1.sig.returnType = (some .int)) (hnm : x.2.2.2.2.2.2.2.2.1.name = "feed") : ip_okB x G 5 pc_X5_feed 12 ([oLdA 0, oGet 5 5, oGet 3 1, oLdI 3, oBI (fun a b => a + b), oI (200)], tCm (fun a b => b < a) 3 4) := ⟨_, okC (ok_aldn X rfl dX5_feed_12)
  (okC (ok_get X (ci := 5) rfl (by decide) iw_X5 tw_203 dX5_feed_13)
  (okC (ok_get X (ci := 3) rfl (by decide) iw_X3 tw_150 dX5_feed_16)
  (okC (ok_ildn X rfl dX5_feed_19)
  (okC (ok_iadd X dX5_feed_20)
  (okC (ok_si X (by decide) dX5_feed_21)
  (okN)))))), ok_cmle X (by decide) rfl dX5_feed_24⟩
set_option maxRecDepth 20000 in
theorem ob_X5_feed_3 {x : ip_Cx} {G : ip_Gl} {d : Nat} (X : ip_X x G tb 5 d 0 0 RX5 cX5_feed) (hr : x.2.2.2.2.2.2.2.2.1.sig.returnType = (some .int)) (hnm : x.2.2.2.2.2.2.2.2.1.name = "feed") : ip_okB x G 5 pc_X5_feed 27 ([oI (-2)], tRI .int 0 0) := ⟨_, okC (ok_bi X (by decide) dX5_feed_27)
  (okN), ok_ret X hr dX5_feed_29⟩
set_option maxRecDepth 20000 in
theorem ob_X5_feed_4 {x : ip_Cx} {G : ip_Gl} {d : Nat} (X : ip_X x G tb 5 d 0 0 RX5 cX5_feed) (hr : x.2.2.2.2.2.2.2.2.1.sig.returnType = (some .int)) (hnm : x.2.2.2.2.2.2.2.2.1.name = "feed") : ip_okB x G 5 pc_X5_feed 30 ([oI (0), oStI 4], tGo 5) := ⟨_, okC (ok_ic X (by decide) dX5_feed_30)
  (okC (ok_ist X (by decide) dX5_feed_31)
  (okN)), ok_fall rfl⟩
set_option maxRecDepth 20000 in
theorem ob_X5_feed_5 {x : ip_Cx} {G : ip_Gl} {d : Nat} (X : ip_X x G tb 5 d 0 0 RX5 cX5_feed) (hr : x.2.2.2.2.2.2.2.2.1.sig.returnType = (some .int)) (hnm : x.2.2.2.2.2.2.2.2.1.name = "feed") : ip_okB x G 5 pc_X5_feed 33 ([oLdI 4, oLdI 3], tCm (fun a b => a < b) 6 7) := ⟨_, okC (ok_ild X dX5_feed_33)
  (okC (ok_ildn X rfl dX5_feed_35)
  (okN)), ok_cmge X (by decide) rfl dX5_feed_36⟩
set_option maxRecDepth 20000 in
theorem ob_X5_feed_6 {x : ip_Cx} {G : ip_Gl} {d : Nat} (X : ip_X x G tb 5 d 0 0 RX5 cX5_feed) (hr : x.2.2.2.2.2.2.2.2.1.sig.returnType = (some .int)) (hnm : x.2.2.2.2.2.2.2.2.1.name = "feed") : ip_okB x G 5 pc_X5_feed 39 ([oLdA 0, oGet 5 5, oLdL 1, oI (8), oLdI 4, oBI (fun a b => a * b), oSL (fun a b => (a.toUInt64 >>> (b.toInt64.toUInt64 &&& Int64.toUInt64 63)).toInt64), oLI, oUI (fun a => a.toInt8.toInt32), oCaV (ip_call tb d) 0 0 3 23 2 0 0, oInc 4 (1)], tGo 5) := ⟨_, okC (ok_aldn X rfl dX5_feed_39)
  (okC (ok_get X (ci := 5) rfl (by decide) iw_X5 tw_203 dX5_feed_40)
  (okC (ok_lldn X rfl dX5_feed_43)
  (okC (ok_bi X (by decide) dX5_feed_44)
  (okC (ok_ild X dX5_feed_46)
  (okC (ok_imul X dX5_feed_48)
  (okC (ok_lushr X dX5_feed_49)
  (okC (ok_l2i X dX5_feed_50)
  (okC (ok_i2b X dX5_feed_51)
  (okC (ok_calV X (i := 74) (e := en_23) rfl mt_23 rfl rfl rfl tw_242 tw_243 (Or.inl ⟨_, _, rfl⟩) tw_244 dX5_feed_52)
  (okC (ok_inc X (by decide) dX5_feed_55)
  (okN))))))))))), ok_go X (by decide) dX5_feed_58⟩
set_option maxRecDepth 20000 in
theorem ob_X5_feed_7 {x : ip_Cx} {G : ip_Gl} {d : Nat} (X : ip_X x G tb 5 d 0 0 RX5 cX5_feed) (hr : x.2.2.2.2.2.2.2.2.1.sig.returnType = (some .int)) (hnm : x.2.2.2.2.2.2.2.2.1.name = "feed") : ip_okB x G 5 pc_X5_feed 61 ([oLdA 0, oGet 5 5, oGet 3 1], tRI .int 0 0) := ⟨_, okC (ok_aldn X rfl dX5_feed_61)
  (okC (ok_get X (ci := 5) rfl (by decide) iw_X5 tw_203 dX5_feed_62)
  (okC (ok_get X (ci := 3) rfl (by decide) iw_X3 tw_150 dX5_feed_65)
  (okN))), ok_ret X hr dX5_feed_68⟩
theorem om_52 : ip_MOk tb en_52 pc_X5_feed := fun x G d X hr hnm => ⟨ob_X5_feed_0 X hr hnm, ⟨ob_X5_feed_1 X hr hnm, ⟨ob_X5_feed_2 X hr hnm, ⟨ob_X5_feed_3 X hr hnm, ⟨ob_X5_feed_4 X hr hnm, ⟨ob_X5_feed_5 X hr hnm, ⟨ob_X5_feed_6 X hr hnm, ⟨ob_X5_feed_7 X hr hnm, trivial⟩⟩⟩⟩⟩⟩⟩⟩
