theorem dX5_circus_0 : decode cX5_circus 0 = .ok (.aload_n 0, 1) := by decide +kernel
theorem dX5_circus_1 : decode cX5_circus 1 = .ok (.getfield 16, 3) := by decide +kernel
theorem dX5_circus_4 : decode cX5_circus 4 = .ok (.invokevirtual 78, 3) := by decide +kernel
theorem dX5_circus_7 : decode cX5_circus 7 = .ok (.aload_n 0, 1) := by decide +kernel
theorem dX5_circus_8 : decode cX5_circus 8 = .ok (.getfield 16, 3) := by decide +kernel
theorem dX5_circus_11 : decode cX5_circus 11 = .ok (.aload_n 0, 1) := by decide +kernel
theorem dX5_circus_12 : decode cX5_circus 12 = .ok (.getfield 10, 3) := by decide +kernel
theorem dX5_circus_15 : decode cX5_circus 15 = .ok (.getfield 81, 3) := by decide +kernel
theorem dX5_circus_18 : decode cX5_circus 18 = .ok (.putfield 81, 3) := by decide +kernel
theorem dX5_circus_21 : decode cX5_circus 21 = .ok (.aload_n 0, 1) := by decide +kernel
theorem dX5_circus_22 : decode cX5_circus 22 = .ok (.getfield 36, 3) := by decide +kernel
theorem dX5_circus_25 : decode cX5_circus 25 = .ok (.aload_n 0, 1) := by decide +kernel
theorem dX5_circus_26 : decode cX5_circus 26 = .ok (.getfield 16, 3) := by decide +kernel
theorem dX5_circus_29 : decode cX5_circus 29 = .ok (.invokevirtual 84, 3) := by decide +kernel
theorem dX5_circus_32 : decode cX5_circus 32 = .ok (.istore_n 1, 1) := by decide +kernel
theorem dX5_circus_33 : decode cX5_circus 33 = .ok (.aload_n 0, 1) := by decide +kernel
theorem dX5_circus_34 : decode cX5_circus 34 = .ok (.getfield 36, 3) := by decide +kernel
theorem dX5_circus_37 : decode cX5_circus 37 = .ok (.iconst 0, 1) := by decide +kernel
theorem dX5_circus_38 : decode cX5_circus 38 = .ok (.putfield 71, 3) := by decide +kernel
theorem dX5_circus_41 : decode cX5_circus 41 = .ok (.iload_n 1, 1) := by decide +kernel
theorem dX5_circus_42 : decode cX5_circus 42 = .ok (.ifCond .lt 8, 3) := by decide +kernel
theorem dX5_circus_45 : decode cX5_circus 45 = .ok (.bipush (-100), 2) := by decide +kernel
theorem dX5_circus_47 : decode cX5_circus 47 = .ok (.iload_n 1, 1) := by decide +kernel
theorem dX5_circus_48 : decode cX5_circus 48 = .ok (.isub, 1) := by decide +kernel
theorem dX5_circus_49 : decode cX5_circus 49 = .ok (.ireturn, 1) := by decide +kernel
theorem dX5_circus_50 : decode cX5_circus 50 = .ok (.aload_n 0, 1) := by decide +kernel
theorem dX5_circus_51 : decode cX5_circus 51 = .ok (.getfield 10, 3) := by decide +kernel
theorem dX5_circus_54 : decode cX5_circus 54 = .ok (.aload_n 0, 1) := by decide +kernel
theorem dX5_circus_55 : decode cX5_circus 55 = .ok (.getfield 16, 3) := by decide +kernel
theorem dX5_circus_58 : decode cX5_circus 58 = .ok (.invokevirtual 88, 3) := by decide +kernel
theorem dX5_circus_61 : decode cX5_circus 61 = .ok (.aload_n 0, 1) := by decide +kernel
theorem dX5_circus_62 : decode cX5_circus 62 = .ok (.iconst 0, 1) := by decide +kernel
theorem dX5_circus_63 : decode cX5_circus 63 = .ok (.putfield 51, 3) := by decide +kernel
theorem dX5_circus_66 : decode cX5_circus 66 = .ok (.aload_n 0, 1) := by decide +kernel
theorem dX5_circus_67 : decode cX5_circus 67 = .ok (.getfield 10, 3) := by decide +kernel
theorem dX5_circus_70 : decode cX5_circus 70 = .ok (.getfield 92, 3) := by decide +kernel
theorem dX5_circus_73 : decode cX5_circus 73 = .ok (.ireturn, 1) := by decide +kernel
def pc_X5_circus (i : Nat) : Nat := ([0, 45, 50] : List Nat).getD i 0
set_option maxRecDepth 20000 in
theorem ob_X5_circus_0 {x : ip_Cx} {G : ip_Gl} {d : Nat} (X : ip_X x G tb 2 d 0 0 RX5 cX5_circus) (hr : x.2.2.2.2.2.2.2.2.1.sig.returnType = (some .int)) (hnm : x.2.2.2.2.2.2.2.2.1.name = "circus") : ip_okB x G 2 pc_X5_circus 0 ([oLdA 0, oGet 5 1, oCaV (ip_call tb d) 0 0 1 8 1 0 0, oLdA 0, oGet 5 1, oLdA 0, oGet 5 0, oGet 1 3, oPut 1 3 .int, oLdA 0, oGet 5 5, oLdA 0, oGet 5 1, oCaV (ip_call tb d) 0 0 3 24 2 0 0, oStI 1, oLdA 0, oGet 5 5, oI (0), oPut 3 1 .int, oLdI 1], tIf (fun a => a < 0) 2 1) := ⟨_, okC (ok_aldn X rfl dX5_circus_0)
  (okC (ok_get X (ci := 5) rfl (by decide) iw_X5 tw_199 dX5_circus_1)
  (okC (ok_calV X (i := 78) (e := en_8) rfl mt_8 rfl rfl rfl tw_250 tw_30 (Or.inl ⟨_, _, rfl⟩) tw_31 dX5_circus_4)
  (okC (ok_aldn X rfl dX5_circus_7)
  (okC (ok_get X (ci := 5) rfl (by decide) iw_X5 tw_199 dX5_circus_8)
  (okC (ok_aldn X rfl dX5_circus_11)
  (okC (ok_get X (ci := 5) rfl (by decide) iw_X5 tw_198 dX5_circus_12)
  (okC (ok_get X (ci := 1) rfl (by decide) iw_X1 tw_49 dX5_circus_15)
  (okC (ok_put X (ci := 1) rfl (by decide) iw_X1 tyX1_ok nmX1 rfl (Or.inl rfl) tw_49 dX5_circus_18)
  (okC (ok_aldn X rfl dX5_circus_21)
  (okC (ok_get X (ci := 5) rfl (by decide) iw_X5 tw_203 dX5_circus_22)
  (okC (ok_aldn X rfl dX5_circus_25)
  (okC (ok_get X (ci := 5) rfl (by decide) iw_X5 tw_199 dX5_circus_26)
  (okC (ok_calV X (i := 84) (e := en_24) rfl mt_24 rfl rfl rfl tw_251 tw_252 (Or.inl ⟨_, _, rfl⟩) tw_253 dX5_circus_29)
  (okC (ok_istn X rfl (by decide) dX5_circus_32)
  (okC (ok_aldn X rfl dX5_circus_33)
  (okC (ok_get X (ci := 5) rfl (by decide) iw_X5 tw_203 dX5_circus_34)
  (okC (ok_ic X (by decide) dX5_circus_37)
  (okC (ok_put X (ci := 3) rfl (by decide) iw_X3 tyX3_ok nmX3 rfl (Or.inl rfl) tw_150 dX5_circus_38)
  (okC (ok_ildn X rfl dX5_circus_41)
  (okN)))))))))))))))))))), ok_iflt X (by decide) rfl dX5_circus_42⟩
set_option maxRecDepth 20000 in
theorem ob_X5_circus_1 {x : ip_Cx} {G : ip_Gl} {d : Nat} (X : ip_X x G tb 2 d 0 0 RX5 cX5_circus) (hr : x.2.2.2.2.2.2.2.2.1.sig.returnType = (some .int)) (hnm : x.2.2.2.2.2.2.2.2.1.name = "circus") : ip_okB x G 2 pc_X5_circus 45 ([oI (-100), oLdI 1, oBI (fun a b => a - b)], tRI .int 0 0) := ⟨_, okC (ok_bi X (by decide) dX5_circus_45)
  (okC (ok_ildn X rfl dX5_circus_47)
  (okC (ok_isub X dX5_circus_48)
  (okN))), ok_ret X hr dX5_circus_49⟩
set_option maxRecDepth 20000 in
theorem ob_X5_circus_2 {x : ip_Cx} {G : ip_Gl} {d : Nat} (X : ip_X x G tb 2 d 0 0 RX5 cX5_circus) (hr : x.2.2.2.2.2.2.2.2.1.sig.returnType = (some .int)) (hnm : x.2.2.2.2.2.2.2.2.1.name = "circus") : ip_okB x G 2 pc_X5_circus 50 ([oLdA 0, oGet 5 0, oLdA 0, oGet 5 1, oCaV (ip_call tb d) 0 0 1 9 2 0 0, oLdA 0, oI (0), oPut 5 8 .int, oLdA 0, oGet 5 0, oGet 1 4], tRI .int 0 0) := ⟨_, okC (ok_aldn X rfl dX5_circus_50)
  (okC (ok_get X (ci := 5) rfl (by decide) iw_X5 tw_198 dX5_circus_51)
  (okC (ok_aldn X rfl dX5_circus_54)
  (okC (ok_get X (ci := 5) rfl (by decide) iw_X5 tw_199 dX5_circus_55)
  (okC (ok_calV X (i := 88) (e := en_9) rfl mt_9 rfl rfl rfl tw_374 tw_375 (Or.inl ⟨_, _, rfl⟩) tw_376 dX5_circus_58)
  (okC (ok_aldn X rfl dX5_circus_61)
  (okC (ok_ic X (by decide) dX5_circus_62)
  (okC (ok_put X (ci := 5) rfl (by decide) iw_X5 tyX5_ok nmX5 rfl (Or.inl rfl) tw_206 dX5_circus_63)
  (okC (ok_aldn X rfl dX5_circus_66)
  (okC (ok_get X (ci := 5) rfl (by decide) iw_X5 tw_198 dX5_circus_67)
  (okC (ok_get X (ci := 1) rfl (by decide) iw_X1 tw_51 dX5_circus_70)
  (okN))))))))))), ok_ret X hr dX5_circus_73⟩
theorem om_53 : ip_MOk tb en_53 pc_X5_circus := fun x G d X hr hnm => ⟨ob_X5_circus_0 X hr hnm, ⟨ob_X5_circus_1 X hr hnm, ⟨ob_X5_circus_2 X hr hnm, trivial⟩⟩⟩
theorem dX5_set_0 : decode cX5_set 0 = .ok (.iload_n 1, 1) := by decide +kernel
theorem dX5_set_1 : decode cX5_set 1 = .ok (.iconst 0, 1) := by decide +kernel
theorem dX5_set_2 : decode cX5_set 2 = .ok (.iconst 3, 1) := by decide +kernel
theorem dX5_set_3 : decode cX5_set 3 = .ok (.invokestatic 67, 3) := by decide +kernel
theorem dX5_set_6 : decode cX5_set 6 = .ok (.ifCond .eq 16, 3) := by decide +kernel
theorem dX5_set_9 : decode cX5_set 9 = .ok (.iload_n 2, 1) := by decide +kernel
theorem dX5_set_10 : decode cX5_set 10 = .ok (.iconst 0, 1) := by decide +kernel
theorem dX5_set_11 : decode cX5_set 11 = .ok (.getstatic 95, 3) := by decide +kernel
theorem dX5_set_14 : decode cX5_set 14 = .ok (.iload_n 1, 1) := by decide +kernel
theorem dX5_set_15 : decode cX5_set 15 = .ok (.iaload, 1) := by decide +kernel
theorem dX5_set_16 : decode cX5_set 16 = .ok (.invokestatic 67, 3) := by decide +kernel
theorem dX5_set_19 : decode cX5_set 19 = .ok (.ifCond .ne 5, 3) := by decide +kernel
theorem dX5_set_22 : decode cX5_set 22 = .ok (.iconst (-1), 1) := by decide +kernel
theorem dX5_set_23 : decode cX5_set 23 = .ok (.ireturn, 1) := by decide +kernel
theorem dX5_set_24 : decode cX5_set 24 = .ok (.aload_n 0, 1) := by decide +kernel
theorem dX5_set_25 : decode cX5_set 25 = .ok (.getfield 10, 3) := by decide +kernel
theorem dX5_set_28 : decode cX5_set 28 = .ok (.getfield 98, 3) := by decide +kernel
theorem dX5_set_31 : decode cX5_set 31 = .ok (.iload_n 1, 1) := by decide +kernel
theorem dX5_set_32 : decode cX5_set 32 = .ok (.iaload, 1) := by decide +kernel
theorem dX5_set_33 : decode cX5_set 33 = .ok (.istore_n 3, 1) := by decide +kernel
theorem dX5_set_34 : decode cX5_set 34 = .ok (.aload_n 0, 1) := by decide +kernel
theorem dX5_set_35 : decode cX5_set 35 = .ok (.getfield 10, 3) := by decide +kernel
theorem dX5_set_38 : decode cX5_set 38 = .ok (.getfield 98, 3) := by decide +kernel
theorem dX5_set_41 : decode cX5_set 41 = .ok (.iload_n 1, 1) := by decide +kernel
theorem dX5_set_42 : decode cX5_set 42 = .ok (.iload_n 2, 1) := by decide +kernel
theorem dX5_set_43 : decode cX5_set 43 = .ok (.iastore, 1) := by decide +kernel
theorem dX5_set_44 : decode cX5_set 44 = .ok (.iload_n 3, 1) := by decide +kernel
theorem dX5_set_45 : decode cX5_set 45 = .ok (.ireturn, 1) := by decide +kernel
def pc_X5_set (i : Nat) : Nat := ([0, 9, 22, 24] : List Nat).getD i 0
set_option maxRecDepth 20000 in
theorem ob_X5_set_0 {x : ip_Cx} {G : ip_Gl} {d : Nat} (X : ip_X x G tb 4 d 0 0 RX5 cX5_set) (hr : x.2.2.2.2.2.2.2.2.1.sig.returnType = (some .int)) (hnm : x.2.2.2.2.2.2.2.2.1.name = "set") : ip_okB x G 4 pc_X5_set 0 ([oLdI 1, oI (0), oI (3), oCal (ip_call tb d) 0 0 95 3 0 0], tIf (fun a => a = 0) 2 1) := ⟨_, okC (ok_ildn X rfl dX5_set_0)
  (okC (ok_ic X (by decide) dX5_set_1)
  (okC (ok_ic X (by decide) dX5_set_2)
  (okC (ok_calS X (i := 67) (e := en_95) rfl mt_95 rfl rfl rfl tw_239 tw_240 dX5_set_3)
  (okN)))), ok_ifeq X (by decide) rfl dX5_set_6⟩
set_option maxRecDepth 20000 in
theorem ob_X5_set_1 {x : ip_Cx} {G : ip_Gl} {d : Nat} (X : ip_X x G tb 4 d 0 0 RX5 cX5_set) (hr : x.2.2.2.2.2.2.2.2.1.sig.returnType = (some .int)) (hnm : x.2.2.2.2.2.2.2.2.1.name = "set") : ip_okB x G 4 pc_X5_set 9 ([oLdI 2, oI (0), oRef 2, oLdI 1, oAldI, oCal (ip_call tb d) 0 0 95 3 0 0], tIf (fun a => a = 0) 2 3) := ⟨_, okC (ok_ildn X rfl dX5_set_9)
  (okC (ok_ic X (by decide) dX5_set_10)
  (okC (ok_gst X (q := (RX5, "HIGHEST_LAWS", "[I", .ref 2)) (by simp [ip_stat]) rfl tw_382 dX5_set_11)
  (okC (ok_ildn X rfl dX5_set_14)
  (okC (ok_iald X dX5_set_15)
  (okC (ok_calS X (i := 67) (e := en_95) rfl mt_95 rfl rfl rfl tw_239 tw_240 dX5_set_16)
  (okN)))))), ok_ifne X (by decide) rfl dX5_set_19⟩
set_option maxRecDepth 20000 in
theorem ob_X5_set_2 {x : ip_Cx} {G : ip_Gl} {d : Nat} (X : ip_X x G tb 4 d 0 0 RX5 cX5_set) (hr : x.2.2.2.2.2.2.2.2.1.sig.returnType = (some .int)) (hnm : x.2.2.2.2.2.2.2.2.1.name = "set") : ip_okB x G 4 pc_X5_set 22 ([oI (-1)], tRI .int 0 0) := ⟨_, okC (ok_ic X (by decide) dX5_set_22)
  (okN), ok_ret X hr dX5_set_23⟩
set_option maxRecDepth 20000 in
theorem ob_X5_set_3 {x : ip_Cx} {G : ip_Gl} {d : Nat} (X : ip_X x G tb 4 d 0 0 RX5 cX5_set) (hr : x.2.2.2.2.2.2.2.2.1.sig.returnType = (some .int)) (hnm : x.2.2.2.2.2.2.2.2.1.name = "set") : ip_okB x G 4 pc_X5_set 24 ([oLdA 0, oGet 5 0, oGet 1 0, oLdI 1, oAldI, oStI 3, oLdA 0, oGet 5 0, oGet 1 0, oLdI 1, oLdI 2, oAstI, oLdI 3], tRI .int 0 0) := ⟨_, okC (ok_aldn X rfl dX5_set_24)
  (okC (ok_get X (ci := 5) rfl (by decide) iw_X5 tw_198 dX5_set_25)
  (okC (ok_get X (ci := 1) rfl (by decide) iw_X1 tw_40 dX5_set_28)
  (okC (ok_ildn X rfl dX5_set_31)
  (okC (ok_iald X dX5_set_32)
  (okC (ok_istn X rfl (by decide) dX5_set_33)
  (okC (ok_aldn X rfl dX5_set_34)
  (okC (ok_get X (ci := 5) rfl (by decide) iw_X5 tw_198 dX5_set_35)
  (okC (ok_get X (ci := 1) rfl (by decide) iw_X1 tw_40 dX5_set_38)
  (okC (ok_ildn X rfl dX5_set_41)
  (okC (ok_ildn X rfl dX5_set_42)
  (okC (ok_iast X dX5_set_43)
  (okC (ok_ildn X rfl dX5_set_44)
  (okN))))))))))))), ok_ret X hr dX5_set_45⟩
theorem om_54 : ip_MOk tb en_54 pc_X5_set := fun x G d X hr hnm => ⟨ob_X5_set_0 X hr hnm, ⟨ob_X5_set_1 X hr hnm, ⟨ob_X5_set_2 X hr hnm, ⟨ob_X5_set_3 X hr hnm, trivial⟩⟩⟩⟩
theorem dX5_lawOf_0 : decode cX5_lawOf 0 = .ok (.iload_n 1, 1) := by decide +kernel
theorem dX5_lawOf_1 : decode cX5_lawOf 1 = .ok (.iconst 0, 1) := by decide +kernel
theorem dX5_lawOf_2 : decode cX5_lawOf 2 = .ok (.iconst 3, 1) := by decide +kernel
theorem dX5_lawOf_3 : decode cX5_lawOf 3 = .ok (.invokestatic 67, 3) := by decide +kernel
theorem dX5_lawOf_6 : decode cX5_lawOf 6 = .ok (.ifCond .eq 15, 3) := by decide +kernel
theorem dX5_lawOf_9 : decode cX5_lawOf 9 = .ok (.aload_n 0, 1) := by decide +kernel
theorem dX5_lawOf_10 : decode cX5_lawOf 10 = .ok (.getfield 10, 3) := by decide +kernel
theorem dX5_lawOf_13 : decode cX5_lawOf 13 = .ok (.getfield 98, 3) := by decide +kernel
theorem dX5_lawOf_16 : decode cX5_lawOf 16 = .ok (.iload_n 1, 1) := by decide +kernel
theorem dX5_lawOf_17 : decode cX5_lawOf 17 = .ok (.iaload, 1) := by decide +kernel
theorem dX5_lawOf_18 : decode cX5_lawOf 18 = .ok (.goto 4, 3) := by decide +kernel
theorem dX5_lawOf_21 : decode cX5_lawOf 21 = .ok (.iconst (-1), 1) := by decide +kernel
theorem dX5_lawOf_22 : decode cX5_lawOf 22 = .ok (.ireturn, 1) := by decide +kernel
def pc_X5_lawOf (i : Nat) : Nat := ([0, 9, 21, 22] : List Nat).getD i 0
set_option maxRecDepth 20000 in
theorem ob_X5_lawOf_0 {x : ip_Cx} {G : ip_Gl} {d : Nat} (X : ip_X x G tb 2 d 0 0 RX5 cX5_lawOf) (hr : x.2.2.2.2.2.2.2.2.1.sig.returnType = (some .int)) (hnm : x.2.2.2.2.2.2.2.2.1.name = "lawOf") : ip_okB x G 2 pc_X5_lawOf 0 ([oLdI 1, oI (0), oI (3), oCal (ip_call tb d) 0 0 95 3 0 0], tIf (fun a => a = 0) 2 1) := ⟨_, okC (ok_ildn X rfl dX5_lawOf_0)
  (okC (ok_ic X (by decide) dX5_lawOf_1)
  (okC (ok_ic X (by decide) dX5_lawOf_2)
  (okC (ok_calS X (i := 67) (e := en_95) rfl mt_95 rfl rfl rfl tw_239 tw_240 dX5_lawOf_3)
  (okN)))), ok_ifeq X (by decide) rfl dX5_lawOf_6⟩
set_option maxRecDepth 20000 in
theorem ob_X5_lawOf_1 {x : ip_Cx} {G : ip_Gl} {d : Nat} (X : ip_X x G tb 2 d 0 0 RX5 cX5_lawOf) (hr : x.2.2.2.2.2.2.2.2.1.sig.returnType = (some .int)) (hnm : x.2.2.2.2.2.2.2.2.1.name = "lawOf") : ip_okB x G 2 pc_X5_lawOf 9 ([oLdA 0, oGet 5 0, oGet 1 0, oLdI 1, oAldI], tGo 3) := ⟨_, okC (ok_aldn X rfl dX5_lawOf_9)
  (okC (ok_get X (ci := 5) rfl (by decide) iw_X5 tw_198 dX5_lawOf_10)
  (okC (ok_get X (ci := 1) rfl (by decide) iw_X1 tw_40 dX5_lawOf_13)
  (okC (ok_ildn X rfl dX5_lawOf_16)
  (okC (ok_iald X dX5_lawOf_17)
  (okN))))), ok_go X (by decide) dX5_lawOf_18⟩
set_option maxRecDepth 20000 in
theorem ob_X5_lawOf_2 {x : ip_Cx} {G : ip_Gl} {d : Nat} (X : ip_X x G tb 2 d 0 0 RX5 cX5_lawOf) (hr : x.2.2.2.2.2.2.2.2.1.sig.returnType = (some .int)) (hnm : x.2.2.2.2.2.2.2.2.1.name = "lawOf") : ip_okB x G 2 pc_X5_lawOf 21 ([oI (-1)], tGo 3) := ⟨_, okC (ok_ic X (by decide) dX5_lawOf_21)
  (okN), ok_fall rfl⟩
set_option maxRecDepth 20000 in
theorem ob_X5_lawOf_3 {x : ip_Cx} {G : ip_Gl} {d : Nat} (X : ip_X x G tb 2 d 0 0 RX5 cX5_lawOf) (hr : x.2.2.2.2.2.2.2.2.1.sig.returnType = (some .int)) (hnm : x.2.2.2.2.2.2.2.2.1.name = "lawOf") : ip_okB x G 2 pc_X5_lawOf 22 ([], tRI .int 0 0) := ⟨_, okN, ok_ret X hr dX5_lawOf_22⟩
theorem om_55 : ip_MOk tb en_55 pc_X5_lawOf := fun x G d X hr hnm => ⟨ob_X5_lawOf_0 X hr hnm, ⟨ob_X5_lawOf_1 X hr hnm, ⟨ob_X5_lawOf_2 X hr hnm, ⟨ob_X5_lawOf_3 X hr hnm, trivial⟩⟩⟩⟩
theorem dX5_fact_0 : decode cX5_fact 0 = .ok (.iload_n 1, 1) := by decide +kernel
theorem dX5_fact_1 : decode cX5_fact 1 = .ok (.iconst 0, 1) := by decide +kernel
theorem dX5_fact_2 : decode cX5_fact 2 = .ok (.bipush 7, 2) := by decide +kernel
theorem dX5_fact_4 : decode cX5_fact 4 = .ok (.invokestatic 67, 3) := by decide +kernel
theorem dX5_fact_7 : decode cX5_fact 7 = .ok (.ifCond .eq 12, 3) := by decide +kernel
theorem dX5_fact_10 : decode cX5_fact 10 = .ok (.iload_n 2, 1) := by decide +kernel
theorem dX5_fact_11 : decode cX5_fact 11 = .ok (.iconst 0, 1) := by decide +kernel
theorem dX5_fact_12 : decode cX5_fact 12 = .ok (.iconst 1, 1) := by decide +kernel
theorem dX5_fact_13 : decode cX5_fact 13 = .ok (.invokestatic 67, 3) := by decide +kernel
theorem dX5_fact_16 : decode cX5_fact 16 = .ok (.ifCond .ne 5, 3) := by decide +kernel
theorem dX5_fact_19 : decode cX5_fact 19 = .ok (.iconst (-1), 1) := by decide +kernel
theorem dX5_fact_20 : decode cX5_fact 20 = .ok (.ireturn, 1) := by decide +kernel
theorem dX5_fact_21 : decode cX5_fact 21 = .ok (.aload_n 0, 1) := by decide +kernel
theorem dX5_fact_22 : decode cX5_fact 22 = .ok (.getfield 10, 3) := by decide +kernel
theorem dX5_fact_25 : decode cX5_fact 25 = .ok (.getfield 101, 3) := by decide +kernel
theorem dX5_fact_28 : decode cX5_fact 28 = .ok (.iload_n 1, 1) := by decide +kernel
theorem dX5_fact_29 : decode cX5_fact 29 = .ok (.ishr, 1) := by decide +kernel
theorem dX5_fact_30 : decode cX5_fact 30 = .ok (.iconst 1, 1) := by decide +kernel
theorem dX5_fact_31 : decode cX5_fact 31 = .ok (.iand, 1) := by decide +kernel
theorem dX5_fact_32 : decode cX5_fact 32 = .ok (.istore_n 3, 1) := by decide +kernel
theorem dX5_fact_33 : decode cX5_fact 33 = .ok (.aload_n 0, 1) := by decide +kernel
theorem dX5_fact_34 : decode cX5_fact 34 = .ok (.getfield 10, 3) := by decide +kernel
theorem dX5_fact_37 : decode cX5_fact 37 = .ok (.aload_n 0, 1) := by decide +kernel
theorem dX5_fact_38 : decode cX5_fact 38 = .ok (.getfield 10, 3) := by decide +kernel
theorem dX5_fact_41 : decode cX5_fact 41 = .ok (.getfield 101, 3) := by decide +kernel
theorem dX5_fact_44 : decode cX5_fact 44 = .ok (.iload_n 1, 1) := by decide +kernel
theorem dX5_fact_45 : decode cX5_fact 45 = .ok (.iload_n 2, 1) := by decide +kernel
theorem dX5_fact_46 : decode cX5_fact 46 = .ok (.iconst 1, 1) := by decide +kernel
theorem dX5_fact_47 : decode cX5_fact 47 = .ok (.if_icmp .ne 7, 3) := by decide +kernel
theorem dX5_fact_50 : decode cX5_fact 50 = .ok (.iconst 1, 1) := by decide +kernel
theorem dX5_fact_51 : decode cX5_fact 51 = .ok (.goto 4, 3) := by decide +kernel
theorem dX5_fact_54 : decode cX5_fact 54 = .ok (.iconst 0, 1) := by decide +kernel
theorem dX5_fact_55 : decode cX5_fact 55 = .ok (.invokestatic 104, 3) := by decide +kernel
theorem dX5_fact_58 : decode cX5_fact 58 = .ok (.putfield 101, 3) := by decide +kernel
theorem dX5_fact_61 : decode cX5_fact 61 = .ok (.iload_n 3, 1) := by decide +kernel
theorem dX5_fact_62 : decode cX5_fact 62 = .ok (.ireturn, 1) := by decide +kernel
def pc_X5_fact (i : Nat) : Nat := ([0, 10, 19, 21, 50, 54, 55] : List Nat).getD i 0
set_option maxRecDepth 20000 in
theorem ob_X5_fact_0 {x : ip_Cx} {G : ip_Gl} {d : Nat} (X : ip_X x G tb 4 d 0 0 RX5 cX5_fact) (hr : x.2.2.2.2.2.2.2.2.1.sig.returnType = (some .int)) (hnm : x.2.2.2.2.2.2.2.2.1.name = "fact") : ip_okB x G 4 pc_X5_fact 0 ([oLdI 1, oI (0), oI (7), oCal (ip_call tb d) 0 0 95 3 0 0], tIf (fun a => a = 0) 2 1) := ⟨_, okC (ok_ildn X rfl dX5_fact_0)
  (okC (ok_ic X (by decide) dX5_fact_1)
  (okC (ok_bi X (by decide) dX5_fact_2)
  (okC (ok_calS X (i := 67) (e := en_95) rfl mt_95 rfl rfl rfl tw_239 tw_240 dX5_fact_4)
  (okN)))), ok_ifeq X (by decide) rfl dX5_fact_7⟩
set_option maxRecDepth 20000 in
theorem ob_X5_fact_1 {x : ip_Cx} {G : ip_Gl} {d : Nat} (X : ip_X x G tb 4 d 0 0 RX5 cX5_fact) (hr : x.2.2.2.2.2.2.2.2.1.sig.returnType = (some .int)) (hnm : x.2.2.2.2.2.2.2.2.1.name = "fact") : ip_okB x G 4 pc_X5_fact 10 ([oLdI 2, oI (0), oI (1), oCal (ip_call tb d) 0 0 95 3 0 0], tIf (fun a => a = 0) 2 3) := ⟨_, okC (ok_ildn X rfl dX5_fact_10)
  (okC (ok_ic X (by decide) dX5_fact_11)
  (okC (ok_ic X (by decide) dX5_fact_12)
  (okC (ok_calS X (i := 67) (e := en_95) rfl mt_95 rfl rfl rfl tw_239 tw_240 dX5_fact_13)
  (okN)))), ok_ifne X (by decide) rfl dX5_fact_16⟩
set_option maxRecDepth 20000 in
theorem ob_X5_fact_2 {x : ip_Cx} {G : ip_Gl} {d : Nat} (X : ip_X x G tb 4 d 0 0 RX5 cX5_fact) (hr : x.2.2.2.2.2.2.2.2.1.sig.returnType = (some .int)) (hnm : x.2.2.2.2.2.2.2.2.1.name = "fact") : ip_okB x G 4 pc_X5_fact 19 ([oI (-1)], tRI .int 0 0) := ⟨_, okC (ok_ic X (by decide) dX5_fact_19)
  (okN), ok_ret X hr dX5_fact_20⟩
set_option maxRecDepth 20000 in
theorem ob_X5_fact_3 {x : ip_Cx} {G : ip_Gl} {d : Nat} (X : ip_X x G tb 4 d 0 0 RX5 cX5_fact) (hr : x.2.2.2.2.2.2.2.2.1.sig.returnType = (some .int)) (hnm : x.2.2.2.2.2.2.2.2.1.name = "fact") : ip_okB x G 4 pc_X5_fact 21 ([oLdA 0, oGet 5 0, oGet 1 1, oLdI 1, oBI (fun a b => a >>> (b &&& 31)), oI (1), oBI (fun a b => a &&& b), oStI 3, oLdA 0, oGet 5 0, oLdA 0, oGet 5 0, oGet 1 1, oLdI 1, oLdI 2, oI (1)], tCm (fun a b => a = b) 4 5) := ⟨_, okC (ok_aldn X rfl dX5_fact_21)
  (okC (ok_get X (ci := 5) rfl (by decide) iw_X5 tw_198 dX5_fact_22)
  (okC (ok_get X (ci := 1) rfl (by decide) iw_X1 tw_44 dX5_fact_25)
  (okC (ok_ildn X rfl dX5_fact_28)
  (okC (ok_ishr X dX5_fact_29)
  (okC (ok_ic X (by decide) dX5_fact_30)
  (okC (ok_iand X dX5_fact_31)
  (okC (ok_istn X rfl (by decide) dX5_fact_32)
  (okC (ok_aldn X rfl dX5_fact_33)
  (okC (ok_get X (ci := 5) rfl (by decide) iw_X5 tw_198 dX5_fact_34)
  (okC (ok_aldn X rfl dX5_fact_37)
  (okC (ok_get X (ci := 5) rfl (by decide) iw_X5 tw_198 dX5_fact_38)
  (okC (ok_get X (ci := 1) rfl (by decide) iw_X1 tw_44 dX5_fact_41)
  (okC (ok_ildn X rfl dX5_fact_44)
  (okC (ok_ildn X rfl dX5_fact_45)
  (okC (ok_ic X (by decide) dX5_fact_46)
  (okN)))))))))))))))), ok_cmne X (by decide) rfl dX5_fact_47⟩
set_option maxRecDepth 20000 in
theorem ob_X5_fact_4 {x : ip_Cx} {G : ip_Gl} {d : Nat} (X : ip_X x G tb 4 d 0 0 RX5 cX5_fact) (hr : x.2.2.2.2.2.2.2.2.1.sig.returnType = (some .int)) (hnm : x.2.2.2.2.2.2.2.2.1.name = "fact") : ip_okB x G 4 pc_X5_fact 50 ([oI (1)], tGo 6) := ⟨_, okC (ok_ic X (by decide) dX5_fact_50)
  (okN), ok_go X (by decide) dX5_fact_51⟩
set_option maxRecDepth 20000 in
theorem ob_X5_fact_5 {x : ip_Cx} {G : ip_Gl} {d : Nat} (X : ip_X x G tb 4 d 0 0 RX5 cX5_fact) (hr : x.2.2.2.2.2.2.2.2.1.sig.returnType = (some .int)) (hnm : x.2.2.2.2.2.2.2.2.1.name = "fact") : ip_okB x G 4 pc_X5_fact 54 ([oI (0)], tGo 6) := ⟨_, okC (ok_ic X (by decide) dX5_fact_54)
  (okN), ok_fall rfl⟩
set_option maxRecDepth 20000 in
theorem ob_X5_fact_6 {x : ip_Cx} {G : ip_Gl} {d : Nat} (X : ip_X x G tb 4 d 0 0 RX5 cX5_fact) (hr : x.2.2.2.2.2.2.2.2.1.sig.returnType = (some .int)) (hnm : x.2.2.2.2.2.2.2.2.1.name = "fact") : ip_okB x G 4 pc_X5_fact 55 ([oCal (ip_call tb d) 0 0 105 3 0 0, oPut 1 1 .int, oLdI 3], tRI .int 0 0) := ⟨_, okC (ok_calS X (i := 104) (e := en_105) rfl mt_105 rfl rfl rfl tw_391 tw_392 dX5_fact_55)
  (okC (ok_put X (ci := 1) rfl (by decide) iw_X1 tyX1_ok nmX1 rfl (Or.inl rfl) tw_44 dX5_fact_58)
  (okC (ok_ildn X rfl dX5_fact_61)
  (okN))), ok_ret X hr dX5_fact_62⟩
theorem om_56 : ip_MOk tb en_56 pc_X5_fact := fun x G d X hr hnm => ⟨ob_X5_fact_0 X hr hnm, ⟨ob_X5_fact_1 X hr hnm, ⟨ob_X5_fact_2 X hr hnm, ⟨ob_X5_fact_3 X hr hnm, ⟨ob_X5_fact_4 X hr hnm, ⟨ob_X5_fact_5 X hr hnm, ⟨ob_X5_fact_6 X hr hnm, trivial⟩⟩⟩⟩⟩⟩⟩
theorem dX5_walker_0 : decode cX5_walker 0 = .ok (.iload_n 1, 1) := by decide +kernel
theorem dX5_walker_1 : decode cX5_walker 1 = .ok (.invokestatic 108, 3) := by decide +kernel
theorem dX5_walker_4 : decode cX5_walker 4 = .ok (.ifCond .eq 10, 3) := by decide +kernel
theorem dX5_walker_7 : decode cX5_walker 7 = .ok (.iload_n 2, 1) := by decide +kernel
theorem dX5_walker_8 : decode cX5_walker 8 = .ok (.invokestatic 112, 3) := by decide +kernel
theorem dX5_walker_11 : decode cX5_walker 11 = .ok (.ifCond .ne 5, 3) := by decide +kernel
theorem dX5_walker_14 : decode cX5_walker 14 = .ok (.iconst (-1), 1) := by decide +kernel
theorem dX5_walker_15 : decode cX5_walker 15 = .ok (.ireturn, 1) := by decide +kernel
theorem dX5_walker_16 : decode cX5_walker 16 = .ok (.aload_n 0, 1) := by decide +kernel
theorem dX5_walker_17 : decode cX5_walker 17 = .ok (.getfield 10, 3) := by decide +kernel
theorem dX5_walker_20 : decode cX5_walker 20 = .ok (.iload_n 1, 1) := by decide +kernel
theorem dX5_walker_21 : decode cX5_walker 21 = .ok (.iload_n 2, 1) := by decide +kernel
theorem dX5_walker_22 : decode cX5_walker 22 = .ok (.invokevirtual 115, 3) := by decide +kernel
theorem dX5_walker_25 : decode cX5_walker 25 = .ok (.ireturn, 1) := by decide +kernel
def pc_X5_walker (i : Nat) : Nat := ([0, 7, 14, 16] : List Nat).getD i 0
set_option maxRecDepth 20000 in
theorem ob_X5_walker_0 {x : ip_Cx} {G : ip_Gl} {d : Nat} (X : ip_X x G tb 3 d 0 0 RX5 cX5_walker) (hr : x.2.2.2.2.2.2.2.2.1.sig.returnType = (some .int)) (hnm : x.2.2.2.2.2.2.2.2.1.name = "walker") : ip_okB x G 3 pc_X5_walker 0 ([oLdI 1, oCal (ip_call tb d) 0 0 96 1 0 0], tIf (fun a => a = 0) 2 1) := ⟨_, okC (ok_ildn X rfl dX5_walker_0)
  (okC (ok_calS X (i := 108) (e := en_96) rfl mt_96 rfl rfl rfl tw_398 tw_399 dX5_walker_1)
  (okN)), ok_ifeq X (by decide) rfl dX5_walker_4⟩
set_option maxRecDepth 20000 in
theorem ob_X5_walker_1 {x : ip_Cx} {G : ip_Gl} {d : Nat} (X : ip_X x G tb 3 d 0 0 RX5 cX5_walker) (hr : x.2.2.2.2.2.2.2.2.1.sig.returnType = (some .int)) (hnm : x.2.2.2.2.2.2.2.2.1.name = "walker") : ip_okB x G 3 pc_X5_walker 7 ([oLdI 2, oCal (ip_call tb d) 0 0 97 1 0 0], tIf (fun a => a = 0) 2 3) := ⟨_, okC (ok_ildn X rfl dX5_walker_7)
  (okC (ok_calS X (i := 112) (e := en_97) rfl mt_97 rfl rfl rfl tw_401 tw_402 dX5_walker_8)
  (okN)), ok_ifne X (by decide) rfl dX5_walker_11⟩
set_option maxRecDepth 20000 in
theorem ob_X5_walker_2 {x : ip_Cx} {G : ip_Gl} {d : Nat} (X : ip_X x G tb 3 d 0 0 RX5 cX5_walker) (hr : x.2.2.2.2.2.2.2.2.1.sig.returnType = (some .int)) (hnm : x.2.2.2.2.2.2.2.2.1.name = "walker") : ip_okB x G 3 pc_X5_walker 14 ([oI (-1)], tRI .int 0 0) := ⟨_, okC (ok_ic X (by decide) dX5_walker_14)
  (okN), ok_ret X hr dX5_walker_15⟩
set_option maxRecDepth 20000 in
theorem ob_X5_walker_3 {x : ip_Cx} {G : ip_Gl} {d : Nat} (X : ip_X x G tb 3 d 0 0 RX5 cX5_walker) (hr : x.2.2.2.2.2.2.2.2.1.sig.returnType = (some .int)) (hnm : x.2.2.2.2.2.2.2.2.1.name = "walker") : ip_okB x G 3 pc_X5_walker 16 ([oLdA 0, oGet 5 0, oLdI 1, oLdI 2, oCaV (ip_call tb d) 0 0 1 10 3 0 0], tRI .int 0 0) := ⟨_, okC (ok_aldn X rfl dX5_walker_16)
  (okC (ok_get X (ci := 5) rfl (by decide) iw_X5 tw_198 dX5_walker_17)
  (okC (ok_ildn X rfl dX5_walker_20)
  (okC (ok_ildn X rfl dX5_walker_21)
  (okC (ok_calV X (i := 115) (e := en_10) rfl mt_10 rfl rfl rfl tw_404 tw_340 (Or.inl ⟨_, _, rfl⟩) tw_341 dX5_walker_22)
  (okN))))), ok_ret X hr dX5_walker_25⟩
theorem om_57 : ip_MOk tb en_57 pc_X5_walker := fun x G d X hr hnm => ⟨ob_X5_walker_0 X hr hnm, ⟨ob_X5_walker_1 X hr hnm, ⟨ob_X5_walker_2 X hr hnm, ⟨ob_X5_walker_3 X hr hnm, trivial⟩⟩⟩⟩
theorem dX5_of_0 : decode cX5_of 0 = .ok (.aload_n 0, 1) := by decide +kernel
theorem dX5_of_1 : decode cX5_of 1 = .ok (.iload_n 1, 1) := by decide +kernel
theorem dX5_of_2 : decode cX5_of 2 = .ok (.invokevirtual 119, 3) := by decide +kernel
theorem dX5_of_5 : decode cX5_of 5 = .ok (.ifCond .ne 5, 3) := by decide +kernel
theorem dX5_of_8 : decode cX5_of 8 = .ok (.iconst (-1), 1) := by decide +kernel
theorem dX5_of_9 : decode cX5_of 9 = .ok (.ireturn, 1) := by decide +kernel
theorem dX5_of_10 : decode cX5_of 10 = .ok (.iload_n 2, 1) := by decide +kernel
theorem dX5_of_11 : decode cX5_of 11 = .ok (.tableswitch 99 0 5 #[37, 47, 57, 67, 77, 87], 37) := by decide +kernel
theorem dX5_of_48 : decode cX5_of 48 = .ok (.aload_n 0, 1) := by decide +kernel
theorem dX5_of_49 : decode cX5_of 49 = .ok (.getfield 10, 3) := by decide +kernel
theorem dX5_of_52 : decode cX5_of 52 = .ok (.getfield 122, 3) := by decide +kernel
theorem dX5_of_55 : decode cX5_of 55 = .ok (.iload_n 1, 1) := by decide +kernel
theorem dX5_of_56 : decode cX5_of 56 = .ok (.iaload, 1) := by decide +kernel
theorem dX5_of_57 : decode cX5_of 57 = .ok (.ireturn, 1) := by decide +kernel
theorem dX5_of_58 : decode cX5_of 58 = .ok (.aload_n 0, 1) := by decide +kernel
theorem dX5_of_59 : decode cX5_of 59 = .ok (.getfield 10, 3) := by decide +kernel
theorem dX5_of_62 : decode cX5_of 62 = .ok (.getfield 125, 3) := by decide +kernel
theorem dX5_of_65 : decode cX5_of 65 = .ok (.iload_n 1, 1) := by decide +kernel
theorem dX5_of_66 : decode cX5_of 66 = .ok (.iaload, 1) := by decide +kernel
theorem dX5_of_67 : decode cX5_of 67 = .ok (.ireturn, 1) := by decide +kernel
theorem dX5_of_68 : decode cX5_of 68 = .ok (.aload_n 0, 1) := by decide +kernel
theorem dX5_of_69 : decode cX5_of 69 = .ok (.getfield 10, 3) := by decide +kernel
theorem dX5_of_72 : decode cX5_of 72 = .ok (.getfield 128, 3) := by decide +kernel
theorem dX5_of_75 : decode cX5_of 75 = .ok (.iload_n 1, 1) := by decide +kernel
theorem dX5_of_76 : decode cX5_of 76 = .ok (.iaload, 1) := by decide +kernel
theorem dX5_of_77 : decode cX5_of 77 = .ok (.ireturn, 1) := by decide +kernel
theorem dX5_of_78 : decode cX5_of 78 = .ok (.aload_n 0, 1) := by decide +kernel
theorem dX5_of_79 : decode cX5_of 79 = .ok (.getfield 10, 3) := by decide +kernel
theorem dX5_of_82 : decode cX5_of 82 = .ok (.getfield 131, 3) := by decide +kernel
theorem dX5_of_85 : decode cX5_of 85 = .ok (.iload_n 1, 1) := by decide +kernel
theorem dX5_of_86 : decode cX5_of 86 = .ok (.iaload, 1) := by decide +kernel
theorem dX5_of_87 : decode cX5_of 87 = .ok (.ireturn, 1) := by decide +kernel
theorem dX5_of_88 : decode cX5_of 88 = .ok (.aload_n 0, 1) := by decide +kernel
theorem dX5_of_89 : decode cX5_of 89 = .ok (.getfield 10, 3) := by decide +kernel
theorem dX5_of_92 : decode cX5_of 92 = .ok (.getfield 134, 3) := by decide +kernel
theorem dX5_of_95 : decode cX5_of 95 = .ok (.iload_n 1, 1) := by decide +kernel
theorem dX5_of_96 : decode cX5_of 96 = .ok (.iaload, 1) := by decide +kernel
theorem dX5_of_97 : decode cX5_of 97 = .ok (.ireturn, 1) := by decide +kernel
theorem dX5_of_98 : decode cX5_of 98 = .ok (.aload_n 0, 1) := by decide +kernel
theorem dX5_of_99 : decode cX5_of 99 = .ok (.getfield 10, 3) := by decide +kernel
theorem dX5_of_102 : decode cX5_of 102 = .ok (.getfield 137, 3) := by decide +kernel
theorem dX5_of_105 : decode cX5_of 105 = .ok (.iload_n 1, 1) := by decide +kernel
theorem dX5_of_106 : decode cX5_of 106 = .ok (.ishr, 1) := by decide +kernel
theorem dX5_of_107 : decode cX5_of 107 = .ok (.iconst 1, 1) := by decide +kernel
theorem dX5_of_108 : decode cX5_of 108 = .ok (.iand, 1) := by decide +kernel
theorem dX5_of_109 : decode cX5_of 109 = .ok (.ireturn, 1) := by decide +kernel
theorem dX5_of_110 : decode cX5_of 110 = .ok (.iconst (-1), 1) := by decide +kernel
theorem dX5_of_111 : decode cX5_of 111 = .ok (.ireturn, 1) := by decide +kernel
def pc_X5_of (i : Nat) : Nat := ([0, 8, 10, 48, 58, 68, 78, 88, 98, 110] : List Nat).getD i 0
set_option maxRecDepth 20000 in
theorem ob_X5_of_0 {x : ip_Cx} {G : ip_Gl} {d : Nat} (X : ip_X x G tb 3 d 0 0 RX5 cX5_of) (hr : x.2.2.2.2.2.2.2.2.1.sig.returnType = (some .int)) (hnm : x.2.2.2.2.2.2.2.2.1.name = "of") : ip_okB x G 3 pc_X5_of 0 ([oLdA 0, oLdI 1, oCaV (ip_call tb d) 0 0 5 102 2 0 0], tIf (fun a => a = 0) 1 2) := ⟨_, okC (ok_aldn X rfl dX5_of_0)
  (okC (ok_ildn X rfl dX5_of_1)
  (okC (ok_calV X (i := 119) (e := en_102) rfl mt_102 rfl rfl rfl tw_409 tw_411 (Or.inl ⟨_, _, rfl⟩) tp_0 dX5_of_2)
  (okN))), ok_ifne X (by decide) rfl dX5_of_5⟩
set_option maxRecDepth 20000 in
theorem ob_X5_of_1 {x : ip_Cx} {G : ip_Gl} {d : Nat} (X : ip_X x G tb 3 d 0 0 RX5 cX5_of) (hr : x.2.2.2.2.2.2.2.2.1.sig.returnType = (some .int)) (hnm : x.2.2.2.2.2.2.2.2.1.name = "of") : ip_okB x G 3 pc_X5_of 8 ([oI (-1)], tRI .int 0 0) := ⟨_, okC (ok_ic X (by decide) dX5_of_8)
  (okN), ok_ret X hr dX5_of_9⟩
set_option maxRecDepth 20000 in
theorem ob_X5_of_2 {x : ip_Cx} {G : ip_Gl} {d : Nat} (X : ip_X x G tb 3 d 0 0 RX5 cX5_of) (hr : x.2.2.2.2.2.2.2.2.1.sig.returnType = (some .int)) (hnm : x.2.2.2.2.2.2.2.2.1.name = "of") : ip_okB x G 3 pc_X5_of 10 ([oLdI 2], tSw [(0, 3), (1, 4), (2, 5), (3, 6), (4, 7), (5, 8)] 9) := ⟨_, okC (ok_ildn X rfl dX5_of_10)
  (okN), ok_tsw X (by decide) (by decide +kernel) (by decide) dX5_of_11⟩
set_option maxRecDepth 20000 in
theorem ob_X5_of_3 {x : ip_Cx} {G : ip_Gl} {d : Nat} (X : ip_X x G tb 3 d 0 0 RX5 cX5_of) (hr : x.2.2.2.2.2.2.2.2.1.sig.returnType = (some .int)) (hnm : x.2.2.2.2.2.2.2.2.1.name = "of") : ip_okB x G 3 pc_X5_of 48 ([oLdA 0, oGet 5 0, oGet 1 5, oLdI 1, oAldI], tRI .int 0 0) := ⟨_, okC (ok_aldn X rfl dX5_of_48)
  (okC (ok_get X (ci := 5) rfl (by decide) iw_X5 tw_198 dX5_of_49)
  (okC (ok_get X (ci := 1) rfl (by decide) iw_X1 tw_55 dX5_of_52)
  (okC (ok_ildn X rfl dX5_of_55)
  (okC (ok_iald X dX5_of_56)
  (okN))))), ok_ret X hr dX5_of_57⟩
set_option maxRecDepth 20000 in
theorem ob_X5_of_4 {x : ip_Cx} {G : ip_Gl} {d : Nat} (X : ip_X x G tb 3 d 0 0 RX5 cX5_of) (hr : x.2.2.2.2.2.2.2.2.1.sig.returnType = (some .int)) (hnm : x.2.2.2.2.2.2.2.2.1.name = "of") : ip_okB x G 3 pc_X5_of 58 ([oLdA 0, oGet 5 0, oGet 1 6, oLdI 1, oAldI], tRI .int 0 0) := ⟨_, okC (ok_aldn X rfl dX5_of_58)
  (okC (ok_get X (ci := 5) rfl (by decide) iw_X5 tw_198 dX5_of_59)
  (okC (ok_get X (ci := 1) rfl (by decide) iw_X1 tw_59 dX5_of_62)
  (okC (ok_ildn X rfl dX5_of_65)
  (okC (ok_iald X dX5_of_66)
  (okN))))), ok_ret X hr dX5_of_67⟩
set_option maxRecDepth 20000 in
theorem ob_X5_of_5 {x : ip_Cx} {G : ip_Gl} {d : Nat} (X : ip_X x G tb 3 d 0 0 RX5 cX5_of) (hr : x.2.2.2.2.2.2.2.2.1.sig.returnType = (some .int)) (hnm : x.2.2.2.2.2.2.2.2.1.name = "of") : ip_okB x G 3 pc_X5_of 68 ([oLdA 0, oGet 5 0, oGet 1 7, oLdI 1, oAldI], tRI .int 0 0) := ⟨_, okC (ok_aldn X rfl dX5_of_68)
  (okC (ok_get X (ci := 5) rfl (by decide) iw_X5 tw_198 dX5_of_69)
  (okC (ok_get X (ci := 1) rfl (by decide) iw_X1 tw_63 dX5_of_72)
  (okC (ok_ildn X rfl dX5_of_75)
  (okC (ok_iald X dX5_of_76)
  (okN))))), ok_ret X hr dX5_of_77⟩
set_option maxRecDepth 20000 in
theorem ob_X5_of_6 {x : ip_Cx} {G : ip_Gl} {d : Nat} (X : ip_X x G tb 3 d 0 0 RX5 cX5_of) (hr : x.2.2.2.2.2.2.2.2.1.sig.returnType = (some .int)) (hnm : x.2.2.2.2.2.2.2.2.1.name = "of") : ip_okB x G 3 pc_X5_of 78 ([oLdA 0, oGet 5 0, oGet 1 8, oLdI 1, oAldI], tRI .int 0 0) := ⟨_, okC (ok_aldn X rfl dX5_of_78)
  (okC (ok_get X (ci := 5) rfl (by decide) iw_X5 tw_198 dX5_of_79)
  (okC (ok_get X (ci := 1) rfl (by decide) iw_X1 tw_66 dX5_of_82)
  (okC (ok_ildn X rfl dX5_of_85)
  (okC (ok_iald X dX5_of_86)
  (okN))))), ok_ret X hr dX5_of_87⟩
set_option maxRecDepth 20000 in
theorem ob_X5_of_7 {x : ip_Cx} {G : ip_Gl} {d : Nat} (X : ip_X x G tb 3 d 0 0 RX5 cX5_of) (hr : x.2.2.2.2.2.2.2.2.1.sig.returnType = (some .int)) (hnm : x.2.2.2.2.2.2.2.2.1.name = "of") : ip_okB x G 3 pc_X5_of 88 ([oLdA 0, oGet 5 0, oGet 1 9, oLdI 1, oAldI], tRI .int 0 0) := ⟨_, okC (ok_aldn X rfl dX5_of_88)
  (okC (ok_get X (ci := 5) rfl (by decide) iw_X5 tw_198 dX5_of_89)
  (okC (ok_get X (ci := 1) rfl (by decide) iw_X1 tw_69 dX5_of_92)
  (okC (ok_ildn X rfl dX5_of_95)
  (okC (ok_iald X dX5_of_96)
  (okN))))), ok_ret X hr dX5_of_97⟩
set_option maxRecDepth 20000 in
theorem ob_X5_of_8 {x : ip_Cx} {G : ip_Gl} {d : Nat} (X : ip_X x G tb 3 d 0 0 RX5 cX5_of) (hr : x.2.2.2.2.2.2.2.2.1.sig.returnType = (some .int)) (hnm : x.2.2.2.2.2.2.2.2.1.name = "of") : ip_okB x G 3 pc_X5_of 98 ([oLdA 0, oGet 5 0, oGet 1 10, oLdI 1, oBI (fun a b => a >>> (b &&& 31)), oI (1), oBI (fun a b => a &&& b)], tRI .int 0 0) := ⟨_, okC (ok_aldn X rfl dX5_of_98)
  (okC (ok_get X (ci := 5) rfl (by decide) iw_X5 tw_198 dX5_of_99)
  (okC (ok_get X (ci := 1) rfl (by decide) iw_X1 tw_72 dX5_of_102)
  (okC (ok_ildn X rfl dX5_of_105)
  (okC (ok_ishr X dX5_of_106)
  (okC (ok_ic X (by decide) dX5_of_107)
  (okC (ok_iand X dX5_of_108)
  (okN))))))), ok_ret X hr dX5_of_109⟩
set_option maxRecDepth 20000 in
theorem ob_X5_of_9 {x : ip_Cx} {G : ip_Gl} {d : Nat} (X : ip_X x G tb 3 d 0 0 RX5 cX5_of) (hr : x.2.2.2.2.2.2.2.2.1.sig.returnType = (some .int)) (hnm : x.2.2.2.2.2.2.2.2.1.name = "of") : ip_okB x G 3 pc_X5_of 110 ([oI (-1)], tRI .int 0 0) := ⟨_, okC (ok_ic X (by decide) dX5_of_110)
  (okN), ok_ret X hr dX5_of_111⟩
theorem om_58 : ip_MOk tb en_58 pc_X5_of := fun x G d X hr hnm => ⟨ob_X5_of_0 X hr hnm, ⟨ob_X5_of_1 X hr hnm, ⟨ob_X5_of_2 X hr hnm, ⟨ob_X5_of_3 X hr hnm, ⟨ob_X5_of_4 X hr hnm, ⟨ob_X5_of_5 X hr hnm, ⟨ob_X5_of_6 X hr hnm, ⟨ob_X5_of_7 X hr hnm, ⟨ob_X5_of_8 X hr hnm, ⟨ob_X5_of_9 X hr hnm, trivial⟩⟩⟩⟩⟩⟩⟩⟩⟩⟩
theorem dX5_does_0 : decode cX5_does 0 = .ok (.aload_n 0, 1) := by decide +kernel
theorem dX5_does_1 : decode cX5_does 1 = .ok (.iload_n 1, 1) := by decide +kernel
theorem dX5_does_2 : decode cX5_does 2 = .ok (.invokevirtual 119, 3) := by decide +kernel
theorem dX5_does_5 : decode cX5_does 5 = .ok (.ifCond .ne 5, 3) := by decide +kernel
theorem dX5_does_8 : decode cX5_does 8 = .ok (.iconst (-1), 1) := by decide +kernel
theorem dX5_does_9 : decode cX5_does 9 = .ok (.ireturn, 1) := by decide +kernel
theorem dX5_does_10 : decode cX5_does 10 = .ok (.aload_n 0, 1) := by decide +kernel
theorem dX5_does_11 : decode cX5_does 11 = .ok (.getfield 29, 3) := by decide +kernel
theorem dX5_does_14 : decode cX5_does 14 = .ok (.aload_n 0, 1) := by decide +kernel
theorem dX5_does_15 : decode cX5_does 15 = .ok (.getfield 10, 3) := by decide +kernel
theorem dX5_does_18 : decode cX5_does 18 = .ok (.iload_n 1, 1) := by decide +kernel
theorem dX5_does_19 : decode cX5_does 19 = .ok (.aload_n 0, 1) := by decide +kernel
theorem dX5_does_20 : decode cX5_does 20 = .ok (.getfield 10, 3) := by decide +kernel
theorem dX5_does_23 : decode cX5_does 23 = .ok (.getfield 101, 3) := by decide +kernel
theorem dX5_does_26 : decode cX5_does 26 = .ok (.invokevirtual 140, 3) := by decide +kernel
theorem dX5_does_29 : decode cX5_does 29 = .ok (.iload_n 2, 1) := by decide +kernel
theorem dX5_does_30 : decode cX5_does 30 = .ok (.tableswitch 78 0 3 #[30, 42, 54, 66], 30) := by decide +kernel
theorem dX5_does_60 : decode cX5_does 60 = .ok (.sipush 1000, 3) := by decide +kernel
theorem dX5_does_63 : decode cX5_does 63 = .ok (.aload_n 0, 1) := by decide +kernel
theorem dX5_does_64 : decode cX5_does 64 = .ok (.getfield 29, 3) := by decide +kernel
theorem dX5_does_67 : decode cX5_does 67 = .ok (.invokevirtual 144, 3) := by decide +kernel
theorem dX5_does_70 : decode cX5_does 70 = .ok (.iadd, 1) := by decide +kernel
theorem dX5_does_71 : decode cX5_does 71 = .ok (.ireturn, 1) := by decide +kernel
theorem dX5_does_72 : decode cX5_does 72 = .ok (.sipush 1000, 3) := by decide +kernel
theorem dX5_does_75 : decode cX5_does 75 = .ok (.aload_n 0, 1) := by decide +kernel
theorem dX5_does_76 : decode cX5_does 76 = .ok (.getfield 29, 3) := by decide +kernel
theorem dX5_does_79 : decode cX5_does 79 = .ok (.invokevirtual 148, 3) := by decide +kernel
theorem dX5_does_82 : decode cX5_does 82 = .ok (.iadd, 1) := by decide +kernel
theorem dX5_does_83 : decode cX5_does 83 = .ok (.ireturn, 1) := by decide +kernel
theorem dX5_does_84 : decode cX5_does 84 = .ok (.sipush 1000, 3) := by decide +kernel
theorem dX5_does_87 : decode cX5_does 87 = .ok (.aload_n 0, 1) := by decide +kernel
theorem dX5_does_88 : decode cX5_does 88 = .ok (.getfield 29, 3) := by decide +kernel
theorem dX5_does_91 : decode cX5_does 91 = .ok (.getfield 151, 3) := by decide +kernel
theorem dX5_does_94 : decode cX5_does 94 = .ok (.iadd, 1) := by decide +kernel
theorem dX5_does_95 : decode cX5_does 95 = .ok (.ireturn, 1) := by decide +kernel
theorem dX5_does_96 : decode cX5_does 96 = .ok (.sipush 1000, 3) := by decide +kernel
theorem dX5_does_99 : decode cX5_does 99 = .ok (.aload_n 0, 1) := by decide +kernel
theorem dX5_does_100 : decode cX5_does 100 = .ok (.getfield 29, 3) := by decide +kernel
theorem dX5_does_103 : decode cX5_does 103 = .ok (.getfield 154, 3) := by decide +kernel
theorem dX5_does_106 : decode cX5_does 106 = .ok (.iadd, 1) := by decide +kernel
theorem dX5_does_107 : decode cX5_does 107 = .ok (.ireturn, 1) := by decide +kernel
theorem dX5_does_108 : decode cX5_does 108 = .ok (.iconst (-1), 1) := by decide +kernel
theorem dX5_does_109 : decode cX5_does 109 = .ok (.ireturn, 1) := by decide +kernel
def pc_X5_does (i : Nat) : Nat := ([0, 8, 10, 60, 72, 84, 96, 108] : List Nat).getD i 0
set_option maxRecDepth 20000 in
theorem ob_X5_does_0 {x : ip_Cx} {G : ip_Gl} {d : Nat} (X : ip_X x G tb 3 d 0 0 RX5 cX5_does) (hr : x.2.2.2.2.2.2.2.2.1.sig.returnType = (some .int)) (hnm : x.2.2.2.2.2.2.2.2.1.name = "does") : ip_okB x G 3 pc_X5_does 0 ([oLdA 0, oLdI 1, oCaV (ip_call tb d) 0 0 5 102 2 0 0], tIf (fun a => a = 0) 1 2) := ⟨_, okC (ok_aldn X rfl dX5_does_0)
  (okC (ok_ildn X rfl dX5_does_1)
  (okC (ok_calV X (i := 119) (e := en_102) rfl mt_102 rfl rfl rfl tw_409 tw_411 (Or.inl ⟨_, _, rfl⟩) tp_0 dX5_does_2)
  (okN))), ok_ifne X (by decide) rfl dX5_does_5⟩
set_option maxRecDepth 20000 in
theorem ob_X5_does_1 {x : ip_Cx} {G : ip_Gl} {d : Nat} (X : ip_X x G tb 3 d 0 0 RX5 cX5_does) (hr : x.2.2.2.2.2.2.2.2.1.sig.returnType = (some .int)) (hnm : x.2.2.2.2.2.2.2.2.1.name = "does") : ip_okB x G 3 pc_X5_does 8 ([oI (-1)], tRI .int 0 0) := ⟨_, okC (ok_ic X (by decide) dX5_does_8)
  (okN), ok_ret X hr dX5_does_9⟩
set_option maxRecDepth 20000 in
theorem ob_X5_does_2 {x : ip_Cx} {G : ip_Gl} {d : Nat} (X : ip_X x G tb 3 d 0 0 RX5 cX5_does) (hr : x.2.2.2.2.2.2.2.2.1.sig.returnType = (some .int)) (hnm : x.2.2.2.2.2.2.2.2.1.name = "does") : ip_okB x G 3 pc_X5_does 10 ([oLdA 0, oGet 5 4, oLdA 0, oGet 5 0, oLdI 1, oLdA 0, oGet 5 0, oGet 1 1, oCaV (ip_call tb d) 0 0 4 39 4 0 0, oLdI 2], tSw [(0, 3), (1, 4), (2, 5), (3, 6)] 7) := ⟨_, okC (ok_aldn X rfl dX5_does_10)
  (okC (ok_get X (ci := 5) rfl (by decide) iw_X5 tw_202 dX5_does_11)
  (okC (ok_aldn X rfl dX5_does_14)
  (okC (ok_get X (ci := 5) rfl (by decide) iw_X5 tw_198 dX5_does_15)
  (okC (ok_ildn X rfl dX5_does_18)
  (okC (ok_aldn X rfl dX5_does_19)
  (okC (ok_get X (ci := 5) rfl (by decide) iw_X5 tw_198 dX5_does_20)
  (okC (ok_get X (ci := 1) rfl (by decide) iw_X1 tw_44 dX5_does_23)
  (okC (ok_calV X (i := 140) (e := en_39) rfl mt_39 rfl rfl rfl tw_417 tw_418 (Or.inl ⟨_, _, rfl⟩) tw_419 dX5_does_26)
  (okC (ok_ildn X rfl dX5_does_29)
  (okN)))))))))), ok_tsw X (by decide) (by decide +kernel) (by decide) dX5_does_30⟩
set_option maxRecDepth 20000 in
theorem ob_X5_does_3 {x : ip_Cx} {G : ip_Gl} {d : Nat} (X : ip_X x G tb 3 d 0 0 RX5 cX5_does) (hr : x.2.2.2.2.2.2.2.2.1.sig.returnType = (some .int)) (hnm : x.2.2.2.2.2.2.2.2.1.name = "does") : ip_okB x G 3 pc_X5_does 60 ([oI (1000), oLdA 0, oGet 5 4, oCaV (ip_call tb d) 0 0 4 43 1 0 0, oBI (fun a b => a + b)], tRI .int 0 0) := ⟨_, okC (ok_si X (by decide) dX5_does_60)
  (okC (ok_aldn X rfl dX5_does_63)
  (okC (ok_get X (ci := 5) rfl (by decide) iw_X5 tw_202 dX5_does_64)
  (okC (ok_calV X (i := 144) (e := en_43) rfl mt_43 rfl rfl rfl tw_446 tw_447 (Or.inl ⟨_, _, rfl⟩) tw_448 dX5_does_67)
  (okC (ok_iadd X dX5_does_70)
  (okN))))), ok_ret X hr dX5_does_71⟩
set_option maxRecDepth 20000 in
theorem ob_X5_does_4 {x : ip_Cx} {G : ip_Gl} {d : Nat} (X : ip_X x G tb 3 d 0 0 RX5 cX5_does) (hr : x.2.2.2.2.2.2.2.2.1.sig.returnType = (some .int)) (hnm : x.2.2.2.2.2.2.2.2.1.name = "does") : ip_okB x G 3 pc_X5_does 72 ([oI (1000), oLdA 0, oGet 5 4, oCaV (ip_call tb d) 0 0 4 47 1 0 0, oBI (fun a b => a + b)], tRI .int 0 0) := ⟨_, okC (ok_si X (by decide) dX5_does_72)
  (okC (ok_aldn X rfl dX5_does_75)
  (okC (ok_get X (ci := 5) rfl (by decide) iw_X5 tw_202 dX5_does_76)
  (okC (ok_calV X (i := 148) (e := en_47) rfl mt_47 rfl rfl rfl tw_462 tw_463 (Or.inl ⟨_, _, rfl⟩) tw_464 dX5_does_79)
  (okC (ok_iadd X dX5_does_82)
  (okN))))), ok_ret X hr dX5_does_83⟩
set_option maxRecDepth 20000 in
theorem ob_X5_does_5 {x : ip_Cx} {G : ip_Gl} {d : Nat} (X : ip_X x G tb 3 d 0 0 RX5 cX5_does) (hr : x.2.2.2.2.2.2.2.2.1.sig.returnType = (some .int)) (hnm : x.2.2.2.2.2.2.2.2.1.name = "does") : ip_okB x G 3 pc_X5_does 84 ([oI (1000), oLdA 0, oGet 5 4, oGet 4 7, oBI (fun a b => a + b)], tRI .int 0 0) := ⟨_, okC (ok_si X (by decide) dX5_does_84)
  (okC (ok_aldn X rfl dX5_does_87)
  (okC (ok_get X (ci := 5) rfl (by decide) iw_X5 tw_202 dX5_does_88)
  (okC (ok_get X (ci := 4) rfl (by decide) iw_X4 tw_115 dX5_does_91)
  (okC (ok_iadd X dX5_does_94)
  (okN))))), ok_ret X hr dX5_does_95⟩
set_option maxRecDepth 20000 in
theorem ob_X5_does_6 {x : ip_Cx} {G : ip_Gl} {d : Nat} (X : ip_X x G tb 3 d 0 0 RX5 cX5_does) (hr : x.2.2.2.2.2.2.2.2.1.sig.returnType = (some .int)) (hnm : x.2.2.2.2.2.2.2.2.1.name = "does") : ip_okB x G 3 pc_X5_does 96 ([oI (1000), oLdA 0, oGet 5 4, oGet 4 8, oBI (fun a b => a + b)], tRI .int 0 0) := ⟨_, okC (ok_si X (by decide) dX5_does_96)
  (okC (ok_aldn X rfl dX5_does_99)
  (okC (ok_get X (ci := 5) rfl (by decide) iw_X5 tw_202 dX5_does_100)
  (okC (ok_get X (ci := 4) rfl (by decide) iw_X4 tw_117 dX5_does_103)
  (okC (ok_iadd X dX5_does_106)
  (okN))))), ok_ret X hr dX5_does_107⟩
set_option maxRecDepth 20000 in
theorem ob_X5_does_7 {x : ip_Cx} {G : ip_Gl} {d : Nat} (X : ip_X x G tb 3 d 0 0 RX5 cX5_does) (hr : x.2.2.2.2.2.2.2.2.1.sig.returnType = (some .int)) (hnm : x.2.2.2.2.2.2.2.2.1.name = "does") : ip_okB x G 3 pc_X5_does 108 ([oI (-1)], tRI .int 0 0) := ⟨_, okC (ok_ic X (by decide) dX5_does_108)
  (okN), ok_ret X hr dX5_does_109⟩
theorem om_59 : ip_MOk tb en_59 pc_X5_does := fun x G d X hr hnm => ⟨ob_X5_does_0 X hr hnm, ⟨ob_X5_does_1 X hr hnm, ⟨ob_X5_does_2 X hr hnm, ⟨ob_X5_does_3 X hr hnm, ⟨ob_X5_does_4 X hr hnm, ⟨ob_X5_does_5 X hr hnm, ⟨ob_X5_does_6 X hr hnm, ⟨ob_X5_does_7 X hr hnm, trivial⟩⟩⟩⟩⟩⟩⟩⟩
theorem dX5_mind_0 : decode cX5_mind 0 = .ok (.aload_n 0, 1) := by decide +kernel
theorem dX5_mind_1 : decode cX5_mind 1 = .ok (.iload_n 1, 1) := by decide +kernel
theorem dX5_mind_2 : decode cX5_mind 2 = .ok (.invokevirtual 119, 3) := by decide +kernel
theorem dX5_mind_5 : decode cX5_mind 5 = .ok (.ifCond .eq 17, 3) := by decide +kernel
theorem dX5_mind_8 : decode cX5_mind 8 = .ok (.iload_n 2, 1) := by decide +kernel
theorem dX5_mind_9 : decode cX5_mind 9 = .ok (.invokestatic 108, 3) := by decide +kernel
theorem dX5_mind_12 : decode cX5_mind 12 = .ok (.ifCond .eq 10, 3) := by decide +kernel
theorem dX5_mind_15 : decode cX5_mind 15 = .ok (.iload_n 3, 1) := by decide +kernel
theorem dX5_mind_16 : decode cX5_mind 16 = .ok (.invokestatic 112, 3) := by decide +kernel
theorem dX5_mind_19 : decode cX5_mind 19 = .ok (.ifCond .ne 5, 3) := by decide +kernel
theorem dX5_mind_22 : decode cX5_mind 22 = .ok (.iconst (-1), 1) := by decide +kernel
theorem dX5_mind_23 : decode cX5_mind 23 = .ok (.ireturn, 1) := by decide +kernel
theorem dX5_mind_24 : decode cX5_mind 24 = .ok (.aload_n 0, 1) := by decide +kernel
theorem dX5_mind_25 : decode cX5_mind 25 = .ok (.getfield 10, 3) := by decide +kernel
theorem dX5_mind_28 : decode cX5_mind 28 = .ok (.getfield 122, 3) := by decide +kernel
theorem dX5_mind_31 : decode cX5_mind 31 = .ok (.iload_n 1, 1) := by decide +kernel
theorem dX5_mind_32 : decode cX5_mind 32 = .ok (.iaload, 1) := by decide +kernel
theorem dX5_mind_33 : decode cX5_mind 33 = .ok (.istore 4, 2) := by decide +kernel
theorem dX5_mind_35 : decode cX5_mind 35 = .ok (.aload_n 0, 1) := by decide +kernel
theorem dX5_mind_36 : decode cX5_mind 36 = .ok (.getfield 10, 3) := by decide +kernel
theorem dX5_mind_39 : decode cX5_mind 39 = .ok (.getfield 122, 3) := by decide +kernel
theorem dX5_mind_42 : decode cX5_mind 42 = .ok (.iload_n 1, 1) := by decide +kernel
theorem dX5_mind_43 : decode cX5_mind 43 = .ok (.iload_n 2, 1) := by decide +kernel
theorem dX5_mind_44 : decode cX5_mind 44 = .ok (.iastore, 1) := by decide +kernel
theorem dX5_mind_45 : decode cX5_mind 45 = .ok (.aload_n 0, 1) := by decide +kernel
theorem dX5_mind_46 : decode cX5_mind 46 = .ok (.getfield 10, 3) := by decide +kernel
theorem dX5_mind_49 : decode cX5_mind 49 = .ok (.getfield 125, 3) := by decide +kernel
theorem dX5_mind_52 : decode cX5_mind 52 = .ok (.iload_n 1, 1) := by decide +kernel
theorem dX5_mind_53 : decode cX5_mind 53 = .ok (.iload_n 3, 1) := by decide +kernel
theorem dX5_mind_54 : decode cX5_mind 54 = .ok (.iastore, 1) := by decide +kernel
theorem dX5_mind_55 : decode cX5_mind 55 = .ok (.iload 4, 2) := by decide +kernel
theorem dX5_mind_57 : decode cX5_mind 57 = .ok (.ireturn, 1) := by decide +kernel
def pc_X5_mind (i : Nat) : Nat := ([0, 8, 15, 22, 24] : List Nat).getD i 0
set_option maxRecDepth 20000 in
theorem ob_X5_mind_0 {x : ip_Cx} {G : ip_Gl} {d : Nat} (X : ip_X x G tb 5 d 0 0 RX5 cX5_mind) (hr : x.2.2.2.2.2.2.2.2.1.sig.returnType = (some .int)) (hnm : x.2.2.2.2.2.2.2.2.1.name = "mind") : ip_okB x G 5 pc_X5_mind 0 ([oLdA 0, oLdI 1, oCaV (ip_call tb d) 0 0 5 102 2 0 0], tIf (fun a => a = 0) 3 1) := ⟨_, okC (ok_aldn X rfl dX5_mind_0)
  (okC (ok_ildn X rfl dX5_mind_1)
  (okC (ok_calV X (i := 119) (e := en_102) rfl mt_102 rfl rfl rfl tw_409 tw_411 (Or.inl ⟨_, _, rfl⟩) tp_0 dX5_mind_2)
  (okN))), ok_ifeq X (by decide) rfl dX5_mind_5⟩
set_option maxRecDepth 20000 in
theorem ob_X5_mind_1 {x : ip_Cx} {G : ip_Gl} {d : Nat} (X : ip_X x G tb 5 d 0 0 RX5 cX5_mind) (hr : x.2.2.2.2.2.2.2.2.1.sig.returnType = (some .int)) (hnm : x.2.2.2.2.2.2.2.2.1.name = "mind") : ip_okB x G 5 pc_X5_mind 8 ([oLdI 2, oCal (ip_call tb d) 0 0 96 1 0 0], tIf (fun a => a = 0) 3 2) := ⟨_, okC (ok_ildn X rfl dX5_mind_8)
  (okC (ok_calS X (i := 108) (e := en_96) rfl mt_96 rfl rfl rfl tw_398 tw_399 dX5_mind_9)
  (okN)), ok_ifeq X (by decide) rfl dX5_mind_12⟩
set_option maxRecDepth 20000 in
theorem ob_X5_mind_2 {x : ip_Cx} {G : ip_Gl} {d : Nat} (X : ip_X x G tb 5 d 0 0 RX5 cX5_mind) (hr : x.2.2.2.2.2.2.2.2.1.sig.returnType = (some .int)) (hnm : x.2.2.2.2.2.2.2.2.1.name = "mind") : ip_okB x G 5 pc_X5_mind 15 ([oLdI 3, oCal (ip_call tb d) 0 0 97 1 0 0], tIf (fun a => a = 0) 3 4) := ⟨_, okC (ok_ildn X rfl dX5_mind_15)
  (okC (ok_calS X (i := 112) (e := en_97) rfl mt_97 rfl rfl rfl tw_401 tw_402 dX5_mind_16)
  (okN)), ok_ifne X (by decide) rfl dX5_mind_19⟩
set_option maxRecDepth 20000 in
theorem ob_X5_mind_3 {x : ip_Cx} {G : ip_Gl} {d : Nat} (X : ip_X x G tb 5 d 0 0 RX5 cX5_mind) (hr : x.2.2.2.2.2.2.2.2.1.sig.returnType = (some .int)) (hnm : x.2.2.2.2.2.2.2.2.1.name = "mind") : ip_okB x G 5 pc_X5_mind 22 ([oI (-1)], tRI .int 0 0) := ⟨_, okC (ok_ic X (by decide) dX5_mind_22)
  (okN), ok_ret X hr dX5_mind_23⟩
set_option maxRecDepth 20000 in
theorem ob_X5_mind_4 {x : ip_Cx} {G : ip_Gl} {d : Nat} (X : ip_X x G tb 5 d 0 0 RX5 cX5_mind) (hr : x.2.2.2.2.2.2.2.2.1.sig.returnType = (some .int)) (hnm : x.2.2.2.2.2.2.2.2.1.name = "mind") : ip_okB x G 5 pc_X5_mind 24 ([oLdA 0, oGet 5 0, oGet 1 5, oLdI 1, oAldI, oStI 4, oLdA 0, oGet 5 0, oGet 1 5, oLdI 1, oLdI 2, oAstI, oLdA 0, oGet 5 0, oGet 1 6, oLdI 1, oLdI 3, oAstI, oLdI 4], tRI .int 0 0) := ⟨_, okC (ok_aldn X rfl dX5_mind_24)
  (okC (ok_get X (ci := 5) rfl (by decide) iw_X5 tw_198 dX5_mind_25)
  (okC (ok_get X (ci := 1) rfl (by decide) iw_X1 tw_55 dX5_mind_28)
  (okC (ok_ildn X rfl dX5_mind_31)
  (okC (ok_iald X dX5_mind_32)
  (okC (ok_ist X (by decide) dX5_mind_33)
  (okC (ok_aldn X rfl dX5_mind_35)
  (okC (ok_get X (ci := 5) rfl (by decide) iw_X5 tw_198 dX5_mind_36)
  (okC (ok_get X (ci := 1) rfl (by decide) iw_X1 tw_55 dX5_mind_39)
  (okC (ok_ildn X rfl dX5_mind_42)
  (okC (ok_ildn X rfl dX5_mind_43)
  (okC (ok_iast X dX5_mind_44)
  (okC (ok_aldn X rfl dX5_mind_45)
  (okC (ok_get X (ci := 5) rfl (by decide) iw_X5 tw_198 dX5_mind_46)
  (okC (ok_get X (ci := 1) rfl (by decide) iw_X1 tw_59 dX5_mind_49)
  (okC (ok_ildn X rfl dX5_mind_52)
  (okC (ok_ildn X rfl dX5_mind_53)
  (okC (ok_iast X dX5_mind_54)
  (okC (ok_ild X dX5_mind_55)
  (okN))))))))))))))))))), ok_ret X hr dX5_mind_57⟩
theorem om_60 : ip_MOk tb en_60 pc_X5_mind := fun x G d X hr hnm => ⟨ob_X5_mind_0 X hr hnm, ⟨ob_X5_mind_1 X hr hnm, ⟨ob_X5_mind_2 X hr hnm, ⟨ob_X5_mind_3 X hr hnm, ⟨ob_X5_mind_4 X hr hnm, trivial⟩⟩⟩⟩⟩
theorem dX5_say_0 : decode cX5_say 0 = .ok (.aload_n 0, 1) := by decide +kernel
theorem dX5_say_1 : decode cX5_say 1 = .ok (.iload_n 1, 1) := by decide +kernel
theorem dX5_say_2 : decode cX5_say 2 = .ok (.invokevirtual 119, 3) := by decide +kernel
theorem dX5_say_5 : decode cX5_say 5 = .ok (.ifCond .eq 23, 3) := by decide +kernel
theorem dX5_say_8 : decode cX5_say 8 = .ok (.iload_n 2, 1) := by decide +kernel
theorem dX5_say_9 : decode cX5_say 9 = .ok (.invokestatic 157, 3) := by decide +kernel
theorem dX5_say_12 : decode cX5_say 12 = .ok (.ifCond .eq 16, 3) := by decide +kernel
theorem dX5_say_15 : decode cX5_say 15 = .ok (.iload_n 3, 1) := by decide +kernel
theorem dX5_say_16 : decode cX5_say 16 = .ok (.invokestatic 157, 3) := by decide +kernel
theorem dX5_say_19 : decode cX5_say 19 = .ok (.ifCond .eq 9, 3) := by decide +kernel
theorem dX5_say_22 : decode cX5_say 22 = .ok (.iload_n 2, 1) := by decide +kernel
theorem dX5_say_23 : decode cX5_say 23 = .ok (.iload_n 3, 1) := by decide +kernel
theorem dX5_say_24 : decode cX5_say 24 = .ok (.iand, 1) := by decide +kernel
theorem dX5_say_25 : decode cX5_say 25 = .ok (.ifCond .eq 5, 3) := by decide +kernel
theorem dX5_say_28 : decode cX5_say 28 = .ok (.iconst (-1), 1) := by decide +kernel
theorem dX5_say_29 : decode cX5_say 29 = .ok (.ireturn, 1) := by decide +kernel
theorem dX5_say_30 : decode cX5_say 30 = .ok (.aload_n 0, 1) := by decide +kernel
theorem dX5_say_31 : decode cX5_say 31 = .ok (.getfield 10, 3) := by decide +kernel
theorem dX5_say_34 : decode cX5_say 34 = .ok (.iload_n 1, 1) := by decide +kernel
theorem dX5_say_35 : decode cX5_say 35 = .ok (.invokevirtual 160, 3) := by decide +kernel
theorem dX5_say_38 : decode cX5_say 38 = .ok (.istore 4, 2) := by decide +kernel
theorem dX5_say_40 : decode cX5_say 40 = .ok (.aload_n 0, 1) := by decide +kernel
theorem dX5_say_41 : decode cX5_say 41 = .ok (.getfield 10, 3) := by decide +kernel
theorem dX5_say_44 : decode cX5_say 44 = .ok (.getfield 131, 3) := by decide +kernel
theorem dX5_say_47 : decode cX5_say 47 = .ok (.iload_n 1, 1) := by decide +kernel
theorem dX5_say_48 : decode cX5_say 48 = .ok (.iload_n 2, 1) := by decide +kernel
theorem dX5_say_49 : decode cX5_say 49 = .ok (.iastore, 1) := by decide +kernel
theorem dX5_say_50 : decode cX5_say 50 = .ok (.aload_n 0, 1) := by decide +kernel
theorem dX5_say_51 : decode cX5_say 51 = .ok (.getfield 10, 3) := by decide +kernel
theorem dX5_say_54 : decode cX5_say 54 = .ok (.getfield 134, 3) := by decide +kernel
theorem dX5_say_57 : decode cX5_say 57 = .ok (.iload_n 1, 1) := by decide +kernel
theorem dX5_say_58 : decode cX5_say 58 = .ok (.iload_n 3, 1) := by decide +kernel
theorem dX5_say_59 : decode cX5_say 59 = .ok (.iastore, 1) := by decide +kernel
theorem dX5_say_60 : decode cX5_say 60 = .ok (.iload 4, 2) := by decide +kernel
theorem dX5_say_62 : decode cX5_say 62 = .ok (.ireturn, 1) := by decide +kernel
def pc_X5_say (i : Nat) : Nat := ([0, 8, 15, 22, 28, 30] : List Nat).getD i 0
set_option maxRecDepth 20000 in
theorem ob_X5_say_0 {x : ip_Cx} {G : ip_Gl} {d : Nat} (X : ip_X x G tb 5 d 0 0 RX5 cX5_say) (hr : x.2.2.2.2.2.2.2.2.1.sig.returnType = (some .int)) (hnm : x.2.2.2.2.2.2.2.2.1.name = "say") : ip_okB x G 5 pc_X5_say 0 ([oLdA 0, oLdI 1, oCaV (ip_call tb d) 0 0 5 102 2 0 0], tIf (fun a => a = 0) 4 1) := ⟨_, okC (ok_aldn X rfl dX5_say_0)
  (okC (ok_ildn X rfl dX5_say_1)
  (okC (ok_calV X (i := 119) (e := en_102) rfl mt_102 rfl rfl rfl tw_409 tw_411 (Or.inl ⟨_, _, rfl⟩) tp_0 dX5_say_2)
  (okN))), ok_ifeq X (by decide) rfl dX5_say_5⟩
set_option maxRecDepth 20000 in
theorem ob_X5_say_1 {x : ip_Cx} {G : ip_Gl} {d : Nat} (X : ip_X x G tb 5 d 0 0 RX5 cX5_say) (hr : x.2.2.2.2.2.2.2.2.1.sig.returnType = (some .int)) (hnm : x.2.2.2.2.2.2.2.2.1.name = "say") : ip_okB x G 5 pc_X5_say 8 ([oLdI 2, oCal (ip_call tb d) 0 0 98 1 0 0], tIf (fun a => a = 0) 4 2) := ⟨_, okC (ok_ildn X rfl dX5_say_8)
  (okC (ok_calS X (i := 157) (e := en_98) rfl mt_98 rfl rfl rfl tw_474 tw_475 dX5_say_9)
  (okN)), ok_ifeq X (by decide) rfl dX5_say_12⟩
set_option maxRecDepth 20000 in
theorem ob_X5_say_2 {x : ip_Cx} {G : ip_Gl} {d : Nat} (X : ip_X x G tb 5 d 0 0 RX5 cX5_say) (hr : x.2.2.2.2.2.2.2.2.1.sig.returnType = (some .int)) (hnm : x.2.2.2.2.2.2.2.2.1.name = "say") : ip_okB x G 5 pc_X5_say 15 ([oLdI 3, oCal (ip_call tb d) 0 0 98 1 0 0], tIf (fun a => a = 0) 4 3) := ⟨_, okC (ok_ildn X rfl dX5_say_15)
  (okC (ok_calS X (i := 157) (e := en_98) rfl mt_98 rfl rfl rfl tw_474 tw_475 dX5_say_16)
  (okN)), ok_ifeq X (by decide) rfl dX5_say_19⟩
set_option maxRecDepth 20000 in
theorem ob_X5_say_3 {x : ip_Cx} {G : ip_Gl} {d : Nat} (X : ip_X x G tb 5 d 0 0 RX5 cX5_say) (hr : x.2.2.2.2.2.2.2.2.1.sig.returnType = (some .int)) (hnm : x.2.2.2.2.2.2.2.2.1.name = "say") : ip_okB x G 5 pc_X5_say 22 ([oLdI 2, oLdI 3, oBI (fun a b => a &&& b)], tIf (fun a => a = 0) 5 4) := ⟨_, okC (ok_ildn X rfl dX5_say_22)
  (okC (ok_ildn X rfl dX5_say_23)
  (okC (ok_iand X dX5_say_24)
  (okN))), ok_ifeq X (by decide) rfl dX5_say_25⟩
set_option maxRecDepth 20000 in
theorem ob_X5_say_4 {x : ip_Cx} {G : ip_Gl} {d : Nat} (X : ip_X x G tb 5 d 0 0 RX5 cX5_say) (hr : x.2.2.2.2.2.2.2.2.1.sig.returnType = (some .int)) (hnm : x.2.2.2.2.2.2.2.2.1.name = "say") : ip_okB x G 5 pc_X5_say 28 ([oI (-1)], tRI .int 0 0) := ⟨_, okC (ok_ic X (by decide) dX5_say_28)
  (okN), ok_ret X hr dX5_say_29⟩
set_option maxRecDepth 20000 in
theorem ob_X5_say_5 {x : ip_Cx} {G : ip_Gl} {d : Nat} (X : ip_X x G tb 5 d 0 0 RX5 cX5_say) (hr : x.2.2.2.2.2.2.2.2.1.sig.returnType = (some .int)) (hnm : x.2.2.2.2.2.2.2.2.1.name = "say") : ip_okB x G 5 pc_X5_say 30 ([oLdA 0, oGet 5 0, oLdI 1, oCaV (ip_call tb d) 0 0 1 11 2 0 0, oStI 4, oLdA 0, oGet 5 0, oGet 1 8, oLdI 1, oLdI 2, oAstI, oLdA 0, oGet 5 0, oGet 1 9, oLdI 1, oLdI 3, oAstI, oLdI 4], tRI .int 0 0) := ⟨_, okC (ok_aldn X rfl dX5_say_30)
  (okC (ok_get X (ci := 5) rfl (by decide) iw_X5 tw_198 dX5_say_31)
  (okC (ok_ildn X rfl dX5_say_34)
  (okC (ok_calV X (i := 160) (e := en_11) rfl mt_11 rfl rfl rfl tw_477 tw_438 (Or.inl ⟨_, _, rfl⟩) tw_439 dX5_say_35)
  (okC (ok_ist X (by decide) dX5_say_38)
  (okC (ok_aldn X rfl dX5_say_40)
  (okC (ok_get X (ci := 5) rfl (by decide) iw_X5 tw_198 dX5_say_41)
  (okC (ok_get X (ci := 1) rfl (by decide) iw_X1 tw_66 dX5_say_44)
  (okC (ok_ildn X rfl dX5_say_47)
  (okC (ok_ildn X rfl dX5_say_48)
  (okC (ok_iast X dX5_say_49)
  (okC (ok_aldn X rfl dX5_say_50)
  (okC (ok_get X (ci := 5) rfl (by decide) iw_X5 tw_198 dX5_say_51)
  (okC (ok_get X (ci := 1) rfl (by decide) iw_X1 tw_69 dX5_say_54)
  (okC (ok_ildn X rfl dX5_say_57)
  (okC (ok_ildn X rfl dX5_say_58)
  (okC (ok_iast X dX5_say_59)
  (okC (ok_ild X dX5_say_60)
  (okN)))))))))))))))))), ok_ret X hr dX5_say_62⟩
theorem om_61 : ip_MOk tb en_61 pc_X5_say := fun x G d X hr hnm => ⟨ob_X5_say_0 X hr hnm, ⟨ob_X5_say_1 X hr hnm, ⟨ob_X5_say_2 X hr hnm, ⟨ob_X5_say_3 X hr hnm, ⟨ob_X5_say_4 X hr hnm, ⟨ob_X5_say_5 X hr hnm, trivial⟩⟩⟩⟩⟩⟩
theorem dX5_stand_0 : decode cX5_stand 0 = .ok (.aload_n 0, 1) := by decide +kernel
theorem dX5_stand_1 : decode cX5_stand 1 = .ok (.iload_n 1, 1) := by decide +kernel
theorem dX5_stand_2 : decode cX5_stand 2 = .ok (.invokevirtual 119, 3) := by decide +kernel
theorem dX5_stand_5 : decode cX5_stand 5 = .ok (.ifCond .eq 13, 3) := by decide +kernel
theorem dX5_stand_8 : decode cX5_stand 8 = .ok (.iload_n 2, 1) := by decide +kernel
theorem dX5_stand_9 : decode cX5_stand 9 = .ok (.iconst 0, 1) := by decide +kernel
theorem dX5_stand_10 : decode cX5_stand 10 = .ok (.bipush 20, 2) := by decide +kernel
theorem dX5_stand_12 : decode cX5_stand 12 = .ok (.invokestatic 67, 3) := by decide +kernel
theorem dX5_stand_15 : decode cX5_stand 15 = .ok (.ifCond .ne 5, 3) := by decide +kernel
theorem dX5_stand_18 : decode cX5_stand 18 = .ok (.iconst (-1), 1) := by decide +kernel
theorem dX5_stand_19 : decode cX5_stand 19 = .ok (.ireturn, 1) := by decide +kernel
theorem dX5_stand_20 : decode cX5_stand 20 = .ok (.aload_n 0, 1) := by decide +kernel
theorem dX5_stand_21 : decode cX5_stand 21 = .ok (.getfield 10, 3) := by decide +kernel
theorem dX5_stand_24 : decode cX5_stand 24 = .ok (.getfield 128, 3) := by decide +kernel
theorem dX5_stand_27 : decode cX5_stand 27 = .ok (.iload_n 1, 1) := by decide +kernel
theorem dX5_stand_28 : decode cX5_stand 28 = .ok (.iaload, 1) := by decide +kernel
theorem dX5_stand_29 : decode cX5_stand 29 = .ok (.istore_n 3, 1) := by decide +kernel
theorem dX5_stand_30 : decode cX5_stand 30 = .ok (.aload_n 0, 1) := by decide +kernel
theorem dX5_stand_31 : decode cX5_stand 31 = .ok (.getfield 10, 3) := by decide +kernel
theorem dX5_stand_34 : decode cX5_stand 34 = .ok (.getfield 128, 3) := by decide +kernel
theorem dX5_stand_37 : decode cX5_stand 37 = .ok (.iload_n 1, 1) := by decide +kernel
theorem dX5_stand_38 : decode cX5_stand 38 = .ok (.iload_n 2, 1) := by decide +kernel
theorem dX5_stand_39 : decode cX5_stand 39 = .ok (.iastore, 1) := by decide +kernel
theorem dX5_stand_40 : decode cX5_stand 40 = .ok (.aload_n 0, 1) := by decide +kernel
theorem dX5_stand_41 : decode cX5_stand 41 = .ok (.getfield 10, 3) := by decide +kernel
theorem dX5_stand_44 : decode cX5_stand 44 = .ok (.aload_n 0, 1) := by decide +kernel
theorem dX5_stand_45 : decode cX5_stand 45 = .ok (.getfield 10, 3) := by decide +kernel
theorem dX5_stand_48 : decode cX5_stand 48 = .ok (.getfield 137, 3) := by decide +kernel
theorem dX5_stand_51 : decode cX5_stand 51 = .ok (.iload_n 1, 1) := by decide +kernel
theorem dX5_stand_52 : decode cX5_stand 52 = .ok (.iconst 0, 1) := by decide +kernel
theorem dX5_stand_53 : decode cX5_stand 53 = .ok (.invokestatic 104, 3) := by decide +kernel
theorem dX5_stand_56 : decode cX5_stand 56 = .ok (.putfield 137, 3) := by decide +kernel
theorem dX5_stand_59 : decode cX5_stand 59 = .ok (.iload_n 3, 1) := by decide +kernel
theorem dX5_stand_60 : decode cX5_stand 60 = .ok (.ireturn, 1) := by decide +kernel
def pc_X5_stand (i : Nat) : Nat := ([0, 8, 18, 20] : List Nat).getD i 0
set_option maxRecDepth 20000 in
theorem ob_X5_stand_0 {x : ip_Cx} {G : ip_Gl} {d : Nat} (X : ip_X x G tb 4 d 0 0 RX5 cX5_stand) (hr : x.2.2.2.2.2.2.2.2.1.sig.returnType = (some .int)) (hnm : x.2.2.2.2.2.2.2.2.1.name = "stand") : ip_okB x G 4 pc_X5_stand 0 ([oLdA 0, oLdI 1, oCaV (ip_call tb d) 0 0 5 102 2 0 0], tIf (fun a => a = 0) 2 1) := ⟨_, okC (ok_aldn X rfl dX5_stand_0)
  (okC (ok_ildn X rfl dX5_stand_1)
  (okC (ok_calV X (i := 119) (e := en_102) rfl mt_102 rfl rfl rfl tw_409 tw_411 (Or.inl ⟨_, _, rfl⟩) tp_0 dX5_stand_2)
  (okN))), ok_ifeq X (by decide) rfl dX5_stand_5⟩
set_option maxRecDepth 20000 in
theorem ob_X5_stand_1 {x : ip_Cx} {G : ip_Gl} {d : Nat} (X : ip_X x G tb 4 d 0 0 RX5 cX5_stand) (hr : x.2.2.2.2.2.2.2.2.1.sig.returnType = (some .int)) (hnm : x.2.2.2.2.2.2.2.2.1.name = "stand") : ip_okB x G 4 pc_X5_stand 8 ([oLdI 2, oI (0), oI (20), oCal (ip_call tb d) 0 0 95 3 0 0], tIf (fun a => a = 0) 2 3) := ⟨_, okC (ok_ildn X rfl dX5_stand_8)
  (okC (ok_ic X (by decide) dX5_stand_9)
  (okC (ok_bi X (by decide) dX5_stand_10)
  (okC (ok_calS X (i := 67) (e := en_95) rfl mt_95 rfl rfl rfl tw_239 tw_240 dX5_stand_12)
  (okN)))), ok_ifne X (by decide) rfl dX5_stand_15⟩
set_option maxRecDepth 20000 in
theorem ob_X5_stand_2 {x : ip_Cx} {G : ip_Gl} {d : Nat} (X : ip_X x G tb 4 d 0 0 RX5 cX5_stand) (hr : x.2.2.2.2.2.2.2.2.1.sig.returnType = (some .int)) (hnm : x.2.2.2.2.2.2.2.2.1.name = "stand") : ip_okB x G 4 pc_X5_stand 18 ([oI (-1)], tRI .int 0 0) := ⟨_, okC (ok_ic X (by decide) dX5_stand_18)
  (okN), ok_ret X hr dX5_stand_19⟩
set_option maxRecDepth 20000 in
theorem ob_X5_stand_3 {x : ip_Cx} {G : ip_Gl} {d : Nat} (X : ip_X x G tb 4 d 0 0 RX5 cX5_stand) (hr : x.2.2.2.2.2.2.2.2.1.sig.returnType = (some .int)) (hnm : x.2.2.2.2.2.2.2.2.1.name = "stand") : ip_okB x G 4 pc_X5_stand 20 ([oLdA 0, oGet 5 0, oGet 1 7, oLdI 1, oAldI, oStI 3, oLdA 0, oGet 5 0, oGet 1 7, oLdI 1, oLdI 2, oAstI, oLdA 0, oGet 5 0, oLdA 0, oGet 5 0, oGet 1 10, oLdI 1, oI (0), oCal (ip_call tb d) 0 0 105 3 0 0, oPut 1 10 .int, oLdI 3], tRI .int 0 0) := ⟨_, okC (ok_aldn X rfl dX5_stand_20)
  (okC (ok_get X (ci := 5) rfl (by decide) iw_X5 tw_198 dX5_stand_21)
  (okC (ok_get X (ci := 1) rfl (by decide) iw_X1 tw_63 dX5_stand_24)
  (okC (ok_ildn X rfl dX5_stand_27)
  (okC (ok_iald X dX5_stand_28)
  (okC (ok_istn X rfl (by decide) dX5_stand_29)
  (okC (ok_aldn X rfl dX5_stand_30)
  (okC (ok_get X (ci := 5) rfl (by decide) iw_X5 tw_198 dX5_stand_31)
  (okC (ok_get X (ci := 1) rfl (by decide) iw_X1 tw_63 dX5_stand_34)
  (okC (ok_ildn X rfl dX5_stand_37)
  (okC (ok_ildn X rfl dX5_stand_38)
  (okC (ok_iast X dX5_stand_39)
  (okC (ok_aldn X rfl dX5_stand_40)
  (okC (ok_get X (ci := 5) rfl (by decide) iw_X5 tw_198 dX5_stand_41)
  (okC (ok_aldn X rfl dX5_stand_44)
  (okC (ok_get X (ci := 5) rfl (by decide) iw_X5 tw_198 dX5_stand_45)
  (okC (ok_get X (ci := 1) rfl (by decide) iw_X1 tw_72 dX5_stand_48)
  (okC (ok_ildn X rfl dX5_stand_51)
  (okC (ok_ic X (by decide) dX5_stand_52)
  (okC (ok_calS X (i := 104) (e := en_105) rfl mt_105 rfl rfl rfl tw_391 tw_392 dX5_stand_53)
  (okC (ok_put X (ci := 1) rfl (by decide) iw_X1 tyX1_ok nmX1 rfl (Or.inl rfl) tw_72 dX5_stand_56)
  (okC (ok_ildn X rfl dX5_stand_59)
  (okN)))))))))))))))))))))), ok_ret X hr dX5_stand_60⟩
theorem om_62 : ip_MOk tb en_62 pc_X5_stand := fun x G d X hr hnm => ⟨ob_X5_stand_0 X hr hnm, ⟨ob_X5_stand_1 X hr hnm, ⟨ob_X5_stand_2 X hr hnm, ⟨ob_X5_stand_3 X hr hnm, trivial⟩⟩⟩⟩
theorem dX5_steps_0 : decode cX5_steps 0 = .ok (.iload_n 1, 1) := by decide +kernel
theorem dX5_steps_1 : decode cX5_steps 1 = .ok (.iconst 1, 1) := by decide +kernel
theorem dX5_steps_2 : decode cX5_steps 2 = .ok (.bipush 60, 2) := by decide +kernel
theorem dX5_steps_4 : decode cX5_steps 4 = .ok (.invokestatic 67, 3) := by decide +kernel
theorem dX5_steps_7 : decode cX5_steps 7 = .ok (.ifCond .ne 5, 3) := by decide +kernel
theorem dX5_steps_10 : decode cX5_steps 10 = .ok (.iconst (-1), 1) := by decide +kernel
theorem dX5_steps_11 : decode cX5_steps 11 = .ok (.ireturn, 1) := by decide +kernel
theorem dX5_steps_12 : decode cX5_steps 12 = .ok (.iconst 0, 1) := by decide +kernel
theorem dX5_steps_13 : decode cX5_steps 13 = .ok (.istore_n 2, 1) := by decide +kernel
theorem dX5_steps_14 : decode cX5_steps 14 = .ok (.iload_n 2, 1) := by decide +kernel
theorem dX5_steps_15 : decode cX5_steps 15 = .ok (.iload_n 1, 1) := by decide +kernel
theorem dX5_steps_16 : decode cX5_steps 16 = .ok (.if_icmp .ge 20, 3) := by decide +kernel
theorem dX5_steps_19 : decode cX5_steps 19 = .ok (.aload_n 0, 1) := by decide +kernel
theorem dX5_steps_20 : decode cX5_steps 20 = .ok (.getfield 10, 3) := by decide +kernel
theorem dX5_steps_23 : decode cX5_steps 23 = .ok (.aload_n 0, 1) := by decide +kernel
theorem dX5_steps_24 : decode cX5_steps 24 = .ok (.getfield 29, 3) := by decide +kernel
theorem dX5_steps_27 : decode cX5_steps 27 = .ok (.invokevirtual 164, 3) := by decide +kernel
theorem dX5_steps_30 : decode cX5_steps 30 = .ok (.iinc 2 1, 3) := by decide +kernel
theorem dX5_steps_33 : decode cX5_steps 33 = .ok (.goto (-19), 3) := by decide +kernel
theorem dX5_steps_36 : decode cX5_steps 36 = .ok (.aload_n 0, 1) := by decide +kernel
theorem dX5_steps_37 : decode cX5_steps 37 = .ok (.getfield 10, 3) := by decide +kernel
theorem dX5_steps_40 : decode cX5_steps 40 = .ok (.invokevirtual 168, 3) := by decide +kernel
theorem dX5_steps_43 : decode cX5_steps 43 = .ok (.invokestatic 171, 3) := by decide +kernel
theorem dX5_steps_46 : decode cX5_steps 46 = .ok (.ireturn, 1) := by decide +kernel
def pc_X5_steps (i : Nat) : Nat := ([0, 10, 12, 14, 19, 36] : List Nat).getD i 0
set_option maxRecDepth 20000 in
theorem ob_X5_steps_0 {x : ip_Cx} {G : ip_Gl} {d : Nat} (X : ip_X x G tb 3 d 0 0 RX5 cX5_steps) (hr : x.2.2.2.2.2.2.2.2.1.sig.returnType = (some .int)) (hnm : x.2.2.2.2.2.2.2.2.1.name = "steps") : ip_okB x G 3 pc_X5_steps 0 ([oLdI 1, oI (1), oI (60), oCal (ip_call tb d) 0 0 95 3 0 0], tIf (fun a => a = 0) 1 2) := ⟨_, okC (ok_ildn X rfl dX5_steps_0)
  (okC (ok_ic X (by decide) dX5_steps_1)
  (okC (ok_bi X (by decide) dX5_steps_2)
  (okC (ok_calS X (i := 67) (e := en_95) rfl mt_95 rfl rfl rfl tw_239 tw_240 dX5_steps_4)
  (okN)))), ok_ifne X (by decide) rfl dX5_steps_7⟩
set_option maxRecDepth 20000 in
theorem ob_X5_steps_1 {x : ip_Cx} {G : ip_Gl} {d : Nat} (X : ip_X x G tb 3 d 0 0 RX5 cX5_steps) (hr : x.2.2.2.2.2.2.2.2.1.sig.returnType = (some .int)) (hnm : x.2.2.2.2.2.2.2.2.1.name = "steps") : ip_okB x G 3 pc_X5_steps 10 ([oI (-1)], tRI .int 0 0) := ⟨_, okC (ok_ic X (by decide) dX5_steps_10)
  (okN), ok_ret X hr dX5_steps_11⟩
set_option maxRecDepth 20000 in
theorem ob_X5_steps_2 {x : ip_Cx} {G : ip_Gl} {d : Nat} (X : ip_X x G tb 3 d 0 0 RX5 cX5_steps) (hr : x.2.2.2.2.2.2.2.2.1.sig.returnType = (some .int)) (hnm : x.2.2.2.2.2.2.2.2.1.name = "steps") : ip_okB x G 3 pc_X5_steps 12 ([oI (0), oStI 2], tGo 3) := ⟨_, okC (ok_ic X (by decide) dX5_steps_12)
  (okC (ok_istn X rfl (by decide) dX5_steps_13)
  (okN)), ok_fall rfl⟩
set_option maxRecDepth 20000 in
theorem ob_X5_steps_3 {x : ip_Cx} {G : ip_Gl} {d : Nat} (X : ip_X x G tb 3 d 0 0 RX5 cX5_steps) (hr : x.2.2.2.2.2.2.2.2.1.sig.returnType = (some .int)) (hnm : x.2.2.2.2.2.2.2.2.1.name = "steps") : ip_okB x G 3 pc_X5_steps 14 ([oLdI 2, oLdI 1], tCm (fun a b => a < b) 4 5) := ⟨_, okC (ok_ildn X rfl dX5_steps_14)
  (okC (ok_ildn X rfl dX5_steps_15)
  (okN)), ok_cmge X (by decide) rfl dX5_steps_16⟩
set_option maxRecDepth 20000 in
theorem ob_X5_steps_4 {x : ip_Cx} {G : ip_Gl} {d : Nat} (X : ip_X x G tb 3 d 0 0 RX5 cX5_steps) (hr : x.2.2.2.2.2.2.2.2.1.sig.returnType = (some .int)) (hnm : x.2.2.2.2.2.2.2.2.1.name = "steps") : ip_okB x G 3 pc_X5_steps 19 ([oLdA 0, oGet 5 0, oLdA 0, oGet 5 4, oCaV (ip_call tb d) 0 0 1 13 2 0 0, oInc 2 (1)], tGo 3) := ⟨_, okC (ok_aldn X rfl dX5_steps_19)
  (okC (ok_get X (ci := 5) rfl (by decide) iw_X5 tw_198 dX5_steps_20)
  (okC (ok_aldn X rfl dX5_steps_23)
  (okC (ok_get X (ci := 5) rfl (by decide) iw_X5 tw_202 dX5_steps_24)
  (okC (ok_calV X (i := 164) (e := en_13) rfl mt_13 rfl rfl rfl tw_486 tw_487 (Or.inl ⟨_, _, rfl⟩) tw_488 dX5_steps_27)
  (okC (ok_inc X (by decide) dX5_steps_30)
  (okN)))))), ok_go X (by decide) dX5_steps_33⟩
set_option maxRecDepth 20000 in
theorem ob_X5_steps_5 {x : ip_Cx} {G : ip_Gl} {d : Nat} (X : ip_X x G tb 3 d 0 0 RX5 cX5_steps) (hr : x.2.2.2.2.2.2.2.2.1.sig.returnType = (some .int)) (hnm : x.2.2.2.2.2.2.2.2.1.name = "steps") : ip_okB x G 3 pc_X5_steps 36 ([oLdA 0, oGet 5 0, oCaV (ip_call tb d) 0 0 1 16 1 0 0, oCal (ip_call tb d) 0 0 227 1 0 0], tRI .int 0 0) := ⟨_, okC (ok_aldn X rfl dX5_steps_36)
  (okC (ok_get X (ci := 5) rfl (by decide) iw_X5 tw_198 dX5_steps_37)
  (okC (ok_calV X (i := 168) (e := en_16) rfl mt_16 rfl rfl rfl tw_509 tw_510 (Or.inl ⟨_, _, rfl⟩) tw_511 dX5_steps_40)
  (okC (ok_calS X (i := 171) (e := en_227) rfl mt_227 rfl rfl rfl tw_431 tw_432 dX5_steps_43)
  (okN)))), ok_ret X hr dX5_steps_46⟩
theorem om_63 : ip_MOk tb en_63 pc_X5_steps := fun x G d X hr hnm => ⟨ob_X5_steps_0 X hr hnm, ⟨ob_X5_steps_1 X hr hnm, ⟨ob_X5_steps_2 X hr hnm, ⟨ob_X5_steps_3 X hr hnm, ⟨ob_X5_steps_4 X hr hnm, ⟨ob_X5_steps_5 X hr hnm, trivial⟩⟩⟩⟩⟩⟩
theorem dX5_seed_0 : decode cX5_seed 0 = .ok (.aload_n 0, 1) := by decide +kernel
theorem dX5_seed_1 : decode cX5_seed 1 = .ok (.getfield 10, 3) := by decide +kernel
theorem dX5_seed_4 : decode cX5_seed 4 = .ok (.getfield 81, 3) := by decide +kernel
theorem dX5_seed_7 : decode cX5_seed 7 = .ok (.istore_n 2, 1) := by decide +kernel
theorem dX5_seed_8 : decode cX5_seed 8 = .ok (.aload_n 0, 1) := by decide +kernel
theorem dX5_seed_9 : decode cX5_seed 9 = .ok (.getfield 10, 3) := by decide +kernel
theorem dX5_seed_12 : decode cX5_seed 12 = .ok (.iload_n 1, 1) := by decide +kernel
theorem dX5_seed_13 : decode cX5_seed 13 = .ok (.putfield 81, 3) := by decide +kernel
theorem dX5_seed_16 : decode cX5_seed 16 = .ok (.iload_n 2, 1) := by decide +kernel
theorem dX5_seed_17 : decode cX5_seed 17 = .ok (.ireturn, 1) := by decide +kernel
def pc_X5_seed (i : Nat) : Nat := ([0] : List Nat).getD i 0
set_option maxRecDepth 20000 in
theorem ob_X5_seed_0 {x : ip_Cx} {G : ip_Gl} {d : Nat} (X : ip_X x G tb 3 d 0 0 RX5 cX5_seed) (hr : x.2.2.2.2.2.2.2.2.1.sig.returnType = (some .int)) (hnm : x.2.2.2.2.2.2.2.2.1.name = "seed") : ip_okB x G 3 pc_X5_seed 0 ([oLdA 0, oGet 5 0, oGet 1 3, oStI 2, oLdA 0, oGet 5 0, oLdI 1, oPut 1 3 .int, oLdI 2], tRI .int 0 0) := ⟨_, okC (ok_aldn X rfl dX5_seed_0)
  (okC (ok_get X (ci := 5) rfl (by decide) iw_X5 tw_198 dX5_seed_1)
  (okC (ok_get X (ci := 1) rfl (by decide) iw_X1 tw_49 dX5_seed_4)
  (okC (ok_istn X rfl (by decide) dX5_seed_7)
  (okC (ok_aldn X rfl dX5_seed_8)
  (okC (ok_get X (ci := 5) rfl (by decide) iw_X5 tw_198 dX5_seed_9)
  (okC (ok_ildn X rfl dX5_seed_12)
  (okC (ok_put X (ci := 1) rfl (by decide) iw_X1 tyX1_ok nmX1 rfl (Or.inl rfl) tw_49 dX5_seed_13)
  (okC (ok_ildn X rfl dX5_seed_16)
  (okN))))))))), ok_ret X hr dX5_seed_17⟩
theorem om_64 : ip_MOk tb en_64 pc_X5_seed := fun x G d X hr hnm => ⟨ob_X5_seed_0 X hr hnm, trivial⟩
theorem dX5_step_0 : decode cX5_step 0 = .ok (.aload_n 0, 1) := by decide +kernel
theorem dX5_step_1 : decode cX5_step 1 = .ok (.getfield 10, 3) := by decide +kernel
theorem dX5_step_4 : decode cX5_step 4 = .ok (.aload_n 0, 1) := by decide +kernel
theorem dX5_step_5 : decode cX5_step 5 = .ok (.getfield 29, 3) := by decide +kernel
theorem dX5_step_8 : decode cX5_step 8 = .ok (.invokevirtual 176, 3) := by decide +kernel
theorem dX5_step_11 : decode cX5_step 11 = .ok (.aload_n 0, 1) := by decide +kernel
theorem dX5_step_12 : decode cX5_step 12 = .ok (.getfield 10, 3) := by decide +kernel
theorem dX5_step_15 : decode cX5_step 15 = .ok (.invokevirtual 168, 3) := by decide +kernel
theorem dX5_step_18 : decode cX5_step 18 = .ok (.invokestatic 171, 3) := by decide +kernel
theorem dX5_step_21 : decode cX5_step 21 = .ok (.ireturn, 1) := by decide +kernel
def pc_X5_step (i : Nat) : Nat := ([0] : List Nat).getD i 0
set_option maxRecDepth 20000 in
theorem ob_X5_step_0 {x : ip_Cx} {G : ip_Gl} {d : Nat} (X : ip_X x G tb 1 d 0 0 RX5 cX5_step) (hr : x.2.2.2.2.2.2.2.2.1.sig.returnType = (some .int)) (hnm : x.2.2.2.2.2.2.2.2.1.name = "step") : ip_okB x G 1 pc_X5_step 0 ([oLdA 0, oGet 5 0, oLdA 0, oGet 5 4, oCaV (ip_call tb d) 0 0 1 15 2 0 0, oLdA 0, oGet 5 0, oCaV (ip_call tb d) 0 0 1 16 1 0 0, oCal (ip_call tb d) 0 0 227 1 0 0], tRI .int 0 0) := ⟨_, okC (ok_aldn X rfl dX5_step_0)
  (okC (ok_get X (ci := 5) rfl (by decide) iw_X5 tw_198 dX5_step_1)
  (okC (ok_aldn X rfl dX5_step_4)
  (okC (ok_get X (ci := 5) rfl (by decide) iw_X5 tw_202 dX5_step_5)
  (okC (ok_calV X (i := 176) (e := en_15) rfl mt_15 rfl rfl rfl tw_521 tw_522 (Or.inl ⟨_, _, rfl⟩) tw_523 dX5_step_8)
  (okC (ok_aldn X rfl dX5_step_11)
  (okC (ok_get X (ci := 5) rfl (by decide) iw_X5 tw_198 dX5_step_12)
  (okC (ok_calV X (i := 168) (e := en_16) rfl mt_16 rfl rfl rfl tw_509 tw_510 (Or.inl ⟨_, _, rfl⟩) tw_511 dX5_step_15)
  (okC (ok_calS X (i := 171) (e := en_227) rfl mt_227 rfl rfl rfl tw_431 tw_432 dX5_step_18)
  (okN))))))))), ok_ret X hr dX5_step_21⟩
theorem om_65 : ip_MOk tb en_65 pc_X5_step := fun x G d X hr hnm => ⟨ob_X5_step_0 X hr hnm, trivial⟩
theorem dX5_luck_0 : decode cX5_luck 0 = .ok (.iload_n 1, 1) := by decide +kernel
theorem dX5_luck_1 : decode cX5_luck 1 = .ok (.iconst 1, 1) := by decide +kernel
theorem dX5_luck_2 : decode cX5_luck 2 = .ok (.bipush 30, 2) := by decide +kernel
theorem dX5_luck_4 : decode cX5_luck 4 = .ok (.invokestatic 67, 3) := by decide +kernel
theorem dX5_luck_7 : decode cX5_luck 7 = .ok (.ifCond .ne 5, 3) := by decide +kernel
theorem dX5_luck_10 : decode cX5_luck 10 = .ok (.iconst (-1), 1) := by decide +kernel
theorem dX5_luck_11 : decode cX5_luck 11 = .ok (.ireturn, 1) := by decide +kernel
theorem dX5_luck_12 : decode cX5_luck 12 = .ok (.aload_n 0, 1) := by decide +kernel
theorem dX5_luck_13 : decode cX5_luck 13 = .ok (.getfield 16, 3) := by decide +kernel
theorem dX5_luck_16 : decode cX5_luck 16 = .ok (.aload_n 0, 1) := by decide +kernel
theorem dX5_luck_17 : decode cX5_luck 17 = .ok (.getfield 10, 3) := by decide +kernel
theorem dX5_luck_20 : decode cX5_luck 20 = .ok (.invokevirtual 88, 3) := by decide +kernel
theorem dX5_luck_23 : decode cX5_luck 23 = .ok (.aload_n 0, 1) := by decide +kernel
theorem dX5_luck_24 : decode cX5_luck 24 = .ok (.getfield 16, 3) := by decide +kernel
theorem dX5_luck_27 : decode cX5_luck 27 = .ok (.aload_n 0, 1) := by decide +kernel
theorem dX5_luck_28 : decode cX5_luck 28 = .ok (.getfield 29, 3) := by decide +kernel
theorem dX5_luck_31 : decode cX5_luck 31 = .ok (.invokevirtual 164, 3) := by decide +kernel
theorem dX5_luck_34 : decode cX5_luck 34 = .ok (.aload_n 0, 1) := by decide +kernel
theorem dX5_luck_35 : decode cX5_luck 35 = .ok (.getfield 16, 3) := by decide +kernel
theorem dX5_luck_38 : decode cX5_luck 38 = .ok (.getfield 137, 3) := by decide +kernel
theorem dX5_luck_41 : decode cX5_luck 41 = .ok (.invokestatic 171, 3) := by decide +kernel
theorem dX5_luck_44 : decode cX5_luck 44 = .ok (.istore_n 2, 1) := by decide +kernel
theorem dX5_luck_45 : decode cX5_luck 45 = .ok (.iconst 0, 1) := by decide +kernel
theorem dX5_luck_46 : decode cX5_luck 46 = .ok (.istore_n 3, 1) := by decide +kernel
theorem dX5_luck_47 : decode cX5_luck 47 = .ok (.aload_n 0, 1) := by decide +kernel
theorem dX5_luck_48 : decode cX5_luck 48 = .ok (.getfield 10, 3) := by decide +kernel
theorem dX5_luck_51 : decode cX5_luck 51 = .ok (.getfield 81, 3) := by decide +kernel
theorem dX5_luck_54 : decode cX5_luck 54 = .ok (.istore 4, 2) := by decide +kernel
theorem dX5_luck_56 : decode cX5_luck 56 = .ok (.iconst 0, 1) := by decide +kernel
theorem dX5_luck_57 : decode cX5_luck 57 = .ok (.istore 5, 2) := by decide +kernel
theorem dX5_luck_59 : decode cX5_luck 59 = .ok (.iload 5, 2) := by decide +kernel
theorem dX5_luck_61 : decode cX5_luck 61 = .ok (.iload_n 1, 1) := by decide +kernel
theorem dX5_luck_62 : decode cX5_luck 62 = .ok (.if_icmp .ge 66, 3) := by decide +kernel
theorem dX5_luck_65 : decode cX5_luck 65 = .ok (.aload_n 0, 1) := by decide +kernel
theorem dX5_luck_66 : decode cX5_luck 66 = .ok (.getfield 16, 3) := by decide +kernel
theorem dX5_luck_69 : decode cX5_luck 69 = .ok (.aload_n 0, 1) := by decide +kernel
theorem dX5_luck_70 : decode cX5_luck 70 = .ok (.getfield 10, 3) := by decide +kernel
theorem dX5_luck_73 : decode cX5_luck 73 = .ok (.invokevirtual 88, 3) := by decide +kernel
theorem dX5_luck_76 : decode cX5_luck 76 = .ok (.aload_n 0, 1) := by decide +kernel
theorem dX5_luck_77 : decode cX5_luck 77 = .ok (.getfield 16, 3) := by decide +kernel
theorem dX5_luck_80 : decode cX5_luck 80 = .ok (.iload 4, 2) := by decide +kernel
theorem dX5_luck_82 : decode cX5_luck 82 = .ok (.putfield 81, 3) := by decide +kernel
theorem dX5_luck_85 : decode cX5_luck 85 = .ok (.aload_n 0, 1) := by decide +kernel
theorem dX5_luck_86 : decode cX5_luck 86 = .ok (.getfield 16, 3) := by decide +kernel
theorem dX5_luck_89 : decode cX5_luck 89 = .ok (.aload_n 0, 1) := by decide +kernel
theorem dX5_luck_90 : decode cX5_luck 90 = .ok (.getfield 29, 3) := by decide +kernel
theorem dX5_luck_93 : decode cX5_luck 93 = .ok (.invokevirtual 176, 3) := by decide +kernel
theorem dX5_luck_96 : decode cX5_luck 96 = .ok (.aload_n 0, 1) := by decide +kernel
theorem dX5_luck_97 : decode cX5_luck 97 = .ok (.getfield 16, 3) := by decide +kernel
theorem dX5_luck_100 : decode cX5_luck 100 = .ok (.getfield 81, 3) := by decide +kernel
theorem dX5_luck_103 : decode cX5_luck 103 = .ok (.istore 4, 2) := by decide +kernel
theorem dX5_luck_105 : decode cX5_luck 105 = .ok (.aload_n 0, 1) := by decide +kernel
theorem dX5_luck_106 : decode cX5_luck 106 = .ok (.getfield 16, 3) := by decide +kernel
theorem dX5_luck_109 : decode cX5_luck 109 = .ok (.getfield 137, 3) := by decide +kernel
theorem dX5_luck_112 : decode cX5_luck 112 = .ok (.invokestatic 171, 3) := by decide +kernel
theorem dX5_luck_115 : decode cX5_luck 115 = .ok (.iload_n 2, 1) := by decide +kernel
theorem dX5_luck_116 : decode cX5_luck 116 = .ok (.if_icmp .le 6, 3) := by decide +kernel
theorem dX5_luck_119 : decode cX5_luck 119 = .ok (.iinc 3 1, 3) := by decide +kernel
theorem dX5_luck_122 : decode cX5_luck 122 = .ok (.iinc 5 1, 3) := by decide +kernel
theorem dX5_luck_125 : decode cX5_luck 125 = .ok (.goto (-66), 3) := by decide +kernel
theorem dX5_luck_128 : decode cX5_luck 128 = .ok (.iload_n 3, 1) := by decide +kernel
theorem dX5_luck_129 : decode cX5_luck 129 = .ok (.ireturn, 1) := by decide +kernel
def pc_X5_luck (i : Nat) : Nat := ([0, 10, 12, 59, 65, 119, 122, 128] : List Nat).getD i 0
set_option maxRecDepth 20000 in
theorem ob_X5_luck_0 {x : ip_Cx} {G : ip_Gl} {d : Nat} (X : ip_X x G tb 6 d 0 0 RX5 cX5_luck) (hr : x.2.2.2.2.2.2.2.2.1.sig.returnType = (some .int)) (hnm : x.2.2.2.2.2.2.2.2.1.name = "luck") : ip_okB x G 6 pc_X5_luck 0 ([oLdI 1, oI (1), oI (30), oCal (ip_call tb d) 0 0 95 3 0 0], tIf (fun a => a = 0) 1 2) := ⟨_, okC (ok_ildn X rfl dX5_luck_0)
  (okC (ok_ic X (by decide) dX5_luck_1)
  (okC (ok_bi X (by decide) dX5_luck_2)
  (okC (ok_calS X (i := 67) (e := en_95) rfl mt_95 rfl rfl rfl tw_239 tw_240 dX5_luck_4)
  (okN)))), ok_ifne X (by decide) rfl dX5_luck_7⟩
set_option maxRecDepth 20000 in
theorem ob_X5_luck_1 {x : ip_Cx} {G : ip_Gl} {d : Nat} (X : ip_X x G tb 6 d 0 0 RX5 cX5_luck) (hr : x.2.2.2.2.2.2.2.2.1.sig.returnType = (some .int)) (hnm : x.2.2.2.2.2.2.2.2.1.name = "luck") : ip_okB x G 6 pc_X5_luck 10 ([oI (-1)], tRI .int 0 0) := ⟨_, okC (ok_ic X (by decide) dX5_luck_10)
  (okN), ok_ret X hr dX5_luck_11⟩
set_option maxRecDepth 20000 in
theorem ob_X5_luck_2 {x : ip_Cx} {G : ip_Gl} {d : Nat} (X : ip_X x G tb 6 d 0 0 RX5 cX5_luck) (hr : x.2.2.2.2.2.2.2.2.1.sig.returnType = (some .int)) (hnm : x.2.2.2.2.2.2.2.2.1.name = "luck") : ip_okB x G 6 pc_X5_luck 12 ([oLdA 0, oGet 5 1, oLdA 0, oGet 5 0, oCaV (ip_call tb d) 0 0 1 9 2 0 0, oLdA 0, oGet 5 1, oLdA 0, oGet 5 4, oCaV (ip_call tb d) 0 0 1 13 2 0 0, oLdA 0, oGet 5 1, oGet 1 10, oCal (ip_call tb d) 0 0 227 1 0 0, oStI 2, oI (0), oStI 3, oLdA 0, oGet 5 0, oGet 1 3, oStI 4, oI (0), oStI 5], tGo 3) := ⟨_, okC (ok_aldn X rfl dX5_luck_12)
  (okC (ok_get X (ci := 5) rfl (by decide) iw_X5 tw_199 dX5_luck_13)
  (okC (ok_aldn X rfl dX5_luck_16)
  (okC (ok_get X (ci := 5) rfl (by decide) iw_X5 tw_198 dX5_luck_17)
  (okC (ok_calV X (i := 88) (e := en_9) rfl mt_9 rfl rfl rfl tw_374 tw_375 (Or.inl ⟨_, _, rfl⟩) tw_376 dX5_luck_20)
  (okC (ok_aldn X rfl dX5_luck_23)
  (okC (ok_get X (ci := 5) rfl (by decide) iw_X5 tw_199 dX5_luck_24)
  (okC (ok_aldn X rfl dX5_luck_27)
  (okC (ok_get X (ci := 5) rfl (by decide) iw_X5 tw_202 dX5_luck_28)
  (okC (ok_calV X (i := 164) (e := en_13) rfl mt_13 rfl rfl rfl tw_486 tw_487 (Or.inl ⟨_, _, rfl⟩) tw_488 dX5_luck_31)
  (okC (ok_aldn X rfl dX5_luck_34)
  (okC (ok_get X (ci := 5) rfl (by decide) iw_X5 tw_199 dX5_luck_35)
  (okC (ok_get X (ci := 1) rfl (by decide) iw_X1 tw_72 dX5_luck_38)
  (okC (ok_calS X (i := 171) (e := en_227) rfl mt_227 rfl rfl rfl tw_431 tw_432 dX5_luck_41)
  (okC (ok_istn X rfl (by decide) dX5_luck_44)
  (okC (ok_ic X (by decide) dX5_luck_45)
  (okC (ok_istn X rfl (by decide) dX5_luck_46)
  (okC (ok_aldn X rfl dX5_luck_47)
  (okC (ok_get X (ci := 5) rfl (by decide) iw_X5 tw_198 dX5_luck_48)
  (okC (ok_get X (ci := 1) rfl (by decide) iw_X1 tw_49 dX5_luck_51)
  (okC (ok_ist X (by decide) dX5_luck_54)
  (okC (ok_ic X (by decide) dX5_luck_56)
  (okC (ok_ist X (by decide) dX5_luck_57)
  (okN))))))))))))))))))))))), ok_fall rfl⟩
set_option maxRecDepth 20000 in
theorem ob_X5_luck_3 {x : ip_Cx} {G : ip_Gl} {d : Nat} (X : ip_X x G tb 6 d 0 0 RX5 cX5_luck) (hr : x.2.2.2.2.2.2.2.2.1.sig.returnType = (some .int)) (hnm : x.2.2.2.2.2.2.2.2.1.name = "luck") : ip_okB x G 6 pc_X5_luck 59 ([oLdI 5, oLdI 1], tCm (fun a b => a < b) 4 7) := ⟨_, okC (ok_ild X dX5_luck_59)
  (okC (ok_ildn X rfl dX5_luck_61)
  (okN)), ok_cmge X (by decide) rfl dX5_luck_62⟩
set_option maxRecDepth 20000 in
theorem ob_X5_luck_4 {x : ip_Cx} {G : ip_Gl} {d : Nat} (X : ip_X x G tb 6 d 0 0 RX5 cX5_luck) (hr : x.2.2.2.2.2.2.2.2.1.sig.returnType = (some .int)) (hnm : x.2.2.2.2.2.2.2.2.1.name = "luck") : ip_okB x G 6 pc_X5_luck 65 ([oLdA 0, oGet 5 1, oLdA 0, oGet 5 0, oCaV (ip_call tb d) 0 0 1 9 2 0 0, oLdA 0, oGet 5 1, oLdI 4, oPut 1 3 .int, oLdA 0, oGet 5 1, oLdA 0, oGet 5 4, oCaV (ip_call tb d) 0 0 1 15 2 0 0, oLdA 0, oGet 5 1, oGet 1 3, oStI 4, oLdA 0, oGet 5 1, oGet 1 10, oCal (ip_call tb d) 0 0 227 1 0 0, oLdI 2], tCm (fun a b => b < a) 5 6) := ⟨_, okC (ok_aldn X rfl dX5_luck_65)
  (okC (ok_get X (ci := 5) rfl (by decide) iw_X5 tw_199 dX5_luck_66)
  (okC (ok_aldn X rfl dX5_luck_69)
  (okC (ok_get X (ci := 5) rfl (by decide) iw_X5 tw_198 dX5_luck_70)
  (okC (ok_calV X (i := 88) (e := en_9) rfl mt_9 rfl rfl rfl tw_374 tw_375 (Or.inl ⟨_, _, rfl⟩) tw_376 dX5_luck_73)
  (okC (ok_aldn X rfl dX5_luck_76)
  (okC (ok_get X (ci := 5) rfl (by decide) iw_X5 tw_199 dX5_luck_77)
  (okC (ok_ild X dX5_luck_80)
  (okC (ok_put X (ci := 1) rfl (by decide) iw_X1 tyX1_ok nmX1 rfl (Or.inl rfl) tw_49 dX5_luck_82)
  (okC (ok_aldn X rfl dX5_luck_85)
  (okC (ok_get X (ci := 5) rfl (by decide) iw_X5 tw_199 dX5_luck_86)
  (okC (ok_aldn X rfl dX5_luck_89)
  (okC (ok_get X (ci := 5) rfl (by decide) iw_X5 tw_202 dX5_luck_90)
  (okC (ok_calV X (i := 176) (e := en_15) rfl mt_15 rfl rfl rfl tw_521 tw_522 (Or.inl ⟨_, _, rfl⟩) tw_523 dX5_luck_93)
  (okC (ok_aldn X rfl dX5_luck_96)
  (okC (ok_get X (ci := 5) rfl (by decide) iw_X5 tw_199 dX5_luck_97)
  (okC (ok_get X (ci := 1) rfl (by decide) iw_X1 tw_49 dX5_luck_100)
  (okC (ok_ist X (by decide) dX5_luck_103)
  (okC (ok_aldn X rfl dX5_luck_105)
  (okC (ok_get X (ci := 5) rfl (by decide) iw_X5 tw_199 dX5_luck_106)
  (okC (ok_get X (ci := 1) rfl (by decide) iw_X1 tw_72 dX5_luck_109)
  (okC (ok_calS X (i := 171) (e := en_227) rfl mt_227 rfl rfl rfl tw_431 tw_432 dX5_luck_112)
  (okC (ok_ildn X rfl dX5_luck_115)
  (okN))))))))))))))))))))))), ok_cmle X (by decide) rfl dX5_luck_116⟩
set_option maxRecDepth 20000 in
theorem ob_X5_luck_5 {x : ip_Cx} {G : ip_Gl} {d : Nat} (X : ip_X x G tb 6 d 0 0 RX5 cX5_luck) (hr : x.2.2.2.2.2.2.2.2.1.sig.returnType = (some .int)) (hnm : x.2.2.2.2.2.2.2.2.1.name = "luck") : ip_okB x G 6 pc_X5_luck 119 ([oInc 3 (1)], tGo 6) := ⟨_, okC (ok_inc X (by decide) dX5_luck_119)
  (okN), ok_fall rfl⟩
set_option maxRecDepth 20000 in
theorem ob_X5_luck_6 {x : ip_Cx} {G : ip_Gl} {d : Nat} (X : ip_X x G tb 6 d 0 0 RX5 cX5_luck) (hr : x.2.2.2.2.2.2.2.2.1.sig.returnType = (some .int)) (hnm : x.2.2.2.2.2.2.2.2.1.name = "luck") : ip_okB x G 6 pc_X5_luck 122 ([oInc 5 (1)], tGo 3) := ⟨_, okC (ok_inc X (by decide) dX5_luck_122)
  (okN), ok_go X (by decide) dX5_luck_125⟩
set_option maxRecDepth 20000 in
theorem ob_X5_luck_7 {x : ip_Cx} {G : ip_Gl} {d : Nat} (X : ip_X x G tb 6 d 0 0 RX5 cX5_luck) (hr : x.2.2.2.2.2.2.2.2.1.sig.returnType = (some .int)) (hnm : x.2.2.2.2.2.2.2.2.1.name = "luck") : ip_okB x G 6 pc_X5_luck 128 ([oLdI 3], tRI .int 0 0) := ⟨_, okC (ok_ildn X rfl dX5_luck_128)
  (okN), ok_ret X hr dX5_luck_129⟩
theorem om_66 : ip_MOk tb en_66 pc_X5_luck := fun x G d X hr hnm => ⟨ob_X5_luck_0 X hr hnm, ⟨ob_X5_luck_1 X hr hnm, ⟨ob_X5_luck_2 X hr hnm, ⟨ob_X5_luck_3 X hr hnm, ⟨ob_X5_luck_4 X hr hnm, ⟨ob_X5_luck_5 X hr hnm, ⟨ob_X5_luck_6 X hr hnm, ⟨ob_X5_luck_7 X hr hnm, trivial⟩⟩⟩⟩⟩⟩⟩⟩
theorem dX5_state_0 : decode cX5_state 0 = .ok (.iload_n 1, 1) := by decide +kernel
theorem dX5_state_1 : decode cX5_state 1 = .ok (.tableswitch 87 0 5 #[39, 47, 55, 63, 71, 79], 39) := by decide +kernel
theorem dX5_state_40 : decode cX5_state 40 = .ok (.aload_n 0, 1) := by decide +kernel
theorem dX5_state_41 : decode cX5_state 41 = .ok (.getfield 10, 3) := by decide +kernel
theorem dX5_state_44 : decode cX5_state 44 = .ok (.getfield 179, 3) := by decide +kernel
theorem dX5_state_47 : decode cX5_state 47 = .ok (.ireturn, 1) := by decide +kernel
theorem dX5_state_48 : decode cX5_state 48 = .ok (.aload_n 0, 1) := by decide +kernel
theorem dX5_state_49 : decode cX5_state 49 = .ok (.getfield 10, 3) := by decide +kernel
theorem dX5_state_52 : decode cX5_state 52 = .ok (.invokevirtual 168, 3) := by decide +kernel
theorem dX5_state_55 : decode cX5_state 55 = .ok (.ireturn, 1) := by decide +kernel
theorem dX5_state_56 : decode cX5_state 56 = .ok (.aload_n 0, 1) := by decide +kernel
theorem dX5_state_57 : decode cX5_state 57 = .ok (.getfield 10, 3) := by decide +kernel
theorem dX5_state_60 : decode cX5_state 60 = .ok (.getfield 137, 3) := by decide +kernel
theorem dX5_state_63 : decode cX5_state 63 = .ok (.ireturn, 1) := by decide +kernel
theorem dX5_state_64 : decode cX5_state 64 = .ok (.aload_n 0, 1) := by decide +kernel
theorem dX5_state_65 : decode cX5_state 65 = .ok (.getfield 10, 3) := by decide +kernel
theorem dX5_state_68 : decode cX5_state 68 = .ok (.getfield 101, 3) := by decide +kernel
theorem dX5_state_71 : decode cX5_state 71 = .ok (.ireturn, 1) := by decide +kernel
theorem dX5_state_72 : decode cX5_state 72 = .ok (.aload_n 0, 1) := by decide +kernel
theorem dX5_state_73 : decode cX5_state 73 = .ok (.getfield 10, 3) := by decide +kernel
theorem dX5_state_76 : decode cX5_state 76 = .ok (.invokevirtual 182, 3) := by decide +kernel
theorem dX5_state_79 : decode cX5_state 79 = .ok (.ireturn, 1) := by decide +kernel
theorem dX5_state_80 : decode cX5_state 80 = .ok (.aload_n 0, 1) := by decide +kernel
theorem dX5_state_81 : decode cX5_state 81 = .ok (.getfield 10, 3) := by decide +kernel
theorem dX5_state_84 : decode cX5_state 84 = .ok (.invokevirtual 185, 3) := by decide +kernel
theorem dX5_state_87 : decode cX5_state 87 = .ok (.ireturn, 1) := by decide +kernel
theorem dX5_state_88 : decode cX5_state 88 = .ok (.iconst (-1), 1) := by decide +kernel
theorem dX5_state_89 : decode cX5_state 89 = .ok (.ireturn, 1) := by decide +kernel
def pc_X5_state (i : Nat) : Nat := ([0, 40, 48, 56, 64, 72, 80, 88] : List Nat).getD i 0
set_option maxRecDepth 20000 in
theorem ob_X5_state_0 {x : ip_Cx} {G : ip_Gl} {d : Nat} (X : ip_X x G tb 2 d 0 0 RX5 cX5_state) (hr : x.2.2.2.2.2.2.2.2.1.sig.returnType = (some .int)) (hnm : x.2.2.2.2.2.2.2.2.1.name = "state") : ip_okB x G 2 pc_X5_state 0 ([oLdI 1], tSw [(0, 1), (1, 2), (2, 3), (3, 4), (4, 5), (5, 6)] 7) := ⟨_, okC (ok_ildn X rfl dX5_state_0)
  (okN), ok_tsw X (by decide) (by decide +kernel) (by decide) dX5_state_1⟩
set_option maxRecDepth 20000 in
theorem ob_X5_state_1 {x : ip_Cx} {G : ip_Gl} {d : Nat} (X : ip_X x G tb 2 d 0 0 RX5 cX5_state) (hr : x.2.2.2.2.2.2.2.2.1.sig.returnType = (some .int)) (hnm : x.2.2.2.2.2.2.2.2.1.name = "state") : ip_okB x G 2 pc_X5_state 40 ([oLdA 0, oGet 5 0, oGet 1 2], tRI .int 0 0) := ⟨_, okC (ok_aldn X rfl dX5_state_40)
  (okC (ok_get X (ci := 5) rfl (by decide) iw_X5 tw_198 dX5_state_41)
  (okC (ok_get X (ci := 1) rfl (by decide) iw_X1 tw_47 dX5_state_44)
  (okN))), ok_ret X hr dX5_state_47⟩
set_option maxRecDepth 20000 in
theorem ob_X5_state_2 {x : ip_Cx} {G : ip_Gl} {d : Nat} (X : ip_X x G tb 2 d 0 0 RX5 cX5_state) (hr : x.2.2.2.2.2.2.2.2.1.sig.returnType = (some .int)) (hnm : x.2.2.2.2.2.2.2.2.1.name = "state") : ip_okB x G 2 pc_X5_state 48 ([oLdA 0, oGet 5 0, oCaV (ip_call tb d) 0 0 1 16 1 0 0], tRI .int 0 0) := ⟨_, okC (ok_aldn X rfl dX5_state_48)
  (okC (ok_get X (ci := 5) rfl (by decide) iw_X5 tw_198 dX5_state_49)
  (okC (ok_calV X (i := 168) (e := en_16) rfl mt_16 rfl rfl rfl tw_509 tw_510 (Or.inl ⟨_, _, rfl⟩) tw_511 dX5_state_52)
  (okN))), ok_ret X hr dX5_state_55⟩
set_option maxRecDepth 20000 in
theorem ob_X5_state_3 {x : ip_Cx} {G : ip_Gl} {d : Nat} (X : ip_X x G tb 2 d 0 0 RX5 cX5_state) (hr : x.2.2.2.2.2.2.2.2.1.sig.returnType = (some .int)) (hnm : x.2.2.2.2.2.2.2.2.1.name = "state") : ip_okB x G 2 pc_X5_state 56 ([oLdA 0, oGet 5 0, oGet 1 10], tRI .int 0 0) := ⟨_, okC (ok_aldn X rfl dX5_state_56)
  (okC (ok_get X (ci := 5) rfl (by decide) iw_X5 tw_198 dX5_state_57)
  (okC (ok_get X (ci := 1) rfl (by decide) iw_X1 tw_72 dX5_state_60)
  (okN))), ok_ret X hr dX5_state_63⟩
set_option maxRecDepth 20000 in
theorem ob_X5_state_4 {x : ip_Cx} {G : ip_Gl} {d : Nat} (X : ip_X x G tb 2 d 0 0 RX5 cX5_state) (hr : x.2.2.2.2.2.2.2.2.1.sig.returnType = (some .int)) (hnm : x.2.2.2.2.2.2.2.2.1.name = "state") : ip_okB x G 2 pc_X5_state 64 ([oLdA 0, oGet 5 0, oGet 1 1], tRI .int 0 0) := ⟨_, okC (ok_aldn X rfl dX5_state_64)
  (okC (ok_get X (ci := 5) rfl (by decide) iw_X5 tw_198 dX5_state_65)
  (okC (ok_get X (ci := 1) rfl (by decide) iw_X1 tw_44 dX5_state_68)
  (okN))), ok_ret X hr dX5_state_71⟩
set_option maxRecDepth 20000 in
theorem ob_X5_state_5 {x : ip_Cx} {G : ip_Gl} {d : Nat} (X : ip_X x G tb 2 d 0 0 RX5 cX5_state) (hr : x.2.2.2.2.2.2.2.2.1.sig.returnType = (some .int)) (hnm : x.2.2.2.2.2.2.2.2.1.name = "state") : ip_okB x G 2 pc_X5_state 72 ([oLdA 0, oGet 5 0, oCaV (ip_call tb d) 0 0 1 17 1 0 0], tRI .int 0 0) := ⟨_, okC (ok_aldn X rfl dX5_state_72)
  (okC (ok_get X (ci := 5) rfl (by decide) iw_X5 tw_198 dX5_state_73)
  (okC (ok_calV X (i := 182) (e := en_17) rfl mt_17 rfl rfl rfl tw_539 tw_540 (Or.inl ⟨_, _, rfl⟩) tw_541 dX5_state_76)
  (okN))), ok_ret X hr dX5_state_79⟩
set_option maxRecDepth 20000 in
theorem ob_X5_state_6 {x : ip_Cx} {G : ip_Gl} {d : Nat} (X : ip_X x G tb 2 d 0 0 RX5 cX5_state) (hr : x.2.2.2.2.2.2.2.2.1.sig.returnType = (some .int)) (hnm : x.2.2.2.2.2.2.2.2.1.name = "state") : ip_okB x G 2 pc_X5_state 80 ([oLdA 0, oGet 5 0, oCaV (ip_call tb d) 0 0 1 18 1 0 0], tRI .int 0 0) := ⟨_, okC (ok_aldn X rfl dX5_state_80)
  (okC (ok_get X (ci := 5) rfl (by decide) iw_X5 tw_198 dX5_state_81)
  (okC (ok_calV X (i := 185) (e := en_18) rfl mt_18 rfl rfl rfl tw_543 tw_544 (Or.inl ⟨_, _, rfl⟩) tw_545 dX5_state_84)
  (okN))), ok_ret X hr dX5_state_87⟩
set_option maxRecDepth 20000 in
theorem ob_X5_state_7 {x : ip_Cx} {G : ip_Gl} {d : Nat} (X : ip_X x G tb 2 d 0 0 RX5 cX5_state) (hr : x.2.2.2.2.2.2.2.2.1.sig.returnType = (some .int)) (hnm : x.2.2.2.2.2.2.2.2.1.name = "state") : ip_okB x G 2 pc_X5_state 88 ([oI (-1)], tRI .int 0 0) := ⟨_, okC (ok_ic X (by decide) dX5_state_88)
  (okN), ok_ret X hr dX5_state_89⟩
theorem om_67 : ip_MOk tb en_67 pc_X5_state := fun x G d X hr hnm => ⟨ob_X5_state_0 X hr hnm, ⟨ob_X5_state_1 X hr hnm, ⟨ob_X5_state_2 X hr hnm, ⟨ob_X5_state_3 X hr hnm, ⟨ob_X5_state_4 X hr hnm, ⟨ob_X5_state_5 X hr hnm, ⟨ob_X5_state_6 X hr hnm, ⟨ob_X5_state_7 X hr hnm, trivial⟩⟩⟩⟩⟩⟩⟩⟩
theorem dX5_reaches_0 : decode cX5_reaches 0 = .ok (.aload_n 0, 1) := by decide +kernel
theorem dX5_reaches_1 : decode cX5_reaches 1 = .ok (.iload_n 1, 1) := by decide +kernel
theorem dX5_reaches_2 : decode cX5_reaches 2 = .ok (.invokevirtual 119, 3) := by decide +kernel
theorem dX5_reaches_5 : decode cX5_reaches 5 = .ok (.ifCond .eq 13, 3) := by decide +kernel
theorem dX5_reaches_8 : decode cX5_reaches 8 = .ok (.iload_n 2, 1) := by decide +kernel
theorem dX5_reaches_9 : decode cX5_reaches 9 = .ok (.iconst 0, 1) := by decide +kernel
theorem dX5_reaches_10 : decode cX5_reaches 10 = .ok (.bipush 60, 2) := by decide +kernel
theorem dX5_reaches_12 : decode cX5_reaches 12 = .ok (.invokestatic 67, 3) := by decide +kernel
theorem dX5_reaches_15 : decode cX5_reaches 15 = .ok (.ifCond .ne 5, 3) := by decide +kernel
theorem dX5_reaches_18 : decode cX5_reaches 18 = .ok (.iconst (-1), 1) := by decide +kernel
theorem dX5_reaches_19 : decode cX5_reaches 19 = .ok (.ireturn, 1) := by decide +kernel
theorem dX5_reaches_20 : decode cX5_reaches 20 = .ok (.aload_n 0, 1) := by decide +kernel
theorem dX5_reaches_21 : decode cX5_reaches 21 = .ok (.getfield 29, 3) := by decide +kernel
theorem dX5_reaches_24 : decode cX5_reaches 24 = .ok (.aload_n 0, 1) := by decide +kernel
theorem dX5_reaches_25 : decode cX5_reaches 25 = .ok (.getfield 10, 3) := by decide +kernel
theorem dX5_reaches_28 : decode cX5_reaches 28 = .ok (.iload_n 1, 1) := by decide +kernel
theorem dX5_reaches_29 : decode cX5_reaches 29 = .ok (.aload_n 0, 1) := by decide +kernel
theorem dX5_reaches_30 : decode cX5_reaches 30 = .ok (.getfield 10, 3) := by decide +kernel
theorem dX5_reaches_33 : decode cX5_reaches 33 = .ok (.getfield 101, 3) := by decide +kernel
theorem dX5_reaches_36 : decode cX5_reaches 36 = .ok (.invokevirtual 140, 3) := by decide +kernel
theorem dX5_reaches_39 : decode cX5_reaches 39 = .ok (.aload_n 0, 1) := by decide +kernel
theorem dX5_reaches_40 : decode cX5_reaches 40 = .ok (.getfield 29, 3) := by decide +kernel
theorem dX5_reaches_43 : decode cX5_reaches 43 = .ok (.iload_n 2, 1) := by decide +kernel
theorem dX5_reaches_44 : decode cX5_reaches 44 = .ok (.invokevirtual 188, 3) := by decide +kernel
theorem dX5_reaches_47 : decode cX5_reaches 47 = .ok (.aload_n 0, 1) := by decide +kernel
theorem dX5_reaches_48 : decode cX5_reaches 48 = .ok (.getfield 29, 3) := by decide +kernel
theorem dX5_reaches_51 : decode cX5_reaches 51 = .ok (.getfield 192, 3) := by decide +kernel
theorem dX5_reaches_54 : decode cX5_reaches 54 = .ok (.ireturn, 1) := by decide +kernel
def pc_X5_reaches (i : Nat) : Nat := ([0, 8, 18, 20] : List Nat).getD i 0
set_option maxRecDepth 20000 in
theorem ob_X5_reaches_0 {x : ip_Cx} {G : ip_Gl} {d : Nat} (X : ip_X x G tb 3 d 0 0 RX5 cX5_reaches) (hr : x.2.2.2.2.2.2.2.2.1.sig.returnType = (some .int)) (hnm : x.2.2.2.2.2.2.2.2.1.name = "reaches") : ip_okB x G 3 pc_X5_reaches 0 ([oLdA 0, oLdI 1, oCaV (ip_call tb d) 0 0 5 102 2 0 0], tIf (fun a => a = 0) 2 1) := ⟨_, okC (ok_aldn X rfl dX5_reaches_0)
  (okC (ok_ildn X rfl dX5_reaches_1)
  (okC (ok_calV X (i := 119) (e := en_102) rfl mt_102 rfl rfl rfl tw_409 tw_411 (Or.inl ⟨_, _, rfl⟩) tp_0 dX5_reaches_2)
  (okN))), ok_ifeq X (by decide) rfl dX5_reaches_5⟩
set_option maxRecDepth 20000 in
theorem ob_X5_reaches_1 {x : ip_Cx} {G : ip_Gl} {d : Nat} (X : ip_X x G tb 3 d 0 0 RX5 cX5_reaches) (hr : x.2.2.2.2.2.2.2.2.1.sig.returnType = (some .int)) (hnm : x.2.2.2.2.2.2.2.2.1.name = "reaches") : ip_okB x G 3 pc_X5_reaches 8 ([oLdI 2, oI (0), oI (60), oCal (ip_call tb d) 0 0 95 3 0 0], tIf (fun a => a = 0) 2 3) := ⟨_, okC (ok_ildn X rfl dX5_reaches_8)
  (okC (ok_ic X (by decide) dX5_reaches_9)
  (okC (ok_bi X (by decide) dX5_reaches_10)
  (okC (ok_calS X (i := 67) (e := en_95) rfl mt_95 rfl rfl rfl tw_239 tw_240 dX5_reaches_12)
  (okN)))), ok_ifne X (by decide) rfl dX5_reaches_15⟩
set_option maxRecDepth 20000 in
theorem ob_X5_reaches_2 {x : ip_Cx} {G : ip_Gl} {d : Nat} (X : ip_X x G tb 3 d 0 0 RX5 cX5_reaches) (hr : x.2.2.2.2.2.2.2.2.1.sig.returnType = (some .int)) (hnm : x.2.2.2.2.2.2.2.2.1.name = "reaches") : ip_okB x G 3 pc_X5_reaches 18 ([oI (-1)], tRI .int 0 0) := ⟨_, okC (ok_ic X (by decide) dX5_reaches_18)
  (okN), ok_ret X hr dX5_reaches_19⟩
set_option maxRecDepth 20000 in
theorem ob_X5_reaches_3 {x : ip_Cx} {G : ip_Gl} {d : Nat} (X : ip_X x G tb 3 d 0 0 RX5 cX5_reaches) (hr : x.2.2.2.2.2.2.2.2.1.sig.returnType = (some .int)) (hnm : x.2.2.2.2.2.2.2.2.1.name = "reaches") : ip_okB x G 3 pc_X5_reaches 20 ([oLdA 0, oGet 5 4, oLdA 0, oGet 5 0, oLdI 1, oLdA 0, oGet 5 0, oGet 1 1, oCaV (ip_call tb d) 0 0 4 39 4 0 0, oLdA 0, oGet 5 4, oLdI 2, oCaV (ip_call tb d) 0 0 4 49 2 0 0, oLdA 0, oGet 5 4, oGet 4 6], tRI .int 0 0) := ⟨_, okC (ok_aldn X rfl dX5_reaches_20)
  (okC (ok_get X (ci := 5) rfl (by decide) iw_X5 tw_202 dX5_reaches_21)
  (okC (ok_aldn X rfl dX5_reaches_24)
  (okC (ok_get X (ci := 5) rfl (by decide) iw_X5 tw_198 dX5_reaches_25)
  (okC (ok_ildn X rfl dX5_reaches_28)
  (okC (ok_aldn X rfl dX5_reaches_29)
  (okC (ok_get X (ci := 5) rfl (by decide) iw_X5 tw_198 dX5_reaches_30)
  (okC (ok_get X (ci := 1) rfl (by decide) iw_X1 tw_44 dX5_reaches_33)
  (okC (ok_calV X (i := 140) (e := en_39) rfl mt_39 rfl rfl rfl tw_417 tw_418 (Or.inl ⟨_, _, rfl⟩) tw_419 dX5_reaches_36)
  (okC (ok_aldn X rfl dX5_reaches_39)
  (okC (ok_get X (ci := 5) rfl (by decide) iw_X5 tw_202 dX5_reaches_40)
  (okC (ok_ildn X rfl dX5_reaches_43)
  (okC (ok_calV X (i := 188) (e := en_49) rfl mt_49 rfl rfl rfl tw_555 tw_556 (Or.inl ⟨_, _, rfl⟩) tw_557 dX5_reaches_44)
  (okC (ok_aldn X rfl dX5_reaches_47)
  (okC (ok_get X (ci := 5) rfl (by decide) iw_X5 tw_202 dX5_reaches_48)
  (okC (ok_get X (ci := 4) rfl (by decide) iw_X4 tw_113 dX5_reaches_51)
  (okN)))))))))))))))), ok_ret X hr dX5_reaches_54⟩
theorem om_68 : ip_MOk tb en_68 pc_X5_reaches := fun x G d X hr hnm => ⟨ob_X5_reaches_0 X hr hnm, ⟨ob_X5_reaches_1 X hr hnm, ⟨ob_X5_reaches_2 X hr hnm, ⟨ob_X5_reaches_3 X hr hnm, trivial⟩⟩⟩⟩
theorem dX5_over_0 : decode cX5_over 0 = .ok (.aload_n 0, 1) := by decide +kernel
theorem dX5_over_1 : decode cX5_over 1 = .ok (.iload_n 1, 1) := by decide +kernel
theorem dX5_over_2 : decode cX5_over 2 = .ok (.invokevirtual 119, 3) := by decide +kernel
theorem dX5_over_5 : decode cX5_over 5 = .ok (.ifCond .ne 5, 3) := by decide +kernel
theorem dX5_over_8 : decode cX5_over 8 = .ok (.iconst (-1), 1) := by decide +kernel
theorem dX5_over_9 : decode cX5_over 9 = .ok (.ireturn, 1) := by decide +kernel
theorem dX5_over_10 : decode cX5_over 10 = .ok (.aload_n 0, 1) := by decide +kernel
theorem dX5_over_11 : decode cX5_over 11 = .ok (.iload_n 1, 1) := by decide +kernel
theorem dX5_over_12 : decode cX5_over 12 = .ok (.invokevirtual 194, 3) := by decide +kernel
theorem dX5_over_15 : decode cX5_over 15 = .ok (.istore_n 2, 1) := by decide +kernel
theorem dX5_over_16 : decode cX5_over 16 = .ok (.aload_n 0, 1) := by decide +kernel
theorem dX5_over_17 : decode cX5_over 17 = .ok (.getfield 29, 3) := by decide +kernel
theorem dX5_over_20 : decode cX5_over 20 = .ok (.invokevirtual 197, 3) := by decide +kernel
theorem dX5_over_23 : decode cX5_over 23 = .ok (.ifCond .eq 7, 3) := by decide +kernel
theorem dX5_over_26 : decode cX5_over 26 = .ok (.iload_n 2, 1) := by decide +kernel
theorem dX5_over_27 : decode cX5_over 27 = .ok (.goto 5, 3) := by decide +kernel
theorem dX5_over_30 : decode cX5_over 30 = .ok (.bipush (-3), 2) := by decide +kernel
theorem dX5_over_32 : decode cX5_over 32 = .ok (.ireturn, 1) := by decide +kernel
def pc_X5_over (i : Nat) : Nat := ([0, 8, 10, 26, 30, 32] : List Nat).getD i 0
set_option maxRecDepth 20000 in
theorem ob_X5_over_0 {x : ip_Cx} {G : ip_Gl} {d : Nat} (X : ip_X x G tb 3 d 0 0 RX5 cX5_over) (hr : x.2.2.2.2.2.2.2.2.1.sig.returnType = (some .int)) (hnm : x.2.2.2.2.2.2.2.2.1.name = "over") : ip_okB x G 3 pc_X5_over 0 ([oLdA 0, oLdI 1, oCaV (ip_call tb d) 0 0 5 102 2 0 0], tIf (fun a => a = 0) 1 2) := ⟨_, okC (ok_aldn X rfl dX5_over_0)
  (okC (ok_ildn X rfl dX5_over_1)
  (okC (ok_calV X (i := 119) (e := en_102) rfl mt_102 rfl rfl rfl tw_409 tw_411 (Or.inl ⟨_, _, rfl⟩) tp_0 dX5_over_2)
  (okN))), ok_ifne X (by decide) rfl dX5_over_5⟩
set_option maxRecDepth 20000 in
theorem ob_X5_over_1 {x : ip_Cx} {G : ip_Gl} {d : Nat} (X : ip_X x G tb 3 d 0 0 RX5 cX5_over) (hr : x.2.2.2.2.2.2.2.2.1.sig.returnType = (some .int)) (hnm : x.2.2.2.2.2.2.2.2.1.name = "over") : ip_okB x G 3 pc_X5_over 8 ([oI (-1)], tRI .int 0 0) := ⟨_, okC (ok_ic X (by decide) dX5_over_8)
  (okN), ok_ret X hr dX5_over_9⟩
set_option maxRecDepth 20000 in
theorem ob_X5_over_2 {x : ip_Cx} {G : ip_Gl} {d : Nat} (X : ip_X x G tb 3 d 0 0 RX5 cX5_over) (hr : x.2.2.2.2.2.2.2.2.1.sig.returnType = (some .int)) (hnm : x.2.2.2.2.2.2.2.2.1.name = "over") : ip_okB x G 3 pc_X5_over 10 ([oLdA 0, oLdI 1, oCaV (ip_call tb d) 0 0 5 108 2 0 0, oStI 2, oLdA 0, oGet 5 4, oCaV (ip_call tb d) 0 0 4 41 1 0 0], tIf (fun a => a = 0) 4 3) := ⟨_, okC (ok_aldn X rfl dX5_over_10)
  (okC (ok_ildn X rfl dX5_over_11)
  (okC (ok_calV X (i := 194) (e := en_108) rfl mt_108 rfl rfl rfl tw_564 tw_566 (Or.inl ⟨_, _, rfl⟩) tp_1 dX5_over_12)
  (okC (ok_istn X rfl (by decide) dX5_over_15)
  (okC (ok_aldn X rfl dX5_over_16)
  (okC (ok_get X (ci := 5) rfl (by decide) iw_X5 tw_202 dX5_over_17)
  (okC (ok_calV X (i := 197) (e := en_41) rfl mt_41 rfl rfl rfl tw_570 tw_500 (Or.inl ⟨_, _, rfl⟩) tw_501 dX5_over_20)
  (okN))))))), ok_ifeq X (by decide) rfl dX5_over_23⟩
set_option maxRecDepth 20000 in
theorem ob_X5_over_3 {x : ip_Cx} {G : ip_Gl} {d : Nat} (X : ip_X x G tb 3 d 0 0 RX5 cX5_over) (hr : x.2.2.2.2.2.2.2.2.1.sig.returnType = (some .int)) (hnm : x.2.2.2.2.2.2.2.2.1.name = "over") : ip_okB x G 3 pc_X5_over 26 ([oLdI 2], tGo 5) := ⟨_, okC (ok_ildn X rfl dX5_over_26)
  (okN), ok_go X (by decide) dX5_over_27⟩
set_option maxRecDepth 20000 in
theorem ob_X5_over_4 {x : ip_Cx} {G : ip_Gl} {d : Nat} (X : ip_X x G tb 3 d 0 0 RX5 cX5_over) (hr : x.2.2.2.2.2.2.2.2.1.sig.returnType = (some .int)) (hnm : x.2.2.2.2.2.2.2.2.1.name = "over") : ip_okB x G 3 pc_X5_over 30 ([oI (-3)], tGo 5) := ⟨_, okC (ok_bi X (by decide) dX5_over_30)
  (okN), ok_fall rfl⟩
set_option maxRecDepth 20000 in
theorem ob_X5_over_5 {x : ip_Cx} {G : ip_Gl} {d : Nat} (X : ip_X x G tb 3 d 0 0 RX5 cX5_over) (hr : x.2.2.2.2.2.2.2.2.1.sig.returnType = (some .int)) (hnm : x.2.2.2.2.2.2.2.2.1.name = "over") : ip_okB x G 3 pc_X5_over 32 ([], tRI .int 0 0) := ⟨_, okN, ok_ret X hr dX5_over_32⟩
theorem om_69 : ip_MOk tb en_69 pc_X5_over := fun x G d X hr hnm => ⟨ob_X5_over_0 X hr hnm, ⟨ob_X5_over_1 X hr hnm, ⟨ob_X5_over_2 X hr hnm, ⟨ob_X5_over_3 X hr hnm, ⟨ob_X5_over_4 X hr hnm, ⟨ob_X5_over_5 X hr hnm, trivial⟩⟩⟩⟩⟩⟩
theorem dX5_falls_0 : decode cX5_falls 0 = .ok (.aload_n 0, 1) := by decide +kernel
theorem dX5_falls_1 : decode cX5_falls 1 = .ok (.iload_n 1, 1) := by decide +kernel
theorem dX5_falls_2 : decode cX5_falls 2 = .ok (.invokevirtual 119, 3) := by decide +kernel
theorem dX5_falls_5 : decode cX5_falls 5 = .ok (.ifCond .ne 5, 3) := by decide +kernel
theorem dX5_falls_8 : decode cX5_falls 8 = .ok (.iconst (-1), 1) := by decide +kernel
theorem dX5_falls_9 : decode cX5_falls 9 = .ok (.ireturn, 1) := by decide +kernel
theorem dX5_falls_10 : decode cX5_falls 10 = .ok (.aload_n 0, 1) := by decide +kernel
theorem dX5_falls_11 : decode cX5_falls 11 = .ok (.iload_n 1, 1) := by decide +kernel
theorem dX5_falls_12 : decode cX5_falls 12 = .ok (.invokevirtual 194, 3) := by decide +kernel
theorem dX5_falls_15 : decode cX5_falls 15 = .ok (.istore_n 2, 1) := by decide +kernel
theorem dX5_falls_16 : decode cX5_falls 16 = .ok (.aload_n 0, 1) := by decide +kernel
theorem dX5_falls_17 : decode cX5_falls 17 = .ok (.getfield 29, 3) := by decide +kernel
theorem dX5_falls_20 : decode cX5_falls 20 = .ok (.getfield 201, 3) := by decide +kernel
theorem dX5_falls_23 : decode cX5_falls 23 = .ok (.ifCond .eq 7, 3) := by decide +kernel
theorem dX5_falls_26 : decode cX5_falls 26 = .ok (.iload_n 2, 1) := by decide +kernel
theorem dX5_falls_27 : decode cX5_falls 27 = .ok (.goto 5, 3) := by decide +kernel
theorem dX5_falls_30 : decode cX5_falls 30 = .ok (.bipush (-3), 2) := by decide +kernel
theorem dX5_falls_32 : decode cX5_falls 32 = .ok (.ireturn, 1) := by decide +kernel
def pc_X5_falls (i : Nat) : Nat := ([0, 8, 10, 26, 30, 32] : List Nat).getD i 0
set_option maxRecDepth 20000 in
theorem ob_X5_falls_0 {x : ip_Cx} {G : ip_Gl} {d : Nat} (X : ip_X x G tb 3 d 0 0 RX5 cX5_falls) (hr : x.2.2.2.2.2.2.2.2.1.sig.returnType = (some .int)) (hnm : x.2.2.2.2.2.2.2.2.1.name = "falls") : ip_okB x G 3 pc_X5_falls 0 ([oLdA 0, oLdI 1, oCaV (ip_call tb d) 0 0 5 102 2 0 0], tIf (fun a => a = 0) 1 2) := ⟨_, okC (ok_aldn X rfl dX5_falls_0)
  (okC (ok_ildn X rfl dX5_falls_1)
  (okC (ok_calV X (i := 119) (e := en_102) rfl mt_102 rfl rfl rfl tw_409 tw_411 (Or.inl ⟨_, _, rfl⟩) tp_0 dX5_falls_2)
  (okN))), ok_ifne X (by decide) rfl dX5_falls_5⟩
set_option maxRecDepth 20000 in
theorem ob_X5_falls_1 {x : ip_Cx} {G : ip_Gl} {d : Nat} (X : ip_X x G tb 3 d 0 0 RX5 cX5_falls) (hr : x.2.2.2.2.2.2.2.2.1.sig.returnType = (some .int)) (hnm : x.2.2.2.2.2.2.2.2.1.name = "falls") : ip_okB x G 3 pc_X5_falls 8 ([oI (-1)], tRI .int 0 0) := ⟨_, okC (ok_ic X (by decide) dX5_falls_8)
  (okN), ok_ret X hr dX5_falls_9⟩
set_option maxRecDepth 20000 in
theorem ob_X5_falls_2 {x : ip_Cx} {G : ip_Gl} {d : Nat} (X : ip_X x G tb 3 d 0 0 RX5 cX5_falls) (hr : x.2.2.2.2.2.2.2.2.1.sig.returnType = (some .int)) (hnm : x.2.2.2.2.2.2.2.2.1.name = "falls") : ip_okB x G 3 pc_X5_falls 10 ([oLdA 0, oLdI 1, oCaV (ip_call tb d) 0 0 5 108 2 0 0, oStI 2, oLdA 0, oGet 5 4, oGet 4 9], tIf (fun a => a = 0) 4 3) := ⟨_, okC (ok_aldn X rfl dX5_falls_10)
  (okC (ok_ildn X rfl dX5_falls_11)
  (okC (ok_calV X (i := 194) (e := en_108) rfl mt_108 rfl rfl rfl tw_564 tw_566 (Or.inl ⟨_, _, rfl⟩) tp_1 dX5_falls_12)
  (okC (ok_istn X rfl (by decide) dX5_falls_15)
  (okC (ok_aldn X rfl dX5_falls_16)
  (okC (ok_get X (ci := 5) rfl (by decide) iw_X5 tw_202 dX5_falls_17)
  (okC (ok_get X (ci := 4) rfl (by decide) iw_X4 tw_120 dX5_falls_20)
  (okN))))))), ok_ifeq X (by decide) rfl dX5_falls_23⟩
set_option maxRecDepth 20000 in
theorem ob_X5_falls_3 {x : ip_Cx} {G : ip_Gl} {d : Nat} (X : ip_X x G tb 3 d 0 0 RX5 cX5_falls) (hr : x.2.2.2.2.2.2.2.2.1.sig.returnType = (some .int)) (hnm : x.2.2.2.2.2.2.2.2.1.name = "falls") : ip_okB x G 3 pc_X5_falls 26 ([oLdI 2], tGo 5) := ⟨_, okC (ok_ildn X rfl dX5_falls_26)
  (okN), ok_go X (by decide) dX5_falls_27⟩
set_option maxRecDepth 20000 in
theorem ob_X5_falls_4 {x : ip_Cx} {G : ip_Gl} {d : Nat} (X : ip_X x G tb 3 d 0 0 RX5 cX5_falls) (hr : x.2.2.2.2.2.2.2.2.1.sig.returnType = (some .int)) (hnm : x.2.2.2.2.2.2.2.2.1.name = "falls") : ip_okB x G 3 pc_X5_falls 30 ([oI (-3)], tGo 5) := ⟨_, okC (ok_bi X (by decide) dX5_falls_30)
  (okN), ok_fall rfl⟩
set_option maxRecDepth 20000 in
theorem ob_X5_falls_5 {x : ip_Cx} {G : ip_Gl} {d : Nat} (X : ip_X x G tb 3 d 0 0 RX5 cX5_falls) (hr : x.2.2.2.2.2.2.2.2.1.sig.returnType = (some .int)) (hnm : x.2.2.2.2.2.2.2.2.1.name = "falls") : ip_okB x G 3 pc_X5_falls 32 ([], tRI .int 0 0) := ⟨_, okN, ok_ret X hr dX5_falls_32⟩
theorem om_70 : ip_MOk tb en_70 pc_X5_falls := fun x G d X hr hnm => ⟨ob_X5_falls_0 X hr hnm, ⟨ob_X5_falls_1 X hr hnm, ⟨ob_X5_falls_2 X hr hnm, ⟨ob_X5_falls_3 X hr hnm, ⟨ob_X5_falls_4 X hr hnm, ⟨ob_X5_falls_5 X hr hnm, trivial⟩⟩⟩⟩⟩⟩
theorem dX5_end_0 : decode cX5_end 0 = .ok (.iconst 0, 1) := by decide +kernel
theorem dX5_end_1 : decode cX5_end 1 = .ok (.istore_n 1, 1) := by decide +kernel
theorem dX5_end_2 : decode cX5_end 2 = .ok (.iconst 0, 1) := by decide +kernel
theorem dX5_end_3 : decode cX5_end 3 = .ok (.istore_n 2, 1) := by decide +kernel
theorem dX5_end_4 : decode cX5_end 4 = .ok (.iload_n 2, 1) := by decide +kernel
theorem dX5_end_5 : decode cX5_end 5 = .ok (.aload_n 0, 1) := by decide +kernel
theorem dX5_end_6 : decode cX5_end 6 = .ok (.getfield 10, 3) := by decide +kernel
theorem dX5_end_9 : decode cX5_end 9 = .ok (.getfield 92, 3) := by decide +kernel
theorem dX5_end_12 : decode cX5_end 12 = .ok (.if_icmp .ge 34, 3) := by decide +kernel
theorem dX5_end_15 : decode cX5_end 15 = .ok (.aload_n 0, 1) := by decide +kernel
theorem dX5_end_16 : decode cX5_end 16 = .ok (.iload_n 2, 1) := by decide +kernel
theorem dX5_end_17 : decode cX5_end 17 = .ok (.invokevirtual 194, 3) := by decide +kernel
theorem dX5_end_20 : decode cX5_end 20 = .ok (.istore_n 3, 1) := by decide +kernel
theorem dX5_end_21 : decode cX5_end 21 = .ok (.aload_n 0, 1) := by decide +kernel
theorem dX5_end_22 : decode cX5_end 22 = .ok (.getfield 29, 3) := by decide +kernel
theorem dX5_end_25 : decode cX5_end 25 = .ok (.invokevirtual 203, 3) := by decide +kernel
theorem dX5_end_28 : decode cX5_end 28 = .ok (.ifCond .ne 6, 3) := by decide +kernel
theorem dX5_end_31 : decode cX5_end 31 = .ok (.bipush (-3), 2) := by decide +kernel
theorem dX5_end_33 : decode cX5_end 33 = .ok (.ireturn, 1) := by decide +kernel
theorem dX5_end_34 : decode cX5_end 34 = .ok (.iload_n 1, 1) := by decide +kernel
theorem dX5_end_35 : decode cX5_end 35 = .ok (.iload_n 3, 1) := by decide +kernel
theorem dX5_end_36 : decode cX5_end 36 = .ok (.invokestatic 206, 3) := by decide +kernel
theorem dX5_end_39 : decode cX5_end 39 = .ok (.istore_n 1, 1) := by decide +kernel
theorem dX5_end_40 : decode cX5_end 40 = .ok (.iinc 2 1, 3) := by decide +kernel
theorem dX5_end_43 : decode cX5_end 43 = .ok (.goto (-39), 3) := by decide +kernel
theorem dX5_end_46 : decode cX5_end 46 = .ok (.iload_n 1, 1) := by decide +kernel
theorem dX5_end_47 : decode cX5_end 47 = .ok (.ireturn, 1) := by decide +kernel
def pc_X5_end (i : Nat) : Nat := ([0, 4, 15, 31, 34, 46] : List Nat).getD i 0
set_option maxRecDepth 20000 in
theorem ob_X5_end_0 {x : ip_Cx} {G : ip_Gl} {d : Nat} (X : ip_X x G tb 4 d 0 0 RX5 cX5_end) (hr : x.2.2.2.2.2.2.2.2.1.sig.returnType = (some .int)) (hnm : x.2.2.2.2.2.2.2.2.1.name = "end") : ip_okB x G 4 pc_X5_end 0 ([oI (0), oStI 1, oI (0), oStI 2], tGo 1) := ⟨_, okC (ok_ic X (by decide) dX5_end_0)
  (okC (ok_istn X rfl (by decide) dX5_end_1)
  (okC (ok_ic X (by decide) dX5_end_2)
  (okC (ok_istn X rfl (by decide) dX5_end_3)
  (okN)))), ok_fall rfl⟩
set_option maxRecDepth 20000 in
theorem ob_X5_end_1 {x : ip_Cx} {G : ip_Gl} {d : Nat} (X : ip_X x G tb 4 d 0 0 RX5 cX5_end) (hr : x.2.2.2.2.2.2.2.2.1.sig.returnType = (some .int)) (hnm : x.2.2.2.2.2.2.2.2.1.name = "end") : ip_okB x G 4 pc_X5_end 4 ([oLdI 2, oLdA 0, oGet 5 0, oGet 1 4], tCm (fun a b => a < b) 2 5) := ⟨_, okC (ok_ildn X rfl dX5_end_4)
  (okC (ok_aldn X rfl dX5_end_5)
  (okC (ok_get X (ci := 5) rfl (by decide) iw_X5 tw_198 dX5_end_6)
  (okC (ok_get X (ci := 1) rfl (by decide) iw_X1 tw_51 dX5_end_9)
  (okN)))), ok_cmge X (by decide) rfl dX5_end_12⟩
set_option maxRecDepth 20000 in
theorem ob_X5_end_2 {x : ip_Cx} {G : ip_Gl} {d : Nat} (X : ip_X x G tb 4 d 0 0 RX5 cX5_end) (hr : x.2.2.2.2.2.2.2.2.1.sig.returnType = (some .int)) (hnm : x.2.2.2.2.2.2.2.2.1.name = "end") : ip_okB x G 4 pc_X5_end 15 ([oLdA 0, oLdI 2, oCaV (ip_call tb d) 0 0 5 108 2 0 0, oStI 3, oLdA 0, oGet 5 4, oCaV (ip_call tb d) 0 0 4 42 1 0 0], tIf (fun a => a = 0) 3 4) := ⟨_, okC (ok_aldn X rfl dX5_end_15)
  (okC (ok_ildn X rfl dX5_end_16)
  (okC (ok_calV X (i := 194) (e := en_108) rfl mt_108 rfl rfl rfl tw_564 tw_566 (Or.inl ⟨_, _, rfl⟩) tp_1 dX5_end_17)
  (okC (ok_istn X rfl (by decide) dX5_end_20)
  (okC (ok_aldn X rfl dX5_end_21)
  (okC (ok_get X (ci := 5) rfl (by decide) iw_X5 tw_202 dX5_end_22)
  (okC (ok_calV X (i := 203) (e := en_42) rfl mt_42 rfl rfl rfl tw_568 tw_496 (Or.inl ⟨_, _, rfl⟩) tw_497 dX5_end_25)
  (okN))))))), ok_ifne X (by decide) rfl dX5_end_28⟩
set_option maxRecDepth 20000 in
theorem ob_X5_end_3 {x : ip_Cx} {G : ip_Gl} {d : Nat} (X : ip_X x G tb 4 d 0 0 RX5 cX5_end) (hr : x.2.2.2.2.2.2.2.2.1.sig.returnType = (some .int)) (hnm : x.2.2.2.2.2.2.2.2.1.name = "end") : ip_okB x G 4 pc_X5_end 31 ([oI (-3)], tRI .int 0 0) := ⟨_, okC (ok_bi X (by decide) dX5_end_31)
  (okN), ok_ret X hr dX5_end_33⟩
set_option maxRecDepth 20000 in
theorem ob_X5_end_4 {x : ip_Cx} {G : ip_Gl} {d : Nat} (X : ip_X x G tb 4 d 0 0 RX5 cX5_end) (hr : x.2.2.2.2.2.2.2.2.1.sig.returnType = (some .int)) (hnm : x.2.2.2.2.2.2.2.2.1.name = "end") : ip_okB x G 4 pc_X5_end 34 ([oLdI 1, oLdI 3, oMax 0 0, oStI 1, oInc 2 (1)], tGo 1) := ⟨_, okC (ok_ildn X rfl dX5_end_34)
  (okC (ok_ildn X rfl dX5_end_35)
  (okC (ok_max X tw_579 tw_549 tw_13 tw_550 dX5_end_36)
  (okC (ok_istn X rfl (by decide) dX5_end_39)
  (okC (ok_inc X (by decide) dX5_end_40)
  (okN))))), ok_go X (by decide) dX5_end_43⟩
set_option maxRecDepth 20000 in
theorem ob_X5_end_5 {x : ip_Cx} {G : ip_Gl} {d : Nat} (X : ip_X x G tb 4 d 0 0 RX5 cX5_end) (hr : x.2.2.2.2.2.2.2.2.1.sig.returnType = (some .int)) (hnm : x.2.2.2.2.2.2.2.2.1.name = "end") : ip_okB x G 4 pc_X5_end 46 ([oLdI 1], tRI .int 0 0) := ⟨_, okC (ok_ildn X rfl dX5_end_46)
  (okN), ok_ret X hr dX5_end_47⟩
theorem om_71 : ip_MOk tb en_71 pc_X5_end := fun x G d X hr hnm => ⟨ob_X5_end_0 X hr hnm, ⟨ob_X5_end_1 X hr hnm, ⟨ob_X5_end_2 X hr hnm, ⟨ob_X5_end_3 X hr hnm, ⟨ob_X5_end_4 X hr hnm, ⟨ob_X5_end_5 X hr hnm, trivial⟩⟩⟩⟩⟩⟩
theorem dX5_sayFor_0 : decode cX5_sayFor 0 = .ok (.aload_n 0, 1) := by decide +kernel
theorem dX5_sayFor_1 : decode cX5_sayFor 1 = .ok (.iload_n 1, 1) := by decide +kernel
theorem dX5_sayFor_2 : decode cX5_sayFor 2 = .ok (.invokevirtual 119, 3) := by decide +kernel
theorem dX5_sayFor_5 : decode cX5_sayFor 5 = .ok (.ifCond .eq 13, 3) := by decide +kernel
theorem dX5_sayFor_8 : decode cX5_sayFor 8 = .ok (.iload_n 2, 1) := by decide +kernel
theorem dX5_sayFor_9 : decode cX5_sayFor 9 = .ok (.iconst 1, 1) := by decide +kernel
theorem dX5_sayFor_10 : decode cX5_sayFor 10 = .ok (.bipush 30, 2) := by decide +kernel
theorem dX5_sayFor_12 : decode cX5_sayFor 12 = .ok (.invokestatic 67, 3) := by decide +kernel
theorem dX5_sayFor_15 : decode cX5_sayFor 15 = .ok (.ifCond .ne 5, 3) := by decide +kernel
theorem dX5_sayFor_18 : decode cX5_sayFor 18 = .ok (.iconst (-1), 1) := by decide +kernel
theorem dX5_sayFor_19 : decode cX5_sayFor 19 = .ok (.ireturn, 1) := by decide +kernel
theorem dX5_sayFor_20 : decode cX5_sayFor 20 = .ok (.iconst 0, 1) := by decide +kernel
theorem dX5_sayFor_21 : decode cX5_sayFor 21 = .ok (.istore_n 3, 1) := by decide +kernel
theorem dX5_sayFor_22 : decode cX5_sayFor 22 = .ok (.iload_n 3, 1) := by decide +kernel
theorem dX5_sayFor_23 : decode cX5_sayFor 23 = .ok (.bipush 8, 2) := by decide +kernel
theorem dX5_sayFor_25 : decode cX5_sayFor 25 = .ok (.if_icmp .gt 31, 3) := by decide +kernel
theorem dX5_sayFor_28 : decode cX5_sayFor 28 = .ok (.aload_n 0, 1) := by decide +kernel
theorem dX5_sayFor_29 : decode cX5_sayFor 29 = .ok (.iload_n 1, 1) := by decide +kernel
theorem dX5_sayFor_30 : decode cX5_sayFor 30 = .ok (.iload_n 2, 1) := by decide +kernel
theorem dX5_sayFor_31 : decode cX5_sayFor 31 = .ok (.iload_n 3, 1) := by decide +kernel
theorem dX5_sayFor_32 : decode cX5_sayFor 32 = .ok (.invokevirtual 211, 3) := by decide +kernel
theorem dX5_sayFor_35 : decode cX5_sayFor 35 = .ok (.istore 4, 2) := by decide +kernel
theorem dX5_sayFor_37 : decode cX5_sayFor 37 = .ok (.iload 4, 2) := by decide +kernel
theorem dX5_sayFor_39 : decode cX5_sayFor 39 = .ok (.ifCond .eq 11, 3) := by decide +kernel
theorem dX5_sayFor_42 : decode cX5_sayFor 42 = .ok (.aload_n 0, 1) := by decide +kernel
theorem dX5_sayFor_43 : decode cX5_sayFor 43 = .ok (.iload_n 3, 1) := by decide +kernel
theorem dX5_sayFor_44 : decode cX5_sayFor 44 = .ok (.iload 4, 2) := by decide +kernel
theorem dX5_sayFor_46 : decode cX5_sayFor 46 = .ok (.invokevirtual 215, 3) := by decide +kernel
theorem dX5_sayFor_49 : decode cX5_sayFor 49 = .ok (.ireturn, 1) := by decide +kernel
theorem dX5_sayFor_50 : decode cX5_sayFor 50 = .ok (.iinc 3 1, 3) := by decide +kernel
theorem dX5_sayFor_53 : decode cX5_sayFor 53 = .ok (.goto (-31), 3) := by decide +kernel
theorem dX5_sayFor_56 : decode cX5_sayFor 56 = .ok (.bipush (-3), 2) := by decide +kernel
theorem dX5_sayFor_58 : decode cX5_sayFor 58 = .ok (.ireturn, 1) := by decide +kernel
def pc_X5_sayFor (i : Nat) : Nat := ([0, 8, 18, 20, 22, 28, 42, 50, 56] : List Nat).getD i 0
set_option maxRecDepth 20000 in
theorem ob_X5_sayFor_0 {x : ip_Cx} {G : ip_Gl} {d : Nat} (X : ip_X x G tb 5 d 0 0 RX5 cX5_sayFor) (hr : x.2.2.2.2.2.2.2.2.1.sig.returnType = (some .int)) (hnm : x.2.2.2.2.2.2.2.2.1.name = "sayFor") : ip_okB x G 5 pc_X5_sayFor 0 ([oLdA 0, oLdI 1, oCaV (ip_call tb d) 0 0 5 102 2 0 0], tIf (fun a => a = 0) 2 1) := ⟨_, okC (ok_aldn X rfl dX5_sayFor_0)
  (okC (ok_ildn X rfl dX5_sayFor_1)
  (okC (ok_calV X (i := 119) (e := en_102) rfl mt_102 rfl rfl rfl tw_409 tw_411 (Or.inl ⟨_, _, rfl⟩) tp_0 dX5_sayFor_2)
  (okN))), ok_ifeq X (by decide) rfl dX5_sayFor_5⟩
set_option maxRecDepth 20000 in
theorem ob_X5_sayFor_1 {x : ip_Cx} {G : ip_Gl} {d : Nat} (X : ip_X x G tb 5 d 0 0 RX5 cX5_sayFor) (hr : x.2.2.2.2.2.2.2.2.1.sig.returnType = (some .int)) (hnm : x.2.2.2.2.2.2.2.2.1.name = "sayFor") : ip_okB x G 5 pc_X5_sayFor 8 ([oLdI 2, oI (1), oI (30), oCal (ip_call tb d) 0 0 95 3 0 0], tIf (fun a => a = 0) 2 3) := ⟨_, okC (ok_ildn X rfl dX5_sayFor_8)
  (okC (ok_ic X (by decide) dX5_sayFor_9)
  (okC (ok_bi X (by decide) dX5_sayFor_10)
  (okC (ok_calS X (i := 67) (e := en_95) rfl mt_95 rfl rfl rfl tw_239 tw_240 dX5_sayFor_12)
  (okN)))), ok_ifne X (by decide) rfl dX5_sayFor_15⟩
set_option maxRecDepth 20000 in
theorem ob_X5_sayFor_2 {x : ip_Cx} {G : ip_Gl} {d : Nat} (X : ip_X x G tb 5 d 0 0 RX5 cX5_sayFor) (hr : x.2.2.2.2.2.2.2.2.1.sig.returnType = (some .int)) (hnm : x.2.2.2.2.2.2.2.2.1.name = "sayFor") : ip_okB x G 5 pc_X5_sayFor 18 ([oI (-1)], tRI .int 0 0) := ⟨_, okC (ok_ic X (by decide) dX5_sayFor_18)
  (okN), ok_ret X hr dX5_sayFor_19⟩
set_option maxRecDepth 20000 in
theorem ob_X5_sayFor_3 {x : ip_Cx} {G : ip_Gl} {d : Nat} (X : ip_X x G tb 5 d 0 0 RX5 cX5_sayFor) (hr : x.2.2.2.2.2.2.2.2.1.sig.returnType = (some .int)) (hnm : x.2.2.2.2.2.2.2.2.1.name = "sayFor") : ip_okB x G 5 pc_X5_sayFor 20 ([oI (0), oStI 3], tGo 4) := ⟨_, okC (ok_ic X (by decide) dX5_sayFor_20)
  (okC (ok_istn X rfl (by decide) dX5_sayFor_21)
  (okN)), ok_fall rfl⟩
set_option maxRecDepth 20000 in
theorem ob_X5_sayFor_4 {x : ip_Cx} {G : ip_Gl} {d : Nat} (X : ip_X x G tb 5 d 0 0 RX5 cX5_sayFor) (hr : x.2.2.2.2.2.2.2.2.1.sig.returnType = (some .int)) (hnm : x.2.2.2.2.2.2.2.2.1.name = "sayFor") : ip_okB x G 5 pc_X5_sayFor 22 ([oLdI 3, oI (8)], tCm (fun a b => b < a) 8 5) := ⟨_, okC (ok_ildn X rfl dX5_sayFor_22)
  (okC (ok_bi X (by decide) dX5_sayFor_23)
  (okN)), ok_cmgt X (by decide) rfl dX5_sayFor_25⟩
set_option maxRecDepth 20000 in
theorem ob_X5_sayFor_5 {x : ip_Cx} {G : ip_Gl} {d : Nat} (X : ip_X x G tb 5 d 0 0 RX5 cX5_sayFor) (hr : x.2.2.2.2.2.2.2.2.1.sig.returnType = (some .int)) (hnm : x.2.2.2.2.2.2.2.2.1.name = "sayFor") : ip_okB x G 5 pc_X5_sayFor 28 ([oLdA 0, oLdI 1, oLdI 2, oLdI 3, oCaV (ip_call tb d) 0 0 5 109 4 0 0, oStI 4, oLdI 4], tIf (fun a => a = 0) 7 6) := ⟨_, okC (ok_aldn X rfl dX5_sayFor_28)
  (okC (ok_ildn X rfl dX5_sayFor_29)
  (okC (ok_ildn X rfl dX5_sayFor_30)
  (okC (ok_ildn X rfl dX5_sayFor_31)
  (okC (ok_calV X (i := 211) (e := en_109) rfl mt_109 rfl rfl rfl tw_584 tw_586 (Or.inl ⟨_, _, rfl⟩) tp_2 dX5_sayFor_32)
  (okC (ok_ist X (by decide) dX5_sayFor_35)
  (okC (ok_ild X dX5_sayFor_37)
  (okN))))))), ok_ifeq X (by decide) rfl dX5_sayFor_39⟩
set_option maxRecDepth 20000 in
theorem ob_X5_sayFor_6 {x : ip_Cx} {G : ip_Gl} {d : Nat} (X : ip_X x G tb 5 d 0 0 RX5 cX5_sayFor) (hr : x.2.2.2.2.2.2.2.2.1.sig.returnType = (some .int)) (hnm : x.2.2.2.2.2.2.2.2.1.name = "sayFor") : ip_okB x G 5 pc_X5_sayFor 42 ([oLdA 0, oLdI 3, oLdI 4, oCaV (ip_call tb d) 0 0 5 111 3 0 0], tRI .int 0 0) := ⟨_, okC (ok_aldn X rfl dX5_sayFor_42)
  (okC (ok_ildn X rfl dX5_sayFor_43)
  (okC (ok_ild X dX5_sayFor_44)
  (okC (ok_calV X (i := 215) (e := en_111) rfl mt_111 rfl rfl rfl tw_589 tw_591 (Or.inl ⟨_, _, rfl⟩) tp_3 dX5_sayFor_46)
  (okN)))), ok_ret X hr dX5_sayFor_49⟩
set_option maxRecDepth 20000 in
theorem ob_X5_sayFor_7 {x : ip_Cx} {G : ip_Gl} {d : Nat} (X : ip_X x G tb 5 d 0 0 RX5 cX5_sayFor) (hr : x.2.2.2.2.2.2.2.2.1.sig.returnType = (some .int)) (hnm : x.2.2.2.2.2.2.2.2.1.name = "sayFor") : ip_okB x G 5 pc_X5_sayFor 50 ([oInc 3 (1)], tGo 4) := ⟨_, okC (ok_inc X (by decide) dX5_sayFor_50)
  (okN), ok_go X (by decide) dX5_sayFor_53⟩
set_option maxRecDepth 20000 in
theorem ob_X5_sayFor_8 {x : ip_Cx} {G : ip_Gl} {d : Nat} (X : ip_X x G tb 5 d 0 0 RX5 cX5_sayFor) (hr : x.2.2.2.2.2.2.2.2.1.sig.returnType = (some .int)) (hnm : x.2.2.2.2.2.2.2.2.1.name = "sayFor") : ip_okB x G 5 pc_X5_sayFor 56 ([oI (-3)], tRI .int 0 0) := ⟨_, okC (ok_bi X (by decide) dX5_sayFor_56)
  (okN), ok_ret X hr dX5_sayFor_58⟩
theorem om_72 : ip_MOk tb en_72 pc_X5_sayFor := fun x G d X hr hnm => ⟨ob_X5_sayFor_0 X hr hnm, ⟨ob_X5_sayFor_1 X hr hnm, ⟨ob_X5_sayFor_2 X hr hnm, ⟨ob_X5_sayFor_3 X hr hnm, ⟨ob_X5_sayFor_4 X hr hnm, ⟨ob_X5_sayFor_5 X hr hnm, ⟨ob_X5_sayFor_6 X hr hnm, ⟨ob_X5_sayFor_7 X hr hnm, ⟨ob_X5_sayFor_8 X hr hnm, trivial⟩⟩⟩⟩⟩⟩⟩⟩⟩
theorem dX5_kindFor_0 : decode cX5_kindFor 0 = .ok (.aload_n 0, 1) := by decide +kernel
theorem dX5_kindFor_1 : decode cX5_kindFor 1 = .ok (.iload_n 1, 1) := by decide +kernel
theorem dX5_kindFor_2 : decode cX5_kindFor 2 = .ok (.invokevirtual 119, 3) := by decide +kernel
theorem dX5_kindFor_5 : decode cX5_kindFor 5 = .ok (.ifCond .eq 13, 3) := by decide +kernel
theorem dX5_kindFor_8 : decode cX5_kindFor 8 = .ok (.iload_n 2, 1) := by decide +kernel
theorem dX5_kindFor_9 : decode cX5_kindFor 9 = .ok (.iconst 1, 1) := by decide +kernel
theorem dX5_kindFor_10 : decode cX5_kindFor 10 = .ok (.bipush 30, 2) := by decide +kernel
theorem dX5_kindFor_12 : decode cX5_kindFor 12 = .ok (.invokestatic 67, 3) := by decide +kernel
theorem dX5_kindFor_15 : decode cX5_kindFor 15 = .ok (.ifCond .ne 5, 3) := by decide +kernel
theorem dX5_kindFor_18 : decode cX5_kindFor 18 = .ok (.iconst (-1), 1) := by decide +kernel
theorem dX5_kindFor_19 : decode cX5_kindFor 19 = .ok (.ireturn, 1) := by decide +kernel
theorem dX5_kindFor_20 : decode cX5_kindFor 20 = .ok (.iconst 0, 1) := by decide +kernel
theorem dX5_kindFor_21 : decode cX5_kindFor 21 = .ok (.istore_n 3, 1) := by decide +kernel
theorem dX5_kindFor_22 : decode cX5_kindFor 22 = .ok (.iconst (-1), 1) := by decide +kernel
theorem dX5_kindFor_23 : decode cX5_kindFor 23 = .ok (.istore 4, 2) := by decide +kernel
theorem dX5_kindFor_25 : decode cX5_kindFor 25 = .ok (.iconst 0, 1) := by decide +kernel
theorem dX5_kindFor_26 : decode cX5_kindFor 26 = .ok (.istore 5, 2) := by decide +kernel
theorem dX5_kindFor_28 : decode cX5_kindFor 28 = .ok (.iload 5, 2) := by decide +kernel
theorem dX5_kindFor_30 : decode cX5_kindFor 30 = .ok (.bipush 6, 2) := by decide +kernel
theorem dX5_kindFor_32 : decode cX5_kindFor 32 = .ok (.if_icmp .ge 69, 3) := by decide +kernel
theorem dX5_kindFor_35 : decode cX5_kindFor 35 = .ok (.aload_n 0, 1) := by decide +kernel
theorem dX5_kindFor_36 : decode cX5_kindFor 36 = .ok (.getfield 29, 3) := by decide +kernel
theorem dX5_kindFor_39 : decode cX5_kindFor 39 = .ok (.aload_n 0, 1) := by decide +kernel
theorem dX5_kindFor_40 : decode cX5_kindFor 40 = .ok (.getfield 10, 3) := by decide +kernel
theorem dX5_kindFor_43 : decode cX5_kindFor 43 = .ok (.iload_n 1, 1) := by decide +kernel
theorem dX5_kindFor_44 : decode cX5_kindFor 44 = .ok (.aload_n 0, 1) := by decide +kernel
theorem dX5_kindFor_45 : decode cX5_kindFor 45 = .ok (.getfield 10, 3) := by decide +kernel
theorem dX5_kindFor_48 : decode cX5_kindFor 48 = .ok (.getfield 101, 3) := by decide +kernel
theorem dX5_kindFor_51 : decode cX5_kindFor 51 = .ok (.invokevirtual 140, 3) := by decide +kernel
theorem dX5_kindFor_54 : decode cX5_kindFor 54 = .ok (.aload_n 0, 1) := by decide +kernel
theorem dX5_kindFor_55 : decode cX5_kindFor 55 = .ok (.getfield 29, 3) := by decide +kernel
theorem dX5_kindFor_58 : decode cX5_kindFor 58 = .ok (.iload 5, 2) := by decide +kernel
theorem dX5_kindFor_60 : decode cX5_kindFor 60 = .ok (.putfield 218, 3) := by decide +kernel
theorem dX5_kindFor_63 : decode cX5_kindFor 63 = .ok (.aload_n 0, 1) := by decide +kernel
theorem dX5_kindFor_64 : decode cX5_kindFor 64 = .ok (.getfield 29, 3) := by decide +kernel
theorem dX5_kindFor_67 : decode cX5_kindFor 67 = .ok (.iload_n 2, 1) := by decide +kernel
theorem dX5_kindFor_68 : decode cX5_kindFor 68 = .ok (.invokevirtual 188, 3) := by decide +kernel
theorem dX5_kindFor_71 : decode cX5_kindFor 71 = .ok (.aload_n 0, 1) := by decide +kernel
theorem dX5_kindFor_72 : decode cX5_kindFor 72 = .ok (.getfield 29, 3) := by decide +kernel
theorem dX5_kindFor_75 : decode cX5_kindFor 75 = .ok (.getfield 192, 3) := by decide +kernel
theorem dX5_kindFor_78 : decode cX5_kindFor 78 = .ok (.iload 4, 2) := by decide +kernel
theorem dX5_kindFor_80 : decode cX5_kindFor 80 = .ok (.if_icmp .le 15, 3) := by decide +kernel
theorem dX5_kindFor_83 : decode cX5_kindFor 83 = .ok (.aload_n 0, 1) := by decide +kernel
theorem dX5_kindFor_84 : decode cX5_kindFor 84 = .ok (.getfield 29, 3) := by decide +kernel
theorem dX5_kindFor_87 : decode cX5_kindFor 87 = .ok (.getfield 192, 3) := by decide +kernel
theorem dX5_kindFor_90 : decode cX5_kindFor 90 = .ok (.istore 4, 2) := by decide +kernel
theorem dX5_kindFor_92 : decode cX5_kindFor 92 = .ok (.iload 5, 2) := by decide +kernel
theorem dX5_kindFor_94 : decode cX5_kindFor 94 = .ok (.istore_n 3, 1) := by decide +kernel
theorem dX5_kindFor_95 : decode cX5_kindFor 95 = .ok (.iinc 5 1, 3) := by decide +kernel
theorem dX5_kindFor_98 : decode cX5_kindFor 98 = .ok (.goto (-70), 3) := by decide +kernel
theorem dX5_kindFor_101 : decode cX5_kindFor 101 = .ok (.iload_n 3, 1) := by decide +kernel
theorem dX5_kindFor_102 : decode cX5_kindFor 102 = .ok (.ireturn, 1) := by decide +kernel
def pc_X5_kindFor (i : Nat) : Nat := ([0, 8, 18, 20, 28, 35, 83, 95, 101] : List Nat).getD i 0
set_option maxRecDepth 20000 in
theorem ob_X5_kindFor_0 {x : ip_Cx} {G : ip_Gl} {d : Nat} (X : ip_X x G tb 6 d 0 0 RX5 cX5_kindFor) (hr : x.2.2.2.2.2.2.2.2.1.sig.returnType = (some .int)) (hnm : x.2.2.2.2.2.2.2.2.1.name = "kindFor") : ip_okB x G 6 pc_X5_kindFor 0 ([oLdA 0, oLdI 1, oCaV (ip_call tb d) 0 0 5 102 2 0 0], tIf (fun a => a = 0) 2 1) := ⟨_, okC (ok_aldn X rfl dX5_kindFor_0)
  (okC (ok_ildn X rfl dX5_kindFor_1)
  (okC (ok_calV X (i := 119) (e := en_102) rfl mt_102 rfl rfl rfl tw_409 tw_411 (Or.inl ⟨_, _, rfl⟩) tp_0 dX5_kindFor_2)
  (okN))), ok_ifeq X (by decide) rfl dX5_kindFor_5⟩
set_option maxRecDepth 20000 in
theorem ob_X5_kindFor_1 {x : ip_Cx} {G : ip_Gl} {d : Nat} (X : ip_X x G tb 6 d 0 0 RX5 cX5_kindFor) (hr : x.2.2.2.2.2.2.2.2.1.sig.returnType = (some .int)) (hnm : x.2.2.2.2.2.2.2.2.1.name = "kindFor") : ip_okB x G 6 pc_X5_kindFor 8 ([oLdI 2, oI (1), oI (30), oCal (ip_call tb d) 0 0 95 3 0 0], tIf (fun a => a = 0) 2 3) := ⟨_, okC (ok_ildn X rfl dX5_kindFor_8)
  (okC (ok_ic X (by decide) dX5_kindFor_9)
  (okC (ok_bi X (by decide) dX5_kindFor_10)
  (okC (ok_calS X (i := 67) (e := en_95) rfl mt_95 rfl rfl rfl tw_239 tw_240 dX5_kindFor_12)
  (okN)))), ok_ifne X (by decide) rfl dX5_kindFor_15⟩
set_option maxRecDepth 20000 in
theorem ob_X5_kindFor_2 {x : ip_Cx} {G : ip_Gl} {d : Nat} (X : ip_X x G tb 6 d 0 0 RX5 cX5_kindFor) (hr : x.2.2.2.2.2.2.2.2.1.sig.returnType = (some .int)) (hnm : x.2.2.2.2.2.2.2.2.1.name = "kindFor") : ip_okB x G 6 pc_X5_kindFor 18 ([oI (-1)], tRI .int 0 0) := ⟨_, okC (ok_ic X (by decide) dX5_kindFor_18)
  (okN), ok_ret X hr dX5_kindFor_19⟩
set_option maxRecDepth 20000 in
theorem ob_X5_kindFor_3 {x : ip_Cx} {G : ip_Gl} {d : Nat} (X : ip_X x G tb 6 d 0 0 RX5 cX5_kindFor) (hr : x.2.2.2.2.2.2.2.2.1.sig.returnType = (some .int)) (hnm : x.2.2.2.2.2.2.2.2.1.name = "kindFor") : ip_okB x G 6 pc_X5_kindFor 20 ([oI (0), oStI 3, oI (-1), oStI 4, oI (0), oStI 5], tGo 4) := ⟨_, okC (ok_ic X (by decide) dX5_kindFor_20)
  (okC (ok_istn X rfl (by decide) dX5_kindFor_21)
  (okC (ok_ic X (by decide) dX5_kindFor_22)
  (okC (ok_ist X (by decide) dX5_kindFor_23)
  (okC (ok_ic X (by decide) dX5_kindFor_25)
  (okC (ok_ist X (by decide) dX5_kindFor_26)
  (okN)))))), ok_fall rfl⟩
set_option maxRecDepth 20000 in
theorem ob_X5_kindFor_4 {x : ip_Cx} {G : ip_Gl} {d : Nat} (X : ip_X x G tb 6 d 0 0 RX5 cX5_kindFor) (hr : x.2.2.2.2.2.2.2.2.1.sig.returnType = (some .int)) (hnm : x.2.2.2.2.2.2.2.2.1.name = "kindFor") : ip_okB x G 6 pc_X5_kindFor 28 ([oLdI 5, oI (6)], tCm (fun a b => a < b) 5 8) := ⟨_, okC (ok_ild X dX5_kindFor_28)
  (okC (ok_bi X (by decide) dX5_kindFor_30)
  (okN)), ok_cmge X (by decide) rfl dX5_kindFor_32⟩
set_option maxRecDepth 20000 in
theorem ob_X5_kindFor_5 {x : ip_Cx} {G : ip_Gl} {d : Nat} (X : ip_X x G tb 6 d 0 0 RX5 cX5_kindFor) (hr : x.2.2.2.2.2.2.2.2.1.sig.returnType = (some .int)) (hnm : x.2.2.2.2.2.2.2.2.1.name = "kindFor") : ip_okB x G 6 pc_X5_kindFor 35 ([oLdA 0, oGet 5 4, oLdA 0, oGet 5 0, oLdI 1, oLdA 0, oGet 5 0, oGet 1 1, oCaV (ip_call tb d) 0 0 4 39 4 0 0, oLdA 0, oGet 5 4, oLdI 5, oPut 4 4 .int, oLdA 0, oGet 5 4, oLdI 2, oCaV (ip_call tb d) 0 0 4 49 2 0 0, oLdA 0, oGet 5 4, oGet 4 6, oLdI 4], tCm (fun a b => b < a) 6 7) := ⟨_, okC (ok_aldn X rfl dX5_kindFor_35)
  (okC (ok_get X (ci := 5) rfl (by decide) iw_X5 tw_202 dX5_kindFor_36)
  (okC (ok_aldn X rfl dX5_kindFor_39)
  (okC (ok_get X (ci := 5) rfl (by decide) iw_X5 tw_198 dX5_kindFor_40)
  (okC (ok_ildn X rfl dX5_kindFor_43)
  (okC (ok_aldn X rfl dX5_kindFor_44)
  (okC (ok_get X (ci := 5) rfl (by decide) iw_X5 tw_198 dX5_kindFor_45)
  (okC (ok_get X (ci := 1) rfl (by decide) iw_X1 tw_44 dX5_kindFor_48)
  (okC (ok_calV X (i := 140) (e := en_39) rfl mt_39 rfl rfl rfl tw_417 tw_418 (Or.inl ⟨_, _, rfl⟩) tw_419 dX5_kindFor_51)
  (okC (ok_aldn X rfl dX5_kindFor_54)
  (okC (ok_get X (ci := 5) rfl (by decide) iw_X5 tw_202 dX5_kindFor_55)
  (okC (ok_ild X dX5_kindFor_58)
  (okC (ok_put X (ci := 4) rfl (by decide) iw_X4 tyX4_ok nmX4 rfl (Or.inl rfl) tw_108 dX5_kindFor_60)
  (okC (ok_aldn X rfl dX5_kindFor_63)
  (okC (ok_get X (ci := 5) rfl (by decide) iw_X5 tw_202 dX5_kindFor_64)
  (okC (ok_ildn X rfl dX5_kindFor_67)
  (okC (ok_calV X (i := 188) (e := en_49) rfl mt_49 rfl rfl rfl tw_555 tw_556 (Or.inl ⟨_, _, rfl⟩) tw_557 dX5_kindFor_68)
  (okC (ok_aldn X rfl dX5_kindFor_71)
  (okC (ok_get X (ci := 5) rfl (by decide) iw_X5 tw_202 dX5_kindFor_72)
  (okC (ok_get X (ci := 4) rfl (by decide) iw_X4 tw_113 dX5_kindFor_75)
  (okC (ok_ild X dX5_kindFor_78)
  (okN))))))))))))))))))))), ok_cmle X (by decide) rfl dX5_kindFor_80⟩
set_option maxRecDepth 20000 in
theorem ob_X5_kindFor_6 {x : ip_Cx} {G : ip_Gl} {d : Nat} (X : ip_X x G tb 6 d 0 0 RX5 cX5_kindFor) (hr : x.2.2.2.2.2.2.2.2.1.sig.returnType = (some .int)) (hnm : x.2.2.2.2.2.2.2.2.1.name = "kindFor") : ip_okB x G 6 pc_X5_kindFor 83 ([oLdA 0, oGet 5 4, oGet 4 6, oStI 4, oLdI 5, oStI 3], tGo 7) := ⟨_, okC (ok_aldn X rfl dX5_kindFor_83)
  (okC (ok_get X (ci := 5) rfl (by decide) iw_X5 tw_202 dX5_kindFor_84)
  (okC (ok_get X (ci := 4) rfl (by decide) iw_X4 tw_113 dX5_kindFor_87)
  (okC (ok_ist X (by decide) dX5_kindFor_90)
  (okC (ok_ild X dX5_kindFor_92)
  (okC (ok_istn X rfl (by decide) dX5_kindFor_94)
  (okN)))))), ok_fall rfl⟩
set_option maxRecDepth 20000 in
theorem ob_X5_kindFor_7 {x : ip_Cx} {G : ip_Gl} {d : Nat} (X : ip_X x G tb 6 d 0 0 RX5 cX5_kindFor) (hr : x.2.2.2.2.2.2.2.2.1.sig.returnType = (some .int)) (hnm : x.2.2.2.2.2.2.2.2.1.name = "kindFor") : ip_okB x G 6 pc_X5_kindFor 95 ([oInc 5 (1)], tGo 4) := ⟨_, okC (ok_inc X (by decide) dX5_kindFor_95)
  (okN), ok_go X (by decide) dX5_kindFor_98⟩
set_option maxRecDepth 20000 in
theorem ob_X5_kindFor_8 {x : ip_Cx} {G : ip_Gl} {d : Nat} (X : ip_X x G tb 6 d 0 0 RX5 cX5_kindFor) (hr : x.2.2.2.2.2.2.2.2.1.sig.returnType = (some .int)) (hnm : x.2.2.2.2.2.2.2.2.1.name = "kindFor") : ip_okB x G 6 pc_X5_kindFor 101 ([oLdI 3], tRI .int 0 0) := ⟨_, okC (ok_ildn X rfl dX5_kindFor_101)
  (okN), ok_ret X hr dX5_kindFor_102⟩
theorem om_73 : ip_MOk tb en_73 pc_X5_kindFor := fun x G d X hr hnm => ⟨ob_X5_kindFor_0 X hr hnm, ⟨ob_X5_kindFor_1 X hr hnm, ⟨ob_X5_kindFor_2 X hr hnm, ⟨ob_X5_kindFor_3 X hr hnm, ⟨ob_X5_kindFor_4 X hr hnm, ⟨ob_X5_kindFor_5 X hr hnm, ⟨ob_X5_kindFor_6 X hr hnm, ⟨ob_X5_kindFor_7 X hr hnm, ⟨ob_X5_kindFor_8 X hr hnm, trivial⟩⟩⟩⟩⟩⟩⟩⟩⟩
theorem dX5_turnedFor_0 : decode cX5_turnedFor 0 = .ok (.aload_n 0, 1) := by decide +kernel
theorem dX5_turnedFor_1 : decode cX5_turnedFor 1 = .ok (.iload_n 1, 1) := by decide +kernel
theorem dX5_turnedFor_2 : decode cX5_turnedFor 2 = .ok (.invokevirtual 119, 3) := by decide +kernel
theorem dX5_turnedFor_5 : decode cX5_turnedFor 5 = .ok (.ifCond .eq 13, 3) := by decide +kernel
theorem dX5_turnedFor_8 : decode cX5_turnedFor 8 = .ok (.iload_n 2, 1) := by decide +kernel
theorem dX5_turnedFor_9 : decode cX5_turnedFor 9 = .ok (.iconst 1, 1) := by decide +kernel
theorem dX5_turnedFor_10 : decode cX5_turnedFor 10 = .ok (.bipush 30, 2) := by decide +kernel
theorem dX5_turnedFor_12 : decode cX5_turnedFor 12 = .ok (.invokestatic 67, 3) := by decide +kernel
theorem dX5_turnedFor_15 : decode cX5_turnedFor 15 = .ok (.ifCond .ne 5, 3) := by decide +kernel
theorem dX5_turnedFor_18 : decode cX5_turnedFor 18 = .ok (.iconst (-1), 1) := by decide +kernel
theorem dX5_turnedFor_19 : decode cX5_turnedFor 19 = .ok (.ireturn, 1) := by decide +kernel
theorem dX5_turnedFor_20 : decode cX5_turnedFor 20 = .ok (.aload_n 0, 1) := by decide +kernel
theorem dX5_turnedFor_21 : decode cX5_turnedFor 21 = .ok (.getfield 29, 3) := by decide +kernel
theorem dX5_turnedFor_24 : decode cX5_turnedFor 24 = .ok (.aload_n 0, 1) := by decide +kernel
theorem dX5_turnedFor_25 : decode cX5_turnedFor 25 = .ok (.getfield 10, 3) := by decide +kernel
theorem dX5_turnedFor_28 : decode cX5_turnedFor 28 = .ok (.iload_n 1, 1) := by decide +kernel
theorem dX5_turnedFor_29 : decode cX5_turnedFor 29 = .ok (.aload_n 0, 1) := by decide +kernel
theorem dX5_turnedFor_30 : decode cX5_turnedFor 30 = .ok (.getfield 10, 3) := by decide +kernel
theorem dX5_turnedFor_33 : decode cX5_turnedFor 33 = .ok (.getfield 101, 3) := by decide +kernel
theorem dX5_turnedFor_36 : decode cX5_turnedFor 36 = .ok (.invokevirtual 140, 3) := by decide +kernel
theorem dX5_turnedFor_39 : decode cX5_turnedFor 39 = .ok (.aload_n 0, 1) := by decide +kernel
theorem dX5_turnedFor_40 : decode cX5_turnedFor 40 = .ok (.getfield 29, 3) := by decide +kernel
theorem dX5_turnedFor_43 : decode cX5_turnedFor 43 = .ok (.iload_n 2, 1) := by decide +kernel
theorem dX5_turnedFor_44 : decode cX5_turnedFor 44 = .ok (.invokevirtual 188, 3) := by decide +kernel
theorem dX5_turnedFor_47 : decode cX5_turnedFor 47 = .ok (.bipush (-3), 2) := by decide +kernel
theorem dX5_turnedFor_49 : decode cX5_turnedFor 49 = .ok (.istore_n 3, 1) := by decide +kernel
theorem dX5_turnedFor_50 : decode cX5_turnedFor 50 = .ok (.aload_n 0, 1) := by decide +kernel
theorem dX5_turnedFor_51 : decode cX5_turnedFor 51 = .ok (.getfield 29, 3) := by decide +kernel
theorem dX5_turnedFor_54 : decode cX5_turnedFor 54 = .ok (.getfield 192, 3) := by decide +kernel
theorem dX5_turnedFor_57 : decode cX5_turnedFor 57 = .ok (.istore 4, 2) := by decide +kernel
theorem dX5_turnedFor_59 : decode cX5_turnedFor 59 = .ok (.iconst 0, 1) := by decide +kernel
theorem dX5_turnedFor_60 : decode cX5_turnedFor 60 = .ok (.istore 5, 2) := by decide +kernel
theorem dX5_turnedFor_62 : decode cX5_turnedFor 62 = .ok (.iload 5, 2) := by decide +kernel
theorem dX5_turnedFor_64 : decode cX5_turnedFor 64 = .ok (.bipush 8, 2) := by decide +kernel
theorem dX5_turnedFor_66 : decode cX5_turnedFor 66 = .ok (.if_icmp .ge 65, 3) := by decide +kernel
theorem dX5_turnedFor_69 : decode cX5_turnedFor 69 = .ok (.aload_n 0, 1) := by decide +kernel
theorem dX5_turnedFor_70 : decode cX5_turnedFor 70 = .ok (.getfield 29, 3) := by decide +kernel
theorem dX5_turnedFor_73 : decode cX5_turnedFor 73 = .ok (.aload_n 0, 1) := by decide +kernel
theorem dX5_turnedFor_74 : decode cX5_turnedFor 74 = .ok (.getfield 10, 3) := by decide +kernel
theorem dX5_turnedFor_77 : decode cX5_turnedFor 77 = .ok (.iload_n 1, 1) := by decide +kernel
theorem dX5_turnedFor_78 : decode cX5_turnedFor 78 = .ok (.aload_n 0, 1) := by decide +kernel
theorem dX5_turnedFor_79 : decode cX5_turnedFor 79 = .ok (.getfield 10, 3) := by decide +kernel
theorem dX5_turnedFor_82 : decode cX5_turnedFor 82 = .ok (.getfield 101, 3) := by decide +kernel
theorem dX5_turnedFor_85 : decode cX5_turnedFor 85 = .ok (.iconst 1, 1) := by decide +kernel
theorem dX5_turnedFor_86 : decode cX5_turnedFor 86 = .ok (.iload 5, 2) := by decide +kernel
theorem dX5_turnedFor_88 : decode cX5_turnedFor 88 = .ok (.ishl, 1) := by decide +kernel
theorem dX5_turnedFor_89 : decode cX5_turnedFor 89 = .ok (.ixor, 1) := by decide +kernel
theorem dX5_turnedFor_90 : decode cX5_turnedFor 90 = .ok (.invokevirtual 140, 3) := by decide +kernel
theorem dX5_turnedFor_93 : decode cX5_turnedFor 93 = .ok (.aload_n 0, 1) := by decide +kernel
theorem dX5_turnedFor_94 : decode cX5_turnedFor 94 = .ok (.getfield 29, 3) := by decide +kernel
theorem dX5_turnedFor_97 : decode cX5_turnedFor 97 = .ok (.iload_n 2, 1) := by decide +kernel
theorem dX5_turnedFor_98 : decode cX5_turnedFor 98 = .ok (.invokevirtual 188, 3) := by decide +kernel
theorem dX5_turnedFor_101 : decode cX5_turnedFor 101 = .ok (.aload_n 0, 1) := by decide +kernel
theorem dX5_turnedFor_102 : decode cX5_turnedFor 102 = .ok (.getfield 29, 3) := by decide +kernel
theorem dX5_turnedFor_105 : decode cX5_turnedFor 105 = .ok (.getfield 192, 3) := by decide +kernel
theorem dX5_turnedFor_108 : decode cX5_turnedFor 108 = .ok (.iload 4, 2) := by decide +kernel
theorem dX5_turnedFor_110 : decode cX5_turnedFor 110 = .ok (.if_icmp .le 15, 3) := by decide +kernel
theorem dX5_turnedFor_113 : decode cX5_turnedFor 113 = .ok (.aload_n 0, 1) := by decide +kernel
theorem dX5_turnedFor_114 : decode cX5_turnedFor 114 = .ok (.getfield 29, 3) := by decide +kernel
theorem dX5_turnedFor_117 : decode cX5_turnedFor 117 = .ok (.getfield 192, 3) := by decide +kernel
theorem dX5_turnedFor_120 : decode cX5_turnedFor 120 = .ok (.istore 4, 2) := by decide +kernel
theorem dX5_turnedFor_122 : decode cX5_turnedFor 122 = .ok (.iload 5, 2) := by decide +kernel
theorem dX5_turnedFor_124 : decode cX5_turnedFor 124 = .ok (.istore_n 3, 1) := by decide +kernel
theorem dX5_turnedFor_125 : decode cX5_turnedFor 125 = .ok (.iinc 5 1, 3) := by decide +kernel
theorem dX5_turnedFor_128 : decode cX5_turnedFor 128 = .ok (.goto (-66), 3) := by decide +kernel
theorem dX5_turnedFor_131 : decode cX5_turnedFor 131 = .ok (.iload_n 3, 1) := by decide +kernel
theorem dX5_turnedFor_132 : decode cX5_turnedFor 132 = .ok (.ireturn, 1) := by decide +kernel
def pc_X5_turnedFor (i : Nat) : Nat := ([0, 8, 18, 20, 62, 69, 113, 125, 131] : List Nat).getD i 0
set_option maxRecDepth 20000 in
theorem ob_X5_turnedFor_0 {x : ip_Cx} {G : ip_Gl} {d : Nat} (X : ip_X x G tb 6 d 0 0 RX5 cX5_turnedFor) (hr : x.2.2.2.2.2.2.2.2.1.sig.returnType = (some .int)) (hnm : x.2.2.2.2.2.2.2.2.1.name = "turnedFor") : ip_okB x G 6 pc_X5_turnedFor 0 ([oLdA 0, oLdI 1, oCaV (ip_call tb d) 0 0 5 102 2 0 0], tIf (fun a => a = 0) 2 1) := ⟨_, okC (ok_aldn X rfl dX5_turnedFor_0)
  (okC (ok_ildn X rfl dX5_turnedFor_1)
  (okC (ok_calV X (i := 119) (e := en_102) rfl mt_102 rfl rfl rfl tw_409 tw_411 (Or.inl ⟨_, _, rfl⟩) tp_0 dX5_turnedFor_2)
  (okN))), ok_ifeq X (by decide) rfl dX5_turnedFor_5⟩
set_option maxRecDepth 20000 in
theorem ob_X5_turnedFor_1 {x : ip_Cx} {G : ip_Gl} {d : Nat} (X : ip_X x G tb 6 d 0 0 RX5 cX5_turnedFor) (hr : x.2.2.2.2.2.2.2.2.1.sig.returnType = (some .int)) (hnm : x.2.2.2.2.2.2.2.2.1.name = "turnedFor") : ip_okB x G 6 pc_X5_turnedFor 8 ([oLdI 2, oI (1), oI (30), oCal (ip_call tb d) 0 0 95 3 0 0], tIf (fun a => a = 0) 2 3) := ⟨_, okC (ok_ildn X rfl dX5_turnedFor_8)
  (okC (ok_ic X (by decide) dX5_turnedFor_9)
  (okC (ok_bi X (by decide) dX5_turnedFor_10)
  (okC (ok_calS X (i := 67) (e := en_95) rfl mt_95 rfl rfl rfl tw_239 tw_240 dX5_turnedFor_12)
  (okN)))), ok_ifne X (by decide) rfl dX5_turnedFor_15⟩
set_option maxRecDepth 20000 in
theorem ob_X5_turnedFor_2 {x : ip_Cx} {G : ip_Gl} {d : Nat} (X : ip_X x G tb 6 d 0 0 RX5 cX5_turnedFor) (hr : x.2.2.2.2.2.2.2.2.1.sig.returnType = (some .int)) (hnm : x.2.2.2.2.2.2.2.2.1.name = "turnedFor") : ip_okB x G 6 pc_X5_turnedFor 18 ([oI (-1)], tRI .int 0 0) := ⟨_, okC (ok_ic X (by decide) dX5_turnedFor_18)
  (okN), ok_ret X hr dX5_turnedFor_19⟩
set_option maxRecDepth 20000 in
theorem ob_X5_turnedFor_3 {x : ip_Cx} {G : ip_Gl} {d : Nat} (X : ip_X x G tb 6 d 0 0 RX5 cX5_turnedFor) (hr : x.2.2.2.2.2.2.2.2.1.sig.returnType = (some .int)) (hnm : x.2.2.2.2.2.2.2.2.1.name = "turnedFor") : ip_okB x G 6 pc_X5_turnedFor 20 ([oLdA 0, oGet 5 4, oLdA 0, oGet 5 0, oLdI 1, oLdA 0, oGet 5 0, oGet 1 1, oCaV (ip_call tb d) 0 0 4 39 4 0 0, oLdA 0, oGet 5 4, oLdI 2, oCaV (ip_call tb d) 0 0 4 49 2 0 0, oI (-3), oStI 3, oLdA 0, oGet 5 4, oGet 4 6, oStI 4, oI (0), oStI 5], tGo 4) := ⟨_, okC (ok_aldn X rfl dX5_turnedFor_20)
  (okC (ok_get X (ci := 5) rfl (by decide) iw_X5 tw_202 dX5_turnedFor_21)
  (okC (ok_aldn X rfl dX5_turnedFor_24)
  (okC (ok_get X (ci := 5) rfl (by decide) iw_X5 tw_198 dX5_turnedFor_25)
  (okC (ok_ildn X rfl dX5_turnedFor_28)
  (okC (ok_aldn X rfl dX5_turnedFor_29)
  (okC (ok_get X (ci := 5) rfl (by decide) iw_X5 tw_198 dX5_turnedFor_30)
  (okC (ok_get X (ci := 1) rfl (by decide) iw_X1 tw_44 dX5_turnedFor_33)
  (okC (ok_calV X (i := 140) (e := en_39) rfl mt_39 rfl rfl rfl tw_417 tw_418 (Or.inl ⟨_, _, rfl⟩) tw_419 dX5_turnedFor_36)
  (okC (ok_aldn X rfl dX5_turnedFor_39)
  (okC (ok_get X (ci := 5) rfl (by decide) iw_X5 tw_202 dX5_turnedFor_40)
  (okC (ok_ildn X rfl dX5_turnedFor_43)
  (okC (ok_calV X (i := 188) (e := en_49) rfl mt_49 rfl rfl rfl tw_555 tw_556 (Or.inl ⟨_, _, rfl⟩) tw_557 dX5_turnedFor_44)
  (okC (ok_bi X (by decide) dX5_turnedFor_47)
  (okC (ok_istn X rfl (by decide) dX5_turnedFor_49)
  (okC (ok_aldn X rfl dX5_turnedFor_50)
  (okC (ok_get X (ci := 5) rfl (by decide) iw_X5 tw_202 dX5_turnedFor_51)
  (okC (ok_get X (ci := 4) rfl (by decide) iw_X4 tw_113 dX5_turnedFor_54)
  (okC (ok_ist X (by decide) dX5_turnedFor_57)
  (okC (ok_ic X (by decide) dX5_turnedFor_59)
  (okC (ok_ist X (by decide) dX5_turnedFor_60)
  (okN))))))))))))))))))))), ok_fall rfl⟩
set_option maxRecDepth 20000 in
theorem ob_X5_turnedFor_4 {x : ip_Cx} {G : ip_Gl} {d : Nat} (X : ip_X x G tb 6 d 0 0 RX5 cX5_turnedFor) (hr : x.2.2.2.2.2.2.2.2.1.sig.returnType = (some .int)) (hnm : x.2.2.2.2.2.2.2.2.1.name = "turnedFor") : ip_okB x G 6 pc_X5_turnedFor 62 ([oLdI 5, oI (8)], tCm (fun a b => a < b) 5 8) := ⟨_, okC (ok_ild X dX5_turnedFor_62)
  (okC (ok_bi X (by decide) dX5_turnedFor_64)
  (okN)), ok_cmge X (by decide) rfl dX5_turnedFor_66⟩
set_option maxRecDepth 20000 in
theorem ob_X5_turnedFor_5 {x : ip_Cx} {G : ip_Gl} {d : Nat} (X : ip_X x G tb 6 d 0 0 RX5 cX5_turnedFor) (hr : x.2.2.2.2.2.2.2.2.1.sig.returnType = (some .int)) (hnm : x.2.2.2.2.2.2.2.2.1.name = "turnedFor") : ip_okB x G 6 pc_X5_turnedFor 69 ([oLdA 0, oGet 5 4, oLdA 0, oGet 5 0, oLdI 1, oLdA 0, oGet 5 0, oGet 1 1, oI (1), oLdI 5, oBI (fun a b => a <<< (b &&& 31)), oBI (fun a b => a ^^^ b), oCaV (ip_call tb d) 0 0 4 39 4 0 0, oLdA 0, oGet 5 4, oLdI 2, oCaV (ip_call tb d) 0 0 4 49 2 0 0, oLdA 0, oGet 5 4, oGet 4 6, oLdI 4], tCm (fun a b => b < a) 6 7) := ⟨_, okC (ok_aldn X rfl dX5_turnedFor_69)
  (okC (ok_get X (ci := 5) rfl (by decide) iw_X5 tw_202 dX5_turnedFor_70)
  (okC (ok_aldn X rfl dX5_turnedFor_73)
  (okC (ok_get X (ci := 5) rfl (by decide) iw_X5 tw_198 dX5_turnedFor_74)
  (okC (ok_ildn X rfl dX5_turnedFor_77)
  (okC (ok_aldn X rfl dX5_turnedFor_78)
  (okC (ok_get X (ci := 5) rfl (by decide) iw_X5 tw_198 dX5_turnedFor_79)
  (okC (ok_get X (ci := 1) rfl (by decide) iw_X1 tw_44 dX5_turnedFor_82)
  (okC (ok_ic X (by decide) dX5_turnedFor_85)
  (okC (ok_ild X dX5_turnedFor_86)
  (okC (ok_ishl X dX5_turnedFor_88)
  (okC (ok_ixor X dX5_turnedFor_89)
  (okC (ok_calV X (i := 140) (e := en_39) rfl mt_39 rfl rfl rfl tw_417 tw_418 (Or.inl ⟨_, _, rfl⟩) tw_419 dX5_turnedFor_90)
  (okC (ok_aldn X rfl dX5_turnedFor_93)
  (okC (ok_get X (ci := 5) rfl (by decide) iw_X5 tw_202 dX5_turnedFor_94)
  (okC (ok_ildn X rfl dX5_turnedFor_97)
  (okC (ok_calV X (i := 188) (e := en_49) rfl mt_49 rfl rfl rfl tw_555 tw_556 (Or.inl ⟨_, _, rfl⟩) tw_557 dX5_turnedFor_98)
  (okC (ok_aldn X rfl dX5_turnedFor_101)
  (okC (ok_get X (ci := 5) rfl (by decide) iw_X5 tw_202 dX5_turnedFor_102)
  (okC (ok_get X (ci := 4) rfl (by decide) iw_X4 tw_113 dX5_turnedFor_105)
  (okC (ok_ild X dX5_turnedFor_108)
  (okN))))))))))))))))))))), ok_cmle X (by decide) rfl dX5_turnedFor_110⟩
set_option maxRecDepth 20000 in
theorem ob_X5_turnedFor_6 {x : ip_Cx} {G : ip_Gl} {d : Nat} (X : ip_X x G tb 6 d 0 0 RX5 cX5_turnedFor) (hr : x.2.2.2.2.2.2.2.2.1.sig.returnType = (some .int)) (hnm : x.2.2.2.2.2.2.2.2.1.name = "turnedFor") : ip_okB x G 6 pc_X5_turnedFor 113 ([oLdA 0, oGet 5 4, oGet 4 6, oStI 4, oLdI 5, oStI 3], tGo 7) := ⟨_, okC (ok_aldn X rfl dX5_turnedFor_113)
  (okC (ok_get X (ci := 5) rfl (by decide) iw_X5 tw_202 dX5_turnedFor_114)
  (okC (ok_get X (ci := 4) rfl (by decide) iw_X4 tw_113 dX5_turnedFor_117)
  (okC (ok_ist X (by decide) dX5_turnedFor_120)
  (okC (ok_ild X dX5_turnedFor_122)
  (okC (ok_istn X rfl (by decide) dX5_turnedFor_124)
  (okN)))))), ok_fall rfl⟩
set_option maxRecDepth 20000 in
theorem ob_X5_turnedFor_7 {x : ip_Cx} {G : ip_Gl} {d : Nat} (X : ip_X x G tb 6 d 0 0 RX5 cX5_turnedFor) (hr : x.2.2.2.2.2.2.2.2.1.sig.returnType = (some .int)) (hnm : x.2.2.2.2.2.2.2.2.1.name = "turnedFor") : ip_okB x G 6 pc_X5_turnedFor 125 ([oInc 5 (1)], tGo 4) := ⟨_, okC (ok_inc X (by decide) dX5_turnedFor_125)
  (okN), ok_go X (by decide) dX5_turnedFor_128⟩
set_option maxRecDepth 20000 in
theorem ob_X5_turnedFor_8 {x : ip_Cx} {G : ip_Gl} {d : Nat} (X : ip_X x G tb 6 d 0 0 RX5 cX5_turnedFor) (hr : x.2.2.2.2.2.2.2.2.1.sig.returnType = (some .int)) (hnm : x.2.2.2.2.2.2.2.2.1.name = "turnedFor") : ip_okB x G 6 pc_X5_turnedFor 131 ([oLdI 3], tRI .int 0 0) := ⟨_, okC (ok_ildn X rfl dX5_turnedFor_131)
  (okN), ok_ret X hr dX5_turnedFor_132⟩
theorem om_74 : ip_MOk tb en_74 pc_X5_turnedFor := fun x G d X hr hnm => ⟨ob_X5_turnedFor_0 X hr hnm, ⟨ob_X5_turnedFor_1 X hr hnm, ⟨ob_X5_turnedFor_2 X hr hnm, ⟨ob_X5_turnedFor_3 X hr hnm, ⟨ob_X5_turnedFor_4 X hr hnm, ⟨ob_X5_turnedFor_5 X hr hnm, ⟨ob_X5_turnedFor_6 X hr hnm, ⟨ob_X5_turnedFor_7 X hr hnm, ⟨ob_X5_turnedFor_8 X hr hnm, trivial⟩⟩⟩⟩⟩⟩⟩⟩⟩
theorem dX5_loadFor_0 : decode cX5_loadFor 0 = .ok (.aload_n 0, 1) := by decide +kernel
theorem dX5_loadFor_1 : decode cX5_loadFor 1 = .ok (.iload_n 1, 1) := by decide +kernel
theorem dX5_loadFor_2 : decode cX5_loadFor 2 = .ok (.invokevirtual 119, 3) := by decide +kernel
theorem dX5_loadFor_5 : decode cX5_loadFor 5 = .ok (.ifCond .eq 13, 3) := by decide +kernel
theorem dX5_loadFor_8 : decode cX5_loadFor 8 = .ok (.iload_n 2, 1) := by decide +kernel
theorem dX5_loadFor_9 : decode cX5_loadFor 9 = .ok (.iconst 1, 1) := by decide +kernel
theorem dX5_loadFor_10 : decode cX5_loadFor 10 = .ok (.bipush 30, 2) := by decide +kernel
theorem dX5_loadFor_12 : decode cX5_loadFor 12 = .ok (.invokestatic 67, 3) := by decide +kernel
theorem dX5_loadFor_15 : decode cX5_loadFor 15 = .ok (.ifCond .ne 5, 3) := by decide +kernel
theorem dX5_loadFor_18 : decode cX5_loadFor 18 = .ok (.iconst (-1), 1) := by decide +kernel
theorem dX5_loadFor_19 : decode cX5_loadFor 19 = .ok (.ireturn, 1) := by decide +kernel
theorem dX5_loadFor_20 : decode cX5_loadFor 20 = .ok (.bipush 99, 2) := by decide +kernel
theorem dX5_loadFor_22 : decode cX5_loadFor 22 = .ok (.istore_n 3, 1) := by decide +kernel
theorem dX5_loadFor_23 : decode cX5_loadFor 23 = .ok (.iload_n 3, 1) := by decide +kernel
theorem dX5_loadFor_24 : decode cX5_loadFor 24 = .ok (.ifCond .lt 56, 3) := by decide +kernel
theorem dX5_loadFor_27 : decode cX5_loadFor 27 = .ok (.aload_n 0, 1) := by decide +kernel
theorem dX5_loadFor_28 : decode cX5_loadFor 28 = .ok (.getfield 29, 3) := by decide +kernel
theorem dX5_loadFor_31 : decode cX5_loadFor 31 = .ok (.aload_n 0, 1) := by decide +kernel
theorem dX5_loadFor_32 : decode cX5_loadFor 32 = .ok (.getfield 10, 3) := by decide +kernel
theorem dX5_loadFor_35 : decode cX5_loadFor 35 = .ok (.iload_n 1, 1) := by decide +kernel
theorem dX5_loadFor_36 : decode cX5_loadFor 36 = .ok (.aload_n 0, 1) := by decide +kernel
theorem dX5_loadFor_37 : decode cX5_loadFor 37 = .ok (.getfield 10, 3) := by decide +kernel
theorem dX5_loadFor_40 : decode cX5_loadFor 40 = .ok (.getfield 101, 3) := by decide +kernel
theorem dX5_loadFor_43 : decode cX5_loadFor 43 = .ok (.invokevirtual 140, 3) := by decide +kernel
theorem dX5_loadFor_46 : decode cX5_loadFor 46 = .ok (.aload_n 0, 1) := by decide +kernel
theorem dX5_loadFor_47 : decode cX5_loadFor 47 = .ok (.getfield 29, 3) := by decide +kernel
theorem dX5_loadFor_50 : decode cX5_loadFor 50 = .ok (.iload_n 3, 1) := by decide +kernel
theorem dX5_loadFor_51 : decode cX5_loadFor 51 = .ok (.putfield 220, 3) := by decide +kernel
theorem dX5_loadFor_54 : decode cX5_loadFor 54 = .ok (.aload_n 0, 1) := by decide +kernel
theorem dX5_loadFor_55 : decode cX5_loadFor 55 = .ok (.getfield 29, 3) := by decide +kernel
theorem dX5_loadFor_58 : decode cX5_loadFor 58 = .ok (.iload_n 2, 1) := by decide +kernel
theorem dX5_loadFor_59 : decode cX5_loadFor 59 = .ok (.invokevirtual 188, 3) := by decide +kernel
theorem dX5_loadFor_62 : decode cX5_loadFor 62 = .ok (.aload_n 0, 1) := by decide +kernel
theorem dX5_loadFor_63 : decode cX5_loadFor 63 = .ok (.getfield 29, 3) := by decide +kernel
theorem dX5_loadFor_66 : decode cX5_loadFor 66 = .ok (.invokevirtual 197, 3) := by decide +kernel
theorem dX5_loadFor_69 : decode cX5_loadFor 69 = .ok (.ifCond .eq 5, 3) := by decide +kernel
theorem dX5_loadFor_72 : decode cX5_loadFor 72 = .ok (.iload_n 3, 1) := by decide +kernel
theorem dX5_loadFor_73 : decode cX5_loadFor 73 = .ok (.ireturn, 1) := by decide +kernel
theorem dX5_loadFor_74 : decode cX5_loadFor 74 = .ok (.iinc 3 (-1), 3) := by decide +kernel
theorem dX5_loadFor_77 : decode cX5_loadFor 77 = .ok (.goto (-54), 3) := by decide +kernel
theorem dX5_loadFor_80 : decode cX5_loadFor 80 = .ok (.bipush (-3), 2) := by decide +kernel
theorem dX5_loadFor_82 : decode cX5_loadFor 82 = .ok (.ireturn, 1) := by decide +kernel
def pc_X5_loadFor (i : Nat) : Nat := ([0, 8, 18, 20, 23, 27, 72, 74, 80] : List Nat).getD i 0
set_option maxRecDepth 20000 in
theorem ob_X5_loadFor_0 {x : ip_Cx} {G : ip_Gl} {d : Nat} (X : ip_X x G tb 4 d 0 0 RX5 cX5_loadFor) (hr : x.2.2.2.2.2.2.2.2.1.sig.returnType = (some .int)) (hnm : x.2.2.2.2.2.2.2.2.1.name = "loadFor") : ip_okB x G 4 pc_X5_loadFor 0 ([oLdA 0, oLdI 1, oCaV (ip_call tb d) 0 0 5 102 2 0 0], tIf (fun a => a = 0) 2 1) := ⟨_, okC (ok_aldn X rfl dX5_loadFor_0)
  (okC (ok_ildn X rfl dX5_loadFor_1)
  (okC (ok_calV X (i := 119) (e := en_102) rfl mt_102 rfl rfl rfl tw_409 tw_411 (Or.inl ⟨_, _, rfl⟩) tp_0 dX5_loadFor_2)
  (okN))), ok_ifeq X (by decide) rfl dX5_loadFor_5⟩
set_option maxRecDepth 20000 in
theorem ob_X5_loadFor_1 {x : ip_Cx} {G : ip_Gl} {d : Nat} (X : ip_X x G tb 4 d 0 0 RX5 cX5_loadFor) (hr : x.2.2.2.2.2.2.2.2.1.sig.returnType = (some .int)) (hnm : x.2.2.2.2.2.2.2.2.1.name = "loadFor") : ip_okB x G 4 pc_X5_loadFor 8 ([oLdI 2, oI (1), oI (30), oCal (ip_call tb d) 0 0 95 3 0 0], tIf (fun a => a = 0) 2 3) := ⟨_, okC (ok_ildn X rfl dX5_loadFor_8)
  (okC (ok_ic X (by decide) dX5_loadFor_9)
  (okC (ok_bi X (by decide) dX5_loadFor_10)
  (okC (ok_calS X (i := 67) (e := en_95) rfl mt_95 rfl rfl rfl tw_239 tw_240 dX5_loadFor_12)
  (okN)))), ok_ifne X (by decide) rfl dX5_loadFor_15⟩
set_option maxRecDepth 20000 in
theorem ob_X5_loadFor_2 {x : ip_Cx} {G : ip_Gl} {d : Nat} (X : ip_X x G tb 4 d 0 0 RX5 cX5_loadFor) (hr : x.2.2.2.2.2.2.2.2.1.sig.returnType = (some .int)) (hnm : x.2.2.2.2.2.2.2.2.1.name = "loadFor") : ip_okB x G 4 pc_X5_loadFor 18 ([oI (-1)], tRI .int 0 0) := ⟨_, okC (ok_ic X (by decide) dX5_loadFor_18)
  (okN), ok_ret X hr dX5_loadFor_19⟩
set_option maxRecDepth 20000 in
theorem ob_X5_loadFor_3 {x : ip_Cx} {G : ip_Gl} {d : Nat} (X : ip_X x G tb 4 d 0 0 RX5 cX5_loadFor) (hr : x.2.2.2.2.2.2.2.2.1.sig.returnType = (some .int)) (hnm : x.2.2.2.2.2.2.2.2.1.name = "loadFor") : ip_okB x G 4 pc_X5_loadFor 20 ([oI (99), oStI 3], tGo 4) := ⟨_, okC (ok_bi X (by decide) dX5_loadFor_20)
  (okC (ok_istn X rfl (by decide) dX5_loadFor_22)
  (okN)), ok_fall rfl⟩
set_option maxRecDepth 20000 in
theorem ob_X5_loadFor_4 {x : ip_Cx} {G : ip_Gl} {d : Nat} (X : ip_X x G tb 4 d 0 0 RX5 cX5_loadFor) (hr : x.2.2.2.2.2.2.2.2.1.sig.returnType = (some .int)) (hnm : x.2.2.2.2.2.2.2.2.1.name = "loadFor") : ip_okB x G 4 pc_X5_loadFor 23 ([oLdI 3], tIf (fun a => a < 0) 8 5) := ⟨_, okC (ok_ildn X rfl dX5_loadFor_23)
  (okN), ok_iflt X (by decide) rfl dX5_loadFor_24⟩
set_option maxRecDepth 20000 in
theorem ob_X5_loadFor_5 {x : ip_Cx} {G : ip_Gl} {d : Nat} (X : ip_X x G tb 4 d 0 0 RX5 cX5_loadFor) (hr : x.2.2.2.2.2.2.2.2.1.sig.returnType = (some .int)) (hnm : x.2.2.2.2.2.2.2.2.1.name = "loadFor") : ip_okB x G 4 pc_X5_loadFor 27 ([oLdA 0, oGet 5 4, oLdA 0, oGet 5 0, oLdI 1, oLdA 0, oGet 5 0, oGet 1 1, oCaV (ip_call tb d) 0 0 4 39 4 0 0, oLdA 0, oGet 5 4, oLdI 3, oPut 4 5 .int, oLdA 0, oGet 5 4, oLdI 2, oCaV (ip_call tb d) 0 0 4 49 2 0 0, oLdA 0, oGet 5 4, oCaV (ip_call tb d) 0 0 4 41 1 0 0], tIf (fun a => a = 0) 7 6) := ⟨_, okC (ok_aldn X rfl dX5_loadFor_27)
  (okC (ok_get X (ci := 5) rfl (by decide) iw_X5 tw_202 dX5_loadFor_28)
  (okC (ok_aldn X rfl dX5_loadFor_31)
  (okC (ok_get X (ci := 5) rfl (by decide) iw_X5 tw_198 dX5_loadFor_32)
  (okC (ok_ildn X rfl dX5_loadFor_35)
  (okC (ok_aldn X rfl dX5_loadFor_36)
  (okC (ok_get X (ci := 5) rfl (by decide) iw_X5 tw_198 dX5_loadFor_37)
  (okC (ok_get X (ci := 1) rfl (by decide) iw_X1 tw_44 dX5_loadFor_40)
  (okC (ok_calV X (i := 140) (e := en_39) rfl mt_39 rfl rfl rfl tw_417 tw_418 (Or.inl ⟨_, _, rfl⟩) tw_419 dX5_loadFor_43)
  (okC (ok_aldn X rfl dX5_loadFor_46)
  (okC (ok_get X (ci := 5) rfl (by decide) iw_X5 tw_202 dX5_loadFor_47)
  (okC (ok_ildn X rfl dX5_loadFor_50)
  (okC (ok_put X (ci := 4) rfl (by decide) iw_X4 tyX4_ok nmX4 rfl (Or.inl rfl) tw_110 dX5_loadFor_51)
  (okC (ok_aldn X rfl dX5_loadFor_54)
  (okC (ok_get X (ci := 5) rfl (by decide) iw_X5 tw_202 dX5_loadFor_55)
  (okC (ok_ildn X rfl dX5_loadFor_58)
  (okC (ok_calV X (i := 188) (e := en_49) rfl mt_49 rfl rfl rfl tw_555 tw_556 (Or.inl ⟨_, _, rfl⟩) tw_557 dX5_loadFor_59)
  (okC (ok_aldn X rfl dX5_loadFor_62)
  (okC (ok_get X (ci := 5) rfl (by decide) iw_X5 tw_202 dX5_loadFor_63)
  (okC (ok_calV X (i := 197) (e := en_41) rfl mt_41 rfl rfl rfl tw_570 tw_500 (Or.inl ⟨_, _, rfl⟩) tw_501 dX5_loadFor_66)
  (okN)))))))))))))))))))), ok_ifeq X (by decide) rfl dX5_loadFor_69⟩
set_option maxRecDepth 20000 in
theorem ob_X5_loadFor_6 {x : ip_Cx} {G : ip_Gl} {d : Nat} (X : ip_X x G tb 4 d 0 0 RX5 cX5_loadFor) (hr : x.2.2.2.2.2.2.2.2.1.sig.returnType = (some .int)) (hnm : x.2.2.2.2.2.2.2.2.1.name = "loadFor") : ip_okB x G 4 pc_X5_loadFor 72 ([oLdI 3], tRI .int 0 0) := ⟨_, okC (ok_ildn X rfl dX5_loadFor_72)
  (okN), ok_ret X hr dX5_loadFor_73⟩
set_option maxRecDepth 20000 in
theorem ob_X5_loadFor_7 {x : ip_Cx} {G : ip_Gl} {d : Nat} (X : ip_X x G tb 4 d 0 0 RX5 cX5_loadFor) (hr : x.2.2.2.2.2.2.2.2.1.sig.returnType = (some .int)) (hnm : x.2.2.2.2.2.2.2.2.1.name = "loadFor") : ip_okB x G 4 pc_X5_loadFor 74 ([oInc 3 (-1)], tGo 4) := ⟨_, okC (ok_inc X (by decide) dX5_loadFor_74)
  (okN), ok_go X (by decide) dX5_loadFor_77⟩
set_option maxRecDepth 20000 in
theorem ob_X5_loadFor_8 {x : ip_Cx} {G : ip_Gl} {d : Nat} (X : ip_X x G tb 4 d 0 0 RX5 cX5_loadFor) (hr : x.2.2.2.2.2.2.2.2.1.sig.returnType = (some .int)) (hnm : x.2.2.2.2.2.2.2.2.1.name = "loadFor") : ip_okB x G 4 pc_X5_loadFor 80 ([oI (-3)], tRI .int 0 0) := ⟨_, okC (ok_bi X (by decide) dX5_loadFor_80)
  (okN), ok_ret X hr dX5_loadFor_82⟩
theorem om_75 : ip_MOk tb en_75 pc_X5_loadFor := fun x G d X hr hnm => ⟨ob_X5_loadFor_0 X hr hnm, ⟨ob_X5_loadFor_1 X hr hnm, ⟨ob_X5_loadFor_2 X hr hnm, ⟨ob_X5_loadFor_3 X hr hnm, ⟨ob_X5_loadFor_4 X hr hnm, ⟨ob_X5_loadFor_5 X hr hnm, ⟨ob_X5_loadFor_6 X hr hnm, ⟨ob_X5_loadFor_7 X hr hnm, ⟨ob_X5_loadFor_8 X hr hnm, trivial⟩⟩⟩⟩⟩⟩⟩⟩⟩
