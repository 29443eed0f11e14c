theorem dX6_feed_0 : decode cX6_feed 0 = .ok (.iload_n 3, 1) := by decide +kernel
theorem dX6_feed_1 : decode cX6_feed 1 = .ok (.iconst 1, 1) := by decide +kernel
theorem dX6_feed_2 : decode cX6_feed 2 = .ok (.bipush 8, 2) := by decide +kernel
theorem dX6_feed_4 : decode cX6_feed 4 = .ok (.invokestatic 57, 3) := by decide +kernel
theorem dX6_feed_7 : decode cX6_feed 7 = .ok (.ifCond .ne 5, 3) := by decide +kernel
theorem dX6_feed_10 : decode cX6_feed 10 = .ok (.iconst (-1), 1) := by decide +kernel
theorem dX6_feed_11 : decode cX6_feed 11 = .ok (.ireturn, 1) := by decide +kernel
theorem dX6_feed_12 : decode cX6_feed 12 = .ok (.aload_n 0, 1) := by decide +kernel
theorem dX6_feed_13 : decode cX6_feed 13 = .ok (.getfield 61, 3) := by decide +kernel
theorem dX6_feed_16 : decode cX6_feed 16 = .ok (.iload_n 3, 1) := by decide +kernel
theorem dX6_feed_17 : decode cX6_feed 17 = .ok (.iadd, 1) := by decide +kernel
theorem dX6_feed_18 : decode cX6_feed 18 = .ok (.sipush 200, 3) := by decide +kernel
theorem dX6_feed_21 : decode cX6_feed 21 = .ok (.if_icmp .le 6, 3) := by decide +kernel
theorem dX6_feed_24 : decode cX6_feed 24 = .ok (.bipush (-2), 2) := by decide +kernel
theorem dX6_feed_26 : decode cX6_feed 26 = .ok (.ireturn, 1) := by decide +kernel
theorem dX6_feed_27 : decode cX6_feed 27 = .ok (.iconst 0, 1) := by decide +kernel
theorem dX6_feed_28 : decode cX6_feed 28 = .ok (.istore 4, 2) := by decide +kernel
theorem dX6_feed_30 : decode cX6_feed 30 = .ok (.iload 4, 2) := by decide +kernel
theorem dX6_feed_32 : decode cX6_feed 32 = .ok (.iload_n 3, 1) := by decide +kernel
theorem dX6_feed_33 : decode cX6_feed 33 = .ok (.if_icmp .ge 40, 3) := by decide +kernel
theorem dX6_feed_36 : decode cX6_feed 36 = .ok (.aload_n 0, 1) := by decide +kernel
theorem dX6_feed_37 : decode cX6_feed 37 = .ok (.getfield 22, 3) := by decide +kernel
theorem dX6_feed_40 : decode cX6_feed 40 = .ok (.aload_n 0, 1) := by decide +kernel
theorem dX6_feed_41 : decode cX6_feed 41 = .ok (.getfield 61, 3) := by decide +kernel
theorem dX6_feed_44 : decode cX6_feed 44 = .ok (.lload_n 1, 1) := by decide +kernel
theorem dX6_feed_45 : decode cX6_feed 45 = .ok (.bipush 8, 2) := by decide +kernel
theorem dX6_feed_47 : decode cX6_feed 47 = .ok (.iload 4, 2) := by decide +kernel
theorem dX6_feed_49 : decode cX6_feed 49 = .ok (.imul, 1) := by decide +kernel
theorem dX6_feed_50 : decode cX6_feed 50 = .ok (.lshr, 1) := by decide +kernel
theorem dX6_feed_51 : decode cX6_feed 51 = .ok (.ldc2_w 65, 3) := by decide +kernel
theorem dX6_feed_54 : decode cX6_feed 54 = .ok (.land, 1) := by decide +kernel
theorem dX6_feed_55 : decode cX6_feed 55 = .ok (.l2i, 1) := by decide +kernel
theorem dX6_feed_56 : decode cX6_feed 56 = .ok (.iastore, 1) := by decide +kernel
theorem dX6_feed_57 : decode cX6_feed 57 = .ok (.aload_n 0, 1) := by decide +kernel
theorem dX6_feed_58 : decode cX6_feed 58 = .ok (.dup, 1) := by decide +kernel
theorem dX6_feed_59 : decode cX6_feed 59 = .ok (.getfield 61, 3) := by decide +kernel
theorem dX6_feed_62 : decode cX6_feed 62 = .ok (.iconst 1, 1) := by decide +kernel
theorem dX6_feed_63 : decode cX6_feed 63 = .ok (.iadd, 1) := by decide +kernel
theorem dX6_feed_64 : decode cX6_feed 64 = .ok (.putfield 61, 3) := by decide +kernel
theorem dX6_feed_67 : decode cX6_feed 67 = .ok (.iinc 4 1, 3) := by decide +kernel
theorem dX6_feed_70 : decode cX6_feed 70 = .ok (.goto (-40), 3) := by decide +kernel
theorem dX6_feed_73 : decode cX6_feed 73 = .ok (.aload_n 0, 1) := by decide +kernel
theorem dX6_feed_74 : decode cX6_feed 74 = .ok (.getfield 61, 3) := by decide +kernel
theorem dX6_feed_77 : decode cX6_feed 77 = .ok (.ireturn, 1) := by decide +kernel
def pc_X6_feed (i : Nat) : Nat := ([0, 10, 12, 24, 27, 30, 36, 73] : List Nat).getD i 0
set_option maxRecDepth 20000 in
theorem ob_X6_feed_0 {x : ip_Cx} {G : ip_Gl} {d : Nat} (X : ip_X x G tb 5 d 0 0 RX6 cX6_feed) (hr : x.2.2.2.2.2.2.2.2.1.sig.returnType = (some .int)) (hnm : x.2.2.2.2.2.2.2.2.1.name = "feed") : ip_okB x G 5 pc_X6_feed 0 ([oLdI 3, oI (1), oI (8), oCal (ip_call tb d) 0 0 120 3 0 0], tIf (fun a => a = 0) 1 2) := ⟨_, okC (ok_ildn X rfl dX6_feed_0)
  (okC (ok_ic X (by decide) dX6_feed_1)
  (okC (ok_bi X (by decide) dX6_feed_2)
  (okC (ok_calS X (i := 57) (e := en_120) rfl mt_120 rfl rfl rfl tw_885 tw_886 dX6_feed_4)
  (okN)))), ok_ifne X (by decide) rfl dX6_feed_7⟩
set_option maxRecDepth 20000 in
theorem ob_X6_feed_1 {x : ip_Cx} {G : ip_Gl} {d : Nat} (X : ip_X x G tb 5 d 0 0 RX6 cX6_feed) (hr : x.2.2.2.2.2.2.2.2.1.sig.returnType = (some .int)) (hnm : x.2.2.2.2.2.2.2.2.1.name = "feed") : ip_okB x G 5 pc_X6_feed 10 ([oI (-1)], tRI .int 0 0) := ⟨_, okC (ok_ic X (by decide) dX6_feed_10)
  (okN), ok_ret X hr dX6_feed_11⟩
set_option maxRecDepth 20000 in
theorem ob_X6_feed_2 {x : ip_Cx} {G : ip_Gl} {d : Nat} (X : ip_X x G tb 5 d 0 0 RX6 cX6_feed) (hr : x.2.2.2.2.2.2.2.2.1.sig.returnType = (some .int)) (hnm : x.2.2.2.2.2.2.2.2.1.name = "feed") : ip_okB x G 5 pc_X6_feed 12 ([oLdA 0, oGet 6 6, oLdI 3, oBI (fun a b => a + b), oI (200)], tCm (fun a b => b < a) 3 4) := ⟨_, okC (ok_aldn X rfl dX6_feed_12)
  (okC (ok_get X (ci := 6) rfl (by decide) iw_X6 tw_801 dX6_feed_13)
  (okC (ok_ildn X rfl dX6_feed_16)
  (okC (ok_iadd X dX6_feed_17)
  (okC (ok_si X (by decide) dX6_feed_18)
  (okN))))), ok_cmle X (by decide) rfl dX6_feed_21⟩
set_option maxRecDepth 20000 in
theorem ob_X6_feed_3 {x : ip_Cx} {G : ip_Gl} {d : Nat} (X : ip_X x G tb 5 d 0 0 RX6 cX6_feed) (hr : x.2.2.2.2.2.2.2.2.1.sig.returnType = (some .int)) (hnm : x.2.2.2.2.2.2.2.2.1.name = "feed") : ip_okB x G 5 pc_X6_feed 24 ([oI (-2)], tRI .int 0 0) := ⟨_, okC (ok_bi X (by decide) dX6_feed_24)
  (okN), ok_ret X hr dX6_feed_26⟩
set_option maxRecDepth 20000 in
theorem ob_X6_feed_4 {x : ip_Cx} {G : ip_Gl} {d : Nat} (X : ip_X x G tb 5 d 0 0 RX6 cX6_feed) (hr : x.2.2.2.2.2.2.2.2.1.sig.returnType = (some .int)) (hnm : x.2.2.2.2.2.2.2.2.1.name = "feed") : ip_okB x G 5 pc_X6_feed 27 ([oI (0), oStI 4], tGo 5) := ⟨_, okC (ok_ic X (by decide) dX6_feed_27)
  (okC (ok_ist X (by decide) dX6_feed_28)
  (okN)), ok_fall rfl⟩
set_option maxRecDepth 20000 in
theorem ob_X6_feed_5 {x : ip_Cx} {G : ip_Gl} {d : Nat} (X : ip_X x G tb 5 d 0 0 RX6 cX6_feed) (hr : x.2.2.2.2.2.2.2.2.1.sig.returnType = (some .int)) (hnm : x.2.2.2.2.2.2.2.2.1.name = "feed") : ip_okB x G 5 pc_X6_feed 30 ([oLdI 4, oLdI 3], tCm (fun a b => a < b) 6 7) := ⟨_, okC (ok_ild X dX6_feed_30)
  (okC (ok_ildn X rfl dX6_feed_32)
  (okN)), ok_cmge X (by decide) rfl dX6_feed_33⟩
set_option maxRecDepth 20000 in
theorem ob_X6_feed_6 {x : ip_Cx} {G : ip_Gl} {d : Nat} (X : ip_X x G tb 5 d 0 0 RX6 cX6_feed) (hr : x.2.2.2.2.2.2.2.2.1.sig.returnType = (some .int)) (hnm : x.2.2.2.2.2.2.2.2.1.name = "feed") : ip_okB x G 5 pc_X6_feed 36 ([oLdA 0, oGet 6 5, oLdA 0, oGet 6 6, oLdL 1, oI (8), oLdI 4, oBI (fun a b => a * b), oSL (fun a b => a >>> (b.toInt64 &&& 63)), oL (255), oBL (fun a b => a &&& b), oLI, oAstI, oLdA 0, oDup, oGet 6 6, oI (1), oBI (fun a b => a + b), oPut 6 6 .int, oInc 4 (1)], tGo 5) := ⟨_, okC (ok_aldn X rfl dX6_feed_36)
  (okC (ok_get X (ci := 6) rfl (by decide) iw_X6 tw_800 dX6_feed_37)
  (okC (ok_aldn X rfl dX6_feed_40)
  (okC (ok_get X (ci := 6) rfl (by decide) iw_X6 tw_801 dX6_feed_41)
  (okC (ok_lldn X rfl dX6_feed_44)
  (okC (ok_bi X (by decide) dX6_feed_45)
  (okC (ok_ild X dX6_feed_47)
  (okC (ok_imul X dX6_feed_49)
  (okC (ok_lshr X dX6_feed_50)
  (okC (ok_ldc2 X tw_888 dX6_feed_51)
  (okC (ok_land X dX6_feed_54)
  (okC (ok_l2i X dX6_feed_55)
  (okC (ok_iast X dX6_feed_56)
  (okC (ok_aldn X rfl dX6_feed_57)
  (okC (ok_dup X dX6_feed_58)
  (okC (ok_get X (ci := 6) rfl (by decide) iw_X6 tw_801 dX6_feed_59)
  (okC (ok_ic X (by decide) dX6_feed_62)
  (okC (ok_iadd X dX6_feed_63)
  (okC (ok_put X (ci := 6) rfl (by decide) iw_X6 tyX6_ok nmX6 rfl (Or.inl rfl) tw_801 dX6_feed_64)
  (okC (ok_inc X (by decide) dX6_feed_67)
  (okN)))))))))))))))))))), ok_go X (by decide) dX6_feed_70⟩
set_option maxRecDepth 20000 in
theorem ob_X6_feed_7 {x : ip_Cx} {G : ip_Gl} {d : Nat} (X : ip_X x G tb 5 d 0 0 RX6 cX6_feed) (hr : x.2.2.2.2.2.2.2.2.1.sig.returnType = (some .int)) (hnm : x.2.2.2.2.2.2.2.2.1.name = "feed") : ip_okB x G 5 pc_X6_feed 73 ([oLdA 0, oGet 6 6], tRI .int 0 0) := ⟨_, okC (ok_aldn X rfl dX6_feed_73)
  (okC (ok_get X (ci := 6) rfl (by decide) iw_X6 tw_801 dX6_feed_74)
  (okN)), ok_ret X hr dX6_feed_77⟩
theorem om_128 : ip_MOk tb en_128 pc_X6_feed := fun x G d X hr hnm => ⟨ob_X6_feed_0 X hr hnm, ⟨ob_X6_feed_1 X hr hnm, ⟨ob_X6_feed_2 X hr hnm, ⟨ob_X6_feed_3 X hr hnm, ⟨ob_X6_feed_4 X hr hnm, ⟨ob_X6_feed_5 X hr hnm, ⟨ob_X6_feed_6 X hr hnm, ⟨ob_X6_feed_7 X hr hnm, trivial⟩⟩⟩⟩⟩⟩⟩⟩
theorem dX6_byteAt_0 : decode cX6_byteAt 0 = .ok (.iload_n 1, 1) := by decide +kernel
theorem dX6_byteAt_1 : decode cX6_byteAt 1 = .ok (.aload_n 0, 1) := by decide +kernel
theorem dX6_byteAt_2 : decode cX6_byteAt 2 = .ok (.getfield 61, 3) := by decide +kernel
theorem dX6_byteAt_5 : decode cX6_byteAt 5 = .ok (.if_icmp .ge 12, 3) := by decide +kernel
theorem dX6_byteAt_8 : decode cX6_byteAt 8 = .ok (.aload_n 0, 1) := by decide +kernel
theorem dX6_byteAt_9 : decode cX6_byteAt 9 = .ok (.getfield 22, 3) := by decide +kernel
theorem dX6_byteAt_12 : decode cX6_byteAt 12 = .ok (.iload_n 1, 1) := by decide +kernel
theorem dX6_byteAt_13 : decode cX6_byteAt 13 = .ok (.iaload, 1) := by decide +kernel
theorem dX6_byteAt_14 : decode cX6_byteAt 14 = .ok (.goto 4, 3) := by decide +kernel
theorem dX6_byteAt_17 : decode cX6_byteAt 17 = .ok (.iconst (-1), 1) := by decide +kernel
theorem dX6_byteAt_18 : decode cX6_byteAt 18 = .ok (.ireturn, 1) := by decide +kernel
def pc_X6_byteAt (i : Nat) : Nat := ([0, 8, 17, 18] : List Nat).getD i 0
set_option maxRecDepth 20000 in
theorem ob_X6_byteAt_0 {x : ip_Cx} {G : ip_Gl} {d : Nat} (X : ip_X x G tb 2 d 0 0 RX6 cX6_byteAt) (hr : x.2.2.2.2.2.2.2.2.1.sig.returnType = (some .int)) (hnm : x.2.2.2.2.2.2.2.2.1.name = "byteAt") : ip_okB x G 2 pc_X6_byteAt 0 ([oLdI 1, oLdA 0, oGet 6 6], tCm (fun a b => a < b) 1 2) := ⟨_, okC (ok_ildn X rfl dX6_byteAt_0)
  (okC (ok_aldn X rfl dX6_byteAt_1)
  (okC (ok_get X (ci := 6) rfl (by decide) iw_X6 tw_801 dX6_byteAt_2)
  (okN))), ok_cmge X (by decide) rfl dX6_byteAt_5⟩
set_option maxRecDepth 20000 in
theorem ob_X6_byteAt_1 {x : ip_Cx} {G : ip_Gl} {d : Nat} (X : ip_X x G tb 2 d 0 0 RX6 cX6_byteAt) (hr : x.2.2.2.2.2.2.2.2.1.sig.returnType = (some .int)) (hnm : x.2.2.2.2.2.2.2.2.1.name = "byteAt") : ip_okB x G 2 pc_X6_byteAt 8 ([oLdA 0, oGet 6 5, oLdI 1, oAldI], tGo 3) := ⟨_, okC (ok_aldn X rfl dX6_byteAt_8)
  (okC (ok_get X (ci := 6) rfl (by decide) iw_X6 tw_800 dX6_byteAt_9)
  (okC (ok_ildn X rfl dX6_byteAt_12)
  (okC (ok_iald X dX6_byteAt_13)
  (okN)))), ok_go X (by decide) dX6_byteAt_14⟩
set_option maxRecDepth 20000 in
theorem ob_X6_byteAt_2 {x : ip_Cx} {G : ip_Gl} {d : Nat} (X : ip_X x G tb 2 d 0 0 RX6 cX6_byteAt) (hr : x.2.2.2.2.2.2.2.2.1.sig.returnType = (some .int)) (hnm : x.2.2.2.2.2.2.2.2.1.name = "byteAt") : ip_okB x G 2 pc_X6_byteAt 17 ([oI (-1)], tGo 3) := ⟨_, okC (ok_ic X (by decide) dX6_byteAt_17)
  (okN), ok_fall rfl⟩
set_option maxRecDepth 20000 in
theorem ob_X6_byteAt_3 {x : ip_Cx} {G : ip_Gl} {d : Nat} (X : ip_X x G tb 2 d 0 0 RX6 cX6_byteAt) (hr : x.2.2.2.2.2.2.2.2.1.sig.returnType = (some .int)) (hnm : x.2.2.2.2.2.2.2.2.1.name = "byteAt") : ip_okB x G 2 pc_X6_byteAt 18 ([], tRI .int 0 0) := ⟨_, okN, ok_ret X hr dX6_byteAt_18⟩
theorem om_129 : ip_MOk tb en_129 pc_X6_byteAt := fun x G d X hr hnm => ⟨ob_X6_byteAt_0 X hr hnm, ⟨ob_X6_byteAt_1 X hr hnm, ⟨ob_X6_byteAt_2 X hr hnm, ⟨ob_X6_byteAt_3 X hr hnm, trivial⟩⟩⟩⟩
theorem dX6_isLetter_0 : decode cX6_isLetter 0 = .ok (.iload_n 0, 1) := by decide +kernel
theorem dX6_isLetter_1 : decode cX6_isLetter 1 = .ok (.bipush 97, 2) := by decide +kernel
theorem dX6_isLetter_3 : decode cX6_isLetter 3 = .ok (.bipush 122, 2) := by decide +kernel
theorem dX6_isLetter_5 : decode cX6_isLetter 5 = .ok (.invokestatic 57, 3) := by decide +kernel
theorem dX6_isLetter_8 : decode cX6_isLetter 8 = .ok (.ireturn, 1) := by decide +kernel
def pc_X6_isLetter (i : Nat) : Nat := ([0] : List Nat).getD i 0
set_option maxRecDepth 20000 in
theorem ob_X6_isLetter_0 {x : ip_Cx} {G : ip_Gl} {d : Nat} (X : ip_X x G tb 1 d 0 0 RX6 cX6_isLetter) (hr : x.2.2.2.2.2.2.2.2.1.sig.returnType = (some .boolean)) (hnm : x.2.2.2.2.2.2.2.2.1.name = "isLetter") : ip_okB x G 1 pc_X6_isLetter 0 ([oLdI 0, oI (97), oI (122), oCal (ip_call tb d) 0 0 120 3 0 0], tRI .boolean 0 0) := ⟨_, okC (ok_ildn X rfl dX6_isLetter_0)
  (okC (ok_bi X (by decide) dX6_isLetter_1)
  (okC (ok_bi X (by decide) dX6_isLetter_3)
  (okC (ok_calS X (i := 57) (e := en_120) rfl mt_120 rfl rfl rfl tw_885 tw_886 dX6_isLetter_5)
  (okN)))), ok_ret X hr dX6_isLetter_8⟩
theorem om_130 : ip_MOk tb en_130 pc_X6_isLetter := fun x G d X hr hnm => ⟨ob_X6_isLetter_0 X hr hnm, trivial⟩
theorem dX6_isDigit_0 : decode cX6_isDigit 0 = .ok (.iload_n 0, 1) := by decide +kernel
theorem dX6_isDigit_1 : decode cX6_isDigit 1 = .ok (.bipush 48, 2) := by decide +kernel
theorem dX6_isDigit_3 : decode cX6_isDigit 3 = .ok (.bipush 57, 2) := by decide +kernel
theorem dX6_isDigit_5 : decode cX6_isDigit 5 = .ok (.invokestatic 57, 3) := by decide +kernel
theorem dX6_isDigit_8 : decode cX6_isDigit 8 = .ok (.ireturn, 1) := by decide +kernel
def pc_X6_isDigit (i : Nat) : Nat := ([0] : List Nat).getD i 0
set_option maxRecDepth 20000 in
theorem ob_X6_isDigit_0 {x : ip_Cx} {G : ip_Gl} {d : Nat} (X : ip_X x G tb 1 d 0 0 RX6 cX6_isDigit) (hr : x.2.2.2.2.2.2.2.2.1.sig.returnType = (some .boolean)) (hnm : x.2.2.2.2.2.2.2.2.1.name = "isDigit") : ip_okB x G 1 pc_X6_isDigit 0 ([oLdI 0, oI (48), oI (57), oCal (ip_call tb d) 0 0 120 3 0 0], tRI .boolean 0 0) := ⟨_, okC (ok_ildn X rfl dX6_isDigit_0)
  (okC (ok_bi X (by decide) dX6_isDigit_1)
  (okC (ok_bi X (by decide) dX6_isDigit_3)
  (okC (ok_calS X (i := 57) (e := en_120) rfl mt_120 rfl rfl rfl tw_885 tw_886 dX6_isDigit_5)
  (okN)))), ok_ret X hr dX6_isDigit_8⟩
theorem om_131 : ip_MOk tb en_131 pc_X6_isDigit := fun x G d X hr hnm => ⟨ob_X6_isDigit_0 X hr hnm, trivial⟩
theorem dX6_advance_0 : decode cX6_advance 0 = .ok (.aload_n 0, 1) := by decide +kernel
theorem dX6_advance_1 : decode cX6_advance 1 = .ok (.aload_n 0, 1) := by decide +kernel
theorem dX6_advance_2 : decode cX6_advance 2 = .ok (.getfield 67, 3) := by decide +kernel
theorem dX6_advance_5 : decode cX6_advance 5 = .ok (.putfield 70, 3) := by decide +kernel
theorem dX6_advance_8 : decode cX6_advance 8 = .ok (.aload_n 0, 1) := by decide +kernel
theorem dX6_advance_9 : decode cX6_advance 9 = .ok (.aload_n 0, 1) := by decide +kernel
theorem dX6_advance_10 : decode cX6_advance 10 = .ok (.getfield 70, 3) := by decide +kernel
theorem dX6_advance_13 : decode cX6_advance 13 = .ok (.invokevirtual 72, 3) := by decide +kernel
theorem dX6_advance_16 : decode cX6_advance 16 = .ok (.bipush 32, 2) := by decide +kernel
theorem dX6_advance_18 : decode cX6_advance 18 = .ok (.if_icmp .ne 16, 3) := by decide +kernel
theorem dX6_advance_21 : decode cX6_advance 21 = .ok (.aload_n 0, 1) := by decide +kernel
theorem dX6_advance_22 : decode cX6_advance 22 = .ok (.dup, 1) := by decide +kernel
theorem dX6_advance_23 : decode cX6_advance 23 = .ok (.getfield 70, 3) := by decide +kernel
theorem dX6_advance_26 : decode cX6_advance 26 = .ok (.iconst 1, 1) := by decide +kernel
theorem dX6_advance_27 : decode cX6_advance 27 = .ok (.iadd, 1) := by decide +kernel
theorem dX6_advance_28 : decode cX6_advance 28 = .ok (.putfield 70, 3) := by decide +kernel
theorem dX6_advance_31 : decode cX6_advance 31 = .ok (.goto (-23), 3) := by decide +kernel
theorem dX6_advance_34 : decode cX6_advance 34 = .ok (.aload_n 0, 1) := by decide +kernel
theorem dX6_advance_35 : decode cX6_advance 35 = .ok (.aload_n 0, 1) := by decide +kernel
theorem dX6_advance_36 : decode cX6_advance 36 = .ok (.getfield 70, 3) := by decide +kernel
theorem dX6_advance_39 : decode cX6_advance 39 = .ok (.putfield 67, 3) := by decide +kernel
theorem dX6_advance_42 : decode cX6_advance 42 = .ok (.aload_n 0, 1) := by decide +kernel
theorem dX6_advance_43 : decode cX6_advance 43 = .ok (.aload_n 0, 1) := by decide +kernel
theorem dX6_advance_44 : decode cX6_advance 44 = .ok (.getfield 70, 3) := by decide +kernel
theorem dX6_advance_47 : decode cX6_advance 47 = .ok (.invokevirtual 72, 3) := by decide +kernel
theorem dX6_advance_50 : decode cX6_advance 50 = .ok (.istore_n 1, 1) := by decide +kernel
theorem dX6_advance_51 : decode cX6_advance 51 = .ok (.aload_n 0, 1) := by decide +kernel
theorem dX6_advance_52 : decode cX6_advance 52 = .ok (.iload_n 1, 1) := by decide +kernel
theorem dX6_advance_53 : decode cX6_advance 53 = .ok (.ifCond .ge 7, 3) := by decide +kernel
theorem dX6_advance_56 : decode cX6_advance 56 = .ok (.iconst 0, 1) := by decide +kernel
theorem dX6_advance_57 : decode cX6_advance 57 = .ok (.goto 26, 3) := by decide +kernel
theorem dX6_advance_60 : decode cX6_advance 60 = .ok (.iload_n 1, 1) := by decide +kernel
theorem dX6_advance_61 : decode cX6_advance 61 = .ok (.invokestatic 76, 3) := by decide +kernel
theorem dX6_advance_64 : decode cX6_advance 64 = .ok (.ifCond .eq 7, 3) := by decide +kernel
theorem dX6_advance_67 : decode cX6_advance 67 = .ok (.iconst 1, 1) := by decide +kernel
theorem dX6_advance_68 : decode cX6_advance 68 = .ok (.goto 15, 3) := by decide +kernel
theorem dX6_advance_71 : decode cX6_advance 71 = .ok (.iload_n 1, 1) := by decide +kernel
theorem dX6_advance_72 : decode cX6_advance 72 = .ok (.invokestatic 80, 3) := by decide +kernel
theorem dX6_advance_75 : decode cX6_advance 75 = .ok (.ifCond .eq 7, 3) := by decide +kernel
theorem dX6_advance_78 : decode cX6_advance 78 = .ok (.iconst 2, 1) := by decide +kernel
theorem dX6_advance_79 : decode cX6_advance 79 = .ok (.goto 4, 3) := by decide +kernel
theorem dX6_advance_82 : decode cX6_advance 82 = .ok (.iconst 3, 1) := by decide +kernel
theorem dX6_advance_83 : decode cX6_advance 83 = .ok (.putfield 83, 3) := by decide +kernel
theorem dX6_advance_86 : decode cX6_advance 86 = .ok (.aload_n 0, 1) := by decide +kernel
theorem dX6_advance_87 : decode cX6_advance 87 = .ok (.lconst 0, 1) := by decide +kernel
theorem dX6_advance_88 : decode cX6_advance 88 = .ok (.putfield 86, 3) := by decide +kernel
theorem dX6_advance_91 : decode cX6_advance 91 = .ok (.aload_n 0, 1) := by decide +kernel
theorem dX6_advance_92 : decode cX6_advance 92 = .ok (.aload_n 0, 1) := by decide +kernel
theorem dX6_advance_93 : decode cX6_advance 93 = .ok (.getfield 83, 3) := by decide +kernel
theorem dX6_advance_96 : decode cX6_advance 96 = .ok (.iconst 2, 1) := by decide +kernel
theorem dX6_advance_97 : decode cX6_advance 97 = .ok (.if_icmp .ne 7, 3) := by decide +kernel
theorem dX6_advance_100 : decode cX6_advance 100 = .ok (.iconst 0, 1) := by decide +kernel
theorem dX6_advance_101 : decode cX6_advance 101 = .ok (.goto 4, 3) := by decide +kernel
theorem dX6_advance_104 : decode cX6_advance 104 = .ok (.iload_n 1, 1) := by decide +kernel
theorem dX6_advance_105 : decode cX6_advance 105 = .ok (.putfield 90, 3) := by decide +kernel
theorem dX6_advance_108 : decode cX6_advance 108 = .ok (.aload_n 0, 1) := by decide +kernel
theorem dX6_advance_109 : decode cX6_advance 109 = .ok (.getfield 83, 3) := by decide +kernel
theorem dX6_advance_112 : decode cX6_advance 112 = .ok (.iconst 3, 1) := by decide +kernel
theorem dX6_advance_113 : decode cX6_advance 113 = .ok (.if_icmp .ne 13, 3) := by decide +kernel
theorem dX6_advance_116 : decode cX6_advance 116 = .ok (.aload_n 0, 1) := by decide +kernel
theorem dX6_advance_117 : decode cX6_advance 117 = .ok (.dup, 1) := by decide +kernel
theorem dX6_advance_118 : decode cX6_advance 118 = .ok (.getfield 67, 3) := by decide +kernel
theorem dX6_advance_121 : decode cX6_advance 121 = .ok (.iconst 1, 1) := by decide +kernel
theorem dX6_advance_122 : decode cX6_advance 122 = .ok (.iadd, 1) := by decide +kernel
theorem dX6_advance_123 : decode cX6_advance 123 = .ok (.putfield 67, 3) := by decide +kernel
theorem dX6_advance_126 : decode cX6_advance 126 = .ok (.aload_n 0, 1) := by decide +kernel
theorem dX6_advance_127 : decode cX6_advance 127 = .ok (.getfield 83, 3) := by decide +kernel
theorem dX6_advance_130 : decode cX6_advance 130 = .ok (.iconst 1, 1) := by decide +kernel
theorem dX6_advance_131 : decode cX6_advance 131 = .ok (.if_icmp .ne 76, 3) := by decide +kernel
theorem dX6_advance_134 : decode cX6_advance 134 = .ok (.aload_n 0, 1) := by decide +kernel
theorem dX6_advance_135 : decode cX6_advance 135 = .ok (.aload_n 0, 1) := by decide +kernel
theorem dX6_advance_136 : decode cX6_advance 136 = .ok (.getfield 67, 3) := by decide +kernel
theorem dX6_advance_139 : decode cX6_advance 139 = .ok (.invokevirtual 72, 3) := by decide +kernel
theorem dX6_advance_142 : decode cX6_advance 142 = .ok (.invokestatic 76, 3) := by decide +kernel
theorem dX6_advance_145 : decode cX6_advance 145 = .ok (.ifCond .eq 62, 3) := by decide +kernel
theorem dX6_advance_148 : decode cX6_advance 148 = .ok (.aload_n 0, 1) := by decide +kernel
theorem dX6_advance_149 : decode cX6_advance 149 = .ok (.aload_n 0, 1) := by decide +kernel
theorem dX6_advance_150 : decode cX6_advance 150 = .ok (.getfield 67, 3) := by decide +kernel
theorem dX6_advance_153 : decode cX6_advance 153 = .ok (.aload_n 0, 1) := by decide +kernel
theorem dX6_advance_154 : decode cX6_advance 154 = .ok (.getfield 70, 3) := by decide +kernel
theorem dX6_advance_157 : decode cX6_advance 157 = .ok (.isub, 1) := by decide +kernel
theorem dX6_advance_158 : decode cX6_advance 158 = .ok (.bipush 9, 2) := by decide +kernel
theorem dX6_advance_160 : decode cX6_advance 160 = .ok (.if_icmp .ge 28, 3) := by decide +kernel
theorem dX6_advance_163 : decode cX6_advance 163 = .ok (.ldc2_w 93, 3) := by decide +kernel
theorem dX6_advance_166 : decode cX6_advance 166 = .ok (.aload_n 0, 1) := by decide +kernel
theorem dX6_advance_167 : decode cX6_advance 167 = .ok (.getfield 86, 3) := by decide +kernel
theorem dX6_advance_170 : decode cX6_advance 170 = .ok (.lmul, 1) := by decide +kernel
theorem dX6_advance_171 : decode cX6_advance 171 = .ok (.aload_n 0, 1) := by decide +kernel
theorem dX6_advance_172 : decode cX6_advance 172 = .ok (.aload_n 0, 1) := by decide +kernel
theorem dX6_advance_173 : decode cX6_advance 173 = .ok (.getfield 67, 3) := by decide +kernel
theorem dX6_advance_176 : decode cX6_advance 176 = .ok (.invokevirtual 72, 3) := by decide +kernel
theorem dX6_advance_179 : decode cX6_advance 179 = .ok (.i2l, 1) := by decide +kernel
theorem dX6_advance_180 : decode cX6_advance 180 = .ok (.ladd, 1) := by decide +kernel
theorem dX6_advance_181 : decode cX6_advance 181 = .ok (.ldc2_w 95, 3) := by decide +kernel
theorem dX6_advance_184 : decode cX6_advance 184 = .ok (.lsub, 1) := by decide +kernel
theorem dX6_advance_185 : decode cX6_advance 185 = .ok (.goto 6, 3) := by decide +kernel
theorem dX6_advance_188 : decode cX6_advance 188 = .ok (.ldc2_w 97, 3) := by decide +kernel
theorem dX6_advance_191 : decode cX6_advance 191 = .ok (.putfield 86, 3) := by decide +kernel
theorem dX6_advance_194 : decode cX6_advance 194 = .ok (.aload_n 0, 1) := by decide +kernel
theorem dX6_advance_195 : decode cX6_advance 195 = .ok (.dup, 1) := by decide +kernel
theorem dX6_advance_196 : decode cX6_advance 196 = .ok (.getfield 67, 3) := by decide +kernel
theorem dX6_advance_199 : decode cX6_advance 199 = .ok (.iconst 1, 1) := by decide +kernel
theorem dX6_advance_200 : decode cX6_advance 200 = .ok (.iadd, 1) := by decide +kernel
theorem dX6_advance_201 : decode cX6_advance 201 = .ok (.putfield 67, 3) := by decide +kernel
theorem dX6_advance_204 : decode cX6_advance 204 = .ok (.goto (-78), 3) := by decide +kernel
theorem dX6_advance_207 : decode cX6_advance 207 = .ok (.aload_n 0, 1) := by decide +kernel
theorem dX6_advance_208 : decode cX6_advance 208 = .ok (.getfield 83, 3) := by decide +kernel
theorem dX6_advance_211 : decode cX6_advance 211 = .ok (.iconst 2, 1) := by decide +kernel
theorem dX6_advance_212 : decode cX6_advance 212 = .ok (.if_icmp .ne 70, 3) := by decide +kernel
theorem dX6_advance_215 : decode cX6_advance 215 = .ok (.aload_n 0, 1) := by decide +kernel
theorem dX6_advance_216 : decode cX6_advance 216 = .ok (.aload_n 0, 1) := by decide +kernel
theorem dX6_advance_217 : decode cX6_advance 217 = .ok (.getfield 67, 3) := by decide +kernel
theorem dX6_advance_220 : decode cX6_advance 220 = .ok (.invokevirtual 72, 3) := by decide +kernel
theorem dX6_advance_223 : decode cX6_advance 223 = .ok (.invokestatic 80, 3) := by decide +kernel
theorem dX6_advance_226 : decode cX6_advance 226 = .ok (.ifCond .eq 56, 3) := by decide +kernel
theorem dX6_advance_229 : decode cX6_advance 229 = .ok (.aload_n 0, 1) := by decide +kernel
theorem dX6_advance_230 : decode cX6_advance 230 = .ok (.aload_n 0, 1) := by decide +kernel
theorem dX6_advance_231 : decode cX6_advance 231 = .ok (.getfield 67, 3) := by decide +kernel
theorem dX6_advance_234 : decode cX6_advance 234 = .ok (.aload_n 0, 1) := by decide +kernel
theorem dX6_advance_235 : decode cX6_advance 235 = .ok (.getfield 70, 3) := by decide +kernel
theorem dX6_advance_238 : decode cX6_advance 238 = .ok (.isub, 1) := by decide +kernel
theorem dX6_advance_239 : decode cX6_advance 239 = .ok (.iconst 3, 1) := by decide +kernel
theorem dX6_advance_240 : decode cX6_advance 240 = .ok (.if_icmp .ge 25, 3) := by decide +kernel
theorem dX6_advance_243 : decode cX6_advance 243 = .ok (.bipush 10, 2) := by decide +kernel
theorem dX6_advance_245 : decode cX6_advance 245 = .ok (.aload_n 0, 1) := by decide +kernel
theorem dX6_advance_246 : decode cX6_advance 246 = .ok (.getfield 90, 3) := by decide +kernel
theorem dX6_advance_249 : decode cX6_advance 249 = .ok (.imul, 1) := by decide +kernel
theorem dX6_advance_250 : decode cX6_advance 250 = .ok (.aload_n 0, 1) := by decide +kernel
theorem dX6_advance_251 : decode cX6_advance 251 = .ok (.aload_n 0, 1) := by decide +kernel
theorem dX6_advance_252 : decode cX6_advance 252 = .ok (.getfield 67, 3) := by decide +kernel
theorem dX6_advance_255 : decode cX6_advance 255 = .ok (.invokevirtual 72, 3) := by decide +kernel
theorem dX6_advance_258 : decode cX6_advance 258 = .ok (.iadd, 1) := by decide +kernel
theorem dX6_advance_259 : decode cX6_advance 259 = .ok (.bipush 48, 2) := by decide +kernel
theorem dX6_advance_261 : decode cX6_advance 261 = .ok (.isub, 1) := by decide +kernel
theorem dX6_advance_262 : decode cX6_advance 262 = .ok (.goto 4, 3) := by decide +kernel
theorem dX6_advance_265 : decode cX6_advance 265 = .ok (.iconst (-1), 1) := by decide +kernel
theorem dX6_advance_266 : decode cX6_advance 266 = .ok (.putfield 90, 3) := by decide +kernel
theorem dX6_advance_269 : decode cX6_advance 269 = .ok (.aload_n 0, 1) := by decide +kernel
theorem dX6_advance_270 : decode cX6_advance 270 = .ok (.dup, 1) := by decide +kernel
theorem dX6_advance_271 : decode cX6_advance 271 = .ok (.getfield 67, 3) := by decide +kernel
theorem dX6_advance_274 : decode cX6_advance 274 = .ok (.iconst 1, 1) := by decide +kernel
theorem dX6_advance_275 : decode cX6_advance 275 = .ok (.iadd, 1) := by decide +kernel
theorem dX6_advance_276 : decode cX6_advance 276 = .ok (.putfield 67, 3) := by decide +kernel
theorem dX6_advance_279 : decode cX6_advance 279 = .ok (.goto (-72), 3) := by decide +kernel
theorem dX6_advance_282 : decode cX6_advance 282 = .ok (.return_, 1) := by decide +kernel
def pc_X6_advance (i : Nat) : Nat := ([0, 8, 21, 34, 56, 60, 67, 71, 78, 82, 83, 100, 104, 105, 116, 126, 134, 148, 163, 188, 191, 207, 215, 229, 243, 265, 266, 282] : List Nat).getD i 0
set_option maxRecDepth 20000 in
theorem ob_X6_advance_0 {x : ip_Cx} {G : ip_Gl} {d : Nat} (X : ip_X x G tb 2 d 0 0 RX6 cX6_advance) (hr : x.2.2.2.2.2.2.2.2.1.sig.returnType = none) (hnm : x.2.2.2.2.2.2.2.2.1.name = "advance") : ip_okB x G 2 pc_X6_advance 0 ([oLdA 0, oLdA 0, oGet 6 9, oPut 6 8 .int], tGo 1) := ⟨_, okC (ok_aldn X rfl dX6_advance_0)
  (okC (ok_aldn X rfl dX6_advance_1)
  (okC (ok_get X (ci := 6) rfl (by decide) iw_X6 tw_804 dX6_advance_2)
  (okC (ok_put X (ci := 6) rfl (by decide) iw_X6 tyX6_ok nmX6 rfl (Or.inl rfl) tw_803 dX6_advance_5)
  (okN)))), ok_fall rfl⟩
set_option maxRecDepth 20000 in
theorem ob_X6_advance_1 {x : ip_Cx} {G : ip_Gl} {d : Nat} (X : ip_X x G tb 2 d 0 0 RX6 cX6_advance) (hr : x.2.2.2.2.2.2.2.2.1.sig.returnType = none) (hnm : x.2.2.2.2.2.2.2.2.1.name = "advance") : ip_okB x G 2 pc_X6_advance 8 ([oLdA 0, oLdA 0, oGet 6 8, oCaV (ip_call tb d) 0 0 6 129 2 0 0, oI (32)], tCm (fun a b => a = b) 2 3) := ⟨_, okC (ok_aldn X rfl dX6_advance_8)
  (okC (ok_aldn X rfl dX6_advance_9)
  (okC (ok_get X (ci := 6) rfl (by decide) iw_X6 tw_803 dX6_advance_10)
  (okC (ok_calV X (i := 72) (e := en_129) rfl mt_129 rfl rfl rfl tw_897 tw_899 (Or.inl ⟨_, _, rfl⟩) tp_10 dX6_advance_13)
  (okC (ok_bi X (by decide) dX6_advance_16)
  (okN))))), ok_cmne X (by decide) rfl dX6_advance_18⟩
set_option maxRecDepth 20000 in
theorem ob_X6_advance_2 {x : ip_Cx} {G : ip_Gl} {d : Nat} (X : ip_X x G tb 2 d 0 0 RX6 cX6_advance) (hr : x.2.2.2.2.2.2.2.2.1.sig.returnType = none) (hnm : x.2.2.2.2.2.2.2.2.1.name = "advance") : ip_okB x G 2 pc_X6_advance 21 ([oLdA 0, oDup, oGet 6 8, oI (1), oBI (fun a b => a + b), oPut 6 8 .int], tGo 1) := ⟨_, okC (ok_aldn X rfl dX6_advance_21)
  (okC (ok_dup X dX6_advance_22)
  (okC (ok_get X (ci := 6) rfl (by decide) iw_X6 tw_803 dX6_advance_23)
  (okC (ok_ic X (by decide) dX6_advance_26)
  (okC (ok_iadd X dX6_advance_27)
  (okC (ok_put X (ci := 6) rfl (by decide) iw_X6 tyX6_ok nmX6 rfl (Or.inl rfl) tw_803 dX6_advance_28)
  (okN)))))), ok_go X (by decide) dX6_advance_31⟩
set_option maxRecDepth 20000 in
theorem ob_X6_advance_3 {x : ip_Cx} {G : ip_Gl} {d : Nat} (X : ip_X x G tb 2 d 0 0 RX6 cX6_advance) (hr : x.2.2.2.2.2.2.2.2.1.sig.returnType = none) (hnm : x.2.2.2.2.2.2.2.2.1.name = "advance") : ip_okB x G 2 pc_X6_advance 34 ([oLdA 0, oLdA 0, oGet 6 8, oPut 6 9 .int, oLdA 0, oLdA 0, oGet 6 8, oCaV (ip_call tb d) 0 0 6 129 2 0 0, oStI 1, oLdA 0, oLdI 1], tIf (fun a => a < 0) 4 5) := ⟨_, okC (ok_aldn X rfl dX6_advance_34)
  (okC (ok_aldn X rfl dX6_advance_35)
  (okC (ok_get X (ci := 6) rfl (by decide) iw_X6 tw_803 dX6_advance_36)
  (okC (ok_put X (ci := 6) rfl (by decide) iw_X6 tyX6_ok nmX6 rfl (Or.inl rfl) tw_804 dX6_advance_39)
  (okC (ok_aldn X rfl dX6_advance_42)
  (okC (ok_aldn X rfl dX6_advance_43)
  (okC (ok_get X (ci := 6) rfl (by decide) iw_X6 tw_803 dX6_advance_44)
  (okC (ok_calV X (i := 72) (e := en_129) rfl mt_129 rfl rfl rfl tw_897 tw_899 (Or.inl ⟨_, _, rfl⟩) tp_10 dX6_advance_47)
  (okC (ok_istn X rfl (by decide) dX6_advance_50)
  (okC (ok_aldn X rfl dX6_advance_51)
  (okC (ok_ildn X rfl dX6_advance_52)
  (okN))))))))))), ok_ifge X (by decide) rfl dX6_advance_53⟩
set_option maxRecDepth 20000 in
theorem ob_X6_advance_4 {x : ip_Cx} {G : ip_Gl} {d : Nat} (X : ip_X x G tb 2 d 0 0 RX6 cX6_advance) (hr : x.2.2.2.2.2.2.2.2.1.sig.returnType = none) (hnm : x.2.2.2.2.2.2.2.2.1.name = "advance") : ip_okB x G 2 pc_X6_advance 56 ([oI (0)], tGo 10) := ⟨_, okC (ok_ic X (by decide) dX6_advance_56)
  (okN), ok_go X (by decide) dX6_advance_57⟩
set_option maxRecDepth 20000 in
theorem ob_X6_advance_5 {x : ip_Cx} {G : ip_Gl} {d : Nat} (X : ip_X x G tb 2 d 0 0 RX6 cX6_advance) (hr : x.2.2.2.2.2.2.2.2.1.sig.returnType = none) (hnm : x.2.2.2.2.2.2.2.2.1.name = "advance") : ip_okB x G 2 pc_X6_advance 60 ([oLdI 1, oCal (ip_call tb d) 0 0 130 1 0 0], tIf (fun a => a = 0) 7 6) := ⟨_, okC (ok_ildn X rfl dX6_advance_60)
  (okC (ok_calS X (i := 76) (e := en_130) rfl mt_130 rfl rfl rfl tw_901 tw_902 dX6_advance_61)
  (okN)), ok_ifeq X (by decide) rfl dX6_advance_64⟩
set_option maxRecDepth 20000 in
theorem ob_X6_advance_6 {x : ip_Cx} {G : ip_Gl} {d : Nat} (X : ip_X x G tb 2 d 0 0 RX6 cX6_advance) (hr : x.2.2.2.2.2.2.2.2.1.sig.returnType = none) (hnm : x.2.2.2.2.2.2.2.2.1.name = "advance") : ip_okB x G 2 pc_X6_advance 67 ([oI (1)], tGo 10) := ⟨_, okC (ok_ic X (by decide) dX6_advance_67)
  (okN), ok_go X (by decide) dX6_advance_68⟩
set_option maxRecDepth 20000 in
theorem ob_X6_advance_7 {x : ip_Cx} {G : ip_Gl} {d : Nat} (X : ip_X x G tb 2 d 0 0 RX6 cX6_advance) (hr : x.2.2.2.2.2.2.2.2.1.sig.returnType = none) (hnm : x.2.2.2.2.2.2.2.2.1.name = "advance") : ip_okB x G 2 pc_X6_advance 71 ([oLdI 1, oCal (ip_call tb d) 0 0 131 1 0 0], tIf (fun a => a = 0) 9 8) := ⟨_, okC (ok_ildn X rfl dX6_advance_71)
  (okC (ok_calS X (i := 80) (e := en_131) rfl mt_131 rfl rfl rfl tw_904 tw_905 dX6_advance_72)
  (okN)), ok_ifeq X (by decide) rfl dX6_advance_75⟩
set_option maxRecDepth 20000 in
theorem ob_X6_advance_8 {x : ip_Cx} {G : ip_Gl} {d : Nat} (X : ip_X x G tb 2 d 0 0 RX6 cX6_advance) (hr : x.2.2.2.2.2.2.2.2.1.sig.returnType = none) (hnm : x.2.2.2.2.2.2.2.2.1.name = "advance") : ip_okB x G 2 pc_X6_advance 78 ([oI (2)], tGo 10) := ⟨_, okC (ok_ic X (by decide) dX6_advance_78)
  (okN), ok_go X (by decide) dX6_advance_79⟩
set_option maxRecDepth 20000 in
theorem ob_X6_advance_9 {x : ip_Cx} {G : ip_Gl} {d : Nat} (X : ip_X x G tb 2 d 0 0 RX6 cX6_advance) (hr : x.2.2.2.2.2.2.2.2.1.sig.returnType = none) (hnm : x.2.2.2.2.2.2.2.2.1.name = "advance") : ip_okB x G 2 pc_X6_advance 82 ([oI (3)], tGo 10) := ⟨_, okC (ok_ic X (by decide) dX6_advance_82)
  (okN), ok_fall rfl⟩
set_option maxRecDepth 20000 in
theorem ob_X6_advance_10 {x : ip_Cx} {G : ip_Gl} {d : Nat} (X : ip_X x G tb 2 d 0 0 RX6 cX6_advance) (hr : x.2.2.2.2.2.2.2.2.1.sig.returnType = none) (hnm : x.2.2.2.2.2.2.2.2.1.name = "advance") : ip_okB x G 2 pc_X6_advance 83 ([oPut 6 7 .int, oLdA 0, oL 0, oPut 6 10 .long, oLdA 0, oLdA 0, oGet 6 7, oI (2)], tCm (fun a b => a = b) 11 12) := ⟨_, okC (ok_put X (ci := 6) rfl (by decide) iw_X6 tyX6_ok nmX6 rfl (Or.inl rfl) tw_802 dX6_advance_83)
  (okC (ok_aldn X rfl dX6_advance_86)
  (okC (ok_lc X (by decide) dX6_advance_87)
  (okC (ok_put X (ci := 6) rfl (by decide) iw_X6 tyX6_ok nmX6 rfl (Or.inl rfl) tw_805 dX6_advance_88)
  (okC (ok_aldn X rfl dX6_advance_91)
  (okC (ok_aldn X rfl dX6_advance_92)
  (okC (ok_get X (ci := 6) rfl (by decide) iw_X6 tw_802 dX6_advance_93)
  (okC (ok_ic X (by decide) dX6_advance_96)
  (okN)))))))), ok_cmne X (by decide) rfl dX6_advance_97⟩
set_option maxRecDepth 20000 in
theorem ob_X6_advance_11 {x : ip_Cx} {G : ip_Gl} {d : Nat} (X : ip_X x G tb 2 d 0 0 RX6 cX6_advance) (hr : x.2.2.2.2.2.2.2.2.1.sig.returnType = none) (hnm : x.2.2.2.2.2.2.2.2.1.name = "advance") : ip_okB x G 2 pc_X6_advance 100 ([oI (0)], tGo 13) := ⟨_, okC (ok_ic X (by decide) dX6_advance_100)
  (okN), ok_go X (by decide) dX6_advance_101⟩
set_option maxRecDepth 20000 in
theorem ob_X6_advance_12 {x : ip_Cx} {G : ip_Gl} {d : Nat} (X : ip_X x G tb 2 d 0 0 RX6 cX6_advance) (hr : x.2.2.2.2.2.2.2.2.1.sig.returnType = none) (hnm : x.2.2.2.2.2.2.2.2.1.name = "advance") : ip_okB x G 2 pc_X6_advance 104 ([oLdI 1], tGo 13) := ⟨_, okC (ok_ildn X rfl dX6_advance_104)
  (okN), ok_fall rfl⟩
set_option maxRecDepth 20000 in
theorem ob_X6_advance_13 {x : ip_Cx} {G : ip_Gl} {d : Nat} (X : ip_X x G tb 2 d 0 0 RX6 cX6_advance) (hr : x.2.2.2.2.2.2.2.2.1.sig.returnType = none) (hnm : x.2.2.2.2.2.2.2.2.1.name = "advance") : ip_okB x G 2 pc_X6_advance 105 ([oPut 6 11 .int, oLdA 0, oGet 6 7, oI (3)], tCm (fun a b => a = b) 14 15) := ⟨_, okC (ok_put X (ci := 6) rfl (by decide) iw_X6 tyX6_ok nmX6 rfl (Or.inl rfl) tw_806 dX6_advance_105)
  (okC (ok_aldn X rfl dX6_advance_108)
  (okC (ok_get X (ci := 6) rfl (by decide) iw_X6 tw_802 dX6_advance_109)
  (okC (ok_ic X (by decide) dX6_advance_112)
  (okN)))), ok_cmne X (by decide) rfl dX6_advance_113⟩
set_option maxRecDepth 20000 in
theorem ob_X6_advance_14 {x : ip_Cx} {G : ip_Gl} {d : Nat} (X : ip_X x G tb 2 d 0 0 RX6 cX6_advance) (hr : x.2.2.2.2.2.2.2.2.1.sig.returnType = none) (hnm : x.2.2.2.2.2.2.2.2.1.name = "advance") : ip_okB x G 2 pc_X6_advance 116 ([oLdA 0, oDup, oGet 6 9, oI (1), oBI (fun a b => a + b), oPut 6 9 .int], tGo 15) := ⟨_, okC (ok_aldn X rfl dX6_advance_116)
  (okC (ok_dup X dX6_advance_117)
  (okC (ok_get X (ci := 6) rfl (by decide) iw_X6 tw_804 dX6_advance_118)
  (okC (ok_ic X (by decide) dX6_advance_121)
  (okC (ok_iadd X dX6_advance_122)
  (okC (ok_put X (ci := 6) rfl (by decide) iw_X6 tyX6_ok nmX6 rfl (Or.inl rfl) tw_804 dX6_advance_123)
  (okN)))))), ok_fall rfl⟩
set_option maxRecDepth 20000 in
theorem ob_X6_advance_15 {x : ip_Cx} {G : ip_Gl} {d : Nat} (X : ip_X x G tb 2 d 0 0 RX6 cX6_advance) (hr : x.2.2.2.2.2.2.2.2.1.sig.returnType = none) (hnm : x.2.2.2.2.2.2.2.2.1.name = "advance") : ip_okB x G 2 pc_X6_advance 126 ([oLdA 0, oGet 6 7, oI (1)], tCm (fun a b => a = b) 16 21) := ⟨_, okC (ok_aldn X rfl dX6_advance_126)
  (okC (ok_get X (ci := 6) rfl (by decide) iw_X6 tw_802 dX6_advance_127)
  (okC (ok_ic X (by decide) dX6_advance_130)
  (okN))), ok_cmne X (by decide) rfl dX6_advance_131⟩
set_option maxRecDepth 20000 in
theorem ob_X6_advance_16 {x : ip_Cx} {G : ip_Gl} {d : Nat} (X : ip_X x G tb 2 d 0 0 RX6 cX6_advance) (hr : x.2.2.2.2.2.2.2.2.1.sig.returnType = none) (hnm : x.2.2.2.2.2.2.2.2.1.name = "advance") : ip_okB x G 2 pc_X6_advance 134 ([oLdA 0, oLdA 0, oGet 6 9, oCaV (ip_call tb d) 0 0 6 129 2 0 0, oCal (ip_call tb d) 0 0 130 1 0 0], tIf (fun a => a = 0) 21 17) := ⟨_, okC (ok_aldn X rfl dX6_advance_134)
  (okC (ok_aldn X rfl dX6_advance_135)
  (okC (ok_get X (ci := 6) rfl (by decide) iw_X6 tw_804 dX6_advance_136)
  (okC (ok_calV X (i := 72) (e := en_129) rfl mt_129 rfl rfl rfl tw_897 tw_899 (Or.inl ⟨_, _, rfl⟩) tp_10 dX6_advance_139)
  (okC (ok_calS X (i := 76) (e := en_130) rfl mt_130 rfl rfl rfl tw_901 tw_902 dX6_advance_142)
  (okN))))), ok_ifeq X (by decide) rfl dX6_advance_145⟩
set_option maxRecDepth 20000 in
theorem ob_X6_advance_17 {x : ip_Cx} {G : ip_Gl} {d : Nat} (X : ip_X x G tb 2 d 0 0 RX6 cX6_advance) (hr : x.2.2.2.2.2.2.2.2.1.sig.returnType = none) (hnm : x.2.2.2.2.2.2.2.2.1.name = "advance") : ip_okB x G 2 pc_X6_advance 148 ([oLdA 0, oLdA 0, oGet 6 9, oLdA 0, oGet 6 8, oBI (fun a b => a - b), oI (9)], tCm (fun a b => a < b) 18 19) := ⟨_, okC (ok_aldn X rfl dX6_advance_148)
  (okC (ok_aldn X rfl dX6_advance_149)
  (okC (ok_get X (ci := 6) rfl (by decide) iw_X6 tw_804 dX6_advance_150)
  (okC (ok_aldn X rfl dX6_advance_153)
  (okC (ok_get X (ci := 6) rfl (by decide) iw_X6 tw_803 dX6_advance_154)
  (okC (ok_isub X dX6_advance_157)
  (okC (ok_bi X (by decide) dX6_advance_158)
  (okN))))))), ok_cmge X (by decide) rfl dX6_advance_160⟩
set_option maxRecDepth 20000 in
theorem ob_X6_advance_18 {x : ip_Cx} {G : ip_Gl} {d : Nat} (X : ip_X x G tb 2 d 0 0 RX6 cX6_advance) (hr : x.2.2.2.2.2.2.2.2.1.sig.returnType = none) (hnm : x.2.2.2.2.2.2.2.2.1.name = "advance") : ip_okB x G 2 pc_X6_advance 163 ([oL (27), oLdA 0, oGet 6 10, oBL (fun a b => a * b), oLdA 0, oLdA 0, oGet 6 9, oCaV (ip_call tb d) 0 0 6 129 2 0 0, oIL, oBL (fun a b => a + b), oL (96), oBL (fun a b => a - b)], tGo 20) := ⟨_, okC (ok_ldc2 X tw_907 dX6_advance_163)
  (okC (ok_aldn X rfl dX6_advance_166)
  (okC (ok_get X (ci := 6) rfl (by decide) iw_X6 tw_805 dX6_advance_167)
  (okC (ok_lmul X dX6_advance_170)
  (okC (ok_aldn X rfl dX6_advance_171)
  (okC (ok_aldn X rfl dX6_advance_172)
  (okC (ok_get X (ci := 6) rfl (by decide) iw_X6 tw_804 dX6_advance_173)
  (okC (ok_calV X (i := 72) (e := en_129) rfl mt_129 rfl rfl rfl tw_897 tw_899 (Or.inl ⟨_, _, rfl⟩) tp_10 dX6_advance_176)
  (okC (ok_i2l X dX6_advance_179)
  (okC (ok_ladd X dX6_advance_180)
  (okC (ok_ldc2 X tw_908 dX6_advance_181)
  (okC (ok_lsub X dX6_advance_184)
  (okN)))))))))))), ok_go X (by decide) dX6_advance_185⟩
set_option maxRecDepth 20000 in
theorem ob_X6_advance_19 {x : ip_Cx} {G : ip_Gl} {d : Nat} (X : ip_X x G tb 2 d 0 0 RX6 cX6_advance) (hr : x.2.2.2.2.2.2.2.2.1.sig.returnType = none) (hnm : x.2.2.2.2.2.2.2.2.1.name = "advance") : ip_okB x G 2 pc_X6_advance 188 ([oL (-1)], tGo 20) := ⟨_, okC (ok_ldc2 X tw_909 dX6_advance_188)
  (okN), ok_fall rfl⟩
set_option maxRecDepth 20000 in
theorem ob_X6_advance_20 {x : ip_Cx} {G : ip_Gl} {d : Nat} (X : ip_X x G tb 2 d 0 0 RX6 cX6_advance) (hr : x.2.2.2.2.2.2.2.2.1.sig.returnType = none) (hnm : x.2.2.2.2.2.2.2.2.1.name = "advance") : ip_okB x G 2 pc_X6_advance 191 ([oPut 6 10 .long, oLdA 0, oDup, oGet 6 9, oI (1), oBI (fun a b => a + b), oPut 6 9 .int], tGo 15) := ⟨_, okC (ok_put X (ci := 6) rfl (by decide) iw_X6 tyX6_ok nmX6 rfl (Or.inl rfl) tw_805 dX6_advance_191)
  (okC (ok_aldn X rfl dX6_advance_194)
  (okC (ok_dup X dX6_advance_195)
  (okC (ok_get X (ci := 6) rfl (by decide) iw_X6 tw_804 dX6_advance_196)
  (okC (ok_ic X (by decide) dX6_advance_199)
  (okC (ok_iadd X dX6_advance_200)
  (okC (ok_put X (ci := 6) rfl (by decide) iw_X6 tyX6_ok nmX6 rfl (Or.inl rfl) tw_804 dX6_advance_201)
  (okN))))))), ok_go X (by decide) dX6_advance_204⟩
set_option maxRecDepth 20000 in
theorem ob_X6_advance_21 {x : ip_Cx} {G : ip_Gl} {d : Nat} (X : ip_X x G tb 2 d 0 0 RX6 cX6_advance) (hr : x.2.2.2.2.2.2.2.2.1.sig.returnType = none) (hnm : x.2.2.2.2.2.2.2.2.1.name = "advance") : ip_okB x G 2 pc_X6_advance 207 ([oLdA 0, oGet 6 7, oI (2)], tCm (fun a b => a = b) 22 27) := ⟨_, okC (ok_aldn X rfl dX6_advance_207)
  (okC (ok_get X (ci := 6) rfl (by decide) iw_X6 tw_802 dX6_advance_208)
  (okC (ok_ic X (by decide) dX6_advance_211)
  (okN))), ok_cmne X (by decide) rfl dX6_advance_212⟩
set_option maxRecDepth 20000 in
theorem ob_X6_advance_22 {x : ip_Cx} {G : ip_Gl} {d : Nat} (X : ip_X x G tb 2 d 0 0 RX6 cX6_advance) (hr : x.2.2.2.2.2.2.2.2.1.sig.returnType = none) (hnm : x.2.2.2.2.2.2.2.2.1.name = "advance") : ip_okB x G 2 pc_X6_advance 215 ([oLdA 0, oLdA 0, oGet 6 9, oCaV (ip_call tb d) 0 0 6 129 2 0 0, oCal (ip_call tb d) 0 0 131 1 0 0], tIf (fun a => a = 0) 27 23) := ⟨_, okC (ok_aldn X rfl dX6_advance_215)
  (okC (ok_aldn X rfl dX6_advance_216)
  (okC (ok_get X (ci := 6) rfl (by decide) iw_X6 tw_804 dX6_advance_217)
  (okC (ok_calV X (i := 72) (e := en_129) rfl mt_129 rfl rfl rfl tw_897 tw_899 (Or.inl ⟨_, _, rfl⟩) tp_10 dX6_advance_220)
  (okC (ok_calS X (i := 80) (e := en_131) rfl mt_131 rfl rfl rfl tw_904 tw_905 dX6_advance_223)
  (okN))))), ok_ifeq X (by decide) rfl dX6_advance_226⟩
set_option maxRecDepth 20000 in
theorem ob_X6_advance_23 {x : ip_Cx} {G : ip_Gl} {d : Nat} (X : ip_X x G tb 2 d 0 0 RX6 cX6_advance) (hr : x.2.2.2.2.2.2.2.2.1.sig.returnType = none) (hnm : x.2.2.2.2.2.2.2.2.1.name = "advance") : ip_okB x G 2 pc_X6_advance 229 ([oLdA 0, oLdA 0, oGet 6 9, oLdA 0, oGet 6 8, oBI (fun a b => a - b), oI (3)], tCm (fun a b => a < b) 24 25) := ⟨_, okC (ok_aldn X rfl dX6_advance_229)
  (okC (ok_aldn X rfl dX6_advance_230)
  (okC (ok_get X (ci := 6) rfl (by decide) iw_X6 tw_804 dX6_advance_231)
  (okC (ok_aldn X rfl dX6_advance_234)
  (okC (ok_get X (ci := 6) rfl (by decide) iw_X6 tw_803 dX6_advance_235)
  (okC (ok_isub X dX6_advance_238)
  (okC (ok_ic X (by decide) dX6_advance_239)
  (okN))))))), ok_cmge X (by decide) rfl dX6_advance_240⟩
set_option maxRecDepth 20000 in
theorem ob_X6_advance_24 {x : ip_Cx} {G : ip_Gl} {d : Nat} (X : ip_X x G tb 2 d 0 0 RX6 cX6_advance) (hr : x.2.2.2.2.2.2.2.2.1.sig.returnType = none) (hnm : x.2.2.2.2.2.2.2.2.1.name = "advance") : ip_okB x G 2 pc_X6_advance 243 ([oI (10), oLdA 0, oGet 6 11, oBI (fun a b => a * b), oLdA 0, oLdA 0, oGet 6 9, oCaV (ip_call tb d) 0 0 6 129 2 0 0, oBI (fun a b => a + b), oI (48), oBI (fun a b => a - b)], tGo 26) := ⟨_, okC (ok_bi X (by decide) dX6_advance_243)
  (okC (ok_aldn X rfl dX6_advance_245)
  (okC (ok_get X (ci := 6) rfl (by decide) iw_X6 tw_806 dX6_advance_246)
  (okC (ok_imul X dX6_advance_249)
  (okC (ok_aldn X rfl dX6_advance_250)
  (okC (ok_aldn X rfl dX6_advance_251)
  (okC (ok_get X (ci := 6) rfl (by decide) iw_X6 tw_804 dX6_advance_252)
  (okC (ok_calV X (i := 72) (e := en_129) rfl mt_129 rfl rfl rfl tw_897 tw_899 (Or.inl ⟨_, _, rfl⟩) tp_10 dX6_advance_255)
  (okC (ok_iadd X dX6_advance_258)
  (okC (ok_bi X (by decide) dX6_advance_259)
  (okC (ok_isub X dX6_advance_261)
  (okN))))))))))), ok_go X (by decide) dX6_advance_262⟩
set_option maxRecDepth 20000 in
theorem ob_X6_advance_25 {x : ip_Cx} {G : ip_Gl} {d : Nat} (X : ip_X x G tb 2 d 0 0 RX6 cX6_advance) (hr : x.2.2.2.2.2.2.2.2.1.sig.returnType = none) (hnm : x.2.2.2.2.2.2.2.2.1.name = "advance") : ip_okB x G 2 pc_X6_advance 265 ([oI (-1)], tGo 26) := ⟨_, okC (ok_ic X (by decide) dX6_advance_265)
  (okN), ok_fall rfl⟩
set_option maxRecDepth 20000 in
theorem ob_X6_advance_26 {x : ip_Cx} {G : ip_Gl} {d : Nat} (X : ip_X x G tb 2 d 0 0 RX6 cX6_advance) (hr : x.2.2.2.2.2.2.2.2.1.sig.returnType = none) (hnm : x.2.2.2.2.2.2.2.2.1.name = "advance") : ip_okB x G 2 pc_X6_advance 266 ([oPut 6 11 .int, oLdA 0, oDup, oGet 6 9, oI (1), oBI (fun a b => a + b), oPut 6 9 .int], tGo 21) := ⟨_, okC (ok_put X (ci := 6) rfl (by decide) iw_X6 tyX6_ok nmX6 rfl (Or.inl rfl) tw_806 dX6_advance_266)
  (okC (ok_aldn X rfl dX6_advance_269)
  (okC (ok_dup X dX6_advance_270)
  (okC (ok_get X (ci := 6) rfl (by decide) iw_X6 tw_804 dX6_advance_271)
  (okC (ok_ic X (by decide) dX6_advance_274)
  (okC (ok_iadd X dX6_advance_275)
  (okC (ok_put X (ci := 6) rfl (by decide) iw_X6 tyX6_ok nmX6 rfl (Or.inl rfl) tw_804 dX6_advance_276)
  (okN))))))), ok_go X (by decide) dX6_advance_279⟩
set_option maxRecDepth 20000 in
theorem ob_X6_advance_27 {x : ip_Cx} {G : ip_Gl} {d : Nat} (X : ip_X x G tb 2 d 0 0 RX6 cX6_advance) (hr : x.2.2.2.2.2.2.2.2.1.sig.returnType = none) (hnm : x.2.2.2.2.2.2.2.2.1.name = "advance") : ip_okB x G 2 pc_X6_advance 282 ([], tRV 0 0) := ⟨_, okN, ok_vret X hr dX6_advance_282⟩
theorem om_132 : ip_MOk tb en_132 pc_X6_advance := fun x G d X hr hnm => ⟨ob_X6_advance_0 X hr hnm, ⟨ob_X6_advance_1 X hr hnm, ⟨ob_X6_advance_2 X hr hnm, ⟨ob_X6_advance_3 X hr hnm, ⟨ob_X6_advance_4 X hr hnm, ⟨ob_X6_advance_5 X hr hnm, ⟨ob_X6_advance_6 X hr hnm, ⟨ob_X6_advance_7 X hr hnm, ⟨ob_X6_advance_8 X hr hnm, ⟨ob_X6_advance_9 X hr hnm, ⟨ob_X6_advance_10 X hr hnm, ⟨ob_X6_advance_11 X hr hnm, ⟨ob_X6_advance_12 X hr hnm, ⟨ob_X6_advance_13 X hr hnm, ⟨ob_X6_advance_14 X hr hnm, ⟨ob_X6_advance_15 X hr hnm, ⟨ob_X6_advance_16 X hr hnm, ⟨ob_X6_advance_17 X hr hnm, ⟨ob_X6_advance_18 X hr hnm, ⟨ob_X6_advance_19 X hr hnm, ⟨ob_X6_advance_20 X hr hnm, ⟨ob_X6_advance_21 X hr hnm, ⟨ob_X6_advance_22 X hr hnm, ⟨ob_X6_advance_23 X hr hnm, ⟨ob_X6_advance_24 X hr hnm, ⟨ob_X6_advance_25 X hr hnm, ⟨ob_X6_advance_26 X hr hnm, ⟨ob_X6_advance_27 X hr hnm, trivial⟩⟩⟩⟩⟩⟩⟩⟩⟩⟩⟩⟩⟩⟩⟩⟩⟩⟩⟩⟩⟩⟩⟩⟩⟩⟩⟩⟩
theorem dX6_isWord_0 : decode cX6_isWord 0 = .ok (.aload_n 0, 1) := by decide +kernel
theorem dX6_isWord_1 : decode cX6_isWord 1 = .ok (.getfield 83, 3) := by decide +kernel
theorem dX6_isWord_4 : decode cX6_isWord 4 = .ok (.iconst 1, 1) := by decide +kernel
theorem dX6_isWord_5 : decode cX6_isWord 5 = .ok (.if_icmp .ne 16, 3) := by decide +kernel
theorem dX6_isWord_8 : decode cX6_isWord 8 = .ok (.aload_n 0, 1) := by decide +kernel
theorem dX6_isWord_9 : decode cX6_isWord 9 = .ok (.getfield 86, 3) := by decide +kernel
theorem dX6_isWord_12 : decode cX6_isWord 12 = .ok (.lload_n 1, 1) := by decide +kernel
theorem dX6_isWord_13 : decode cX6_isWord 13 = .ok (.lcmp, 1) := by decide +kernel
theorem dX6_isWord_14 : decode cX6_isWord 14 = .ok (.ifCond .ne 7, 3) := by decide +kernel
theorem dX6_isWord_17 : decode cX6_isWord 17 = .ok (.iconst 1, 1) := by decide +kernel
theorem dX6_isWord_18 : decode cX6_isWord 18 = .ok (.goto 4, 3) := by decide +kernel
theorem dX6_isWord_21 : decode cX6_isWord 21 = .ok (.iconst 0, 1) := by decide +kernel
theorem dX6_isWord_22 : decode cX6_isWord 22 = .ok (.ireturn, 1) := by decide +kernel
def pc_X6_isWord (i : Nat) : Nat := ([0, 8, 17, 21, 22] : List Nat).getD i 0
set_option maxRecDepth 20000 in
theorem ob_X6_isWord_0 {x : ip_Cx} {G : ip_Gl} {d : Nat} (X : ip_X x G tb 3 d 0 0 RX6 cX6_isWord) (hr : x.2.2.2.2.2.2.2.2.1.sig.returnType = (some .boolean)) (hnm : x.2.2.2.2.2.2.2.2.1.name = "isWord") : ip_okB x G 3 pc_X6_isWord 0 ([oLdA 0, oGet 6 7, oI (1)], tCm (fun a b => a = b) 1 3) := ⟨_, okC (ok_aldn X rfl dX6_isWord_0)
  (okC (ok_get X (ci := 6) rfl (by decide) iw_X6 tw_802 dX6_isWord_1)
  (okC (ok_ic X (by decide) dX6_isWord_4)
  (okN))), ok_cmne X (by decide) rfl dX6_isWord_5⟩
set_option maxRecDepth 20000 in
theorem ob_X6_isWord_1 {x : ip_Cx} {G : ip_Gl} {d : Nat} (X : ip_X x G tb 3 d 0 0 RX6 cX6_isWord) (hr : x.2.2.2.2.2.2.2.2.1.sig.returnType = (some .boolean)) (hnm : x.2.2.2.2.2.2.2.2.1.name = "isWord") : ip_okB x G 3 pc_X6_isWord 8 ([oLdA 0, oGet 6 10, oLdL 1, oCmpL], tIf (fun a => a = 0) 2 3) := ⟨_, okC (ok_aldn X rfl dX6_isWord_8)
  (okC (ok_get X (ci := 6) rfl (by decide) iw_X6 tw_805 dX6_isWord_9)
  (okC (ok_lldn X rfl dX6_isWord_12)
  (okC (ok_lcmp X dX6_isWord_13)
  (okN)))), ok_ifne X (by decide) rfl dX6_isWord_14⟩
set_option maxRecDepth 20000 in
theorem ob_X6_isWord_2 {x : ip_Cx} {G : ip_Gl} {d : Nat} (X : ip_X x G tb 3 d 0 0 RX6 cX6_isWord) (hr : x.2.2.2.2.2.2.2.2.1.sig.returnType = (some .boolean)) (hnm : x.2.2.2.2.2.2.2.2.1.name = "isWord") : ip_okB x G 3 pc_X6_isWord 17 ([oI (1)], tGo 4) := ⟨_, okC (ok_ic X (by decide) dX6_isWord_17)
  (okN), ok_go X (by decide) dX6_isWord_18⟩
set_option maxRecDepth 20000 in
theorem ob_X6_isWord_3 {x : ip_Cx} {G : ip_Gl} {d : Nat} (X : ip_X x G tb 3 d 0 0 RX6 cX6_isWord) (hr : x.2.2.2.2.2.2.2.2.1.sig.returnType = (some .boolean)) (hnm : x.2.2.2.2.2.2.2.2.1.name = "isWord") : ip_okB x G 3 pc_X6_isWord 21 ([oI (0)], tGo 4) := ⟨_, okC (ok_ic X (by decide) dX6_isWord_21)
  (okN), ok_fall rfl⟩
set_option maxRecDepth 20000 in
theorem ob_X6_isWord_4 {x : ip_Cx} {G : ip_Gl} {d : Nat} (X : ip_X x G tb 3 d 0 0 RX6 cX6_isWord) (hr : x.2.2.2.2.2.2.2.2.1.sig.returnType = (some .boolean)) (hnm : x.2.2.2.2.2.2.2.2.1.name = "isWord") : ip_okB x G 3 pc_X6_isWord 22 ([], tRI .boolean 0 0) := ⟨_, okN, ok_ret X hr dX6_isWord_22⟩
theorem om_133 : ip_MOk tb en_133 pc_X6_isWord := fun x G d X hr hnm => ⟨ob_X6_isWord_0 X hr hnm, ⟨ob_X6_isWord_1 X hr hnm, ⟨ob_X6_isWord_2 X hr hnm, ⟨ob_X6_isWord_3 X hr hnm, ⟨ob_X6_isWord_4 X hr hnm, trivial⟩⟩⟩⟩⟩
theorem dX6_isMark_0 : decode cX6_isMark 0 = .ok (.aload_n 0, 1) := by decide +kernel
theorem dX6_isMark_1 : decode cX6_isMark 1 = .ok (.getfield 83, 3) := by decide +kernel
theorem dX6_isMark_4 : decode cX6_isMark 4 = .ok (.iconst 3, 1) := by decide +kernel
theorem dX6_isMark_5 : decode cX6_isMark 5 = .ok (.if_icmp .ne 15, 3) := by decide +kernel
theorem dX6_isMark_8 : decode cX6_isMark 8 = .ok (.aload_n 0, 1) := by decide +kernel
theorem dX6_isMark_9 : decode cX6_isMark 9 = .ok (.getfield 90, 3) := by decide +kernel
theorem dX6_isMark_12 : decode cX6_isMark 12 = .ok (.iload_n 1, 1) := by decide +kernel
theorem dX6_isMark_13 : decode cX6_isMark 13 = .ok (.if_icmp .ne 7, 3) := by decide +kernel
theorem dX6_isMark_16 : decode cX6_isMark 16 = .ok (.iconst 1, 1) := by decide +kernel
theorem dX6_isMark_17 : decode cX6_isMark 17 = .ok (.goto 4, 3) := by decide +kernel
theorem dX6_isMark_20 : decode cX6_isMark 20 = .ok (.iconst 0, 1) := by decide +kernel
theorem dX6_isMark_21 : decode cX6_isMark 21 = .ok (.ireturn, 1) := by decide +kernel
def pc_X6_isMark (i : Nat) : Nat := ([0, 8, 16, 20, 21] : List Nat).getD i 0
set_option maxRecDepth 20000 in
theorem ob_X6_isMark_0 {x : ip_Cx} {G : ip_Gl} {d : Nat} (X : ip_X x G tb 2 d 0 0 RX6 cX6_isMark) (hr : x.2.2.2.2.2.2.2.2.1.sig.returnType = (some .boolean)) (hnm : x.2.2.2.2.2.2.2.2.1.name = "isMark") : ip_okB x G 2 pc_X6_isMark 0 ([oLdA 0, oGet 6 7, oI (3)], tCm (fun a b => a = b) 1 3) := ⟨_, okC (ok_aldn X rfl dX6_isMark_0)
  (okC (ok_get X (ci := 6) rfl (by decide) iw_X6 tw_802 dX6_isMark_1)
  (okC (ok_ic X (by decide) dX6_isMark_4)
  (okN))), ok_cmne X (by decide) rfl dX6_isMark_5⟩
set_option maxRecDepth 20000 in
theorem ob_X6_isMark_1 {x : ip_Cx} {G : ip_Gl} {d : Nat} (X : ip_X x G tb 2 d 0 0 RX6 cX6_isMark) (hr : x.2.2.2.2.2.2.2.2.1.sig.returnType = (some .boolean)) (hnm : x.2.2.2.2.2.2.2.2.1.name = "isMark") : ip_okB x G 2 pc_X6_isMark 8 ([oLdA 0, oGet 6 11, oLdI 1], tCm (fun a b => a = b) 2 3) := ⟨_, okC (ok_aldn X rfl dX6_isMark_8)
  (okC (ok_get X (ci := 6) rfl (by decide) iw_X6 tw_806 dX6_isMark_9)
  (okC (ok_ildn X rfl dX6_isMark_12)
  (okN))), ok_cmne X (by decide) rfl dX6_isMark_13⟩
set_option maxRecDepth 20000 in
theorem ob_X6_isMark_2 {x : ip_Cx} {G : ip_Gl} {d : Nat} (X : ip_X x G tb 2 d 0 0 RX6 cX6_isMark) (hr : x.2.2.2.2.2.2.2.2.1.sig.returnType = (some .boolean)) (hnm : x.2.2.2.2.2.2.2.2.1.name = "isMark") : ip_okB x G 2 pc_X6_isMark 16 ([oI (1)], tGo 4) := ⟨_, okC (ok_ic X (by decide) dX6_isMark_16)
  (okN), ok_go X (by decide) dX6_isMark_17⟩
set_option maxRecDepth 20000 in
theorem ob_X6_isMark_3 {x : ip_Cx} {G : ip_Gl} {d : Nat} (X : ip_X x G tb 2 d 0 0 RX6 cX6_isMark) (hr : x.2.2.2.2.2.2.2.2.1.sig.returnType = (some .boolean)) (hnm : x.2.2.2.2.2.2.2.2.1.name = "isMark") : ip_okB x G 2 pc_X6_isMark 20 ([oI (0)], tGo 4) := ⟨_, okC (ok_ic X (by decide) dX6_isMark_20)
  (okN), ok_fall rfl⟩
set_option maxRecDepth 20000 in
theorem ob_X6_isMark_4 {x : ip_Cx} {G : ip_Gl} {d : Nat} (X : ip_X x G tb 2 d 0 0 RX6 cX6_isMark) (hr : x.2.2.2.2.2.2.2.2.1.sig.returnType = (some .boolean)) (hnm : x.2.2.2.2.2.2.2.2.1.name = "isMark") : ip_okB x G 2 pc_X6_isMark 21 ([], tRI .boolean 0 0) := ⟨_, okN, ok_ret X hr dX6_isMark_21⟩
theorem om_134 : ip_MOk tb en_134 pc_X6_isMark := fun x G d X hr hnm => ⟨ob_X6_isMark_0 X hr hnm, ⟨ob_X6_isMark_1 X hr hnm, ⟨ob_X6_isMark_2 X hr hnm, ⟨ob_X6_isMark_3 X hr hnm, ⟨ob_X6_isMark_4 X hr hnm, trivial⟩⟩⟩⟩⟩
theorem dX6_kindHere_0 : decode cX6_kindHere 0 = .ok (.aload_n 0, 1) := by decide +kernel
theorem dX6_kindHere_1 : decode cX6_kindHere 1 = .ok (.ldc2_w 99, 3) := by decide +kernel
theorem dX6_kindHere_4 : decode cX6_kindHere 4 = .ok (.invokevirtual 101, 3) := by decide +kernel
theorem dX6_kindHere_7 : decode cX6_kindHere 7 = .ok (.ifCond .eq 7, 3) := by decide +kernel
theorem dX6_kindHere_10 : decode cX6_kindHere 10 = .ok (.iconst 0, 1) := by decide +kernel
theorem dX6_kindHere_11 : decode cX6_kindHere 11 = .ok (.goto 74, 3) := by decide +kernel
theorem dX6_kindHere_14 : decode cX6_kindHere 14 = .ok (.aload_n 0, 1) := by decide +kernel
theorem dX6_kindHere_15 : decode cX6_kindHere 15 = .ok (.ldc2_w 105, 3) := by decide +kernel
theorem dX6_kindHere_18 : decode cX6_kindHere 18 = .ok (.invokevirtual 101, 3) := by decide +kernel
theorem dX6_kindHere_21 : decode cX6_kindHere 21 = .ok (.ifCond .eq 7, 3) := by decide +kernel
theorem dX6_kindHere_24 : decode cX6_kindHere 24 = .ok (.iconst 1, 1) := by decide +kernel
theorem dX6_kindHere_25 : decode cX6_kindHere 25 = .ok (.goto 60, 3) := by decide +kernel
theorem dX6_kindHere_28 : decode cX6_kindHere 28 = .ok (.aload_n 0, 1) := by decide +kernel
theorem dX6_kindHere_29 : decode cX6_kindHere 29 = .ok (.ldc2_w 107, 3) := by decide +kernel
theorem dX6_kindHere_32 : decode cX6_kindHere 32 = .ok (.invokevirtual 101, 3) := by decide +kernel
theorem dX6_kindHere_35 : decode cX6_kindHere 35 = .ok (.ifCond .eq 7, 3) := by decide +kernel
theorem dX6_kindHere_38 : decode cX6_kindHere 38 = .ok (.iconst 2, 1) := by decide +kernel
theorem dX6_kindHere_39 : decode cX6_kindHere 39 = .ok (.goto 46, 3) := by decide +kernel
theorem dX6_kindHere_42 : decode cX6_kindHere 42 = .ok (.aload_n 0, 1) := by decide +kernel
theorem dX6_kindHere_43 : decode cX6_kindHere 43 = .ok (.ldc2_w 109, 3) := by decide +kernel
theorem dX6_kindHere_46 : decode cX6_kindHere 46 = .ok (.invokevirtual 101, 3) := by decide +kernel
theorem dX6_kindHere_49 : decode cX6_kindHere 49 = .ok (.ifCond .eq 7, 3) := by decide +kernel
theorem dX6_kindHere_52 : decode cX6_kindHere 52 = .ok (.iconst 3, 1) := by decide +kernel
theorem dX6_kindHere_53 : decode cX6_kindHere 53 = .ok (.goto 32, 3) := by decide +kernel
theorem dX6_kindHere_56 : decode cX6_kindHere 56 = .ok (.aload_n 0, 1) := by decide +kernel
theorem dX6_kindHere_57 : decode cX6_kindHere 57 = .ok (.ldc2_w 111, 3) := by decide +kernel
theorem dX6_kindHere_60 : decode cX6_kindHere 60 = .ok (.invokevirtual 101, 3) := by decide +kernel
theorem dX6_kindHere_63 : decode cX6_kindHere 63 = .ok (.ifCond .eq 7, 3) := by decide +kernel
theorem dX6_kindHere_66 : decode cX6_kindHere 66 = .ok (.iconst 4, 1) := by decide +kernel
theorem dX6_kindHere_67 : decode cX6_kindHere 67 = .ok (.goto 18, 3) := by decide +kernel
theorem dX6_kindHere_70 : decode cX6_kindHere 70 = .ok (.aload_n 0, 1) := by decide +kernel
theorem dX6_kindHere_71 : decode cX6_kindHere 71 = .ok (.ldc2_w 113, 3) := by decide +kernel
theorem dX6_kindHere_74 : decode cX6_kindHere 74 = .ok (.invokevirtual 101, 3) := by decide +kernel
theorem dX6_kindHere_77 : decode cX6_kindHere 77 = .ok (.ifCond .eq 7, 3) := by decide +kernel
theorem dX6_kindHere_80 : decode cX6_kindHere 80 = .ok (.iconst 5, 1) := by decide +kernel
theorem dX6_kindHere_81 : decode cX6_kindHere 81 = .ok (.goto 4, 3) := by decide +kernel
theorem dX6_kindHere_84 : decode cX6_kindHere 84 = .ok (.iconst (-1), 1) := by decide +kernel
theorem dX6_kindHere_85 : decode cX6_kindHere 85 = .ok (.ireturn, 1) := by decide +kernel
def pc_X6_kindHere (i : Nat) : Nat := ([0, 10, 14, 24, 28, 38, 42, 52, 56, 66, 70, 80, 84, 85] : List Nat).getD i 0
set_option maxRecDepth 20000 in
theorem ob_X6_kindHere_0 {x : ip_Cx} {G : ip_Gl} {d : Nat} (X : ip_X x G tb 1 d 0 0 RX6 cX6_kindHere) (hr : x.2.2.2.2.2.2.2.2.1.sig.returnType = (some .int)) (hnm : x.2.2.2.2.2.2.2.2.1.name = "kindHere") : ip_okB x G 1 pc_X6_kindHere 0 ([oLdA 0, oL (330800670), oCaV (ip_call tb d) 0 0 6 133 2 0 0], tIf (fun a => a = 0) 2 1) := ⟨_, okC (ok_aldn X rfl dX6_kindHere_0)
  (okC (ok_ldc2 X tw_930 dX6_kindHere_1)
  (okC (ok_calV X (i := 101) (e := en_133) rfl mt_133 rfl rfl rfl tw_919 tw_921 (Or.inl ⟨_, _, rfl⟩) tp_13 dX6_kindHere_4)
  (okN))), ok_ifeq X (by decide) rfl dX6_kindHere_7⟩
set_option maxRecDepth 20000 in
theorem ob_X6_kindHere_1 {x : ip_Cx} {G : ip_Gl} {d : Nat} (X : ip_X x G tb 1 d 0 0 RX6 cX6_kindHere) (hr : x.2.2.2.2.2.2.2.2.1.sig.returnType = (some .int)) (hnm : x.2.2.2.2.2.2.2.2.1.name = "kindHere") : ip_okB x G 1 pc_X6_kindHere 10 ([oI (0)], tGo 13) := ⟨_, okC (ok_ic X (by decide) dX6_kindHere_10)
  (okN), ok_go X (by decide) dX6_kindHere_11⟩
set_option maxRecDepth 20000 in
theorem ob_X6_kindHere_2 {x : ip_Cx} {G : ip_Gl} {d : Nat} (X : ip_X x G tb 1 d 0 0 RX6 cX6_kindHere) (hr : x.2.2.2.2.2.2.2.2.1.sig.returnType = (some .int)) (hnm : x.2.2.2.2.2.2.2.2.1.name = "kindHere") : ip_okB x G 1 pc_X6_kindHere 14 ([oLdA 0, oL (1842089), oCaV (ip_call tb d) 0 0 6 133 2 0 0], tIf (fun a => a = 0) 4 3) := ⟨_, okC (ok_aldn X rfl dX6_kindHere_14)
  (okC (ok_ldc2 X tw_931 dX6_kindHere_15)
  (okC (ok_calV X (i := 101) (e := en_133) rfl mt_133 rfl rfl rfl tw_919 tw_921 (Or.inl ⟨_, _, rfl⟩) tp_13 dX6_kindHere_18)
  (okN))), ok_ifeq X (by decide) rfl dX6_kindHere_21⟩
set_option maxRecDepth 20000 in
theorem ob_X6_kindHere_3 {x : ip_Cx} {G : ip_Gl} {d : Nat} (X : ip_X x G tb 1 d 0 0 RX6 cX6_kindHere) (hr : x.2.2.2.2.2.2.2.2.1.sig.returnType = (some .int)) (hnm : x.2.2.2.2.2.2.2.2.1.name = "kindHere") : ip_okB x G 1 pc_X6_kindHere 24 ([oI (1)], tGo 13) := ⟨_, okC (ok_ic X (by decide) dX6_kindHere_24)
  (okN), ok_go X (by decide) dX6_kindHere_25⟩
set_option maxRecDepth 20000 in
theorem ob_X6_kindHere_4 {x : ip_Cx} {G : ip_Gl} {d : Nat} (X : ip_X x G tb 1 d 0 0 RX6 cX6_kindHere) (hr : x.2.2.2.2.2.2.2.2.1.sig.returnType = (some .int)) (hnm : x.2.2.2.2.2.2.2.2.1.name = "kindHere") : ip_okB x G 1 pc_X6_kindHere 28 ([oLdA 0, oL (1758676), oCaV (ip_call tb d) 0 0 6 133 2 0 0], tIf (fun a => a = 0) 6 5) := ⟨_, okC (ok_aldn X rfl dX6_kindHere_28)
  (okC (ok_ldc2 X tw_932 dX6_kindHere_29)
  (okC (ok_calV X (i := 101) (e := en_133) rfl mt_133 rfl rfl rfl tw_919 tw_921 (Or.inl ⟨_, _, rfl⟩) tp_13 dX6_kindHere_32)
  (okN))), ok_ifeq X (by decide) rfl dX6_kindHere_35⟩
set_option maxRecDepth 20000 in
theorem ob_X6_kindHere_5 {x : ip_Cx} {G : ip_Gl} {d : Nat} (X : ip_X x G tb 1 d 0 0 RX6 cX6_kindHere) (hr : x.2.2.2.2.2.2.2.2.1.sig.returnType = (some .int)) (hnm : x.2.2.2.2.2.2.2.2.1.name = "kindHere") : ip_okB x G 1 pc_X6_kindHere 38 ([oI (2)], tGo 13) := ⟨_, okC (ok_ic X (by decide) dX6_kindHere_38)
  (okN), ok_go X (by decide) dX6_kindHere_39⟩
set_option maxRecDepth 20000 in
theorem ob_X6_kindHere_6 {x : ip_Cx} {G : ip_Gl} {d : Nat} (X : ip_X x G tb 1 d 0 0 RX6 cX6_kindHere) (hr : x.2.2.2.2.2.2.2.2.1.sig.returnType = (some .int)) (hnm : x.2.2.2.2.2.2.2.2.1.name = "kindHere") : ip_okB x G 1 pc_X6_kindHere 42 ([oLdA 0, oL (146534985), oCaV (ip_call tb d) 0 0 6 133 2 0 0], tIf (fun a => a = 0) 8 7) := ⟨_, okC (ok_aldn X rfl dX6_kindHere_42)
  (okC (ok_ldc2 X tw_933 dX6_kindHere_43)
  (okC (ok_calV X (i := 101) (e := en_133) rfl mt_133 rfl rfl rfl tw_919 tw_921 (Or.inl ⟨_, _, rfl⟩) tp_13 dX6_kindHere_46)
  (okN))), ok_ifeq X (by decide) rfl dX6_kindHere_49⟩
set_option maxRecDepth 20000 in
theorem ob_X6_kindHere_7 {x : ip_Cx} {G : ip_Gl} {d : Nat} (X : ip_X x G tb 1 d 0 0 RX6 cX6_kindHere) (hr : x.2.2.2.2.2.2.2.2.1.sig.returnType = (some .int)) (hnm : x.2.2.2.2.2.2.2.2.1.name = "kindHere") : ip_okB x G 1 pc_X6_kindHere 52 ([oI (3)], tGo 13) := ⟨_, okC (ok_ic X (by decide) dX6_kindHere_52)
  (okN), ok_go X (by decide) dX6_kindHere_53⟩
set_option maxRecDepth 20000 in
theorem ob_X6_kindHere_8 {x : ip_Cx} {G : ip_Gl} {d : Nat} (X : ip_X x G tb 1 d 0 0 RX6 cX6_kindHere) (hr : x.2.2.2.2.2.2.2.2.1.sig.returnType = (some .int)) (hnm : x.2.2.2.2.2.2.2.2.1.name = "kindHere") : ip_okB x G 1 pc_X6_kindHere 56 ([oLdA 0, oL (10124021), oCaV (ip_call tb d) 0 0 6 133 2 0 0], tIf (fun a => a = 0) 10 9) := ⟨_, okC (ok_aldn X rfl dX6_kindHere_56)
  (okC (ok_ldc2 X tw_934 dX6_kindHere_57)
  (okC (ok_calV X (i := 101) (e := en_133) rfl mt_133 rfl rfl rfl tw_919 tw_921 (Or.inl ⟨_, _, rfl⟩) tp_13 dX6_kindHere_60)
  (okN))), ok_ifeq X (by decide) rfl dX6_kindHere_63⟩
set_option maxRecDepth 20000 in
theorem ob_X6_kindHere_9 {x : ip_Cx} {G : ip_Gl} {d : Nat} (X : ip_X x G tb 1 d 0 0 RX6 cX6_kindHere) (hr : x.2.2.2.2.2.2.2.2.1.sig.returnType = (some .int)) (hnm : x.2.2.2.2.2.2.2.2.1.name = "kindHere") : ip_okB x G 1 pc_X6_kindHere 66 ([oI (4)], tGo 13) := ⟨_, okC (ok_ic X (by decide) dX6_kindHere_66)
  (okN), ok_go X (by decide) dX6_kindHere_67⟩
set_option maxRecDepth 20000 in
theorem ob_X6_kindHere_10 {x : ip_Cx} {G : ip_Gl} {d : Nat} (X : ip_X x G tb 1 d 0 0 RX6 cX6_kindHere) (hr : x.2.2.2.2.2.2.2.2.1.sig.returnType = (some .int)) (hnm : x.2.2.2.2.2.2.2.2.1.name = "kindHere") : ip_okB x G 1 pc_X6_kindHere 70 ([oLdA 0, oL (7868267739), oCaV (ip_call tb d) 0 0 6 133 2 0 0], tIf (fun a => a = 0) 12 11) := ⟨_, okC (ok_aldn X rfl dX6_kindHere_70)
  (okC (ok_ldc2 X tw_935 dX6_kindHere_71)
  (okC (ok_calV X (i := 101) (e := en_133) rfl mt_133 rfl rfl rfl tw_919 tw_921 (Or.inl ⟨_, _, rfl⟩) tp_13 dX6_kindHere_74)
  (okN))), ok_ifeq X (by decide) rfl dX6_kindHere_77⟩
set_option maxRecDepth 20000 in
theorem ob_X6_kindHere_11 {x : ip_Cx} {G : ip_Gl} {d : Nat} (X : ip_X x G tb 1 d 0 0 RX6 cX6_kindHere) (hr : x.2.2.2.2.2.2.2.2.1.sig.returnType = (some .int)) (hnm : x.2.2.2.2.2.2.2.2.1.name = "kindHere") : ip_okB x G 1 pc_X6_kindHere 80 ([oI (5)], tGo 13) := ⟨_, okC (ok_ic X (by decide) dX6_kindHere_80)
  (okN), ok_go X (by decide) dX6_kindHere_81⟩
set_option maxRecDepth 20000 in
theorem ob_X6_kindHere_12 {x : ip_Cx} {G : ip_Gl} {d : Nat} (X : ip_X x G tb 1 d 0 0 RX6 cX6_kindHere) (hr : x.2.2.2.2.2.2.2.2.1.sig.returnType = (some .int)) (hnm : x.2.2.2.2.2.2.2.2.1.name = "kindHere") : ip_okB x G 1 pc_X6_kindHere 84 ([oI (-1)], tGo 13) := ⟨_, okC (ok_ic X (by decide) dX6_kindHere_84)
  (okN), ok_fall rfl⟩
set_option maxRecDepth 20000 in
theorem ob_X6_kindHere_13 {x : ip_Cx} {G : ip_Gl} {d : Nat} (X : ip_X x G tb 1 d 0 0 RX6 cX6_kindHere) (hr : x.2.2.2.2.2.2.2.2.1.sig.returnType = (some .int)) (hnm : x.2.2.2.2.2.2.2.2.1.name = "kindHere") : ip_okB x G 1 pc_X6_kindHere 85 ([], tRI .int 0 0) := ⟨_, okN, ok_ret X hr dX6_kindHere_85⟩
theorem om_135 : ip_MOk tb en_135 pc_X6_kindHere := fun x G d X hr hnm => ⟨ob_X6_kindHere_0 X hr hnm, ⟨ob_X6_kindHere_1 X hr hnm, ⟨ob_X6_kindHere_2 X hr hnm, ⟨ob_X6_kindHere_3 X hr hnm, ⟨ob_X6_kindHere_4 X hr hnm, ⟨ob_X6_kindHere_5 X hr hnm, ⟨ob_X6_kindHere_6 X hr hnm, ⟨ob_X6_kindHere_7 X hr hnm, ⟨ob_X6_kindHere_8 X hr hnm, ⟨ob_X6_kindHere_9 X hr hnm, ⟨ob_X6_kindHere_10 X hr hnm, ⟨ob_X6_kindHere_11 X hr hnm, ⟨ob_X6_kindHere_12 X hr hnm, ⟨ob_X6_kindHere_13 X hr hnm, trivial⟩⟩⟩⟩⟩⟩⟩⟩⟩⟩⟩⟩⟩⟩
theorem dX6_lawHere_0 : decode cX6_lawHere 0 = .ok (.aload_n 0, 1) := by decide +kernel
theorem dX6_lawHere_1 : decode cX6_lawHere 1 = .ok (.ldc2_w 115, 3) := by decide +kernel
theorem dX6_lawHere_4 : decode cX6_lawHere 4 = .ok (.invokevirtual 101, 3) := by decide +kernel
theorem dX6_lawHere_7 : decode cX6_lawHere 7 = .ok (.ifCond .eq 7, 3) := by decide +kernel
theorem dX6_lawHere_10 : decode cX6_lawHere 10 = .ok (.iconst 0, 1) := by decide +kernel
theorem dX6_lawHere_11 : decode cX6_lawHere 11 = .ok (.goto 46, 3) := by decide +kernel
theorem dX6_lawHere_14 : decode cX6_lawHere 14 = .ok (.aload_n 0, 1) := by decide +kernel
theorem dX6_lawHere_15 : decode cX6_lawHere 15 = .ok (.ldc2_w 117, 3) := by decide +kernel
theorem dX6_lawHere_18 : decode cX6_lawHere 18 = .ok (.invokevirtual 101, 3) := by decide +kernel
theorem dX6_lawHere_21 : decode cX6_lawHere 21 = .ok (.ifCond .eq 7, 3) := by decide +kernel
theorem dX6_lawHere_24 : decode cX6_lawHere 24 = .ok (.iconst 1, 1) := by decide +kernel
theorem dX6_lawHere_25 : decode cX6_lawHere 25 = .ok (.goto 32, 3) := by decide +kernel
theorem dX6_lawHere_28 : decode cX6_lawHere 28 = .ok (.aload_n 0, 1) := by decide +kernel
theorem dX6_lawHere_29 : decode cX6_lawHere 29 = .ok (.ldc2_w 119, 3) := by decide +kernel
theorem dX6_lawHere_32 : decode cX6_lawHere 32 = .ok (.invokevirtual 101, 3) := by decide +kernel
theorem dX6_lawHere_35 : decode cX6_lawHere 35 = .ok (.ifCond .eq 7, 3) := by decide +kernel
theorem dX6_lawHere_38 : decode cX6_lawHere 38 = .ok (.iconst 2, 1) := by decide +kernel
theorem dX6_lawHere_39 : decode cX6_lawHere 39 = .ok (.goto 18, 3) := by decide +kernel
theorem dX6_lawHere_42 : decode cX6_lawHere 42 = .ok (.aload_n 0, 1) := by decide +kernel
theorem dX6_lawHere_43 : decode cX6_lawHere 43 = .ok (.ldc2_w 121, 3) := by decide +kernel
theorem dX6_lawHere_46 : decode cX6_lawHere 46 = .ok (.invokevirtual 101, 3) := by decide +kernel
theorem dX6_lawHere_49 : decode cX6_lawHere 49 = .ok (.ifCond .eq 7, 3) := by decide +kernel
theorem dX6_lawHere_52 : decode cX6_lawHere 52 = .ok (.iconst 3, 1) := by decide +kernel
theorem dX6_lawHere_53 : decode cX6_lawHere 53 = .ok (.goto 4, 3) := by decide +kernel
theorem dX6_lawHere_56 : decode cX6_lawHere 56 = .ok (.iconst (-1), 1) := by decide +kernel
theorem dX6_lawHere_57 : decode cX6_lawHere 57 = .ok (.ireturn, 1) := by decide +kernel
def pc_X6_lawHere (i : Nat) : Nat := ([0, 10, 14, 24, 28, 38, 42, 52, 56, 57] : List Nat).getD i 0
set_option maxRecDepth 20000 in
theorem ob_X6_lawHere_0 {x : ip_Cx} {G : ip_Gl} {d : Nat} (X : ip_X x G tb 1 d 0 0 RX6 cX6_lawHere) (hr : x.2.2.2.2.2.2.2.2.1.sig.returnType = (some .int)) (hnm : x.2.2.2.2.2.2.2.2.1.name = "lawHere") : ip_okB x G 1 pc_X6_lawHere 0 ([oLdA 0, oL (8740370), oCaV (ip_call tb d) 0 0 6 133 2 0 0], tIf (fun a => a = 0) 2 1) := ⟨_, okC (ok_aldn X rfl dX6_lawHere_0)
  (okC (ok_ldc2 X tw_918 dX6_lawHere_1)
  (okC (ok_calV X (i := 101) (e := en_133) rfl mt_133 rfl rfl rfl tw_919 tw_921 (Or.inl ⟨_, _, rfl⟩) tp_13 dX6_lawHere_4)
  (okN))), ok_ifeq X (by decide) rfl dX6_lawHere_7⟩
set_option maxRecDepth 20000 in
theorem ob_X6_lawHere_1 {x : ip_Cx} {G : ip_Gl} {d : Nat} (X : ip_X x G tb 1 d 0 0 RX6 cX6_lawHere) (hr : x.2.2.2.2.2.2.2.2.1.sig.returnType = (some .int)) (hnm : x.2.2.2.2.2.2.2.2.1.name = "lawHere") : ip_okB x G 1 pc_X6_lawHere 10 ([oI (0)], tGo 9) := ⟨_, okC (ok_ic X (by decide) dX6_lawHere_10)
  (okN), ok_go X (by decide) dX6_lawHere_11⟩
set_option maxRecDepth 20000 in
theorem ob_X6_lawHere_2 {x : ip_Cx} {G : ip_Gl} {d : Nat} (X : ip_X x G tb 1 d 0 0 RX6 cX6_lawHere) (hr : x.2.2.2.2.2.2.2.2.1.sig.returnType = (some .int)) (hnm : x.2.2.2.2.2.2.2.2.1.name = "lawHere") : ip_okB x G 1 pc_X6_lawHere 14 ([oLdA 0, oL (2045), oCaV (ip_call tb d) 0 0 6 133 2 0 0], tIf (fun a => a = 0) 4 3) := ⟨_, okC (ok_aldn X rfl dX6_lawHere_14)
  (okC (ok_ldc2 X tw_923 dX6_lawHere_15)
  (okC (ok_calV X (i := 101) (e := en_133) rfl mt_133 rfl rfl rfl tw_919 tw_921 (Or.inl ⟨_, _, rfl⟩) tp_13 dX6_lawHere_18)
  (okN))), ok_ifeq X (by decide) rfl dX6_lawHere_21⟩
set_option maxRecDepth 20000 in
theorem ob_X6_lawHere_3 {x : ip_Cx} {G : ip_Gl} {d : Nat} (X : ip_X x G tb 1 d 0 0 RX6 cX6_lawHere) (hr : x.2.2.2.2.2.2.2.2.1.sig.returnType = (some .int)) (hnm : x.2.2.2.2.2.2.2.2.1.name = "lawHere") : ip_okB x G 1 pc_X6_lawHere 24 ([oI (1)], tGo 9) := ⟨_, okC (ok_ic X (by decide) dX6_lawHere_24)
  (okN), ok_go X (by decide) dX6_lawHere_25⟩
set_option maxRecDepth 20000 in
theorem ob_X6_lawHere_4 {x : ip_Cx} {G : ip_Gl} {d : Nat} (X : ip_X x G tb 1 d 0 0 RX6 cX6_lawHere) (hr : x.2.2.2.2.2.2.2.2.1.sig.returnType = (some .int)) (hnm : x.2.2.2.2.2.2.2.2.1.name = "lawHere") : ip_okB x G 1 pc_X6_lawHere 28 ([oLdA 0, oL (17030), oCaV (ip_call tb d) 0 0 6 133 2 0 0], tIf (fun a => a = 0) 6 5) := ⟨_, okC (ok_aldn X rfl dX6_lawHere_28)
  (okC (ok_ldc2 X tw_924 dX6_lawHere_29)
  (okC (ok_calV X (i := 101) (e := en_133) rfl mt_133 rfl rfl rfl tw_919 tw_921 (Or.inl ⟨_, _, rfl⟩) tp_13 dX6_lawHere_32)
  (okN))), ok_ifeq X (by decide) rfl dX6_lawHere_35⟩
set_option maxRecDepth 20000 in
theorem ob_X6_lawHere_5 {x : ip_Cx} {G : ip_Gl} {d : Nat} (X : ip_X x G tb 1 d 0 0 RX6 cX6_lawHere) (hr : x.2.2.2.2.2.2.2.2.1.sig.returnType = (some .int)) (hnm : x.2.2.2.2.2.2.2.2.1.name = "lawHere") : ip_okB x G 1 pc_X6_lawHere 38 ([oI (2)], tGo 9) := ⟨_, okC (ok_ic X (by decide) dX6_lawHere_38)
  (okN), ok_go X (by decide) dX6_lawHere_39⟩
set_option maxRecDepth 20000 in
theorem ob_X6_lawHere_6 {x : ip_Cx} {G : ip_Gl} {d : Nat} (X : ip_X x G tb 1 d 0 0 RX6 cX6_lawHere) (hr : x.2.2.2.2.2.2.2.2.1.sig.returnType = (some .int)) (hnm : x.2.2.2.2.2.2.2.2.1.name = "lawHere") : ip_okB x G 1 pc_X6_lawHere 42 ([oLdA 0, oL (2436392), oCaV (ip_call tb d) 0 0 6 133 2 0 0], tIf (fun a => a = 0) 8 7) := ⟨_, okC (ok_aldn X rfl dX6_lawHere_42)
  (okC (ok_ldc2 X tw_925 dX6_lawHere_43)
  (okC (ok_calV X (i := 101) (e := en_133) rfl mt_133 rfl rfl rfl tw_919 tw_921 (Or.inl ⟨_, _, rfl⟩) tp_13 dX6_lawHere_46)
  (okN))), ok_ifeq X (by decide) rfl dX6_lawHere_49⟩
set_option maxRecDepth 20000 in
theorem ob_X6_lawHere_7 {x : ip_Cx} {G : ip_Gl} {d : Nat} (X : ip_X x G tb 1 d 0 0 RX6 cX6_lawHere) (hr : x.2.2.2.2.2.2.2.2.1.sig.returnType = (some .int)) (hnm : x.2.2.2.2.2.2.2.2.1.name = "lawHere") : ip_okB x G 1 pc_X6_lawHere 52 ([oI (3)], tGo 9) := ⟨_, okC (ok_ic X (by decide) dX6_lawHere_52)
  (okN), ok_go X (by decide) dX6_lawHere_53⟩
set_option maxRecDepth 20000 in
theorem ob_X6_lawHere_8 {x : ip_Cx} {G : ip_Gl} {d : Nat} (X : ip_X x G tb 1 d 0 0 RX6 cX6_lawHere) (hr : x.2.2.2.2.2.2.2.2.1.sig.returnType = (some .int)) (hnm : x.2.2.2.2.2.2.2.2.1.name = "lawHere") : ip_okB x G 1 pc_X6_lawHere 56 ([oI (-1)], tGo 9) := ⟨_, okC (ok_ic X (by decide) dX6_lawHere_56)
  (okN), ok_fall rfl⟩
set_option maxRecDepth 20000 in
theorem ob_X6_lawHere_9 {x : ip_Cx} {G : ip_Gl} {d : Nat} (X : ip_X x G tb 1 d 0 0 RX6 cX6_lawHere) (hr : x.2.2.2.2.2.2.2.2.1.sig.returnType = (some .int)) (hnm : x.2.2.2.2.2.2.2.2.1.name = "lawHere") : ip_okB x G 1 pc_X6_lawHere 57 ([], tRI .int 0 0) := ⟨_, okN, ok_ret X hr dX6_lawHere_57⟩
theorem om_136 : ip_MOk tb en_136 pc_X6_lawHere := fun x G d X hr hnm => ⟨ob_X6_lawHere_0 X hr hnm, ⟨ob_X6_lawHere_1 X hr hnm, ⟨ob_X6_lawHere_2 X hr hnm, ⟨ob_X6_lawHere_3 X hr hnm, ⟨ob_X6_lawHere_4 X hr hnm, ⟨ob_X6_lawHere_5 X hr hnm, ⟨ob_X6_lawHere_6 X hr hnm, ⟨ob_X6_lawHere_7 X hr hnm, ⟨ob_X6_lawHere_8 X hr hnm, ⟨ob_X6_lawHere_9 X hr hnm, trivial⟩⟩⟩⟩⟩⟩⟩⟩⟩⟩
theorem dX6_wantNumber_0 : decode cX6_wantNumber 0 = .ok (.aload_n 0, 1) := by decide +kernel
theorem dX6_wantNumber_1 : decode cX6_wantNumber 1 = .ok (.getfield 90, 3) := by decide +kernel
theorem dX6_wantNumber_4 : decode cX6_wantNumber 4 = .ok (.istore_n 3, 1) := by decide +kernel
theorem dX6_wantNumber_5 : decode cX6_wantNumber 5 = .ok (.aload_n 0, 1) := by decide +kernel
theorem dX6_wantNumber_6 : decode cX6_wantNumber 6 = .ok (.aload_n 0, 1) := by decide +kernel
theorem dX6_wantNumber_7 : decode cX6_wantNumber 7 = .ok (.getfield 123, 3) := by decide +kernel
theorem dX6_wantNumber_10 : decode cX6_wantNumber 10 = .ok (.ifCond .eq 24, 3) := by decide +kernel
theorem dX6_wantNumber_13 : decode cX6_wantNumber 13 = .ok (.aload_n 0, 1) := by decide +kernel
theorem dX6_wantNumber_14 : decode cX6_wantNumber 14 = .ok (.getfield 83, 3) := by decide +kernel
theorem dX6_wantNumber_17 : decode cX6_wantNumber 17 = .ok (.iconst 2, 1) := by decide +kernel
theorem dX6_wantNumber_18 : decode cX6_wantNumber 18 = .ok (.if_icmp .ne 16, 3) := by decide +kernel
theorem dX6_wantNumber_21 : decode cX6_wantNumber 21 = .ok (.iload_n 3, 1) := by decide +kernel
theorem dX6_wantNumber_22 : decode cX6_wantNumber 22 = .ok (.iload_n 1, 1) := by decide +kernel
theorem dX6_wantNumber_23 : decode cX6_wantNumber 23 = .ok (.iload_n 2, 1) := by decide +kernel
theorem dX6_wantNumber_24 : decode cX6_wantNumber 24 = .ok (.invokestatic 57, 3) := by decide +kernel
theorem dX6_wantNumber_27 : decode cX6_wantNumber 27 = .ok (.ifCond .eq 7, 3) := by decide +kernel
theorem dX6_wantNumber_30 : decode cX6_wantNumber 30 = .ok (.iconst 1, 1) := by decide +kernel
theorem dX6_wantNumber_31 : decode cX6_wantNumber 31 = .ok (.goto 4, 3) := by decide +kernel
theorem dX6_wantNumber_34 : decode cX6_wantNumber 34 = .ok (.iconst 0, 1) := by decide +kernel
theorem dX6_wantNumber_35 : decode cX6_wantNumber 35 = .ok (.putfield 123, 3) := by decide +kernel
theorem dX6_wantNumber_38 : decode cX6_wantNumber 38 = .ok (.aload_n 0, 1) := by decide +kernel
theorem dX6_wantNumber_39 : decode cX6_wantNumber 39 = .ok (.getfield 123, 3) := by decide +kernel
theorem dX6_wantNumber_42 : decode cX6_wantNumber 42 = .ok (.ifCond .eq 7, 3) := by decide +kernel
theorem dX6_wantNumber_45 : decode cX6_wantNumber 45 = .ok (.aload_n 0, 1) := by decide +kernel
theorem dX6_wantNumber_46 : decode cX6_wantNumber 46 = .ok (.invokevirtual 127, 3) := by decide +kernel
theorem dX6_wantNumber_49 : decode cX6_wantNumber 49 = .ok (.iload_n 3, 1) := by decide +kernel
theorem dX6_wantNumber_50 : decode cX6_wantNumber 50 = .ok (.ireturn, 1) := by decide +kernel
def pc_X6_wantNumber (i : Nat) : Nat := ([0, 13, 21, 30, 34, 35, 45, 49] : List Nat).getD i 0
set_option maxRecDepth 20000 in
theorem ob_X6_wantNumber_0 {x : ip_Cx} {G : ip_Gl} {d : Nat} (X : ip_X x G tb 4 d 0 0 RX6 cX6_wantNumber) (hr : x.2.2.2.2.2.2.2.2.1.sig.returnType = (some .int)) (hnm : x.2.2.2.2.2.2.2.2.1.name = "wantNumber") : ip_okB x G 4 pc_X6_wantNumber 0 ([oLdA 0, oGet 6 11, oStI 3, oLdA 0, oLdA 0, oGet 6 12], tIf (fun a => a = 0) 4 1) := ⟨_, okC (ok_aldn X rfl dX6_wantNumber_0)
  (okC (ok_get X (ci := 6) rfl (by decide) iw_X6 tw_806 dX6_wantNumber_1)
  (okC (ok_istn X rfl (by decide) dX6_wantNumber_4)
  (okC (ok_aldn X rfl dX6_wantNumber_5)
  (okC (ok_aldn X rfl dX6_wantNumber_6)
  (okC (ok_get X (ci := 6) rfl (by decide) iw_X6 tw_807 dX6_wantNumber_7)
  (okN)))))), ok_ifeq X (by decide) rfl dX6_wantNumber_10⟩
set_option maxRecDepth 20000 in
theorem ob_X6_wantNumber_1 {x : ip_Cx} {G : ip_Gl} {d : Nat} (X : ip_X x G tb 4 d 0 0 RX6 cX6_wantNumber) (hr : x.2.2.2.2.2.2.2.2.1.sig.returnType = (some .int)) (hnm : x.2.2.2.2.2.2.2.2.1.name = "wantNumber") : ip_okB x G 4 pc_X6_wantNumber 13 ([oLdA 0, oGet 6 7, oI (2)], tCm (fun a b => a = b) 2 4) := ⟨_, okC (ok_aldn X rfl dX6_wantNumber_13)
  (okC (ok_get X (ci := 6) rfl (by decide) iw_X6 tw_802 dX6_wantNumber_14)
  (okC (ok_ic X (by decide) dX6_wantNumber_17)
  (okN))), ok_cmne X (by decide) rfl dX6_wantNumber_18⟩
set_option maxRecDepth 20000 in
theorem ob_X6_wantNumber_2 {x : ip_Cx} {G : ip_Gl} {d : Nat} (X : ip_X x G tb 4 d 0 0 RX6 cX6_wantNumber) (hr : x.2.2.2.2.2.2.2.2.1.sig.returnType = (some .int)) (hnm : x.2.2.2.2.2.2.2.2.1.name = "wantNumber") : ip_okB x G 4 pc_X6_wantNumber 21 ([oLdI 3, oLdI 1, oLdI 2, oCal (ip_call tb d) 0 0 120 3 0 0], tIf (fun a => a = 0) 4 3) := ⟨_, okC (ok_ildn X rfl dX6_wantNumber_21)
  (okC (ok_ildn X rfl dX6_wantNumber_22)
  (okC (ok_ildn X rfl dX6_wantNumber_23)
  (okC (ok_calS X (i := 57) (e := en_120) rfl mt_120 rfl rfl rfl tw_885 tw_886 dX6_wantNumber_24)
  (okN)))), ok_ifeq X (by decide) rfl dX6_wantNumber_27⟩
set_option maxRecDepth 20000 in
theorem ob_X6_wantNumber_3 {x : ip_Cx} {G : ip_Gl} {d : Nat} (X : ip_X x G tb 4 d 0 0 RX6 cX6_wantNumber) (hr : x.2.2.2.2.2.2.2.2.1.sig.returnType = (some .int)) (hnm : x.2.2.2.2.2.2.2.2.1.name = "wantNumber") : ip_okB x G 4 pc_X6_wantNumber 30 ([oI (1)], tGo 5) := ⟨_, okC (ok_ic X (by decide) dX6_wantNumber_30)
  (okN), ok_go X (by decide) dX6_wantNumber_31⟩
set_option maxRecDepth 20000 in
theorem ob_X6_wantNumber_4 {x : ip_Cx} {G : ip_Gl} {d : Nat} (X : ip_X x G tb 4 d 0 0 RX6 cX6_wantNumber) (hr : x.2.2.2.2.2.2.2.2.1.sig.returnType = (some .int)) (hnm : x.2.2.2.2.2.2.2.2.1.name = "wantNumber") : ip_okB x G 4 pc_X6_wantNumber 34 ([oI (0)], tGo 5) := ⟨_, okC (ok_ic X (by decide) dX6_wantNumber_34)
  (okN), ok_fall rfl⟩
set_option maxRecDepth 20000 in
theorem ob_X6_wantNumber_5 {x : ip_Cx} {G : ip_Gl} {d : Nat} (X : ip_X x G tb 4 d 0 0 RX6 cX6_wantNumber) (hr : x.2.2.2.2.2.2.2.2.1.sig.returnType = (some .int)) (hnm : x.2.2.2.2.2.2.2.2.1.name = "wantNumber") : ip_okB x G 4 pc_X6_wantNumber 35 ([oPut 6 12 .boolean, oLdA 0, oGet 6 12], tIf (fun a => a = 0) 7 6) := ⟨_, okC (ok_put X (ci := 6) rfl (by decide) iw_X6 tyX6_ok nmX6 rfl (Or.inl rfl) tw_807 dX6_wantNumber_35)
  (okC (ok_aldn X rfl dX6_wantNumber_38)
  (okC (ok_get X (ci := 6) rfl (by decide) iw_X6 tw_807 dX6_wantNumber_39)
  (okN))), ok_ifeq X (by decide) rfl dX6_wantNumber_42⟩
set_option maxRecDepth 20000 in
theorem ob_X6_wantNumber_6 {x : ip_Cx} {G : ip_Gl} {d : Nat} (X : ip_X x G tb 4 d 0 0 RX6 cX6_wantNumber) (hr : x.2.2.2.2.2.2.2.2.1.sig.returnType = (some .int)) (hnm : x.2.2.2.2.2.2.2.2.1.name = "wantNumber") : ip_okB x G 4 pc_X6_wantNumber 45 ([oLdA 0, oCaV (ip_call tb d) 0 0 6 132 1 0 0], tGo 7) := ⟨_, okC (ok_aldn X rfl dX6_wantNumber_45)
  (okC (ok_calV X (i := 127) (e := en_132) rfl mt_132 rfl rfl rfl tw_893 tw_895 (Or.inl ⟨_, _, rfl⟩) tp_9 dX6_wantNumber_46)
  (okN)), ok_fall rfl⟩
set_option maxRecDepth 20000 in
theorem ob_X6_wantNumber_7 {x : ip_Cx} {G : ip_Gl} {d : Nat} (X : ip_X x G tb 4 d 0 0 RX6 cX6_wantNumber) (hr : x.2.2.2.2.2.2.2.2.1.sig.returnType = (some .int)) (hnm : x.2.2.2.2.2.2.2.2.1.name = "wantNumber") : ip_okB x G 4 pc_X6_wantNumber 49 ([oLdI 3], tRI .int 0 0) := ⟨_, okC (ok_ildn X rfl dX6_wantNumber_49)
  (okN), ok_ret X hr dX6_wantNumber_50⟩
theorem om_137 : ip_MOk tb en_137 pc_X6_wantNumber := fun x G d X hr hnm => ⟨ob_X6_wantNumber_0 X hr hnm, ⟨ob_X6_wantNumber_1 X hr hnm, ⟨ob_X6_wantNumber_2 X hr hnm, ⟨ob_X6_wantNumber_3 X hr hnm, ⟨ob_X6_wantNumber_4 X hr hnm, ⟨ob_X6_wantNumber_5 X hr hnm, ⟨ob_X6_wantNumber_6 X hr hnm, ⟨ob_X6_wantNumber_7 X hr hnm, trivial⟩⟩⟩⟩⟩⟩⟩⟩
theorem dX6_wantEnd_0 : decode cX6_wantEnd 0 = .ok (.aload_n 0, 1) := by decide +kernel
theorem dX6_wantEnd_1 : decode cX6_wantEnd 1 = .ok (.aload_n 0, 1) := by decide +kernel
theorem dX6_wantEnd_2 : decode cX6_wantEnd 2 = .ok (.getfield 123, 3) := by decide +kernel
theorem dX6_wantEnd_5 : decode cX6_wantEnd 5 = .ok (.ifCond .eq 16, 3) := by decide +kernel
theorem dX6_wantEnd_8 : decode cX6_wantEnd 8 = .ok (.aload_n 0, 1) := by decide +kernel
theorem dX6_wantEnd_9 : decode cX6_wantEnd 9 = .ok (.bipush 59, 2) := by decide +kernel
theorem dX6_wantEnd_11 : decode cX6_wantEnd 11 = .ok (.invokevirtual 130, 3) := by decide +kernel
theorem dX6_wantEnd_14 : decode cX6_wantEnd 14 = .ok (.ifCond .eq 7, 3) := by decide +kernel
theorem dX6_wantEnd_17 : decode cX6_wantEnd 17 = .ok (.iconst 1, 1) := by decide +kernel
theorem dX6_wantEnd_18 : decode cX6_wantEnd 18 = .ok (.goto 4, 3) := by decide +kernel
theorem dX6_wantEnd_21 : decode cX6_wantEnd 21 = .ok (.iconst 0, 1) := by decide +kernel
theorem dX6_wantEnd_22 : decode cX6_wantEnd 22 = .ok (.putfield 123, 3) := by decide +kernel
theorem dX6_wantEnd_25 : decode cX6_wantEnd 25 = .ok (.aload_n 0, 1) := by decide +kernel
theorem dX6_wantEnd_26 : decode cX6_wantEnd 26 = .ok (.getfield 123, 3) := by decide +kernel
theorem dX6_wantEnd_29 : decode cX6_wantEnd 29 = .ok (.ifCond .eq 7, 3) := by decide +kernel
theorem dX6_wantEnd_32 : decode cX6_wantEnd 32 = .ok (.aload_n 0, 1) := by decide +kernel
theorem dX6_wantEnd_33 : decode cX6_wantEnd 33 = .ok (.invokevirtual 127, 3) := by decide +kernel
theorem dX6_wantEnd_36 : decode cX6_wantEnd 36 = .ok (.return_, 1) := by decide +kernel
def pc_X6_wantEnd (i : Nat) : Nat := ([0, 8, 17, 21, 22, 32, 36] : List Nat).getD i 0
set_option maxRecDepth 20000 in
theorem ob_X6_wantEnd_0 {x : ip_Cx} {G : ip_Gl} {d : Nat} (X : ip_X x G tb 1 d 0 0 RX6 cX6_wantEnd) (hr : x.2.2.2.2.2.2.2.2.1.sig.returnType = none) (hnm : x.2.2.2.2.2.2.2.2.1.name = "wantEnd") : ip_okB x G 1 pc_X6_wantEnd 0 ([oLdA 0, oLdA 0, oGet 6 12], tIf (fun a => a = 0) 3 1) := ⟨_, okC (ok_aldn X rfl dX6_wantEnd_0)
  (okC (ok_aldn X rfl dX6_wantEnd_1)
  (okC (ok_get X (ci := 6) rfl (by decide) iw_X6 tw_807 dX6_wantEnd_2)
  (okN))), ok_ifeq X (by decide) rfl dX6_wantEnd_5⟩
set_option maxRecDepth 20000 in
theorem ob_X6_wantEnd_1 {x : ip_Cx} {G : ip_Gl} {d : Nat} (X : ip_X x G tb 1 d 0 0 RX6 cX6_wantEnd) (hr : x.2.2.2.2.2.2.2.2.1.sig.returnType = none) (hnm : x.2.2.2.2.2.2.2.2.1.name = "wantEnd") : ip_okB x G 1 pc_X6_wantEnd 8 ([oLdA 0, oI (59), oCaV (ip_call tb d) 0 0 6 134 2 0 0], tIf (fun a => a = 0) 3 2) := ⟨_, okC (ok_aldn X rfl dX6_wantEnd_8)
  (okC (ok_bi X (by decide) dX6_wantEnd_9)
  (okC (ok_calV X (i := 130) (e := en_134) rfl mt_134 rfl rfl rfl tw_960 tw_962 (Or.inl ⟨_, _, rfl⟩) tp_20 dX6_wantEnd_11)
  (okN))), ok_ifeq X (by decide) rfl dX6_wantEnd_14⟩
set_option maxRecDepth 20000 in
theorem ob_X6_wantEnd_2 {x : ip_Cx} {G : ip_Gl} {d : Nat} (X : ip_X x G tb 1 d 0 0 RX6 cX6_wantEnd) (hr : x.2.2.2.2.2.2.2.2.1.sig.returnType = none) (hnm : x.2.2.2.2.2.2.2.2.1.name = "wantEnd") : ip_okB x G 1 pc_X6_wantEnd 17 ([oI (1)], tGo 4) := ⟨_, okC (ok_ic X (by decide) dX6_wantEnd_17)
  (okN), ok_go X (by decide) dX6_wantEnd_18⟩
set_option maxRecDepth 20000 in
theorem ob_X6_wantEnd_3 {x : ip_Cx} {G : ip_Gl} {d : Nat} (X : ip_X x G tb 1 d 0 0 RX6 cX6_wantEnd) (hr : x.2.2.2.2.2.2.2.2.1.sig.returnType = none) (hnm : x.2.2.2.2.2.2.2.2.1.name = "wantEnd") : ip_okB x G 1 pc_X6_wantEnd 21 ([oI (0)], tGo 4) := ⟨_, okC (ok_ic X (by decide) dX6_wantEnd_21)
  (okN), ok_fall rfl⟩
set_option maxRecDepth 20000 in
theorem ob_X6_wantEnd_4 {x : ip_Cx} {G : ip_Gl} {d : Nat} (X : ip_X x G tb 1 d 0 0 RX6 cX6_wantEnd) (hr : x.2.2.2.2.2.2.2.2.1.sig.returnType = none) (hnm : x.2.2.2.2.2.2.2.2.1.name = "wantEnd") : ip_okB x G 1 pc_X6_wantEnd 22 ([oPut 6 12 .boolean, oLdA 0, oGet 6 12], tIf (fun a => a = 0) 6 5) := ⟨_, okC (ok_put X (ci := 6) rfl (by decide) iw_X6 tyX6_ok nmX6 rfl (Or.inl rfl) tw_807 dX6_wantEnd_22)
  (okC (ok_aldn X rfl dX6_wantEnd_25)
  (okC (ok_get X (ci := 6) rfl (by decide) iw_X6 tw_807 dX6_wantEnd_26)
  (okN))), ok_ifeq X (by decide) rfl dX6_wantEnd_29⟩
set_option maxRecDepth 20000 in
theorem ob_X6_wantEnd_5 {x : ip_Cx} {G : ip_Gl} {d : Nat} (X : ip_X x G tb 1 d 0 0 RX6 cX6_wantEnd) (hr : x.2.2.2.2.2.2.2.2.1.sig.returnType = none) (hnm : x.2.2.2.2.2.2.2.2.1.name = "wantEnd") : ip_okB x G 1 pc_X6_wantEnd 32 ([oLdA 0, oCaV (ip_call tb d) 0 0 6 132 1 0 0], tGo 6) := ⟨_, okC (ok_aldn X rfl dX6_wantEnd_32)
  (okC (ok_calV X (i := 127) (e := en_132) rfl mt_132 rfl rfl rfl tw_893 tw_895 (Or.inl ⟨_, _, rfl⟩) tp_9 dX6_wantEnd_33)
  (okN)), ok_fall rfl⟩
set_option maxRecDepth 20000 in
theorem ob_X6_wantEnd_6 {x : ip_Cx} {G : ip_Gl} {d : Nat} (X : ip_X x G tb 1 d 0 0 RX6 cX6_wantEnd) (hr : x.2.2.2.2.2.2.2.2.1.sig.returnType = none) (hnm : x.2.2.2.2.2.2.2.2.1.name = "wantEnd") : ip_okB x G 1 pc_X6_wantEnd 36 ([], tRV 0 0) := ⟨_, okN, ok_vret X hr dX6_wantEnd_36⟩
theorem om_138 : ip_MOk tb en_138 pc_X6_wantEnd := fun x G d X hr hnm => ⟨ob_X6_wantEnd_0 X hr hnm, ⟨ob_X6_wantEnd_1 X hr hnm, ⟨ob_X6_wantEnd_2 X hr hnm, ⟨ob_X6_wantEnd_3 X hr hnm, ⟨ob_X6_wantEnd_4 X hr hnm, ⟨ob_X6_wantEnd_5 X hr hnm, ⟨ob_X6_wantEnd_6 X hr hnm, trivial⟩⟩⟩⟩⟩⟩⟩
theorem dX6_mayWant_0 : decode cX6_mayWant 0 = .ok (.aload_n 0, 1) := by decide +kernel
theorem dX6_mayWant_1 : decode cX6_mayWant 1 = .ok (.getfield 123, 3) := by decide +kernel
theorem dX6_mayWant_4 : decode cX6_mayWant 4 = .ok (.ifCond .eq 11, 3) := by decide +kernel
theorem dX6_mayWant_7 : decode cX6_mayWant 7 = .ok (.aload_n 0, 1) := by decide +kernel
theorem dX6_mayWant_8 : decode cX6_mayWant 8 = .ok (.lload_n 1, 1) := by decide +kernel
theorem dX6_mayWant_9 : decode cX6_mayWant 9 = .ok (.invokevirtual 101, 3) := by decide +kernel
theorem dX6_mayWant_12 : decode cX6_mayWant 12 = .ok (.ifCond .ne 6, 3) := by decide +kernel
theorem dX6_mayWant_15 : decode cX6_mayWant 15 = .ok (.iload 4, 2) := by decide +kernel
theorem dX6_mayWant_17 : decode cX6_mayWant 17 = .ok (.ireturn, 1) := by decide +kernel
theorem dX6_mayWant_18 : decode cX6_mayWant 18 = .ok (.aload_n 0, 1) := by decide +kernel
theorem dX6_mayWant_19 : decode cX6_mayWant 19 = .ok (.invokevirtual 127, 3) := by decide +kernel
theorem dX6_mayWant_22 : decode cX6_mayWant 22 = .ok (.aload_n 0, 1) := by decide +kernel
theorem dX6_mayWant_23 : decode cX6_mayWant 23 = .ok (.iconst 0, 1) := by decide +kernel
theorem dX6_mayWant_24 : decode cX6_mayWant 24 = .ok (.iload_n 3, 1) := by decide +kernel
theorem dX6_mayWant_25 : decode cX6_mayWant 25 = .ok (.invokevirtual 133, 3) := by decide +kernel
theorem dX6_mayWant_28 : decode cX6_mayWant 28 = .ok (.ireturn, 1) := by decide +kernel
def pc_X6_mayWant (i : Nat) : Nat := ([0, 7, 15, 18] : List Nat).getD i 0
set_option maxRecDepth 20000 in
theorem ob_X6_mayWant_0 {x : ip_Cx} {G : ip_Gl} {d : Nat} (X : ip_X x G tb 5 d 0 0 RX6 cX6_mayWant) (hr : x.2.2.2.2.2.2.2.2.1.sig.returnType = (some .int)) (hnm : x.2.2.2.2.2.2.2.2.1.name = "mayWant") : ip_okB x G 5 pc_X6_mayWant 0 ([oLdA 0, oGet 6 12], tIf (fun a => a = 0) 2 1) := ⟨_, okC (ok_aldn X rfl dX6_mayWant_0)
  (okC (ok_get X (ci := 6) rfl (by decide) iw_X6 tw_807 dX6_mayWant_1)
  (okN)), ok_ifeq X (by decide) rfl dX6_mayWant_4⟩
set_option maxRecDepth 20000 in
theorem ob_X6_mayWant_1 {x : ip_Cx} {G : ip_Gl} {d : Nat} (X : ip_X x G tb 5 d 0 0 RX6 cX6_mayWant) (hr : x.2.2.2.2.2.2.2.2.1.sig.returnType = (some .int)) (hnm : x.2.2.2.2.2.2.2.2.1.name = "mayWant") : ip_okB x G 5 pc_X6_mayWant 7 ([oLdA 0, oLdL 1, oCaV (ip_call tb d) 0 0 6 133 2 0 0], tIf (fun a => a = 0) 2 3) := ⟨_, okC (ok_aldn X rfl dX6_mayWant_7)
  (okC (ok_lldn X rfl dX6_mayWant_8)
  (okC (ok_calV X (i := 101) (e := en_133) rfl mt_133 rfl rfl rfl tw_919 tw_921 (Or.inl ⟨_, _, rfl⟩) tp_13 dX6_mayWant_9)
  (okN))), ok_ifne X (by decide) rfl dX6_mayWant_12⟩
set_option maxRecDepth 20000 in
theorem ob_X6_mayWant_2 {x : ip_Cx} {G : ip_Gl} {d : Nat} (X : ip_X x G tb 5 d 0 0 RX6 cX6_mayWant) (hr : x.2.2.2.2.2.2.2.2.1.sig.returnType = (some .int)) (hnm : x.2.2.2.2.2.2.2.2.1.name = "mayWant") : ip_okB x G 5 pc_X6_mayWant 15 ([oLdI 4], tRI .int 0 0) := ⟨_, okC (ok_ild X dX6_mayWant_15)
  (okN), ok_ret X hr dX6_mayWant_17⟩
set_option maxRecDepth 20000 in
theorem ob_X6_mayWant_3 {x : ip_Cx} {G : ip_Gl} {d : Nat} (X : ip_X x G tb 5 d 0 0 RX6 cX6_mayWant) (hr : x.2.2.2.2.2.2.2.2.1.sig.returnType = (some .int)) (hnm : x.2.2.2.2.2.2.2.2.1.name = "mayWant") : ip_okB x G 5 pc_X6_mayWant 18 ([oLdA 0, oCaV (ip_call tb d) 0 0 6 132 1 0 0, oLdA 0, oI (0), oLdI 3, oCaV (ip_call tb d) 0 0 6 137 3 0 0], tRI .int 0 0) := ⟨_, okC (ok_aldn X rfl dX6_mayWant_18)
  (okC (ok_calV X (i := 127) (e := en_132) rfl mt_132 rfl rfl rfl tw_893 tw_895 (Or.inl ⟨_, _, rfl⟩) tp_9 dX6_mayWant_19)
  (okC (ok_aldn X rfl dX6_mayWant_22)
  (okC (ok_ic X (by decide) dX6_mayWant_23)
  (okC (ok_ildn X rfl dX6_mayWant_24)
  (okC (ok_calV X (i := 133) (e := en_137) rfl mt_137 rfl rfl rfl tw_945 tw_947 (Or.inl ⟨_, _, rfl⟩) tp_17 dX6_mayWant_25)
  (okN)))))), ok_ret X hr dX6_mayWant_28⟩
theorem om_139 : ip_MOk tb en_139 pc_X6_mayWant := fun x G d X hr hnm => ⟨ob_X6_mayWant_0 X hr hnm, ⟨ob_X6_mayWant_1 X hr hnm, ⟨ob_X6_mayWant_2 X hr hnm, ⟨ob_X6_mayWant_3 X hr hnm, trivial⟩⟩⟩⟩
theorem dX6_mayDeny_0 : decode cX6_mayDeny 0 = .ok (.aload_n 0, 1) := by decide +kernel
theorem dX6_mayDeny_1 : decode cX6_mayDeny 1 = .ok (.getfield 123, 3) := by decide +kernel
theorem dX6_mayDeny_4 : decode cX6_mayDeny 4 = .ok (.ifCond .eq 13, 3) := by decide +kernel
theorem dX6_mayDeny_7 : decode cX6_mayDeny 7 = .ok (.aload_n 0, 1) := by decide +kernel
theorem dX6_mayDeny_8 : decode cX6_mayDeny 8 = .ok (.ldc2_w 137, 3) := by decide +kernel
theorem dX6_mayDeny_11 : decode cX6_mayDeny 11 = .ok (.invokevirtual 101, 3) := by decide +kernel
theorem dX6_mayDeny_14 : decode cX6_mayDeny 14 = .ok (.ifCond .ne 5, 3) := by decide +kernel
theorem dX6_mayDeny_17 : decode cX6_mayDeny 17 = .ok (.iconst 0, 1) := by decide +kernel
theorem dX6_mayDeny_18 : decode cX6_mayDeny 18 = .ok (.ireturn, 1) := by decide +kernel
theorem dX6_mayDeny_19 : decode cX6_mayDeny 19 = .ok (.aload_n 0, 1) := by decide +kernel
theorem dX6_mayDeny_20 : decode cX6_mayDeny 20 = .ok (.invokevirtual 127, 3) := by decide +kernel
theorem dX6_mayDeny_23 : decode cX6_mayDeny 23 = .ok (.aload_n 0, 1) := by decide +kernel
theorem dX6_mayDeny_24 : decode cX6_mayDeny 24 = .ok (.aload_n 0, 1) := by decide +kernel
theorem dX6_mayDeny_25 : decode cX6_mayDeny 25 = .ok (.getfield 83, 3) := by decide +kernel
theorem dX6_mayDeny_28 : decode cX6_mayDeny 28 = .ok (.iconst 2, 1) := by decide +kernel
theorem dX6_mayDeny_29 : decode cX6_mayDeny 29 = .ok (.if_icmp .ne 30, 3) := by decide +kernel
theorem dX6_mayDeny_32 : decode cX6_mayDeny 32 = .ok (.aload_n 0, 1) := by decide +kernel
theorem dX6_mayDeny_33 : decode cX6_mayDeny 33 = .ok (.getfield 90, 3) := by decide +kernel
theorem dX6_mayDeny_36 : decode cX6_mayDeny 36 = .ok (.iconst 0, 1) := by decide +kernel
theorem dX6_mayDeny_37 : decode cX6_mayDeny 37 = .ok (.sipush 255, 3) := by decide +kernel
theorem dX6_mayDeny_40 : decode cX6_mayDeny 40 = .ok (.invokestatic 57, 3) := by decide +kernel
theorem dX6_mayDeny_43 : decode cX6_mayDeny 43 = .ok (.ifCond .eq 16, 3) := by decide +kernel
theorem dX6_mayDeny_46 : decode cX6_mayDeny 46 = .ok (.aload_n 0, 1) := by decide +kernel
theorem dX6_mayDeny_47 : decode cX6_mayDeny 47 = .ok (.getfield 90, 3) := by decide +kernel
theorem dX6_mayDeny_50 : decode cX6_mayDeny 50 = .ok (.iload_n 1, 1) := by decide +kernel
theorem dX6_mayDeny_51 : decode cX6_mayDeny 51 = .ok (.iand, 1) := by decide +kernel
theorem dX6_mayDeny_52 : decode cX6_mayDeny 52 = .ok (.ifCond .ne 7, 3) := by decide +kernel
theorem dX6_mayDeny_55 : decode cX6_mayDeny 55 = .ok (.iconst 1, 1) := by decide +kernel
theorem dX6_mayDeny_56 : decode cX6_mayDeny 56 = .ok (.goto 4, 3) := by decide +kernel
theorem dX6_mayDeny_59 : decode cX6_mayDeny 59 = .ok (.iconst 0, 1) := by decide +kernel
theorem dX6_mayDeny_60 : decode cX6_mayDeny 60 = .ok (.putfield 123, 3) := by decide +kernel
theorem dX6_mayDeny_63 : decode cX6_mayDeny 63 = .ok (.aload_n 0, 1) := by decide +kernel
theorem dX6_mayDeny_64 : decode cX6_mayDeny 64 = .ok (.iconst 0, 1) := by decide +kernel
theorem dX6_mayDeny_65 : decode cX6_mayDeny 65 = .ok (.sipush 255, 3) := by decide +kernel
theorem dX6_mayDeny_68 : decode cX6_mayDeny 68 = .ok (.invokevirtual 133, 3) := by decide +kernel
theorem dX6_mayDeny_71 : decode cX6_mayDeny 71 = .ok (.ireturn, 1) := by decide +kernel
def pc_X6_mayDeny (i : Nat) : Nat := ([0, 7, 17, 19, 32, 46, 55, 59, 60] : List Nat).getD i 0
set_option maxRecDepth 20000 in
theorem ob_X6_mayDeny_0 {x : ip_Cx} {G : ip_Gl} {d : Nat} (X : ip_X x G tb 2 d 0 0 RX6 cX6_mayDeny) (hr : x.2.2.2.2.2.2.2.2.1.sig.returnType = (some .int)) (hnm : x.2.2.2.2.2.2.2.2.1.name = "mayDeny") : ip_okB x G 2 pc_X6_mayDeny 0 ([oLdA 0, oGet 6 12], tIf (fun a => a = 0) 2 1) := ⟨_, okC (ok_aldn X rfl dX6_mayDeny_0)
  (okC (ok_get X (ci := 6) rfl (by decide) iw_X6 tw_807 dX6_mayDeny_1)
  (okN)), ok_ifeq X (by decide) rfl dX6_mayDeny_4⟩
set_option maxRecDepth 20000 in
theorem ob_X6_mayDeny_1 {x : ip_Cx} {G : ip_Gl} {d : Nat} (X : ip_X x G tb 2 d 0 0 RX6 cX6_mayDeny) (hr : x.2.2.2.2.2.2.2.2.1.sig.returnType = (some .int)) (hnm : x.2.2.2.2.2.2.2.2.1.name = "mayDeny") : ip_okB x G 2 pc_X6_mayDeny 7 ([oLdA 0, oL (60335110), oCaV (ip_call tb d) 0 0 6 133 2 0 0], tIf (fun a => a = 0) 2 3) := ⟨_, okC (ok_aldn X rfl dX6_mayDeny_7)
  (okC (ok_ldc2 X tw_955 dX6_mayDeny_8)
  (okC (ok_calV X (i := 101) (e := en_133) rfl mt_133 rfl rfl rfl tw_919 tw_921 (Or.inl ⟨_, _, rfl⟩) tp_13 dX6_mayDeny_11)
  (okN))), ok_ifne X (by decide) rfl dX6_mayDeny_14⟩
set_option maxRecDepth 20000 in
theorem ob_X6_mayDeny_2 {x : ip_Cx} {G : ip_Gl} {d : Nat} (X : ip_X x G tb 2 d 0 0 RX6 cX6_mayDeny) (hr : x.2.2.2.2.2.2.2.2.1.sig.returnType = (some .int)) (hnm : x.2.2.2.2.2.2.2.2.1.name = "mayDeny") : ip_okB x G 2 pc_X6_mayDeny 17 ([oI (0)], tRI .int 0 0) := ⟨_, okC (ok_ic X (by decide) dX6_mayDeny_17)
  (okN), ok_ret X hr dX6_mayDeny_18⟩
set_option maxRecDepth 20000 in
theorem ob_X6_mayDeny_3 {x : ip_Cx} {G : ip_Gl} {d : Nat} (X : ip_X x G tb 2 d 0 0 RX6 cX6_mayDeny) (hr : x.2.2.2.2.2.2.2.2.1.sig.returnType = (some .int)) (hnm : x.2.2.2.2.2.2.2.2.1.name = "mayDeny") : ip_okB x G 2 pc_X6_mayDeny 19 ([oLdA 0, oCaV (ip_call tb d) 0 0 6 132 1 0 0, oLdA 0, oLdA 0, oGet 6 7, oI (2)], tCm (fun a b => a = b) 4 7) := ⟨_, okC (ok_aldn X rfl dX6_mayDeny_19)
  (okC (ok_calV X (i := 127) (e := en_132) rfl mt_132 rfl rfl rfl tw_893 tw_895 (Or.inl ⟨_, _, rfl⟩) tp_9 dX6_mayDeny_20)
  (okC (ok_aldn X rfl dX6_mayDeny_23)
  (okC (ok_aldn X rfl dX6_mayDeny_24)
  (okC (ok_get X (ci := 6) rfl (by decide) iw_X6 tw_802 dX6_mayDeny_25)
  (okC (ok_ic X (by decide) dX6_mayDeny_28)
  (okN)))))), ok_cmne X (by decide) rfl dX6_mayDeny_29⟩
set_option maxRecDepth 20000 in
theorem ob_X6_mayDeny_4 {x : ip_Cx} {G : ip_Gl} {d : Nat} (X : ip_X x G tb 2 d 0 0 RX6 cX6_mayDeny) (hr : x.2.2.2.2.2.2.2.2.1.sig.returnType = (some .int)) (hnm : x.2.2.2.2.2.2.2.2.1.name = "mayDeny") : ip_okB x G 2 pc_X6_mayDeny 32 ([oLdA 0, oGet 6 11, oI (0), oI (255), oCal (ip_call tb d) 0 0 120 3 0 0], tIf (fun a => a = 0) 7 5) := ⟨_, okC (ok_aldn X rfl dX6_mayDeny_32)
  (okC (ok_get X (ci := 6) rfl (by decide) iw_X6 tw_806 dX6_mayDeny_33)
  (okC (ok_ic X (by decide) dX6_mayDeny_36)
  (okC (ok_si X (by decide) dX6_mayDeny_37)
  (okC (ok_calS X (i := 57) (e := en_120) rfl mt_120 rfl rfl rfl tw_885 tw_886 dX6_mayDeny_40)
  (okN))))), ok_ifeq X (by decide) rfl dX6_mayDeny_43⟩
set_option maxRecDepth 20000 in
theorem ob_X6_mayDeny_5 {x : ip_Cx} {G : ip_Gl} {d : Nat} (X : ip_X x G tb 2 d 0 0 RX6 cX6_mayDeny) (hr : x.2.2.2.2.2.2.2.2.1.sig.returnType = (some .int)) (hnm : x.2.2.2.2.2.2.2.2.1.name = "mayDeny") : ip_okB x G 2 pc_X6_mayDeny 46 ([oLdA 0, oGet 6 11, oLdI 1, oBI (fun a b => a &&& b)], tIf (fun a => a = 0) 6 7) := ⟨_, okC (ok_aldn X rfl dX6_mayDeny_46)
  (okC (ok_get X (ci := 6) rfl (by decide) iw_X6 tw_806 dX6_mayDeny_47)
  (okC (ok_ildn X rfl dX6_mayDeny_50)
  (okC (ok_iand X dX6_mayDeny_51)
  (okN)))), ok_ifne X (by decide) rfl dX6_mayDeny_52⟩
set_option maxRecDepth 20000 in
theorem ob_X6_mayDeny_6 {x : ip_Cx} {G : ip_Gl} {d : Nat} (X : ip_X x G tb 2 d 0 0 RX6 cX6_mayDeny) (hr : x.2.2.2.2.2.2.2.2.1.sig.returnType = (some .int)) (hnm : x.2.2.2.2.2.2.2.2.1.name = "mayDeny") : ip_okB x G 2 pc_X6_mayDeny 55 ([oI (1)], tGo 8) := ⟨_, okC (ok_ic X (by decide) dX6_mayDeny_55)
  (okN), ok_go X (by decide) dX6_mayDeny_56⟩
set_option maxRecDepth 20000 in
theorem ob_X6_mayDeny_7 {x : ip_Cx} {G : ip_Gl} {d : Nat} (X : ip_X x G tb 2 d 0 0 RX6 cX6_mayDeny) (hr : x.2.2.2.2.2.2.2.2.1.sig.returnType = (some .int)) (hnm : x.2.2.2.2.2.2.2.2.1.name = "mayDeny") : ip_okB x G 2 pc_X6_mayDeny 59 ([oI (0)], tGo 8) := ⟨_, okC (ok_ic X (by decide) dX6_mayDeny_59)
  (okN), ok_fall rfl⟩
set_option maxRecDepth 20000 in
theorem ob_X6_mayDeny_8 {x : ip_Cx} {G : ip_Gl} {d : Nat} (X : ip_X x G tb 2 d 0 0 RX6 cX6_mayDeny) (hr : x.2.2.2.2.2.2.2.2.1.sig.returnType = (some .int)) (hnm : x.2.2.2.2.2.2.2.2.1.name = "mayDeny") : ip_okB x G 2 pc_X6_mayDeny 60 ([oPut 6 12 .boolean, oLdA 0, oI (0), oI (255), oCaV (ip_call tb d) 0 0 6 137 3 0 0], tRI .int 0 0) := ⟨_, okC (ok_put X (ci := 6) rfl (by decide) iw_X6 tyX6_ok nmX6 rfl (Or.inl rfl) tw_807 dX6_mayDeny_60)
  (okC (ok_aldn X rfl dX6_mayDeny_63)
  (okC (ok_ic X (by decide) dX6_mayDeny_64)
  (okC (ok_si X (by decide) dX6_mayDeny_65)
  (okC (ok_calV X (i := 133) (e := en_137) rfl mt_137 rfl rfl rfl tw_945 tw_947 (Or.inl ⟨_, _, rfl⟩) tp_17 dX6_mayDeny_68)
  (okN))))), ok_ret X hr dX6_mayDeny_71⟩
theorem om_140 : ip_MOk tb en_140 pc_X6_mayDeny := fun x G d X hr hnm => ⟨ob_X6_mayDeny_0 X hr hnm, ⟨ob_X6_mayDeny_1 X hr hnm, ⟨ob_X6_mayDeny_2 X hr hnm, ⟨ob_X6_mayDeny_3 X hr hnm, ⟨ob_X6_mayDeny_4 X hr hnm, ⟨ob_X6_mayDeny_5 X hr hnm, ⟨ob_X6_mayDeny_6 X hr hnm, ⟨ob_X6_mayDeny_7 X hr hnm, ⟨ob_X6_mayDeny_8 X hr hnm, trivial⟩⟩⟩⟩⟩⟩⟩⟩⟩
theorem dX6_wantOne_0 : decode cX6_wantOne 0 = .ok (.aload_n 0, 1) := by decide +kernel
theorem dX6_wantOne_1 : decode cX6_wantOne 1 = .ok (.aload_n 0, 1) := by decide +kernel
theorem dX6_wantOne_2 : decode cX6_wantOne 2 = .ok (.getfield 13, 3) := by decide +kernel
theorem dX6_wantOne_5 : decode cX6_wantOne 5 = .ok (.bipush 6, 2) := by decide +kernel
theorem dX6_wantOne_7 : decode cX6_wantOne 7 = .ok (.iaload, 1) := by decide +kernel
theorem dX6_wantOne_8 : decode cX6_wantOne 8 = .ok (.bipush 8, 2) := by decide +kernel
theorem dX6_wantOne_10 : decode cX6_wantOne 10 = .ok (.if_icmp .ge 7, 3) := by decide +kernel
theorem dX6_wantOne_13 : decode cX6_wantOne 13 = .ok (.iconst 1, 1) := by decide +kernel
theorem dX6_wantOne_14 : decode cX6_wantOne 14 = .ok (.goto 4, 3) := by decide +kernel
theorem dX6_wantOne_17 : decode cX6_wantOne 17 = .ok (.iconst 0, 1) := by decide +kernel
theorem dX6_wantOne_18 : decode cX6_wantOne 18 = .ok (.putfield 123, 3) := by decide +kernel
theorem dX6_wantOne_21 : decode cX6_wantOne 21 = .ok (.aload_n 0, 1) := by decide +kernel
theorem dX6_wantOne_22 : decode cX6_wantOne 22 = .ok (.getfield 123, 3) := by decide +kernel
theorem dX6_wantOne_25 : decode cX6_wantOne 25 = .ok (.ifCond .eq 7, 3) := by decide +kernel
theorem dX6_wantOne_28 : decode cX6_wantOne 28 = .ok (.aload_n 0, 1) := by decide +kernel
theorem dX6_wantOne_29 : decode cX6_wantOne 29 = .ok (.invokevirtual 127, 3) := by decide +kernel
theorem dX6_wantOne_32 : decode cX6_wantOne 32 = .ok (.aload_n 0, 1) := by decide +kernel
theorem dX6_wantOne_33 : decode cX6_wantOne 33 = .ok (.ldc2_w 139, 3) := by decide +kernel
theorem dX6_wantOne_36 : decode cX6_wantOne 36 = .ok (.bipush 99, 2) := by decide +kernel
theorem dX6_wantOne_38 : decode cX6_wantOne 38 = .ok (.bipush 10, 2) := by decide +kernel
theorem dX6_wantOne_40 : decode cX6_wantOne 40 = .ok (.invokevirtual 141, 3) := by decide +kernel
theorem dX6_wantOne_43 : decode cX6_wantOne 43 = .ok (.istore_n 2, 1) := by decide +kernel
theorem dX6_wantOne_44 : decode cX6_wantOne 44 = .ok (.aload_n 0, 1) := by decide +kernel
theorem dX6_wantOne_45 : decode cX6_wantOne 45 = .ok (.ldc2_w 145, 3) := by decide +kernel
theorem dX6_wantOne_48 : decode cX6_wantOne 48 = .ok (.bipush 20, 2) := by decide +kernel
theorem dX6_wantOne_50 : decode cX6_wantOne 50 = .ok (.iconst 0, 1) := by decide +kernel
theorem dX6_wantOne_51 : decode cX6_wantOne 51 = .ok (.invokevirtual 141, 3) := by decide +kernel
theorem dX6_wantOne_54 : decode cX6_wantOne 54 = .ok (.istore_n 3, 1) := by decide +kernel
theorem dX6_wantOne_55 : decode cX6_wantOne 55 = .ok (.aload_n 0, 1) := by decide +kernel
theorem dX6_wantOne_56 : decode cX6_wantOne 56 = .ok (.ldc2_w 147, 3) := by decide +kernel
theorem dX6_wantOne_59 : decode cX6_wantOne 59 = .ok (.sipush 255, 3) := by decide +kernel
theorem dX6_wantOne_62 : decode cX6_wantOne 62 = .ok (.iconst 0, 1) := by decide +kernel
theorem dX6_wantOne_63 : decode cX6_wantOne 63 = .ok (.invokevirtual 141, 3) := by decide +kernel
theorem dX6_wantOne_66 : decode cX6_wantOne 66 = .ok (.istore 4, 2) := by decide +kernel
theorem dX6_wantOne_68 : decode cX6_wantOne 68 = .ok (.aload_n 0, 1) := by decide +kernel
theorem dX6_wantOne_69 : decode cX6_wantOne 69 = .ok (.iload 4, 2) := by decide +kernel
theorem dX6_wantOne_71 : decode cX6_wantOne 71 = .ok (.invokevirtual 149, 3) := by decide +kernel
theorem dX6_wantOne_74 : decode cX6_wantOne 74 = .ok (.istore 5, 2) := by decide +kernel
theorem dX6_wantOne_76 : decode cX6_wantOne 76 = .ok (.aload_n 0, 1) := by decide +kernel
theorem dX6_wantOne_77 : decode cX6_wantOne 77 = .ok (.invokevirtual 152, 3) := by decide +kernel
theorem dX6_wantOne_80 : decode cX6_wantOne 80 = .ok (.aload_n 0, 1) := by decide +kernel
theorem dX6_wantOne_81 : decode cX6_wantOne 81 = .ok (.getfield 123, 3) := by decide +kernel
theorem dX6_wantOne_84 : decode cX6_wantOne 84 = .ok (.ifCond .eq 89, 3) := by decide +kernel
theorem dX6_wantOne_87 : decode cX6_wantOne 87 = .ok (.bipush 8, 2) := by decide +kernel
theorem dX6_wantOne_89 : decode cX6_wantOne 89 = .ok (.bipush 6, 2) := by decide +kernel
theorem dX6_wantOne_91 : decode cX6_wantOne 91 = .ok (.aload_n 0, 1) := by decide +kernel
theorem dX6_wantOne_92 : decode cX6_wantOne 92 = .ok (.getfield 13, 3) := by decide +kernel
theorem dX6_wantOne_95 : decode cX6_wantOne 95 = .ok (.bipush 6, 2) := by decide +kernel
theorem dX6_wantOne_97 : decode cX6_wantOne 97 = .ok (.iaload, 1) := by decide +kernel
theorem dX6_wantOne_98 : decode cX6_wantOne 98 = .ok (.imul, 1) := by decide +kernel
theorem dX6_wantOne_99 : decode cX6_wantOne 99 = .ok (.iadd, 1) := by decide +kernel
theorem dX6_wantOne_100 : decode cX6_wantOne 100 = .ok (.istore 6, 2) := by decide +kernel
theorem dX6_wantOne_102 : decode cX6_wantOne 102 = .ok (.aload_n 0, 1) := by decide +kernel
theorem dX6_wantOne_103 : decode cX6_wantOne 103 = .ok (.getfield 13, 3) := by decide +kernel
theorem dX6_wantOne_106 : decode cX6_wantOne 106 = .ok (.iload 6, 2) := by decide +kernel
theorem dX6_wantOne_108 : decode cX6_wantOne 108 = .ok (.iload_n 1, 1) := by decide +kernel
theorem dX6_wantOne_109 : decode cX6_wantOne 109 = .ok (.iastore, 1) := by decide +kernel
theorem dX6_wantOne_110 : decode cX6_wantOne 110 = .ok (.aload_n 0, 1) := by decide +kernel
theorem dX6_wantOne_111 : decode cX6_wantOne 111 = .ok (.getfield 13, 3) := by decide +kernel
theorem dX6_wantOne_114 : decode cX6_wantOne 114 = .ok (.iload 6, 2) := by decide +kernel
theorem dX6_wantOne_116 : decode cX6_wantOne 116 = .ok (.iconst 1, 1) := by decide +kernel
theorem dX6_wantOne_117 : decode cX6_wantOne 117 = .ok (.iadd, 1) := by decide +kernel
theorem dX6_wantOne_118 : decode cX6_wantOne 118 = .ok (.iload_n 2, 1) := by decide +kernel
theorem dX6_wantOne_119 : decode cX6_wantOne 119 = .ok (.iastore, 1) := by decide +kernel
theorem dX6_wantOne_120 : decode cX6_wantOne 120 = .ok (.aload_n 0, 1) := by decide +kernel
theorem dX6_wantOne_121 : decode cX6_wantOne 121 = .ok (.getfield 13, 3) := by decide +kernel
theorem dX6_wantOne_124 : decode cX6_wantOne 124 = .ok (.iload 6, 2) := by decide +kernel
theorem dX6_wantOne_126 : decode cX6_wantOne 126 = .ok (.iconst 2, 1) := by decide +kernel
theorem dX6_wantOne_127 : decode cX6_wantOne 127 = .ok (.iadd, 1) := by decide +kernel
theorem dX6_wantOne_128 : decode cX6_wantOne 128 = .ok (.iload_n 3, 1) := by decide +kernel
theorem dX6_wantOne_129 : decode cX6_wantOne 129 = .ok (.iastore, 1) := by decide +kernel
theorem dX6_wantOne_130 : decode cX6_wantOne 130 = .ok (.aload_n 0, 1) := by decide +kernel
theorem dX6_wantOne_131 : decode cX6_wantOne 131 = .ok (.getfield 13, 3) := by decide +kernel
theorem dX6_wantOne_134 : decode cX6_wantOne 134 = .ok (.iload 6, 2) := by decide +kernel
theorem dX6_wantOne_136 : decode cX6_wantOne 136 = .ok (.iconst 3, 1) := by decide +kernel
theorem dX6_wantOne_137 : decode cX6_wantOne 137 = .ok (.iadd, 1) := by decide +kernel
theorem dX6_wantOne_138 : decode cX6_wantOne 138 = .ok (.iload 4, 2) := by decide +kernel
theorem dX6_wantOne_140 : decode cX6_wantOne 140 = .ok (.iastore, 1) := by decide +kernel
theorem dX6_wantOne_141 : decode cX6_wantOne 141 = .ok (.aload_n 0, 1) := by decide +kernel
theorem dX6_wantOne_142 : decode cX6_wantOne 142 = .ok (.getfield 13, 3) := by decide +kernel
theorem dX6_wantOne_145 : decode cX6_wantOne 145 = .ok (.iload 6, 2) := by decide +kernel
theorem dX6_wantOne_147 : decode cX6_wantOne 147 = .ok (.iconst 4, 1) := by decide +kernel
theorem dX6_wantOne_148 : decode cX6_wantOne 148 = .ok (.iadd, 1) := by decide +kernel
theorem dX6_wantOne_149 : decode cX6_wantOne 149 = .ok (.iload 5, 2) := by decide +kernel
theorem dX6_wantOne_151 : decode cX6_wantOne 151 = .ok (.iastore, 1) := by decide +kernel
theorem dX6_wantOne_152 : decode cX6_wantOne 152 = .ok (.aload_n 0, 1) := by decide +kernel
theorem dX6_wantOne_153 : decode cX6_wantOne 153 = .ok (.getfield 13, 3) := by decide +kernel
theorem dX6_wantOne_156 : decode cX6_wantOne 156 = .ok (.iload 6, 2) := by decide +kernel
theorem dX6_wantOne_158 : decode cX6_wantOne 158 = .ok (.iconst 5, 1) := by decide +kernel
theorem dX6_wantOne_159 : decode cX6_wantOne 159 = .ok (.iadd, 1) := by decide +kernel
theorem dX6_wantOne_160 : decode cX6_wantOne 160 = .ok (.iconst 0, 1) := by decide +kernel
theorem dX6_wantOne_161 : decode cX6_wantOne 161 = .ok (.iastore, 1) := by decide +kernel
theorem dX6_wantOne_162 : decode cX6_wantOne 162 = .ok (.aload_n 0, 1) := by decide +kernel
theorem dX6_wantOne_163 : decode cX6_wantOne 163 = .ok (.getfield 13, 3) := by decide +kernel
theorem dX6_wantOne_166 : decode cX6_wantOne 166 = .ok (.bipush 6, 2) := by decide +kernel
theorem dX6_wantOne_168 : decode cX6_wantOne 168 = .ok (.dup2, 1) := by decide +kernel
theorem dX6_wantOne_169 : decode cX6_wantOne 169 = .ok (.iaload, 1) := by decide +kernel
theorem dX6_wantOne_170 : decode cX6_wantOne 170 = .ok (.iconst 1, 1) := by decide +kernel
theorem dX6_wantOne_171 : decode cX6_wantOne 171 = .ok (.iadd, 1) := by decide +kernel
theorem dX6_wantOne_172 : decode cX6_wantOne 172 = .ok (.iastore, 1) := by decide +kernel
theorem dX6_wantOne_173 : decode cX6_wantOne 173 = .ok (.return_, 1) := by decide +kernel
def pc_X6_wantOne (i : Nat) : Nat := ([0, 13, 17, 18, 28, 32, 87, 173] : List Nat).getD i 0
set_option maxRecDepth 20000 in
theorem ob_X6_wantOne_0 {x : ip_Cx} {G : ip_Gl} {d : Nat} (X : ip_X x G tb 7 d 0 0 RX6 cX6_wantOne) (hr : x.2.2.2.2.2.2.2.2.1.sig.returnType = none) (hnm : x.2.2.2.2.2.2.2.2.1.name = "wantOne") : ip_okB x G 7 pc_X6_wantOne 0 ([oLdA 0, oLdA 0, oGet 6 1, oI (6), oAldI, oI (8)], tCm (fun a b => a < b) 1 2) := ⟨_, okC (ok_aldn X rfl dX6_wantOne_0)
  (okC (ok_aldn X rfl dX6_wantOne_1)
  (okC (ok_get X (ci := 6) rfl (by decide) iw_X6 tw_796 dX6_wantOne_2)
  (okC (ok_bi X (by decide) dX6_wantOne_5)
  (okC (ok_iald X dX6_wantOne_7)
  (okC (ok_bi X (by decide) dX6_wantOne_8)
  (okN)))))), ok_cmge X (by decide) rfl dX6_wantOne_10⟩
set_option maxRecDepth 20000 in
theorem ob_X6_wantOne_1 {x : ip_Cx} {G : ip_Gl} {d : Nat} (X : ip_X x G tb 7 d 0 0 RX6 cX6_wantOne) (hr : x.2.2.2.2.2.2.2.2.1.sig.returnType = none) (hnm : x.2.2.2.2.2.2.2.2.1.name = "wantOne") : ip_okB x G 7 pc_X6_wantOne 13 ([oI (1)], tGo 3) := ⟨_, okC (ok_ic X (by decide) dX6_wantOne_13)
  (okN), ok_go X (by decide) dX6_wantOne_14⟩
set_option maxRecDepth 20000 in
theorem ob_X6_wantOne_2 {x : ip_Cx} {G : ip_Gl} {d : Nat} (X : ip_X x G tb 7 d 0 0 RX6 cX6_wantOne) (hr : x.2.2.2.2.2.2.2.2.1.sig.returnType = none) (hnm : x.2.2.2.2.2.2.2.2.1.name = "wantOne") : ip_okB x G 7 pc_X6_wantOne 17 ([oI (0)], tGo 3) := ⟨_, okC (ok_ic X (by decide) dX6_wantOne_17)
  (okN), ok_fall rfl⟩
set_option maxRecDepth 20000 in
theorem ob_X6_wantOne_3 {x : ip_Cx} {G : ip_Gl} {d : Nat} (X : ip_X x G tb 7 d 0 0 RX6 cX6_wantOne) (hr : x.2.2.2.2.2.2.2.2.1.sig.returnType = none) (hnm : x.2.2.2.2.2.2.2.2.1.name = "wantOne") : ip_okB x G 7 pc_X6_wantOne 18 ([oPut 6 12 .boolean, oLdA 0, oGet 6 12], tIf (fun a => a = 0) 5 4) := ⟨_, okC (ok_put X (ci := 6) rfl (by decide) iw_X6 tyX6_ok nmX6 rfl (Or.inl rfl) tw_807 dX6_wantOne_18)
  (okC (ok_aldn X rfl dX6_wantOne_21)
  (okC (ok_get X (ci := 6) rfl (by decide) iw_X6 tw_807 dX6_wantOne_22)
  (okN))), ok_ifeq X (by decide) rfl dX6_wantOne_25⟩
set_option maxRecDepth 20000 in
theorem ob_X6_wantOne_4 {x : ip_Cx} {G : ip_Gl} {d : Nat} (X : ip_X x G tb 7 d 0 0 RX6 cX6_wantOne) (hr : x.2.2.2.2.2.2.2.2.1.sig.returnType = none) (hnm : x.2.2.2.2.2.2.2.2.1.name = "wantOne") : ip_okB x G 7 pc_X6_wantOne 28 ([oLdA 0, oCaV (ip_call tb d) 0 0 6 132 1 0 0], tGo 5) := ⟨_, okC (ok_aldn X rfl dX6_wantOne_28)
  (okC (ok_calV X (i := 127) (e := en_132) rfl mt_132 rfl rfl rfl tw_893 tw_895 (Or.inl ⟨_, _, rfl⟩) tp_9 dX6_wantOne_29)
  (okN)), ok_fall rfl⟩
set_option maxRecDepth 20000 in
theorem ob_X6_wantOne_5 {x : ip_Cx} {G : ip_Gl} {d : Nat} (X : ip_X x G tb 7 d 0 0 RX6 cX6_wantOne) (hr : x.2.2.2.2.2.2.2.2.1.sig.returnType = none) (hnm : x.2.2.2.2.2.2.2.2.1.name = "wantOne") : ip_okB x G 7 pc_X6_wantOne 32 ([oLdA 0, oL (332864552), oI (99), oI (10), oCaV (ip_call tb d) 0 0 6 139 4 0 0, oStI 2, oLdA 0, oL (47), oI (20), oI (0), oCaV (ip_call tb d) 0 0 6 139 4 0 0, oStI 3, oLdA 0, oL (375400), oI (255), oI (0), oCaV (ip_call tb d) 0 0 6 139 4 0 0, oStI 4, oLdA 0, oLdI 4, oCaV (ip_call tb d) 0 0 6 140 2 0 0, oStI 5, oLdA 0, oCaV (ip_call tb d) 0 0 6 138 1 0 0, oLdA 0, oGet 6 12], tIf (fun a => a = 0) 7 6) := ⟨_, okC (ok_aldn X rfl dX6_wantOne_32)
  (okC (ok_ldc2 X tw_940 dX6_wantOne_33)
  (okC (ok_bi X (by decide) dX6_wantOne_36)
  (okC (ok_bi X (by decide) dX6_wantOne_38)
  (okC (ok_calV X (i := 141) (e := en_139) rfl mt_139 rfl rfl rfl tw_941 tw_943 (Or.inl ⟨_, _, rfl⟩) tp_16 dX6_wantOne_40)
  (okC (ok_istn X rfl (by decide) dX6_wantOne_43)
  (okC (ok_aldn X rfl dX6_wantOne_44)
  (okC (ok_ldc2 X tw_949 dX6_wantOne_45)
  (okC (ok_bi X (by decide) dX6_wantOne_48)
  (okC (ok_ic X (by decide) dX6_wantOne_50)
  (okC (ok_calV X (i := 141) (e := en_139) rfl mt_139 rfl rfl rfl tw_941 tw_943 (Or.inl ⟨_, _, rfl⟩) tp_16 dX6_wantOne_51)
  (okC (ok_istn X rfl (by decide) dX6_wantOne_54)
  (okC (ok_aldn X rfl dX6_wantOne_55)
  (okC (ok_ldc2 X tw_950 dX6_wantOne_56)
  (okC (ok_si X (by decide) dX6_wantOne_59)
  (okC (ok_ic X (by decide) dX6_wantOne_62)
  (okC (ok_calV X (i := 141) (e := en_139) rfl mt_139 rfl rfl rfl tw_941 tw_943 (Or.inl ⟨_, _, rfl⟩) tp_16 dX6_wantOne_63)
  (okC (ok_ist X (by decide) dX6_wantOne_66)
  (okC (ok_aldn X rfl dX6_wantOne_68)
  (okC (ok_ild X dX6_wantOne_69)
  (okC (ok_calV X (i := 149) (e := en_140) rfl mt_140 rfl rfl rfl tw_951 tw_953 (Or.inl ⟨_, _, rfl⟩) tp_18 dX6_wantOne_71)
  (okC (ok_ist X (by decide) dX6_wantOne_74)
  (okC (ok_aldn X rfl dX6_wantOne_76)
  (okC (ok_calV X (i := 152) (e := en_138) rfl mt_138 rfl rfl rfl tw_956 tw_958 (Or.inl ⟨_, _, rfl⟩) tp_19 dX6_wantOne_77)
  (okC (ok_aldn X rfl dX6_wantOne_80)
  (okC (ok_get X (ci := 6) rfl (by decide) iw_X6 tw_807 dX6_wantOne_81)
  (okN)))))))))))))))))))))))))), ok_ifeq X (by decide) rfl dX6_wantOne_84⟩
set_option maxRecDepth 20000 in
theorem ob_X6_wantOne_6 {x : ip_Cx} {G : ip_Gl} {d : Nat} (X : ip_X x G tb 7 d 0 0 RX6 cX6_wantOne) (hr : x.2.2.2.2.2.2.2.2.1.sig.returnType = none) (hnm : x.2.2.2.2.2.2.2.2.1.name = "wantOne") : ip_okB x G 7 pc_X6_wantOne 87 ([oI (8), oI (6), oLdA 0, oGet 6 1, oI (6), oAldI, oBI (fun a b => a * b), oBI (fun a b => a + b), oStI 6, oLdA 0, oGet 6 1, oLdI 6, oLdI 1, oAstI, oLdA 0, oGet 6 1, oLdI 6, oI (1), oBI (fun a b => a + b), oLdI 2, oAstI, oLdA 0, oGet 6 1, oLdI 6, oI (2), oBI (fun a b => a + b), oLdI 3, oAstI, oLdA 0, oGet 6 1, oLdI 6, oI (3), oBI (fun a b => a + b), oLdI 4, oAstI, oLdA 0, oGet 6 1, oLdI 6, oI (4), oBI (fun a b => a + b), oLdI 5, oAstI, oLdA 0, oGet 6 1, oLdI 6, oI (5), oBI (fun a b => a + b), oI (0), oAstI, oLdA 0, oGet 6 1, oI (6), oDp2, oAldI, oI (1), oBI (fun a b => a + b), oAstI], tGo 7) := ⟨_, okC (ok_bi X (by decide) dX6_wantOne_87)
  (okC (ok_bi X (by decide) dX6_wantOne_89)
  (okC (ok_aldn X rfl dX6_wantOne_91)
  (okC (ok_get X (ci := 6) rfl (by decide) iw_X6 tw_796 dX6_wantOne_92)
  (okC (ok_bi X (by decide) dX6_wantOne_95)
  (okC (ok_iald X dX6_wantOne_97)
  (okC (ok_imul X dX6_wantOne_98)
  (okC (ok_iadd X dX6_wantOne_99)
  (okC (ok_ist X (by decide) dX6_wantOne_100)
  (okC (ok_aldn X rfl dX6_wantOne_102)
  (okC (ok_get X (ci := 6) rfl (by decide) iw_X6 tw_796 dX6_wantOne_103)
  (okC (ok_ild X dX6_wantOne_106)
  (okC (ok_ildn X rfl dX6_wantOne_108)
  (okC (ok_iast X dX6_wantOne_109)
  (okC (ok_aldn X rfl dX6_wantOne_110)
  (okC (ok_get X (ci := 6) rfl (by decide) iw_X6 tw_796 dX6_wantOne_111)
  (okC (ok_ild X dX6_wantOne_114)
  (okC (ok_ic X (by decide) dX6_wantOne_116)
  (okC (ok_iadd X dX6_wantOne_117)
  (okC (ok_ildn X rfl dX6_wantOne_118)
  (okC (ok_iast X dX6_wantOne_119)
  (okC (ok_aldn X rfl dX6_wantOne_120)
  (okC (ok_get X (ci := 6) rfl (by decide) iw_X6 tw_796 dX6_wantOne_121)
  (okC (ok_ild X dX6_wantOne_124)
  (okC (ok_ic X (by decide) dX6_wantOne_126)
  (okC (ok_iadd X dX6_wantOne_127)
  (okC (ok_ildn X rfl dX6_wantOne_128)
  (okC (ok_iast X dX6_wantOne_129)
  (okC (ok_aldn X rfl dX6_wantOne_130)
  (okC (ok_get X (ci := 6) rfl (by decide) iw_X6 tw_796 dX6_wantOne_131)
  (okC (ok_ild X dX6_wantOne_134)
  (okC (ok_ic X (by decide) dX6_wantOne_136)
  (okC (ok_iadd X dX6_wantOne_137)
  (okC (ok_ild X dX6_wantOne_138)
  (okC (ok_iast X dX6_wantOne_140)
  (okC (ok_aldn X rfl dX6_wantOne_141)
  (okC (ok_get X (ci := 6) rfl (by decide) iw_X6 tw_796 dX6_wantOne_142)
  (okC (ok_ild X dX6_wantOne_145)
  (okC (ok_ic X (by decide) dX6_wantOne_147)
  (okC (ok_iadd X dX6_wantOne_148)
  (okC (ok_ild X dX6_wantOne_149)
  (okC (ok_iast X dX6_wantOne_151)
  (okC (ok_aldn X rfl dX6_wantOne_152)
  (okC (ok_get X (ci := 6) rfl (by decide) iw_X6 tw_796 dX6_wantOne_153)
  (okC (ok_ild X dX6_wantOne_156)
  (okC (ok_ic X (by decide) dX6_wantOne_158)
  (okC (ok_iadd X dX6_wantOne_159)
  (okC (ok_ic X (by decide) dX6_wantOne_160)
  (okC (ok_iast X dX6_wantOne_161)
  (okC (ok_aldn X rfl dX6_wantOne_162)
  (okC (ok_get X (ci := 6) rfl (by decide) iw_X6 tw_796 dX6_wantOne_163)
  (okC (ok_bi X (by decide) dX6_wantOne_166)
  (okC (ok_dp2 X dX6_wantOne_168)
  (okC (ok_iald X dX6_wantOne_169)
  (okC (ok_ic X (by decide) dX6_wantOne_170)
  (okC (ok_iadd X dX6_wantOne_171)
  (okC (ok_iast X dX6_wantOne_172)
  (okN))))))))))))))))))))))))))))))))))))))))))))))))))))))))), ok_fall rfl⟩
set_option maxRecDepth 20000 in
theorem ob_X6_wantOne_7 {x : ip_Cx} {G : ip_Gl} {d : Nat} (X : ip_X x G tb 7 d 0 0 RX6 cX6_wantOne) (hr : x.2.2.2.2.2.2.2.2.1.sig.returnType = none) (hnm : x.2.2.2.2.2.2.2.2.1.name = "wantOne") : ip_okB x G 7 pc_X6_wantOne 173 ([], tRV 0 0) := ⟨_, okN, ok_vret X hr dX6_wantOne_173⟩
theorem om_141 : ip_MOk tb en_141 pc_X6_wantOne := fun x G d X hr hnm => ⟨ob_X6_wantOne_0 X hr hnm, ⟨ob_X6_wantOne_1 X hr hnm, ⟨ob_X6_wantOne_2 X hr hnm, ⟨ob_X6_wantOne_3 X hr hnm, ⟨ob_X6_wantOne_4 X hr hnm, ⟨ob_X6_wantOne_5 X hr hnm, ⟨ob_X6_wantOne_6 X hr hnm, ⟨ob_X6_wantOne_7 X hr hnm, trivial⟩⟩⟩⟩⟩⟩⟩⟩
theorem dX6_wantClause_0 : decode cX6_wantClause 0 = .ok (.aload_n 0, 1) := by decide +kernel
theorem dX6_wantClause_1 : decode cX6_wantClause 1 = .ok (.invokevirtual 155, 3) := by decide +kernel
theorem dX6_wantClause_4 : decode cX6_wantClause 4 = .ok (.istore_n 1, 1) := by decide +kernel
theorem dX6_wantClause_5 : decode cX6_wantClause 5 = .ok (.aload_n 0, 1) := by decide +kernel
theorem dX6_wantClause_6 : decode cX6_wantClause 6 = .ok (.invokevirtual 159, 3) := by decide +kernel
theorem dX6_wantClause_9 : decode cX6_wantClause 9 = .ok (.ifCond .lt 14, 3) := by decide +kernel
theorem dX6_wantClause_12 : decode cX6_wantClause 12 = .ok (.aload_n 0, 1) := by decide +kernel
theorem dX6_wantClause_13 : decode cX6_wantClause 13 = .ok (.aload_n 0, 1) := by decide +kernel
theorem dX6_wantClause_14 : decode cX6_wantClause 14 = .ok (.invokevirtual 159, 3) := by decide +kernel
theorem dX6_wantClause_17 : decode cX6_wantClause 17 = .ok (.invokevirtual 162, 3) := by decide +kernel
theorem dX6_wantClause_20 : decode cX6_wantClause 20 = .ok (.goto 90, 3) := by decide +kernel
theorem dX6_wantClause_23 : decode cX6_wantClause 23 = .ok (.iload_n 1, 1) := by decide +kernel
theorem dX6_wantClause_24 : decode cX6_wantClause 24 = .ok (.ifCond .lt 29, 3) := by decide +kernel
theorem dX6_wantClause_27 : decode cX6_wantClause 27 = .ok (.aload_n 0, 1) := by decide +kernel
theorem dX6_wantClause_28 : decode cX6_wantClause 28 = .ok (.invokevirtual 127, 3) := by decide +kernel
theorem dX6_wantClause_31 : decode cX6_wantClause 31 = .ok (.aload_n 0, 1) := by decide +kernel
theorem dX6_wantClause_32 : decode cX6_wantClause 32 = .ok (.getfield 13, 3) := by decide +kernel
theorem dX6_wantClause_35 : decode cX6_wantClause 35 = .ok (.iload_n 1, 1) := by decide +kernel
theorem dX6_wantClause_36 : decode cX6_wantClause 36 = .ok (.aload_n 0, 1) := by decide +kernel
theorem dX6_wantClause_37 : decode cX6_wantClause 37 = .ok (.iconst 0, 1) := by decide +kernel
theorem dX6_wantClause_38 : decode cX6_wantClause 38 = .ok (.iload_n 1, 1) := by decide +kernel
theorem dX6_wantClause_39 : decode cX6_wantClause 39 = .ok (.invokestatic 166, 3) := by decide +kernel
theorem dX6_wantClause_42 : decode cX6_wantClause 42 = .ok (.invokevirtual 133, 3) := by decide +kernel
theorem dX6_wantClause_45 : decode cX6_wantClause 45 = .ok (.iastore, 1) := by decide +kernel
theorem dX6_wantClause_46 : decode cX6_wantClause 46 = .ok (.aload_n 0, 1) := by decide +kernel
theorem dX6_wantClause_47 : decode cX6_wantClause 47 = .ok (.invokevirtual 152, 3) := by decide +kernel
theorem dX6_wantClause_50 : decode cX6_wantClause 50 = .ok (.goto 60, 3) := by decide +kernel
theorem dX6_wantClause_53 : decode cX6_wantClause 53 = .ok (.aload_n 0, 1) := by decide +kernel
theorem dX6_wantClause_54 : decode cX6_wantClause 54 = .ok (.ldc2_w 169, 3) := by decide +kernel
theorem dX6_wantClause_57 : decode cX6_wantClause 57 = .ok (.invokevirtual 101, 3) := by decide +kernel
theorem dX6_wantClause_60 : decode cX6_wantClause 60 = .ok (.ifCond .eq 45, 3) := by decide +kernel
theorem dX6_wantClause_63 : decode cX6_wantClause 63 = .ok (.aload_n 0, 1) := by decide +kernel
theorem dX6_wantClause_64 : decode cX6_wantClause 64 = .ok (.invokevirtual 127, 3) := by decide +kernel
theorem dX6_wantClause_67 : decode cX6_wantClause 67 = .ok (.aload_n 0, 1) := by decide +kernel
theorem dX6_wantClause_68 : decode cX6_wantClause 68 = .ok (.iconst 0, 1) := by decide +kernel
theorem dX6_wantClause_69 : decode cX6_wantClause 69 = .ok (.bipush 7, 2) := by decide +kernel
theorem dX6_wantClause_71 : decode cX6_wantClause 71 = .ok (.invokevirtual 133, 3) := by decide +kernel
theorem dX6_wantClause_74 : decode cX6_wantClause 74 = .ok (.istore_n 2, 1) := by decide +kernel
theorem dX6_wantClause_75 : decode cX6_wantClause 75 = .ok (.aload_n 0, 1) := by decide +kernel
theorem dX6_wantClause_76 : decode cX6_wantClause 76 = .ok (.getfield 13, 3) := by decide +kernel
theorem dX6_wantClause_79 : decode cX6_wantClause 79 = .ok (.iconst 5, 1) := by decide +kernel
theorem dX6_wantClause_80 : decode cX6_wantClause 80 = .ok (.dup2, 1) := by decide +kernel
theorem dX6_wantClause_81 : decode cX6_wantClause 81 = .ok (.iaload, 1) := by decide +kernel
theorem dX6_wantClause_82 : decode cX6_wantClause 82 = .ok (.aload_n 0, 1) := by decide +kernel
theorem dX6_wantClause_83 : decode cX6_wantClause 83 = .ok (.getfield 123, 3) := by decide +kernel
theorem dX6_wantClause_86 : decode cX6_wantClause 86 = .ok (.ifCond .eq 9, 3) := by decide +kernel
theorem dX6_wantClause_89 : decode cX6_wantClause 89 = .ok (.iconst 1, 1) := by decide +kernel
theorem dX6_wantClause_90 : decode cX6_wantClause 90 = .ok (.iload_n 2, 1) := by decide +kernel
theorem dX6_wantClause_91 : decode cX6_wantClause 91 = .ok (.ishl, 1) := by decide +kernel
theorem dX6_wantClause_92 : decode cX6_wantClause 92 = .ok (.goto 4, 3) := by decide +kernel
theorem dX6_wantClause_95 : decode cX6_wantClause 95 = .ok (.iconst 0, 1) := by decide +kernel
theorem dX6_wantClause_96 : decode cX6_wantClause 96 = .ok (.ior, 1) := by decide +kernel
theorem dX6_wantClause_97 : decode cX6_wantClause 97 = .ok (.iastore, 1) := by decide +kernel
theorem dX6_wantClause_98 : decode cX6_wantClause 98 = .ok (.aload_n 0, 1) := by decide +kernel
theorem dX6_wantClause_99 : decode cX6_wantClause 99 = .ok (.invokevirtual 152, 3) := by decide +kernel
theorem dX6_wantClause_102 : decode cX6_wantClause 102 = .ok (.goto 8, 3) := by decide +kernel
theorem dX6_wantClause_105 : decode cX6_wantClause 105 = .ok (.aload_n 0, 1) := by decide +kernel
theorem dX6_wantClause_106 : decode cX6_wantClause 106 = .ok (.iconst 0, 1) := by decide +kernel
theorem dX6_wantClause_107 : decode cX6_wantClause 107 = .ok (.putfield 123, 3) := by decide +kernel
theorem dX6_wantClause_110 : decode cX6_wantClause 110 = .ok (.return_, 1) := by decide +kernel
def pc_X6_wantClause (i : Nat) : Nat := ([0, 12, 23, 27, 53, 63, 89, 95, 96, 105, 110] : List Nat).getD i 0
set_option maxRecDepth 20000 in
theorem ob_X6_wantClause_0 {x : ip_Cx} {G : ip_Gl} {d : Nat} (X : ip_X x G tb 3 d 0 0 RX6 cX6_wantClause) (hr : x.2.2.2.2.2.2.2.2.1.sig.returnType = none) (hnm : x.2.2.2.2.2.2.2.2.1.name = "wantClause") : ip_okB x G 3 pc_X6_wantClause 0 ([oLdA 0, oCaV (ip_call tb d) 0 0 6 136 1 0 0, oStI 1, oLdA 0, oCaV (ip_call tb d) 0 0 6 135 1 0 0], tIf (fun a => a < 0) 2 1) := ⟨_, okC (ok_aldn X rfl dX6_wantClause_0)
  (okC (ok_calV X (i := 155) (e := en_136) rfl mt_136 rfl rfl rfl tw_914 tw_916 (Or.inl ⟨_, _, rfl⟩) tp_12 dX6_wantClause_1)
  (okC (ok_istn X rfl (by decide) dX6_wantClause_4)
  (okC (ok_aldn X rfl dX6_wantClause_5)
  (okC (ok_calV X (i := 159) (e := en_135) rfl mt_135 rfl rfl rfl tw_926 tw_928 (Or.inl ⟨_, _, rfl⟩) tp_14 dX6_wantClause_6)
  (okN))))), ok_iflt X (by decide) rfl dX6_wantClause_9⟩
set_option maxRecDepth 20000 in
theorem ob_X6_wantClause_1 {x : ip_Cx} {G : ip_Gl} {d : Nat} (X : ip_X x G tb 3 d 0 0 RX6 cX6_wantClause) (hr : x.2.2.2.2.2.2.2.2.1.sig.returnType = none) (hnm : x.2.2.2.2.2.2.2.2.1.name = "wantClause") : ip_okB x G 3 pc_X6_wantClause 12 ([oLdA 0, oLdA 0, oCaV (ip_call tb d) 0 0 6 135 1 0 0, oCaV (ip_call tb d) 0 0 6 141 2 0 0], tGo 10) := ⟨_, okC (ok_aldn X rfl dX6_wantClause_12)
  (okC (ok_aldn X rfl dX6_wantClause_13)
  (okC (ok_calV X (i := 159) (e := en_135) rfl mt_135 rfl rfl rfl tw_926 tw_928 (Or.inl ⟨_, _, rfl⟩) tp_14 dX6_wantClause_14)
  (okC (ok_calV X (i := 162) (e := en_141) rfl mt_141 rfl rfl rfl tw_936 tw_938 (Or.inl ⟨_, _, rfl⟩) tp_15 dX6_wantClause_17)
  (okN)))), ok_go X (by decide) dX6_wantClause_20⟩
set_option maxRecDepth 20000 in
theorem ob_X6_wantClause_2 {x : ip_Cx} {G : ip_Gl} {d : Nat} (X : ip_X x G tb 3 d 0 0 RX6 cX6_wantClause) (hr : x.2.2.2.2.2.2.2.2.1.sig.returnType = none) (hnm : x.2.2.2.2.2.2.2.2.1.name = "wantClause") : ip_okB x G 3 pc_X6_wantClause 23 ([oLdI 1], tIf (fun a => a < 0) 4 3) := ⟨_, okC (ok_ildn X rfl dX6_wantClause_23)
  (okN), ok_iflt X (by decide) rfl dX6_wantClause_24⟩
set_option maxRecDepth 20000 in
theorem ob_X6_wantClause_3 {x : ip_Cx} {G : ip_Gl} {d : Nat} (X : ip_X x G tb 3 d 0 0 RX6 cX6_wantClause) (hr : x.2.2.2.2.2.2.2.2.1.sig.returnType = none) (hnm : x.2.2.2.2.2.2.2.2.1.name = "wantClause") : ip_okB x G 3 pc_X6_wantClause 27 ([oLdA 0, oCaV (ip_call tb d) 0 0 6 132 1 0 0, oLdA 0, oGet 6 1, oLdI 1, oLdA 0, oI (0), oLdI 1, oCal (ip_call tb d) 0 0 144 1 0 0, oCaV (ip_call tb d) 0 0 6 137 3 0 0, oAstI, oLdA 0, oCaV (ip_call tb d) 0 0 6 138 1 0 0], tGo 10) := ⟨_, okC (ok_aldn X rfl dX6_wantClause_27)
  (okC (ok_calV X (i := 127) (e := en_132) rfl mt_132 rfl rfl rfl tw_893 tw_895 (Or.inl ⟨_, _, rfl⟩) tp_9 dX6_wantClause_28)
  (okC (ok_aldn X rfl dX6_wantClause_31)
  (okC (ok_get X (ci := 6) rfl (by decide) iw_X6 tw_796 dX6_wantClause_32)
  (okC (ok_ildn X rfl dX6_wantClause_35)
  (okC (ok_aldn X rfl dX6_wantClause_36)
  (okC (ok_ic X (by decide) dX6_wantClause_37)
  (okC (ok_ildn X rfl dX6_wantClause_38)
  (okC (ok_calS X (i := 166) (e := en_144) rfl mt_144 rfl rfl rfl tw_964 tw_965 dX6_wantClause_39)
  (okC (ok_calV X (i := 133) (e := en_137) rfl mt_137 rfl rfl rfl tw_945 tw_947 (Or.inl ⟨_, _, rfl⟩) tp_17 dX6_wantClause_42)
  (okC (ok_iast X dX6_wantClause_45)
  (okC (ok_aldn X rfl dX6_wantClause_46)
  (okC (ok_calV X (i := 152) (e := en_138) rfl mt_138 rfl rfl rfl tw_956 tw_958 (Or.inl ⟨_, _, rfl⟩) tp_19 dX6_wantClause_47)
  (okN))))))))))))), ok_go X (by decide) dX6_wantClause_50⟩
set_option maxRecDepth 20000 in
theorem ob_X6_wantClause_4 {x : ip_Cx} {G : ip_Gl} {d : Nat} (X : ip_X x G tb 3 d 0 0 RX6 cX6_wantClause) (hr : x.2.2.2.2.2.2.2.2.1.sig.returnType = none) (hnm : x.2.2.2.2.2.2.2.2.1.name = "wantClause") : ip_okB x G 3 pc_X6_wantClause 53 ([oLdA 0, oL (118928), oCaV (ip_call tb d) 0 0 6 133 2 0 0], tIf (fun a => a = 0) 9 5) := ⟨_, okC (ok_aldn X rfl dX6_wantClause_53)
  (okC (ok_ldc2 X tw_967 dX6_wantClause_54)
  (okC (ok_calV X (i := 101) (e := en_133) rfl mt_133 rfl rfl rfl tw_919 tw_921 (Or.inl ⟨_, _, rfl⟩) tp_13 dX6_wantClause_57)
  (okN))), ok_ifeq X (by decide) rfl dX6_wantClause_60⟩
set_option maxRecDepth 20000 in
theorem ob_X6_wantClause_5 {x : ip_Cx} {G : ip_Gl} {d : Nat} (X : ip_X x G tb 3 d 0 0 RX6 cX6_wantClause) (hr : x.2.2.2.2.2.2.2.2.1.sig.returnType = none) (hnm : x.2.2.2.2.2.2.2.2.1.name = "wantClause") : ip_okB x G 3 pc_X6_wantClause 63 ([oLdA 0, oCaV (ip_call tb d) 0 0 6 132 1 0 0, oLdA 0, oI (0), oI (7), oCaV (ip_call tb d) 0 0 6 137 3 0 0, oStI 2, oLdA 0, oGet 6 1, oI (5), oDp2, oAldI, oLdA 0, oGet 6 12], tIf (fun a => a = 0) 7 6) := ⟨_, okC (ok_aldn X rfl dX6_wantClause_63)
  (okC (ok_calV X (i := 127) (e := en_132) rfl mt_132 rfl rfl rfl tw_893 tw_895 (Or.inl ⟨_, _, rfl⟩) tp_9 dX6_wantClause_64)
  (okC (ok_aldn X rfl dX6_wantClause_67)
  (okC (ok_ic X (by decide) dX6_wantClause_68)
  (okC (ok_bi X (by decide) dX6_wantClause_69)
  (okC (ok_calV X (i := 133) (e := en_137) rfl mt_137 rfl rfl rfl tw_945 tw_947 (Or.inl ⟨_, _, rfl⟩) tp_17 dX6_wantClause_71)
  (okC (ok_istn X rfl (by decide) dX6_wantClause_74)
  (okC (ok_aldn X rfl dX6_wantClause_75)
  (okC (ok_get X (ci := 6) rfl (by decide) iw_X6 tw_796 dX6_wantClause_76)
  (okC (ok_ic X (by decide) dX6_wantClause_79)
  (okC (ok_dp2 X dX6_wantClause_80)
  (okC (ok_iald X dX6_wantClause_81)
  (okC (ok_aldn X rfl dX6_wantClause_82)
  (okC (ok_get X (ci := 6) rfl (by decide) iw_X6 tw_807 dX6_wantClause_83)
  (okN)))))))))))))), ok_ifeq X (by decide) rfl dX6_wantClause_86⟩
set_option maxRecDepth 20000 in
theorem ob_X6_wantClause_6 {x : ip_Cx} {G : ip_Gl} {d : Nat} (X : ip_X x G tb 3 d 0 0 RX6 cX6_wantClause) (hr : x.2.2.2.2.2.2.2.2.1.sig.returnType = none) (hnm : x.2.2.2.2.2.2.2.2.1.name = "wantClause") : ip_okB x G 3 pc_X6_wantClause 89 ([oI (1), oLdI 2, oBI (fun a b => a <<< (b &&& 31))], tGo 8) := ⟨_, okC (ok_ic X (by decide) dX6_wantClause_89)
  (okC (ok_ildn X rfl dX6_wantClause_90)
  (okC (ok_ishl X dX6_wantClause_91)
  (okN))), ok_go X (by decide) dX6_wantClause_92⟩
set_option maxRecDepth 20000 in
theorem ob_X6_wantClause_7 {x : ip_Cx} {G : ip_Gl} {d : Nat} (X : ip_X x G tb 3 d 0 0 RX6 cX6_wantClause) (hr : x.2.2.2.2.2.2.2.2.1.sig.returnType = none) (hnm : x.2.2.2.2.2.2.2.2.1.name = "wantClause") : ip_okB x G 3 pc_X6_wantClause 95 ([oI (0)], tGo 8) := ⟨_, okC (ok_ic X (by decide) dX6_wantClause_95)
  (okN), ok_fall rfl⟩
set_option maxRecDepth 20000 in
theorem ob_X6_wantClause_8 {x : ip_Cx} {G : ip_Gl} {d : Nat} (X : ip_X x G tb 3 d 0 0 RX6 cX6_wantClause) (hr : x.2.2.2.2.2.2.2.2.1.sig.returnType = none) (hnm : x.2.2.2.2.2.2.2.2.1.name = "wantClause") : ip_okB x G 3 pc_X6_wantClause 96 ([oBI (fun a b => a ||| b), oAstI, oLdA 0, oCaV (ip_call tb d) 0 0 6 138 1 0 0], tGo 10) := ⟨_, okC (ok_ior X dX6_wantClause_96)
  (okC (ok_iast X dX6_wantClause_97)
  (okC (ok_aldn X rfl dX6_wantClause_98)
  (okC (ok_calV X (i := 152) (e := en_138) rfl mt_138 rfl rfl rfl tw_956 tw_958 (Or.inl ⟨_, _, rfl⟩) tp_19 dX6_wantClause_99)
  (okN)))), ok_go X (by decide) dX6_wantClause_102⟩
set_option maxRecDepth 20000 in
theorem ob_X6_wantClause_9 {x : ip_Cx} {G : ip_Gl} {d : Nat} (X : ip_X x G tb 3 d 0 0 RX6 cX6_wantClause) (hr : x.2.2.2.2.2.2.2.2.1.sig.returnType = none) (hnm : x.2.2.2.2.2.2.2.2.1.name = "wantClause") : ip_okB x G 3 pc_X6_wantClause 105 ([oLdA 0, oI (0), oPut 6 12 .boolean], tGo 10) := ⟨_, okC (ok_aldn X rfl dX6_wantClause_105)
  (okC (ok_ic X (by decide) dX6_wantClause_106)
  (okC (ok_put X (ci := 6) rfl (by decide) iw_X6 tyX6_ok nmX6 rfl (Or.inl rfl) tw_807 dX6_wantClause_107)
  (okN))), ok_fall rfl⟩
set_option maxRecDepth 20000 in
theorem ob_X6_wantClause_10 {x : ip_Cx} {G : ip_Gl} {d : Nat} (X : ip_X x G tb 3 d 0 0 RX6 cX6_wantClause) (hr : x.2.2.2.2.2.2.2.2.1.sig.returnType = none) (hnm : x.2.2.2.2.2.2.2.2.1.name = "wantClause") : ip_okB x G 3 pc_X6_wantClause 110 ([], tRV 0 0) := ⟨_, okN, ok_vret X hr dX6_wantClause_110⟩
theorem om_142 : ip_MOk tb en_142 pc_X6_wantClause := fun x G d X hr hnm => ⟨ob_X6_wantClause_0 X hr hnm, ⟨ob_X6_wantClause_1 X hr hnm, ⟨ob_X6_wantClause_2 X hr hnm, ⟨ob_X6_wantClause_3 X hr hnm, ⟨ob_X6_wantClause_4 X hr hnm, ⟨ob_X6_wantClause_5 X hr hnm, ⟨ob_X6_wantClause_6 X hr hnm, ⟨ob_X6_wantClause_7 X hr hnm, ⟨ob_X6_wantClause_8 X hr hnm, ⟨ob_X6_wantClause_9 X hr hnm, ⟨ob_X6_wantClause_10 X hr hnm, trivial⟩⟩⟩⟩⟩⟩⟩⟩⟩⟩⟩
theorem dX6_circus_0 : decode cX6_circus 0 = .ok (.aload_n 0, 1) := by decide +kernel
theorem dX6_circus_1 : decode cX6_circus 1 = .ok (.iconst 0, 1) := by decide +kernel
theorem dX6_circus_2 : decode cX6_circus 2 = .ok (.putfield 67, 3) := by decide +kernel
theorem dX6_circus_5 : decode cX6_circus 5 = .ok (.aload_n 0, 1) := by decide +kernel
theorem dX6_circus_6 : decode cX6_circus 6 = .ok (.iconst 1, 1) := by decide +kernel
theorem dX6_circus_7 : decode cX6_circus 7 = .ok (.putfield 123, 3) := by decide +kernel
theorem dX6_circus_10 : decode cX6_circus 10 = .ok (.aload_n 0, 1) := by decide +kernel
theorem dX6_circus_11 : decode cX6_circus 11 = .ok (.getfield 13, 3) := by decide +kernel
theorem dX6_circus_14 : decode cX6_circus 14 = .ok (.invokestatic 53, 3) := by decide +kernel
theorem dX6_circus_17 : decode cX6_circus 17 = .ok (.aload_n 0, 1) := by decide +kernel
theorem dX6_circus_18 : decode cX6_circus 18 = .ok (.invokevirtual 127, 3) := by decide +kernel
theorem dX6_circus_21 : decode cX6_circus 21 = .ok (.aload_n 0, 1) := by decide +kernel
theorem dX6_circus_22 : decode cX6_circus 22 = .ok (.getfield 123, 3) := by decide +kernel
theorem dX6_circus_25 : decode cX6_circus 25 = .ok (.ifCond .eq 17, 3) := by decide +kernel
theorem dX6_circus_28 : decode cX6_circus 28 = .ok (.aload_n 0, 1) := by decide +kernel
theorem dX6_circus_29 : decode cX6_circus 29 = .ok (.getfield 83, 3) := by decide +kernel
theorem dX6_circus_32 : decode cX6_circus 32 = .ok (.ifCond .eq 10, 3) := by decide +kernel
theorem dX6_circus_35 : decode cX6_circus 35 = .ok (.aload_n 0, 1) := by decide +kernel
theorem dX6_circus_36 : decode cX6_circus 36 = .ok (.invokevirtual 171, 3) := by decide +kernel
theorem dX6_circus_39 : decode cX6_circus 39 = .ok (.goto (-18), 3) := by decide +kernel
theorem dX6_circus_42 : decode cX6_circus 42 = .ok (.aload_n 0, 1) := by decide +kernel
theorem dX6_circus_43 : decode cX6_circus 43 = .ok (.iconst 0, 1) := by decide +kernel
theorem dX6_circus_44 : decode cX6_circus 44 = .ok (.putfield 61, 3) := by decide +kernel
theorem dX6_circus_47 : decode cX6_circus 47 = .ok (.aload_n 0, 1) := by decide +kernel
theorem dX6_circus_48 : decode cX6_circus 48 = .ok (.getfield 123, 3) := by decide +kernel
theorem dX6_circus_51 : decode cX6_circus 51 = .ok (.ifCond .ne 11, 3) := by decide +kernel
theorem dX6_circus_54 : decode cX6_circus 54 = .ok (.bipush (-100), 2) := by decide +kernel
theorem dX6_circus_56 : decode cX6_circus 56 = .ok (.aload_n 0, 1) := by decide +kernel
theorem dX6_circus_57 : decode cX6_circus 57 = .ok (.getfield 70, 3) := by decide +kernel
theorem dX6_circus_60 : decode cX6_circus 60 = .ok (.isub, 1) := by decide +kernel
theorem dX6_circus_61 : decode cX6_circus 61 = .ok (.ireturn, 1) := by decide +kernel
theorem dX6_circus_62 : decode cX6_circus 62 = .ok (.aload_n 0, 1) := by decide +kernel
theorem dX6_circus_63 : decode cX6_circus 63 = .ok (.getfield 13, 3) := by decide +kernel
theorem dX6_circus_66 : decode cX6_circus 66 = .ok (.bipush 7, 2) := by decide +kernel
theorem dX6_circus_68 : decode cX6_circus 68 = .ok (.aload_n 0, 1) := by decide +kernel
theorem dX6_circus_69 : decode cX6_circus 69 = .ok (.getfield 7, 3) := by decide +kernel
theorem dX6_circus_72 : decode cX6_circus 72 = .ok (.bipush 7, 2) := by decide +kernel
theorem dX6_circus_74 : decode cX6_circus 74 = .ok (.iaload, 1) := by decide +kernel
theorem dX6_circus_75 : decode cX6_circus 75 = .ok (.iastore, 1) := by decide +kernel
theorem dX6_circus_76 : decode cX6_circus 76 = .ok (.aload_n 0, 1) := by decide +kernel
theorem dX6_circus_77 : decode cX6_circus 77 = .ok (.getfield 13, 3) := by decide +kernel
theorem dX6_circus_80 : decode cX6_circus 80 = .ok (.aload_n 0, 1) := by decide +kernel
theorem dX6_circus_81 : decode cX6_circus 81 = .ok (.getfield 7, 3) := by decide +kernel
theorem dX6_circus_84 : decode cX6_circus 84 = .ok (.invokestatic 174, 3) := by decide +kernel
theorem dX6_circus_87 : decode cX6_circus 87 = .ok (.aload_n 0, 1) := by decide +kernel
theorem dX6_circus_88 : decode cX6_circus 88 = .ok (.iconst 0, 1) := by decide +kernel
theorem dX6_circus_89 : decode cX6_circus 89 = .ok (.putfield 178, 3) := by decide +kernel
theorem dX6_circus_92 : decode cX6_circus 92 = .ok (.aload_n 0, 1) := by decide +kernel
theorem dX6_circus_93 : decode cX6_circus 93 = .ok (.getfield 7, 3) := by decide +kernel
theorem dX6_circus_96 : decode cX6_circus 96 = .ok (.bipush 6, 2) := by decide +kernel
theorem dX6_circus_98 : decode cX6_circus 98 = .ok (.iaload, 1) := by decide +kernel
theorem dX6_circus_99 : decode cX6_circus 99 = .ok (.ireturn, 1) := by decide +kernel
def pc_X6_circus (i : Nat) : Nat := ([0, 21, 28, 35, 42, 54, 62] : List Nat).getD i 0
set_option maxRecDepth 20000 in
theorem ob_X6_circus_0 {x : ip_Cx} {G : ip_Gl} {d : Nat} (X : ip_X x G tb 1 d 0 0 RX6 cX6_circus) (hr : x.2.2.2.2.2.2.2.2.1.sig.returnType = (some .int)) (hnm : x.2.2.2.2.2.2.2.2.1.name = "circus") : ip_okB x G 1 pc_X6_circus 0 ([oLdA 0, oI (0), oPut 6 9 .int, oLdA 0, oI (1), oPut 6 12 .boolean, oLdA 0, oGet 6 1, oCal (ip_call tb d) 0 0 119 1 0 0, oLdA 0, oCaV (ip_call tb d) 0 0 6 132 1 0 0], tGo 1) := ⟨_, okC (ok_aldn X rfl dX6_circus_0)
  (okC (ok_ic X (by decide) dX6_circus_1)
  (okC (ok_put X (ci := 6) rfl (by decide) iw_X6 tyX6_ok nmX6 rfl (Or.inl rfl) tw_804 dX6_circus_2)
  (okC (ok_aldn X rfl dX6_circus_5)
  (okC (ok_ic X (by decide) dX6_circus_6)
  (okC (ok_put X (ci := 6) rfl (by decide) iw_X6 tyX6_ok nmX6 rfl (Or.inl rfl) tw_807 dX6_circus_7)
  (okC (ok_aldn X rfl dX6_circus_10)
  (okC (ok_get X (ci := 6) rfl (by decide) iw_X6 tw_796 dX6_circus_11)
  (okC (ok_calS X (i := 53) (e := en_119) rfl mt_119 rfl rfl rfl tw_792 tw_793 dX6_circus_14)
  (okC (ok_aldn X rfl dX6_circus_17)
  (okC (ok_calV X (i := 127) (e := en_132) rfl mt_132 rfl rfl rfl tw_893 tw_895 (Or.inl ⟨_, _, rfl⟩) tp_9 dX6_circus_18)
  (okN))))))))))), ok_fall rfl⟩
set_option maxRecDepth 20000 in
theorem ob_X6_circus_1 {x : ip_Cx} {G : ip_Gl} {d : Nat} (X : ip_X x G tb 1 d 0 0 RX6 cX6_circus) (hr : x.2.2.2.2.2.2.2.2.1.sig.returnType = (some .int)) (hnm : x.2.2.2.2.2.2.2.2.1.name = "circus") : ip_okB x G 1 pc_X6_circus 21 ([oLdA 0, oGet 6 12], tIf (fun a => a = 0) 4 2) := ⟨_, okC (ok_aldn X rfl dX6_circus_21)
  (okC (ok_get X (ci := 6) rfl (by decide) iw_X6 tw_807 dX6_circus_22)
  (okN)), ok_ifeq X (by decide) rfl dX6_circus_25⟩
set_option maxRecDepth 20000 in
theorem ob_X6_circus_2 {x : ip_Cx} {G : ip_Gl} {d : Nat} (X : ip_X x G tb 1 d 0 0 RX6 cX6_circus) (hr : x.2.2.2.2.2.2.2.2.1.sig.returnType = (some .int)) (hnm : x.2.2.2.2.2.2.2.2.1.name = "circus") : ip_okB x G 1 pc_X6_circus 28 ([oLdA 0, oGet 6 7], tIf (fun a => a = 0) 4 3) := ⟨_, okC (ok_aldn X rfl dX6_circus_28)
  (okC (ok_get X (ci := 6) rfl (by decide) iw_X6 tw_802 dX6_circus_29)
  (okN)), ok_ifeq X (by decide) rfl dX6_circus_32⟩
set_option maxRecDepth 20000 in
theorem ob_X6_circus_3 {x : ip_Cx} {G : ip_Gl} {d : Nat} (X : ip_X x G tb 1 d 0 0 RX6 cX6_circus) (hr : x.2.2.2.2.2.2.2.2.1.sig.returnType = (some .int)) (hnm : x.2.2.2.2.2.2.2.2.1.name = "circus") : ip_okB x G 1 pc_X6_circus 35 ([oLdA 0, oCaV (ip_call tb d) 0 0 6 142 1 0 0], tGo 1) := ⟨_, okC (ok_aldn X rfl dX6_circus_35)
  (okC (ok_calV X (i := 171) (e := en_142) rfl mt_142 rfl rfl rfl tw_910 tw_912 (Or.inl ⟨_, _, rfl⟩) tp_11 dX6_circus_36)
  (okN)), ok_go X (by decide) dX6_circus_39⟩
set_option maxRecDepth 20000 in
theorem ob_X6_circus_4 {x : ip_Cx} {G : ip_Gl} {d : Nat} (X : ip_X x G tb 1 d 0 0 RX6 cX6_circus) (hr : x.2.2.2.2.2.2.2.2.1.sig.returnType = (some .int)) (hnm : x.2.2.2.2.2.2.2.2.1.name = "circus") : ip_okB x G 1 pc_X6_circus 42 ([oLdA 0, oI (0), oPut 6 6 .int, oLdA 0, oGet 6 12], tIf (fun a => a = 0) 5 6) := ⟨_, okC (ok_aldn X rfl dX6_circus_42)
  (okC (ok_ic X (by decide) dX6_circus_43)
  (okC (ok_put X (ci := 6) rfl (by decide) iw_X6 tyX6_ok nmX6 rfl (Or.inl rfl) tw_801 dX6_circus_44)
  (okC (ok_aldn X rfl dX6_circus_47)
  (okC (ok_get X (ci := 6) rfl (by decide) iw_X6 tw_807 dX6_circus_48)
  (okN))))), ok_ifne X (by decide) rfl dX6_circus_51⟩
set_option maxRecDepth 20000 in
theorem ob_X6_circus_5 {x : ip_Cx} {G : ip_Gl} {d : Nat} (X : ip_X x G tb 1 d 0 0 RX6 cX6_circus) (hr : x.2.2.2.2.2.2.2.2.1.sig.returnType = (some .int)) (hnm : x.2.2.2.2.2.2.2.2.1.name = "circus") : ip_okB x G 1 pc_X6_circus 54 ([oI (-100), oLdA 0, oGet 6 8, oBI (fun a b => a - b)], tRI .int 0 0) := ⟨_, okC (ok_bi X (by decide) dX6_circus_54)
  (okC (ok_aldn X rfl dX6_circus_56)
  (okC (ok_get X (ci := 6) rfl (by decide) iw_X6 tw_803 dX6_circus_57)
  (okC (ok_isub X dX6_circus_60)
  (okN)))), ok_ret X hr dX6_circus_61⟩
set_option maxRecDepth 20000 in
theorem ob_X6_circus_6 {x : ip_Cx} {G : ip_Gl} {d : Nat} (X : ip_X x G tb 1 d 0 0 RX6 cX6_circus) (hr : x.2.2.2.2.2.2.2.2.1.sig.returnType = (some .int)) (hnm : x.2.2.2.2.2.2.2.2.1.name = "circus") : ip_okB x G 1 pc_X6_circus 62 ([oLdA 0, oGet 6 1, oI (7), oLdA 0, oGet 6 0, oI (7), oAldI, oAstI, oLdA 0, oGet 6 1, oLdA 0, oGet 6 0, oCal (ip_call tb d) 0 0 122 2 0 0, oLdA 0, oI (0), oPut 6 15 .int, oLdA 0, oGet 6 0, oI (6), oAldI], tRI .int 0 0) := ⟨_, okC (ok_aldn X rfl dX6_circus_62)
  (okC (ok_get X (ci := 6) rfl (by decide) iw_X6 tw_796 dX6_circus_63)
  (okC (ok_bi X (by decide) dX6_circus_66)
  (okC (ok_aldn X rfl dX6_circus_68)
  (okC (ok_get X (ci := 6) rfl (by decide) iw_X6 tw_795 dX6_circus_69)
  (okC (ok_bi X (by decide) dX6_circus_72)
  (okC (ok_iald X dX6_circus_74)
  (okC (ok_iast X dX6_circus_75)
  (okC (ok_aldn X rfl dX6_circus_76)
  (okC (ok_get X (ci := 6) rfl (by decide) iw_X6 tw_796 dX6_circus_77)
  (okC (ok_aldn X rfl dX6_circus_80)
  (okC (ok_get X (ci := 6) rfl (by decide) iw_X6 tw_795 dX6_circus_81)
  (okC (ok_calS X (i := 174) (e := en_122) rfl mt_122 rfl rfl rfl tw_968 tw_969 dX6_circus_84)
  (okC (ok_aldn X rfl dX6_circus_87)
  (okC (ok_ic X (by decide) dX6_circus_88)
  (okC (ok_put X (ci := 6) rfl (by decide) iw_X6 tyX6_ok nmX6 rfl (Or.inl rfl) tw_810 dX6_circus_89)
  (okC (ok_aldn X rfl dX6_circus_92)
  (okC (ok_get X (ci := 6) rfl (by decide) iw_X6 tw_795 dX6_circus_93)
  (okC (ok_bi X (by decide) dX6_circus_96)
  (okC (ok_iald X dX6_circus_98)
  (okN)))))))))))))))))))), ok_ret X hr dX6_circus_99⟩
theorem om_143 : ip_MOk tb en_143 pc_X6_circus := fun x G d X hr hnm => ⟨ob_X6_circus_0 X hr hnm, ⟨ob_X6_circus_1 X hr hnm, ⟨ob_X6_circus_2 X hr hnm, ⟨ob_X6_circus_3 X hr hnm, ⟨ob_X6_circus_4 X hr hnm, ⟨ob_X6_circus_5 X hr hnm, ⟨ob_X6_circus_6 X hr hnm, trivial⟩⟩⟩⟩⟩⟩⟩
theorem dX6_mostOf_0 : decode cX6_mostOf 0 = .ok (.iload_n 0, 1) := by decide +kernel
theorem dX6_mostOf_1 : decode cX6_mostOf 1 = .ok (.iconst 3, 1) := by decide +kernel
theorem dX6_mostOf_2 : decode cX6_mostOf 2 = .ok (.if_icmp .ne 8, 3) := by decide +kernel
theorem dX6_mostOf_5 : decode cX6_mostOf 5 = .ok (.bipush 99, 2) := by decide +kernel
theorem dX6_mostOf_7 : decode cX6_mostOf 7 = .ok (.goto 5, 3) := by decide +kernel
theorem dX6_mostOf_10 : decode cX6_mostOf 10 = .ok (.bipush 9, 2) := by decide +kernel
theorem dX6_mostOf_12 : decode cX6_mostOf 12 = .ok (.ireturn, 1) := by decide +kernel
def pc_X6_mostOf (i : Nat) : Nat := ([0, 5, 10, 12] : List Nat).getD i 0
set_option maxRecDepth 20000 in
theorem ob_X6_mostOf_0 {x : ip_Cx} {G : ip_Gl} {d : Nat} (X : ip_X x G tb 1 d 0 0 RX6 cX6_mostOf) (hr : x.2.2.2.2.2.2.2.2.1.sig.returnType = (some .int)) (hnm : x.2.2.2.2.2.2.2.2.1.name = "mostOf") : ip_okB x G 1 pc_X6_mostOf 0 ([oLdI 0, oI (3)], tCm (fun a b => a = b) 1 2) := ⟨_, okC (ok_ildn X rfl dX6_mostOf_0)
  (okC (ok_ic X (by decide) dX6_mostOf_1)
  (okN)), ok_cmne X (by decide) rfl dX6_mostOf_2⟩
set_option maxRecDepth 20000 in
theorem ob_X6_mostOf_1 {x : ip_Cx} {G : ip_Gl} {d : Nat} (X : ip_X x G tb 1 d 0 0 RX6 cX6_mostOf) (hr : x.2.2.2.2.2.2.2.2.1.sig.returnType = (some .int)) (hnm : x.2.2.2.2.2.2.2.2.1.name = "mostOf") : ip_okB x G 1 pc_X6_mostOf 5 ([oI (99)], tGo 3) := ⟨_, okC (ok_bi X (by decide) dX6_mostOf_5)
  (okN), ok_go X (by decide) dX6_mostOf_7⟩
set_option maxRecDepth 20000 in
theorem ob_X6_mostOf_2 {x : ip_Cx} {G : ip_Gl} {d : Nat} (X : ip_X x G tb 1 d 0 0 RX6 cX6_mostOf) (hr : x.2.2.2.2.2.2.2.2.1.sig.returnType = (some .int)) (hnm : x.2.2.2.2.2.2.2.2.1.name = "mostOf") : ip_okB x G 1 pc_X6_mostOf 10 ([oI (9)], tGo 3) := ⟨_, okC (ok_bi X (by decide) dX6_mostOf_10)
  (okN), ok_fall rfl⟩
set_option maxRecDepth 20000 in
theorem ob_X6_mostOf_3 {x : ip_Cx} {G : ip_Gl} {d : Nat} (X : ip_X x G tb 1 d 0 0 RX6 cX6_mostOf) (hr : x.2.2.2.2.2.2.2.2.1.sig.returnType = (some .int)) (hnm : x.2.2.2.2.2.2.2.2.1.name = "mostOf") : ip_okB x G 1 pc_X6_mostOf 12 ([], tRI .int 0 0) := ⟨_, okN, ok_ret X hr dX6_mostOf_12⟩
theorem om_144 : ip_MOk tb en_144 pc_X6_mostOf := fun x G d X hr hnm => ⟨ob_X6_mostOf_0 X hr hnm, ⟨ob_X6_mostOf_1 X hr hnm, ⟨ob_X6_mostOf_2 X hr hnm, ⟨ob_X6_mostOf_3 X hr hnm, trivial⟩⟩⟩⟩
theorem dX6_set_0 : decode cX6_set 0 = .ok (.iload_n 1, 1) := by decide +kernel
theorem dX6_set_1 : decode cX6_set 1 = .ok (.iconst 0, 1) := by decide +kernel
theorem dX6_set_2 : decode cX6_set 2 = .ok (.iconst 3, 1) := by decide +kernel
theorem dX6_set_3 : decode cX6_set 3 = .ok (.invokestatic 57, 3) := by decide +kernel
theorem dX6_set_6 : decode cX6_set 6 = .ok (.ifCond .eq 24, 3) := by decide +kernel
theorem dX6_set_9 : decode cX6_set 9 = .ok (.iload_n 2, 1) := by decide +kernel
theorem dX6_set_10 : decode cX6_set 10 = .ok (.iconst 0, 1) := by decide +kernel
theorem dX6_set_11 : decode cX6_set 11 = .ok (.iload_n 1, 1) := by decide +kernel
theorem dX6_set_12 : decode cX6_set 12 = .ok (.invokestatic 166, 3) := by decide +kernel
theorem dX6_set_15 : decode cX6_set 15 = .ok (.invokestatic 57, 3) := by decide +kernel
theorem dX6_set_18 : decode cX6_set 18 = .ok (.ifCond .eq 12, 3) := by decide +kernel
theorem dX6_set_21 : decode cX6_set 21 = .ok (.aload_n 0, 1) := by decide +kernel
theorem dX6_set_22 : decode cX6_set 22 = .ok (.iload_n 1, 1) := by decide +kernel
theorem dX6_set_23 : decode cX6_set 23 = .ok (.iload_n 2, 1) := by decide +kernel
theorem dX6_set_24 : decode cX6_set 24 = .ok (.invokevirtual 181, 3) := by decide +kernel
theorem dX6_set_27 : decode cX6_set 27 = .ok (.goto 4, 3) := by decide +kernel
theorem dX6_set_30 : decode cX6_set 30 = .ok (.iconst (-1), 1) := by decide +kernel
theorem dX6_set_31 : decode cX6_set 31 = .ok (.ireturn, 1) := by decide +kernel
def pc_X6_set (i : Nat) : Nat := ([0, 9, 21, 30, 31] : List Nat).getD i 0
set_option maxRecDepth 20000 in
theorem ob_X6_set_0 {x : ip_Cx} {G : ip_Gl} {d : Nat} (X : ip_X x G tb 3 d 0 0 RX6 cX6_set) (hr : x.2.2.2.2.2.2.2.2.1.sig.returnType = (some .int)) (hnm : x.2.2.2.2.2.2.2.2.1.name = "set") : ip_okB x G 3 pc_X6_set 0 ([oLdI 1, oI (0), oI (3), oCal (ip_call tb d) 0 0 120 3 0 0], tIf (fun a => a = 0) 3 1) := ⟨_, okC (ok_ildn X rfl dX6_set_0)
  (okC (ok_ic X (by decide) dX6_set_1)
  (okC (ok_ic X (by decide) dX6_set_2)
  (okC (ok_calS X (i := 57) (e := en_120) rfl mt_120 rfl rfl rfl tw_885 tw_886 dX6_set_3)
  (okN)))), ok_ifeq X (by decide) rfl dX6_set_6⟩
set_option maxRecDepth 20000 in
theorem ob_X6_set_1 {x : ip_Cx} {G : ip_Gl} {d : Nat} (X : ip_X x G tb 3 d 0 0 RX6 cX6_set) (hr : x.2.2.2.2.2.2.2.2.1.sig.returnType = (some .int)) (hnm : x.2.2.2.2.2.2.2.2.1.name = "set") : ip_okB x G 3 pc_X6_set 9 ([oLdI 2, oI (0), oLdI 1, oCal (ip_call tb d) 0 0 144 1 0 0, oCal (ip_call tb d) 0 0 120 3 0 0], tIf (fun a => a = 0) 3 2) := ⟨_, okC (ok_ildn X rfl dX6_set_9)
  (okC (ok_ic X (by decide) dX6_set_10)
  (okC (ok_ildn X rfl dX6_set_11)
  (okC (ok_calS X (i := 166) (e := en_144) rfl mt_144 rfl rfl rfl tw_964 tw_965 dX6_set_12)
  (okC (ok_calS X (i := 57) (e := en_120) rfl mt_120 rfl rfl rfl tw_885 tw_886 dX6_set_15)
  (okN))))), ok_ifeq X (by decide) rfl dX6_set_18⟩
set_option maxRecDepth 20000 in
theorem ob_X6_set_2 {x : ip_Cx} {G : ip_Gl} {d : Nat} (X : ip_X x G tb 3 d 0 0 RX6 cX6_set) (hr : x.2.2.2.2.2.2.2.2.1.sig.returnType = (some .int)) (hnm : x.2.2.2.2.2.2.2.2.1.name = "set") : ip_okB x G 3 pc_X6_set 21 ([oLdA 0, oLdI 1, oLdI 2, oCaV (ip_call tb d) 0 0 6 126 3 0 0], tGo 4) := ⟨_, okC (ok_aldn X rfl dX6_set_21)
  (okC (ok_ildn X rfl dX6_set_22)
  (okC (ok_ildn X rfl dX6_set_23)
  (okC (ok_calV X (i := 181) (e := en_126) rfl mt_126 rfl rfl rfl tw_975 tw_977 (Or.inl ⟨_, _, rfl⟩) tp_21 dX6_set_24)
  (okN)))), ok_go X (by decide) dX6_set_27⟩
set_option maxRecDepth 20000 in
theorem ob_X6_set_3 {x : ip_Cx} {G : ip_Gl} {d : Nat} (X : ip_X x G tb 3 d 0 0 RX6 cX6_set) (hr : x.2.2.2.2.2.2.2.2.1.sig.returnType = (some .int)) (hnm : x.2.2.2.2.2.2.2.2.1.name = "set") : ip_okB x G 3 pc_X6_set 30 ([oI (-1)], tGo 4) := ⟨_, okC (ok_ic X (by decide) dX6_set_30)
  (okN), ok_fall rfl⟩
set_option maxRecDepth 20000 in
theorem ob_X6_set_4 {x : ip_Cx} {G : ip_Gl} {d : Nat} (X : ip_X x G tb 3 d 0 0 RX6 cX6_set) (hr : x.2.2.2.2.2.2.2.2.1.sig.returnType = (some .int)) (hnm : x.2.2.2.2.2.2.2.2.1.name = "set") : ip_okB x G 3 pc_X6_set 31 ([], tRI .int 0 0) := ⟨_, okN, ok_ret X hr dX6_set_31⟩
theorem om_145 : ip_MOk tb en_145 pc_X6_set := fun x G d X hr hnm => ⟨ob_X6_set_0 X hr hnm, ⟨ob_X6_set_1 X hr hnm, ⟨ob_X6_set_2 X hr hnm, ⟨ob_X6_set_3 X hr hnm, ⟨ob_X6_set_4 X hr hnm, trivial⟩⟩⟩⟩⟩
theorem dX6_lawOf_0 : decode cX6_lawOf 0 = .ok (.iload_n 1, 1) := by decide +kernel
theorem dX6_lawOf_1 : decode cX6_lawOf 1 = .ok (.iconst 0, 1) := by decide +kernel
theorem dX6_lawOf_2 : decode cX6_lawOf 2 = .ok (.iconst 3, 1) := by decide +kernel
theorem dX6_lawOf_3 : decode cX6_lawOf 3 = .ok (.invokestatic 57, 3) := by decide +kernel
theorem dX6_lawOf_6 : decode cX6_lawOf 6 = .ok (.ifCond .eq 12, 3) := by decide +kernel
theorem dX6_lawOf_9 : decode cX6_lawOf 9 = .ok (.aload_n 0, 1) := by decide +kernel
theorem dX6_lawOf_10 : decode cX6_lawOf 10 = .ok (.getfield 7, 3) := by decide +kernel
theorem dX6_lawOf_13 : decode cX6_lawOf 13 = .ok (.iload_n 1, 1) := by decide +kernel
theorem dX6_lawOf_14 : decode cX6_lawOf 14 = .ok (.iaload, 1) := by decide +kernel
theorem dX6_lawOf_15 : decode cX6_lawOf 15 = .ok (.goto 4, 3) := by decide +kernel
theorem dX6_lawOf_18 : decode cX6_lawOf 18 = .ok (.iconst (-1), 1) := by decide +kernel
theorem dX6_lawOf_19 : decode cX6_lawOf 19 = .ok (.ireturn, 1) := by decide +kernel
def pc_X6_lawOf (i : Nat) : Nat := ([0, 9, 18, 19] : List Nat).getD i 0
set_option maxRecDepth 20000 in
theorem ob_X6_lawOf_0 {x : ip_Cx} {G : ip_Gl} {d : Nat} (X : ip_X x G tb 2 d 0 0 RX6 cX6_lawOf) (hr : x.2.2.2.2.2.2.2.2.1.sig.returnType = (some .int)) (hnm : x.2.2.2.2.2.2.2.2.1.name = "lawOf") : ip_okB x G 2 pc_X6_lawOf 0 ([oLdI 1, oI (0), oI (3), oCal (ip_call tb d) 0 0 120 3 0 0], tIf (fun a => a = 0) 2 1) := ⟨_, okC (ok_ildn X rfl dX6_lawOf_0)
  (okC (ok_ic X (by decide) dX6_lawOf_1)
  (okC (ok_ic X (by decide) dX6_lawOf_2)
  (okC (ok_calS X (i := 57) (e := en_120) rfl mt_120 rfl rfl rfl tw_885 tw_886 dX6_lawOf_3)
  (okN)))), ok_ifeq X (by decide) rfl dX6_lawOf_6⟩
set_option maxRecDepth 20000 in
theorem ob_X6_lawOf_1 {x : ip_Cx} {G : ip_Gl} {d : Nat} (X : ip_X x G tb 2 d 0 0 RX6 cX6_lawOf) (hr : x.2.2.2.2.2.2.2.2.1.sig.returnType = (some .int)) (hnm : x.2.2.2.2.2.2.2.2.1.name = "lawOf") : ip_okB x G 2 pc_X6_lawOf 9 ([oLdA 0, oGet 6 0, oLdI 1, oAldI], tGo 3) := ⟨_, okC (ok_aldn X rfl dX6_lawOf_9)
  (okC (ok_get X (ci := 6) rfl (by decide) iw_X6 tw_795 dX6_lawOf_10)
  (okC (ok_ildn X rfl dX6_lawOf_13)
  (okC (ok_iald X dX6_lawOf_14)
  (okN)))), ok_go X (by decide) dX6_lawOf_15⟩
set_option maxRecDepth 20000 in
theorem ob_X6_lawOf_2 {x : ip_Cx} {G : ip_Gl} {d : Nat} (X : ip_X x G tb 2 d 0 0 RX6 cX6_lawOf) (hr : x.2.2.2.2.2.2.2.2.1.sig.returnType = (some .int)) (hnm : x.2.2.2.2.2.2.2.2.1.name = "lawOf") : ip_okB x G 2 pc_X6_lawOf 18 ([oI (-1)], tGo 3) := ⟨_, okC (ok_ic X (by decide) dX6_lawOf_18)
  (okN), ok_fall rfl⟩
set_option maxRecDepth 20000 in
theorem ob_X6_lawOf_3 {x : ip_Cx} {G : ip_Gl} {d : Nat} (X : ip_X x G tb 2 d 0 0 RX6 cX6_lawOf) (hr : x.2.2.2.2.2.2.2.2.1.sig.returnType = (some .int)) (hnm : x.2.2.2.2.2.2.2.2.1.name = "lawOf") : ip_okB x G 2 pc_X6_lawOf 19 ([], tRI .int 0 0) := ⟨_, okN, ok_ret X hr dX6_lawOf_19⟩
theorem om_146 : ip_MOk tb en_146 pc_X6_lawOf := fun x G d X hr hnm => ⟨ob_X6_lawOf_0 X hr hnm, ⟨ob_X6_lawOf_1 X hr hnm, ⟨ob_X6_lawOf_2 X hr hnm, ⟨ob_X6_lawOf_3 X hr hnm, trivial⟩⟩⟩⟩
theorem dX6_fact_0 : decode cX6_fact 0 = .ok (.iload_n 1, 1) := by decide +kernel
theorem dX6_fact_1 : decode cX6_fact 1 = .ok (.iconst 0, 1) := by decide +kernel
theorem dX6_fact_2 : decode cX6_fact 2 = .ok (.bipush 7, 2) := by decide +kernel
theorem dX6_fact_4 : decode cX6_fact 4 = .ok (.invokestatic 57, 3) := by decide +kernel
theorem dX6_fact_7 : decode cX6_fact 7 = .ok (.ifCond .eq 12, 3) := by decide +kernel
theorem dX6_fact_10 : decode cX6_fact 10 = .ok (.iload_n 2, 1) := by decide +kernel
theorem dX6_fact_11 : decode cX6_fact 11 = .ok (.iconst 0, 1) := by decide +kernel
theorem dX6_fact_12 : decode cX6_fact 12 = .ok (.iconst 1, 1) := by decide +kernel
theorem dX6_fact_13 : decode cX6_fact 13 = .ok (.invokestatic 57, 3) := by decide +kernel
theorem dX6_fact_16 : decode cX6_fact 16 = .ok (.ifCond .ne 5, 3) := by decide +kernel
theorem dX6_fact_19 : decode cX6_fact 19 = .ok (.iconst (-1), 1) := by decide +kernel
theorem dX6_fact_20 : decode cX6_fact 20 = .ok (.ireturn, 1) := by decide +kernel
theorem dX6_fact_21 : decode cX6_fact 21 = .ok (.aload_n 0, 1) := by decide +kernel
theorem dX6_fact_22 : decode cX6_fact 22 = .ok (.getfield 7, 3) := by decide +kernel
theorem dX6_fact_25 : decode cX6_fact 25 = .ok (.iconst 5, 1) := by decide +kernel
theorem dX6_fact_26 : decode cX6_fact 26 = .ok (.iaload, 1) := by decide +kernel
theorem dX6_fact_27 : decode cX6_fact 27 = .ok (.iload_n 1, 1) := by decide +kernel
theorem dX6_fact_28 : decode cX6_fact 28 = .ok (.ishr, 1) := by decide +kernel
theorem dX6_fact_29 : decode cX6_fact 29 = .ok (.iconst 1, 1) := by decide +kernel
theorem dX6_fact_30 : decode cX6_fact 30 = .ok (.iand, 1) := by decide +kernel
theorem dX6_fact_31 : decode cX6_fact 31 = .ok (.istore_n 3, 1) := by decide +kernel
theorem dX6_fact_32 : decode cX6_fact 32 = .ok (.aload_n 0, 1) := by decide +kernel
theorem dX6_fact_33 : decode cX6_fact 33 = .ok (.getfield 7, 3) := by decide +kernel
theorem dX6_fact_36 : decode cX6_fact 36 = .ok (.iconst 5, 1) := by decide +kernel
theorem dX6_fact_37 : decode cX6_fact 37 = .ok (.aload_n 0, 1) := by decide +kernel
theorem dX6_fact_38 : decode cX6_fact 38 = .ok (.getfield 7, 3) := by decide +kernel
theorem dX6_fact_41 : decode cX6_fact 41 = .ok (.iconst 5, 1) := by decide +kernel
theorem dX6_fact_42 : decode cX6_fact 42 = .ok (.iaload, 1) := by decide +kernel
theorem dX6_fact_43 : decode cX6_fact 43 = .ok (.iconst 1, 1) := by decide +kernel
theorem dX6_fact_44 : decode cX6_fact 44 = .ok (.iload_n 1, 1) := by decide +kernel
theorem dX6_fact_45 : decode cX6_fact 45 = .ok (.ishl, 1) := by decide +kernel
theorem dX6_fact_46 : decode cX6_fact 46 = .ok (.iconst (-1), 1) := by decide +kernel
theorem dX6_fact_47 : decode cX6_fact 47 = .ok (.ixor, 1) := by decide +kernel
theorem dX6_fact_48 : decode cX6_fact 48 = .ok (.iand, 1) := by decide +kernel
theorem dX6_fact_49 : decode cX6_fact 49 = .ok (.iload_n 2, 1) := by decide +kernel
theorem dX6_fact_50 : decode cX6_fact 50 = .ok (.iload_n 1, 1) := by decide +kernel
theorem dX6_fact_51 : decode cX6_fact 51 = .ok (.ishl, 1) := by decide +kernel
theorem dX6_fact_52 : decode cX6_fact 52 = .ok (.ior, 1) := by decide +kernel
theorem dX6_fact_53 : decode cX6_fact 53 = .ok (.iastore, 1) := by decide +kernel
theorem dX6_fact_54 : decode cX6_fact 54 = .ok (.iload_n 3, 1) := by decide +kernel
theorem dX6_fact_55 : decode cX6_fact 55 = .ok (.ireturn, 1) := by decide +kernel
def pc_X6_fact (i : Nat) : Nat := ([0, 10, 19, 21] : List Nat).getD i 0
set_option maxRecDepth 20000 in
theorem ob_X6_fact_0 {x : ip_Cx} {G : ip_Gl} {d : Nat} (X : ip_X x G tb 4 d 0 0 RX6 cX6_fact) (hr : x.2.2.2.2.2.2.2.2.1.sig.returnType = (some .int)) (hnm : x.2.2.2.2.2.2.2.2.1.name = "fact") : ip_okB x G 4 pc_X6_fact 0 ([oLdI 1, oI (0), oI (7), oCal (ip_call tb d) 0 0 120 3 0 0], tIf (fun a => a = 0) 2 1) := ⟨_, okC (ok_ildn X rfl dX6_fact_0)
  (okC (ok_ic X (by decide) dX6_fact_1)
  (okC (ok_bi X (by decide) dX6_fact_2)
  (okC (ok_calS X (i := 57) (e := en_120) rfl mt_120 rfl rfl rfl tw_885 tw_886 dX6_fact_4)
  (okN)))), ok_ifeq X (by decide) rfl dX6_fact_7⟩
set_option maxRecDepth 20000 in
theorem ob_X6_fact_1 {x : ip_Cx} {G : ip_Gl} {d : Nat} (X : ip_X x G tb 4 d 0 0 RX6 cX6_fact) (hr : x.2.2.2.2.2.2.2.2.1.sig.returnType = (some .int)) (hnm : x.2.2.2.2.2.2.2.2.1.name = "fact") : ip_okB x G 4 pc_X6_fact 10 ([oLdI 2, oI (0), oI (1), oCal (ip_call tb d) 0 0 120 3 0 0], tIf (fun a => a = 0) 2 3) := ⟨_, okC (ok_ildn X rfl dX6_fact_10)
  (okC (ok_ic X (by decide) dX6_fact_11)
  (okC (ok_ic X (by decide) dX6_fact_12)
  (okC (ok_calS X (i := 57) (e := en_120) rfl mt_120 rfl rfl rfl tw_885 tw_886 dX6_fact_13)
  (okN)))), ok_ifne X (by decide) rfl dX6_fact_16⟩
set_option maxRecDepth 20000 in
theorem ob_X6_fact_2 {x : ip_Cx} {G : ip_Gl} {d : Nat} (X : ip_X x G tb 4 d 0 0 RX6 cX6_fact) (hr : x.2.2.2.2.2.2.2.2.1.sig.returnType = (some .int)) (hnm : x.2.2.2.2.2.2.2.2.1.name = "fact") : ip_okB x G 4 pc_X6_fact 19 ([oI (-1)], tRI .int 0 0) := ⟨_, okC (ok_ic X (by decide) dX6_fact_19)
  (okN), ok_ret X hr dX6_fact_20⟩
set_option maxRecDepth 20000 in
theorem ob_X6_fact_3 {x : ip_Cx} {G : ip_Gl} {d : Nat} (X : ip_X x G tb 4 d 0 0 RX6 cX6_fact) (hr : x.2.2.2.2.2.2.2.2.1.sig.returnType = (some .int)) (hnm : x.2.2.2.2.2.2.2.2.1.name = "fact") : ip_okB x G 4 pc_X6_fact 21 ([oLdA 0, oGet 6 0, oI (5), oAldI, oLdI 1, oBI (fun a b => a >>> (b &&& 31)), oI (1), oBI (fun a b => a &&& b), oStI 3, oLdA 0, oGet 6 0, oI (5), oLdA 0, oGet 6 0, oI (5), oAldI, oI (1), oLdI 1, oBI (fun a b => a <<< (b &&& 31)), oI (-1), oBI (fun a b => a ^^^ b), oBI (fun a b => a &&& b), oLdI 2, oLdI 1, oBI (fun a b => a <<< (b &&& 31)), oBI (fun a b => a ||| b), oAstI, oLdI 3], tRI .int 0 0) := ⟨_, okC (ok_aldn X rfl dX6_fact_21)
  (okC (ok_get X (ci := 6) rfl (by decide) iw_X6 tw_795 dX6_fact_22)
  (okC (ok_ic X (by decide) dX6_fact_25)
  (okC (ok_iald X dX6_fact_26)
  (okC (ok_ildn X rfl dX6_fact_27)
  (okC (ok_ishr X dX6_fact_28)
  (okC (ok_ic X (by decide) dX6_fact_29)
  (okC (ok_iand X dX6_fact_30)
  (okC (ok_istn X rfl (by decide) dX6_fact_31)
  (okC (ok_aldn X rfl dX6_fact_32)
  (okC (ok_get X (ci := 6) rfl (by decide) iw_X6 tw_795 dX6_fact_33)
  (okC (ok_ic X (by decide) dX6_fact_36)
  (okC (ok_aldn X rfl dX6_fact_37)
  (okC (ok_get X (ci := 6) rfl (by decide) iw_X6 tw_795 dX6_fact_38)
  (okC (ok_ic X (by decide) dX6_fact_41)
  (okC (ok_iald X dX6_fact_42)
  (okC (ok_ic X (by decide) dX6_fact_43)
  (okC (ok_ildn X rfl dX6_fact_44)
  (okC (ok_ishl X dX6_fact_45)
  (okC (ok_ic X (by decide) dX6_fact_46)
  (okC (ok_ixor X dX6_fact_47)
  (okC (ok_iand X dX6_fact_48)
  (okC (ok_ildn X rfl dX6_fact_49)
  (okC (ok_ildn X rfl dX6_fact_50)
  (okC (ok_ishl X dX6_fact_51)
  (okC (ok_ior X dX6_fact_52)
  (okC (ok_iast X dX6_fact_53)
  (okC (ok_ildn X rfl dX6_fact_54)
  (okN)))))))))))))))))))))))))))), ok_ret X hr dX6_fact_55⟩
theorem om_147 : ip_MOk tb en_147 pc_X6_fact := fun x G d X hr hnm => ⟨ob_X6_fact_0 X hr hnm, ⟨ob_X6_fact_1 X hr hnm, ⟨ob_X6_fact_2 X hr hnm, ⟨ob_X6_fact_3 X hr hnm, trivial⟩⟩⟩⟩
theorem dX6_isKind_0 : decode cX6_isKind 0 = .ok (.iload_n 0, 1) := by decide +kernel
theorem dX6_isKind_1 : decode cX6_isKind 1 = .ok (.iconst 0, 1) := by decide +kernel
theorem dX6_isKind_2 : decode cX6_isKind 2 = .ok (.iconst 5, 1) := by decide +kernel
theorem dX6_isKind_3 : decode cX6_isKind 3 = .ok (.invokestatic 57, 3) := by decide +kernel
theorem dX6_isKind_6 : decode cX6_isKind 6 = .ok (.ifCond .eq 17, 3) := by decide +kernel
theorem dX6_isKind_9 : decode cX6_isKind 9 = .ok (.iload_n 1, 1) := by decide +kernel
theorem dX6_isKind_10 : decode cX6_isKind 10 = .ok (.iconst 0, 1) := by decide +kernel
theorem dX6_isKind_11 : decode cX6_isKind 11 = .ok (.bipush 99, 2) := by decide +kernel
theorem dX6_isKind_13 : decode cX6_isKind 13 = .ok (.invokestatic 57, 3) := by decide +kernel
theorem dX6_isKind_16 : decode cX6_isKind 16 = .ok (.ifCond .eq 7, 3) := by decide +kernel
theorem dX6_isKind_19 : decode cX6_isKind 19 = .ok (.iconst 1, 1) := by decide +kernel
theorem dX6_isKind_20 : decode cX6_isKind 20 = .ok (.goto 4, 3) := by decide +kernel
theorem dX6_isKind_23 : decode cX6_isKind 23 = .ok (.iconst 0, 1) := by decide +kernel
theorem dX6_isKind_24 : decode cX6_isKind 24 = .ok (.ireturn, 1) := by decide +kernel
def pc_X6_isKind (i : Nat) : Nat := ([0, 9, 19, 23, 24] : List Nat).getD i 0
set_option maxRecDepth 20000 in
theorem ob_X6_isKind_0 {x : ip_Cx} {G : ip_Gl} {d : Nat} (X : ip_X x G tb 2 d 0 0 RX6 cX6_isKind) (hr : x.2.2.2.2.2.2.2.2.1.sig.returnType = (some .boolean)) (hnm : x.2.2.2.2.2.2.2.2.1.name = "isKind") : ip_okB x G 2 pc_X6_isKind 0 ([oLdI 0, oI (0), oI (5), oCal (ip_call tb d) 0 0 120 3 0 0], tIf (fun a => a = 0) 3 1) := ⟨_, okC (ok_ildn X rfl dX6_isKind_0)
  (okC (ok_ic X (by decide) dX6_isKind_1)
  (okC (ok_ic X (by decide) dX6_isKind_2)
  (okC (ok_calS X (i := 57) (e := en_120) rfl mt_120 rfl rfl rfl tw_885 tw_886 dX6_isKind_3)
  (okN)))), ok_ifeq X (by decide) rfl dX6_isKind_6⟩
set_option maxRecDepth 20000 in
theorem ob_X6_isKind_1 {x : ip_Cx} {G : ip_Gl} {d : Nat} (X : ip_X x G tb 2 d 0 0 RX6 cX6_isKind) (hr : x.2.2.2.2.2.2.2.2.1.sig.returnType = (some .boolean)) (hnm : x.2.2.2.2.2.2.2.2.1.name = "isKind") : ip_okB x G 2 pc_X6_isKind 9 ([oLdI 1, oI (0), oI (99), oCal (ip_call tb d) 0 0 120 3 0 0], tIf (fun a => a = 0) 3 2) := ⟨_, okC (ok_ildn X rfl dX6_isKind_9)
  (okC (ok_ic X (by decide) dX6_isKind_10)
  (okC (ok_bi X (by decide) dX6_isKind_11)
  (okC (ok_calS X (i := 57) (e := en_120) rfl mt_120 rfl rfl rfl tw_885 tw_886 dX6_isKind_13)
  (okN)))), ok_ifeq X (by decide) rfl dX6_isKind_16⟩
set_option maxRecDepth 20000 in
theorem ob_X6_isKind_2 {x : ip_Cx} {G : ip_Gl} {d : Nat} (X : ip_X x G tb 2 d 0 0 RX6 cX6_isKind) (hr : x.2.2.2.2.2.2.2.2.1.sig.returnType = (some .boolean)) (hnm : x.2.2.2.2.2.2.2.2.1.name = "isKind") : ip_okB x G 2 pc_X6_isKind 19 ([oI (1)], tGo 4) := ⟨_, okC (ok_ic X (by decide) dX6_isKind_19)
  (okN), ok_go X (by decide) dX6_isKind_20⟩
set_option maxRecDepth 20000 in
theorem ob_X6_isKind_3 {x : ip_Cx} {G : ip_Gl} {d : Nat} (X : ip_X x G tb 2 d 0 0 RX6 cX6_isKind) (hr : x.2.2.2.2.2.2.2.2.1.sig.returnType = (some .boolean)) (hnm : x.2.2.2.2.2.2.2.2.1.name = "isKind") : ip_okB x G 2 pc_X6_isKind 23 ([oI (0)], tGo 4) := ⟨_, okC (ok_ic X (by decide) dX6_isKind_23)
  (okN), ok_fall rfl⟩
set_option maxRecDepth 20000 in
theorem ob_X6_isKind_4 {x : ip_Cx} {G : ip_Gl} {d : Nat} (X : ip_X x G tb 2 d 0 0 RX6 cX6_isKind) (hr : x.2.2.2.2.2.2.2.2.1.sig.returnType = (some .boolean)) (hnm : x.2.2.2.2.2.2.2.2.1.name = "isKind") : ip_okB x G 2 pc_X6_isKind 24 ([], tRI .boolean 0 0) := ⟨_, okN, ok_ret X hr dX6_isKind_24⟩
theorem om_148 : ip_MOk tb en_148 pc_X6_isKind := fun x G d X hr hnm => ⟨ob_X6_isKind_0 X hr hnm, ⟨ob_X6_isKind_1 X hr hnm, ⟨ob_X6_isKind_2 X hr hnm, ⟨ob_X6_isKind_3 X hr hnm, ⟨ob_X6_isKind_4 X hr hnm, trivial⟩⟩⟩⟩⟩
