theorem dX5_many_0 : decode cX5_many 0 = .ok (.iload_n 1, 1) := by decide +kernel
theorem dX5_many_1 : decode cX5_many 1 = .ok (.tableswitch 105 0 6 #[43, 51, 62, 73, 84, 89, 97], 43) := by decide +kernel
theorem dX5_many_44 : decode cX5_many 44 = .ok (.aload_n 0, 1) := by decide +kernel
theorem dX5_many_45 : decode cX5_many 45 = .ok (.getfield 10, 3) := by decide +kernel
theorem dX5_many_48 : decode cX5_many 48 = .ok (.getfield 92, 3) := by decide +kernel
theorem dX5_many_51 : decode cX5_many 51 = .ok (.ireturn, 1) := by decide +kernel
theorem dX5_many_52 : decode cX5_many 52 = .ok (.aload_n 0, 1) := by decide +kernel
theorem dX5_many_53 : decode cX5_many 53 = .ok (.getfield 10, 3) := by decide +kernel
theorem dX5_many_56 : decode cX5_many 56 = .ok (.invokevirtual 168, 3) := by decide +kernel
theorem dX5_many_59 : decode cX5_many 59 = .ok (.invokestatic 171, 3) := by decide +kernel
theorem dX5_many_62 : decode cX5_many 62 = .ok (.ireturn, 1) := by decide +kernel
theorem dX5_many_63 : decode cX5_many 63 = .ok (.aload_n 0, 1) := by decide +kernel
theorem dX5_many_64 : decode cX5_many 64 = .ok (.getfield 10, 3) := by decide +kernel
theorem dX5_many_67 : decode cX5_many 67 = .ok (.getfield 137, 3) := by decide +kernel
theorem dX5_many_70 : decode cX5_many 70 = .ok (.invokestatic 171, 3) := by decide +kernel
theorem dX5_many_73 : decode cX5_many 73 = .ok (.ireturn, 1) := by decide +kernel
theorem dX5_many_74 : decode cX5_many 74 = .ok (.aload_n 0, 1) := by decide +kernel
theorem dX5_many_75 : decode cX5_many 75 = .ok (.getfield 10, 3) := by decide +kernel
theorem dX5_many_78 : decode cX5_many 78 = .ok (.getfield 101, 3) := by decide +kernel
theorem dX5_many_81 : decode cX5_many 81 = .ok (.invokestatic 171, 3) := by decide +kernel
theorem dX5_many_84 : decode cX5_many 84 = .ok (.ireturn, 1) := by decide +kernel
theorem dX5_many_85 : decode cX5_many 85 = .ok (.aload_n 0, 1) := by decide +kernel
theorem dX5_many_86 : decode cX5_many 86 = .ok (.getfield 51, 3) := by decide +kernel
theorem dX5_many_89 : decode cX5_many 89 = .ok (.ireturn, 1) := by decide +kernel
theorem dX5_many_90 : decode cX5_many 90 = .ok (.aload_n 0, 1) := by decide +kernel
theorem dX5_many_91 : decode cX5_many 91 = .ok (.getfield 36, 3) := by decide +kernel
theorem dX5_many_94 : decode cX5_many 94 = .ok (.getfield 71, 3) := by decide +kernel
theorem dX5_many_97 : decode cX5_many 97 = .ok (.ireturn, 1) := by decide +kernel
theorem dX5_many_98 : decode cX5_many 98 = .ok (.aload_n 0, 1) := by decide +kernel
theorem dX5_many_99 : decode cX5_many 99 = .ok (.getfield 43, 3) := by decide +kernel
theorem dX5_many_102 : decode cX5_many 102 = .ok (.getfield 289, 3) := by decide +kernel
theorem dX5_many_105 : decode cX5_many 105 = .ok (.ireturn, 1) := by decide +kernel
theorem dX5_many_106 : decode cX5_many 106 = .ok (.iconst (-1), 1) := by decide +kernel
theorem dX5_many_107 : decode cX5_many 107 = .ok (.ireturn, 1) := by decide +kernel
def pc_X5_many (i : Nat) : Nat := ([0, 44, 52, 63, 74, 85, 90, 98, 106] : List Nat).getD i 0
set_option maxRecDepth 20000 in
theorem ob_X5_many_0 {x : ip_Cx} {G : ip_Gl} {d : Nat} (X : ip_X x G tb 2 d 0 0 RX5 cX5_many) (hr : x.2.2.2.2.2.2.2.2.1.sig.returnType = (some .int)) (hnm : x.2.2.2.2.2.2.2.2.1.name = "many") : ip_okB x G 2 pc_X5_many 0 ([oLdI 1], tSw [(0, 1), (1, 2), (2, 3), (3, 4), (4, 5), (5, 6), (6, 7)] 8) := ⟨_, okC (ok_ildn X rfl dX5_many_0)
  (okN), ok_tsw X (by decide) (by decide +kernel) (by decide) dX5_many_1⟩
set_option maxRecDepth 20000 in
theorem ob_X5_many_1 {x : ip_Cx} {G : ip_Gl} {d : Nat} (X : ip_X x G tb 2 d 0 0 RX5 cX5_many) (hr : x.2.2.2.2.2.2.2.2.1.sig.returnType = (some .int)) (hnm : x.2.2.2.2.2.2.2.2.1.name = "many") : ip_okB x G 2 pc_X5_many 44 ([oLdA 0, oGet 5 0, oGet 1 4], tRI .int 0 0) := ⟨_, okC (ok_aldn X rfl dX5_many_44)
  (okC (ok_get X (ci := 5) rfl (by decide) iw_X5 tw_198 dX5_many_45)
  (okC (ok_get X (ci := 1) rfl (by decide) iw_X1 tw_51 dX5_many_48)
  (okN))), ok_ret X hr dX5_many_51⟩
set_option maxRecDepth 20000 in
theorem ob_X5_many_2 {x : ip_Cx} {G : ip_Gl} {d : Nat} (X : ip_X x G tb 2 d 0 0 RX5 cX5_many) (hr : x.2.2.2.2.2.2.2.2.1.sig.returnType = (some .int)) (hnm : x.2.2.2.2.2.2.2.2.1.name = "many") : ip_okB x G 2 pc_X5_many 52 ([oLdA 0, oGet 5 0, oCaV (ip_call tb d) 0 0 1 16 1 0 0, oCal (ip_call tb d) 0 0 227 1 0 0], tRI .int 0 0) := ⟨_, okC (ok_aldn X rfl dX5_many_52)
  (okC (ok_get X (ci := 5) rfl (by decide) iw_X5 tw_198 dX5_many_53)
  (okC (ok_calV X (i := 168) (e := en_16) rfl mt_16 rfl rfl rfl tw_509 tw_510 (Or.inl ⟨_, _, rfl⟩) tw_511 dX5_many_56)
  (okC (ok_calS X (i := 171) (e := en_227) rfl mt_227 rfl rfl rfl tw_431 tw_432 dX5_many_59)
  (okN)))), ok_ret X hr dX5_many_62⟩
set_option maxRecDepth 20000 in
theorem ob_X5_many_3 {x : ip_Cx} {G : ip_Gl} {d : Nat} (X : ip_X x G tb 2 d 0 0 RX5 cX5_many) (hr : x.2.2.2.2.2.2.2.2.1.sig.returnType = (some .int)) (hnm : x.2.2.2.2.2.2.2.2.1.name = "many") : ip_okB x G 2 pc_X5_many 63 ([oLdA 0, oGet 5 0, oGet 1 10, oCal (ip_call tb d) 0 0 227 1 0 0], tRI .int 0 0) := ⟨_, okC (ok_aldn X rfl dX5_many_63)
  (okC (ok_get X (ci := 5) rfl (by decide) iw_X5 tw_198 dX5_many_64)
  (okC (ok_get X (ci := 1) rfl (by decide) iw_X1 tw_72 dX5_many_67)
  (okC (ok_calS X (i := 171) (e := en_227) rfl mt_227 rfl rfl rfl tw_431 tw_432 dX5_many_70)
  (okN)))), ok_ret X hr dX5_many_73⟩
set_option maxRecDepth 20000 in
theorem ob_X5_many_4 {x : ip_Cx} {G : ip_Gl} {d : Nat} (X : ip_X x G tb 2 d 0 0 RX5 cX5_many) (hr : x.2.2.2.2.2.2.2.2.1.sig.returnType = (some .int)) (hnm : x.2.2.2.2.2.2.2.2.1.name = "many") : ip_okB x G 2 pc_X5_many 74 ([oLdA 0, oGet 5 0, oGet 1 1, oCal (ip_call tb d) 0 0 227 1 0 0], tRI .int 0 0) := ⟨_, okC (ok_aldn X rfl dX5_many_74)
  (okC (ok_get X (ci := 5) rfl (by decide) iw_X5 tw_198 dX5_many_75)
  (okC (ok_get X (ci := 1) rfl (by decide) iw_X1 tw_44 dX5_many_78)
  (okC (ok_calS X (i := 171) (e := en_227) rfl mt_227 rfl rfl rfl tw_431 tw_432 dX5_many_81)
  (okN)))), ok_ret X hr dX5_many_84⟩
set_option maxRecDepth 20000 in
theorem ob_X5_many_5 {x : ip_Cx} {G : ip_Gl} {d : Nat} (X : ip_X x G tb 2 d 0 0 RX5 cX5_many) (hr : x.2.2.2.2.2.2.2.2.1.sig.returnType = (some .int)) (hnm : x.2.2.2.2.2.2.2.2.1.name = "many") : ip_okB x G 2 pc_X5_many 85 ([oLdA 0, oGet 5 8], tRI .int 0 0) := ⟨_, okC (ok_aldn X rfl dX5_many_85)
  (okC (ok_get X (ci := 5) rfl (by decide) iw_X5 tw_206 dX5_many_86)
  (okN)), ok_ret X hr dX5_many_89⟩
set_option maxRecDepth 20000 in
theorem ob_X5_many_6 {x : ip_Cx} {G : ip_Gl} {d : Nat} (X : ip_X x G tb 2 d 0 0 RX5 cX5_many) (hr : x.2.2.2.2.2.2.2.2.1.sig.returnType = (some .int)) (hnm : x.2.2.2.2.2.2.2.2.1.name = "many") : ip_okB x G 2 pc_X5_many 90 ([oLdA 0, oGet 5 5, oGet 3 1], tRI .int 0 0) := ⟨_, okC (ok_aldn X rfl dX5_many_90)
  (okC (ok_get X (ci := 5) rfl (by decide) iw_X5 tw_203 dX5_many_91)
  (okC (ok_get X (ci := 3) rfl (by decide) iw_X3 tw_150 dX5_many_94)
  (okN))), ok_ret X hr dX5_many_97⟩
set_option maxRecDepth 20000 in
theorem ob_X5_many_7 {x : ip_Cx} {G : ip_Gl} {d : Nat} (X : ip_X x G tb 2 d 0 0 RX5 cX5_many) (hr : x.2.2.2.2.2.2.2.2.1.sig.returnType = (some .int)) (hnm : x.2.2.2.2.2.2.2.2.1.name = "many") : ip_okB x G 2 pc_X5_many 98 ([oLdA 0, oGet 5 6, oGet 0 1], tRI .int 0 0) := ⟨_, okC (ok_aldn X rfl dX5_many_98)
  (okC (ok_get X (ci := 5) rfl (by decide) iw_X5 tw_204 dX5_many_99)
  (okC (ok_get X (ci := 0) rfl (by decide) iw_X0 tw_178 dX5_many_102)
  (okN))), ok_ret X hr dX5_many_105⟩
set_option maxRecDepth 20000 in
theorem ob_X5_many_8 {x : ip_Cx} {G : ip_Gl} {d : Nat} (X : ip_X x G tb 2 d 0 0 RX5 cX5_many) (hr : x.2.2.2.2.2.2.2.2.1.sig.returnType = (some .int)) (hnm : x.2.2.2.2.2.2.2.2.1.name = "many") : ip_okB x G 2 pc_X5_many 106 ([oI (-1)], tRI .int 0 0) := ⟨_, okC (ok_ic X (by decide) dX5_many_106)
  (okN), ok_ret X hr dX5_many_107⟩
theorem om_92 : ip_MOk tb en_92 pc_X5_many := fun x G d X hr hnm => ⟨ob_X5_many_0 X hr hnm, ⟨ob_X5_many_1 X hr hnm, ⟨ob_X5_many_2 X hr hnm, ⟨ob_X5_many_3 X hr hnm, ⟨ob_X5_many_4 X hr hnm, ⟨ob_X5_many_5 X hr hnm, ⟨ob_X5_many_6 X hr hnm, ⟨ob_X5_many_7 X hr hnm, ⟨ob_X5_many_8 X hr hnm, trivial⟩⟩⟩⟩⟩⟩⟩⟩⟩
theorem dX5_keep_0 : decode cX5_keep 0 = .ok (.aload_n 0, 1) := by decide +kernel
theorem dX5_keep_1 : decode cX5_keep 1 = .ok (.getfield 19, 3) := by decide +kernel
theorem dX5_keep_4 : decode cX5_keep 4 = .ok (.aload_n 0, 1) := by decide +kernel
theorem dX5_keep_5 : decode cX5_keep 5 = .ok (.getfield 10, 3) := by decide +kernel
theorem dX5_keep_8 : decode cX5_keep 8 = .ok (.invokevirtual 88, 3) := by decide +kernel
theorem dX5_keep_11 : decode cX5_keep 11 = .ok (.aload_n 0, 1) := by decide +kernel
theorem dX5_keep_12 : decode cX5_keep 12 = .ok (.iconst 1, 1) := by decide +kernel
theorem dX5_keep_13 : decode cX5_keep 13 = .ok (.putfield 22, 3) := by decide +kernel
theorem dX5_keep_16 : decode cX5_keep 16 = .ok (.iconst 1, 1) := by decide +kernel
theorem dX5_keep_17 : decode cX5_keep 17 = .ok (.ireturn, 1) := by decide +kernel
def pc_X5_keep (i : Nat) : Nat := ([0] : List Nat).getD i 0
set_option maxRecDepth 20000 in
theorem ob_X5_keep_0 {x : ip_Cx} {G : ip_Gl} {d : Nat} (X : ip_X x G tb 1 d 0 0 RX5 cX5_keep) (hr : x.2.2.2.2.2.2.2.2.1.sig.returnType = (some .int)) (hnm : x.2.2.2.2.2.2.2.2.1.name = "keep") : ip_okB x G 1 pc_X5_keep 0 ([oLdA 0, oGet 5 2, oLdA 0, oGet 5 0, oCaV (ip_call tb d) 0 0 1 9 2 0 0, oLdA 0, oI (1), oPut 5 3 .boolean, oI (1)], tRI .int 0 0) := ⟨_, okC (ok_aldn X rfl dX5_keep_0)
  (okC (ok_get X (ci := 5) rfl (by decide) iw_X5 tw_200 dX5_keep_1)
  (okC (ok_aldn X rfl dX5_keep_4)
  (okC (ok_get X (ci := 5) rfl (by decide) iw_X5 tw_198 dX5_keep_5)
  (okC (ok_calV X (i := 88) (e := en_9) rfl mt_9 rfl rfl rfl tw_374 tw_375 (Or.inl ⟨_, _, rfl⟩) tw_376 dX5_keep_8)
  (okC (ok_aldn X rfl dX5_keep_11)
  (okC (ok_ic X (by decide) dX5_keep_12)
  (okC (ok_put X (ci := 5) rfl (by decide) iw_X5 tyX5_ok nmX5 rfl (Or.inl rfl) tw_201 dX5_keep_13)
  (okC (ok_ic X (by decide) dX5_keep_16)
  (okN))))))))), ok_ret X hr dX5_keep_17⟩
theorem om_93 : ip_MOk tb en_93 pc_X5_keep := fun x G d X hr hnm => ⟨ob_X5_keep_0 X hr hnm, trivial⟩
theorem dX5_again_0 : decode cX5_again 0 = .ok (.aload_n 0, 1) := by decide +kernel
theorem dX5_again_1 : decode cX5_again 1 = .ok (.getfield 22, 3) := by decide +kernel
theorem dX5_again_4 : decode cX5_again 4 = .ok (.ifCond .ne 6, 3) := by decide +kernel
theorem dX5_again_7 : decode cX5_again 7 = .ok (.bipush (-3), 2) := by decide +kernel
theorem dX5_again_9 : decode cX5_again 9 = .ok (.ireturn, 1) := by decide +kernel
theorem dX5_again_10 : decode cX5_again 10 = .ok (.aload_n 0, 1) := by decide +kernel
theorem dX5_again_11 : decode cX5_again 11 = .ok (.getfield 10, 3) := by decide +kernel
theorem dX5_again_14 : decode cX5_again 14 = .ok (.aload_n 0, 1) := by decide +kernel
theorem dX5_again_15 : decode cX5_again 15 = .ok (.getfield 19, 3) := by decide +kernel
theorem dX5_again_18 : decode cX5_again 18 = .ok (.invokevirtual 88, 3) := by decide +kernel
theorem dX5_again_21 : decode cX5_again 21 = .ok (.aload_n 0, 1) := by decide +kernel
theorem dX5_again_22 : decode cX5_again 22 = .ok (.getfield 10, 3) := by decide +kernel
theorem dX5_again_25 : decode cX5_again 25 = .ok (.getfield 92, 3) := by decide +kernel
theorem dX5_again_28 : decode cX5_again 28 = .ok (.ireturn, 1) := by decide +kernel
def pc_X5_again (i : Nat) : Nat := ([0, 7, 10] : List Nat).getD i 0
set_option maxRecDepth 20000 in
theorem ob_X5_again_0 {x : ip_Cx} {G : ip_Gl} {d : Nat} (X : ip_X x G tb 1 d 0 0 RX5 cX5_again) (hr : x.2.2.2.2.2.2.2.2.1.sig.returnType = (some .int)) (hnm : x.2.2.2.2.2.2.2.2.1.name = "again") : ip_okB x G 1 pc_X5_again 0 ([oLdA 0, oGet 5 3], tIf (fun a => a = 0) 1 2) := ⟨_, okC (ok_aldn X rfl dX5_again_0)
  (okC (ok_get X (ci := 5) rfl (by decide) iw_X5 tw_201 dX5_again_1)
  (okN)), ok_ifne X (by decide) rfl dX5_again_4⟩
set_option maxRecDepth 20000 in
theorem ob_X5_again_1 {x : ip_Cx} {G : ip_Gl} {d : Nat} (X : ip_X x G tb 1 d 0 0 RX5 cX5_again) (hr : x.2.2.2.2.2.2.2.2.1.sig.returnType = (some .int)) (hnm : x.2.2.2.2.2.2.2.2.1.name = "again") : ip_okB x G 1 pc_X5_again 7 ([oI (-3)], tRI .int 0 0) := ⟨_, okC (ok_bi X (by decide) dX5_again_7)
  (okN), ok_ret X hr dX5_again_9⟩
set_option maxRecDepth 20000 in
theorem ob_X5_again_2 {x : ip_Cx} {G : ip_Gl} {d : Nat} (X : ip_X x G tb 1 d 0 0 RX5 cX5_again) (hr : x.2.2.2.2.2.2.2.2.1.sig.returnType = (some .int)) (hnm : x.2.2.2.2.2.2.2.2.1.name = "again") : ip_okB x G 1 pc_X5_again 10 ([oLdA 0, oGet 5 0, oLdA 0, oGet 5 2, oCaV (ip_call tb d) 0 0 1 9 2 0 0, oLdA 0, oGet 5 0, oGet 1 4], tRI .int 0 0) := ⟨_, okC (ok_aldn X rfl dX5_again_10)
  (okC (ok_get X (ci := 5) rfl (by decide) iw_X5 tw_198 dX5_again_11)
  (okC (ok_aldn X rfl dX5_again_14)
  (okC (ok_get X (ci := 5) rfl (by decide) iw_X5 tw_200 dX5_again_15)
  (okC (ok_calV X (i := 88) (e := en_9) rfl mt_9 rfl rfl rfl tw_374 tw_375 (Or.inl ⟨_, _, rfl⟩) tw_376 dX5_again_18)
  (okC (ok_aldn X rfl dX5_again_21)
  (okC (ok_get X (ci := 5) rfl (by decide) iw_X5 tw_198 dX5_again_22)
  (okC (ok_get X (ci := 1) rfl (by decide) iw_X1 tw_51 dX5_again_25)
  (okN)))))))), ok_ret X hr dX5_again_28⟩
theorem om_94 : ip_MOk tb en_94 pc_X5_again := fun x G d X hr hnm => ⟨ob_X5_again_0 X hr hnm, ⟨ob_X5_again_1 X hr hnm, ⟨ob_X5_again_2 X hr hnm, trivial⟩⟩⟩
theorem dX5_within_0 : decode cX5_within 0 = .ok (.iload_n 0, 1) := by decide +kernel
theorem dX5_within_1 : decode cX5_within 1 = .ok (.iload_n 1, 1) := by decide +kernel
theorem dX5_within_2 : decode cX5_within 2 = .ok (.if_icmp .lt 12, 3) := by decide +kernel
theorem dX5_within_5 : decode cX5_within 5 = .ok (.iload_n 0, 1) := by decide +kernel
theorem dX5_within_6 : decode cX5_within 6 = .ok (.iload_n 2, 1) := by decide +kernel
theorem dX5_within_7 : decode cX5_within 7 = .ok (.if_icmp .gt 7, 3) := by decide +kernel
theorem dX5_within_10 : decode cX5_within 10 = .ok (.iconst 1, 1) := by decide +kernel
theorem dX5_within_11 : decode cX5_within 11 = .ok (.goto 4, 3) := by decide +kernel
theorem dX5_within_14 : decode cX5_within 14 = .ok (.iconst 0, 1) := by decide +kernel
theorem dX5_within_15 : decode cX5_within 15 = .ok (.ireturn, 1) := by decide +kernel
def pc_X5_within (i : Nat) : Nat := ([0, 5, 10, 14, 15] : List Nat).getD i 0
set_option maxRecDepth 20000 in
theorem ob_X5_within_0 {x : ip_Cx} {G : ip_Gl} {d : Nat} (X : ip_X x G tb 3 d 0 0 RX5 cX5_within) (hr : x.2.2.2.2.2.2.2.2.1.sig.returnType = (some .boolean)) (hnm : x.2.2.2.2.2.2.2.2.1.name = "within") : ip_okB x G 3 pc_X5_within 0 ([oLdI 0, oLdI 1], tCm (fun a b => a < b) 3 1) := ⟨_, okC (ok_ildn X rfl dX5_within_0)
  (okC (ok_ildn X rfl dX5_within_1)
  (okN)), ok_cmlt X (by decide) rfl dX5_within_2⟩
set_option maxRecDepth 20000 in
theorem ob_X5_within_1 {x : ip_Cx} {G : ip_Gl} {d : Nat} (X : ip_X x G tb 3 d 0 0 RX5 cX5_within) (hr : x.2.2.2.2.2.2.2.2.1.sig.returnType = (some .boolean)) (hnm : x.2.2.2.2.2.2.2.2.1.name = "within") : ip_okB x G 3 pc_X5_within 5 ([oLdI 0, oLdI 2], tCm (fun a b => b < a) 3 2) := ⟨_, okC (ok_ildn X rfl dX5_within_5)
  (okC (ok_ildn X rfl dX5_within_6)
  (okN)), ok_cmgt X (by decide) rfl dX5_within_7⟩
set_option maxRecDepth 20000 in
theorem ob_X5_within_2 {x : ip_Cx} {G : ip_Gl} {d : Nat} (X : ip_X x G tb 3 d 0 0 RX5 cX5_within) (hr : x.2.2.2.2.2.2.2.2.1.sig.returnType = (some .boolean)) (hnm : x.2.2.2.2.2.2.2.2.1.name = "within") : ip_okB x G 3 pc_X5_within 10 ([oI (1)], tGo 4) := ⟨_, okC (ok_ic X (by decide) dX5_within_10)
  (okN), ok_go X (by decide) dX5_within_11⟩
set_option maxRecDepth 20000 in
theorem ob_X5_within_3 {x : ip_Cx} {G : ip_Gl} {d : Nat} (X : ip_X x G tb 3 d 0 0 RX5 cX5_within) (hr : x.2.2.2.2.2.2.2.2.1.sig.returnType = (some .boolean)) (hnm : x.2.2.2.2.2.2.2.2.1.name = "within") : ip_okB x G 3 pc_X5_within 14 ([oI (0)], tGo 4) := ⟨_, okC (ok_ic X (by decide) dX5_within_14)
  (okN), ok_fall rfl⟩
set_option maxRecDepth 20000 in
theorem ob_X5_within_4 {x : ip_Cx} {G : ip_Gl} {d : Nat} (X : ip_X x G tb 3 d 0 0 RX5 cX5_within) (hr : x.2.2.2.2.2.2.2.2.1.sig.returnType = (some .boolean)) (hnm : x.2.2.2.2.2.2.2.2.1.name = "within") : ip_okB x G 3 pc_X5_within 15 ([], tRI .boolean 0 0) := ⟨_, okN, ok_ret X hr dX5_within_15⟩
theorem om_95 : ip_MOk tb en_95 pc_X5_within := fun x G d X hr hnm => ⟨ob_X5_within_0 X hr hnm, ⟨ob_X5_within_1 X hr hnm, ⟨ob_X5_within_2 X hr hnm, ⟨ob_X5_within_3 X hr hnm, ⟨ob_X5_within_4 X hr hnm, trivial⟩⟩⟩⟩⟩
theorem dX5_isKind_0 : decode cX5_isKind 0 = .ok (.iload_n 0, 1) := by decide +kernel
theorem dX5_isKind_1 : decode cX5_isKind 1 = .ok (.iconst 0, 1) := by decide +kernel
theorem dX5_isKind_2 : decode cX5_isKind 2 = .ok (.iconst 5, 1) := by decide +kernel
theorem dX5_isKind_3 : decode cX5_isKind 3 = .ok (.invokestatic 67, 3) := by decide +kernel
theorem dX5_isKind_6 : decode cX5_isKind 6 = .ok (.ireturn, 1) := by decide +kernel
def pc_X5_isKind (i : Nat) : Nat := ([0] : List Nat).getD i 0
set_option maxRecDepth 20000 in
theorem ob_X5_isKind_0 {x : ip_Cx} {G : ip_Gl} {d : Nat} (X : ip_X x G tb 1 d 0 0 RX5 cX5_isKind) (hr : x.2.2.2.2.2.2.2.2.1.sig.returnType = (some .boolean)) (hnm : x.2.2.2.2.2.2.2.2.1.name = "isKind") : ip_okB x G 1 pc_X5_isKind 0 ([oLdI 0, oI (0), oI (5), oCal (ip_call tb d) 0 0 95 3 0 0], tRI .boolean 0 0) := ⟨_, okC (ok_ildn X rfl dX5_isKind_0)
  (okC (ok_ic X (by decide) dX5_isKind_1)
  (okC (ok_ic X (by decide) dX5_isKind_2)
  (okC (ok_calS X (i := 67) (e := en_95) rfl mt_95 rfl rfl rfl tw_239 tw_240 dX5_isKind_3)
  (okN)))), ok_ret X hr dX5_isKind_6⟩
theorem om_96 : ip_MOk tb en_96 pc_X5_isKind := fun x G d X hr hnm => ⟨ob_X5_isKind_0 X hr hnm, trivial⟩
theorem dX5_isWeight_0 : decode cX5_isWeight 0 = .ok (.iload_n 0, 1) := by decide +kernel
theorem dX5_isWeight_1 : decode cX5_isWeight 1 = .ok (.iconst 0, 1) := by decide +kernel
theorem dX5_isWeight_2 : decode cX5_isWeight 2 = .ok (.bipush 99, 2) := by decide +kernel
theorem dX5_isWeight_4 : decode cX5_isWeight 4 = .ok (.invokestatic 67, 3) := by decide +kernel
theorem dX5_isWeight_7 : decode cX5_isWeight 7 = .ok (.ireturn, 1) := by decide +kernel
def pc_X5_isWeight (i : Nat) : Nat := ([0] : List Nat).getD i 0
set_option maxRecDepth 20000 in
theorem ob_X5_isWeight_0 {x : ip_Cx} {G : ip_Gl} {d : Nat} (X : ip_X x G tb 1 d 0 0 RX5 cX5_isWeight) (hr : x.2.2.2.2.2.2.2.2.1.sig.returnType = (some .boolean)) (hnm : x.2.2.2.2.2.2.2.2.1.name = "isWeight") : ip_okB x G 1 pc_X5_isWeight 0 ([oLdI 0, oI (0), oI (99), oCal (ip_call tb d) 0 0 95 3 0 0], tRI .boolean 0 0) := ⟨_, okC (ok_ildn X rfl dX5_isWeight_0)
  (okC (ok_ic X (by decide) dX5_isWeight_1)
  (okC (ok_bi X (by decide) dX5_isWeight_2)
  (okC (ok_calS X (i := 67) (e := en_95) rfl mt_95 rfl rfl rfl tw_239 tw_240 dX5_isWeight_4)
  (okN)))), ok_ret X hr dX5_isWeight_7⟩
theorem om_97 : ip_MOk tb en_97 pc_X5_isWeight := fun x G d X hr hnm => ⟨ob_X5_isWeight_0 X hr hnm, trivial⟩
theorem dX5_isFactSet_0 : decode cX5_isFactSet 0 = .ok (.iload_n 0, 1) := by decide +kernel
theorem dX5_isFactSet_1 : decode cX5_isFactSet 1 = .ok (.iconst 0, 1) := by decide +kernel
theorem dX5_isFactSet_2 : decode cX5_isFactSet 2 = .ok (.sipush 255, 3) := by decide +kernel
theorem dX5_isFactSet_5 : decode cX5_isFactSet 5 = .ok (.invokestatic 67, 3) := by decide +kernel
theorem dX5_isFactSet_8 : decode cX5_isFactSet 8 = .ok (.ireturn, 1) := by decide +kernel
def pc_X5_isFactSet (i : Nat) : Nat := ([0] : List Nat).getD i 0
set_option maxRecDepth 20000 in
theorem ob_X5_isFactSet_0 {x : ip_Cx} {G : ip_Gl} {d : Nat} (X : ip_X x G tb 1 d 0 0 RX5 cX5_isFactSet) (hr : x.2.2.2.2.2.2.2.2.1.sig.returnType = (some .boolean)) (hnm : x.2.2.2.2.2.2.2.2.1.name = "isFactSet") : ip_okB x G 1 pc_X5_isFactSet 0 ([oLdI 0, oI (0), oI (255), oCal (ip_call tb d) 0 0 95 3 0 0], tRI .boolean 0 0) := ⟨_, okC (ok_ildn X rfl dX5_isFactSet_0)
  (okC (ok_ic X (by decide) dX5_isFactSet_1)
  (okC (ok_si X (by decide) dX5_isFactSet_2)
  (okC (ok_calS X (i := 67) (e := en_95) rfl mt_95 rfl rfl rfl tw_239 tw_240 dX5_isFactSet_5)
  (okN)))), ok_ret X hr dX5_isFactSet_8⟩
theorem om_98 : ip_MOk tb en_98 pc_X5_isFactSet := fun x G d X hr hnm => ⟨ob_X5_isFactSet_0 X hr hnm, trivial⟩
theorem dX5_isSheet_0 : decode cX5_isSheet 0 = .ok (.iload_n 0, 1) := by decide +kernel
theorem dX5_isSheet_1 : decode cX5_isSheet 1 = .ok (.iconst 0, 1) := by decide +kernel
theorem dX5_isSheet_2 : decode cX5_isSheet 2 = .ok (.iconst 3, 1) := by decide +kernel
theorem dX5_isSheet_3 : decode cX5_isSheet 3 = .ok (.invokestatic 67, 3) := by decide +kernel
theorem dX5_isSheet_6 : decode cX5_isSheet 6 = .ok (.ireturn, 1) := by decide +kernel
def pc_X5_isSheet (i : Nat) : Nat := ([0] : List Nat).getD i 0
set_option maxRecDepth 20000 in
theorem ob_X5_isSheet_0 {x : ip_Cx} {G : ip_Gl} {d : Nat} (X : ip_X x G tb 1 d 0 0 RX5 cX5_isSheet) (hr : x.2.2.2.2.2.2.2.2.1.sig.returnType = (some .boolean)) (hnm : x.2.2.2.2.2.2.2.2.1.name = "isSheet") : ip_okB x G 1 pc_X5_isSheet 0 ([oLdI 0, oI (0), oI (3), oCal (ip_call tb d) 0 0 95 3 0 0], tRI .boolean 0 0) := ⟨_, okC (ok_ildn X rfl dX5_isSheet_0)
  (okC (ok_ic X (by decide) dX5_isSheet_1)
  (okC (ok_ic X (by decide) dX5_isSheet_2)
  (okC (ok_calS X (i := 67) (e := en_95) rfl mt_95 rfl rfl rfl tw_239 tw_240 dX5_isSheet_3)
  (okN)))), ok_ret X hr dX5_isSheet_6⟩
theorem om_99 : ip_MOk tb en_99 pc_X5_isSheet := fun x G d X hr hnm => ⟨ob_X5_isSheet_0 X hr hnm, trivial⟩
theorem dX5_isSort_0 : decode cX5_isSort 0 = .ok (.iload_n 0, 1) := by decide +kernel
theorem dX5_isSort_1 : decode cX5_isSort 1 = .ok (.iconst 0, 1) := by decide +kernel
theorem dX5_isSort_2 : decode cX5_isSort 2 = .ok (.iconst 3, 1) := by decide +kernel
theorem dX5_isSort_3 : decode cX5_isSort 3 = .ok (.invokestatic 67, 3) := by decide +kernel
theorem dX5_isSort_6 : decode cX5_isSort 6 = .ok (.ireturn, 1) := by decide +kernel
def pc_X5_isSort (i : Nat) : Nat := ([0] : List Nat).getD i 0
set_option maxRecDepth 20000 in
theorem ob_X5_isSort_0 {x : ip_Cx} {G : ip_Gl} {d : Nat} (X : ip_X x G tb 1 d 0 0 RX5 cX5_isSort) (hr : x.2.2.2.2.2.2.2.2.1.sig.returnType = (some .boolean)) (hnm : x.2.2.2.2.2.2.2.2.1.name = "isSort") : ip_okB x G 1 pc_X5_isSort 0 ([oLdI 0, oI (0), oI (3), oCal (ip_call tb d) 0 0 95 3 0 0], tRI .boolean 0 0) := ⟨_, okC (ok_ildn X rfl dX5_isSort_0)
  (okC (ok_ic X (by decide) dX5_isSort_1)
  (okC (ok_ic X (by decide) dX5_isSort_2)
  (okC (ok_calS X (i := 67) (e := en_95) rfl mt_95 rfl rfl rfl tw_239 tw_240 dX5_isSort_3)
  (okN)))), ok_ret X hr dX5_isSort_6⟩
theorem om_100 : ip_MOk tb en_100 pc_X5_isSort := fun x G d X hr hnm => ⟨ob_X5_isSort_0 X hr hnm, trivial⟩
theorem dX5_isShelf_0 : decode cX5_isShelf 0 = .ok (.iload_n 0, 1) := by decide +kernel
theorem dX5_isShelf_1 : decode cX5_isShelf 1 = .ok (.iconst 0, 1) := by decide +kernel
theorem dX5_isShelf_2 : decode cX5_isShelf 2 = .ok (.iconst 3, 1) := by decide +kernel
theorem dX5_isShelf_3 : decode cX5_isShelf 3 = .ok (.invokestatic 67, 3) := by decide +kernel
theorem dX5_isShelf_6 : decode cX5_isShelf 6 = .ok (.ireturn, 1) := by decide +kernel
def pc_X5_isShelf (i : Nat) : Nat := ([0] : List Nat).getD i 0
set_option maxRecDepth 20000 in
theorem ob_X5_isShelf_0 {x : ip_Cx} {G : ip_Gl} {d : Nat} (X : ip_X x G tb 1 d 0 0 RX5 cX5_isShelf) (hr : x.2.2.2.2.2.2.2.2.1.sig.returnType = (some .boolean)) (hnm : x.2.2.2.2.2.2.2.2.1.name = "isShelf") : ip_okB x G 1 pc_X5_isShelf 0 ([oLdI 0, oI (0), oI (3), oCal (ip_call tb d) 0 0 95 3 0 0], tRI .boolean 0 0) := ⟨_, okC (ok_ildn X rfl dX5_isShelf_0)
  (okC (ok_ic X (by decide) dX5_isShelf_1)
  (okC (ok_ic X (by decide) dX5_isShelf_2)
  (okC (ok_calS X (i := 67) (e := en_95) rfl mt_95 rfl rfl rfl tw_239 tw_240 dX5_isShelf_3)
  (okN)))), ok_ret X hr dX5_isShelf_6⟩
theorem om_101 : ip_MOk tb en_101 pc_X5_isShelf := fun x G d X hr hnm => ⟨ob_X5_isShelf_0 X hr hnm, trivial⟩
theorem dX5_isWalker_0 : decode cX5_isWalker 0 = .ok (.iload_n 1, 1) := by decide +kernel
theorem dX5_isWalker_1 : decode cX5_isWalker 1 = .ok (.iconst 0, 1) := by decide +kernel
theorem dX5_isWalker_2 : decode cX5_isWalker 2 = .ok (.aload_n 0, 1) := by decide +kernel
theorem dX5_isWalker_3 : decode cX5_isWalker 3 = .ok (.getfield 10, 3) := by decide +kernel
theorem dX5_isWalker_6 : decode cX5_isWalker 6 = .ok (.getfield 92, 3) := by decide +kernel
theorem dX5_isWalker_9 : decode cX5_isWalker 9 = .ok (.iconst 1, 1) := by decide +kernel
theorem dX5_isWalker_10 : decode cX5_isWalker 10 = .ok (.isub, 1) := by decide +kernel
theorem dX5_isWalker_11 : decode cX5_isWalker 11 = .ok (.invokestatic 67, 3) := by decide +kernel
theorem dX5_isWalker_14 : decode cX5_isWalker 14 = .ok (.ireturn, 1) := by decide +kernel
def pc_X5_isWalker (i : Nat) : Nat := ([0] : List Nat).getD i 0
set_option maxRecDepth 20000 in
theorem ob_X5_isWalker_0 {x : ip_Cx} {G : ip_Gl} {d : Nat} (X : ip_X x G tb 2 d 0 0 RX5 cX5_isWalker) (hr : x.2.2.2.2.2.2.2.2.1.sig.returnType = (some .boolean)) (hnm : x.2.2.2.2.2.2.2.2.1.name = "isWalker") : ip_okB x G 2 pc_X5_isWalker 0 ([oLdI 1, oI (0), oLdA 0, oGet 5 0, oGet 1 4, oI (1), oBI (fun a b => a - b), oCal (ip_call tb d) 0 0 95 3 0 0], tRI .boolean 0 0) := ⟨_, okC (ok_ildn X rfl dX5_isWalker_0)
  (okC (ok_ic X (by decide) dX5_isWalker_1)
  (okC (ok_aldn X rfl dX5_isWalker_2)
  (okC (ok_get X (ci := 5) rfl (by decide) iw_X5 tw_198 dX5_isWalker_3)
  (okC (ok_get X (ci := 1) rfl (by decide) iw_X1 tw_51 dX5_isWalker_6)
  (okC (ok_ic X (by decide) dX5_isWalker_9)
  (okC (ok_isub X dX5_isWalker_10)
  (okC (ok_calS X (i := 67) (e := en_95) rfl mt_95 rfl rfl rfl tw_239 tw_240 dX5_isWalker_11)
  (okN)))))))), ok_ret X hr dX5_isWalker_14⟩
theorem om_102 : ip_MOk tb en_102 pc_X5_isWalker := fun x G d X hr hnm => ⟨ob_X5_isWalker_0 X hr hnm, trivial⟩
theorem dX5_isRowItem_0 : decode cX5_isRowItem 0 = .ok (.iload_n 1, 1) := by decide +kernel
theorem dX5_isRowItem_1 : decode cX5_isRowItem 1 = .ok (.iconst 0, 1) := by decide +kernel
theorem dX5_isRowItem_2 : decode cX5_isRowItem 2 = .ok (.aload_n 0, 1) := by decide +kernel
theorem dX5_isRowItem_3 : decode cX5_isRowItem 3 = .ok (.getfield 51, 3) := by decide +kernel
theorem dX5_isRowItem_6 : decode cX5_isRowItem 6 = .ok (.iconst 1, 1) := by decide +kernel
theorem dX5_isRowItem_7 : decode cX5_isRowItem 7 = .ok (.isub, 1) := by decide +kernel
theorem dX5_isRowItem_8 : decode cX5_isRowItem 8 = .ok (.invokestatic 67, 3) := by decide +kernel
theorem dX5_isRowItem_11 : decode cX5_isRowItem 11 = .ok (.ifCond .eq 16, 3) := by decide +kernel
theorem dX5_isRowItem_14 : decode cX5_isRowItem 14 = .ok (.iload_n 2, 1) := by decide +kernel
theorem dX5_isRowItem_15 : decode cX5_isRowItem 15 = .ok (.iconst 0, 1) := by decide +kernel
theorem dX5_isRowItem_16 : decode cX5_isRowItem 16 = .ok (.iconst 2, 1) := by decide +kernel
theorem dX5_isRowItem_17 : decode cX5_isRowItem 17 = .ok (.invokestatic 67, 3) := by decide +kernel
theorem dX5_isRowItem_20 : decode cX5_isRowItem 20 = .ok (.ifCond .eq 7, 3) := by decide +kernel
theorem dX5_isRowItem_23 : decode cX5_isRowItem 23 = .ok (.iconst 1, 1) := by decide +kernel
theorem dX5_isRowItem_24 : decode cX5_isRowItem 24 = .ok (.goto 4, 3) := by decide +kernel
theorem dX5_isRowItem_27 : decode cX5_isRowItem 27 = .ok (.iconst 0, 1) := by decide +kernel
theorem dX5_isRowItem_28 : decode cX5_isRowItem 28 = .ok (.ireturn, 1) := by decide +kernel
def pc_X5_isRowItem (i : Nat) : Nat := ([0, 14, 23, 27, 28] : List Nat).getD i 0
set_option maxRecDepth 20000 in
theorem ob_X5_isRowItem_0 {x : ip_Cx} {G : ip_Gl} {d : Nat} (X : ip_X x G tb 3 d 0 0 RX5 cX5_isRowItem) (hr : x.2.2.2.2.2.2.2.2.1.sig.returnType = (some .boolean)) (hnm : x.2.2.2.2.2.2.2.2.1.name = "isRowItem") : ip_okB x G 3 pc_X5_isRowItem 0 ([oLdI 1, oI (0), oLdA 0, oGet 5 8, oI (1), oBI (fun a b => a - b), oCal (ip_call tb d) 0 0 95 3 0 0], tIf (fun a => a = 0) 3 1) := ⟨_, okC (ok_ildn X rfl dX5_isRowItem_0)
  (okC (ok_ic X (by decide) dX5_isRowItem_1)
  (okC (ok_aldn X rfl dX5_isRowItem_2)
  (okC (ok_get X (ci := 5) rfl (by decide) iw_X5 tw_206 dX5_isRowItem_3)
  (okC (ok_ic X (by decide) dX5_isRowItem_6)
  (okC (ok_isub X dX5_isRowItem_7)
  (okC (ok_calS X (i := 67) (e := en_95) rfl mt_95 rfl rfl rfl tw_239 tw_240 dX5_isRowItem_8)
  (okN))))))), ok_ifeq X (by decide) rfl dX5_isRowItem_11⟩
set_option maxRecDepth 20000 in
theorem ob_X5_isRowItem_1 {x : ip_Cx} {G : ip_Gl} {d : Nat} (X : ip_X x G tb 3 d 0 0 RX5 cX5_isRowItem) (hr : x.2.2.2.2.2.2.2.2.1.sig.returnType = (some .boolean)) (hnm : x.2.2.2.2.2.2.2.2.1.name = "isRowItem") : ip_okB x G 3 pc_X5_isRowItem 14 ([oLdI 2, oI (0), oI (2), oCal (ip_call tb d) 0 0 95 3 0 0], tIf (fun a => a = 0) 3 2) := ⟨_, okC (ok_ildn X rfl dX5_isRowItem_14)
  (okC (ok_ic X (by decide) dX5_isRowItem_15)
  (okC (ok_ic X (by decide) dX5_isRowItem_16)
  (okC (ok_calS X (i := 67) (e := en_95) rfl mt_95 rfl rfl rfl tw_239 tw_240 dX5_isRowItem_17)
  (okN)))), ok_ifeq X (by decide) rfl dX5_isRowItem_20⟩
set_option maxRecDepth 20000 in
theorem ob_X5_isRowItem_2 {x : ip_Cx} {G : ip_Gl} {d : Nat} (X : ip_X x G tb 3 d 0 0 RX5 cX5_isRowItem) (hr : x.2.2.2.2.2.2.2.2.1.sig.returnType = (some .boolean)) (hnm : x.2.2.2.2.2.2.2.2.1.name = "isRowItem") : ip_okB x G 3 pc_X5_isRowItem 23 ([oI (1)], tGo 4) := ⟨_, okC (ok_ic X (by decide) dX5_isRowItem_23)
  (okN), ok_go X (by decide) dX5_isRowItem_24⟩
set_option maxRecDepth 20000 in
theorem ob_X5_isRowItem_3 {x : ip_Cx} {G : ip_Gl} {d : Nat} (X : ip_X x G tb 3 d 0 0 RX5 cX5_isRowItem) (hr : x.2.2.2.2.2.2.2.2.1.sig.returnType = (some .boolean)) (hnm : x.2.2.2.2.2.2.2.2.1.name = "isRowItem") : ip_okB x G 3 pc_X5_isRowItem 27 ([oI (0)], tGo 4) := ⟨_, okC (ok_ic X (by decide) dX5_isRowItem_27)
  (okN), ok_fall rfl⟩
set_option maxRecDepth 20000 in
theorem ob_X5_isRowItem_4 {x : ip_Cx} {G : ip_Gl} {d : Nat} (X : ip_X x G tb 3 d 0 0 RX5 cX5_isRowItem) (hr : x.2.2.2.2.2.2.2.2.1.sig.returnType = (some .boolean)) (hnm : x.2.2.2.2.2.2.2.2.1.name = "isRowItem") : ip_okB x G 3 pc_X5_isRowItem 28 ([], tRI .boolean 0 0) := ⟨_, okN, ok_ret X hr dX5_isRowItem_28⟩
theorem om_103 : ip_MOk tb en_103 pc_X5_isRowItem := fun x G d X hr hnm => ⟨ob_X5_isRowItem_0 X hr hnm, ⟨ob_X5_isRowItem_1 X hr hnm, ⟨ob_X5_isRowItem_2 X hr hnm, ⟨ob_X5_isRowItem_3 X hr hnm, ⟨ob_X5_isRowItem_4 X hr hnm, trivial⟩⟩⟩⟩⟩
theorem dX5_hasBit_0 : decode cX5_hasBit 0 = .ok (.iload_n 0, 1) := by decide +kernel
theorem dX5_hasBit_1 : decode cX5_hasBit 1 = .ok (.iload_n 1, 1) := by decide +kernel
theorem dX5_hasBit_2 : decode cX5_hasBit 2 = .ok (.ishr, 1) := by decide +kernel
theorem dX5_hasBit_3 : decode cX5_hasBit 3 = .ok (.iconst 1, 1) := by decide +kernel
theorem dX5_hasBit_4 : decode cX5_hasBit 4 = .ok (.iand, 1) := by decide +kernel
theorem dX5_hasBit_5 : decode cX5_hasBit 5 = .ok (.iconst 1, 1) := by decide +kernel
theorem dX5_hasBit_6 : decode cX5_hasBit 6 = .ok (.if_icmp .ne 7, 3) := by decide +kernel
theorem dX5_hasBit_9 : decode cX5_hasBit 9 = .ok (.iconst 1, 1) := by decide +kernel
theorem dX5_hasBit_10 : decode cX5_hasBit 10 = .ok (.goto 4, 3) := by decide +kernel
theorem dX5_hasBit_13 : decode cX5_hasBit 13 = .ok (.iconst 0, 1) := by decide +kernel
theorem dX5_hasBit_14 : decode cX5_hasBit 14 = .ok (.ireturn, 1) := by decide +kernel
def pc_X5_hasBit (i : Nat) : Nat := ([0, 9, 13, 14] : List Nat).getD i 0
set_option maxRecDepth 20000 in
theorem ob_X5_hasBit_0 {x : ip_Cx} {G : ip_Gl} {d : Nat} (X : ip_X x G tb 2 d 0 0 RX5 cX5_hasBit) (hr : x.2.2.2.2.2.2.2.2.1.sig.returnType = (some .boolean)) (hnm : x.2.2.2.2.2.2.2.2.1.name = "hasBit") : ip_okB x G 2 pc_X5_hasBit 0 ([oLdI 0, oLdI 1, oBI (fun a b => a >>> (b &&& 31)), oI (1), oBI (fun a b => a &&& b), oI (1)], tCm (fun a b => a = b) 1 2) := ⟨_, okC (ok_ildn X rfl dX5_hasBit_0)
  (okC (ok_ildn X rfl dX5_hasBit_1)
  (okC (ok_ishr X dX5_hasBit_2)
  (okC (ok_ic X (by decide) dX5_hasBit_3)
  (okC (ok_iand X dX5_hasBit_4)
  (okC (ok_ic X (by decide) dX5_hasBit_5)
  (okN)))))), ok_cmne X (by decide) rfl dX5_hasBit_6⟩
set_option maxRecDepth 20000 in
theorem ob_X5_hasBit_1 {x : ip_Cx} {G : ip_Gl} {d : Nat} (X : ip_X x G tb 2 d 0 0 RX5 cX5_hasBit) (hr : x.2.2.2.2.2.2.2.2.1.sig.returnType = (some .boolean)) (hnm : x.2.2.2.2.2.2.2.2.1.name = "hasBit") : ip_okB x G 2 pc_X5_hasBit 9 ([oI (1)], tGo 3) := ⟨_, okC (ok_ic X (by decide) dX5_hasBit_9)
  (okN), ok_go X (by decide) dX5_hasBit_10⟩
set_option maxRecDepth 20000 in
theorem ob_X5_hasBit_2 {x : ip_Cx} {G : ip_Gl} {d : Nat} (X : ip_X x G tb 2 d 0 0 RX5 cX5_hasBit) (hr : x.2.2.2.2.2.2.2.2.1.sig.returnType = (some .boolean)) (hnm : x.2.2.2.2.2.2.2.2.1.name = "hasBit") : ip_okB x G 2 pc_X5_hasBit 13 ([oI (0)], tGo 3) := ⟨_, okC (ok_ic X (by decide) dX5_hasBit_13)
  (okN), ok_fall rfl⟩
set_option maxRecDepth 20000 in
theorem ob_X5_hasBit_3 {x : ip_Cx} {G : ip_Gl} {d : Nat} (X : ip_X x G tb 2 d 0 0 RX5 cX5_hasBit) (hr : x.2.2.2.2.2.2.2.2.1.sig.returnType = (some .boolean)) (hnm : x.2.2.2.2.2.2.2.2.1.name = "hasBit") : ip_okB x G 2 pc_X5_hasBit 14 ([], tRI .boolean 0 0) := ⟨_, okN, ok_ret X hr dX5_hasBit_14⟩
theorem om_104 : ip_MOk tb en_104 pc_X5_hasBit := fun x G d X hr hnm => ⟨ob_X5_hasBit_0 X hr hnm, ⟨ob_X5_hasBit_1 X hr hnm, ⟨ob_X5_hasBit_2 X hr hnm, ⟨ob_X5_hasBit_3 X hr hnm, trivial⟩⟩⟩⟩
theorem dX5_withBit_0 : decode cX5_withBit 0 = .ok (.iload_n 2, 1) := by decide +kernel
theorem dX5_withBit_1 : decode cX5_withBit 1 = .ok (.ifCond .eq 11, 3) := by decide +kernel
theorem dX5_withBit_4 : decode cX5_withBit 4 = .ok (.iload_n 0, 1) := by decide +kernel
theorem dX5_withBit_5 : decode cX5_withBit 5 = .ok (.iconst 1, 1) := by decide +kernel
theorem dX5_withBit_6 : decode cX5_withBit 6 = .ok (.iload_n 1, 1) := by decide +kernel
theorem dX5_withBit_7 : decode cX5_withBit 7 = .ok (.ishl, 1) := by decide +kernel
theorem dX5_withBit_8 : decode cX5_withBit 8 = .ok (.ior, 1) := by decide +kernel
theorem dX5_withBit_9 : decode cX5_withBit 9 = .ok (.goto 10, 3) := by decide +kernel
theorem dX5_withBit_12 : decode cX5_withBit 12 = .ok (.iload_n 0, 1) := by decide +kernel
theorem dX5_withBit_13 : decode cX5_withBit 13 = .ok (.iconst 1, 1) := by decide +kernel
theorem dX5_withBit_14 : decode cX5_withBit 14 = .ok (.iload_n 1, 1) := by decide +kernel
theorem dX5_withBit_15 : decode cX5_withBit 15 = .ok (.ishl, 1) := by decide +kernel
theorem dX5_withBit_16 : decode cX5_withBit 16 = .ok (.iconst (-1), 1) := by decide +kernel
theorem dX5_withBit_17 : decode cX5_withBit 17 = .ok (.ixor, 1) := by decide +kernel
theorem dX5_withBit_18 : decode cX5_withBit 18 = .ok (.iand, 1) := by decide +kernel
theorem dX5_withBit_19 : decode cX5_withBit 19 = .ok (.ireturn, 1) := by decide +kernel
def pc_X5_withBit (i : Nat) : Nat := ([0, 4, 12, 19] : List Nat).getD i 0
set_option maxRecDepth 20000 in
theorem ob_X5_withBit_0 {x : ip_Cx} {G : ip_Gl} {d : Nat} (X : ip_X x G tb 3 d 0 0 RX5 cX5_withBit) (hr : x.2.2.2.2.2.2.2.2.1.sig.returnType = (some .int)) (hnm : x.2.2.2.2.2.2.2.2.1.name = "withBit") : ip_okB x G 3 pc_X5_withBit 0 ([oLdI 2], tIf (fun a => a = 0) 2 1) := ⟨_, okC (ok_ildn X rfl dX5_withBit_0)
  (okN), ok_ifeq X (by decide) rfl dX5_withBit_1⟩
set_option maxRecDepth 20000 in
theorem ob_X5_withBit_1 {x : ip_Cx} {G : ip_Gl} {d : Nat} (X : ip_X x G tb 3 d 0 0 RX5 cX5_withBit) (hr : x.2.2.2.2.2.2.2.2.1.sig.returnType = (some .int)) (hnm : x.2.2.2.2.2.2.2.2.1.name = "withBit") : ip_okB x G 3 pc_X5_withBit 4 ([oLdI 0, oI (1), oLdI 1, oBI (fun a b => a <<< (b &&& 31)), oBI (fun a b => a ||| b)], tGo 3) := ⟨_, okC (ok_ildn X rfl dX5_withBit_4)
  (okC (ok_ic X (by decide) dX5_withBit_5)
  (okC (ok_ildn X rfl dX5_withBit_6)
  (okC (ok_ishl X dX5_withBit_7)
  (okC (ok_ior X dX5_withBit_8)
  (okN))))), ok_go X (by decide) dX5_withBit_9⟩
set_option maxRecDepth 20000 in
theorem ob_X5_withBit_2 {x : ip_Cx} {G : ip_Gl} {d : Nat} (X : ip_X x G tb 3 d 0 0 RX5 cX5_withBit) (hr : x.2.2.2.2.2.2.2.2.1.sig.returnType = (some .int)) (hnm : x.2.2.2.2.2.2.2.2.1.name = "withBit") : ip_okB x G 3 pc_X5_withBit 12 ([oLdI 0, oI (1), oLdI 1, oBI (fun a b => a <<< (b &&& 31)), oI (-1), oBI (fun a b => a ^^^ b), oBI (fun a b => a &&& b)], tGo 3) := ⟨_, okC (ok_ildn X rfl dX5_withBit_12)
  (okC (ok_ic X (by decide) dX5_withBit_13)
  (okC (ok_ildn X rfl dX5_withBit_14)
  (okC (ok_ishl X dX5_withBit_15)
  (okC (ok_ic X (by decide) dX5_withBit_16)
  (okC (ok_ixor X dX5_withBit_17)
  (okC (ok_iand X dX5_withBit_18)
  (okN))))))), ok_fall rfl⟩
set_option maxRecDepth 20000 in
theorem ob_X5_withBit_3 {x : ip_Cx} {G : ip_Gl} {d : Nat} (X : ip_X x G tb 3 d 0 0 RX5 cX5_withBit) (hr : x.2.2.2.2.2.2.2.2.1.sig.returnType = (some .int)) (hnm : x.2.2.2.2.2.2.2.2.1.name = "withBit") : ip_okB x G 3 pc_X5_withBit 19 ([], tRI .int 0 0) := ⟨_, okN, ok_ret X hr dX5_withBit_19⟩
theorem om_105 : ip_MOk tb en_105 pc_X5_withBit := fun x G d X hr hnm => ⟨ob_X5_withBit_0 X hr hnm, ⟨ob_X5_withBit_1 X hr hnm, ⟨ob_X5_withBit_2 X hr hnm, ⟨ob_X5_withBit_3 X hr hnm, trivial⟩⟩⟩⟩
theorem dX5_isUnder_0 : decode cX5_isUnder 0 = .ok (.iload_n 0, 1) := by decide +kernel
theorem dX5_isUnder_1 : decode cX5_isUnder 1 = .ok (.istore_n 2, 1) := by decide +kernel
theorem dX5_isUnder_2 : decode cX5_isUnder 2 = .ok (.iconst 0, 1) := by decide +kernel
theorem dX5_isUnder_3 : decode cX5_isUnder 3 = .ok (.istore_n 3, 1) := by decide +kernel
theorem dX5_isUnder_4 : decode cX5_isUnder 4 = .ok (.iload_n 3, 1) := by decide +kernel
theorem dX5_isUnder_5 : decode cX5_isUnder 5 = .ok (.bipush 6, 2) := by decide +kernel
theorem dX5_isUnder_7 : decode cX5_isUnder 7 = .ok (.if_icmp .ge 29, 3) := by decide +kernel
theorem dX5_isUnder_10 : decode cX5_isUnder 10 = .ok (.iload_n 2, 1) := by decide +kernel
theorem dX5_isUnder_11 : decode cX5_isUnder 11 = .ok (.invokestatic 108, 3) := by decide +kernel
theorem dX5_isUnder_14 : decode cX5_isUnder 14 = .ok (.ifCond .eq 22, 3) := by decide +kernel
theorem dX5_isUnder_17 : decode cX5_isUnder 17 = .ok (.iload_n 2, 1) := by decide +kernel
theorem dX5_isUnder_18 : decode cX5_isUnder 18 = .ok (.iload_n 1, 1) := by decide +kernel
theorem dX5_isUnder_19 : decode cX5_isUnder 19 = .ok (.if_icmp .ne 5, 3) := by decide +kernel
theorem dX5_isUnder_22 : decode cX5_isUnder 22 = .ok (.iconst 1, 1) := by decide +kernel
theorem dX5_isUnder_23 : decode cX5_isUnder 23 = .ok (.ireturn, 1) := by decide +kernel
theorem dX5_isUnder_24 : decode cX5_isUnder 24 = .ok (.getstatic 295, 3) := by decide +kernel
theorem dX5_isUnder_27 : decode cX5_isUnder 27 = .ok (.iload_n 2, 1) := by decide +kernel
theorem dX5_isUnder_28 : decode cX5_isUnder 28 = .ok (.iaload, 1) := by decide +kernel
theorem dX5_isUnder_29 : decode cX5_isUnder 29 = .ok (.istore_n 2, 1) := by decide +kernel
theorem dX5_isUnder_30 : decode cX5_isUnder 30 = .ok (.iinc 3 1, 3) := by decide +kernel
theorem dX5_isUnder_33 : decode cX5_isUnder 33 = .ok (.goto (-29), 3) := by decide +kernel
theorem dX5_isUnder_36 : decode cX5_isUnder 36 = .ok (.iconst 0, 1) := by decide +kernel
theorem dX5_isUnder_37 : decode cX5_isUnder 37 = .ok (.ireturn, 1) := by decide +kernel
def pc_X5_isUnder (i : Nat) : Nat := ([0, 4, 10, 17, 22, 24, 36] : List Nat).getD i 0
set_option maxRecDepth 20000 in
theorem ob_X5_isUnder_0 {x : ip_Cx} {G : ip_Gl} {d : Nat} (X : ip_X x G tb 4 d 0 0 RX5 cX5_isUnder) (hr : x.2.2.2.2.2.2.2.2.1.sig.returnType = (some .boolean)) (hnm : x.2.2.2.2.2.2.2.2.1.name = "isUnder") : ip_okB x G 4 pc_X5_isUnder 0 ([oLdI 0, oStI 2, oI (0), oStI 3], tGo 1) := ⟨_, okC (ok_ildn X rfl dX5_isUnder_0)
  (okC (ok_istn X rfl (by decide) dX5_isUnder_1)
  (okC (ok_ic X (by decide) dX5_isUnder_2)
  (okC (ok_istn X rfl (by decide) dX5_isUnder_3)
  (okN)))), ok_fall rfl⟩
set_option maxRecDepth 20000 in
theorem ob_X5_isUnder_1 {x : ip_Cx} {G : ip_Gl} {d : Nat} (X : ip_X x G tb 4 d 0 0 RX5 cX5_isUnder) (hr : x.2.2.2.2.2.2.2.2.1.sig.returnType = (some .boolean)) (hnm : x.2.2.2.2.2.2.2.2.1.name = "isUnder") : ip_okB x G 4 pc_X5_isUnder 4 ([oLdI 3, oI (6)], tCm (fun a b => a < b) 2 6) := ⟨_, okC (ok_ildn X rfl dX5_isUnder_4)
  (okC (ok_bi X (by decide) dX5_isUnder_5)
  (okN)), ok_cmge X (by decide) rfl dX5_isUnder_7⟩
set_option maxRecDepth 20000 in
theorem ob_X5_isUnder_2 {x : ip_Cx} {G : ip_Gl} {d : Nat} (X : ip_X x G tb 4 d 0 0 RX5 cX5_isUnder) (hr : x.2.2.2.2.2.2.2.2.1.sig.returnType = (some .boolean)) (hnm : x.2.2.2.2.2.2.2.2.1.name = "isUnder") : ip_okB x G 4 pc_X5_isUnder 10 ([oLdI 2, oCal (ip_call tb d) 0 0 96 1 0 0], tIf (fun a => a = 0) 6 3) := ⟨_, okC (ok_ildn X rfl dX5_isUnder_10)
  (okC (ok_calS X (i := 108) (e := en_96) rfl mt_96 rfl rfl rfl tw_398 tw_399 dX5_isUnder_11)
  (okN)), ok_ifeq X (by decide) rfl dX5_isUnder_14⟩
set_option maxRecDepth 20000 in
theorem ob_X5_isUnder_3 {x : ip_Cx} {G : ip_Gl} {d : Nat} (X : ip_X x G tb 4 d 0 0 RX5 cX5_isUnder) (hr : x.2.2.2.2.2.2.2.2.1.sig.returnType = (some .boolean)) (hnm : x.2.2.2.2.2.2.2.2.1.name = "isUnder") : ip_okB x G 4 pc_X5_isUnder 17 ([oLdI 2, oLdI 1], tCm (fun a b => a = b) 4 5) := ⟨_, okC (ok_ildn X rfl dX5_isUnder_17)
  (okC (ok_ildn X rfl dX5_isUnder_18)
  (okN)), ok_cmne X (by decide) rfl dX5_isUnder_19⟩
set_option maxRecDepth 20000 in
theorem ob_X5_isUnder_4 {x : ip_Cx} {G : ip_Gl} {d : Nat} (X : ip_X x G tb 4 d 0 0 RX5 cX5_isUnder) (hr : x.2.2.2.2.2.2.2.2.1.sig.returnType = (some .boolean)) (hnm : x.2.2.2.2.2.2.2.2.1.name = "isUnder") : ip_okB x G 4 pc_X5_isUnder 22 ([oI (1)], tRI .boolean 0 0) := ⟨_, okC (ok_ic X (by decide) dX5_isUnder_22)
  (okN), ok_ret X hr dX5_isUnder_23⟩
set_option maxRecDepth 20000 in
theorem ob_X5_isUnder_5 {x : ip_Cx} {G : ip_Gl} {d : Nat} (X : ip_X x G tb 4 d 0 0 RX5 cX5_isUnder) (hr : x.2.2.2.2.2.2.2.2.1.sig.returnType = (some .boolean)) (hnm : x.2.2.2.2.2.2.2.2.1.name = "isUnder") : ip_okB x G 4 pc_X5_isUnder 24 ([oRef 3, oLdI 2, oAldI, oStI 2, oInc 3 (1)], tGo 1) := ⟨_, okC (ok_gst X (q := (RX5, "KIND_ABOVE", "[I", .ref 3)) (by simp [ip_stat]) rfl tw_737 dX5_isUnder_24)
  (okC (ok_ildn X rfl dX5_isUnder_27)
  (okC (ok_iald X dX5_isUnder_28)
  (okC (ok_istn X rfl (by decide) dX5_isUnder_29)
  (okC (ok_inc X (by decide) dX5_isUnder_30)
  (okN))))), ok_go X (by decide) dX5_isUnder_33⟩
set_option maxRecDepth 20000 in
theorem ob_X5_isUnder_6 {x : ip_Cx} {G : ip_Gl} {d : Nat} (X : ip_X x G tb 4 d 0 0 RX5 cX5_isUnder) (hr : x.2.2.2.2.2.2.2.2.1.sig.returnType = (some .boolean)) (hnm : x.2.2.2.2.2.2.2.2.1.name = "isUnder") : ip_okB x G 4 pc_X5_isUnder 36 ([oI (0)], tRI .boolean 0 0) := ⟨_, okC (ok_ic X (by decide) dX5_isUnder_36)
  (okN), ok_ret X hr dX5_isUnder_37⟩
theorem om_106 : ip_MOk tb en_106 pc_X5_isUnder := fun x G d X hr hnm => ⟨ob_X5_isUnder_0 X hr hnm, ⟨ob_X5_isUnder_1 X hr hnm, ⟨ob_X5_isUnder_2 X hr hnm, ⟨ob_X5_isUnder_3 X hr hnm, ⟨ob_X5_isUnder_4 X hr hnm, ⟨ob_X5_isUnder_5 X hr hnm, ⟨ob_X5_isUnder_6 X hr hnm, trivial⟩⟩⟩⟩⟩⟩⟩
theorem dX5_putOnShelf_0 : decode cX5_putOnShelf 0 = .ok (.aload_n 0, 1) := by decide +kernel
theorem dX5_putOnShelf_1 : decode cX5_putOnShelf 1 = .ok (.getfield 64, 3) := by decide +kernel
theorem dX5_putOnShelf_4 : decode cX5_putOnShelf 4 = .ok (.iload_n 1, 1) := by decide +kernel
theorem dX5_putOnShelf_5 : decode cX5_putOnShelf 5 = .ok (.iload_n 2, 1) := by decide +kernel
theorem dX5_putOnShelf_6 : decode cX5_putOnShelf 6 = .ok (.iastore, 1) := by decide +kernel
theorem dX5_putOnShelf_7 : decode cX5_putOnShelf 7 = .ok (.aload_n 0, 1) := by decide +kernel
theorem dX5_putOnShelf_8 : decode cX5_putOnShelf 8 = .ok (.getfield 61, 3) := by decide +kernel
theorem dX5_putOnShelf_11 : decode cX5_putOnShelf 11 = .ok (.iload_n 1, 1) := by decide +kernel
theorem dX5_putOnShelf_12 : decode cX5_putOnShelf 12 = .ok (.aload_n 3, 1) := by decide +kernel
theorem dX5_putOnShelf_13 : decode cX5_putOnShelf 13 = .ok (.aastore, 1) := by decide +kernel
theorem dX5_putOnShelf_14 : decode cX5_putOnShelf 14 = .ok (.iconst 1, 1) := by decide +kernel
theorem dX5_putOnShelf_15 : decode cX5_putOnShelf 15 = .ok (.ireturn, 1) := by decide +kernel
def pc_X5_putOnShelf (i : Nat) : Nat := ([0] : List Nat).getD i 0
set_option maxRecDepth 20000 in
theorem ob_X5_putOnShelf_0 {x : ip_Cx} {G : ip_Gl} {d : Nat} (X : ip_X x G tb 4 d 0 0 RX5 cX5_putOnShelf) (hr : x.2.2.2.2.2.2.2.2.1.sig.returnType = (some .int)) (hnm : x.2.2.2.2.2.2.2.2.1.name = "putOnShelf") : ip_okB x G 4 pc_X5_putOnShelf 0 ([oLdA 0, oGet 5 11, oLdI 1, oLdI 2, oAstI, oLdA 0, oGet 5 10, oLdI 1, oLdA 3, oAstA, oI (1)], tRI .int 0 0) := ⟨_, okC (ok_aldn X rfl dX5_putOnShelf_0)
  (okC (ok_get X (ci := 5) rfl (by decide) iw_X5 tw_209 dX5_putOnShelf_1)
  (okC (ok_ildn X rfl dX5_putOnShelf_4)
  (okC (ok_ildn X rfl dX5_putOnShelf_5)
  (okC (ok_iast X dX5_putOnShelf_6)
  (okC (ok_aldn X rfl dX5_putOnShelf_7)
  (okC (ok_get X (ci := 5) rfl (by decide) iw_X5 tw_208 dX5_putOnShelf_8)
  (okC (ok_ildn X rfl dX5_putOnShelf_11)
  (okC (ok_aldn X rfl dX5_putOnShelf_12)
  (okC (ok_aast X dX5_putOnShelf_13)
  (okC (ok_ic X (by decide) dX5_putOnShelf_14)
  (okN))))))))))), ok_ret X hr dX5_putOnShelf_15⟩
theorem om_107 : ip_MOk tb en_107 pc_X5_putOnShelf := fun x G d X hr hnm => ⟨ob_X5_putOnShelf_0 X hr hnm, trivial⟩
theorem dX5_stepsToRest_0 : decode cX5_stepsToRest 0 = .ok (.aload_n 0, 1) := by decide +kernel
theorem dX5_stepsToRest_1 : decode cX5_stepsToRest 1 = .ok (.getfield 29, 3) := by decide +kernel
theorem dX5_stepsToRest_4 : decode cX5_stepsToRest 4 = .ok (.aload_n 0, 1) := by decide +kernel
theorem dX5_stepsToRest_5 : decode cX5_stepsToRest 5 = .ok (.getfield 10, 3) := by decide +kernel
theorem dX5_stepsToRest_8 : decode cX5_stepsToRest 8 = .ok (.iload_n 1, 1) := by decide +kernel
theorem dX5_stepsToRest_9 : decode cX5_stepsToRest 9 = .ok (.aload_n 0, 1) := by decide +kernel
theorem dX5_stepsToRest_10 : decode cX5_stepsToRest 10 = .ok (.getfield 10, 3) := by decide +kernel
theorem dX5_stepsToRest_13 : decode cX5_stepsToRest 13 = .ok (.getfield 101, 3) := by decide +kernel
theorem dX5_stepsToRest_16 : decode cX5_stepsToRest 16 = .ok (.invokevirtual 140, 3) := by decide +kernel
theorem dX5_stepsToRest_19 : decode cX5_stepsToRest 19 = .ok (.iconst 0, 1) := by decide +kernel
theorem dX5_stepsToRest_20 : decode cX5_stepsToRest 20 = .ok (.istore_n 2, 1) := by decide +kernel
theorem dX5_stepsToRest_21 : decode cX5_stepsToRest 21 = .ok (.iload_n 2, 1) := by decide +kernel
theorem dX5_stepsToRest_22 : decode cX5_stepsToRest 22 = .ok (.bipush 60, 2) := by decide +kernel
theorem dX5_stepsToRest_24 : decode cX5_stepsToRest 24 = .ok (.if_icmp .ge 26, 3) := by decide +kernel
theorem dX5_stepsToRest_27 : decode cX5_stepsToRest 27 = .ok (.aload_n 0, 1) := by decide +kernel
theorem dX5_stepsToRest_28 : decode cX5_stepsToRest 28 = .ok (.getfield 29, 3) := by decide +kernel
theorem dX5_stepsToRest_31 : decode cX5_stepsToRest 31 = .ok (.invokevirtual 203, 3) := by decide +kernel
theorem dX5_stepsToRest_34 : decode cX5_stepsToRest 34 = .ok (.ifCond .ne 16, 3) := by decide +kernel
theorem dX5_stepsToRest_37 : decode cX5_stepsToRest 37 = .ok (.aload_n 0, 1) := by decide +kernel
theorem dX5_stepsToRest_38 : decode cX5_stepsToRest 38 = .ok (.getfield 29, 3) := by decide +kernel
theorem dX5_stepsToRest_41 : decode cX5_stepsToRest 41 = .ok (.invokevirtual 298, 3) := by decide +kernel
theorem dX5_stepsToRest_44 : decode cX5_stepsToRest 44 = .ok (.iinc 2 1, 3) := by decide +kernel
theorem dX5_stepsToRest_47 : decode cX5_stepsToRest 47 = .ok (.goto (-26), 3) := by decide +kernel
theorem dX5_stepsToRest_50 : decode cX5_stepsToRest 50 = .ok (.iload_n 2, 1) := by decide +kernel
theorem dX5_stepsToRest_51 : decode cX5_stepsToRest 51 = .ok (.ireturn, 1) := by decide +kernel
def pc_X5_stepsToRest (i : Nat) : Nat := ([0, 21, 27, 37, 50] : List Nat).getD i 0
set_option maxRecDepth 20000 in
theorem ob_X5_stepsToRest_0 {x : ip_Cx} {G : ip_Gl} {d : Nat} (X : ip_X x G tb 3 d 0 0 RX5 cX5_stepsToRest) (hr : x.2.2.2.2.2.2.2.2.1.sig.returnType = (some .int)) (hnm : x.2.2.2.2.2.2.2.2.1.name = "stepsToRest") : ip_okB x G 3 pc_X5_stepsToRest 0 ([oLdA 0, oGet 5 4, oLdA 0, oGet 5 0, oLdI 1, oLdA 0, oGet 5 0, oGet 1 1, oCaV (ip_call tb d) 0 0 4 39 4 0 0, oI (0), oStI 2], tGo 1) := ⟨_, okC (ok_aldn X rfl dX5_stepsToRest_0)
  (okC (ok_get X (ci := 5) rfl (by decide) iw_X5 tw_202 dX5_stepsToRest_1)
  (okC (ok_aldn X rfl dX5_stepsToRest_4)
  (okC (ok_get X (ci := 5) rfl (by decide) iw_X5 tw_198 dX5_stepsToRest_5)
  (okC (ok_ildn X rfl dX5_stepsToRest_8)
  (okC (ok_aldn X rfl dX5_stepsToRest_9)
  (okC (ok_get X (ci := 5) rfl (by decide) iw_X5 tw_198 dX5_stepsToRest_10)
  (okC (ok_get X (ci := 1) rfl (by decide) iw_X1 tw_44 dX5_stepsToRest_13)
  (okC (ok_calV X (i := 140) (e := en_39) rfl mt_39 rfl rfl rfl tw_417 tw_418 (Or.inl ⟨_, _, rfl⟩) tw_419 dX5_stepsToRest_16)
  (okC (ok_ic X (by decide) dX5_stepsToRest_19)
  (okC (ok_istn X rfl (by decide) dX5_stepsToRest_20)
  (okN))))))))))), ok_fall rfl⟩
set_option maxRecDepth 20000 in
theorem ob_X5_stepsToRest_1 {x : ip_Cx} {G : ip_Gl} {d : Nat} (X : ip_X x G tb 3 d 0 0 RX5 cX5_stepsToRest) (hr : x.2.2.2.2.2.2.2.2.1.sig.returnType = (some .int)) (hnm : x.2.2.2.2.2.2.2.2.1.name = "stepsToRest") : ip_okB x G 3 pc_X5_stepsToRest 21 ([oLdI 2, oI (60)], tCm (fun a b => a < b) 2 4) := ⟨_, okC (ok_ildn X rfl dX5_stepsToRest_21)
  (okC (ok_bi X (by decide) dX5_stepsToRest_22)
  (okN)), ok_cmge X (by decide) rfl dX5_stepsToRest_24⟩
set_option maxRecDepth 20000 in
theorem ob_X5_stepsToRest_2 {x : ip_Cx} {G : ip_Gl} {d : Nat} (X : ip_X x G tb 3 d 0 0 RX5 cX5_stepsToRest) (hr : x.2.2.2.2.2.2.2.2.1.sig.returnType = (some .int)) (hnm : x.2.2.2.2.2.2.2.2.1.name = "stepsToRest") : ip_okB x G 3 pc_X5_stepsToRest 27 ([oLdA 0, oGet 5 4, oCaV (ip_call tb d) 0 0 4 42 1 0 0], tIf (fun a => a = 0) 3 4) := ⟨_, okC (ok_aldn X rfl dX5_stepsToRest_27)
  (okC (ok_get X (ci := 5) rfl (by decide) iw_X5 tw_202 dX5_stepsToRest_28)
  (okC (ok_calV X (i := 203) (e := en_42) rfl mt_42 rfl rfl rfl tw_568 tw_496 (Or.inl ⟨_, _, rfl⟩) tw_497 dX5_stepsToRest_31)
  (okN))), ok_ifne X (by decide) rfl dX5_stepsToRest_34⟩
set_option maxRecDepth 20000 in
theorem ob_X5_stepsToRest_3 {x : ip_Cx} {G : ip_Gl} {d : Nat} (X : ip_X x G tb 3 d 0 0 RX5 cX5_stepsToRest) (hr : x.2.2.2.2.2.2.2.2.1.sig.returnType = (some .int)) (hnm : x.2.2.2.2.2.2.2.2.1.name = "stepsToRest") : ip_okB x G 3 pc_X5_stepsToRest 37 ([oLdA 0, oGet 5 4, oCaV (ip_call tb d) 0 0 4 48 1 0 0, oInc 2 (1)], tGo 1) := ⟨_, okC (ok_aldn X rfl dX5_stepsToRest_37)
  (okC (ok_get X (ci := 5) rfl (by decide) iw_X5 tw_202 dX5_stepsToRest_38)
  (okC (ok_calV X (i := 298) (e := en_48) rfl mt_48 rfl rfl rfl tw_569 tw_492 (Or.inl ⟨_, _, rfl⟩) tw_493 dX5_stepsToRest_41)
  (okC (ok_inc X (by decide) dX5_stepsToRest_44)
  (okN)))), ok_go X (by decide) dX5_stepsToRest_47⟩
set_option maxRecDepth 20000 in
theorem ob_X5_stepsToRest_4 {x : ip_Cx} {G : ip_Gl} {d : Nat} (X : ip_X x G tb 3 d 0 0 RX5 cX5_stepsToRest) (hr : x.2.2.2.2.2.2.2.2.1.sig.returnType = (some .int)) (hnm : x.2.2.2.2.2.2.2.2.1.name = "stepsToRest") : ip_okB x G 3 pc_X5_stepsToRest 50 ([oLdI 2], tRI .int 0 0) := ⟨_, okC (ok_ildn X rfl dX5_stepsToRest_50)
  (okN), ok_ret X hr dX5_stepsToRest_51⟩
theorem om_108 : ip_MOk tb en_108 pc_X5_stepsToRest := fun x G d X hr hnm => ⟨ob_X5_stepsToRest_0 X hr hnm, ⟨ob_X5_stepsToRest_1 X hr hnm, ⟨ob_X5_stepsToRest_2 X hr hnm, ⟨ob_X5_stepsToRest_3 X hr hnm, ⟨ob_X5_stepsToRest_4 X hr hnm, trivial⟩⟩⟩⟩⟩
theorem dX5_rightsThatCross_0 : decode cX5_rightsThatCross 0 = .ok (.iconst 0, 1) := by decide +kernel
theorem dX5_rightsThatCross_1 : decode cX5_rightsThatCross 1 = .ok (.istore 4, 2) := by decide +kernel
theorem dX5_rightsThatCross_3 : decode cX5_rightsThatCross 3 = .ok (.iconst 0, 1) := by decide +kernel
theorem dX5_rightsThatCross_4 : decode cX5_rightsThatCross 4 = .ok (.istore 5, 2) := by decide +kernel
theorem dX5_rightsThatCross_6 : decode cX5_rightsThatCross 6 = .ok (.iload 5, 2) := by decide +kernel
theorem dX5_rightsThatCross_8 : decode cX5_rightsThatCross 8 = .ok (.iload_n 3, 1) := by decide +kernel
theorem dX5_rightsThatCross_9 : decode cX5_rightsThatCross 9 = .ok (.if_icmp .gt 65, 3) := by decide +kernel
theorem dX5_rightsThatCross_12 : decode cX5_rightsThatCross 12 = .ok (.aload_n 0, 1) := by decide +kernel
theorem dX5_rightsThatCross_13 : decode cX5_rightsThatCross 13 = .ok (.getfield 29, 3) := by decide +kernel
theorem dX5_rightsThatCross_16 : decode cX5_rightsThatCross 16 = .ok (.aload_n 0, 1) := by decide +kernel
theorem dX5_rightsThatCross_17 : decode cX5_rightsThatCross 17 = .ok (.getfield 10, 3) := by decide +kernel
theorem dX5_rightsThatCross_20 : decode cX5_rightsThatCross 20 = .ok (.iload_n 1, 1) := by decide +kernel
theorem dX5_rightsThatCross_21 : decode cX5_rightsThatCross 21 = .ok (.aload_n 0, 1) := by decide +kernel
theorem dX5_rightsThatCross_22 : decode cX5_rightsThatCross 22 = .ok (.getfield 10, 3) := by decide +kernel
theorem dX5_rightsThatCross_25 : decode cX5_rightsThatCross 25 = .ok (.getfield 101, 3) := by decide +kernel
theorem dX5_rightsThatCross_28 : decode cX5_rightsThatCross 28 = .ok (.invokevirtual 140, 3) := by decide +kernel
theorem dX5_rightsThatCross_31 : decode cX5_rightsThatCross 31 = .ok (.aload_n 0, 1) := by decide +kernel
theorem dX5_rightsThatCross_32 : decode cX5_rightsThatCross 32 = .ok (.getfield 29, 3) := by decide +kernel
theorem dX5_rightsThatCross_35 : decode cX5_rightsThatCross 35 = .ok (.iload 5, 2) := by decide +kernel
theorem dX5_rightsThatCross_37 : decode cX5_rightsThatCross 37 = .ok (.iload_n 3, 1) := by decide +kernel
theorem dX5_rightsThatCross_38 : decode cX5_rightsThatCross 38 = .ok (.iload 5, 2) := by decide +kernel
theorem dX5_rightsThatCross_40 : decode cX5_rightsThatCross 40 = .ok (.isub, 1) := by decide +kernel
theorem dX5_rightsThatCross_41 : decode cX5_rightsThatCross 41 = .ok (.invokevirtual 300, 3) := by decide +kernel
theorem dX5_rightsThatCross_44 : decode cX5_rightsThatCross 44 = .ok (.aload_n 0, 1) := by decide +kernel
theorem dX5_rightsThatCross_45 : decode cX5_rightsThatCross 45 = .ok (.getfield 29, 3) := by decide +kernel
theorem dX5_rightsThatCross_48 : decode cX5_rightsThatCross 48 = .ok (.iload_n 2, 1) := by decide +kernel
theorem dX5_rightsThatCross_49 : decode cX5_rightsThatCross 49 = .ok (.invokevirtual 188, 3) := by decide +kernel
theorem dX5_rightsThatCross_52 : decode cX5_rightsThatCross 52 = .ok (.iload 4, 2) := by decide +kernel
theorem dX5_rightsThatCross_54 : decode cX5_rightsThatCross 54 = .ok (.iload 5, 2) := by decide +kernel
theorem dX5_rightsThatCross_56 : decode cX5_rightsThatCross 56 = .ok (.aload_n 0, 1) := by decide +kernel
theorem dX5_rightsThatCross_57 : decode cX5_rightsThatCross 57 = .ok (.getfield 29, 3) := by decide +kernel
theorem dX5_rightsThatCross_60 : decode cX5_rightsThatCross 60 = .ok (.invokevirtual 197, 3) := by decide +kernel
theorem dX5_rightsThatCross_63 : decode cX5_rightsThatCross 63 = .ok (.invokestatic 104, 3) := by decide +kernel
theorem dX5_rightsThatCross_66 : decode cX5_rightsThatCross 66 = .ok (.istore 4, 2) := by decide +kernel
theorem dX5_rightsThatCross_68 : decode cX5_rightsThatCross 68 = .ok (.iinc 5 1, 3) := by decide +kernel
theorem dX5_rightsThatCross_71 : decode cX5_rightsThatCross 71 = .ok (.goto (-65), 3) := by decide +kernel
theorem dX5_rightsThatCross_74 : decode cX5_rightsThatCross 74 = .ok (.iload 4, 2) := by decide +kernel
theorem dX5_rightsThatCross_76 : decode cX5_rightsThatCross 76 = .ok (.ireturn, 1) := by decide +kernel
def pc_X5_rightsThatCross (i : Nat) : Nat := ([0, 6, 12, 74] : List Nat).getD i 0
set_option maxRecDepth 20000 in
theorem ob_X5_rightsThatCross_0 {x : ip_Cx} {G : ip_Gl} {d : Nat} (X : ip_X x G tb 6 d 0 0 RX5 cX5_rightsThatCross) (hr : x.2.2.2.2.2.2.2.2.1.sig.returnType = (some .int)) (hnm : x.2.2.2.2.2.2.2.2.1.name = "rightsThatCross") : ip_okB x G 6 pc_X5_rightsThatCross 0 ([oI (0), oStI 4, oI (0), oStI 5], tGo 1) := ⟨_, okC (ok_ic X (by decide) dX5_rightsThatCross_0)
  (okC (ok_ist X (by decide) dX5_rightsThatCross_1)
  (okC (ok_ic X (by decide) dX5_rightsThatCross_3)
  (okC (ok_ist X (by decide) dX5_rightsThatCross_4)
  (okN)))), ok_fall rfl⟩
set_option maxRecDepth 20000 in
theorem ob_X5_rightsThatCross_1 {x : ip_Cx} {G : ip_Gl} {d : Nat} (X : ip_X x G tb 6 d 0 0 RX5 cX5_rightsThatCross) (hr : x.2.2.2.2.2.2.2.2.1.sig.returnType = (some .int)) (hnm : x.2.2.2.2.2.2.2.2.1.name = "rightsThatCross") : ip_okB x G 6 pc_X5_rightsThatCross 6 ([oLdI 5, oLdI 3], tCm (fun a b => b < a) 3 2) := ⟨_, okC (ok_ild X dX5_rightsThatCross_6)
  (okC (ok_ildn X rfl dX5_rightsThatCross_8)
  (okN)), ok_cmgt X (by decide) rfl dX5_rightsThatCross_9⟩
set_option maxRecDepth 20000 in
theorem ob_X5_rightsThatCross_2 {x : ip_Cx} {G : ip_Gl} {d : Nat} (X : ip_X x G tb 6 d 0 0 RX5 cX5_rightsThatCross) (hr : x.2.2.2.2.2.2.2.2.1.sig.returnType = (some .int)) (hnm : x.2.2.2.2.2.2.2.2.1.name = "rightsThatCross") : ip_okB x G 6 pc_X5_rightsThatCross 12 ([oLdA 0, oGet 5 4, oLdA 0, oGet 5 0, oLdI 1, oLdA 0, oGet 5 0, oGet 1 1, oCaV (ip_call tb d) 0 0 4 39 4 0 0, oLdA 0, oGet 5 4, oLdI 5, oLdI 3, oLdI 5, oBI (fun a b => a - b), oCaV (ip_call tb d) 0 0 4 40 3 0 0, oLdA 0, oGet 5 4, oLdI 2, oCaV (ip_call tb d) 0 0 4 49 2 0 0, oLdI 4, oLdI 5, oLdA 0, oGet 5 4, oCaV (ip_call tb d) 0 0 4 41 1 0 0, oCal (ip_call tb d) 0 0 105 3 0 0, oStI 4, oInc 5 (1)], tGo 1) := ⟨_, okC (ok_aldn X rfl dX5_rightsThatCross_12)
  (okC (ok_get X (ci := 5) rfl (by decide) iw_X5 tw_202 dX5_rightsThatCross_13)
  (okC (ok_aldn X rfl dX5_rightsThatCross_16)
  (okC (ok_get X (ci := 5) rfl (by decide) iw_X5 tw_198 dX5_rightsThatCross_17)
  (okC (ok_ildn X rfl dX5_rightsThatCross_20)
  (okC (ok_aldn X rfl dX5_rightsThatCross_21)
  (okC (ok_get X (ci := 5) rfl (by decide) iw_X5 tw_198 dX5_rightsThatCross_22)
  (okC (ok_get X (ci := 1) rfl (by decide) iw_X1 tw_44 dX5_rightsThatCross_25)
  (okC (ok_calV X (i := 140) (e := en_39) rfl mt_39 rfl rfl rfl tw_417 tw_418 (Or.inl ⟨_, _, rfl⟩) tw_419 dX5_rightsThatCross_28)
  (okC (ok_aldn X rfl dX5_rightsThatCross_31)
  (okC (ok_get X (ci := 5) rfl (by decide) iw_X5 tw_202 dX5_rightsThatCross_32)
  (okC (ok_ild X dX5_rightsThatCross_35)
  (okC (ok_ildn X rfl dX5_rightsThatCross_37)
  (okC (ok_ild X dX5_rightsThatCross_38)
  (okC (ok_isub X dX5_rightsThatCross_40)
  (okC (ok_calV X (i := 300) (e := en_40) rfl mt_40 rfl rfl rfl tw_588 tw_443 (Or.inl ⟨_, _, rfl⟩) tw_444 dX5_rightsThatCross_41)
  (okC (ok_aldn X rfl dX5_rightsThatCross_44)
  (okC (ok_get X (ci := 5) rfl (by decide) iw_X5 tw_202 dX5_rightsThatCross_45)
  (okC (ok_ildn X rfl dX5_rightsThatCross_48)
  (okC (ok_calV X (i := 188) (e := en_49) rfl mt_49 rfl rfl rfl tw_555 tw_556 (Or.inl ⟨_, _, rfl⟩) tw_557 dX5_rightsThatCross_49)
  (okC (ok_ild X dX5_rightsThatCross_52)
  (okC (ok_ild X dX5_rightsThatCross_54)
  (okC (ok_aldn X rfl dX5_rightsThatCross_56)
  (okC (ok_get X (ci := 5) rfl (by decide) iw_X5 tw_202 dX5_rightsThatCross_57)
  (okC (ok_calV X (i := 197) (e := en_41) rfl mt_41 rfl rfl rfl tw_570 tw_500 (Or.inl ⟨_, _, rfl⟩) tw_501 dX5_rightsThatCross_60)
  (okC (ok_calS X (i := 104) (e := en_105) rfl mt_105 rfl rfl rfl tw_391 tw_392 dX5_rightsThatCross_63)
  (okC (ok_ist X (by decide) dX5_rightsThatCross_66)
  (okC (ok_inc X (by decide) dX5_rightsThatCross_68)
  (okN)))))))))))))))))))))))))))), ok_go X (by decide) dX5_rightsThatCross_71⟩
set_option maxRecDepth 20000 in
theorem ob_X5_rightsThatCross_3 {x : ip_Cx} {G : ip_Gl} {d : Nat} (X : ip_X x G tb 6 d 0 0 RX5 cX5_rightsThatCross) (hr : x.2.2.2.2.2.2.2.2.1.sig.returnType = (some .int)) (hnm : x.2.2.2.2.2.2.2.2.1.name = "rightsThatCross") : ip_okB x G 6 pc_X5_rightsThatCross 74 ([oLdI 4], tRI .int 0 0) := ⟨_, okC (ok_ild X dX5_rightsThatCross_74)
  (okN), ok_ret X hr dX5_rightsThatCross_76⟩
theorem om_109 : ip_MOk tb en_109 pc_X5_rightsThatCross := fun x G d X hr hnm => ⟨ob_X5_rightsThatCross_0 X hr hnm, ⟨ob_X5_rightsThatCross_1 X hr hnm, ⟨ob_X5_rightsThatCross_2 X hr hnm, ⟨ob_X5_rightsThatCross_3 X hr hnm, trivial⟩⟩⟩⟩
theorem dX5_rightsAsTold_0 : decode cX5_rightsAsTold 0 = .ok (.iconst 0, 1) := by decide +kernel
theorem dX5_rightsAsTold_1 : decode cX5_rightsAsTold 1 = .ok (.istore_n 3, 1) := by decide +kernel
theorem dX5_rightsAsTold_2 : decode cX5_rightsAsTold 2 = .ok (.aload_n 0, 1) := by decide +kernel
theorem dX5_rightsAsTold_3 : decode cX5_rightsAsTold 3 = .ok (.getfield 10, 3) := by decide +kernel
theorem dX5_rightsAsTold_6 : decode cX5_rightsAsTold 6 = .ok (.iload_n 1, 1) := by decide +kernel
theorem dX5_rightsAsTold_7 : decode cX5_rightsAsTold 7 = .ok (.invokevirtual 160, 3) := by decide +kernel
theorem dX5_rightsAsTold_10 : decode cX5_rightsAsTold 10 = .ok (.istore 4, 2) := by decide +kernel
theorem dX5_rightsAsTold_12 : decode cX5_rightsAsTold 12 = .ok (.iconst 0, 1) := by decide +kernel
theorem dX5_rightsAsTold_13 : decode cX5_rightsAsTold 13 = .ok (.istore 5, 2) := by decide +kernel
theorem dX5_rightsAsTold_15 : decode cX5_rightsAsTold 15 = .ok (.iload 5, 2) := by decide +kernel
theorem dX5_rightsAsTold_17 : decode cX5_rightsAsTold 17 = .ok (.iload 4, 2) := by decide +kernel
theorem dX5_rightsAsTold_19 : decode cX5_rightsAsTold 19 = .ok (.if_icmp .gt 57, 3) := by decide +kernel
theorem dX5_rightsAsTold_22 : decode cX5_rightsAsTold 22 = .ok (.aload_n 0, 1) := by decide +kernel
theorem dX5_rightsAsTold_23 : decode cX5_rightsAsTold 23 = .ok (.getfield 29, 3) := by decide +kernel
theorem dX5_rightsAsTold_26 : decode cX5_rightsAsTold 26 = .ok (.aload_n 0, 1) := by decide +kernel
theorem dX5_rightsAsTold_27 : decode cX5_rightsAsTold 27 = .ok (.getfield 10, 3) := by decide +kernel
theorem dX5_rightsAsTold_30 : decode cX5_rightsAsTold 30 = .ok (.iload_n 1, 1) := by decide +kernel
theorem dX5_rightsAsTold_31 : decode cX5_rightsAsTold 31 = .ok (.aload_n 0, 1) := by decide +kernel
theorem dX5_rightsAsTold_32 : decode cX5_rightsAsTold 32 = .ok (.getfield 10, 3) := by decide +kernel
theorem dX5_rightsAsTold_35 : decode cX5_rightsAsTold 35 = .ok (.getfield 101, 3) := by decide +kernel
theorem dX5_rightsAsTold_38 : decode cX5_rightsAsTold 38 = .ok (.invokevirtual 140, 3) := by decide +kernel
theorem dX5_rightsAsTold_41 : decode cX5_rightsAsTold 41 = .ok (.aload_n 0, 1) := by decide +kernel
theorem dX5_rightsAsTold_42 : decode cX5_rightsAsTold 42 = .ok (.getfield 29, 3) := by decide +kernel
theorem dX5_rightsAsTold_45 : decode cX5_rightsAsTold 45 = .ok (.iload 5, 2) := by decide +kernel
theorem dX5_rightsAsTold_47 : decode cX5_rightsAsTold 47 = .ok (.iload 4, 2) := by decide +kernel
theorem dX5_rightsAsTold_49 : decode cX5_rightsAsTold 49 = .ok (.iload 5, 2) := by decide +kernel
theorem dX5_rightsAsTold_51 : decode cX5_rightsAsTold 51 = .ok (.isub, 1) := by decide +kernel
theorem dX5_rightsAsTold_52 : decode cX5_rightsAsTold 52 = .ok (.invokevirtual 300, 3) := by decide +kernel
theorem dX5_rightsAsTold_55 : decode cX5_rightsAsTold 55 = .ok (.iload_n 3, 1) := by decide +kernel
theorem dX5_rightsAsTold_56 : decode cX5_rightsAsTold 56 = .ok (.iload 5, 2) := by decide +kernel
theorem dX5_rightsAsTold_58 : decode cX5_rightsAsTold 58 = .ok (.aload_n 0, 1) := by decide +kernel
theorem dX5_rightsAsTold_59 : decode cX5_rightsAsTold 59 = .ok (.getfield 29, 3) := by decide +kernel
theorem dX5_rightsAsTold_62 : decode cX5_rightsAsTold 62 = .ok (.aload_n 2, 1) := by decide +kernel
theorem dX5_rightsAsTold_63 : decode cX5_rightsAsTold 63 = .ok (.invokevirtual 303, 3) := by decide +kernel
theorem dX5_rightsAsTold_66 : decode cX5_rightsAsTold 66 = .ok (.invokestatic 104, 3) := by decide +kernel
theorem dX5_rightsAsTold_69 : decode cX5_rightsAsTold 69 = .ok (.istore_n 3, 1) := by decide +kernel
theorem dX5_rightsAsTold_70 : decode cX5_rightsAsTold 70 = .ok (.iinc 5 1, 3) := by decide +kernel
theorem dX5_rightsAsTold_73 : decode cX5_rightsAsTold 73 = .ok (.goto (-58), 3) := by decide +kernel
theorem dX5_rightsAsTold_76 : decode cX5_rightsAsTold 76 = .ok (.iload_n 3, 1) := by decide +kernel
theorem dX5_rightsAsTold_77 : decode cX5_rightsAsTold 77 = .ok (.ireturn, 1) := by decide +kernel
def pc_X5_rightsAsTold (i : Nat) : Nat := ([0, 15, 22, 76] : List Nat).getD i 0
set_option maxRecDepth 20000 in
theorem ob_X5_rightsAsTold_0 {x : ip_Cx} {G : ip_Gl} {d : Nat} (X : ip_X x G tb 6 d 0 0 RX5 cX5_rightsAsTold) (hr : x.2.2.2.2.2.2.2.2.1.sig.returnType = (some .int)) (hnm : x.2.2.2.2.2.2.2.2.1.name = "rightsAsTold") : ip_okB x G 6 pc_X5_rightsAsTold 0 ([oI (0), oStI 3, oLdA 0, oGet 5 0, oLdI 1, oCaV (ip_call tb d) 0 0 1 11 2 0 0, oStI 4, oI (0), oStI 5], tGo 1) := ⟨_, okC (ok_ic X (by decide) dX5_rightsAsTold_0)
  (okC (ok_istn X rfl (by decide) dX5_rightsAsTold_1)
  (okC (ok_aldn X rfl dX5_rightsAsTold_2)
  (okC (ok_get X (ci := 5) rfl (by decide) iw_X5 tw_198 dX5_rightsAsTold_3)
  (okC (ok_ildn X rfl dX5_rightsAsTold_6)
  (okC (ok_calV X (i := 160) (e := en_11) rfl mt_11 rfl rfl rfl tw_477 tw_438 (Or.inl ⟨_, _, rfl⟩) tw_439 dX5_rightsAsTold_7)
  (okC (ok_ist X (by decide) dX5_rightsAsTold_10)
  (okC (ok_ic X (by decide) dX5_rightsAsTold_12)
  (okC (ok_ist X (by decide) dX5_rightsAsTold_13)
  (okN))))))))), ok_fall rfl⟩
set_option maxRecDepth 20000 in
theorem ob_X5_rightsAsTold_1 {x : ip_Cx} {G : ip_Gl} {d : Nat} (X : ip_X x G tb 6 d 0 0 RX5 cX5_rightsAsTold) (hr : x.2.2.2.2.2.2.2.2.1.sig.returnType = (some .int)) (hnm : x.2.2.2.2.2.2.2.2.1.name = "rightsAsTold") : ip_okB x G 6 pc_X5_rightsAsTold 15 ([oLdI 5, oLdI 4], tCm (fun a b => b < a) 3 2) := ⟨_, okC (ok_ild X dX5_rightsAsTold_15)
  (okC (ok_ild X dX5_rightsAsTold_17)
  (okN)), ok_cmgt X (by decide) rfl dX5_rightsAsTold_19⟩
set_option maxRecDepth 20000 in
theorem ob_X5_rightsAsTold_2 {x : ip_Cx} {G : ip_Gl} {d : Nat} (X : ip_X x G tb 6 d 0 0 RX5 cX5_rightsAsTold) (hr : x.2.2.2.2.2.2.2.2.1.sig.returnType = (some .int)) (hnm : x.2.2.2.2.2.2.2.2.1.name = "rightsAsTold") : ip_okB x G 6 pc_X5_rightsAsTold 22 ([oLdA 0, oGet 5 4, oLdA 0, oGet 5 0, oLdI 1, oLdA 0, oGet 5 0, oGet 1 1, oCaV (ip_call tb d) 0 0 4 39 4 0 0, oLdA 0, oGet 5 4, oLdI 5, oLdI 4, oLdI 5, oBI (fun a b => a - b), oCaV (ip_call tb d) 0 0 4 40 3 0 0, oLdI 3, oLdI 5, oLdA 0, oGet 5 4, oLdA 2, oCaV (ip_call tb d) 0 0 4 50 2 0 0, oCal (ip_call tb d) 0 0 105 3 0 0, oStI 3, oInc 5 (1)], tGo 1) := ⟨_, okC (ok_aldn X rfl dX5_rightsAsTold_22)
  (okC (ok_get X (ci := 5) rfl (by decide) iw_X5 tw_202 dX5_rightsAsTold_23)
  (okC (ok_aldn X rfl dX5_rightsAsTold_26)
  (okC (ok_get X (ci := 5) rfl (by decide) iw_X5 tw_198 dX5_rightsAsTold_27)
  (okC (ok_ildn X rfl dX5_rightsAsTold_30)
  (okC (ok_aldn X rfl dX5_rightsAsTold_31)
  (okC (ok_get X (ci := 5) rfl (by decide) iw_X5 tw_198 dX5_rightsAsTold_32)
  (okC (ok_get X (ci := 1) rfl (by decide) iw_X1 tw_44 dX5_rightsAsTold_35)
  (okC (ok_calV X (i := 140) (e := en_39) rfl mt_39 rfl rfl rfl tw_417 tw_418 (Or.inl ⟨_, _, rfl⟩) tw_419 dX5_rightsAsTold_38)
  (okC (ok_aldn X rfl dX5_rightsAsTold_41)
  (okC (ok_get X (ci := 5) rfl (by decide) iw_X5 tw_202 dX5_rightsAsTold_42)
  (okC (ok_ild X dX5_rightsAsTold_45)
  (okC (ok_ild X dX5_rightsAsTold_47)
  (okC (ok_ild X dX5_rightsAsTold_49)
  (okC (ok_isub X dX5_rightsAsTold_51)
  (okC (ok_calV X (i := 300) (e := en_40) rfl mt_40 rfl rfl rfl tw_588 tw_443 (Or.inl ⟨_, _, rfl⟩) tw_444 dX5_rightsAsTold_52)
  (okC (ok_ildn X rfl dX5_rightsAsTold_55)
  (okC (ok_ild X dX5_rightsAsTold_56)
  (okC (ok_aldn X rfl dX5_rightsAsTold_58)
  (okC (ok_get X (ci := 5) rfl (by decide) iw_X5 tw_202 dX5_rightsAsTold_59)
  (okC (ok_aldn X rfl dX5_rightsAsTold_62)
  (okC (ok_calV X (i := 303) (e := en_50) rfl mt_50 rfl rfl rfl tw_631 tw_632 (Or.inl ⟨_, _, rfl⟩) tw_633 dX5_rightsAsTold_63)
  (okC (ok_calS X (i := 104) (e := en_105) rfl mt_105 rfl rfl rfl tw_391 tw_392 dX5_rightsAsTold_66)
  (okC (ok_istn X rfl (by decide) dX5_rightsAsTold_69)
  (okC (ok_inc X (by decide) dX5_rightsAsTold_70)
  (okN))))))))))))))))))))))))), ok_go X (by decide) dX5_rightsAsTold_73⟩
set_option maxRecDepth 20000 in
theorem ob_X5_rightsAsTold_3 {x : ip_Cx} {G : ip_Gl} {d : Nat} (X : ip_X x G tb 6 d 0 0 RX5 cX5_rightsAsTold) (hr : x.2.2.2.2.2.2.2.2.1.sig.returnType = (some .int)) (hnm : x.2.2.2.2.2.2.2.2.1.name = "rightsAsTold") : ip_okB x G 6 pc_X5_rightsAsTold 76 ([oLdI 3], tRI .int 0 0) := ⟨_, okC (ok_ildn X rfl dX5_rightsAsTold_76)
  (okN), ok_ret X hr dX5_rightsAsTold_77⟩
theorem om_110 : ip_MOk tb en_110 pc_X5_rightsAsTold := fun x G d X hr hnm => ⟨ob_X5_rightsAsTold_0 X hr hnm, ⟨ob_X5_rightsAsTold_1 X hr hnm, ⟨ob_X5_rightsAsTold_2 X hr hnm, ⟨ob_X5_rightsAsTold_3 X hr hnm, trivial⟩⟩⟩⟩
theorem dX5_leastSaying_0 : decode cX5_leastSaying 0 = .ok (.iconst 0, 1) := by decide +kernel
theorem dX5_leastSaying_1 : decode cX5_leastSaying 1 = .ok (.istore_n 3, 1) := by decide +kernel
theorem dX5_leastSaying_2 : decode cX5_leastSaying 2 = .ok (.iload_n 3, 1) := by decide +kernel
theorem dX5_leastSaying_3 : decode cX5_leastSaying 3 = .ok (.sipush 256, 3) := by decide +kernel
theorem dX5_leastSaying_6 : decode cX5_leastSaying 6 = .ok (.if_icmp .ge 33, 3) := by decide +kernel
theorem dX5_leastSaying_9 : decode cX5_leastSaying 9 = .ok (.aload_n 0, 1) := by decide +kernel
theorem dX5_leastSaying_10 : decode cX5_leastSaying 10 = .ok (.iload_n 3, 1) := by decide +kernel
theorem dX5_leastSaying_11 : decode cX5_leastSaying 11 = .ok (.iload_n 1, 1) := by decide +kernel
theorem dX5_leastSaying_12 : decode cX5_leastSaying 12 = .ok (.iload_n 2, 1) := by decide +kernel
theorem dX5_leastSaying_13 : decode cX5_leastSaying 13 = .ok (.invokevirtual 307, 3) := by decide +kernel
theorem dX5_leastSaying_16 : decode cX5_leastSaying 16 = .ok (.ifCond .eq 17, 3) := by decide +kernel
theorem dX5_leastSaying_19 : decode cX5_leastSaying 19 = .ok (.iload_n 3, 1) := by decide +kernel
theorem dX5_leastSaying_20 : decode cX5_leastSaying 20 = .ok (.sipush 256, 3) := by decide +kernel
theorem dX5_leastSaying_23 : decode cX5_leastSaying 23 = .ok (.imul, 1) := by decide +kernel
theorem dX5_leastSaying_24 : decode cX5_leastSaying 24 = .ok (.aload_n 0, 1) := by decide +kernel
theorem dX5_leastSaying_25 : decode cX5_leastSaying 25 = .ok (.iload_n 3, 1) := by decide +kernel
theorem dX5_leastSaying_26 : decode cX5_leastSaying 26 = .ok (.iload_n 1, 1) := by decide +kernel
theorem dX5_leastSaying_27 : decode cX5_leastSaying 27 = .ok (.iload_n 2, 1) := by decide +kernel
theorem dX5_leastSaying_28 : decode cX5_leastSaying 28 = .ok (.invokevirtual 310, 3) := by decide +kernel
theorem dX5_leastSaying_31 : decode cX5_leastSaying 31 = .ok (.iadd, 1) := by decide +kernel
theorem dX5_leastSaying_32 : decode cX5_leastSaying 32 = .ok (.ireturn, 1) := by decide +kernel
theorem dX5_leastSaying_33 : decode cX5_leastSaying 33 = .ok (.iinc 3 1, 3) := by decide +kernel
theorem dX5_leastSaying_36 : decode cX5_leastSaying 36 = .ok (.goto (-34), 3) := by decide +kernel
theorem dX5_leastSaying_39 : decode cX5_leastSaying 39 = .ok (.bipush (-3), 2) := by decide +kernel
theorem dX5_leastSaying_41 : decode cX5_leastSaying 41 = .ok (.ireturn, 1) := by decide +kernel
def pc_X5_leastSaying (i : Nat) : Nat := ([0, 2, 9, 19, 33, 39] : List Nat).getD i 0
set_option maxRecDepth 20000 in
theorem ob_X5_leastSaying_0 {x : ip_Cx} {G : ip_Gl} {d : Nat} (X : ip_X x G tb 4 d 0 0 RX5 cX5_leastSaying) (hr : x.2.2.2.2.2.2.2.2.1.sig.returnType = (some .int)) (hnm : x.2.2.2.2.2.2.2.2.1.name = "leastSaying") : ip_okB x G 4 pc_X5_leastSaying 0 ([oI (0), oStI 3], tGo 1) := ⟨_, okC (ok_ic X (by decide) dX5_leastSaying_0)
  (okC (ok_istn X rfl (by decide) dX5_leastSaying_1)
  (okN)), ok_fall rfl⟩
set_option maxRecDepth 20000 in
theorem ob_X5_leastSaying_1 {x : ip_Cx} {G : ip_Gl} {d : Nat} (X : ip_X x G tb 4 d 0 0 RX5 cX5_leastSaying) (hr : x.2.2.2.2.2.2.2.2.1.sig.returnType = (some .int)) (hnm : x.2.2.2.2.2.2.2.2.1.name = "leastSaying") : ip_okB x G 4 pc_X5_leastSaying 2 ([oLdI 3, oI (256)], tCm (fun a b => a < b) 2 5) := ⟨_, okC (ok_ildn X rfl dX5_leastSaying_2)
  (okC (ok_si X (by decide) dX5_leastSaying_3)
  (okN)), ok_cmge X (by decide) rfl dX5_leastSaying_6⟩
set_option maxRecDepth 20000 in
theorem ob_X5_leastSaying_2 {x : ip_Cx} {G : ip_Gl} {d : Nat} (X : ip_X x G tb 4 d 0 0 RX5 cX5_leastSaying) (hr : x.2.2.2.2.2.2.2.2.1.sig.returnType = (some .int)) (hnm : x.2.2.2.2.2.2.2.2.1.name = "leastSaying") : ip_okB x G 4 pc_X5_leastSaying 9 ([oLdA 0, oLdI 3, oLdI 1, oLdI 2, oCaV (ip_call tb d) 0 0 5 112 4 0 0], tIf (fun a => a = 0) 4 3) := ⟨_, okC (ok_aldn X rfl dX5_leastSaying_9)
  (okC (ok_ildn X rfl dX5_leastSaying_10)
  (okC (ok_ildn X rfl dX5_leastSaying_11)
  (okC (ok_ildn X rfl dX5_leastSaying_12)
  (okC (ok_calV X (i := 307) (e := en_112) rfl mt_112 rfl rfl rfl tw_593 tw_595 (Or.inl ⟨_, _, rfl⟩) tp_4 dX5_leastSaying_13)
  (okN))))), ok_ifeq X (by decide) rfl dX5_leastSaying_16⟩
set_option maxRecDepth 20000 in
theorem ob_X5_leastSaying_3 {x : ip_Cx} {G : ip_Gl} {d : Nat} (X : ip_X x G tb 4 d 0 0 RX5 cX5_leastSaying) (hr : x.2.2.2.2.2.2.2.2.1.sig.returnType = (some .int)) (hnm : x.2.2.2.2.2.2.2.2.1.name = "leastSaying") : ip_okB x G 4 pc_X5_leastSaying 19 ([oLdI 3, oI (256), oBI (fun a b => a * b), oLdA 0, oLdI 3, oLdI 1, oLdI 2, oCaV (ip_call tb d) 0 0 5 113 4 0 0, oBI (fun a b => a + b)], tRI .int 0 0) := ⟨_, okC (ok_ildn X rfl dX5_leastSaying_19)
  (okC (ok_si X (by decide) dX5_leastSaying_20)
  (okC (ok_imul X dX5_leastSaying_23)
  (okC (ok_aldn X rfl dX5_leastSaying_24)
  (okC (ok_ildn X rfl dX5_leastSaying_25)
  (okC (ok_ildn X rfl dX5_leastSaying_26)
  (okC (ok_ildn X rfl dX5_leastSaying_27)
  (okC (ok_calV X (i := 310) (e := en_113) rfl mt_113 rfl rfl rfl tw_599 tw_601 (Or.inl ⟨_, _, rfl⟩) tp_5 dX5_leastSaying_28)
  (okC (ok_iadd X dX5_leastSaying_31)
  (okN))))))))), ok_ret X hr dX5_leastSaying_32⟩
set_option maxRecDepth 20000 in
theorem ob_X5_leastSaying_4 {x : ip_Cx} {G : ip_Gl} {d : Nat} (X : ip_X x G tb 4 d 0 0 RX5 cX5_leastSaying) (hr : x.2.2.2.2.2.2.2.2.1.sig.returnType = (some .int)) (hnm : x.2.2.2.2.2.2.2.2.1.name = "leastSaying") : ip_okB x G 4 pc_X5_leastSaying 33 ([oInc 3 (1)], tGo 1) := ⟨_, okC (ok_inc X (by decide) dX5_leastSaying_33)
  (okN), ok_go X (by decide) dX5_leastSaying_36⟩
set_option maxRecDepth 20000 in
theorem ob_X5_leastSaying_5 {x : ip_Cx} {G : ip_Gl} {d : Nat} (X : ip_X x G tb 4 d 0 0 RX5 cX5_leastSaying) (hr : x.2.2.2.2.2.2.2.2.1.sig.returnType = (some .int)) (hnm : x.2.2.2.2.2.2.2.2.1.name = "leastSaying") : ip_okB x G 4 pc_X5_leastSaying 39 ([oI (-3)], tRI .int 0 0) := ⟨_, okC (ok_bi X (by decide) dX5_leastSaying_39)
  (okN), ok_ret X hr dX5_leastSaying_41⟩
theorem om_111 : ip_MOk tb en_111 pc_X5_leastSaying := fun x G d X hr hnm => ⟨ob_X5_leastSaying_0 X hr hnm, ⟨ob_X5_leastSaying_1 X hr hnm, ⟨ob_X5_leastSaying_2 X hr hnm, ⟨ob_X5_leastSaying_3 X hr hnm, ⟨ob_X5_leastSaying_4 X hr hnm, ⟨ob_X5_leastSaying_5 X hr hnm, trivial⟩⟩⟩⟩⟩⟩
theorem dX5_mayBeYes_0 : decode cX5_mayBeYes 0 = .ok (.iload_n 2, 1) := by decide +kernel
theorem dX5_mayBeYes_1 : decode cX5_mayBeYes 1 = .ok (.iload_n 1, 1) := by decide +kernel
theorem dX5_mayBeYes_2 : decode cX5_mayBeYes 2 = .ok (.invokestatic 171, 3) := by decide +kernel
theorem dX5_mayBeYes_5 : decode cX5_mayBeYes 5 = .ok (.isub, 1) := by decide +kernel
theorem dX5_mayBeYes_6 : decode cX5_mayBeYes 6 = .ok (.istore 4, 2) := by decide +kernel
theorem dX5_mayBeYes_8 : decode cX5_mayBeYes 8 = .ok (.sipush 255, 3) := by decide +kernel
theorem dX5_mayBeYes_11 : decode cX5_mayBeYes 11 = .ok (.iload_n 1, 1) := by decide +kernel
theorem dX5_mayBeYes_12 : decode cX5_mayBeYes 12 = .ok (.iconst (-1), 1) := by decide +kernel
theorem dX5_mayBeYes_13 : decode cX5_mayBeYes 13 = .ok (.ixor, 1) := by decide +kernel
theorem dX5_mayBeYes_14 : decode cX5_mayBeYes 14 = .ok (.iand, 1) := by decide +kernel
theorem dX5_mayBeYes_15 : decode cX5_mayBeYes 15 = .ok (.istore 5, 2) := by decide +kernel
theorem dX5_mayBeYes_17 : decode cX5_mayBeYes 17 = .ok (.iload 5, 2) := by decide +kernel
theorem dX5_mayBeYes_19 : decode cX5_mayBeYes 19 = .ok (.aload_n 0, 1) := by decide +kernel
theorem dX5_mayBeYes_20 : decode cX5_mayBeYes 20 = .ok (.getfield 10, 3) := by decide +kernel
theorem dX5_mayBeYes_23 : decode cX5_mayBeYes 23 = .ok (.getfield 101, 3) := by decide +kernel
theorem dX5_mayBeYes_26 : decode cX5_mayBeYes 26 = .ok (.iand, 1) := by decide +kernel
theorem dX5_mayBeYes_27 : decode cX5_mayBeYes 27 = .ok (.invokestatic 171, 3) := by decide +kernel
theorem dX5_mayBeYes_30 : decode cX5_mayBeYes 30 = .ok (.istore 6, 2) := by decide +kernel
theorem dX5_mayBeYes_32 : decode cX5_mayBeYes 32 = .ok (.iload 5, 2) := by decide +kernel
theorem dX5_mayBeYes_34 : decode cX5_mayBeYes 34 = .ok (.aload_n 0, 1) := by decide +kernel
theorem dX5_mayBeYes_35 : decode cX5_mayBeYes 35 = .ok (.getfield 10, 3) := by decide +kernel
theorem dX5_mayBeYes_38 : decode cX5_mayBeYes 38 = .ok (.getfield 101, 3) := by decide +kernel
theorem dX5_mayBeYes_41 : decode cX5_mayBeYes 41 = .ok (.iconst (-1), 1) := by decide +kernel
theorem dX5_mayBeYes_42 : decode cX5_mayBeYes 42 = .ok (.ixor, 1) := by decide +kernel
theorem dX5_mayBeYes_43 : decode cX5_mayBeYes 43 = .ok (.iand, 1) := by decide +kernel
theorem dX5_mayBeYes_44 : decode cX5_mayBeYes 44 = .ok (.invokestatic 171, 3) := by decide +kernel
theorem dX5_mayBeYes_47 : decode cX5_mayBeYes 47 = .ok (.istore 7, 2) := by decide +kernel
theorem dX5_mayBeYes_49 : decode cX5_mayBeYes 49 = .ok (.iload_n 1, 1) := by decide +kernel
theorem dX5_mayBeYes_50 : decode cX5_mayBeYes 50 = .ok (.aload_n 0, 1) := by decide +kernel
theorem dX5_mayBeYes_51 : decode cX5_mayBeYes 51 = .ok (.getfield 10, 3) := by decide +kernel
theorem dX5_mayBeYes_54 : decode cX5_mayBeYes 54 = .ok (.getfield 101, 3) := by decide +kernel
theorem dX5_mayBeYes_57 : decode cX5_mayBeYes 57 = .ok (.iand, 1) := by decide +kernel
theorem dX5_mayBeYes_58 : decode cX5_mayBeYes 58 = .ok (.invokestatic 171, 3) := by decide +kernel
theorem dX5_mayBeYes_61 : decode cX5_mayBeYes 61 = .ok (.istore 8, 2) := by decide +kernel
theorem dX5_mayBeYes_63 : decode cX5_mayBeYes 63 = .ok (.iconst 0, 1) := by decide +kernel
theorem dX5_mayBeYes_64 : decode cX5_mayBeYes 64 = .ok (.iload 4, 2) := by decide +kernel
theorem dX5_mayBeYes_66 : decode cX5_mayBeYes 66 = .ok (.iload 6, 2) := by decide +kernel
theorem dX5_mayBeYes_68 : decode cX5_mayBeYes 68 = .ok (.isub, 1) := by decide +kernel
theorem dX5_mayBeYes_69 : decode cX5_mayBeYes 69 = .ok (.invokestatic 206, 3) := by decide +kernel
theorem dX5_mayBeYes_72 : decode cX5_mayBeYes 72 = .ok (.istore 9, 2) := by decide +kernel
theorem dX5_mayBeYes_74 : decode cX5_mayBeYes 74 = .ok (.iload 9, 2) := by decide +kernel
theorem dX5_mayBeYes_76 : decode cX5_mayBeYes 76 = .ok (.iload 4, 2) := by decide +kernel
theorem dX5_mayBeYes_78 : decode cX5_mayBeYes 78 = .ok (.iload 7, 2) := by decide +kernel
theorem dX5_mayBeYes_80 : decode cX5_mayBeYes 80 = .ok (.invokestatic 260, 3) := by decide +kernel
theorem dX5_mayBeYes_83 : decode cX5_mayBeYes 83 = .ok (.if_icmp .gt 23, 3) := by decide +kernel
theorem dX5_mayBeYes_86 : decode cX5_mayBeYes 86 = .ok (.iload_n 3, 1) := by decide +kernel
theorem dX5_mayBeYes_87 : decode cX5_mayBeYes 87 = .ok (.iload 8, 2) := by decide +kernel
theorem dX5_mayBeYes_89 : decode cX5_mayBeYes 89 = .ok (.iload 9, 2) := by decide +kernel
theorem dX5_mayBeYes_91 : decode cX5_mayBeYes 91 = .ok (.iadd, 1) := by decide +kernel
theorem dX5_mayBeYes_92 : decode cX5_mayBeYes 92 = .ok (.invokestatic 232, 3) := by decide +kernel
theorem dX5_mayBeYes_95 : decode cX5_mayBeYes 95 = .ok (.ifCond .eq 5, 3) := by decide +kernel
theorem dX5_mayBeYes_98 : decode cX5_mayBeYes 98 = .ok (.iconst 1, 1) := by decide +kernel
theorem dX5_mayBeYes_99 : decode cX5_mayBeYes 99 = .ok (.ireturn, 1) := by decide +kernel
theorem dX5_mayBeYes_100 : decode cX5_mayBeYes 100 = .ok (.iinc 9 1, 3) := by decide +kernel
theorem dX5_mayBeYes_103 : decode cX5_mayBeYes 103 = .ok (.goto (-29), 3) := by decide +kernel
theorem dX5_mayBeYes_106 : decode cX5_mayBeYes 106 = .ok (.iconst 0, 1) := by decide +kernel
theorem dX5_mayBeYes_107 : decode cX5_mayBeYes 107 = .ok (.ireturn, 1) := by decide +kernel
def pc_X5_mayBeYes (i : Nat) : Nat := ([0, 74, 86, 98, 100, 106] : List Nat).getD i 0
set_option maxRecDepth 20000 in
theorem ob_X5_mayBeYes_0 {x : ip_Cx} {G : ip_Gl} {d : Nat} (X : ip_X x G tb 10 d 0 0 RX5 cX5_mayBeYes) (hr : x.2.2.2.2.2.2.2.2.1.sig.returnType = (some .boolean)) (hnm : x.2.2.2.2.2.2.2.2.1.name = "mayBeYes") : ip_okB x G 10 pc_X5_mayBeYes 0 ([oLdI 2, oLdI 1, oCal (ip_call tb d) 0 0 227 1 0 0, oBI (fun a b => a - b), oStI 4, oI (255), oLdI 1, oI (-1), oBI (fun a b => a ^^^ b), oBI (fun a b => a &&& b), oStI 5, oLdI 5, oLdA 0, oGet 5 0, oGet 1 1, oBI (fun a b => a &&& b), oCal (ip_call tb d) 0 0 227 1 0 0, oStI 6, oLdI 5, oLdA 0, oGet 5 0, oGet 1 1, oI (-1), oBI (fun a b => a ^^^ b), oBI (fun a b => a &&& b), oCal (ip_call tb d) 0 0 227 1 0 0, oStI 7, oLdI 1, oLdA 0, oGet 5 0, oGet 1 1, oBI (fun a b => a &&& b), oCal (ip_call tb d) 0 0 227 1 0 0, oStI 8, oI (0), oLdI 4, oLdI 6, oBI (fun a b => a - b), oMax 0 0, oStI 9], tGo 1) := ⟨_, okC (ok_ildn X rfl dX5_mayBeYes_0)
  (okC (ok_ildn X rfl dX5_mayBeYes_1)
  (okC (ok_calS X (i := 171) (e := en_227) rfl mt_227 rfl rfl rfl tw_431 tw_432 dX5_mayBeYes_2)
  (okC (ok_isub X dX5_mayBeYes_5)
  (okC (ok_ist X (by decide) dX5_mayBeYes_6)
  (okC (ok_si X (by decide) dX5_mayBeYes_8)
  (okC (ok_ildn X rfl dX5_mayBeYes_11)
  (okC (ok_ic X (by decide) dX5_mayBeYes_12)
  (okC (ok_ixor X dX5_mayBeYes_13)
  (okC (ok_iand X dX5_mayBeYes_14)
  (okC (ok_ist X (by decide) dX5_mayBeYes_15)
  (okC (ok_ild X dX5_mayBeYes_17)
  (okC (ok_aldn X rfl dX5_mayBeYes_19)
  (okC (ok_get X (ci := 5) rfl (by decide) iw_X5 tw_198 dX5_mayBeYes_20)
  (okC (ok_get X (ci := 1) rfl (by decide) iw_X1 tw_44 dX5_mayBeYes_23)
  (okC (ok_iand X dX5_mayBeYes_26)
  (okC (ok_calS X (i := 171) (e := en_227) rfl mt_227 rfl rfl rfl tw_431 tw_432 dX5_mayBeYes_27)
  (okC (ok_ist X (by decide) dX5_mayBeYes_30)
  (okC (ok_ild X dX5_mayBeYes_32)
  (okC (ok_aldn X rfl dX5_mayBeYes_34)
  (okC (ok_get X (ci := 5) rfl (by decide) iw_X5 tw_198 dX5_mayBeYes_35)
  (okC (ok_get X (ci := 1) rfl (by decide) iw_X1 tw_44 dX5_mayBeYes_38)
  (okC (ok_ic X (by decide) dX5_mayBeYes_41)
  (okC (ok_ixor X dX5_mayBeYes_42)
  (okC (ok_iand X dX5_mayBeYes_43)
  (okC (ok_calS X (i := 171) (e := en_227) rfl mt_227 rfl rfl rfl tw_431 tw_432 dX5_mayBeYes_44)
  (okC (ok_ist X (by decide) dX5_mayBeYes_47)
  (okC (ok_ildn X rfl dX5_mayBeYes_49)
  (okC (ok_aldn X rfl dX5_mayBeYes_50)
  (okC (ok_get X (ci := 5) rfl (by decide) iw_X5 tw_198 dX5_mayBeYes_51)
  (okC (ok_get X (ci := 1) rfl (by decide) iw_X1 tw_44 dX5_mayBeYes_54)
  (okC (ok_iand X dX5_mayBeYes_57)
  (okC (ok_calS X (i := 171) (e := en_227) rfl mt_227 rfl rfl rfl tw_431 tw_432 dX5_mayBeYes_58)
  (okC (ok_ist X (by decide) dX5_mayBeYes_61)
  (okC (ok_ic X (by decide) dX5_mayBeYes_63)
  (okC (ok_ild X dX5_mayBeYes_64)
  (okC (ok_ild X dX5_mayBeYes_66)
  (okC (ok_isub X dX5_mayBeYes_68)
  (okC (ok_max X tw_579 tw_549 tw_13 tw_550 dX5_mayBeYes_69)
  (okC (ok_ist X (by decide) dX5_mayBeYes_72)
  (okN)))))))))))))))))))))))))))))))))))))))), ok_fall rfl⟩
set_option maxRecDepth 20000 in
theorem ob_X5_mayBeYes_1 {x : ip_Cx} {G : ip_Gl} {d : Nat} (X : ip_X x G tb 10 d 0 0 RX5 cX5_mayBeYes) (hr : x.2.2.2.2.2.2.2.2.1.sig.returnType = (some .boolean)) (hnm : x.2.2.2.2.2.2.2.2.1.name = "mayBeYes") : ip_okB x G 10 pc_X5_mayBeYes 74 ([oLdI 9, oLdI 4, oLdI 7, oMin 0 0], tCm (fun a b => b < a) 5 2) := ⟨_, okC (ok_ild X dX5_mayBeYes_74)
  (okC (ok_ild X dX5_mayBeYes_76)
  (okC (ok_ild X dX5_mayBeYes_78)
  (okC (ok_min X tw_597 tw_506 tw_13 tw_507 dX5_mayBeYes_80)
  (okN)))), ok_cmgt X (by decide) rfl dX5_mayBeYes_83⟩
set_option maxRecDepth 20000 in
theorem ob_X5_mayBeYes_2 {x : ip_Cx} {G : ip_Gl} {d : Nat} (X : ip_X x G tb 10 d 0 0 RX5 cX5_mayBeYes) (hr : x.2.2.2.2.2.2.2.2.1.sig.returnType = (some .boolean)) (hnm : x.2.2.2.2.2.2.2.2.1.name = "mayBeYes") : ip_okB x G 10 pc_X5_mayBeYes 86 ([oLdI 3, oLdI 8, oLdI 9, oBI (fun a b => a + b), oCal (ip_call tb d) 0 0 104 2 0 0], tIf (fun a => a = 0) 4 3) := ⟨_, okC (ok_ildn X rfl dX5_mayBeYes_86)
  (okC (ok_ild X dX5_mayBeYes_87)
  (okC (ok_ild X dX5_mayBeYes_89)
  (okC (ok_iadd X dX5_mayBeYes_91)
  (okC (ok_calS X (i := 232) (e := en_104) rfl mt_104 rfl rfl rfl tw_598 tw_422 dX5_mayBeYes_92)
  (okN))))), ok_ifeq X (by decide) rfl dX5_mayBeYes_95⟩
set_option maxRecDepth 20000 in
theorem ob_X5_mayBeYes_3 {x : ip_Cx} {G : ip_Gl} {d : Nat} (X : ip_X x G tb 10 d 0 0 RX5 cX5_mayBeYes) (hr : x.2.2.2.2.2.2.2.2.1.sig.returnType = (some .boolean)) (hnm : x.2.2.2.2.2.2.2.2.1.name = "mayBeYes") : ip_okB x G 10 pc_X5_mayBeYes 98 ([oI (1)], tRI .boolean 0 0) := ⟨_, okC (ok_ic X (by decide) dX5_mayBeYes_98)
  (okN), ok_ret X hr dX5_mayBeYes_99⟩
set_option maxRecDepth 20000 in
theorem ob_X5_mayBeYes_4 {x : ip_Cx} {G : ip_Gl} {d : Nat} (X : ip_X x G tb 10 d 0 0 RX5 cX5_mayBeYes) (hr : x.2.2.2.2.2.2.2.2.1.sig.returnType = (some .boolean)) (hnm : x.2.2.2.2.2.2.2.2.1.name = "mayBeYes") : ip_okB x G 10 pc_X5_mayBeYes 100 ([oInc 9 (1)], tGo 1) := ⟨_, okC (ok_inc X (by decide) dX5_mayBeYes_100)
  (okN), ok_go X (by decide) dX5_mayBeYes_103⟩
set_option maxRecDepth 20000 in
theorem ob_X5_mayBeYes_5 {x : ip_Cx} {G : ip_Gl} {d : Nat} (X : ip_X x G tb 10 d 0 0 RX5 cX5_mayBeYes) (hr : x.2.2.2.2.2.2.2.2.1.sig.returnType = (some .boolean)) (hnm : x.2.2.2.2.2.2.2.2.1.name = "mayBeYes") : ip_okB x G 10 pc_X5_mayBeYes 106 ([oI (0)], tRI .boolean 0 0) := ⟨_, okC (ok_ic X (by decide) dX5_mayBeYes_106)
  (okN), ok_ret X hr dX5_mayBeYes_107⟩
theorem om_112 : ip_MOk tb en_112 pc_X5_mayBeYes := fun x G d X hr hnm => ⟨ob_X5_mayBeYes_0 X hr hnm, ⟨ob_X5_mayBeYes_1 X hr hnm, ⟨ob_X5_mayBeYes_2 X hr hnm, ⟨ob_X5_mayBeYes_3 X hr hnm, ⟨ob_X5_mayBeYes_4 X hr hnm, ⟨ob_X5_mayBeYes_5 X hr hnm, trivial⟩⟩⟩⟩⟩⟩
theorem dX5_leastNo_0 : decode cX5_leastNo 0 = .ok (.iload_n 2, 1) := by decide +kernel
theorem dX5_leastNo_1 : decode cX5_leastNo 1 = .ok (.iload_n 1, 1) := by decide +kernel
theorem dX5_leastNo_2 : decode cX5_leastNo 2 = .ok (.invokestatic 171, 3) := by decide +kernel
theorem dX5_leastNo_5 : decode cX5_leastNo 5 = .ok (.isub, 1) := by decide +kernel
theorem dX5_leastNo_6 : decode cX5_leastNo 6 = .ok (.istore 4, 2) := by decide +kernel
theorem dX5_leastNo_8 : decode cX5_leastNo 8 = .ok (.iconst 0, 1) := by decide +kernel
theorem dX5_leastNo_9 : decode cX5_leastNo 9 = .ok (.istore 5, 2) := by decide +kernel
theorem dX5_leastNo_11 : decode cX5_leastNo 11 = .ok (.iload 5, 2) := by decide +kernel
theorem dX5_leastNo_13 : decode cX5_leastNo 13 = .ok (.sipush 256, 3) := by decide +kernel
theorem dX5_leastNo_16 : decode cX5_leastNo 16 = .ok (.if_icmp .ge 49, 3) := by decide +kernel
theorem dX5_leastNo_19 : decode cX5_leastNo 19 = .ok (.iload_n 1, 1) := by decide +kernel
theorem dX5_leastNo_20 : decode cX5_leastNo 20 = .ok (.iload 5, 2) := by decide +kernel
theorem dX5_leastNo_22 : decode cX5_leastNo 22 = .ok (.iand, 1) := by decide +kernel
theorem dX5_leastNo_23 : decode cX5_leastNo 23 = .ok (.ifCond .ne 36, 3) := by decide +kernel
theorem dX5_leastNo_26 : decode cX5_leastNo 26 = .ok (.iload 5, 2) := by decide +kernel
theorem dX5_leastNo_28 : decode cX5_leastNo 28 = .ok (.invokestatic 171, 3) := by decide +kernel
theorem dX5_leastNo_31 : decode cX5_leastNo 31 = .ok (.iload 4, 2) := by decide +kernel
theorem dX5_leastNo_33 : decode cX5_leastNo 33 = .ok (.if_icmp .ne 26, 3) := by decide +kernel
theorem dX5_leastNo_36 : decode cX5_leastNo 36 = .ok (.iload_n 3, 1) := by decide +kernel
theorem dX5_leastNo_37 : decode cX5_leastNo 37 = .ok (.iload_n 1, 1) := by decide +kernel
theorem dX5_leastNo_38 : decode cX5_leastNo 38 = .ok (.iload 5, 2) := by decide +kernel
theorem dX5_leastNo_40 : decode cX5_leastNo 40 = .ok (.aload_n 0, 1) := by decide +kernel
theorem dX5_leastNo_41 : decode cX5_leastNo 41 = .ok (.getfield 10, 3) := by decide +kernel
theorem dX5_leastNo_44 : decode cX5_leastNo 44 = .ok (.getfield 101, 3) := by decide +kernel
theorem dX5_leastNo_47 : decode cX5_leastNo 47 = .ok (.invokestatic 313, 3) := by decide +kernel
theorem dX5_leastNo_50 : decode cX5_leastNo 50 = .ok (.invokestatic 232, 3) := by decide +kernel
theorem dX5_leastNo_53 : decode cX5_leastNo 53 = .ok (.ifCond .eq 6, 3) := by decide +kernel
theorem dX5_leastNo_56 : decode cX5_leastNo 56 = .ok (.iload 5, 2) := by decide +kernel
theorem dX5_leastNo_58 : decode cX5_leastNo 58 = .ok (.ireturn, 1) := by decide +kernel
theorem dX5_leastNo_59 : decode cX5_leastNo 59 = .ok (.iinc 5 1, 3) := by decide +kernel
theorem dX5_leastNo_62 : decode cX5_leastNo 62 = .ok (.goto (-51), 3) := by decide +kernel
theorem dX5_leastNo_65 : decode cX5_leastNo 65 = .ok (.iconst 0, 1) := by decide +kernel
theorem dX5_leastNo_66 : decode cX5_leastNo 66 = .ok (.ireturn, 1) := by decide +kernel
def pc_X5_leastNo (i : Nat) : Nat := ([0, 11, 19, 26, 36, 56, 59, 65] : List Nat).getD i 0
set_option maxRecDepth 20000 in
theorem ob_X5_leastNo_0 {x : ip_Cx} {G : ip_Gl} {d : Nat} (X : ip_X x G tb 6 d 0 0 RX5 cX5_leastNo) (hr : x.2.2.2.2.2.2.2.2.1.sig.returnType = (some .int)) (hnm : x.2.2.2.2.2.2.2.2.1.name = "leastNo") : ip_okB x G 6 pc_X5_leastNo 0 ([oLdI 2, oLdI 1, oCal (ip_call tb d) 0 0 227 1 0 0, oBI (fun a b => a - b), oStI 4, oI (0), oStI 5], tGo 1) := ⟨_, okC (ok_ildn X rfl dX5_leastNo_0)
  (okC (ok_ildn X rfl dX5_leastNo_1)
  (okC (ok_calS X (i := 171) (e := en_227) rfl mt_227 rfl rfl rfl tw_431 tw_432 dX5_leastNo_2)
  (okC (ok_isub X dX5_leastNo_5)
  (okC (ok_ist X (by decide) dX5_leastNo_6)
  (okC (ok_ic X (by decide) dX5_leastNo_8)
  (okC (ok_ist X (by decide) dX5_leastNo_9)
  (okN))))))), ok_fall rfl⟩
set_option maxRecDepth 20000 in
theorem ob_X5_leastNo_1 {x : ip_Cx} {G : ip_Gl} {d : Nat} (X : ip_X x G tb 6 d 0 0 RX5 cX5_leastNo) (hr : x.2.2.2.2.2.2.2.2.1.sig.returnType = (some .int)) (hnm : x.2.2.2.2.2.2.2.2.1.name = "leastNo") : ip_okB x G 6 pc_X5_leastNo 11 ([oLdI 5, oI (256)], tCm (fun a b => a < b) 2 7) := ⟨_, okC (ok_ild X dX5_leastNo_11)
  (okC (ok_si X (by decide) dX5_leastNo_13)
  (okN)), ok_cmge X (by decide) rfl dX5_leastNo_16⟩
set_option maxRecDepth 20000 in
theorem ob_X5_leastNo_2 {x : ip_Cx} {G : ip_Gl} {d : Nat} (X : ip_X x G tb 6 d 0 0 RX5 cX5_leastNo) (hr : x.2.2.2.2.2.2.2.2.1.sig.returnType = (some .int)) (hnm : x.2.2.2.2.2.2.2.2.1.name = "leastNo") : ip_okB x G 6 pc_X5_leastNo 19 ([oLdI 1, oLdI 5, oBI (fun a b => a &&& b)], tIf (fun a => a = 0) 3 6) := ⟨_, okC (ok_ildn X rfl dX5_leastNo_19)
  (okC (ok_ild X dX5_leastNo_20)
  (okC (ok_iand X dX5_leastNo_22)
  (okN))), ok_ifne X (by decide) rfl dX5_leastNo_23⟩
set_option maxRecDepth 20000 in
theorem ob_X5_leastNo_3 {x : ip_Cx} {G : ip_Gl} {d : Nat} (X : ip_X x G tb 6 d 0 0 RX5 cX5_leastNo) (hr : x.2.2.2.2.2.2.2.2.1.sig.returnType = (some .int)) (hnm : x.2.2.2.2.2.2.2.2.1.name = "leastNo") : ip_okB x G 6 pc_X5_leastNo 26 ([oLdI 5, oCal (ip_call tb d) 0 0 227 1 0 0, oLdI 4], tCm (fun a b => a = b) 4 6) := ⟨_, okC (ok_ild X dX5_leastNo_26)
  (okC (ok_calS X (i := 171) (e := en_227) rfl mt_227 rfl rfl rfl tw_431 tw_432 dX5_leastNo_28)
  (okC (ok_ild X dX5_leastNo_31)
  (okN))), ok_cmne X (by decide) rfl dX5_leastNo_33⟩
set_option maxRecDepth 20000 in
theorem ob_X5_leastNo_4 {x : ip_Cx} {G : ip_Gl} {d : Nat} (X : ip_X x G tb 6 d 0 0 RX5 cX5_leastNo) (hr : x.2.2.2.2.2.2.2.2.1.sig.returnType = (some .int)) (hnm : x.2.2.2.2.2.2.2.2.1.name = "leastNo") : ip_okB x G 6 pc_X5_leastNo 36 ([oLdI 3, oLdI 1, oLdI 5, oLdA 0, oGet 5 0, oGet 1 1, oCal (ip_call tb d) 0 0 114 3 0 0, oCal (ip_call tb d) 0 0 104 2 0 0], tIf (fun a => a = 0) 6 5) := ⟨_, okC (ok_ildn X rfl dX5_leastNo_36)
  (okC (ok_ildn X rfl dX5_leastNo_37)
  (okC (ok_ild X dX5_leastNo_38)
  (okC (ok_aldn X rfl dX5_leastNo_40)
  (okC (ok_get X (ci := 5) rfl (by decide) iw_X5 tw_198 dX5_leastNo_41)
  (okC (ok_get X (ci := 1) rfl (by decide) iw_X1 tw_44 dX5_leastNo_44)
  (okC (ok_calS X (i := 313) (e := en_114) rfl mt_114 rfl rfl rfl tw_603 tw_429 dX5_leastNo_47)
  (okC (ok_calS X (i := 232) (e := en_104) rfl mt_104 rfl rfl rfl tw_598 tw_422 dX5_leastNo_50)
  (okN)))))))), ok_ifeq X (by decide) rfl dX5_leastNo_53⟩
set_option maxRecDepth 20000 in
theorem ob_X5_leastNo_5 {x : ip_Cx} {G : ip_Gl} {d : Nat} (X : ip_X x G tb 6 d 0 0 RX5 cX5_leastNo) (hr : x.2.2.2.2.2.2.2.2.1.sig.returnType = (some .int)) (hnm : x.2.2.2.2.2.2.2.2.1.name = "leastNo") : ip_okB x G 6 pc_X5_leastNo 56 ([oLdI 5], tRI .int 0 0) := ⟨_, okC (ok_ild X dX5_leastNo_56)
  (okN), ok_ret X hr dX5_leastNo_58⟩
set_option maxRecDepth 20000 in
theorem ob_X5_leastNo_6 {x : ip_Cx} {G : ip_Gl} {d : Nat} (X : ip_X x G tb 6 d 0 0 RX5 cX5_leastNo) (hr : x.2.2.2.2.2.2.2.2.1.sig.returnType = (some .int)) (hnm : x.2.2.2.2.2.2.2.2.1.name = "leastNo") : ip_okB x G 6 pc_X5_leastNo 59 ([oInc 5 (1)], tGo 1) := ⟨_, okC (ok_inc X (by decide) dX5_leastNo_59)
  (okN), ok_go X (by decide) dX5_leastNo_62⟩
set_option maxRecDepth 20000 in
theorem ob_X5_leastNo_7 {x : ip_Cx} {G : ip_Gl} {d : Nat} (X : ip_X x G tb 6 d 0 0 RX5 cX5_leastNo) (hr : x.2.2.2.2.2.2.2.2.1.sig.returnType = (some .int)) (hnm : x.2.2.2.2.2.2.2.2.1.name = "leastNo") : ip_okB x G 6 pc_X5_leastNo 65 ([oI (0)], tRI .int 0 0) := ⟨_, okC (ok_ic X (by decide) dX5_leastNo_65)
  (okN), ok_ret X hr dX5_leastNo_66⟩
theorem om_113 : ip_MOk tb en_113 pc_X5_leastNo := fun x G d X hr hnm => ⟨ob_X5_leastNo_0 X hr hnm, ⟨ob_X5_leastNo_1 X hr hnm, ⟨ob_X5_leastNo_2 X hr hnm, ⟨ob_X5_leastNo_3 X hr hnm, ⟨ob_X5_leastNo_4 X hr hnm, ⟨ob_X5_leastNo_5 X hr hnm, ⟨ob_X5_leastNo_6 X hr hnm, ⟨ob_X5_leastNo_7 X hr hnm, trivial⟩⟩⟩⟩⟩⟩⟩⟩
theorem dX5_rightOf_0 : decode cX5_rightOf 0 = .ok (.iload_n 0, 1) := by decide +kernel
theorem dX5_rightOf_1 : decode cX5_rightOf 1 = .ok (.iload_n 2, 1) := by decide +kernel
theorem dX5_rightOf_2 : decode cX5_rightOf 2 = .ok (.iand, 1) := by decide +kernel
theorem dX5_rightOf_3 : decode cX5_rightOf 3 = .ok (.invokestatic 171, 3) := by decide +kernel
theorem dX5_rightOf_6 : decode cX5_rightOf 6 = .ok (.iload_n 1, 1) := by decide +kernel
theorem dX5_rightOf_7 : decode cX5_rightOf 7 = .ok (.iload_n 2, 1) := by decide +kernel
theorem dX5_rightOf_8 : decode cX5_rightOf 8 = .ok (.iconst (-1), 1) := by decide +kernel
theorem dX5_rightOf_9 : decode cX5_rightOf 9 = .ok (.ixor, 1) := by decide +kernel
theorem dX5_rightOf_10 : decode cX5_rightOf 10 = .ok (.iand, 1) := by decide +kernel
theorem dX5_rightOf_11 : decode cX5_rightOf 11 = .ok (.invokestatic 171, 3) := by decide +kernel
theorem dX5_rightOf_14 : decode cX5_rightOf 14 = .ok (.iadd, 1) := by decide +kernel
theorem dX5_rightOf_15 : decode cX5_rightOf 15 = .ok (.ireturn, 1) := by decide +kernel
def pc_X5_rightOf (i : Nat) : Nat := ([0] : List Nat).getD i 0
set_option maxRecDepth 20000 in
theorem ob_X5_rightOf_0 {x : ip_Cx} {G : ip_Gl} {d : Nat} (X : ip_X x G tb 3 d 0 0 RX5 cX5_rightOf) (hr : x.2.2.2.2.2.2.2.2.1.sig.returnType = (some .int)) (hnm : x.2.2.2.2.2.2.2.2.1.name = "rightOf") : ip_okB x G 3 pc_X5_rightOf 0 ([oLdI 0, oLdI 2, oBI (fun a b => a &&& b), oCal (ip_call tb d) 0 0 227 1 0 0, oLdI 1, oLdI 2, oI (-1), oBI (fun a b => a ^^^ b), oBI (fun a b => a &&& b), oCal (ip_call tb d) 0 0 227 1 0 0, oBI (fun a b => a + b)], tRI .int 0 0) := ⟨_, okC (ok_ildn X rfl dX5_rightOf_0)
  (okC (ok_ildn X rfl dX5_rightOf_1)
  (okC (ok_iand X dX5_rightOf_2)
  (okC (ok_calS X (i := 171) (e := en_227) rfl mt_227 rfl rfl rfl tw_431 tw_432 dX5_rightOf_3)
  (okC (ok_ildn X rfl dX5_rightOf_6)
  (okC (ok_ildn X rfl dX5_rightOf_7)
  (okC (ok_ic X (by decide) dX5_rightOf_8)
  (okC (ok_ixor X dX5_rightOf_9)
  (okC (ok_iand X dX5_rightOf_10)
  (okC (ok_calS X (i := 171) (e := en_227) rfl mt_227 rfl rfl rfl tw_431 tw_432 dX5_rightOf_11)
  (okC (ok_iadd X dX5_rightOf_14)
  (okN))))))))))), ok_ret X hr dX5_rightOf_15⟩
theorem om_114 : ip_MOk tb en_114 pc_X5_rightOf := fun x G d X hr hnm => ⟨ob_X5_rightOf_0 X hr hnm, trivial⟩
theorem dX5_choices_0 : decode cX5_choices 0 = .ok (.lconst 1, 1) := by decide +kernel
theorem dX5_choices_1 : decode cX5_choices 1 = .ok (.lstore_n 2, 1) := by decide +kernel
theorem dX5_choices_2 : decode cX5_choices 2 = .ok (.iconst 1, 1) := by decide +kernel
theorem dX5_choices_3 : decode cX5_choices 3 = .ok (.istore 4, 2) := by decide +kernel
theorem dX5_choices_5 : decode cX5_choices 5 = .ok (.iload 4, 2) := by decide +kernel
theorem dX5_choices_7 : decode cX5_choices 7 = .ok (.iload_n 1, 1) := by decide +kernel
theorem dX5_choices_8 : decode cX5_choices 8 = .ok (.if_icmp .gt 23, 3) := by decide +kernel
theorem dX5_choices_11 : decode cX5_choices 11 = .ok (.lload_n 2, 1) := by decide +kernel
theorem dX5_choices_12 : decode cX5_choices 12 = .ok (.iload_n 0, 1) := by decide +kernel
theorem dX5_choices_13 : decode cX5_choices 13 = .ok (.iload_n 1, 1) := by decide +kernel
theorem dX5_choices_14 : decode cX5_choices 14 = .ok (.isub, 1) := by decide +kernel
theorem dX5_choices_15 : decode cX5_choices 15 = .ok (.iload 4, 2) := by decide +kernel
theorem dX5_choices_17 : decode cX5_choices 17 = .ok (.iadd, 1) := by decide +kernel
theorem dX5_choices_18 : decode cX5_choices 18 = .ok (.i2l, 1) := by decide +kernel
theorem dX5_choices_19 : decode cX5_choices 19 = .ok (.lmul, 1) := by decide +kernel
theorem dX5_choices_20 : decode cX5_choices 20 = .ok (.iload 4, 2) := by decide +kernel
theorem dX5_choices_22 : decode cX5_choices 22 = .ok (.i2l, 1) := by decide +kernel
theorem dX5_choices_23 : decode cX5_choices 23 = .ok (.ldiv, 1) := by decide +kernel
theorem dX5_choices_24 : decode cX5_choices 24 = .ok (.lstore_n 2, 1) := by decide +kernel
theorem dX5_choices_25 : decode cX5_choices 25 = .ok (.iinc 4 1, 3) := by decide +kernel
theorem dX5_choices_28 : decode cX5_choices 28 = .ok (.goto (-23), 3) := by decide +kernel
theorem dX5_choices_31 : decode cX5_choices 31 = .ok (.lload_n 2, 1) := by decide +kernel
theorem dX5_choices_32 : decode cX5_choices 32 = .ok (.lreturn, 1) := by decide +kernel
def pc_X5_choices (i : Nat) : Nat := ([0, 5, 11, 31] : List Nat).getD i 0
set_option maxRecDepth 20000 in
theorem ob_X5_choices_0 {x : ip_Cx} {G : ip_Gl} {d : Nat} (X : ip_X x G tb 5 d 0 0 RX5 cX5_choices) (hr : x.2.2.2.2.2.2.2.2.1.sig.returnType = (some .long)) (hnm : x.2.2.2.2.2.2.2.2.1.name = "choices") : ip_okB x G 5 pc_X5_choices 0 ([oL 1, oStL 2, oI (1), oStI 4], tGo 1) := ⟨_, okC (ok_lc X (by decide) dX5_choices_0)
  (okC (ok_lstn X rfl (by decide) dX5_choices_1)
  (okC (ok_ic X (by decide) dX5_choices_2)
  (okC (ok_ist X (by decide) dX5_choices_3)
  (okN)))), ok_fall rfl⟩
set_option maxRecDepth 20000 in
theorem ob_X5_choices_1 {x : ip_Cx} {G : ip_Gl} {d : Nat} (X : ip_X x G tb 5 d 0 0 RX5 cX5_choices) (hr : x.2.2.2.2.2.2.2.2.1.sig.returnType = (some .long)) (hnm : x.2.2.2.2.2.2.2.2.1.name = "choices") : ip_okB x G 5 pc_X5_choices 5 ([oLdI 4, oLdI 1], tCm (fun a b => b < a) 3 2) := ⟨_, okC (ok_ild X dX5_choices_5)
  (okC (ok_ildn X rfl dX5_choices_7)
  (okN)), ok_cmgt X (by decide) rfl dX5_choices_8⟩
set_option maxRecDepth 20000 in
theorem ob_X5_choices_2 {x : ip_Cx} {G : ip_Gl} {d : Nat} (X : ip_X x G tb 5 d 0 0 RX5 cX5_choices) (hr : x.2.2.2.2.2.2.2.2.1.sig.returnType = (some .long)) (hnm : x.2.2.2.2.2.2.2.2.1.name = "choices") : ip_okB x G 5 pc_X5_choices 11 ([oLdL 2, oLdI 0, oLdI 1, oBI (fun a b => a - b), oLdI 4, oBI (fun a b => a + b), oIL, oBL (fun a b => a * b), oLdI 4, oIL, oDL (fun a b => a / b), oStL 2, oInc 4 (1)], tGo 1) := ⟨_, okC (ok_lldn X rfl dX5_choices_11)
  (okC (ok_ildn X rfl dX5_choices_12)
  (okC (ok_ildn X rfl dX5_choices_13)
  (okC (ok_isub X dX5_choices_14)
  (okC (ok_ild X dX5_choices_15)
  (okC (ok_iadd X dX5_choices_17)
  (okC (ok_i2l X dX5_choices_18)
  (okC (ok_lmul X dX5_choices_19)
  (okC (ok_ild X dX5_choices_20)
  (okC (ok_i2l X dX5_choices_22)
  (okC (ok_ldiv X dX5_choices_23)
  (okC (ok_lstn X rfl (by decide) dX5_choices_24)
  (okC (ok_inc X (by decide) dX5_choices_25)
  (okN))))))))))))), ok_go X (by decide) dX5_choices_28⟩
set_option maxRecDepth 20000 in
theorem ob_X5_choices_3 {x : ip_Cx} {G : ip_Gl} {d : Nat} (X : ip_X x G tb 5 d 0 0 RX5 cX5_choices) (hr : x.2.2.2.2.2.2.2.2.1.sig.returnType = (some .long)) (hnm : x.2.2.2.2.2.2.2.2.1.name = "choices") : ip_okB x G 5 pc_X5_choices 31 ([oLdL 2], tRL 0 0) := ⟨_, okC (ok_lldn X rfl dX5_choices_31)
  (okN), ok_lret X hr dX5_choices_32⟩
theorem om_115 : ip_MOk tb en_115 pc_X5_choices := fun x G d X hr hnm => ⟨ob_X5_choices_0 X hr hnm, ⟨ob_X5_choices_1 X hr hnm, ⟨ob_X5_choices_2 X hr hnm, ⟨ob_X5_choices_3 X hr hnm, trivial⟩⟩⟩⟩
theorem dX5_partOf_0 : decode cX5_partOf 0 = .ok (.lload_n 0, 1) := by decide +kernel
theorem dX5_partOf_1 : decode cX5_partOf 1 = .ok (.lload_n 2, 1) := by decide +kernel
theorem dX5_partOf_2 : decode cX5_partOf 2 = .ok (.invokestatic 315, 3) := by decide +kernel
theorem dX5_partOf_5 : decode cX5_partOf 5 = .ok (.lstore 5, 2) := by decide +kernel
theorem dX5_partOf_7 : decode cX5_partOf 7 = .ok (.lload 5, 2) := by decide +kernel
theorem dX5_partOf_9 : decode cX5_partOf 9 = .ok (.lconst 0, 1) := by decide +kernel
theorem dX5_partOf_10 : decode cX5_partOf 10 = .ok (.lcmp, 1) := by decide +kernel
theorem dX5_partOf_11 : decode cX5_partOf 11 = .ok (.ifCond .ne 5, 3) := by decide +kernel
theorem dX5_partOf_14 : decode cX5_partOf 14 = .ok (.lconst 0, 1) := by decide +kernel
theorem dX5_partOf_15 : decode cX5_partOf 15 = .ok (.lreturn, 1) := by decide +kernel
theorem dX5_partOf_16 : decode cX5_partOf 16 = .ok (.iload 4, 2) := by decide +kernel
theorem dX5_partOf_18 : decode cX5_partOf 18 = .ok (.ifCond .ne 7, 3) := by decide +kernel
theorem dX5_partOf_21 : decode cX5_partOf 21 = .ok (.lload_n 0, 1) := by decide +kernel
theorem dX5_partOf_22 : decode cX5_partOf 22 = .ok (.goto 4, 3) := by decide +kernel
theorem dX5_partOf_25 : decode cX5_partOf 25 = .ok (.lload_n 2, 1) := by decide +kernel
theorem dX5_partOf_26 : decode cX5_partOf 26 = .ok (.lload 5, 2) := by decide +kernel
theorem dX5_partOf_28 : decode cX5_partOf 28 = .ok (.ldiv, 1) := by decide +kernel
theorem dX5_partOf_29 : decode cX5_partOf 29 = .ok (.lreturn, 1) := by decide +kernel
def pc_X5_partOf (i : Nat) : Nat := ([0, 14, 16, 21, 25, 26] : List Nat).getD i 0
set_option maxRecDepth 20000 in
theorem ob_X5_partOf_0 {x : ip_Cx} {G : ip_Gl} {d : Nat} (X : ip_X x G tb 7 d 0 0 RX5 cX5_partOf) (hr : x.2.2.2.2.2.2.2.2.1.sig.returnType = (some .long)) (hnm : x.2.2.2.2.2.2.2.2.1.name = "partOf") : ip_okB x G 7 pc_X5_partOf 0 ([oLdL 0, oLdL 2, oCal (ip_call tb d) 0 0 117 2 0 0, oStL 5, oLdL 5, oL 0, oCmpL], tIf (fun a => a = 0) 1 2) := ⟨_, okC (ok_lldn X rfl dX5_partOf_0)
  (okC (ok_lldn X rfl dX5_partOf_1)
  (okC (ok_calS X (i := 315) (e := en_117) rfl mt_117 rfl rfl rfl tw_648 tw_649 dX5_partOf_2)
  (okC (ok_lst X (by decide) dX5_partOf_5)
  (okC (ok_lld X dX5_partOf_7)
  (okC (ok_lc X (by decide) dX5_partOf_9)
  (okC (ok_lcmp X dX5_partOf_10)
  (okN))))))), ok_ifne X (by decide) rfl dX5_partOf_11⟩
set_option maxRecDepth 20000 in
theorem ob_X5_partOf_1 {x : ip_Cx} {G : ip_Gl} {d : Nat} (X : ip_X x G tb 7 d 0 0 RX5 cX5_partOf) (hr : x.2.2.2.2.2.2.2.2.1.sig.returnType = (some .long)) (hnm : x.2.2.2.2.2.2.2.2.1.name = "partOf") : ip_okB x G 7 pc_X5_partOf 14 ([oL 0], tRL 0 0) := ⟨_, okC (ok_lc X (by decide) dX5_partOf_14)
  (okN), ok_lret X hr dX5_partOf_15⟩
set_option maxRecDepth 20000 in
theorem ob_X5_partOf_2 {x : ip_Cx} {G : ip_Gl} {d : Nat} (X : ip_X x G tb 7 d 0 0 RX5 cX5_partOf) (hr : x.2.2.2.2.2.2.2.2.1.sig.returnType = (some .long)) (hnm : x.2.2.2.2.2.2.2.2.1.name = "partOf") : ip_okB x G 7 pc_X5_partOf 16 ([oLdI 4], tIf (fun a => a = 0) 3 4) := ⟨_, okC (ok_ild X dX5_partOf_16)
  (okN), ok_ifne X (by decide) rfl dX5_partOf_18⟩
set_option maxRecDepth 20000 in
theorem ob_X5_partOf_3 {x : ip_Cx} {G : ip_Gl} {d : Nat} (X : ip_X x G tb 7 d 0 0 RX5 cX5_partOf) (hr : x.2.2.2.2.2.2.2.2.1.sig.returnType = (some .long)) (hnm : x.2.2.2.2.2.2.2.2.1.name = "partOf") : ip_okB x G 7 pc_X5_partOf 21 ([oLdL 0], tGo 5) := ⟨_, okC (ok_lldn X rfl dX5_partOf_21)
  (okN), ok_go X (by decide) dX5_partOf_22⟩
set_option maxRecDepth 20000 in
theorem ob_X5_partOf_4 {x : ip_Cx} {G : ip_Gl} {d : Nat} (X : ip_X x G tb 7 d 0 0 RX5 cX5_partOf) (hr : x.2.2.2.2.2.2.2.2.1.sig.returnType = (some .long)) (hnm : x.2.2.2.2.2.2.2.2.1.name = "partOf") : ip_okB x G 7 pc_X5_partOf 25 ([oLdL 2], tGo 5) := ⟨_, okC (ok_lldn X rfl dX5_partOf_25)
  (okN), ok_fall rfl⟩
set_option maxRecDepth 20000 in
theorem ob_X5_partOf_5 {x : ip_Cx} {G : ip_Gl} {d : Nat} (X : ip_X x G tb 7 d 0 0 RX5 cX5_partOf) (hr : x.2.2.2.2.2.2.2.2.1.sig.returnType = (some .long)) (hnm : x.2.2.2.2.2.2.2.2.1.name = "partOf") : ip_okB x G 7 pc_X5_partOf 26 ([oLdL 5, oDL (fun a b => a / b)], tRL 0 0) := ⟨_, okC (ok_lld X dX5_partOf_26)
  (okC (ok_ldiv X dX5_partOf_28)
  (okN)), ok_lret X hr dX5_partOf_29⟩
theorem om_116 : ip_MOk tb en_116 pc_X5_partOf := fun x G d X hr hnm => ⟨ob_X5_partOf_0 X hr hnm, ⟨ob_X5_partOf_1 X hr hnm, ⟨ob_X5_partOf_2 X hr hnm, ⟨ob_X5_partOf_3 X hr hnm, ⟨ob_X5_partOf_4 X hr hnm, ⟨ob_X5_partOf_5 X hr hnm, trivial⟩⟩⟩⟩⟩⟩
theorem dX5_commonDivisor_0 : decode cX5_commonDivisor 0 = .ok (.lload_n 0, 1) := by decide +kernel
theorem dX5_commonDivisor_1 : decode cX5_commonDivisor 1 = .ok (.lstore 4, 2) := by decide +kernel
theorem dX5_commonDivisor_3 : decode cX5_commonDivisor 3 = .ok (.lload_n 2, 1) := by decide +kernel
theorem dX5_commonDivisor_4 : decode cX5_commonDivisor 4 = .ok (.lstore 6, 2) := by decide +kernel
theorem dX5_commonDivisor_6 : decode cX5_commonDivisor 6 = .ok (.iconst 0, 1) := by decide +kernel
theorem dX5_commonDivisor_7 : decode cX5_commonDivisor 7 = .ok (.istore 8, 2) := by decide +kernel
theorem dX5_commonDivisor_9 : decode cX5_commonDivisor 9 = .ok (.iload 8, 2) := by decide +kernel
theorem dX5_commonDivisor_11 : decode cX5_commonDivisor 11 = .ok (.bipush 100, 2) := by decide +kernel
theorem dX5_commonDivisor_13 : decode cX5_commonDivisor 13 = .ok (.if_icmp .ge 31, 3) := by decide +kernel
theorem dX5_commonDivisor_16 : decode cX5_commonDivisor 16 = .ok (.lload 6, 2) := by decide +kernel
theorem dX5_commonDivisor_18 : decode cX5_commonDivisor 18 = .ok (.lconst 0, 1) := by decide +kernel
theorem dX5_commonDivisor_19 : decode cX5_commonDivisor 19 = .ok (.lcmp, 1) := by decide +kernel
theorem dX5_commonDivisor_20 : decode cX5_commonDivisor 20 = .ok (.ifCond .eq 24, 3) := by decide +kernel
theorem dX5_commonDivisor_23 : decode cX5_commonDivisor 23 = .ok (.lload 4, 2) := by decide +kernel
theorem dX5_commonDivisor_25 : decode cX5_commonDivisor 25 = .ok (.lload 6, 2) := by decide +kernel
theorem dX5_commonDivisor_27 : decode cX5_commonDivisor 27 = .ok (.lrem, 1) := by decide +kernel
theorem dX5_commonDivisor_28 : decode cX5_commonDivisor 28 = .ok (.lstore 9, 2) := by decide +kernel
theorem dX5_commonDivisor_30 : decode cX5_commonDivisor 30 = .ok (.lload 6, 2) := by decide +kernel
theorem dX5_commonDivisor_32 : decode cX5_commonDivisor 32 = .ok (.lstore 4, 2) := by decide +kernel
theorem dX5_commonDivisor_34 : decode cX5_commonDivisor 34 = .ok (.lload 9, 2) := by decide +kernel
theorem dX5_commonDivisor_36 : decode cX5_commonDivisor 36 = .ok (.lstore 6, 2) := by decide +kernel
theorem dX5_commonDivisor_38 : decode cX5_commonDivisor 38 = .ok (.iinc 8 1, 3) := by decide +kernel
theorem dX5_commonDivisor_41 : decode cX5_commonDivisor 41 = .ok (.goto (-32), 3) := by decide +kernel
theorem dX5_commonDivisor_44 : decode cX5_commonDivisor 44 = .ok (.lload 4, 2) := by decide +kernel
theorem dX5_commonDivisor_46 : decode cX5_commonDivisor 46 = .ok (.lreturn, 1) := by decide +kernel
def pc_X5_commonDivisor (i : Nat) : Nat := ([0, 9, 16, 23, 44] : List Nat).getD i 0
set_option maxRecDepth 20000 in
theorem ob_X5_commonDivisor_0 {x : ip_Cx} {G : ip_Gl} {d : Nat} (X : ip_X x G tb 11 d 0 0 RX5 cX5_commonDivisor) (hr : x.2.2.2.2.2.2.2.2.1.sig.returnType = (some .long)) (hnm : x.2.2.2.2.2.2.2.2.1.name = "commonDivisor") : ip_okB x G 11 pc_X5_commonDivisor 0 ([oLdL 0, oStL 4, oLdL 2, oStL 6, oI (0), oStI 8], tGo 1) := ⟨_, okC (ok_lldn X rfl dX5_commonDivisor_0)
  (okC (ok_lst X (by decide) dX5_commonDivisor_1)
  (okC (ok_lldn X rfl dX5_commonDivisor_3)
  (okC (ok_lst X (by decide) dX5_commonDivisor_4)
  (okC (ok_ic X (by decide) dX5_commonDivisor_6)
  (okC (ok_ist X (by decide) dX5_commonDivisor_7)
  (okN)))))), ok_fall rfl⟩
set_option maxRecDepth 20000 in
theorem ob_X5_commonDivisor_1 {x : ip_Cx} {G : ip_Gl} {d : Nat} (X : ip_X x G tb 11 d 0 0 RX5 cX5_commonDivisor) (hr : x.2.2.2.2.2.2.2.2.1.sig.returnType = (some .long)) (hnm : x.2.2.2.2.2.2.2.2.1.name = "commonDivisor") : ip_okB x G 11 pc_X5_commonDivisor 9 ([oLdI 8, oI (100)], tCm (fun a b => a < b) 2 4) := ⟨_, okC (ok_ild X dX5_commonDivisor_9)
  (okC (ok_bi X (by decide) dX5_commonDivisor_11)
  (okN)), ok_cmge X (by decide) rfl dX5_commonDivisor_13⟩
set_option maxRecDepth 20000 in
theorem ob_X5_commonDivisor_2 {x : ip_Cx} {G : ip_Gl} {d : Nat} (X : ip_X x G tb 11 d 0 0 RX5 cX5_commonDivisor) (hr : x.2.2.2.2.2.2.2.2.1.sig.returnType = (some .long)) (hnm : x.2.2.2.2.2.2.2.2.1.name = "commonDivisor") : ip_okB x G 11 pc_X5_commonDivisor 16 ([oLdL 6, oL 0, oCmpL], tIf (fun a => a = 0) 4 3) := ⟨_, okC (ok_lld X dX5_commonDivisor_16)
  (okC (ok_lc X (by decide) dX5_commonDivisor_18)
  (okC (ok_lcmp X dX5_commonDivisor_19)
  (okN))), ok_ifeq X (by decide) rfl dX5_commonDivisor_20⟩
set_option maxRecDepth 20000 in
theorem ob_X5_commonDivisor_3 {x : ip_Cx} {G : ip_Gl} {d : Nat} (X : ip_X x G tb 11 d 0 0 RX5 cX5_commonDivisor) (hr : x.2.2.2.2.2.2.2.2.1.sig.returnType = (some .long)) (hnm : x.2.2.2.2.2.2.2.2.1.name = "commonDivisor") : ip_okB x G 11 pc_X5_commonDivisor 23 ([oLdL 4, oLdL 6, oDL (fun a b => a - a / b * b), oStL 9, oLdL 6, oStL 4, oLdL 9, oStL 6, oInc 8 (1)], tGo 1) := ⟨_, okC (ok_lld X dX5_commonDivisor_23)
  (okC (ok_lld X dX5_commonDivisor_25)
  (okC (ok_lrem X dX5_commonDivisor_27)
  (okC (ok_lst X (by decide) dX5_commonDivisor_28)
  (okC (ok_lld X dX5_commonDivisor_30)
  (okC (ok_lst X (by decide) dX5_commonDivisor_32)
  (okC (ok_lld X dX5_commonDivisor_34)
  (okC (ok_lst X (by decide) dX5_commonDivisor_36)
  (okC (ok_inc X (by decide) dX5_commonDivisor_38)
  (okN))))))))), ok_go X (by decide) dX5_commonDivisor_41⟩
set_option maxRecDepth 20000 in
theorem ob_X5_commonDivisor_4 {x : ip_Cx} {G : ip_Gl} {d : Nat} (X : ip_X x G tb 11 d 0 0 RX5 cX5_commonDivisor) (hr : x.2.2.2.2.2.2.2.2.1.sig.returnType = (some .long)) (hnm : x.2.2.2.2.2.2.2.2.1.name = "commonDivisor") : ip_okB x G 11 pc_X5_commonDivisor 44 ([oLdL 4], tRL 0 0) := ⟨_, okC (ok_lld X dX5_commonDivisor_44)
  (okN), ok_lret X hr dX5_commonDivisor_46⟩
theorem om_117 : ip_MOk tb en_117 pc_X5_commonDivisor := fun x G d X hr hnm => ⟨ob_X5_commonDivisor_0 X hr hnm, ⟨ob_X5_commonDivisor_1 X hr hnm, ⟨ob_X5_commonDivisor_2 X hr hnm, ⟨ob_X5_commonDivisor_3 X hr hnm, ⟨ob_X5_commonDivisor_4 X hr hnm, trivial⟩⟩⟩⟩⟩
theorem dX6_init_0 : decode cX6_init 0 = .ok (.aload_n 0, 1) := by decide +kernel
theorem dX6_init_1 : decode cX6_init 1 = .ok (.invokespecial 1, 3) := by decide +kernel
theorem dX6_init_4 : decode cX6_init 4 = .ok (.aload_n 0, 1) := by decide +kernel
theorem dX6_init_5 : decode cX6_init 5 = .ok (.bipush 56, 2) := by decide +kernel
theorem dX6_init_7 : decode cX6_init 7 = .ok (.newarray .int, 2) := by decide +kernel
theorem dX6_init_9 : decode cX6_init 9 = .ok (.putfield 7, 3) := by decide +kernel
theorem dX6_init_12 : decode cX6_init 12 = .ok (.aload_n 0, 1) := by decide +kernel
theorem dX6_init_13 : decode cX6_init 13 = .ok (.bipush 56, 2) := by decide +kernel
theorem dX6_init_15 : decode cX6_init 15 = .ok (.newarray .int, 2) := by decide +kernel
theorem dX6_init_17 : decode cX6_init 17 = .ok (.putfield 13, 3) := by decide +kernel
theorem dX6_init_20 : decode cX6_init 20 = .ok (.aload_n 0, 1) := by decide +kernel
theorem dX6_init_21 : decode cX6_init 21 = .ok (.bipush 56, 2) := by decide +kernel
theorem dX6_init_23 : decode cX6_init 23 = .ok (.newarray .int, 2) := by decide +kernel
theorem dX6_init_25 : decode cX6_init 25 = .ok (.putfield 16, 3) := by decide +kernel
theorem dX6_init_28 : decode cX6_init 28 = .ok (.aload_n 0, 1) := by decide +kernel
theorem dX6_init_29 : decode cX6_init 29 = .ok (.bipush 56, 2) := by decide +kernel
theorem dX6_init_31 : decode cX6_init 31 = .ok (.newarray .int, 2) := by decide +kernel
theorem dX6_init_33 : decode cX6_init 33 = .ok (.putfield 19, 3) := by decide +kernel
theorem dX6_init_36 : decode cX6_init 36 = .ok (.aload_n 0, 1) := by decide +kernel
theorem dX6_init_37 : decode cX6_init 37 = .ok (.sipush 200, 3) := by decide +kernel
theorem dX6_init_40 : decode cX6_init 40 = .ok (.newarray .int, 2) := by decide +kernel
theorem dX6_init_42 : decode cX6_init 42 = .ok (.putfield 22, 3) := by decide +kernel
theorem dX6_init_45 : decode cX6_init 45 = .ok (.aload_n 0, 1) := by decide +kernel
theorem dX6_init_46 : decode cX6_init 46 = .ok (.bipush 30, 2) := by decide +kernel
theorem dX6_init_48 : decode cX6_init 48 = .ok (.newarray .int, 2) := by decide +kernel
theorem dX6_init_50 : decode cX6_init 50 = .ok (.putfield 25, 3) := by decide +kernel
theorem dX6_init_53 : decode cX6_init 53 = .ok (.aload_n 0, 1) := by decide +kernel
theorem dX6_init_54 : decode cX6_init 54 = .ok (.bipush 30, 2) := by decide +kernel
theorem dX6_init_56 : decode cX6_init 56 = .ok (.newarray .int, 2) := by decide +kernel
theorem dX6_init_58 : decode cX6_init 58 = .ok (.putfield 28, 3) := by decide +kernel
theorem dX6_init_61 : decode cX6_init 61 = .ok (.aload_n 0, 1) := by decide +kernel
theorem dX6_init_62 : decode cX6_init 62 = .ok (.iconst 4, 1) := by decide +kernel
theorem dX6_init_63 : decode cX6_init 63 = .ok (.newarray .int, 2) := by decide +kernel
theorem dX6_init_65 : decode cX6_init 65 = .ok (.dup, 1) := by decide +kernel
theorem dX6_init_66 : decode cX6_init 66 = .ok (.iconst 0, 1) := by decide +kernel
theorem dX6_init_67 : decode cX6_init 67 = .ok (.iconst (-1), 1) := by decide +kernel
theorem dX6_init_68 : decode cX6_init 68 = .ok (.iastore, 1) := by decide +kernel
theorem dX6_init_69 : decode cX6_init 69 = .ok (.dup, 1) := by decide +kernel
theorem dX6_init_70 : decode cX6_init 70 = .ok (.iconst 1, 1) := by decide +kernel
theorem dX6_init_71 : decode cX6_init 71 = .ok (.iconst (-1), 1) := by decide +kernel
theorem dX6_init_72 : decode cX6_init 72 = .ok (.iastore, 1) := by decide +kernel
theorem dX6_init_73 : decode cX6_init 73 = .ok (.dup, 1) := by decide +kernel
theorem dX6_init_74 : decode cX6_init 74 = .ok (.iconst 2, 1) := by decide +kernel
theorem dX6_init_75 : decode cX6_init 75 = .ok (.iconst (-1), 1) := by decide +kernel
theorem dX6_init_76 : decode cX6_init 76 = .ok (.iastore, 1) := by decide +kernel
theorem dX6_init_77 : decode cX6_init 77 = .ok (.dup, 1) := by decide +kernel
theorem dX6_init_78 : decode cX6_init 78 = .ok (.iconst 3, 1) := by decide +kernel
theorem dX6_init_79 : decode cX6_init 79 = .ok (.iconst (-1), 1) := by decide +kernel
theorem dX6_init_80 : decode cX6_init 80 = .ok (.iastore, 1) := by decide +kernel
theorem dX6_init_81 : decode cX6_init 81 = .ok (.putfield 31, 3) := by decide +kernel
theorem dX6_init_84 : decode cX6_init 84 = .ok (.aload_n 0, 1) := by decide +kernel
theorem dX6_init_85 : decode cX6_init 85 = .ok (.iconst 4, 1) := by decide +kernel
theorem dX6_init_86 : decode cX6_init 86 = .ok (.newarray .int, 2) := by decide +kernel
theorem dX6_init_88 : decode cX6_init 88 = .ok (.putfield 34, 3) := by decide +kernel
theorem dX6_init_91 : decode cX6_init 91 = .ok (.aload_n 0, 1) := by decide +kernel
theorem dX6_init_92 : decode cX6_init 92 = .ok (.sipush 160, 3) := by decide +kernel
theorem dX6_init_95 : decode cX6_init 95 = .ok (.newarray .long, 2) := by decide +kernel
theorem dX6_init_97 : decode cX6_init 97 = .ok (.putfield 37, 3) := by decide +kernel
theorem dX6_init_100 : decode cX6_init 100 = .ok (.aload_n 0, 1) := by decide +kernel
theorem dX6_init_101 : decode cX6_init 101 = .ok (.iconst 4, 1) := by decide +kernel
theorem dX6_init_102 : decode cX6_init 102 = .ok (.newarray .int, 2) := by decide +kernel
theorem dX6_init_104 : decode cX6_init 104 = .ok (.dup, 1) := by decide +kernel
theorem dX6_init_105 : decode cX6_init 105 = .ok (.iconst 0, 1) := by decide +kernel
theorem dX6_init_106 : decode cX6_init 106 = .ok (.iconst (-1), 1) := by decide +kernel
theorem dX6_init_107 : decode cX6_init 107 = .ok (.iastore, 1) := by decide +kernel
theorem dX6_init_108 : decode cX6_init 108 = .ok (.dup, 1) := by decide +kernel
theorem dX6_init_109 : decode cX6_init 109 = .ok (.iconst 1, 1) := by decide +kernel
theorem dX6_init_110 : decode cX6_init 110 = .ok (.iconst (-1), 1) := by decide +kernel
theorem dX6_init_111 : decode cX6_init 111 = .ok (.iastore, 1) := by decide +kernel
theorem dX6_init_112 : decode cX6_init 112 = .ok (.dup, 1) := by decide +kernel
theorem dX6_init_113 : decode cX6_init 113 = .ok (.iconst 2, 1) := by decide +kernel
theorem dX6_init_114 : decode cX6_init 114 = .ok (.iconst (-1), 1) := by decide +kernel
theorem dX6_init_115 : decode cX6_init 115 = .ok (.iastore, 1) := by decide +kernel
theorem dX6_init_116 : decode cX6_init 116 = .ok (.dup, 1) := by decide +kernel
theorem dX6_init_117 : decode cX6_init 117 = .ok (.iconst 3, 1) := by decide +kernel
theorem dX6_init_118 : decode cX6_init 118 = .ok (.iconst (-1), 1) := by decide +kernel
theorem dX6_init_119 : decode cX6_init 119 = .ok (.iastore, 1) := by decide +kernel
theorem dX6_init_120 : decode cX6_init 120 = .ok (.putfield 41, 3) := by decide +kernel
theorem dX6_init_123 : decode cX6_init 123 = .ok (.aload_n 0, 1) := by decide +kernel
theorem dX6_init_124 : decode cX6_init 124 = .ok (.iconst 4, 1) := by decide +kernel
theorem dX6_init_125 : decode cX6_init 125 = .ok (.newarray .int, 2) := by decide +kernel
theorem dX6_init_127 : decode cX6_init 127 = .ok (.putfield 44, 3) := by decide +kernel
theorem dX6_init_130 : decode cX6_init 130 = .ok (.aload_n 0, 1) := by decide +kernel
theorem dX6_init_131 : decode cX6_init 131 = .ok (.iconst 4, 1) := by decide +kernel
theorem dX6_init_132 : decode cX6_init 132 = .ok (.newarray .int, 2) := by decide +kernel
theorem dX6_init_134 : decode cX6_init 134 = .ok (.putfield 47, 3) := by decide +kernel
theorem dX6_init_137 : decode cX6_init 137 = .ok (.aload_n 0, 1) := by decide +kernel
theorem dX6_init_138 : decode cX6_init 138 = .ok (.bipush 30, 2) := by decide +kernel
theorem dX6_init_140 : decode cX6_init 140 = .ok (.newarray .int, 2) := by decide +kernel
theorem dX6_init_142 : decode cX6_init 142 = .ok (.putfield 50, 3) := by decide +kernel
theorem dX6_init_145 : decode cX6_init 145 = .ok (.aload_n 0, 1) := by decide +kernel
theorem dX6_init_146 : decode cX6_init 146 = .ok (.getfield 7, 3) := by decide +kernel
theorem dX6_init_149 : decode cX6_init 149 = .ok (.invokestatic 53, 3) := by decide +kernel
theorem dX6_init_152 : decode cX6_init 152 = .ok (.aload_n 0, 1) := by decide +kernel
theorem dX6_init_153 : decode cX6_init 153 = .ok (.getfield 7, 3) := by decide +kernel
theorem dX6_init_156 : decode cX6_init 156 = .ok (.bipush 7, 2) := by decide +kernel
theorem dX6_init_158 : decode cX6_init 158 = .ok (.iconst 1, 1) := by decide +kernel
theorem dX6_init_159 : decode cX6_init 159 = .ok (.iastore, 1) := by decide +kernel
theorem dX6_init_160 : decode cX6_init 160 = .ok (.return_, 1) := by decide +kernel
def pc_X6_init (i : Nat) : Nat := ([0] : List Nat).getD i 0
set_option maxRecDepth 20000 in
theorem ob_X6_init_0 {x : ip_Cx} {G : ip_Gl} {d : Nat} (X : ip_X x G tb 1 d 14 694 RX6 cX6_init) (hr : x.2.2.2.2.2.2.2.2.1.sig.returnType = none) (hnm : x.2.2.2.2.2.2.2.2.1.name = "<init>") : ip_okB x G 1 pc_X6_init 0 ([oLdA 0, oObj, oLdA 0, oI (56), oNwA 14 694 .int (fun N => (N, .inl (fun _ => 0))), oPut 6 0 (.array .int), oLdA 0, oI (56), oNwA 14 694 .int (fun N => (N, .inl (fun _ => 0))), oPut 6 1 (.array .int), oLdA 0, oI (56), oNwA 14 694 .int (fun N => (N, .inl (fun _ => 0))), oPut 6 2 (.array .int), oLdA 0, oI (56), oNwA 14 694 .int (fun N => (N, .inl (fun _ => 0))), oPut 6 3 (.array .int), oLdA 0, oI (200), oNwA 14 694 .int (fun N => (N, .inl (fun _ => 0))), oPut 6 5 (.array .int), oLdA 0, oI (30), oNwA 14 694 .int (fun N => (N, .inl (fun _ => 0))), oPut 6 13 (.array .int), oLdA 0, oI (30), oNwA 14 694 .int (fun N => (N, .inl (fun _ => 0))), oPut 6 14 (.array .int), oLdA 0, oI (4), oNwA 14 694 .int (fun N => (N, .inl (fun _ => 0))), oDup, oI (0), oI (-1), oAstI, oDup, oI (1), oI (-1), oAstI, oDup, oI (2), oI (-1), oAstI, oDup, oI (3), oI (-1), oAstI, oPut 6 16 (.array .int), oLdA 0, oI (4), oNwA 14 694 .int (fun N => (N, .inl (fun _ => 0))), oPut 6 17 (.array .int), oLdA 0, oI (160), oNwA 14 694 .long (fun N => (N, .inr (.inl (fun _ => 0)))), oPut 6 18 (.array .long), oLdA 0, oI (4), oNwA 14 694 .int (fun N => (N, .inl (fun _ => 0))), oDup, oI (0), oI (-1), oAstI, oDup, oI (1), oI (-1), oAstI, oDup, oI (2), oI (-1), oAstI, oDup, oI (3), oI (-1), oAstI, oPut 6 19 (.array .int), oLdA 0, oI (4), oNwA 14 694 .int (fun N => (N, .inl (fun _ => 0))), oPut 6 20 (.array .int), oLdA 0, oI (4), oNwA 14 694 .int (fun N => (N, .inl (fun _ => 0))), oPut 6 21 (.array .int), oLdA 0, oI (30), oNwA 14 694 .int (fun N => (N, .inl (fun _ => 0))), oPut 6 25 (.array .int), oLdA 0, oGet 6 0, oCal (ip_call tb d) 14 694 119 1 0 0, oLdA 0, oGet 6 0, oI (7), oI (1), oAstI], tRV 14 694) := ⟨_, okC (ok_aldn X rfl dX6_init_0)
  (okC (ok_obj X tw_791 tw_21 tw_22 dX6_init_1)
  (okC (ok_aldn X rfl dX6_init_4)
  (okC (ok_bi X (by decide) dX6_init_5)
  (okC (ok_nwI X tw_96 dX6_init_7)
  (okC (ok_put X (ci := 6) rfl (by decide) iw_X6 tyX6_ok nmX6 rfl (Or.inr ⟨rfl, hnm, rfl⟩) tw_795 dX6_init_9)
  (okC (ok_aldn X rfl dX6_init_12)
  (okC (ok_bi X (by decide) dX6_init_13)
  (okC (ok_nwI X tw_96 dX6_init_15)
  (okC (ok_put X (ci := 6) rfl (by decide) iw_X6 tyX6_ok nmX6 rfl (Or.inr ⟨rfl, hnm, rfl⟩) tw_796 dX6_init_17)
  (okC (ok_aldn X rfl dX6_init_20)
  (okC (ok_bi X (by decide) dX6_init_21)
  (okC (ok_nwI X tw_96 dX6_init_23)
  (okC (ok_put X (ci := 6) rfl (by decide) iw_X6 tyX6_ok nmX6 rfl (Or.inr ⟨rfl, hnm, rfl⟩) tw_797 dX6_init_25)
  (okC (ok_aldn X rfl dX6_init_28)
  (okC (ok_bi X (by decide) dX6_init_29)
  (okC (ok_nwI X tw_96 dX6_init_31)
  (okC (ok_put X (ci := 6) rfl (by decide) iw_X6 tyX6_ok nmX6 rfl (Or.inr ⟨rfl, hnm, rfl⟩) tw_798 dX6_init_33)
  (okC (ok_aldn X rfl dX6_init_36)
  (okC (ok_si X (by decide) dX6_init_37)
  (okC (ok_nwI X tw_96 dX6_init_40)
  (okC (ok_put X (ci := 6) rfl (by decide) iw_X6 tyX6_ok nmX6 rfl (Or.inr ⟨rfl, hnm, rfl⟩) tw_800 dX6_init_42)
  (okC (ok_aldn X rfl dX6_init_45)
  (okC (ok_bi X (by decide) dX6_init_46)
  (okC (ok_nwI X tw_96 dX6_init_48)
  (okC (ok_put X (ci := 6) rfl (by decide) iw_X6 tyX6_ok nmX6 rfl (Or.inr ⟨rfl, hnm, rfl⟩) tw_808 dX6_init_50)
  (okC (ok_aldn X rfl dX6_init_53)
  (okC (ok_bi X (by decide) dX6_init_54)
  (okC (ok_nwI X tw_96 dX6_init_56)
  (okC (ok_put X (ci := 6) rfl (by decide) iw_X6 tyX6_ok nmX6 rfl (Or.inr ⟨rfl, hnm, rfl⟩) tw_809 dX6_init_58)
  (okC (ok_aldn X rfl dX6_init_61)
  (okC (ok_ic X (by decide) dX6_init_62)
  (okC (ok_nwI X tw_96 dX6_init_63)
  (okC (ok_dup X dX6_init_65)
  (okC (ok_ic X (by decide) dX6_init_66)
  (okC (ok_ic X (by decide) dX6_init_67)
  (okC (ok_iast X dX6_init_68)
  (okC (ok_dup X dX6_init_69)
  (okC (ok_ic X (by decide) dX6_init_70)
  (okC (ok_ic X (by decide) dX6_init_71)
  (okC (ok_iast X dX6_init_72)
  (okC (ok_dup X dX6_init_73)
  (okC (ok_ic X (by decide) dX6_init_74)
  (okC (ok_ic X (by decide) dX6_init_75)
  (okC (ok_iast X dX6_init_76)
  (okC (ok_dup X dX6_init_77)
  (okC (ok_ic X (by decide) dX6_init_78)
  (okC (ok_ic X (by decide) dX6_init_79)
  (okC (ok_iast X dX6_init_80)
  (okC (ok_put X (ci := 6) rfl (by decide) iw_X6 tyX6_ok nmX6 rfl (Or.inr ⟨rfl, hnm, rfl⟩) tw_811 dX6_init_81)
  (okC (ok_aldn X rfl dX6_init_84)
  (okC (ok_ic X (by decide) dX6_init_85)
  (okC (ok_nwI X tw_96 dX6_init_86)
  (okC (ok_put X (ci := 6) rfl (by decide) iw_X6 tyX6_ok nmX6 rfl (Or.inr ⟨rfl, hnm, rfl⟩) tw_812 dX6_init_88)
  (okC (ok_aldn X rfl dX6_init_91)
  (okC (ok_si X (by decide) dX6_init_92)
  (okC (ok_nwL X tw_880 dX6_init_95)
  (okC (ok_put X (ci := 6) rfl (by decide) iw_X6 tyX6_ok nmX6 rfl (Or.inr ⟨rfl, hnm, rfl⟩) tw_813 dX6_init_97)
  (okC (ok_aldn X rfl dX6_init_100)
  (okC (ok_ic X (by decide) dX6_init_101)
  (okC (ok_nwI X tw_96 dX6_init_102)
  (okC (ok_dup X dX6_init_104)
  (okC (ok_ic X (by decide) dX6_init_105)
  (okC (ok_ic X (by decide) dX6_init_106)
  (okC (ok_iast X dX6_init_107)
  (okC (ok_dup X dX6_init_108)
  (okC (ok_ic X (by decide) dX6_init_109)
  (okC (ok_ic X (by decide) dX6_init_110)
  (okC (ok_iast X dX6_init_111)
  (okC (ok_dup X dX6_init_112)
  (okC (ok_ic X (by decide) dX6_init_113)
  (okC (ok_ic X (by decide) dX6_init_114)
  (okC (ok_iast X dX6_init_115)
  (okC (ok_dup X dX6_init_116)
  (okC (ok_ic X (by decide) dX6_init_117)
  (okC (ok_ic X (by decide) dX6_init_118)
  (okC (ok_iast X dX6_init_119)
  (okC (ok_put X (ci := 6) rfl (by decide) iw_X6 tyX6_ok nmX6 rfl (Or.inr ⟨rfl, hnm, rfl⟩) tw_814 dX6_init_120)
  (okC (ok_aldn X rfl dX6_init_123)
  (okC (ok_ic X (by decide) dX6_init_124)
  (okC (ok_nwI X tw_96 dX6_init_125)
  (okC (ok_put X (ci := 6) rfl (by decide) iw_X6 tyX6_ok nmX6 rfl (Or.inr ⟨rfl, hnm, rfl⟩) tw_815 dX6_init_127)
  (okC (ok_aldn X rfl dX6_init_130)
  (okC (ok_ic X (by decide) dX6_init_131)
  (okC (ok_nwI X tw_96 dX6_init_132)
  (okC (ok_put X (ci := 6) rfl (by decide) iw_X6 tyX6_ok nmX6 rfl (Or.inr ⟨rfl, hnm, rfl⟩) tw_816 dX6_init_134)
  (okC (ok_aldn X rfl dX6_init_137)
  (okC (ok_bi X (by decide) dX6_init_138)
  (okC (ok_nwI X tw_96 dX6_init_140)
  (okC (ok_put X (ci := 6) rfl (by decide) iw_X6 tyX6_ok nmX6 rfl (Or.inr ⟨rfl, hnm, rfl⟩) tw_820 dX6_init_142)
  (okC (ok_aldn X rfl dX6_init_145)
  (okC (ok_get X (ci := 6) rfl (by decide) iw_X6 tw_795 dX6_init_146)
  (okC (ok_calS X (i := 53) (e := en_119) rfl mt_119 rfl rfl rfl tw_792 tw_793 dX6_init_149)
  (okC (ok_aldn X rfl dX6_init_152)
  (okC (ok_get X (ci := 6) rfl (by decide) iw_X6 tw_795 dX6_init_153)
  (okC (ok_bi X (by decide) dX6_init_156)
  (okC (ok_ic X (by decide) dX6_init_158)
  (okC (ok_iast X dX6_init_159)
  (okN)))))))))))))))))))))))))))))))))))))))))))))))))))))))))))))))))))))))))))))))))))))))))))))))))), ok_vret X hr dX6_init_160⟩
theorem om_118 : ip_MOk tb en_118 pc_X6_init := fun x G d X hr hnm => ⟨ob_X6_init_0 X hr hnm, trivial⟩
theorem dX6_begins_0 : decode cX6_begins 0 = .ok (.iconst 0, 1) := by decide +kernel
theorem dX6_begins_1 : decode cX6_begins 1 = .ok (.istore_n 1, 1) := by decide +kernel
theorem dX6_begins_2 : decode cX6_begins 2 = .ok (.iload_n 1, 1) := by decide +kernel
theorem dX6_begins_3 : decode cX6_begins 3 = .ok (.bipush 56, 2) := by decide +kernel
theorem dX6_begins_5 : decode cX6_begins 5 = .ok (.if_icmp .ge 13, 3) := by decide +kernel
theorem dX6_begins_8 : decode cX6_begins 8 = .ok (.aload_n 0, 1) := by decide +kernel
theorem dX6_begins_9 : decode cX6_begins 9 = .ok (.iload_n 1, 1) := by decide +kernel
theorem dX6_begins_10 : decode cX6_begins 10 = .ok (.iconst 0, 1) := by decide +kernel
theorem dX6_begins_11 : decode cX6_begins 11 = .ok (.iastore, 1) := by decide +kernel
theorem dX6_begins_12 : decode cX6_begins 12 = .ok (.iinc 1 1, 3) := by decide +kernel
theorem dX6_begins_15 : decode cX6_begins 15 = .ok (.goto (-13), 3) := by decide +kernel
theorem dX6_begins_18 : decode cX6_begins 18 = .ok (.aload_n 0, 1) := by decide +kernel
theorem dX6_begins_19 : decode cX6_begins 19 = .ok (.iconst 0, 1) := by decide +kernel
theorem dX6_begins_20 : decode cX6_begins 20 = .ok (.bipush 8, 2) := by decide +kernel
theorem dX6_begins_22 : decode cX6_begins 22 = .ok (.iastore, 1) := by decide +kernel
theorem dX6_begins_23 : decode cX6_begins 23 = .ok (.aload_n 0, 1) := by decide +kernel
theorem dX6_begins_24 : decode cX6_begins 24 = .ok (.iconst 1, 1) := by decide +kernel
theorem dX6_begins_25 : decode cX6_begins 25 = .ok (.iconst 3, 1) := by decide +kernel
theorem dX6_begins_26 : decode cX6_begins 26 = .ok (.iastore, 1) := by decide +kernel
theorem dX6_begins_27 : decode cX6_begins 27 = .ok (.aload_n 0, 1) := by decide +kernel
theorem dX6_begins_28 : decode cX6_begins 28 = .ok (.iconst 2, 1) := by decide +kernel
theorem dX6_begins_29 : decode cX6_begins 29 = .ok (.iconst 2, 1) := by decide +kernel
theorem dX6_begins_30 : decode cX6_begins 30 = .ok (.iastore, 1) := by decide +kernel
theorem dX6_begins_31 : decode cX6_begins 31 = .ok (.aload_n 0, 1) := by decide +kernel
theorem dX6_begins_32 : decode cX6_begins 32 = .ok (.iconst 3, 1) := by decide +kernel
theorem dX6_begins_33 : decode cX6_begins 33 = .ok (.bipush 20, 2) := by decide +kernel
theorem dX6_begins_35 : decode cX6_begins 35 = .ok (.iastore, 1) := by decide +kernel
theorem dX6_begins_36 : decode cX6_begins 36 = .ok (.return_, 1) := by decide +kernel
def pc_X6_begins (i : Nat) : Nat := ([0, 2, 8, 18] : List Nat).getD i 0
set_option maxRecDepth 20000 in
theorem ob_X6_begins_0 {x : ip_Cx} {G : ip_Gl} {d : Nat} (X : ip_X x G tb 2 d 0 0 RX6 cX6_begins) (hr : x.2.2.2.2.2.2.2.2.1.sig.returnType = none) (hnm : x.2.2.2.2.2.2.2.2.1.name = "begins") : ip_okB x G 2 pc_X6_begins 0 ([oI (0), oStI 1], tGo 1) := ⟨_, okC (ok_ic X (by decide) dX6_begins_0)
  (okC (ok_istn X rfl (by decide) dX6_begins_1)
  (okN)), ok_fall rfl⟩
set_option maxRecDepth 20000 in
theorem ob_X6_begins_1 {x : ip_Cx} {G : ip_Gl} {d : Nat} (X : ip_X x G tb 2 d 0 0 RX6 cX6_begins) (hr : x.2.2.2.2.2.2.2.2.1.sig.returnType = none) (hnm : x.2.2.2.2.2.2.2.2.1.name = "begins") : ip_okB x G 2 pc_X6_begins 2 ([oLdI 1, oI (56)], tCm (fun a b => a < b) 2 3) := ⟨_, okC (ok_ildn X rfl dX6_begins_2)
  (okC (ok_bi X (by decide) dX6_begins_3)
  (okN)), ok_cmge X (by decide) rfl dX6_begins_5⟩
set_option maxRecDepth 20000 in
theorem ob_X6_begins_2 {x : ip_Cx} {G : ip_Gl} {d : Nat} (X : ip_X x G tb 2 d 0 0 RX6 cX6_begins) (hr : x.2.2.2.2.2.2.2.2.1.sig.returnType = none) (hnm : x.2.2.2.2.2.2.2.2.1.name = "begins") : ip_okB x G 2 pc_X6_begins 8 ([oLdA 0, oLdI 1, oI (0), oAstI, oInc 1 (1)], tGo 1) := ⟨_, okC (ok_aldn X rfl dX6_begins_8)
  (okC (ok_ildn X rfl dX6_begins_9)
  (okC (ok_ic X (by decide) dX6_begins_10)
  (okC (ok_iast X dX6_begins_11)
  (okC (ok_inc X (by decide) dX6_begins_12)
  (okN))))), ok_go X (by decide) dX6_begins_15⟩
set_option maxRecDepth 20000 in
theorem ob_X6_begins_3 {x : ip_Cx} {G : ip_Gl} {d : Nat} (X : ip_X x G tb 2 d 0 0 RX6 cX6_begins) (hr : x.2.2.2.2.2.2.2.2.1.sig.returnType = none) (hnm : x.2.2.2.2.2.2.2.2.1.name = "begins") : ip_okB x G 2 pc_X6_begins 18 ([oLdA 0, oI (0), oI (8), oAstI, oLdA 0, oI (1), oI (3), oAstI, oLdA 0, oI (2), oI (2), oAstI, oLdA 0, oI (3), oI (20), oAstI], tRV 0 0) := ⟨_, okC (ok_aldn X rfl dX6_begins_18)
  (okC (ok_ic X (by decide) dX6_begins_19)
  (okC (ok_bi X (by decide) dX6_begins_20)
  (okC (ok_iast X dX6_begins_22)
  (okC (ok_aldn X rfl dX6_begins_23)
  (okC (ok_ic X (by decide) dX6_begins_24)
  (okC (ok_ic X (by decide) dX6_begins_25)
  (okC (ok_iast X dX6_begins_26)
  (okC (ok_aldn X rfl dX6_begins_27)
  (okC (ok_ic X (by decide) dX6_begins_28)
  (okC (ok_ic X (by decide) dX6_begins_29)
  (okC (ok_iast X dX6_begins_30)
  (okC (ok_aldn X rfl dX6_begins_31)
  (okC (ok_ic X (by decide) dX6_begins_32)
  (okC (ok_bi X (by decide) dX6_begins_33)
  (okC (ok_iast X dX6_begins_35)
  (okN)))))))))))))))), ok_vret X hr dX6_begins_36⟩
theorem om_119 : ip_MOk tb en_119 pc_X6_begins := fun x G d X hr hnm => ⟨ob_X6_begins_0 X hr hnm, ⟨ob_X6_begins_1 X hr hnm, ⟨ob_X6_begins_2 X hr hnm, ⟨ob_X6_begins_3 X hr hnm, trivial⟩⟩⟩⟩
theorem dX6_in_0 : decode cX6_in 0 = .ok (.iload_n 0, 1) := by decide +kernel
theorem dX6_in_1 : decode cX6_in 1 = .ok (.iload_n 1, 1) := by decide +kernel
theorem dX6_in_2 : decode cX6_in 2 = .ok (.if_icmp .lt 12, 3) := by decide +kernel
theorem dX6_in_5 : decode cX6_in 5 = .ok (.iload_n 0, 1) := by decide +kernel
theorem dX6_in_6 : decode cX6_in 6 = .ok (.iload_n 2, 1) := by decide +kernel
theorem dX6_in_7 : decode cX6_in 7 = .ok (.if_icmp .gt 7, 3) := by decide +kernel
theorem dX6_in_10 : decode cX6_in 10 = .ok (.iconst 1, 1) := by decide +kernel
theorem dX6_in_11 : decode cX6_in 11 = .ok (.goto 4, 3) := by decide +kernel
theorem dX6_in_14 : decode cX6_in 14 = .ok (.iconst 0, 1) := by decide +kernel
theorem dX6_in_15 : decode cX6_in 15 = .ok (.ireturn, 1) := by decide +kernel
def pc_X6_in (i : Nat) : Nat := ([0, 5, 10, 14, 15] : List Nat).getD i 0
set_option maxRecDepth 20000 in
theorem ob_X6_in_0 {x : ip_Cx} {G : ip_Gl} {d : Nat} (X : ip_X x G tb 3 d 0 0 RX6 cX6_in) (hr : x.2.2.2.2.2.2.2.2.1.sig.returnType = (some .boolean)) (hnm : x.2.2.2.2.2.2.2.2.1.name = "in") : ip_okB x G 3 pc_X6_in 0 ([oLdI 0, oLdI 1], tCm (fun a b => a < b) 3 1) := ⟨_, okC (ok_ildn X rfl dX6_in_0)
  (okC (ok_ildn X rfl dX6_in_1)
  (okN)), ok_cmlt X (by decide) rfl dX6_in_2⟩
set_option maxRecDepth 20000 in
theorem ob_X6_in_1 {x : ip_Cx} {G : ip_Gl} {d : Nat} (X : ip_X x G tb 3 d 0 0 RX6 cX6_in) (hr : x.2.2.2.2.2.2.2.2.1.sig.returnType = (some .boolean)) (hnm : x.2.2.2.2.2.2.2.2.1.name = "in") : ip_okB x G 3 pc_X6_in 5 ([oLdI 0, oLdI 2], tCm (fun a b => b < a) 3 2) := ⟨_, okC (ok_ildn X rfl dX6_in_5)
  (okC (ok_ildn X rfl dX6_in_6)
  (okN)), ok_cmgt X (by decide) rfl dX6_in_7⟩
set_option maxRecDepth 20000 in
theorem ob_X6_in_2 {x : ip_Cx} {G : ip_Gl} {d : Nat} (X : ip_X x G tb 3 d 0 0 RX6 cX6_in) (hr : x.2.2.2.2.2.2.2.2.1.sig.returnType = (some .boolean)) (hnm : x.2.2.2.2.2.2.2.2.1.name = "in") : ip_okB x G 3 pc_X6_in 10 ([oI (1)], tGo 4) := ⟨_, okC (ok_ic X (by decide) dX6_in_10)
  (okN), ok_go X (by decide) dX6_in_11⟩
set_option maxRecDepth 20000 in
theorem ob_X6_in_3 {x : ip_Cx} {G : ip_Gl} {d : Nat} (X : ip_X x G tb 3 d 0 0 RX6 cX6_in) (hr : x.2.2.2.2.2.2.2.2.1.sig.returnType = (some .boolean)) (hnm : x.2.2.2.2.2.2.2.2.1.name = "in") : ip_okB x G 3 pc_X6_in 14 ([oI (0)], tGo 4) := ⟨_, okC (ok_ic X (by decide) dX6_in_14)
  (okN), ok_fall rfl⟩
set_option maxRecDepth 20000 in
theorem ob_X6_in_4 {x : ip_Cx} {G : ip_Gl} {d : Nat} (X : ip_X x G tb 3 d 0 0 RX6 cX6_in) (hr : x.2.2.2.2.2.2.2.2.1.sig.returnType = (some .boolean)) (hnm : x.2.2.2.2.2.2.2.2.1.name = "in") : ip_okB x G 3 pc_X6_in 15 ([], tRI .boolean 0 0) := ⟨_, okN, ok_ret X hr dX6_in_15⟩
theorem om_120 : ip_MOk tb en_120 pc_X6_in := fun x G d X hr hnm => ⟨ob_X6_in_0 X hr hnm, ⟨ob_X6_in_1 X hr hnm, ⟨ob_X6_in_2 X hr hnm, ⟨ob_X6_in_3 X hr hnm, ⟨ob_X6_in_4 X hr hnm, trivial⟩⟩⟩⟩⟩
theorem dX6_held_0 : decode cX6_held 0 = .ok (.iload_n 0, 1) := by decide +kernel
theorem dX6_held_1 : decode cX6_held 1 = .ok (.iload_n 1, 1) := by decide +kernel
theorem dX6_held_2 : decode cX6_held 2 = .ok (.if_icmp .ge 7, 3) := by decide +kernel
theorem dX6_held_5 : decode cX6_held 5 = .ok (.iload_n 1, 1) := by decide +kernel
theorem dX6_held_6 : decode cX6_held 6 = .ok (.goto 13, 3) := by decide +kernel
theorem dX6_held_9 : decode cX6_held 9 = .ok (.iload_n 0, 1) := by decide +kernel
theorem dX6_held_10 : decode cX6_held 10 = .ok (.iload_n 2, 1) := by decide +kernel
theorem dX6_held_11 : decode cX6_held 11 = .ok (.if_icmp .le 7, 3) := by decide +kernel
theorem dX6_held_14 : decode cX6_held 14 = .ok (.iload_n 2, 1) := by decide +kernel
theorem dX6_held_15 : decode cX6_held 15 = .ok (.goto 4, 3) := by decide +kernel
theorem dX6_held_18 : decode cX6_held 18 = .ok (.iload_n 0, 1) := by decide +kernel
theorem dX6_held_19 : decode cX6_held 19 = .ok (.ireturn, 1) := by decide +kernel
def pc_X6_held (i : Nat) : Nat := ([0, 5, 9, 14, 18, 19] : List Nat).getD i 0
set_option maxRecDepth 20000 in
theorem ob_X6_held_0 {x : ip_Cx} {G : ip_Gl} {d : Nat} (X : ip_X x G tb 3 d 0 0 RX6 cX6_held) (hr : x.2.2.2.2.2.2.2.2.1.sig.returnType = (some .int)) (hnm : x.2.2.2.2.2.2.2.2.1.name = "held") : ip_okB x G 3 pc_X6_held 0 ([oLdI 0, oLdI 1], tCm (fun a b => a < b) 1 2) := ⟨_, okC (ok_ildn X rfl dX6_held_0)
  (okC (ok_ildn X rfl dX6_held_1)
  (okN)), ok_cmge X (by decide) rfl dX6_held_2⟩
set_option maxRecDepth 20000 in
theorem ob_X6_held_1 {x : ip_Cx} {G : ip_Gl} {d : Nat} (X : ip_X x G tb 3 d 0 0 RX6 cX6_held) (hr : x.2.2.2.2.2.2.2.2.1.sig.returnType = (some .int)) (hnm : x.2.2.2.2.2.2.2.2.1.name = "held") : ip_okB x G 3 pc_X6_held 5 ([oLdI 1], tGo 5) := ⟨_, okC (ok_ildn X rfl dX6_held_5)
  (okN), ok_go X (by decide) dX6_held_6⟩
set_option maxRecDepth 20000 in
theorem ob_X6_held_2 {x : ip_Cx} {G : ip_Gl} {d : Nat} (X : ip_X x G tb 3 d 0 0 RX6 cX6_held) (hr : x.2.2.2.2.2.2.2.2.1.sig.returnType = (some .int)) (hnm : x.2.2.2.2.2.2.2.2.1.name = "held") : ip_okB x G 3 pc_X6_held 9 ([oLdI 0, oLdI 2], tCm (fun a b => b < a) 3 4) := ⟨_, okC (ok_ildn X rfl dX6_held_9)
  (okC (ok_ildn X rfl dX6_held_10)
  (okN)), ok_cmle X (by decide) rfl dX6_held_11⟩
set_option maxRecDepth 20000 in
theorem ob_X6_held_3 {x : ip_Cx} {G : ip_Gl} {d : Nat} (X : ip_X x G tb 3 d 0 0 RX6 cX6_held) (hr : x.2.2.2.2.2.2.2.2.1.sig.returnType = (some .int)) (hnm : x.2.2.2.2.2.2.2.2.1.name = "held") : ip_okB x G 3 pc_X6_held 14 ([oLdI 2], tGo 5) := ⟨_, okC (ok_ildn X rfl dX6_held_14)
  (okN), ok_go X (by decide) dX6_held_15⟩
set_option maxRecDepth 20000 in
theorem ob_X6_held_4 {x : ip_Cx} {G : ip_Gl} {d : Nat} (X : ip_X x G tb 3 d 0 0 RX6 cX6_held) (hr : x.2.2.2.2.2.2.2.2.1.sig.returnType = (some .int)) (hnm : x.2.2.2.2.2.2.2.2.1.name = "held") : ip_okB x G 3 pc_X6_held 18 ([oLdI 0], tGo 5) := ⟨_, okC (ok_ildn X rfl dX6_held_18)
  (okN), ok_fall rfl⟩
set_option maxRecDepth 20000 in
theorem ob_X6_held_5 {x : ip_Cx} {G : ip_Gl} {d : Nat} (X : ip_X x G tb 3 d 0 0 RX6 cX6_held) (hr : x.2.2.2.2.2.2.2.2.1.sig.returnType = (some .int)) (hnm : x.2.2.2.2.2.2.2.2.1.name = "held") : ip_okB x G 3 pc_X6_held 19 ([], tRI .int 0 0) := ⟨_, okN, ok_ret X hr dX6_held_19⟩
theorem om_121 : ip_MOk tb en_121 pc_X6_held := fun x G d X hr hnm => ⟨ob_X6_held_0 X hr hnm, ⟨ob_X6_held_1 X hr hnm, ⟨ob_X6_held_2 X hr hnm, ⟨ob_X6_held_3 X hr hnm, ⟨ob_X6_held_4 X hr hnm, ⟨ob_X6_held_5 X hr hnm, trivial⟩⟩⟩⟩⟩⟩
theorem dX6_moveAll_0 : decode cX6_moveAll 0 = .ok (.iconst 0, 1) := by decide +kernel
theorem dX6_moveAll_1 : decode cX6_moveAll 1 = .ok (.istore_n 2, 1) := by decide +kernel
theorem dX6_moveAll_2 : decode cX6_moveAll 2 = .ok (.iload_n 2, 1) := by decide +kernel
theorem dX6_moveAll_3 : decode cX6_moveAll 3 = .ok (.bipush 56, 2) := by decide +kernel
theorem dX6_moveAll_5 : decode cX6_moveAll 5 = .ok (.if_icmp .ge 15, 3) := by decide +kernel
theorem dX6_moveAll_8 : decode cX6_moveAll 8 = .ok (.aload_n 1, 1) := by decide +kernel
theorem dX6_moveAll_9 : decode cX6_moveAll 9 = .ok (.iload_n 2, 1) := by decide +kernel
theorem dX6_moveAll_10 : decode cX6_moveAll 10 = .ok (.aload_n 0, 1) := by decide +kernel
theorem dX6_moveAll_11 : decode cX6_moveAll 11 = .ok (.iload_n 2, 1) := by decide +kernel
theorem dX6_moveAll_12 : decode cX6_moveAll 12 = .ok (.iaload, 1) := by decide +kernel
theorem dX6_moveAll_13 : decode cX6_moveAll 13 = .ok (.iastore, 1) := by decide +kernel
theorem dX6_moveAll_14 : decode cX6_moveAll 14 = .ok (.iinc 2 1, 3) := by decide +kernel
theorem dX6_moveAll_17 : decode cX6_moveAll 17 = .ok (.goto (-15), 3) := by decide +kernel
theorem dX6_moveAll_20 : decode cX6_moveAll 20 = .ok (.return_, 1) := by decide +kernel
def pc_X6_moveAll (i : Nat) : Nat := ([0, 2, 8, 20] : List Nat).getD i 0
set_option maxRecDepth 20000 in
theorem ob_X6_moveAll_0 {x : ip_Cx} {G : ip_Gl} {d : Nat} (X : ip_X x G tb 3 d 0 0 RX6 cX6_moveAll) (hr : x.2.2.2.2.2.2.2.2.1.sig.returnType = none) (hnm : x.2.2.2.2.2.2.2.2.1.name = "moveAll") : ip_okB x G 3 pc_X6_moveAll 0 ([oI (0), oStI 2], tGo 1) := ⟨_, okC (ok_ic X (by decide) dX6_moveAll_0)
  (okC (ok_istn X rfl (by decide) dX6_moveAll_1)
  (okN)), ok_fall rfl⟩
set_option maxRecDepth 20000 in
theorem ob_X6_moveAll_1 {x : ip_Cx} {G : ip_Gl} {d : Nat} (X : ip_X x G tb 3 d 0 0 RX6 cX6_moveAll) (hr : x.2.2.2.2.2.2.2.2.1.sig.returnType = none) (hnm : x.2.2.2.2.2.2.2.2.1.name = "moveAll") : ip_okB x G 3 pc_X6_moveAll 2 ([oLdI 2, oI (56)], tCm (fun a b => a < b) 2 3) := ⟨_, okC (ok_ildn X rfl dX6_moveAll_2)
  (okC (ok_bi X (by decide) dX6_moveAll_3)
  (okN)), ok_cmge X (by decide) rfl dX6_moveAll_5⟩
set_option maxRecDepth 20000 in
theorem ob_X6_moveAll_2 {x : ip_Cx} {G : ip_Gl} {d : Nat} (X : ip_X x G tb 3 d 0 0 RX6 cX6_moveAll) (hr : x.2.2.2.2.2.2.2.2.1.sig.returnType = none) (hnm : x.2.2.2.2.2.2.2.2.1.name = "moveAll") : ip_okB x G 3 pc_X6_moveAll 8 ([oLdA 1, oLdI 2, oLdA 0, oLdI 2, oAldI, oAstI, oInc 2 (1)], tGo 1) := ⟨_, okC (ok_aldn X rfl dX6_moveAll_8)
  (okC (ok_ildn X rfl dX6_moveAll_9)
  (okC (ok_aldn X rfl dX6_moveAll_10)
  (okC (ok_ildn X rfl dX6_moveAll_11)
  (okC (ok_iald X dX6_moveAll_12)
  (okC (ok_iast X dX6_moveAll_13)
  (okC (ok_inc X (by decide) dX6_moveAll_14)
  (okN))))))), ok_go X (by decide) dX6_moveAll_17⟩
set_option maxRecDepth 20000 in
theorem ob_X6_moveAll_3 {x : ip_Cx} {G : ip_Gl} {d : Nat} (X : ip_X x G tb 3 d 0 0 RX6 cX6_moveAll) (hr : x.2.2.2.2.2.2.2.2.1.sig.returnType = none) (hnm : x.2.2.2.2.2.2.2.2.1.name = "moveAll") : ip_okB x G 3 pc_X6_moveAll 20 ([], tRV 0 0) := ⟨_, okN, ok_vret X hr dX6_moveAll_20⟩
theorem om_122 : ip_MOk tb en_122 pc_X6_moveAll := fun x G d X hr hnm => ⟨ob_X6_moveAll_0 X hr hnm, ⟨ob_X6_moveAll_1 X hr hnm, ⟨ob_X6_moveAll_2 X hr hnm, ⟨ob_X6_moveAll_3 X hr hnm, trivial⟩⟩⟩⟩
theorem dX6_isOne_0 : decode cX6_isOne 0 = .ok (.iload_n 1, 1) := by decide +kernel
theorem dX6_isOne_1 : decode cX6_isOne 1 = .ok (.iconst 0, 1) := by decide +kernel
theorem dX6_isOne_2 : decode cX6_isOne 2 = .ok (.aload_n 0, 1) := by decide +kernel
theorem dX6_isOne_3 : decode cX6_isOne 3 = .ok (.getfield 7, 3) := by decide +kernel
theorem dX6_isOne_6 : decode cX6_isOne 6 = .ok (.bipush 6, 2) := by decide +kernel
theorem dX6_isOne_8 : decode cX6_isOne 8 = .ok (.iaload, 1) := by decide +kernel
theorem dX6_isOne_9 : decode cX6_isOne 9 = .ok (.iconst 1, 1) := by decide +kernel
theorem dX6_isOne_10 : decode cX6_isOne 10 = .ok (.isub, 1) := by decide +kernel
theorem dX6_isOne_11 : decode cX6_isOne 11 = .ok (.invokestatic 57, 3) := by decide +kernel
theorem dX6_isOne_14 : decode cX6_isOne 14 = .ok (.ireturn, 1) := by decide +kernel
def pc_X6_isOne (i : Nat) : Nat := ([0] : List Nat).getD i 0
set_option maxRecDepth 20000 in
theorem ob_X6_isOne_0 {x : ip_Cx} {G : ip_Gl} {d : Nat} (X : ip_X x G tb 2 d 0 0 RX6 cX6_isOne) (hr : x.2.2.2.2.2.2.2.2.1.sig.returnType = (some .boolean)) (hnm : x.2.2.2.2.2.2.2.2.1.name = "isOne") : ip_okB x G 2 pc_X6_isOne 0 ([oLdI 1, oI (0), oLdA 0, oGet 6 0, oI (6), oAldI, oI (1), oBI (fun a b => a - b), oCal (ip_call tb d) 0 0 120 3 0 0], tRI .boolean 0 0) := ⟨_, okC (ok_ildn X rfl dX6_isOne_0)
  (okC (ok_ic X (by decide) dX6_isOne_1)
  (okC (ok_aldn X rfl dX6_isOne_2)
  (okC (ok_get X (ci := 6) rfl (by decide) iw_X6 tw_795 dX6_isOne_3)
  (okC (ok_bi X (by decide) dX6_isOne_6)
  (okC (ok_iald X dX6_isOne_8)
  (okC (ok_ic X (by decide) dX6_isOne_9)
  (okC (ok_isub X dX6_isOne_10)
  (okC (ok_calS X (i := 57) (e := en_120) rfl mt_120 rfl rfl rfl tw_885 tw_886 dX6_isOne_11)
  (okN))))))))), ok_ret X hr dX6_isOne_14⟩
theorem om_123 : ip_MOk tb en_123 pc_X6_isOne := fun x G d X hr hnm => ⟨ob_X6_isOne_0 X hr hnm, trivial⟩
theorem dX6_its_0 : decode cX6_its 0 = .ok (.aload_n 0, 1) := by decide +kernel
theorem dX6_its_1 : decode cX6_its 1 = .ok (.getfield 7, 3) := by decide +kernel
theorem dX6_its_4 : decode cX6_its 4 = .ok (.bipush 8, 2) := by decide +kernel
theorem dX6_its_6 : decode cX6_its 6 = .ok (.bipush 6, 2) := by decide +kernel
theorem dX6_its_8 : decode cX6_its 8 = .ok (.iload_n 1, 1) := by decide +kernel
theorem dX6_its_9 : decode cX6_its 9 = .ok (.imul, 1) := by decide +kernel
theorem dX6_its_10 : decode cX6_its 10 = .ok (.iadd, 1) := by decide +kernel
theorem dX6_its_11 : decode cX6_its 11 = .ok (.iload_n 2, 1) := by decide +kernel
theorem dX6_its_12 : decode cX6_its 12 = .ok (.iadd, 1) := by decide +kernel
theorem dX6_its_13 : decode cX6_its 13 = .ok (.iaload, 1) := by decide +kernel
theorem dX6_its_14 : decode cX6_its 14 = .ok (.ireturn, 1) := by decide +kernel
def pc_X6_its (i : Nat) : Nat := ([0] : List Nat).getD i 0
set_option maxRecDepth 20000 in
theorem ob_X6_its_0 {x : ip_Cx} {G : ip_Gl} {d : Nat} (X : ip_X x G tb 3 d 0 0 RX6 cX6_its) (hr : x.2.2.2.2.2.2.2.2.1.sig.returnType = (some .int)) (hnm : x.2.2.2.2.2.2.2.2.1.name = "its") : ip_okB x G 3 pc_X6_its 0 ([oLdA 0, oGet 6 0, oI (8), oI (6), oLdI 1, oBI (fun a b => a * b), oBI (fun a b => a + b), oLdI 2, oBI (fun a b => a + b), oAldI], tRI .int 0 0) := ⟨_, okC (ok_aldn X rfl dX6_its_0)
  (okC (ok_get X (ci := 6) rfl (by decide) iw_X6 tw_795 dX6_its_1)
  (okC (ok_bi X (by decide) dX6_its_4)
  (okC (ok_bi X (by decide) dX6_its_6)
  (okC (ok_ildn X rfl dX6_its_8)
  (okC (ok_imul X dX6_its_9)
  (okC (ok_iadd X dX6_its_10)
  (okC (ok_ildn X rfl dX6_its_11)
  (okC (ok_iadd X dX6_its_12)
  (okC (ok_iald X dX6_its_13)
  (okN)))))))))), ok_ret X hr dX6_its_14⟩
theorem om_124 : ip_MOk tb en_124 pc_X6_its := fun x G d X hr hnm => ⟨ob_X6_its_0 X hr hnm, trivial⟩
theorem dX6_sets_0 : decode cX6_sets 0 = .ok (.aload_n 0, 1) := by decide +kernel
theorem dX6_sets_1 : decode cX6_sets 1 = .ok (.getfield 7, 3) := by decide +kernel
theorem dX6_sets_4 : decode cX6_sets 4 = .ok (.bipush 8, 2) := by decide +kernel
theorem dX6_sets_6 : decode cX6_sets 6 = .ok (.bipush 6, 2) := by decide +kernel
theorem dX6_sets_8 : decode cX6_sets 8 = .ok (.iload_n 1, 1) := by decide +kernel
theorem dX6_sets_9 : decode cX6_sets 9 = .ok (.imul, 1) := by decide +kernel
theorem dX6_sets_10 : decode cX6_sets 10 = .ok (.iadd, 1) := by decide +kernel
theorem dX6_sets_11 : decode cX6_sets 11 = .ok (.iload_n 2, 1) := by decide +kernel
theorem dX6_sets_12 : decode cX6_sets 12 = .ok (.iadd, 1) := by decide +kernel
theorem dX6_sets_13 : decode cX6_sets 13 = .ok (.iload_n 3, 1) := by decide +kernel
theorem dX6_sets_14 : decode cX6_sets 14 = .ok (.iastore, 1) := by decide +kernel
theorem dX6_sets_15 : decode cX6_sets 15 = .ok (.return_, 1) := by decide +kernel
def pc_X6_sets (i : Nat) : Nat := ([0] : List Nat).getD i 0
set_option maxRecDepth 20000 in
theorem ob_X6_sets_0 {x : ip_Cx} {G : ip_Gl} {d : Nat} (X : ip_X x G tb 4 d 0 0 RX6 cX6_sets) (hr : x.2.2.2.2.2.2.2.2.1.sig.returnType = none) (hnm : x.2.2.2.2.2.2.2.2.1.name = "sets") : ip_okB x G 4 pc_X6_sets 0 ([oLdA 0, oGet 6 0, oI (8), oI (6), oLdI 1, oBI (fun a b => a * b), oBI (fun a b => a + b), oLdI 2, oBI (fun a b => a + b), oLdI 3, oAstI], tRV 0 0) := ⟨_, okC (ok_aldn X rfl dX6_sets_0)
  (okC (ok_get X (ci := 6) rfl (by decide) iw_X6 tw_795 dX6_sets_1)
  (okC (ok_bi X (by decide) dX6_sets_4)
  (okC (ok_bi X (by decide) dX6_sets_6)
  (okC (ok_ildn X rfl dX6_sets_8)
  (okC (ok_imul X dX6_sets_9)
  (okC (ok_iadd X dX6_sets_10)
  (okC (ok_ildn X rfl dX6_sets_11)
  (okC (ok_iadd X dX6_sets_12)
  (okC (ok_ildn X rfl dX6_sets_13)
  (okC (ok_iast X dX6_sets_14)
  (okN))))))))))), ok_vret X hr dX6_sets_15⟩
theorem om_125 : ip_MOk tb en_125 pc_X6_sets := fun x G d X hr hnm => ⟨ob_X6_sets_0 X hr hnm, trivial⟩
theorem dX6_becomes_0 : decode cX6_becomes 0 = .ok (.aload_n 0, 1) := by decide +kernel
theorem dX6_becomes_1 : decode cX6_becomes 1 = .ok (.getfield 7, 3) := by decide +kernel
theorem dX6_becomes_4 : decode cX6_becomes 4 = .ok (.iload_n 1, 1) := by decide +kernel
theorem dX6_becomes_5 : decode cX6_becomes 5 = .ok (.iaload, 1) := by decide +kernel
theorem dX6_becomes_6 : decode cX6_becomes 6 = .ok (.istore_n 3, 1) := by decide +kernel
theorem dX6_becomes_7 : decode cX6_becomes 7 = .ok (.aload_n 0, 1) := by decide +kernel
theorem dX6_becomes_8 : decode cX6_becomes 8 = .ok (.getfield 7, 3) := by decide +kernel
theorem dX6_becomes_11 : decode cX6_becomes 11 = .ok (.iload_n 1, 1) := by decide +kernel
theorem dX6_becomes_12 : decode cX6_becomes 12 = .ok (.iload_n 2, 1) := by decide +kernel
theorem dX6_becomes_13 : decode cX6_becomes 13 = .ok (.iastore, 1) := by decide +kernel
theorem dX6_becomes_14 : decode cX6_becomes 14 = .ok (.iload_n 3, 1) := by decide +kernel
theorem dX6_becomes_15 : decode cX6_becomes 15 = .ok (.ireturn, 1) := by decide +kernel
def pc_X6_becomes (i : Nat) : Nat := ([0] : List Nat).getD i 0
set_option maxRecDepth 20000 in
theorem ob_X6_becomes_0 {x : ip_Cx} {G : ip_Gl} {d : Nat} (X : ip_X x G tb 4 d 0 0 RX6 cX6_becomes) (hr : x.2.2.2.2.2.2.2.2.1.sig.returnType = (some .int)) (hnm : x.2.2.2.2.2.2.2.2.1.name = "becomes") : ip_okB x G 4 pc_X6_becomes 0 ([oLdA 0, oGet 6 0, oLdI 1, oAldI, oStI 3, oLdA 0, oGet 6 0, oLdI 1, oLdI 2, oAstI, oLdI 3], tRI .int 0 0) := ⟨_, okC (ok_aldn X rfl dX6_becomes_0)
  (okC (ok_get X (ci := 6) rfl (by decide) iw_X6 tw_795 dX6_becomes_1)
  (okC (ok_ildn X rfl dX6_becomes_4)
  (okC (ok_iald X dX6_becomes_5)
  (okC (ok_istn X rfl (by decide) dX6_becomes_6)
  (okC (ok_aldn X rfl dX6_becomes_7)
  (okC (ok_get X (ci := 6) rfl (by decide) iw_X6 tw_795 dX6_becomes_8)
  (okC (ok_ildn X rfl dX6_becomes_11)
  (okC (ok_ildn X rfl dX6_becomes_12)
  (okC (ok_iast X dX6_becomes_13)
  (okC (ok_ildn X rfl dX6_becomes_14)
  (okN))))))))))), ok_ret X hr dX6_becomes_15⟩
theorem om_126 : ip_MOk tb en_126 pc_X6_becomes := fun x G d X hr hnm => ⟨ob_X6_becomes_0 X hr hnm, trivial⟩
theorem dX6_ones_0 : decode cX6_ones 0 = .ok (.iconst 0, 1) := by decide +kernel
theorem dX6_ones_1 : decode cX6_ones 1 = .ok (.istore_n 1, 1) := by decide +kernel
theorem dX6_ones_2 : decode cX6_ones 2 = .ok (.iload_n 0, 1) := by decide +kernel
theorem dX6_ones_3 : decode cX6_ones 3 = .ok (.istore_n 2, 1) := by decide +kernel
theorem dX6_ones_4 : decode cX6_ones 4 = .ok (.iload_n 2, 1) := by decide +kernel
theorem dX6_ones_5 : decode cX6_ones 5 = .ok (.ifCond .eq 15, 3) := by decide +kernel
theorem dX6_ones_8 : decode cX6_ones 8 = .ok (.iinc 1 1, 3) := by decide +kernel
theorem dX6_ones_11 : decode cX6_ones 11 = .ok (.iload_n 2, 1) := by decide +kernel
theorem dX6_ones_12 : decode cX6_ones 12 = .ok (.iload_n 2, 1) := by decide +kernel
theorem dX6_ones_13 : decode cX6_ones 13 = .ok (.iconst 1, 1) := by decide +kernel
theorem dX6_ones_14 : decode cX6_ones 14 = .ok (.isub, 1) := by decide +kernel
theorem dX6_ones_15 : decode cX6_ones 15 = .ok (.iand, 1) := by decide +kernel
theorem dX6_ones_16 : decode cX6_ones 16 = .ok (.istore_n 2, 1) := by decide +kernel
theorem dX6_ones_17 : decode cX6_ones 17 = .ok (.goto (-13), 3) := by decide +kernel
theorem dX6_ones_20 : decode cX6_ones 20 = .ok (.iload_n 1, 1) := by decide +kernel
theorem dX6_ones_21 : decode cX6_ones 21 = .ok (.ireturn, 1) := by decide +kernel
def pc_X6_ones (i : Nat) : Nat := ([0, 4, 8, 20] : List Nat).getD i 0
set_option maxRecDepth 20000 in
theorem ob_X6_ones_0 {x : ip_Cx} {G : ip_Gl} {d : Nat} (X : ip_X x G tb 3 d 0 0 RX6 cX6_ones) (hr : x.2.2.2.2.2.2.2.2.1.sig.returnType = (some .int)) (hnm : x.2.2.2.2.2.2.2.2.1.name = "ones") : ip_okB x G 3 pc_X6_ones 0 ([oI (0), oStI 1, oLdI 0, oStI 2], tGo 1) := ⟨_, okC (ok_ic X (by decide) dX6_ones_0)
  (okC (ok_istn X rfl (by decide) dX6_ones_1)
  (okC (ok_ildn X rfl dX6_ones_2)
  (okC (ok_istn X rfl (by decide) dX6_ones_3)
  (okN)))), ok_fall rfl⟩
set_option maxRecDepth 20000 in
theorem ob_X6_ones_1 {x : ip_Cx} {G : ip_Gl} {d : Nat} (X : ip_X x G tb 3 d 0 0 RX6 cX6_ones) (hr : x.2.2.2.2.2.2.2.2.1.sig.returnType = (some .int)) (hnm : x.2.2.2.2.2.2.2.2.1.name = "ones") : ip_okB x G 3 pc_X6_ones 4 ([oLdI 2], tIf (fun a => a = 0) 3 2) := ⟨_, okC (ok_ildn X rfl dX6_ones_4)
  (okN), ok_ifeq X (by decide) rfl dX6_ones_5⟩
set_option maxRecDepth 20000 in
theorem ob_X6_ones_2 {x : ip_Cx} {G : ip_Gl} {d : Nat} (X : ip_X x G tb 3 d 0 0 RX6 cX6_ones) (hr : x.2.2.2.2.2.2.2.2.1.sig.returnType = (some .int)) (hnm : x.2.2.2.2.2.2.2.2.1.name = "ones") : ip_okB x G 3 pc_X6_ones 8 ([oInc 1 (1), oLdI 2, oLdI 2, oI (1), oBI (fun a b => a - b), oBI (fun a b => a &&& b), oStI 2], tGo 1) := ⟨_, okC (ok_inc X (by decide) dX6_ones_8)
  (okC (ok_ildn X rfl dX6_ones_11)
  (okC (ok_ildn X rfl dX6_ones_12)
  (okC (ok_ic X (by decide) dX6_ones_13)
  (okC (ok_isub X dX6_ones_14)
  (okC (ok_iand X dX6_ones_15)
  (okC (ok_istn X rfl (by decide) dX6_ones_16)
  (okN))))))), ok_go X (by decide) dX6_ones_17⟩
set_option maxRecDepth 20000 in
theorem ob_X6_ones_3 {x : ip_Cx} {G : ip_Gl} {d : Nat} (X : ip_X x G tb 3 d 0 0 RX6 cX6_ones) (hr : x.2.2.2.2.2.2.2.2.1.sig.returnType = (some .int)) (hnm : x.2.2.2.2.2.2.2.2.1.name = "ones") : ip_okB x G 3 pc_X6_ones 20 ([oLdI 1], tRI .int 0 0) := ⟨_, okC (ok_ildn X rfl dX6_ones_20)
  (okN), ok_ret X hr dX6_ones_21⟩
theorem om_127 : ip_MOk tb en_127 pc_X6_ones := fun x G d X hr hnm => ⟨ob_X6_ones_0 X hr hnm, ⟨ob_X6_ones_1 X hr hnm, ⟨ob_X6_ones_2 X hr hnm, ⟨ob_X6_ones_3 X hr hnm, trivial⟩⟩⟩⟩
