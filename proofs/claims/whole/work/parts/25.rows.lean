theorem dX6_plainSways_0 : decode cX6_plainSways 0 = .ok (.aload_n 0, 1) := by decide +kernel
theorem dX6_plainSways_1 : decode cX6_plainSways 1 = .ok (.bipush 11, 2) := by decide +kernel
theorem dX6_plainSways_3 : decode cX6_plainSways 3 = .ok (.invokevirtual 305, 3) := by decide +kernel
theorem dX6_plainSways_6 : decode cX6_plainSways 6 = .ok (.aload_n 0, 1) := by decide +kernel
theorem dX6_plainSways_7 : decode cX6_plainSways 7 = .ok (.iload_n 1, 1) := by decide +kernel
theorem dX6_plainSways_8 : decode cX6_plainSways 8 = .ok (.invokevirtual 320, 3) := by decide +kernel
theorem dX6_plainSways_11 : decode cX6_plainSways 11 = .ok (.aload_n 0, 1) := by decide +kernel
theorem dX6_plainSways_12 : decode cX6_plainSways 12 = .ok (.getfield 323, 3) := by decide +kernel
theorem dX6_plainSways_15 : decode cX6_plainSways 15 = .ok (.iadd, 1) := by decide +kernel
theorem dX6_plainSways_16 : decode cX6_plainSways 16 = .ok (.ireturn, 1) := by decide +kernel
def pc_X6_plainSways (i : Nat) : Nat := ([0] : List Nat).getD i 0
set_option maxRecDepth 20000 in
theorem ob_X6_plainSways_0 {x : ip_Cx} {G : ip_Gl} {d : Nat} (X : ip_X x G tb 2 d 0 0 RX6 cX6_plainSways) (hr : x.2.2.2.2.2.2.2.2.1.sig.returnType = (some .int)) (hnm : x.2.2.2.2.2.2.2.2.1.name = "plainSways") : ip_okB x G 2 pc_X6_plainSways 0 ([oLdA 0, oI (11), oCaV (ip_call tb d) 0 0 6 212 2 0 0, oLdA 0, oLdI 1, oCaV (ip_call tb d) 0 0 6 215 2 0 0, oLdA 0, oGet 6 24, oBI (fun a b => a + b)], tRI .int 0 0) := ⟨_, okC (ok_aldn X rfl dX6_plainSways_0)
  (okC (ok_bi X (by decide) dX6_plainSways_1)
  (okC (ok_calV X (i := 305) (e := en_212) rfl mt_212 rfl rfl rfl tw_1270 tw_1272 (Or.inl ⟨_, _, rfl⟩) tp_53 dX6_plainSways_3)
  (okC (ok_aldn X rfl dX6_plainSways_6)
  (okC (ok_ildn X rfl dX6_plainSways_7)
  (okC (ok_calV X (i := 320) (e := en_215) rfl mt_215 rfl rfl rfl tw_1262 tw_1264 (Or.inl ⟨_, _, rfl⟩) tp_51 dX6_plainSways_8)
  (okC (ok_aldn X rfl dX6_plainSways_11)
  (okC (ok_get X (ci := 6) rfl (by decide) iw_X6 tw_819 dX6_plainSways_12)
  (okC (ok_iadd X dX6_plainSways_15)
  (okN))))))))), ok_ret X hr dX6_plainSways_16⟩
theorem om_216 : ip_MOk tb en_216 pc_X6_plainSways := fun x G d X hr hnm => ⟨ob_X6_plainSways_0 X hr hnm, trivial⟩
theorem dX6_swaysIt_0 : decode cX6_swaysIt 0 = .ok (.aload_n 0, 1) := by decide +kernel
theorem dX6_swaysIt_1 : decode cX6_swaysIt 1 = .ok (.getfield 314, 3) := by decide +kernel
theorem dX6_swaysIt_4 : decode cX6_swaysIt 4 = .ok (.iconst 1, 1) := by decide +kernel
theorem dX6_swaysIt_5 : decode cX6_swaysIt 5 = .ok (.if_icmp .eq 11, 3) := by decide +kernel
theorem dX6_swaysIt_8 : decode cX6_swaysIt 8 = .ok (.aload_n 0, 1) := by decide +kernel
theorem dX6_swaysIt_9 : decode cX6_swaysIt 9 = .ok (.getfield 314, 3) := by decide +kernel
theorem dX6_swaysIt_12 : decode cX6_swaysIt 12 = .ok (.iconst 3, 1) := by decide +kernel
theorem dX6_swaysIt_13 : decode cX6_swaysIt 13 = .ok (.if_icmp .ne 16, 3) := by decide +kernel
theorem dX6_swaysIt_16 : decode cX6_swaysIt 16 = .ok (.aload_n 0, 1) := by decide +kernel
theorem dX6_swaysIt_17 : decode cX6_swaysIt 17 = .ok (.bipush 20, 2) := by decide +kernel
theorem dX6_swaysIt_19 : decode cX6_swaysIt 19 = .ok (.invokevirtual 305, 3) := by decide +kernel
theorem dX6_swaysIt_22 : decode cX6_swaysIt 22 = .ok (.aload_n 0, 1) := by decide +kernel
theorem dX6_swaysIt_23 : decode cX6_swaysIt 23 = .ok (.iload_n 1, 1) := by decide +kernel
theorem dX6_swaysIt_24 : decode cX6_swaysIt 24 = .ok (.invokevirtual 326, 3) := by decide +kernel
theorem dX6_swaysIt_27 : decode cX6_swaysIt 27 = .ok (.ineg, 1) := by decide +kernel
theorem dX6_swaysIt_28 : decode cX6_swaysIt 28 = .ok (.ireturn, 1) := by decide +kernel
theorem dX6_swaysIt_29 : decode cX6_swaysIt 29 = .ok (.aload_n 0, 1) := by decide +kernel
theorem dX6_swaysIt_30 : decode cX6_swaysIt 30 = .ok (.getfield 314, 3) := by decide +kernel
theorem dX6_swaysIt_33 : decode cX6_swaysIt 33 = .ok (.iconst 4, 1) := by decide +kernel
theorem dX6_swaysIt_34 : decode cX6_swaysIt 34 = .ok (.if_icmp .ne 26, 3) := by decide +kernel
theorem dX6_swaysIt_37 : decode cX6_swaysIt 37 = .ok (.aload_n 0, 1) := by decide +kernel
theorem dX6_swaysIt_38 : decode cX6_swaysIt 38 = .ok (.bipush 41, 2) := by decide +kernel
theorem dX6_swaysIt_40 : decode cX6_swaysIt 40 = .ok (.invokevirtual 305, 3) := by decide +kernel
theorem dX6_swaysIt_43 : decode cX6_swaysIt 43 = .ok (.aload_n 0, 1) := by decide +kernel
theorem dX6_swaysIt_44 : decode cX6_swaysIt 44 = .ok (.iload_n 1, 1) := by decide +kernel
theorem dX6_swaysIt_45 : decode cX6_swaysIt 45 = .ok (.invokevirtual 326, 3) := by decide +kernel
theorem dX6_swaysIt_48 : decode cX6_swaysIt 48 = .ok (.istore_n 2, 1) := by decide +kernel
theorem dX6_swaysIt_49 : decode cX6_swaysIt 49 = .ok (.iload_n 2, 1) := by decide +kernel
theorem dX6_swaysIt_50 : decode cX6_swaysIt 50 = .ok (.aload_n 0, 1) := by decide +kernel
theorem dX6_swaysIt_51 : decode cX6_swaysIt 51 = .ok (.aload_n 0, 1) := by decide +kernel
theorem dX6_swaysIt_52 : decode cX6_swaysIt 52 = .ok (.getfield 323, 3) := by decide +kernel
theorem dX6_swaysIt_55 : decode cX6_swaysIt 55 = .ok (.invokevirtual 320, 3) := by decide +kernel
theorem dX6_swaysIt_58 : decode cX6_swaysIt 58 = .ok (.isub, 1) := by decide +kernel
theorem dX6_swaysIt_59 : decode cX6_swaysIt 59 = .ok (.ireturn, 1) := by decide +kernel
theorem dX6_swaysIt_60 : decode cX6_swaysIt 60 = .ok (.aload_n 0, 1) := by decide +kernel
theorem dX6_swaysIt_61 : decode cX6_swaysIt 61 = .ok (.iload_n 1, 1) := by decide +kernel
theorem dX6_swaysIt_62 : decode cX6_swaysIt 62 = .ok (.invokevirtual 326, 3) := by decide +kernel
theorem dX6_swaysIt_65 : decode cX6_swaysIt 65 = .ok (.ireturn, 1) := by decide +kernel
def pc_X6_swaysIt (i : Nat) : Nat := ([0, 8, 16, 29, 37, 60] : List Nat).getD i 0
set_option maxRecDepth 20000 in
theorem ob_X6_swaysIt_0 {x : ip_Cx} {G : ip_Gl} {d : Nat} (X : ip_X x G tb 3 d 0 0 RX6 cX6_swaysIt) (hr : x.2.2.2.2.2.2.2.2.1.sig.returnType = (some .int)) (hnm : x.2.2.2.2.2.2.2.2.1.name = "swaysIt") : ip_okB x G 3 pc_X6_swaysIt 0 ([oLdA 0, oGet 6 22, oI (1)], tCm (fun a b => a = b) 2 1) := ⟨_, okC (ok_aldn X rfl dX6_swaysIt_0)
  (okC (ok_get X (ci := 6) rfl (by decide) iw_X6 tw_817 dX6_swaysIt_1)
  (okC (ok_ic X (by decide) dX6_swaysIt_4)
  (okN))), ok_cmeq X (by decide) rfl dX6_swaysIt_5⟩
set_option maxRecDepth 20000 in
theorem ob_X6_swaysIt_1 {x : ip_Cx} {G : ip_Gl} {d : Nat} (X : ip_X x G tb 3 d 0 0 RX6 cX6_swaysIt) (hr : x.2.2.2.2.2.2.2.2.1.sig.returnType = (some .int)) (hnm : x.2.2.2.2.2.2.2.2.1.name = "swaysIt") : ip_okB x G 3 pc_X6_swaysIt 8 ([oLdA 0, oGet 6 22, oI (3)], tCm (fun a b => a = b) 2 3) := ⟨_, okC (ok_aldn X rfl dX6_swaysIt_8)
  (okC (ok_get X (ci := 6) rfl (by decide) iw_X6 tw_817 dX6_swaysIt_9)
  (okC (ok_ic X (by decide) dX6_swaysIt_12)
  (okN))), ok_cmne X (by decide) rfl dX6_swaysIt_13⟩
set_option maxRecDepth 20000 in
theorem ob_X6_swaysIt_2 {x : ip_Cx} {G : ip_Gl} {d : Nat} (X : ip_X x G tb 3 d 0 0 RX6 cX6_swaysIt) (hr : x.2.2.2.2.2.2.2.2.1.sig.returnType = (some .int)) (hnm : x.2.2.2.2.2.2.2.2.1.name = "swaysIt") : ip_okB x G 3 pc_X6_swaysIt 16 ([oLdA 0, oI (20), oCaV (ip_call tb d) 0 0 6 212 2 0 0, oLdA 0, oLdI 1, oCaV (ip_call tb d) 0 0 6 216 2 0 0, oUI (fun a => -a)], tRI .int 0 0) := ⟨_, okC (ok_aldn X rfl dX6_swaysIt_16)
  (okC (ok_bi X (by decide) dX6_swaysIt_17)
  (okC (ok_calV X (i := 305) (e := en_212) rfl mt_212 rfl rfl rfl tw_1270 tw_1272 (Or.inl ⟨_, _, rfl⟩) tp_53 dX6_swaysIt_19)
  (okC (ok_aldn X rfl dX6_swaysIt_22)
  (okC (ok_ildn X rfl dX6_swaysIt_23)
  (okC (ok_calV X (i := 326) (e := en_216) rfl mt_216 rfl rfl rfl tw_1282 tw_1284 (Or.inl ⟨_, _, rfl⟩) tp_56 dX6_swaysIt_24)
  (okC (ok_ineg X dX6_swaysIt_27)
  (okN))))))), ok_ret X hr dX6_swaysIt_28⟩
set_option maxRecDepth 20000 in
theorem ob_X6_swaysIt_3 {x : ip_Cx} {G : ip_Gl} {d : Nat} (X : ip_X x G tb 3 d 0 0 RX6 cX6_swaysIt) (hr : x.2.2.2.2.2.2.2.2.1.sig.returnType = (some .int)) (hnm : x.2.2.2.2.2.2.2.2.1.name = "swaysIt") : ip_okB x G 3 pc_X6_swaysIt 29 ([oLdA 0, oGet 6 22, oI (4)], tCm (fun a b => a = b) 4 5) := ⟨_, okC (ok_aldn X rfl dX6_swaysIt_29)
  (okC (ok_get X (ci := 6) rfl (by decide) iw_X6 tw_817 dX6_swaysIt_30)
  (okC (ok_ic X (by decide) dX6_swaysIt_33)
  (okN))), ok_cmne X (by decide) rfl dX6_swaysIt_34⟩
set_option maxRecDepth 20000 in
theorem ob_X6_swaysIt_4 {x : ip_Cx} {G : ip_Gl} {d : Nat} (X : ip_X x G tb 3 d 0 0 RX6 cX6_swaysIt) (hr : x.2.2.2.2.2.2.2.2.1.sig.returnType = (some .int)) (hnm : x.2.2.2.2.2.2.2.2.1.name = "swaysIt") : ip_okB x G 3 pc_X6_swaysIt 37 ([oLdA 0, oI (41), oCaV (ip_call tb d) 0 0 6 212 2 0 0, oLdA 0, oLdI 1, oCaV (ip_call tb d) 0 0 6 216 2 0 0, oStI 2, oLdI 2, oLdA 0, oLdA 0, oGet 6 24, oCaV (ip_call tb d) 0 0 6 215 2 0 0, oBI (fun a b => a - b)], tRI .int 0 0) := ⟨_, okC (ok_aldn X rfl dX6_swaysIt_37)
  (okC (ok_bi X (by decide) dX6_swaysIt_38)
  (okC (ok_calV X (i := 305) (e := en_212) rfl mt_212 rfl rfl rfl tw_1270 tw_1272 (Or.inl ⟨_, _, rfl⟩) tp_53 dX6_swaysIt_40)
  (okC (ok_aldn X rfl dX6_swaysIt_43)
  (okC (ok_ildn X rfl dX6_swaysIt_44)
  (okC (ok_calV X (i := 326) (e := en_216) rfl mt_216 rfl rfl rfl tw_1282 tw_1284 (Or.inl ⟨_, _, rfl⟩) tp_56 dX6_swaysIt_45)
  (okC (ok_istn X rfl (by decide) dX6_swaysIt_48)
  (okC (ok_ildn X rfl dX6_swaysIt_49)
  (okC (ok_aldn X rfl dX6_swaysIt_50)
  (okC (ok_aldn X rfl dX6_swaysIt_51)
  (okC (ok_get X (ci := 6) rfl (by decide) iw_X6 tw_819 dX6_swaysIt_52)
  (okC (ok_calV X (i := 320) (e := en_215) rfl mt_215 rfl rfl rfl tw_1262 tw_1264 (Or.inl ⟨_, _, rfl⟩) tp_51 dX6_swaysIt_55)
  (okC (ok_isub X dX6_swaysIt_58)
  (okN))))))))))))), ok_ret X hr dX6_swaysIt_59⟩
set_option maxRecDepth 20000 in
theorem ob_X6_swaysIt_5 {x : ip_Cx} {G : ip_Gl} {d : Nat} (X : ip_X x G tb 3 d 0 0 RX6 cX6_swaysIt) (hr : x.2.2.2.2.2.2.2.2.1.sig.returnType = (some .int)) (hnm : x.2.2.2.2.2.2.2.2.1.name = "swaysIt") : ip_okB x G 3 pc_X6_swaysIt 60 ([oLdA 0, oLdI 1, oCaV (ip_call tb d) 0 0 6 216 2 0 0], tRI .int 0 0) := ⟨_, okC (ok_aldn X rfl dX6_swaysIt_60)
  (okC (ok_ildn X rfl dX6_swaysIt_61)
  (okC (ok_calV X (i := 326) (e := en_216) rfl mt_216 rfl rfl rfl tw_1282 tw_1284 (Or.inl ⟨_, _, rfl⟩) tp_56 dX6_swaysIt_62)
  (okN))), ok_ret X hr dX6_swaysIt_65⟩
theorem om_217 : ip_MOk tb en_217 pc_X6_swaysIt := fun x G d X hr hnm => ⟨ob_X6_swaysIt_0 X hr hnm, ⟨ob_X6_swaysIt_1 X hr hnm, ⟨ob_X6_swaysIt_2 X hr hnm, ⟨ob_X6_swaysIt_3 X hr hnm, ⟨ob_X6_swaysIt_4 X hr hnm, ⟨ob_X6_swaysIt_5 X hr hnm, trivial⟩⟩⟩⟩⟩⟩
theorem dX6_plainParts_0 : decode cX6_plainParts 0 = .ok (.aload_n 0, 1) := by decide +kernel
theorem dX6_plainParts_1 : decode cX6_plainParts 1 = .ok (.bipush 12, 2) := by decide +kernel
theorem dX6_plainParts_3 : decode cX6_plainParts 3 = .ok (.invokevirtual 305, 3) := by decide +kernel
theorem dX6_plainParts_6 : decode cX6_plainParts 6 = .ok (.aload_n 0, 1) := by decide +kernel
theorem dX6_plainParts_7 : decode cX6_plainParts 7 = .ok (.getfield 323, 3) := by decide +kernel
theorem dX6_plainParts_10 : decode cX6_plainParts 10 = .ok (.aload_n 0, 1) := by decide +kernel
theorem dX6_plainParts_11 : decode cX6_plainParts 11 = .ok (.getfield 308, 3) := by decide +kernel
theorem dX6_plainParts_14 : decode cX6_plainParts 14 = .ok (.if_icmp .ne 10, 3) := by decide +kernel
theorem dX6_plainParts_17 : decode cX6_plainParts 17 = .ok (.aload_n 0, 1) := by decide +kernel
theorem dX6_plainParts_18 : decode cX6_plainParts 18 = .ok (.iconst 1, 1) := by decide +kernel
theorem dX6_plainParts_19 : decode cX6_plainParts 19 = .ok (.putfield 329, 3) := by decide +kernel
theorem dX6_plainParts_22 : decode cX6_plainParts 22 = .ok (.iconst 0, 1) := by decide +kernel
theorem dX6_plainParts_23 : decode cX6_plainParts 23 = .ok (.ireturn, 1) := by decide +kernel
theorem dX6_plainParts_24 : decode cX6_plainParts 24 = .ok (.iload_n 1, 1) := by decide +kernel
theorem dX6_plainParts_25 : decode cX6_plainParts 25 = .ok (.aload_n 0, 1) := by decide +kernel
theorem dX6_plainParts_26 : decode cX6_plainParts 26 = .ok (.getfield 323, 3) := by decide +kernel
theorem dX6_plainParts_29 : decode cX6_plainParts 29 = .ok (.aload_n 0, 1) := by decide +kernel
theorem dX6_plainParts_30 : decode cX6_plainParts 30 = .ok (.getfield 308, 3) := by decide +kernel
theorem dX6_plainParts_33 : decode cX6_plainParts 33 = .ok (.isub, 1) := by decide +kernel
theorem dX6_plainParts_34 : decode cX6_plainParts 34 = .ok (.idiv, 1) := by decide +kernel
theorem dX6_plainParts_35 : decode cX6_plainParts 35 = .ok (.ireturn, 1) := by decide +kernel
def pc_X6_plainParts (i : Nat) : Nat := ([0, 17, 24] : List Nat).getD i 0
set_option maxRecDepth 20000 in
theorem ob_X6_plainParts_0 {x : ip_Cx} {G : ip_Gl} {d : Nat} (X : ip_X x G tb 2 d 0 0 RX6 cX6_plainParts) (hr : x.2.2.2.2.2.2.2.2.1.sig.returnType = (some .int)) (hnm : x.2.2.2.2.2.2.2.2.1.name = "plainParts") : ip_okB x G 2 pc_X6_plainParts 0 ([oLdA 0, oI (12), oCaV (ip_call tb d) 0 0 6 212 2 0 0, oLdA 0, oGet 6 24, oLdA 0, oGet 6 23], tCm (fun a b => a = b) 1 2) := ⟨_, okC (ok_aldn X rfl dX6_plainParts_0)
  (okC (ok_bi X (by decide) dX6_plainParts_1)
  (okC (ok_calV X (i := 305) (e := en_212) rfl mt_212 rfl rfl rfl tw_1270 tw_1272 (Or.inl ⟨_, _, rfl⟩) tp_53 dX6_plainParts_3)
  (okC (ok_aldn X rfl dX6_plainParts_6)
  (okC (ok_get X (ci := 6) rfl (by decide) iw_X6 tw_819 dX6_plainParts_7)
  (okC (ok_aldn X rfl dX6_plainParts_10)
  (okC (ok_get X (ci := 6) rfl (by decide) iw_X6 tw_818 dX6_plainParts_11)
  (okN))))))), ok_cmne X (by decide) rfl dX6_plainParts_14⟩
set_option maxRecDepth 20000 in
theorem ob_X6_plainParts_1 {x : ip_Cx} {G : ip_Gl} {d : Nat} (X : ip_X x G tb 2 d 0 0 RX6 cX6_plainParts) (hr : x.2.2.2.2.2.2.2.2.1.sig.returnType = (some .int)) (hnm : x.2.2.2.2.2.2.2.2.1.name = "plainParts") : ip_okB x G 2 pc_X6_plainParts 17 ([oLdA 0, oI (1), oPut 6 27 .boolean, oI (0)], tRI .int 0 0) := ⟨_, okC (ok_aldn X rfl dX6_plainParts_17)
  (okC (ok_ic X (by decide) dX6_plainParts_18)
  (okC (ok_put X (ci := 6) rfl (by decide) iw_X6 tyX6_ok nmX6 rfl (Or.inl rfl) tw_822 dX6_plainParts_19)
  (okC (ok_ic X (by decide) dX6_plainParts_22)
  (okN)))), ok_ret X hr dX6_plainParts_23⟩
set_option maxRecDepth 20000 in
theorem ob_X6_plainParts_2 {x : ip_Cx} {G : ip_Gl} {d : Nat} (X : ip_X x G tb 2 d 0 0 RX6 cX6_plainParts) (hr : x.2.2.2.2.2.2.2.2.1.sig.returnType = (some .int)) (hnm : x.2.2.2.2.2.2.2.2.1.name = "plainParts") : ip_okB x G 2 pc_X6_plainParts 24 ([oLdI 1, oLdA 0, oGet 6 24, oLdA 0, oGet 6 23, oBI (fun a b => a - b), oDI (fun a b => a / b)], tRI .int 0 0) := ⟨_, okC (ok_ildn X rfl dX6_plainParts_24)
  (okC (ok_aldn X rfl dX6_plainParts_25)
  (okC (ok_get X (ci := 6) rfl (by decide) iw_X6 tw_819 dX6_plainParts_26)
  (okC (ok_aldn X rfl dX6_plainParts_29)
  (okC (ok_get X (ci := 6) rfl (by decide) iw_X6 tw_818 dX6_plainParts_30)
  (okC (ok_isub X dX6_plainParts_33)
  (okC (ok_idiv X dX6_plainParts_34)
  (okN))))))), ok_ret X hr dX6_plainParts_35⟩
theorem om_218 : ip_MOk tb en_218 pc_X6_plainParts := fun x G d X hr hnm => ⟨ob_X6_plainParts_0 X hr hnm, ⟨ob_X6_plainParts_1 X hr hnm, ⟨ob_X6_plainParts_2 X hr hnm, trivial⟩⟩⟩
theorem dX6_partsIt_0 : decode cX6_partsIt 0 = .ok (.aload_n 0, 1) := by decide +kernel
theorem dX6_partsIt_1 : decode cX6_partsIt 1 = .ok (.getfield 314, 3) := by decide +kernel
theorem dX6_partsIt_4 : decode cX6_partsIt 4 = .ok (.iconst 3, 1) := by decide +kernel
theorem dX6_partsIt_5 : decode cX6_partsIt 5 = .ok (.if_icmp .ne 22, 3) := by decide +kernel
theorem dX6_partsIt_8 : decode cX6_partsIt 8 = .ok (.aload_n 0, 1) := by decide +kernel
theorem dX6_partsIt_9 : decode cX6_partsIt 9 = .ok (.bipush 50, 2) := by decide +kernel
theorem dX6_partsIt_11 : decode cX6_partsIt 11 = .ok (.invokevirtual 305, 3) := by decide +kernel
theorem dX6_partsIt_14 : decode cX6_partsIt 14 = .ok (.aload_n 0, 1) := by decide +kernel
theorem dX6_partsIt_15 : decode cX6_partsIt 15 = .ok (.iload_n 1, 1) := by decide +kernel
theorem dX6_partsIt_16 : decode cX6_partsIt 16 = .ok (.iconst 4, 1) := by decide +kernel
theorem dX6_partsIt_17 : decode cX6_partsIt 17 = .ok (.iadd, 1) := by decide +kernel
theorem dX6_partsIt_18 : decode cX6_partsIt 18 = .ok (.invokevirtual 332, 3) := by decide +kernel
theorem dX6_partsIt_21 : decode cX6_partsIt 21 = .ok (.aload_n 0, 1) := by decide +kernel
theorem dX6_partsIt_22 : decode cX6_partsIt 22 = .ok (.getfield 308, 3) := by decide +kernel
theorem dX6_partsIt_25 : decode cX6_partsIt 25 = .ok (.isub, 1) := by decide +kernel
theorem dX6_partsIt_26 : decode cX6_partsIt 26 = .ok (.ireturn, 1) := by decide +kernel
theorem dX6_partsIt_27 : decode cX6_partsIt 27 = .ok (.aload_n 0, 1) := by decide +kernel
theorem dX6_partsIt_28 : decode cX6_partsIt 28 = .ok (.getfield 314, 3) := by decide +kernel
theorem dX6_partsIt_31 : decode cX6_partsIt 31 = .ok (.iconst 5, 1) := by decide +kernel
theorem dX6_partsIt_32 : decode cX6_partsIt 32 = .ok (.if_icmp .ne 37, 3) := by decide +kernel
theorem dX6_partsIt_35 : decode cX6_partsIt 35 = .ok (.aload_n 0, 1) := by decide +kernel
theorem dX6_partsIt_36 : decode cX6_partsIt 36 = .ok (.bipush 61, 2) := by decide +kernel
theorem dX6_partsIt_38 : decode cX6_partsIt 38 = .ok (.invokevirtual 305, 3) := by decide +kernel
theorem dX6_partsIt_41 : decode cX6_partsIt 41 = .ok (.aload_n 0, 1) := by decide +kernel
theorem dX6_partsIt_42 : decode cX6_partsIt 42 = .ok (.iload_n 1, 1) := by decide +kernel
theorem dX6_partsIt_43 : decode cX6_partsIt 43 = .ok (.invokevirtual 332, 3) := by decide +kernel
theorem dX6_partsIt_46 : decode cX6_partsIt 46 = .ok (.istore_n 2, 1) := by decide +kernel
theorem dX6_partsIt_47 : decode cX6_partsIt 47 = .ok (.aload_n 0, 1) := by decide +kernel
theorem dX6_partsIt_48 : decode cX6_partsIt 48 = .ok (.getfield 329, 3) := by decide +kernel
theorem dX6_partsIt_51 : decode cX6_partsIt 51 = .ok (.ifCond .eq 7, 3) := by decide +kernel
theorem dX6_partsIt_54 : decode cX6_partsIt 54 = .ok (.iconst 0, 1) := by decide +kernel
theorem dX6_partsIt_55 : decode cX6_partsIt 55 = .ok (.goto 13, 3) := by decide +kernel
theorem dX6_partsIt_58 : decode cX6_partsIt 58 = .ok (.iload_n 2, 1) := by decide +kernel
theorem dX6_partsIt_59 : decode cX6_partsIt 59 = .ok (.aload_n 0, 1) := by decide +kernel
theorem dX6_partsIt_60 : decode cX6_partsIt 60 = .ok (.aload_n 0, 1) := by decide +kernel
theorem dX6_partsIt_61 : decode cX6_partsIt 61 = .ok (.getfield 308, 3) := by decide +kernel
theorem dX6_partsIt_64 : decode cX6_partsIt 64 = .ok (.invokevirtual 320, 3) := by decide +kernel
theorem dX6_partsIt_67 : decode cX6_partsIt 67 = .ok (.iadd, 1) := by decide +kernel
theorem dX6_partsIt_68 : decode cX6_partsIt 68 = .ok (.ireturn, 1) := by decide +kernel
theorem dX6_partsIt_69 : decode cX6_partsIt 69 = .ok (.aload_n 0, 1) := by decide +kernel
theorem dX6_partsIt_70 : decode cX6_partsIt 70 = .ok (.iload_n 1, 1) := by decide +kernel
theorem dX6_partsIt_71 : decode cX6_partsIt 71 = .ok (.invokevirtual 332, 3) := by decide +kernel
theorem dX6_partsIt_74 : decode cX6_partsIt 74 = .ok (.ireturn, 1) := by decide +kernel
def pc_X6_partsIt (i : Nat) : Nat := ([0, 8, 27, 35, 54, 58, 68, 69] : List Nat).getD i 0
set_option maxRecDepth 20000 in
theorem ob_X6_partsIt_0 {x : ip_Cx} {G : ip_Gl} {d : Nat} (X : ip_X x G tb 3 d 0 0 RX6 cX6_partsIt) (hr : x.2.2.2.2.2.2.2.2.1.sig.returnType = (some .int)) (hnm : x.2.2.2.2.2.2.2.2.1.name = "partsIt") : ip_okB x G 3 pc_X6_partsIt 0 ([oLdA 0, oGet 6 22, oI (3)], tCm (fun a b => a = b) 1 2) := ⟨_, okC (ok_aldn X rfl dX6_partsIt_0)
  (okC (ok_get X (ci := 6) rfl (by decide) iw_X6 tw_817 dX6_partsIt_1)
  (okC (ok_ic X (by decide) dX6_partsIt_4)
  (okN))), ok_cmne X (by decide) rfl dX6_partsIt_5⟩
set_option maxRecDepth 20000 in
theorem ob_X6_partsIt_1 {x : ip_Cx} {G : ip_Gl} {d : Nat} (X : ip_X x G tb 3 d 0 0 RX6 cX6_partsIt) (hr : x.2.2.2.2.2.2.2.2.1.sig.returnType = (some .int)) (hnm : x.2.2.2.2.2.2.2.2.1.name = "partsIt") : ip_okB x G 3 pc_X6_partsIt 8 ([oLdA 0, oI (50), oCaV (ip_call tb d) 0 0 6 212 2 0 0, oLdA 0, oLdI 1, oI (4), oBI (fun a b => a + b), oCaV (ip_call tb d) 0 0 6 218 2 0 0, oLdA 0, oGet 6 23, oBI (fun a b => a - b)], tRI .int 0 0) := ⟨_, okC (ok_aldn X rfl dX6_partsIt_8)
  (okC (ok_bi X (by decide) dX6_partsIt_9)
  (okC (ok_calV X (i := 305) (e := en_212) rfl mt_212 rfl rfl rfl tw_1270 tw_1272 (Or.inl ⟨_, _, rfl⟩) tp_53 dX6_partsIt_11)
  (okC (ok_aldn X rfl dX6_partsIt_14)
  (okC (ok_ildn X rfl dX6_partsIt_15)
  (okC (ok_ic X (by decide) dX6_partsIt_16)
  (okC (ok_iadd X dX6_partsIt_17)
  (okC (ok_calV X (i := 332) (e := en_218) rfl mt_218 rfl rfl rfl tw_1290 tw_1292 (Or.inl ⟨_, _, rfl⟩) tp_58 dX6_partsIt_18)
  (okC (ok_aldn X rfl dX6_partsIt_21)
  (okC (ok_get X (ci := 6) rfl (by decide) iw_X6 tw_818 dX6_partsIt_22)
  (okC (ok_isub X dX6_partsIt_25)
  (okN))))))))))), ok_ret X hr dX6_partsIt_26⟩
set_option maxRecDepth 20000 in
theorem ob_X6_partsIt_2 {x : ip_Cx} {G : ip_Gl} {d : Nat} (X : ip_X x G tb 3 d 0 0 RX6 cX6_partsIt) (hr : x.2.2.2.2.2.2.2.2.1.sig.returnType = (some .int)) (hnm : x.2.2.2.2.2.2.2.2.1.name = "partsIt") : ip_okB x G 3 pc_X6_partsIt 27 ([oLdA 0, oGet 6 22, oI (5)], tCm (fun a b => a = b) 3 7) := ⟨_, okC (ok_aldn X rfl dX6_partsIt_27)
  (okC (ok_get X (ci := 6) rfl (by decide) iw_X6 tw_817 dX6_partsIt_28)
  (okC (ok_ic X (by decide) dX6_partsIt_31)
  (okN))), ok_cmne X (by decide) rfl dX6_partsIt_32⟩
set_option maxRecDepth 20000 in
theorem ob_X6_partsIt_3 {x : ip_Cx} {G : ip_Gl} {d : Nat} (X : ip_X x G tb 3 d 0 0 RX6 cX6_partsIt) (hr : x.2.2.2.2.2.2.2.2.1.sig.returnType = (some .int)) (hnm : x.2.2.2.2.2.2.2.2.1.name = "partsIt") : ip_okB x G 3 pc_X6_partsIt 35 ([oLdA 0, oI (61), oCaV (ip_call tb d) 0 0 6 212 2 0 0, oLdA 0, oLdI 1, oCaV (ip_call tb d) 0 0 6 218 2 0 0, oStI 2, oLdA 0, oGet 6 27], tIf (fun a => a = 0) 5 4) := ⟨_, okC (ok_aldn X rfl dX6_partsIt_35)
  (okC (ok_bi X (by decide) dX6_partsIt_36)
  (okC (ok_calV X (i := 305) (e := en_212) rfl mt_212 rfl rfl rfl tw_1270 tw_1272 (Or.inl ⟨_, _, rfl⟩) tp_53 dX6_partsIt_38)
  (okC (ok_aldn X rfl dX6_partsIt_41)
  (okC (ok_ildn X rfl dX6_partsIt_42)
  (okC (ok_calV X (i := 332) (e := en_218) rfl mt_218 rfl rfl rfl tw_1290 tw_1292 (Or.inl ⟨_, _, rfl⟩) tp_58 dX6_partsIt_43)
  (okC (ok_istn X rfl (by decide) dX6_partsIt_46)
  (okC (ok_aldn X rfl dX6_partsIt_47)
  (okC (ok_get X (ci := 6) rfl (by decide) iw_X6 tw_822 dX6_partsIt_48)
  (okN))))))))), ok_ifeq X (by decide) rfl dX6_partsIt_51⟩
set_option maxRecDepth 20000 in
theorem ob_X6_partsIt_4 {x : ip_Cx} {G : ip_Gl} {d : Nat} (X : ip_X x G tb 3 d 0 0 RX6 cX6_partsIt) (hr : x.2.2.2.2.2.2.2.2.1.sig.returnType = (some .int)) (hnm : x.2.2.2.2.2.2.2.2.1.name = "partsIt") : ip_okB x G 3 pc_X6_partsIt 54 ([oI (0)], tGo 6) := ⟨_, okC (ok_ic X (by decide) dX6_partsIt_54)
  (okN), ok_go X (by decide) dX6_partsIt_55⟩
set_option maxRecDepth 20000 in
theorem ob_X6_partsIt_5 {x : ip_Cx} {G : ip_Gl} {d : Nat} (X : ip_X x G tb 3 d 0 0 RX6 cX6_partsIt) (hr : x.2.2.2.2.2.2.2.2.1.sig.returnType = (some .int)) (hnm : x.2.2.2.2.2.2.2.2.1.name = "partsIt") : ip_okB x G 3 pc_X6_partsIt 58 ([oLdI 2, oLdA 0, oLdA 0, oGet 6 23, oCaV (ip_call tb d) 0 0 6 215 2 0 0, oBI (fun a b => a + b)], tGo 6) := ⟨_, okC (ok_ildn X rfl dX6_partsIt_58)
  (okC (ok_aldn X rfl dX6_partsIt_59)
  (okC (ok_aldn X rfl dX6_partsIt_60)
  (okC (ok_get X (ci := 6) rfl (by decide) iw_X6 tw_818 dX6_partsIt_61)
  (okC (ok_calV X (i := 320) (e := en_215) rfl mt_215 rfl rfl rfl tw_1262 tw_1264 (Or.inl ⟨_, _, rfl⟩) tp_51 dX6_partsIt_64)
  (okC (ok_iadd X dX6_partsIt_67)
  (okN)))))), ok_fall rfl⟩
set_option maxRecDepth 20000 in
theorem ob_X6_partsIt_6 {x : ip_Cx} {G : ip_Gl} {d : Nat} (X : ip_X x G tb 3 d 0 0 RX6 cX6_partsIt) (hr : x.2.2.2.2.2.2.2.2.1.sig.returnType = (some .int)) (hnm : x.2.2.2.2.2.2.2.2.1.name = "partsIt") : ip_okB x G 3 pc_X6_partsIt 68 ([], tRI .int 0 0) := ⟨_, okN, ok_ret X hr dX6_partsIt_68⟩
set_option maxRecDepth 20000 in
theorem ob_X6_partsIt_7 {x : ip_Cx} {G : ip_Gl} {d : Nat} (X : ip_X x G tb 3 d 0 0 RX6 cX6_partsIt) (hr : x.2.2.2.2.2.2.2.2.1.sig.returnType = (some .int)) (hnm : x.2.2.2.2.2.2.2.2.1.name = "partsIt") : ip_okB x G 3 pc_X6_partsIt 69 ([oLdA 0, oLdI 1, oCaV (ip_call tb d) 0 0 6 218 2 0 0], tRI .int 0 0) := ⟨_, okC (ok_aldn X rfl dX6_partsIt_69)
  (okC (ok_ildn X rfl dX6_partsIt_70)
  (okC (ok_calV X (i := 332) (e := en_218) rfl mt_218 rfl rfl rfl tw_1290 tw_1292 (Or.inl ⟨_, _, rfl⟩) tp_58 dX6_partsIt_71)
  (okN))), ok_ret X hr dX6_partsIt_74⟩
theorem om_219 : ip_MOk tb en_219 pc_X6_partsIt := fun x G d X hr hnm => ⟨ob_X6_partsIt_0 X hr hnm, ⟨ob_X6_partsIt_1 X hr hnm, ⟨ob_X6_partsIt_2 X hr hnm, ⟨ob_X6_partsIt_3 X hr hnm, ⟨ob_X6_partsIt_4 X hr hnm, ⟨ob_X6_partsIt_5 X hr hnm, ⟨ob_X6_partsIt_6 X hr hnm, ⟨ob_X6_partsIt_7 X hr hnm, trivial⟩⟩⟩⟩⟩⟩⟩⟩
theorem dX6_plainTreads_0 : decode cX6_plainTreads 0 = .ok (.aload_n 0, 1) := by decide +kernel
theorem dX6_plainTreads_1 : decode cX6_plainTreads 1 = .ok (.bipush 13, 2) := by decide +kernel
theorem dX6_plainTreads_3 : decode cX6_plainTreads 3 = .ok (.invokevirtual 305, 3) := by decide +kernel
theorem dX6_plainTreads_6 : decode cX6_plainTreads 6 = .ok (.aload_n 0, 1) := by decide +kernel
theorem dX6_plainTreads_7 : decode cX6_plainTreads 7 = .ok (.iload_n 1, 1) := by decide +kernel
theorem dX6_plainTreads_8 : decode cX6_plainTreads 8 = .ok (.invokevirtual 335, 3) := by decide +kernel
theorem dX6_plainTreads_11 : decode cX6_plainTreads 11 = .ok (.bipush 110, 2) := by decide +kernel
theorem dX6_plainTreads_13 : decode cX6_plainTreads 13 = .ok (.ixor, 1) := by decide +kernel
theorem dX6_plainTreads_14 : decode cX6_plainTreads 14 = .ok (.ireturn, 1) := by decide +kernel
def pc_X6_plainTreads (i : Nat) : Nat := ([0] : List Nat).getD i 0
set_option maxRecDepth 20000 in
theorem ob_X6_plainTreads_0 {x : ip_Cx} {G : ip_Gl} {d : Nat} (X : ip_X x G tb 2 d 0 0 RX6 cX6_plainTreads) (hr : x.2.2.2.2.2.2.2.2.1.sig.returnType = (some .int)) (hnm : x.2.2.2.2.2.2.2.2.1.name = "plainTreads") : ip_okB x G 2 pc_X6_plainTreads 0 ([oLdA 0, oI (13), oCaV (ip_call tb d) 0 0 6 212 2 0 0, oLdA 0, oLdI 1, oCaV (ip_call tb d) 0 0 6 217 2 0 0, oI (110), oBI (fun a b => a ^^^ b)], tRI .int 0 0) := ⟨_, okC (ok_aldn X rfl dX6_plainTreads_0)
  (okC (ok_bi X (by decide) dX6_plainTreads_1)
  (okC (ok_calV X (i := 305) (e := en_212) rfl mt_212 rfl rfl rfl tw_1270 tw_1272 (Or.inl ⟨_, _, rfl⟩) tp_53 dX6_plainTreads_3)
  (okC (ok_aldn X rfl dX6_plainTreads_6)
  (okC (ok_ildn X rfl dX6_plainTreads_7)
  (okC (ok_calV X (i := 335) (e := en_217) rfl mt_217 rfl rfl rfl tw_1278 tw_1280 (Or.inl ⟨_, _, rfl⟩) tp_55 dX6_plainTreads_8)
  (okC (ok_bi X (by decide) dX6_plainTreads_11)
  (okC (ok_ixor X dX6_plainTreads_13)
  (okN)))))))), ok_ret X hr dX6_plainTreads_14⟩
theorem om_220 : ip_MOk tb en_220 pc_X6_plainTreads := fun x G d X hr hnm => ⟨ob_X6_plainTreads_0 X hr hnm, trivial⟩
theorem dX6_treadsIt_0 : decode cX6_treadsIt 0 = .ok (.aload_n 0, 1) := by decide +kernel
theorem dX6_treadsIt_1 : decode cX6_treadsIt 1 = .ok (.getfield 314, 3) := by decide +kernel
theorem dX6_treadsIt_4 : decode cX6_treadsIt 4 = .ok (.iconst 2, 1) := by decide +kernel
theorem dX6_treadsIt_5 : decode cX6_treadsIt 5 = .ok (.if_icmp .eq 11, 3) := by decide +kernel
theorem dX6_treadsIt_8 : decode cX6_treadsIt 8 = .ok (.aload_n 0, 1) := by decide +kernel
theorem dX6_treadsIt_9 : decode cX6_treadsIt 9 = .ok (.getfield 314, 3) := by decide +kernel
theorem dX6_treadsIt_12 : decode cX6_treadsIt 12 = .ok (.iconst 4, 1) := by decide +kernel
theorem dX6_treadsIt_13 : decode cX6_treadsIt 13 = .ok (.if_icmp .ne 26, 3) := by decide +kernel
theorem dX6_treadsIt_16 : decode cX6_treadsIt 16 = .ok (.aload_n 0, 1) := by decide +kernel
theorem dX6_treadsIt_17 : decode cX6_treadsIt 17 = .ok (.bipush 31, 2) := by decide +kernel
theorem dX6_treadsIt_19 : decode cX6_treadsIt 19 = .ok (.invokevirtual 305, 3) := by decide +kernel
theorem dX6_treadsIt_22 : decode cX6_treadsIt 22 = .ok (.aload_n 0, 1) := by decide +kernel
theorem dX6_treadsIt_23 : decode cX6_treadsIt 23 = .ok (.iload_n 1, 1) := by decide +kernel
theorem dX6_treadsIt_24 : decode cX6_treadsIt 24 = .ok (.invokevirtual 338, 3) := by decide +kernel
theorem dX6_treadsIt_27 : decode cX6_treadsIt 27 = .ok (.istore_n 2, 1) := by decide +kernel
theorem dX6_treadsIt_28 : decode cX6_treadsIt 28 = .ok (.iload_n 2, 1) := by decide +kernel
theorem dX6_treadsIt_29 : decode cX6_treadsIt 29 = .ok (.aload_n 0, 1) := by decide +kernel
theorem dX6_treadsIt_30 : decode cX6_treadsIt 30 = .ok (.aload_n 0, 1) := by decide +kernel
theorem dX6_treadsIt_31 : decode cX6_treadsIt 31 = .ok (.getfield 308, 3) := by decide +kernel
theorem dX6_treadsIt_34 : decode cX6_treadsIt 34 = .ok (.invokevirtual 341, 3) := by decide +kernel
theorem dX6_treadsIt_37 : decode cX6_treadsIt 37 = .ok (.isub, 1) := by decide +kernel
theorem dX6_treadsIt_38 : decode cX6_treadsIt 38 = .ok (.ireturn, 1) := by decide +kernel
theorem dX6_treadsIt_39 : decode cX6_treadsIt 39 = .ok (.aload_n 0, 1) := by decide +kernel
theorem dX6_treadsIt_40 : decode cX6_treadsIt 40 = .ok (.getfield 314, 3) := by decide +kernel
theorem dX6_treadsIt_43 : decode cX6_treadsIt 43 = .ok (.iconst 5, 1) := by decide +kernel
theorem dX6_treadsIt_44 : decode cX6_treadsIt 44 = .ok (.if_icmp .ne 17, 3) := by decide +kernel
theorem dX6_treadsIt_47 : decode cX6_treadsIt 47 = .ok (.aload_n 0, 1) := by decide +kernel
theorem dX6_treadsIt_48 : decode cX6_treadsIt 48 = .ok (.bipush 60, 2) := by decide +kernel
theorem dX6_treadsIt_50 : decode cX6_treadsIt 50 = .ok (.invokevirtual 305, 3) := by decide +kernel
theorem dX6_treadsIt_53 : decode cX6_treadsIt 53 = .ok (.aload_n 0, 1) := by decide +kernel
theorem dX6_treadsIt_54 : decode cX6_treadsIt 54 = .ok (.iload_n 1, 1) := by decide +kernel
theorem dX6_treadsIt_55 : decode cX6_treadsIt 55 = .ok (.invokevirtual 338, 3) := by decide +kernel
theorem dX6_treadsIt_58 : decode cX6_treadsIt 58 = .ok (.iconst 4, 1) := by decide +kernel
theorem dX6_treadsIt_59 : decode cX6_treadsIt 59 = .ok (.imul, 1) := by decide +kernel
theorem dX6_treadsIt_60 : decode cX6_treadsIt 60 = .ok (.ireturn, 1) := by decide +kernel
theorem dX6_treadsIt_61 : decode cX6_treadsIt 61 = .ok (.aload_n 0, 1) := by decide +kernel
theorem dX6_treadsIt_62 : decode cX6_treadsIt 62 = .ok (.iload_n 1, 1) := by decide +kernel
theorem dX6_treadsIt_63 : decode cX6_treadsIt 63 = .ok (.invokevirtual 338, 3) := by decide +kernel
theorem dX6_treadsIt_66 : decode cX6_treadsIt 66 = .ok (.ireturn, 1) := by decide +kernel
def pc_X6_treadsIt (i : Nat) : Nat := ([0, 8, 16, 39, 47, 61] : List Nat).getD i 0
set_option maxRecDepth 20000 in
theorem ob_X6_treadsIt_0 {x : ip_Cx} {G : ip_Gl} {d : Nat} (X : ip_X x G tb 3 d 0 0 RX6 cX6_treadsIt) (hr : x.2.2.2.2.2.2.2.2.1.sig.returnType = (some .int)) (hnm : x.2.2.2.2.2.2.2.2.1.name = "treadsIt") : ip_okB x G 3 pc_X6_treadsIt 0 ([oLdA 0, oGet 6 22, oI (2)], tCm (fun a b => a = b) 2 1) := ⟨_, okC (ok_aldn X rfl dX6_treadsIt_0)
  (okC (ok_get X (ci := 6) rfl (by decide) iw_X6 tw_817 dX6_treadsIt_1)
  (okC (ok_ic X (by decide) dX6_treadsIt_4)
  (okN))), ok_cmeq X (by decide) rfl dX6_treadsIt_5⟩
set_option maxRecDepth 20000 in
theorem ob_X6_treadsIt_1 {x : ip_Cx} {G : ip_Gl} {d : Nat} (X : ip_X x G tb 3 d 0 0 RX6 cX6_treadsIt) (hr : x.2.2.2.2.2.2.2.2.1.sig.returnType = (some .int)) (hnm : x.2.2.2.2.2.2.2.2.1.name = "treadsIt") : ip_okB x G 3 pc_X6_treadsIt 8 ([oLdA 0, oGet 6 22, oI (4)], tCm (fun a b => a = b) 2 3) := ⟨_, okC (ok_aldn X rfl dX6_treadsIt_8)
  (okC (ok_get X (ci := 6) rfl (by decide) iw_X6 tw_817 dX6_treadsIt_9)
  (okC (ok_ic X (by decide) dX6_treadsIt_12)
  (okN))), ok_cmne X (by decide) rfl dX6_treadsIt_13⟩
set_option maxRecDepth 20000 in
theorem ob_X6_treadsIt_2 {x : ip_Cx} {G : ip_Gl} {d : Nat} (X : ip_X x G tb 3 d 0 0 RX6 cX6_treadsIt) (hr : x.2.2.2.2.2.2.2.2.1.sig.returnType = (some .int)) (hnm : x.2.2.2.2.2.2.2.2.1.name = "treadsIt") : ip_okB x G 3 pc_X6_treadsIt 16 ([oLdA 0, oI (31), oCaV (ip_call tb d) 0 0 6 212 2 0 0, oLdA 0, oLdI 1, oCaV (ip_call tb d) 0 0 6 220 2 0 0, oStI 2, oLdI 2, oLdA 0, oLdA 0, oGet 6 23, oCaV (ip_call tb d) 0 0 6 219 2 0 0, oBI (fun a b => a - b)], tRI .int 0 0) := ⟨_, okC (ok_aldn X rfl dX6_treadsIt_16)
  (okC (ok_bi X (by decide) dX6_treadsIt_17)
  (okC (ok_calV X (i := 305) (e := en_212) rfl mt_212 rfl rfl rfl tw_1270 tw_1272 (Or.inl ⟨_, _, rfl⟩) tp_53 dX6_treadsIt_19)
  (okC (ok_aldn X rfl dX6_treadsIt_22)
  (okC (ok_ildn X rfl dX6_treadsIt_23)
  (okC (ok_calV X (i := 338) (e := en_220) rfl mt_220 rfl rfl rfl tw_1298 tw_1300 (Or.inl ⟨_, _, rfl⟩) tp_60 dX6_treadsIt_24)
  (okC (ok_istn X rfl (by decide) dX6_treadsIt_27)
  (okC (ok_ildn X rfl dX6_treadsIt_28)
  (okC (ok_aldn X rfl dX6_treadsIt_29)
  (okC (ok_aldn X rfl dX6_treadsIt_30)
  (okC (ok_get X (ci := 6) rfl (by decide) iw_X6 tw_818 dX6_treadsIt_31)
  (okC (ok_calV X (i := 341) (e := en_219) rfl mt_219 rfl rfl rfl tw_1286 tw_1288 (Or.inl ⟨_, _, rfl⟩) tp_57 dX6_treadsIt_34)
  (okC (ok_isub X dX6_treadsIt_37)
  (okN))))))))))))), ok_ret X hr dX6_treadsIt_38⟩
set_option maxRecDepth 20000 in
theorem ob_X6_treadsIt_3 {x : ip_Cx} {G : ip_Gl} {d : Nat} (X : ip_X x G tb 3 d 0 0 RX6 cX6_treadsIt) (hr : x.2.2.2.2.2.2.2.2.1.sig.returnType = (some .int)) (hnm : x.2.2.2.2.2.2.2.2.1.name = "treadsIt") : ip_okB x G 3 pc_X6_treadsIt 39 ([oLdA 0, oGet 6 22, oI (5)], tCm (fun a b => a = b) 4 5) := ⟨_, okC (ok_aldn X rfl dX6_treadsIt_39)
  (okC (ok_get X (ci := 6) rfl (by decide) iw_X6 tw_817 dX6_treadsIt_40)
  (okC (ok_ic X (by decide) dX6_treadsIt_43)
  (okN))), ok_cmne X (by decide) rfl dX6_treadsIt_44⟩
set_option maxRecDepth 20000 in
theorem ob_X6_treadsIt_4 {x : ip_Cx} {G : ip_Gl} {d : Nat} (X : ip_X x G tb 3 d 0 0 RX6 cX6_treadsIt) (hr : x.2.2.2.2.2.2.2.2.1.sig.returnType = (some .int)) (hnm : x.2.2.2.2.2.2.2.2.1.name = "treadsIt") : ip_okB x G 3 pc_X6_treadsIt 47 ([oLdA 0, oI (60), oCaV (ip_call tb d) 0 0 6 212 2 0 0, oLdA 0, oLdI 1, oCaV (ip_call tb d) 0 0 6 220 2 0 0, oI (4), oBI (fun a b => a * b)], tRI .int 0 0) := ⟨_, okC (ok_aldn X rfl dX6_treadsIt_47)
  (okC (ok_bi X (by decide) dX6_treadsIt_48)
  (okC (ok_calV X (i := 305) (e := en_212) rfl mt_212 rfl rfl rfl tw_1270 tw_1272 (Or.inl ⟨_, _, rfl⟩) tp_53 dX6_treadsIt_50)
  (okC (ok_aldn X rfl dX6_treadsIt_53)
  (okC (ok_ildn X rfl dX6_treadsIt_54)
  (okC (ok_calV X (i := 338) (e := en_220) rfl mt_220 rfl rfl rfl tw_1298 tw_1300 (Or.inl ⟨_, _, rfl⟩) tp_60 dX6_treadsIt_55)
  (okC (ok_ic X (by decide) dX6_treadsIt_58)
  (okC (ok_imul X dX6_treadsIt_59)
  (okN)))))))), ok_ret X hr dX6_treadsIt_60⟩
set_option maxRecDepth 20000 in
theorem ob_X6_treadsIt_5 {x : ip_Cx} {G : ip_Gl} {d : Nat} (X : ip_X x G tb 3 d 0 0 RX6 cX6_treadsIt) (hr : x.2.2.2.2.2.2.2.2.1.sig.returnType = (some .int)) (hnm : x.2.2.2.2.2.2.2.2.1.name = "treadsIt") : ip_okB x G 3 pc_X6_treadsIt 61 ([oLdA 0, oLdI 1, oCaV (ip_call tb d) 0 0 6 220 2 0 0], tRI .int 0 0) := ⟨_, okC (ok_aldn X rfl dX6_treadsIt_61)
  (okC (ok_ildn X rfl dX6_treadsIt_62)
  (okC (ok_calV X (i := 338) (e := en_220) rfl mt_220 rfl rfl rfl tw_1298 tw_1300 (Or.inl ⟨_, _, rfl⟩) tp_60 dX6_treadsIt_63)
  (okN))), ok_ret X hr dX6_treadsIt_66⟩
theorem om_221 : ip_MOk tb en_221 pc_X6_treadsIt := fun x G d X hr hnm => ⟨ob_X6_treadsIt_0 X hr hnm, ⟨ob_X6_treadsIt_1 X hr hnm, ⟨ob_X6_treadsIt_2 X hr hnm, ⟨ob_X6_treadsIt_3 X hr hnm, ⟨ob_X6_treadsIt_4 X hr hnm, ⟨ob_X6_treadsIt_5 X hr hnm, trivial⟩⟩⟩⟩⟩⟩
theorem dX6_act_0 : decode cX6_act 0 = .ok (.aload_n 0, 1) := by decide +kernel
theorem dX6_act_1 : decode cX6_act 1 = .ok (.iconst 0, 1) := by decide +kernel
theorem dX6_act_2 : decode cX6_act 2 = .ok (.putfield 302, 3) := by decide +kernel
theorem dX6_act_5 : decode cX6_act 5 = .ok (.iload_n 1, 1) := by decide +kernel
theorem dX6_act_6 : decode cX6_act 6 = .ok (.invokestatic 267, 3) := by decide +kernel
theorem dX6_act_9 : decode cX6_act 9 = .ok (.ifCond .eq 11, 3) := by decide +kernel
theorem dX6_act_12 : decode cX6_act 12 = .ok (.aload_n 0, 1) := by decide +kernel
theorem dX6_act_13 : decode cX6_act 13 = .ok (.iload_n 1, 1) := by decide +kernel
theorem dX6_act_14 : decode cX6_act 14 = .ok (.invokevirtual 296, 3) := by decide +kernel
theorem dX6_act_17 : decode cX6_act 17 = .ok (.goto 4, 3) := by decide +kernel
theorem dX6_act_20 : decode cX6_act 20 = .ok (.iconst (-1), 1) := by decide +kernel
theorem dX6_act_21 : decode cX6_act 21 = .ok (.istore 4, 2) := by decide +kernel
theorem dX6_act_23 : decode cX6_act 23 = .ok (.iload_n 2, 1) := by decide +kernel
theorem dX6_act_24 : decode cX6_act 24 = .ok (.iconst 0, 1) := by decide +kernel
theorem dX6_act_25 : decode cX6_act 25 = .ok (.iconst 3, 1) := by decide +kernel
theorem dX6_act_26 : decode cX6_act 26 = .ok (.invokestatic 57, 3) := by decide +kernel
theorem dX6_act_29 : decode cX6_act 29 = .ok (.ifCond .eq 13, 3) := by decide +kernel
theorem dX6_act_32 : decode cX6_act 32 = .ok (.iload 4, 2) := by decide +kernel
theorem dX6_act_34 : decode cX6_act 34 = .ok (.iconst 0, 1) := by decide +kernel
theorem dX6_act_35 : decode cX6_act 35 = .ok (.iconst 5, 1) := by decide +kernel
theorem dX6_act_36 : decode cX6_act 36 = .ok (.invokestatic 57, 3) := by decide +kernel
theorem dX6_act_39 : decode cX6_act 39 = .ok (.ifCond .ne 5, 3) := by decide +kernel
theorem dX6_act_42 : decode cX6_act 42 = .ok (.iconst 0, 1) := by decide +kernel
theorem dX6_act_43 : decode cX6_act 43 = .ok (.ireturn, 1) := by decide +kernel
theorem dX6_act_44 : decode cX6_act 44 = .ok (.aload_n 0, 1) := by decide +kernel
theorem dX6_act_45 : decode cX6_act 45 = .ok (.iload 4, 2) := by decide +kernel
theorem dX6_act_47 : decode cX6_act 47 = .ok (.putfield 314, 3) := by decide +kernel
theorem dX6_act_50 : decode cX6_act 50 = .ok (.aload_n 0, 1) := by decide +kernel
theorem dX6_act_51 : decode cX6_act 51 = .ok (.aload_n 0, 1) := by decide +kernel
theorem dX6_act_52 : decode cX6_act 52 = .ok (.getfield 44, 3) := by decide +kernel
theorem dX6_act_55 : decode cX6_act 55 = .ok (.iload_n 1, 1) := by decide +kernel
theorem dX6_act_56 : decode cX6_act 56 = .ok (.iaload, 1) := by decide +kernel
theorem dX6_act_57 : decode cX6_act 57 = .ok (.putfield 308, 3) := by decide +kernel
theorem dX6_act_60 : decode cX6_act 60 = .ok (.aload_n 0, 1) := by decide +kernel
theorem dX6_act_61 : decode cX6_act 61 = .ok (.aload_n 0, 1) := by decide +kernel
theorem dX6_act_62 : decode cX6_act 62 = .ok (.aload_n 0, 1) := by decide +kernel
theorem dX6_act_63 : decode cX6_act 63 = .ok (.getfield 308, 3) := by decide +kernel
theorem dX6_act_66 : decode cX6_act 66 = .ok (.iconst 2, 1) := by decide +kernel
theorem dX6_act_67 : decode cX6_act 67 = .ok (.invokevirtual 195, 3) := by decide +kernel
theorem dX6_act_70 : decode cX6_act 70 = .ok (.putfield 323, 3) := by decide +kernel
theorem dX6_act_73 : decode cX6_act 73 = .ok (.aload_n 0, 1) := by decide +kernel
theorem dX6_act_74 : decode cX6_act 74 = .ok (.iconst 0, 1) := by decide +kernel
theorem dX6_act_75 : decode cX6_act 75 = .ok (.putfield 329, 3) := by decide +kernel
theorem dX6_act_78 : decode cX6_act 78 = .ok (.iload_n 2, 1) := by decide +kernel
theorem dX6_act_79 : decode cX6_act 79 = .ok (.ifCond .ne 11, 3) := by decide +kernel
theorem dX6_act_82 : decode cX6_act 82 = .ok (.aload_n 0, 1) := by decide +kernel
theorem dX6_act_83 : decode cX6_act 83 = .ok (.iload_n 3, 1) := by decide +kernel
theorem dX6_act_84 : decode cX6_act 84 = .ok (.invokevirtual 320, 3) := by decide +kernel
theorem dX6_act_87 : decode cX6_act 87 = .ok (.goto 34, 3) := by decide +kernel
theorem dX6_act_90 : decode cX6_act 90 = .ok (.iload_n 2, 1) := by decide +kernel
theorem dX6_act_91 : decode cX6_act 91 = .ok (.iconst 1, 1) := by decide +kernel
theorem dX6_act_92 : decode cX6_act 92 = .ok (.if_icmp .ne 11, 3) := by decide +kernel
theorem dX6_act_95 : decode cX6_act 95 = .ok (.aload_n 0, 1) := by decide +kernel
theorem dX6_act_96 : decode cX6_act 96 = .ok (.iload_n 3, 1) := by decide +kernel
theorem dX6_act_97 : decode cX6_act 97 = .ok (.invokevirtual 335, 3) := by decide +kernel
theorem dX6_act_100 : decode cX6_act 100 = .ok (.goto 21, 3) := by decide +kernel
theorem dX6_act_103 : decode cX6_act 103 = .ok (.iload_n 2, 1) := by decide +kernel
theorem dX6_act_104 : decode cX6_act 104 = .ok (.iconst 2, 1) := by decide +kernel
theorem dX6_act_105 : decode cX6_act 105 = .ok (.if_icmp .ne 11, 3) := by decide +kernel
theorem dX6_act_108 : decode cX6_act 108 = .ok (.aload_n 0, 1) := by decide +kernel
theorem dX6_act_109 : decode cX6_act 109 = .ok (.iload_n 3, 1) := by decide +kernel
theorem dX6_act_110 : decode cX6_act 110 = .ok (.invokevirtual 341, 3) := by decide +kernel
theorem dX6_act_113 : decode cX6_act 113 = .ok (.goto 8, 3) := by decide +kernel
theorem dX6_act_116 : decode cX6_act 116 = .ok (.aload_n 0, 1) := by decide +kernel
theorem dX6_act_117 : decode cX6_act 117 = .ok (.iload_n 3, 1) := by decide +kernel
theorem dX6_act_118 : decode cX6_act 118 = .ok (.invokevirtual 344, 3) := by decide +kernel
theorem dX6_act_121 : decode cX6_act 121 = .ok (.istore 5, 2) := by decide +kernel
theorem dX6_act_123 : decode cX6_act 123 = .ok (.aload_n 0, 1) := by decide +kernel
theorem dX6_act_124 : decode cX6_act 124 = .ok (.getfield 329, 3) := by decide +kernel
theorem dX6_act_127 : decode cX6_act 127 = .ok (.ifCond .eq 8, 3) := by decide +kernel
theorem dX6_act_130 : decode cX6_act 130 = .ok (.bipush (-15), 2) := by decide +kernel
theorem dX6_act_132 : decode cX6_act 132 = .ok (.goto 5, 3) := by decide +kernel
theorem dX6_act_135 : decode cX6_act 135 = .ok (.iload 5, 2) := by decide +kernel
theorem dX6_act_137 : decode cX6_act 137 = .ok (.ireturn, 1) := by decide +kernel
def pc_X6_act (i : Nat) : Nat := ([0, 12, 20, 21, 32, 42, 44, 82, 90, 95, 103, 108, 116, 121, 130, 135, 137] : List Nat).getD i 0
set_option maxRecDepth 20000 in
theorem ob_X6_act_0 {x : ip_Cx} {G : ip_Gl} {d : Nat} (X : ip_X x G tb 6 d 0 0 RX6 cX6_act) (hr : x.2.2.2.2.2.2.2.2.1.sig.returnType = (some .int)) (hnm : x.2.2.2.2.2.2.2.2.1.name = "act") : ip_okB x G 6 pc_X6_act 0 ([oLdA 0, oI (0), oPut 6 26 .int, oLdI 1, oCal (ip_call tb d) 0 0 202 1 0 0], tIf (fun a => a = 0) 2 1) := ⟨_, okC (ok_aldn X rfl dX6_act_0)
  (okC (ok_ic X (by decide) dX6_act_1)
  (okC (ok_put X (ci := 6) rfl (by decide) iw_X6 tyX6_ok nmX6 rfl (Or.inl rfl) tw_821 dX6_act_2)
  (okC (ok_ildn X rfl dX6_act_5)
  (okC (ok_calS X (i := 267) (e := en_202) rfl mt_202 rfl rfl rfl tw_1173 tw_1174 dX6_act_6)
  (okN))))), ok_ifeq X (by decide) rfl dX6_act_9⟩
set_option maxRecDepth 20000 in
theorem ob_X6_act_1 {x : ip_Cx} {G : ip_Gl} {d : Nat} (X : ip_X x G tb 6 d 0 0 RX6 cX6_act) (hr : x.2.2.2.2.2.2.2.2.1.sig.returnType = (some .int)) (hnm : x.2.2.2.2.2.2.2.2.1.name = "act") : ip_okB x G 6 pc_X6_act 12 ([oLdA 0, oLdI 1, oCaV (ip_call tb d) 0 0 6 209 2 0 0], tGo 3) := ⟨_, okC (ok_aldn X rfl dX6_act_12)
  (okC (ok_ildn X rfl dX6_act_13)
  (okC (ok_calV X (i := 296) (e := en_209) rfl mt_209 rfl rfl rfl tw_1251 tw_1253 (Or.inl ⟨_, _, rfl⟩) tp_50 dX6_act_14)
  (okN))), ok_go X (by decide) dX6_act_17⟩
set_option maxRecDepth 20000 in
theorem ob_X6_act_2 {x : ip_Cx} {G : ip_Gl} {d : Nat} (X : ip_X x G tb 6 d 0 0 RX6 cX6_act) (hr : x.2.2.2.2.2.2.2.2.1.sig.returnType = (some .int)) (hnm : x.2.2.2.2.2.2.2.2.1.name = "act") : ip_okB x G 6 pc_X6_act 20 ([oI (-1)], tGo 3) := ⟨_, okC (ok_ic X (by decide) dX6_act_20)
  (okN), ok_fall rfl⟩
set_option maxRecDepth 20000 in
theorem ob_X6_act_3 {x : ip_Cx} {G : ip_Gl} {d : Nat} (X : ip_X x G tb 6 d 0 0 RX6 cX6_act) (hr : x.2.2.2.2.2.2.2.2.1.sig.returnType = (some .int)) (hnm : x.2.2.2.2.2.2.2.2.1.name = "act") : ip_okB x G 6 pc_X6_act 21 ([oStI 4, oLdI 2, oI (0), oI (3), oCal (ip_call tb d) 0 0 120 3 0 0], tIf (fun a => a = 0) 5 4) := ⟨_, okC (ok_ist X (by decide) dX6_act_21)
  (okC (ok_ildn X rfl dX6_act_23)
  (okC (ok_ic X (by decide) dX6_act_24)
  (okC (ok_ic X (by decide) dX6_act_25)
  (okC (ok_calS X (i := 57) (e := en_120) rfl mt_120 rfl rfl rfl tw_885 tw_886 dX6_act_26)
  (okN))))), ok_ifeq X (by decide) rfl dX6_act_29⟩
set_option maxRecDepth 20000 in
theorem ob_X6_act_4 {x : ip_Cx} {G : ip_Gl} {d : Nat} (X : ip_X x G tb 6 d 0 0 RX6 cX6_act) (hr : x.2.2.2.2.2.2.2.2.1.sig.returnType = (some .int)) (hnm : x.2.2.2.2.2.2.2.2.1.name = "act") : ip_okB x G 6 pc_X6_act 32 ([oLdI 4, oI (0), oI (5), oCal (ip_call tb d) 0 0 120 3 0 0], tIf (fun a => a = 0) 5 6) := ⟨_, okC (ok_ild X dX6_act_32)
  (okC (ok_ic X (by decide) dX6_act_34)
  (okC (ok_ic X (by decide) dX6_act_35)
  (okC (ok_calS X (i := 57) (e := en_120) rfl mt_120 rfl rfl rfl tw_885 tw_886 dX6_act_36)
  (okN)))), ok_ifne X (by decide) rfl dX6_act_39⟩
set_option maxRecDepth 20000 in
theorem ob_X6_act_5 {x : ip_Cx} {G : ip_Gl} {d : Nat} (X : ip_X x G tb 6 d 0 0 RX6 cX6_act) (hr : x.2.2.2.2.2.2.2.2.1.sig.returnType = (some .int)) (hnm : x.2.2.2.2.2.2.2.2.1.name = "act") : ip_okB x G 6 pc_X6_act 42 ([oI (0)], tRI .int 0 0) := ⟨_, okC (ok_ic X (by decide) dX6_act_42)
  (okN), ok_ret X hr dX6_act_43⟩
set_option maxRecDepth 20000 in
theorem ob_X6_act_6 {x : ip_Cx} {G : ip_Gl} {d : Nat} (X : ip_X x G tb 6 d 0 0 RX6 cX6_act) (hr : x.2.2.2.2.2.2.2.2.1.sig.returnType = (some .int)) (hnm : x.2.2.2.2.2.2.2.2.1.name = "act") : ip_okB x G 6 pc_X6_act 44 ([oLdA 0, oLdI 4, oPut 6 22 .int, oLdA 0, oLdA 0, oGet 6 20, oLdI 1, oAldI, oPut 6 23 .int, oLdA 0, oLdA 0, oLdA 0, oGet 6 23, oI (2), oCaV (ip_call tb d) 0 0 6 124 3 0 0, oPut 6 24 .int, oLdA 0, oI (0), oPut 6 27 .boolean, oLdI 2], tIf (fun a => a = 0) 7 8) := ⟨_, okC (ok_aldn X rfl dX6_act_44)
  (okC (ok_ild X dX6_act_45)
  (okC (ok_put X (ci := 6) rfl (by decide) iw_X6 tyX6_ok nmX6 rfl (Or.inl rfl) tw_817 dX6_act_47)
  (okC (ok_aldn X rfl dX6_act_50)
  (okC (ok_aldn X rfl dX6_act_51)
  (okC (ok_get X (ci := 6) rfl (by decide) iw_X6 tw_815 dX6_act_52)
  (okC (ok_ildn X rfl dX6_act_55)
  (okC (ok_iald X dX6_act_56)
  (okC (ok_put X (ci := 6) rfl (by decide) iw_X6 tyX6_ok nmX6 rfl (Or.inl rfl) tw_818 dX6_act_57)
  (okC (ok_aldn X rfl dX6_act_60)
  (okC (ok_aldn X rfl dX6_act_61)
  (okC (ok_aldn X rfl dX6_act_62)
  (okC (ok_get X (ci := 6) rfl (by decide) iw_X6 tw_818 dX6_act_63)
  (okC (ok_ic X (by decide) dX6_act_66)
  (okC (ok_calV X (i := 195) (e := en_124) rfl mt_124 rfl rfl rfl tw_1006 tw_1008 (Or.inl ⟨_, _, rfl⟩) tp_24 dX6_act_67)
  (okC (ok_put X (ci := 6) rfl (by decide) iw_X6 tyX6_ok nmX6 rfl (Or.inl rfl) tw_819 dX6_act_70)
  (okC (ok_aldn X rfl dX6_act_73)
  (okC (ok_ic X (by decide) dX6_act_74)
  (okC (ok_put X (ci := 6) rfl (by decide) iw_X6 tyX6_ok nmX6 rfl (Or.inl rfl) tw_822 dX6_act_75)
  (okC (ok_ildn X rfl dX6_act_78)
  (okN)))))))))))))))))))), ok_ifne X (by decide) rfl dX6_act_79⟩
set_option maxRecDepth 20000 in
theorem ob_X6_act_7 {x : ip_Cx} {G : ip_Gl} {d : Nat} (X : ip_X x G tb 6 d 0 0 RX6 cX6_act) (hr : x.2.2.2.2.2.2.2.2.1.sig.returnType = (some .int)) (hnm : x.2.2.2.2.2.2.2.2.1.name = "act") : ip_okB x G 6 pc_X6_act 82 ([oLdA 0, oLdI 3, oCaV (ip_call tb d) 0 0 6 215 2 0 0], tGo 13) := ⟨_, okC (ok_aldn X rfl dX6_act_82)
  (okC (ok_ildn X rfl dX6_act_83)
  (okC (ok_calV X (i := 320) (e := en_215) rfl mt_215 rfl rfl rfl tw_1262 tw_1264 (Or.inl ⟨_, _, rfl⟩) tp_51 dX6_act_84)
  (okN))), ok_go X (by decide) dX6_act_87⟩
set_option maxRecDepth 20000 in
theorem ob_X6_act_8 {x : ip_Cx} {G : ip_Gl} {d : Nat} (X : ip_X x G tb 6 d 0 0 RX6 cX6_act) (hr : x.2.2.2.2.2.2.2.2.1.sig.returnType = (some .int)) (hnm : x.2.2.2.2.2.2.2.2.1.name = "act") : ip_okB x G 6 pc_X6_act 90 ([oLdI 2, oI (1)], tCm (fun a b => a = b) 9 10) := ⟨_, okC (ok_ildn X rfl dX6_act_90)
  (okC (ok_ic X (by decide) dX6_act_91)
  (okN)), ok_cmne X (by decide) rfl dX6_act_92⟩
set_option maxRecDepth 20000 in
theorem ob_X6_act_9 {x : ip_Cx} {G : ip_Gl} {d : Nat} (X : ip_X x G tb 6 d 0 0 RX6 cX6_act) (hr : x.2.2.2.2.2.2.2.2.1.sig.returnType = (some .int)) (hnm : x.2.2.2.2.2.2.2.2.1.name = "act") : ip_okB x G 6 pc_X6_act 95 ([oLdA 0, oLdI 3, oCaV (ip_call tb d) 0 0 6 217 2 0 0], tGo 13) := ⟨_, okC (ok_aldn X rfl dX6_act_95)
  (okC (ok_ildn X rfl dX6_act_96)
  (okC (ok_calV X (i := 335) (e := en_217) rfl mt_217 rfl rfl rfl tw_1278 tw_1280 (Or.inl ⟨_, _, rfl⟩) tp_55 dX6_act_97)
  (okN))), ok_go X (by decide) dX6_act_100⟩
set_option maxRecDepth 20000 in
theorem ob_X6_act_10 {x : ip_Cx} {G : ip_Gl} {d : Nat} (X : ip_X x G tb 6 d 0 0 RX6 cX6_act) (hr : x.2.2.2.2.2.2.2.2.1.sig.returnType = (some .int)) (hnm : x.2.2.2.2.2.2.2.2.1.name = "act") : ip_okB x G 6 pc_X6_act 103 ([oLdI 2, oI (2)], tCm (fun a b => a = b) 11 12) := ⟨_, okC (ok_ildn X rfl dX6_act_103)
  (okC (ok_ic X (by decide) dX6_act_104)
  (okN)), ok_cmne X (by decide) rfl dX6_act_105⟩
set_option maxRecDepth 20000 in
theorem ob_X6_act_11 {x : ip_Cx} {G : ip_Gl} {d : Nat} (X : ip_X x G tb 6 d 0 0 RX6 cX6_act) (hr : x.2.2.2.2.2.2.2.2.1.sig.returnType = (some .int)) (hnm : x.2.2.2.2.2.2.2.2.1.name = "act") : ip_okB x G 6 pc_X6_act 108 ([oLdA 0, oLdI 3, oCaV (ip_call tb d) 0 0 6 219 2 0 0], tGo 13) := ⟨_, okC (ok_aldn X rfl dX6_act_108)
  (okC (ok_ildn X rfl dX6_act_109)
  (okC (ok_calV X (i := 341) (e := en_219) rfl mt_219 rfl rfl rfl tw_1286 tw_1288 (Or.inl ⟨_, _, rfl⟩) tp_57 dX6_act_110)
  (okN))), ok_go X (by decide) dX6_act_113⟩
set_option maxRecDepth 20000 in
theorem ob_X6_act_12 {x : ip_Cx} {G : ip_Gl} {d : Nat} (X : ip_X x G tb 6 d 0 0 RX6 cX6_act) (hr : x.2.2.2.2.2.2.2.2.1.sig.returnType = (some .int)) (hnm : x.2.2.2.2.2.2.2.2.1.name = "act") : ip_okB x G 6 pc_X6_act 116 ([oLdA 0, oLdI 3, oCaV (ip_call tb d) 0 0 6 221 2 0 0], tGo 13) := ⟨_, okC (ok_aldn X rfl dX6_act_116)
  (okC (ok_ildn X rfl dX6_act_117)
  (okC (ok_calV X (i := 344) (e := en_221) rfl mt_221 rfl rfl rfl tw_1294 tw_1296 (Or.inl ⟨_, _, rfl⟩) tp_59 dX6_act_118)
  (okN))), ok_fall rfl⟩
set_option maxRecDepth 20000 in
theorem ob_X6_act_13 {x : ip_Cx} {G : ip_Gl} {d : Nat} (X : ip_X x G tb 6 d 0 0 RX6 cX6_act) (hr : x.2.2.2.2.2.2.2.2.1.sig.returnType = (some .int)) (hnm : x.2.2.2.2.2.2.2.2.1.name = "act") : ip_okB x G 6 pc_X6_act 121 ([oStI 5, oLdA 0, oGet 6 27], tIf (fun a => a = 0) 15 14) := ⟨_, okC (ok_ist X (by decide) dX6_act_121)
  (okC (ok_aldn X rfl dX6_act_123)
  (okC (ok_get X (ci := 6) rfl (by decide) iw_X6 tw_822 dX6_act_124)
  (okN))), ok_ifeq X (by decide) rfl dX6_act_127⟩
set_option maxRecDepth 20000 in
theorem ob_X6_act_14 {x : ip_Cx} {G : ip_Gl} {d : Nat} (X : ip_X x G tb 6 d 0 0 RX6 cX6_act) (hr : x.2.2.2.2.2.2.2.2.1.sig.returnType = (some .int)) (hnm : x.2.2.2.2.2.2.2.2.1.name = "act") : ip_okB x G 6 pc_X6_act 130 ([oI (-15)], tGo 16) := ⟨_, okC (ok_bi X (by decide) dX6_act_130)
  (okN), ok_go X (by decide) dX6_act_132⟩
set_option maxRecDepth 20000 in
theorem ob_X6_act_15 {x : ip_Cx} {G : ip_Gl} {d : Nat} (X : ip_X x G tb 6 d 0 0 RX6 cX6_act) (hr : x.2.2.2.2.2.2.2.2.1.sig.returnType = (some .int)) (hnm : x.2.2.2.2.2.2.2.2.1.name = "act") : ip_okB x G 6 pc_X6_act 135 ([oLdI 5], tGo 16) := ⟨_, okC (ok_ild X dX6_act_135)
  (okN), ok_fall rfl⟩
set_option maxRecDepth 20000 in
theorem ob_X6_act_16 {x : ip_Cx} {G : ip_Gl} {d : Nat} (X : ip_X x G tb 6 d 0 0 RX6 cX6_act) (hr : x.2.2.2.2.2.2.2.2.1.sig.returnType = (some .int)) (hnm : x.2.2.2.2.2.2.2.2.1.name = "act") : ip_okB x G 6 pc_X6_act 137 ([], tRI .int 0 0) := ⟨_, okN, ok_ret X hr dX6_act_137⟩
theorem om_222 : ip_MOk tb en_222 pc_X6_act := fun x G d X hr hnm => ⟨ob_X6_act_0 X hr hnm, ⟨ob_X6_act_1 X hr hnm, ⟨ob_X6_act_2 X hr hnm, ⟨ob_X6_act_3 X hr hnm, ⟨ob_X6_act_4 X hr hnm, ⟨ob_X6_act_5 X hr hnm, ⟨ob_X6_act_6 X hr hnm, ⟨ob_X6_act_7 X hr hnm, ⟨ob_X6_act_8 X hr hnm, ⟨ob_X6_act_9 X hr hnm, ⟨ob_X6_act_10 X hr hnm, ⟨ob_X6_act_11 X hr hnm, ⟨ob_X6_act_12 X hr hnm, ⟨ob_X6_act_13 X hr hnm, ⟨ob_X6_act_14 X hr hnm, ⟨ob_X6_act_15 X hr hnm, ⟨ob_X6_act_16 X hr hnm, trivial⟩⟩⟩⟩⟩⟩⟩⟩⟩⟩⟩⟩⟩⟩⟩⟩⟩
theorem dX6_trace_0 : decode cX6_trace 0 = .ok (.iload_n 1, 1) := by decide +kernel
theorem dX6_trace_1 : decode cX6_trace 1 = .ok (.iconst 0, 1) := by decide +kernel
theorem dX6_trace_2 : decode cX6_trace 2 = .ok (.aload_n 0, 1) := by decide +kernel
theorem dX6_trace_3 : decode cX6_trace 3 = .ok (.getfield 302, 3) := by decide +kernel
theorem dX6_trace_6 : decode cX6_trace 6 = .ok (.iconst 1, 1) := by decide +kernel
theorem dX6_trace_7 : decode cX6_trace 7 = .ok (.isub, 1) := by decide +kernel
theorem dX6_trace_8 : decode cX6_trace 8 = .ok (.invokestatic 57, 3) := by decide +kernel
theorem dX6_trace_11 : decode cX6_trace 11 = .ok (.ifCond .eq 12, 3) := by decide +kernel
theorem dX6_trace_14 : decode cX6_trace 14 = .ok (.aload_n 0, 1) := by decide +kernel
theorem dX6_trace_15 : decode cX6_trace 15 = .ok (.getfield 50, 3) := by decide +kernel
theorem dX6_trace_18 : decode cX6_trace 18 = .ok (.iload_n 1, 1) := by decide +kernel
theorem dX6_trace_19 : decode cX6_trace 19 = .ok (.iaload, 1) := by decide +kernel
theorem dX6_trace_20 : decode cX6_trace 20 = .ok (.goto 5, 3) := by decide +kernel
theorem dX6_trace_23 : decode cX6_trace 23 = .ok (.bipush (-3), 2) := by decide +kernel
theorem dX6_trace_25 : decode cX6_trace 25 = .ok (.ireturn, 1) := by decide +kernel
def pc_X6_trace (i : Nat) : Nat := ([0, 14, 23, 25] : List Nat).getD i 0
set_option maxRecDepth 20000 in
theorem ob_X6_trace_0 {x : ip_Cx} {G : ip_Gl} {d : Nat} (X : ip_X x G tb 2 d 0 0 RX6 cX6_trace) (hr : x.2.2.2.2.2.2.2.2.1.sig.returnType = (some .int)) (hnm : x.2.2.2.2.2.2.2.2.1.name = "trace") : ip_okB x G 2 pc_X6_trace 0 ([oLdI 1, oI (0), oLdA 0, oGet 6 26, oI (1), oBI (fun a b => a - b), oCal (ip_call tb d) 0 0 120 3 0 0], tIf (fun a => a = 0) 2 1) := ⟨_, okC (ok_ildn X rfl dX6_trace_0)
  (okC (ok_ic X (by decide) dX6_trace_1)
  (okC (ok_aldn X rfl dX6_trace_2)
  (okC (ok_get X (ci := 6) rfl (by decide) iw_X6 tw_821 dX6_trace_3)
  (okC (ok_ic X (by decide) dX6_trace_6)
  (okC (ok_isub X dX6_trace_7)
  (okC (ok_calS X (i := 57) (e := en_120) rfl mt_120 rfl rfl rfl tw_885 tw_886 dX6_trace_8)
  (okN))))))), ok_ifeq X (by decide) rfl dX6_trace_11⟩
set_option maxRecDepth 20000 in
theorem ob_X6_trace_1 {x : ip_Cx} {G : ip_Gl} {d : Nat} (X : ip_X x G tb 2 d 0 0 RX6 cX6_trace) (hr : x.2.2.2.2.2.2.2.2.1.sig.returnType = (some .int)) (hnm : x.2.2.2.2.2.2.2.2.1.name = "trace") : ip_okB x G 2 pc_X6_trace 14 ([oLdA 0, oGet 6 25, oLdI 1, oAldI], tGo 3) := ⟨_, okC (ok_aldn X rfl dX6_trace_14)
  (okC (ok_get X (ci := 6) rfl (by decide) iw_X6 tw_820 dX6_trace_15)
  (okC (ok_ildn X rfl dX6_trace_18)
  (okC (ok_iald X dX6_trace_19)
  (okN)))), ok_go X (by decide) dX6_trace_20⟩
set_option maxRecDepth 20000 in
theorem ob_X6_trace_2 {x : ip_Cx} {G : ip_Gl} {d : Nat} (X : ip_X x G tb 2 d 0 0 RX6 cX6_trace) (hr : x.2.2.2.2.2.2.2.2.1.sig.returnType = (some .int)) (hnm : x.2.2.2.2.2.2.2.2.1.name = "trace") : ip_okB x G 2 pc_X6_trace 23 ([oI (-3)], tGo 3) := ⟨_, okC (ok_bi X (by decide) dX6_trace_23)
  (okN), ok_fall rfl⟩
set_option maxRecDepth 20000 in
theorem ob_X6_trace_3 {x : ip_Cx} {G : ip_Gl} {d : Nat} (X : ip_X x G tb 2 d 0 0 RX6 cX6_trace) (hr : x.2.2.2.2.2.2.2.2.1.sig.returnType = (some .int)) (hnm : x.2.2.2.2.2.2.2.2.1.name = "trace") : ip_okB x G 2 pc_X6_trace 25 ([], tRI .int 0 0) := ⟨_, okN, ok_ret X hr dX6_trace_25⟩
theorem om_223 : ip_MOk tb en_223 pc_X6_trace := fun x G d X hr hnm => ⟨ob_X6_trace_0 X hr hnm, ⟨ob_X6_trace_1 X hr hnm, ⟨ob_X6_trace_2 X hr hnm, ⟨ob_X6_trace_3 X hr hnm, trivial⟩⟩⟩⟩
theorem dX6_many_0 : decode cX6_many 0 = .ok (.iload_n 1, 1) := by decide +kernel
theorem dX6_many_1 : decode cX6_many 1 = .ok (.tableswitch 92 0 6 #[43, 51, 59, 67, 77, 82, 87], 43) := by decide +kernel
theorem dX6_many_44 : decode cX6_many 44 = .ok (.aload_n 0, 1) := by decide +kernel
theorem dX6_many_45 : decode cX6_many 45 = .ok (.getfield 7, 3) := by decide +kernel
theorem dX6_many_48 : decode cX6_many 48 = .ok (.bipush 6, 2) := by decide +kernel
theorem dX6_many_50 : decode cX6_many 50 = .ok (.iaload, 1) := by decide +kernel
theorem dX6_many_51 : decode cX6_many 51 = .ok (.ireturn, 1) := by decide +kernel
theorem dX6_many_52 : decode cX6_many 52 = .ok (.aload_n 0, 1) := by decide +kernel
theorem dX6_many_53 : decode cX6_many 53 = .ok (.invokevirtual 229, 3) := by decide +kernel
theorem dX6_many_56 : decode cX6_many 56 = .ok (.invokestatic 198, 3) := by decide +kernel
theorem dX6_many_59 : decode cX6_many 59 = .ok (.ireturn, 1) := by decide +kernel
theorem dX6_many_60 : decode cX6_many 60 = .ok (.aload_n 0, 1) := by decide +kernel
theorem dX6_many_61 : decode cX6_many 61 = .ok (.invokevirtual 239, 3) := by decide +kernel
theorem dX6_many_64 : decode cX6_many 64 = .ok (.invokestatic 198, 3) := by decide +kernel
theorem dX6_many_67 : decode cX6_many 67 = .ok (.ireturn, 1) := by decide +kernel
theorem dX6_many_68 : decode cX6_many 68 = .ok (.aload_n 0, 1) := by decide +kernel
theorem dX6_many_69 : decode cX6_many 69 = .ok (.getfield 7, 3) := by decide +kernel
theorem dX6_many_72 : decode cX6_many 72 = .ok (.iconst 5, 1) := by decide +kernel
theorem dX6_many_73 : decode cX6_many 73 = .ok (.iaload, 1) := by decide +kernel
theorem dX6_many_74 : decode cX6_many 74 = .ok (.invokestatic 198, 3) := by decide +kernel
theorem dX6_many_77 : decode cX6_many 77 = .ok (.ireturn, 1) := by decide +kernel
theorem dX6_many_78 : decode cX6_many 78 = .ok (.aload_n 0, 1) := by decide +kernel
theorem dX6_many_79 : decode cX6_many 79 = .ok (.getfield 178, 3) := by decide +kernel
theorem dX6_many_82 : decode cX6_many 82 = .ok (.ireturn, 1) := by decide +kernel
theorem dX6_many_83 : decode cX6_many 83 = .ok (.aload_n 0, 1) := by decide +kernel
theorem dX6_many_84 : decode cX6_many 84 = .ok (.getfield 61, 3) := by decide +kernel
theorem dX6_many_87 : decode cX6_many 87 = .ok (.ireturn, 1) := by decide +kernel
theorem dX6_many_88 : decode cX6_many 88 = .ok (.aload_n 0, 1) := by decide +kernel
theorem dX6_many_89 : decode cX6_many 89 = .ok (.getfield 302, 3) := by decide +kernel
theorem dX6_many_92 : decode cX6_many 92 = .ok (.ireturn, 1) := by decide +kernel
theorem dX6_many_93 : decode cX6_many 93 = .ok (.iconst (-1), 1) := by decide +kernel
theorem dX6_many_94 : decode cX6_many 94 = .ok (.ireturn, 1) := by decide +kernel
def pc_X6_many (i : Nat) : Nat := ([0, 44, 52, 60, 68, 78, 83, 88, 93] : List Nat).getD i 0
set_option maxRecDepth 20000 in
theorem ob_X6_many_0 {x : ip_Cx} {G : ip_Gl} {d : Nat} (X : ip_X x G tb 2 d 0 0 RX6 cX6_many) (hr : x.2.2.2.2.2.2.2.2.1.sig.returnType = (some .int)) (hnm : x.2.2.2.2.2.2.2.2.1.name = "many") : ip_okB x G 2 pc_X6_many 0 ([oLdI 1], tSw [(0, 1), (1, 2), (2, 3), (3, 4), (4, 5), (5, 6), (6, 7)] 8) := ⟨_, okC (ok_ildn X rfl dX6_many_0)
  (okN), ok_tsw X (by decide) (by decide +kernel) (by decide) dX6_many_1⟩
set_option maxRecDepth 20000 in
theorem ob_X6_many_1 {x : ip_Cx} {G : ip_Gl} {d : Nat} (X : ip_X x G tb 2 d 0 0 RX6 cX6_many) (hr : x.2.2.2.2.2.2.2.2.1.sig.returnType = (some .int)) (hnm : x.2.2.2.2.2.2.2.2.1.name = "many") : ip_okB x G 2 pc_X6_many 44 ([oLdA 0, oGet 6 0, oI (6), oAldI], tRI .int 0 0) := ⟨_, okC (ok_aldn X rfl dX6_many_44)
  (okC (ok_get X (ci := 6) rfl (by decide) iw_X6 tw_795 dX6_many_45)
  (okC (ok_bi X (by decide) dX6_many_48)
  (okC (ok_iald X dX6_many_50)
  (okN)))), ok_ret X hr dX6_many_51⟩
set_option maxRecDepth 20000 in
theorem ob_X6_many_2 {x : ip_Cx} {G : ip_Gl} {d : Nat} (X : ip_X x G tb 2 d 0 0 RX6 cX6_many) (hr : x.2.2.2.2.2.2.2.2.1.sig.returnType = (some .int)) (hnm : x.2.2.2.2.2.2.2.2.1.name = "many") : ip_okB x G 2 pc_X6_many 52 ([oLdA 0, oCaV (ip_call tb d) 0 0 6 163 1 0 0, oCal (ip_call tb d) 0 0 127 1 0 0], tRI .int 0 0) := ⟨_, okC (ok_aldn X rfl dX6_many_52)
  (okC (ok_calV X (i := 229) (e := en_163) rfl mt_163 rfl rfl rfl tw_1068 tw_1070 (Or.inl ⟨_, _, rfl⟩) tp_33 dX6_many_53)
  (okC (ok_calS X (i := 198) (e := en_127) rfl mt_127 rfl rfl rfl tw_1022 tw_1023 dX6_many_56)
  (okN))), ok_ret X hr dX6_many_59⟩
set_option maxRecDepth 20000 in
theorem ob_X6_many_3 {x : ip_Cx} {G : ip_Gl} {d : Nat} (X : ip_X x G tb 2 d 0 0 RX6 cX6_many) (hr : x.2.2.2.2.2.2.2.2.1.sig.returnType = (some .int)) (hnm : x.2.2.2.2.2.2.2.2.1.name = "many") : ip_okB x G 2 pc_X6_many 60 ([oLdA 0, oCaV (ip_call tb d) 0 0 6 164 1 0 0, oCal (ip_call tb d) 0 0 127 1 0 0], tRI .int 0 0) := ⟨_, okC (ok_aldn X rfl dX6_many_60)
  (okC (ok_calV X (i := 239) (e := en_164) rfl mt_164 rfl rfl rfl tw_1093 tw_1095 (Or.inl ⟨_, _, rfl⟩) tp_36 dX6_many_61)
  (okC (ok_calS X (i := 198) (e := en_127) rfl mt_127 rfl rfl rfl tw_1022 tw_1023 dX6_many_64)
  (okN))), ok_ret X hr dX6_many_67⟩
set_option maxRecDepth 20000 in
theorem ob_X6_many_4 {x : ip_Cx} {G : ip_Gl} {d : Nat} (X : ip_X x G tb 2 d 0 0 RX6 cX6_many) (hr : x.2.2.2.2.2.2.2.2.1.sig.returnType = (some .int)) (hnm : x.2.2.2.2.2.2.2.2.1.name = "many") : ip_okB x G 2 pc_X6_many 68 ([oLdA 0, oGet 6 0, oI (5), oAldI, oCal (ip_call tb d) 0 0 127 1 0 0], tRI .int 0 0) := ⟨_, okC (ok_aldn X rfl dX6_many_68)
  (okC (ok_get X (ci := 6) rfl (by decide) iw_X6 tw_795 dX6_many_69)
  (okC (ok_ic X (by decide) dX6_many_72)
  (okC (ok_iald X dX6_many_73)
  (okC (ok_calS X (i := 198) (e := en_127) rfl mt_127 rfl rfl rfl tw_1022 tw_1023 dX6_many_74)
  (okN))))), ok_ret X hr dX6_many_77⟩
set_option maxRecDepth 20000 in
theorem ob_X6_many_5 {x : ip_Cx} {G : ip_Gl} {d : Nat} (X : ip_X x G tb 2 d 0 0 RX6 cX6_many) (hr : x.2.2.2.2.2.2.2.2.1.sig.returnType = (some .int)) (hnm : x.2.2.2.2.2.2.2.2.1.name = "many") : ip_okB x G 2 pc_X6_many 78 ([oLdA 0, oGet 6 15], tRI .int 0 0) := ⟨_, okC (ok_aldn X rfl dX6_many_78)
  (okC (ok_get X (ci := 6) rfl (by decide) iw_X6 tw_810 dX6_many_79)
  (okN)), ok_ret X hr dX6_many_82⟩
set_option maxRecDepth 20000 in
theorem ob_X6_many_6 {x : ip_Cx} {G : ip_Gl} {d : Nat} (X : ip_X x G tb 2 d 0 0 RX6 cX6_many) (hr : x.2.2.2.2.2.2.2.2.1.sig.returnType = (some .int)) (hnm : x.2.2.2.2.2.2.2.2.1.name = "many") : ip_okB x G 2 pc_X6_many 83 ([oLdA 0, oGet 6 6], tRI .int 0 0) := ⟨_, okC (ok_aldn X rfl dX6_many_83)
  (okC (ok_get X (ci := 6) rfl (by decide) iw_X6 tw_801 dX6_many_84)
  (okN)), ok_ret X hr dX6_many_87⟩
set_option maxRecDepth 20000 in
theorem ob_X6_many_7 {x : ip_Cx} {G : ip_Gl} {d : Nat} (X : ip_X x G tb 2 d 0 0 RX6 cX6_many) (hr : x.2.2.2.2.2.2.2.2.1.sig.returnType = (some .int)) (hnm : x.2.2.2.2.2.2.2.2.1.name = "many") : ip_okB x G 2 pc_X6_many 88 ([oLdA 0, oGet 6 26], tRI .int 0 0) := ⟨_, okC (ok_aldn X rfl dX6_many_88)
  (okC (ok_get X (ci := 6) rfl (by decide) iw_X6 tw_821 dX6_many_89)
  (okN)), ok_ret X hr dX6_many_92⟩
set_option maxRecDepth 20000 in
theorem ob_X6_many_8 {x : ip_Cx} {G : ip_Gl} {d : Nat} (X : ip_X x G tb 2 d 0 0 RX6 cX6_many) (hr : x.2.2.2.2.2.2.2.2.1.sig.returnType = (some .int)) (hnm : x.2.2.2.2.2.2.2.2.1.name = "many") : ip_okB x G 2 pc_X6_many 93 ([oI (-1)], tRI .int 0 0) := ⟨_, okC (ok_ic X (by decide) dX6_many_93)
  (okN), ok_ret X hr dX6_many_94⟩
theorem om_224 : ip_MOk tb en_224 pc_X6_many := fun x G d X hr hnm => ⟨ob_X6_many_0 X hr hnm, ⟨ob_X6_many_1 X hr hnm, ⟨ob_X6_many_2 X hr hnm, ⟨ob_X6_many_3 X hr hnm, ⟨ob_X6_many_4 X hr hnm, ⟨ob_X6_many_5 X hr hnm, ⟨ob_X6_many_6 X hr hnm, ⟨ob_X6_many_7 X hr hnm, ⟨ob_X6_many_8 X hr hnm, trivial⟩⟩⟩⟩⟩⟩⟩⟩⟩
theorem dX6_keep_0 : decode cX6_keep 0 = .ok (.aload_n 0, 1) := by decide +kernel
theorem dX6_keep_1 : decode cX6_keep 1 = .ok (.getfield 7, 3) := by decide +kernel
theorem dX6_keep_4 : decode cX6_keep 4 = .ok (.aload_n 0, 1) := by decide +kernel
theorem dX6_keep_5 : decode cX6_keep 5 = .ok (.getfield 16, 3) := by decide +kernel
theorem dX6_keep_8 : decode cX6_keep 8 = .ok (.invokestatic 174, 3) := by decide +kernel
theorem dX6_keep_11 : decode cX6_keep 11 = .ok (.aload_n 0, 1) := by decide +kernel
theorem dX6_keep_12 : decode cX6_keep 12 = .ok (.iconst 1, 1) := by decide +kernel
theorem dX6_keep_13 : decode cX6_keep 13 = .ok (.putfield 347, 3) := by decide +kernel
theorem dX6_keep_16 : decode cX6_keep 16 = .ok (.iconst 1, 1) := by decide +kernel
theorem dX6_keep_17 : decode cX6_keep 17 = .ok (.ireturn, 1) := by decide +kernel
def pc_X6_keep (i : Nat) : Nat := ([0] : List Nat).getD i 0
set_option maxRecDepth 20000 in
theorem ob_X6_keep_0 {x : ip_Cx} {G : ip_Gl} {d : Nat} (X : ip_X x G tb 1 d 0 0 RX6 cX6_keep) (hr : x.2.2.2.2.2.2.2.2.1.sig.returnType = (some .int)) (hnm : x.2.2.2.2.2.2.2.2.1.name = "keep") : ip_okB x G 1 pc_X6_keep 0 ([oLdA 0, oGet 6 0, oLdA 0, oGet 6 2, oCal (ip_call tb d) 0 0 122 2 0 0, oLdA 0, oI (1), oPut 6 4 .boolean, oI (1)], tRI .int 0 0) := ⟨_, okC (ok_aldn X rfl dX6_keep_0)
  (okC (ok_get X (ci := 6) rfl (by decide) iw_X6 tw_795 dX6_keep_1)
  (okC (ok_aldn X rfl dX6_keep_4)
  (okC (ok_get X (ci := 6) rfl (by decide) iw_X6 tw_797 dX6_keep_5)
  (okC (ok_calS X (i := 174) (e := en_122) rfl mt_122 rfl rfl rfl tw_968 tw_969 dX6_keep_8)
  (okC (ok_aldn X rfl dX6_keep_11)
  (okC (ok_ic X (by decide) dX6_keep_12)
  (okC (ok_put X (ci := 6) rfl (by decide) iw_X6 tyX6_ok nmX6 rfl (Or.inl rfl) tw_799 dX6_keep_13)
  (okC (ok_ic X (by decide) dX6_keep_16)
  (okN))))))))), ok_ret X hr dX6_keep_17⟩
theorem om_225 : ip_MOk tb en_225 pc_X6_keep := fun x G d X hr hnm => ⟨ob_X6_keep_0 X hr hnm, trivial⟩
theorem dX6_again_0 : decode cX6_again 0 = .ok (.aload_n 0, 1) := by decide +kernel
theorem dX6_again_1 : decode cX6_again 1 = .ok (.getfield 347, 3) := by decide +kernel
theorem dX6_again_4 : decode cX6_again 4 = .ok (.ifCond .ne 6, 3) := by decide +kernel
theorem dX6_again_7 : decode cX6_again 7 = .ok (.bipush (-3), 2) := by decide +kernel
theorem dX6_again_9 : decode cX6_again 9 = .ok (.ireturn, 1) := by decide +kernel
theorem dX6_again_10 : decode cX6_again 10 = .ok (.aload_n 0, 1) := by decide +kernel
theorem dX6_again_11 : decode cX6_again 11 = .ok (.getfield 16, 3) := by decide +kernel
theorem dX6_again_14 : decode cX6_again 14 = .ok (.aload_n 0, 1) := by decide +kernel
theorem dX6_again_15 : decode cX6_again 15 = .ok (.getfield 7, 3) := by decide +kernel
theorem dX6_again_18 : decode cX6_again 18 = .ok (.invokestatic 174, 3) := by decide +kernel
theorem dX6_again_21 : decode cX6_again 21 = .ok (.aload_n 0, 1) := by decide +kernel
theorem dX6_again_22 : decode cX6_again 22 = .ok (.getfield 7, 3) := by decide +kernel
theorem dX6_again_25 : decode cX6_again 25 = .ok (.bipush 6, 2) := by decide +kernel
theorem dX6_again_27 : decode cX6_again 27 = .ok (.iaload, 1) := by decide +kernel
theorem dX6_again_28 : decode cX6_again 28 = .ok (.ireturn, 1) := by decide +kernel
def pc_X6_again (i : Nat) : Nat := ([0, 7, 10] : List Nat).getD i 0
set_option maxRecDepth 20000 in
theorem ob_X6_again_0 {x : ip_Cx} {G : ip_Gl} {d : Nat} (X : ip_X x G tb 1 d 0 0 RX6 cX6_again) (hr : x.2.2.2.2.2.2.2.2.1.sig.returnType = (some .int)) (hnm : x.2.2.2.2.2.2.2.2.1.name = "again") : ip_okB x G 1 pc_X6_again 0 ([oLdA 0, oGet 6 4], tIf (fun a => a = 0) 1 2) := ⟨_, okC (ok_aldn X rfl dX6_again_0)
  (okC (ok_get X (ci := 6) rfl (by decide) iw_X6 tw_799 dX6_again_1)
  (okN)), ok_ifne X (by decide) rfl dX6_again_4⟩
set_option maxRecDepth 20000 in
theorem ob_X6_again_1 {x : ip_Cx} {G : ip_Gl} {d : Nat} (X : ip_X x G tb 1 d 0 0 RX6 cX6_again) (hr : x.2.2.2.2.2.2.2.2.1.sig.returnType = (some .int)) (hnm : x.2.2.2.2.2.2.2.2.1.name = "again") : ip_okB x G 1 pc_X6_again 7 ([oI (-3)], tRI .int 0 0) := ⟨_, okC (ok_bi X (by decide) dX6_again_7)
  (okN), ok_ret X hr dX6_again_9⟩
set_option maxRecDepth 20000 in
theorem ob_X6_again_2 {x : ip_Cx} {G : ip_Gl} {d : Nat} (X : ip_X x G tb 1 d 0 0 RX6 cX6_again) (hr : x.2.2.2.2.2.2.2.2.1.sig.returnType = (some .int)) (hnm : x.2.2.2.2.2.2.2.2.1.name = "again") : ip_okB x G 1 pc_X6_again 10 ([oLdA 0, oGet 6 2, oLdA 0, oGet 6 0, oCal (ip_call tb d) 0 0 122 2 0 0, oLdA 0, oGet 6 0, oI (6), oAldI], tRI .int 0 0) := ⟨_, okC (ok_aldn X rfl dX6_again_10)
  (okC (ok_get X (ci := 6) rfl (by decide) iw_X6 tw_797 dX6_again_11)
  (okC (ok_aldn X rfl dX6_again_14)
  (okC (ok_get X (ci := 6) rfl (by decide) iw_X6 tw_795 dX6_again_15)
  (okC (ok_calS X (i := 174) (e := en_122) rfl mt_122 rfl rfl rfl tw_968 tw_969 dX6_again_18)
  (okC (ok_aldn X rfl dX6_again_21)
  (okC (ok_get X (ci := 6) rfl (by decide) iw_X6 tw_795 dX6_again_22)
  (okC (ok_bi X (by decide) dX6_again_25)
  (okC (ok_iald X dX6_again_27)
  (okN))))))))), ok_ret X hr dX6_again_28⟩
theorem om_226 : ip_MOk tb en_226 pc_X6_again := fun x G d X hr hnm => ⟨ob_X6_again_0 X hr hnm, ⟨ob_X6_again_1 X hr hnm, ⟨ob_X6_again_2 X hr hnm, trivial⟩⟩⟩
theorem dJ6_bitCount_0f7a4_0 : decode cJ6_bitCount_0f7a4 0 = .ok (.iload_n 0, 1) := by decide +kernel
theorem dJ6_bitCount_0f7a4_1 : decode cJ6_bitCount_0f7a4 1 = .ok (.iload_n 0, 1) := by decide +kernel
theorem dJ6_bitCount_0f7a4_2 : decode cJ6_bitCount_0f7a4 2 = .ok (.iconst 1, 1) := by decide +kernel
theorem dJ6_bitCount_0f7a4_3 : decode cJ6_bitCount_0f7a4 3 = .ok (.iushr, 1) := by decide +kernel
theorem dJ6_bitCount_0f7a4_4 : decode cJ6_bitCount_0f7a4 4 = .ok (.ldc_w 265, 3) := by decide +kernel
theorem dJ6_bitCount_0f7a4_7 : decode cJ6_bitCount_0f7a4 7 = .ok (.iand, 1) := by decide +kernel
theorem dJ6_bitCount_0f7a4_8 : decode cJ6_bitCount_0f7a4 8 = .ok (.isub, 1) := by decide +kernel
theorem dJ6_bitCount_0f7a4_9 : decode cJ6_bitCount_0f7a4 9 = .ok (.istore_n 0, 1) := by decide +kernel
theorem dJ6_bitCount_0f7a4_10 : decode cJ6_bitCount_0f7a4 10 = .ok (.iload_n 0, 1) := by decide +kernel
theorem dJ6_bitCount_0f7a4_11 : decode cJ6_bitCount_0f7a4 11 = .ok (.ldc_w 266, 3) := by decide +kernel
theorem dJ6_bitCount_0f7a4_14 : decode cJ6_bitCount_0f7a4 14 = .ok (.iand, 1) := by decide +kernel
theorem dJ6_bitCount_0f7a4_15 : decode cJ6_bitCount_0f7a4 15 = .ok (.iload_n 0, 1) := by decide +kernel
theorem dJ6_bitCount_0f7a4_16 : decode cJ6_bitCount_0f7a4 16 = .ok (.iconst 2, 1) := by decide +kernel
theorem dJ6_bitCount_0f7a4_17 : decode cJ6_bitCount_0f7a4 17 = .ok (.iushr, 1) := by decide +kernel
theorem dJ6_bitCount_0f7a4_18 : decode cJ6_bitCount_0f7a4 18 = .ok (.ldc_w 266, 3) := by decide +kernel
theorem dJ6_bitCount_0f7a4_21 : decode cJ6_bitCount_0f7a4 21 = .ok (.iand, 1) := by decide +kernel
theorem dJ6_bitCount_0f7a4_22 : decode cJ6_bitCount_0f7a4 22 = .ok (.iadd, 1) := by decide +kernel
theorem dJ6_bitCount_0f7a4_23 : decode cJ6_bitCount_0f7a4 23 = .ok (.istore_n 0, 1) := by decide +kernel
theorem dJ6_bitCount_0f7a4_24 : decode cJ6_bitCount_0f7a4 24 = .ok (.iload_n 0, 1) := by decide +kernel
theorem dJ6_bitCount_0f7a4_25 : decode cJ6_bitCount_0f7a4 25 = .ok (.iload_n 0, 1) := by decide +kernel
theorem dJ6_bitCount_0f7a4_26 : decode cJ6_bitCount_0f7a4 26 = .ok (.iconst 4, 1) := by decide +kernel
theorem dJ6_bitCount_0f7a4_27 : decode cJ6_bitCount_0f7a4 27 = .ok (.iushr, 1) := by decide +kernel
theorem dJ6_bitCount_0f7a4_28 : decode cJ6_bitCount_0f7a4 28 = .ok (.iadd, 1) := by decide +kernel
theorem dJ6_bitCount_0f7a4_29 : decode cJ6_bitCount_0f7a4 29 = .ok (.ldc_w 267, 3) := by decide +kernel
theorem dJ6_bitCount_0f7a4_32 : decode cJ6_bitCount_0f7a4 32 = .ok (.iand, 1) := by decide +kernel
theorem dJ6_bitCount_0f7a4_33 : decode cJ6_bitCount_0f7a4 33 = .ok (.istore_n 0, 1) := by decide +kernel
theorem dJ6_bitCount_0f7a4_34 : decode cJ6_bitCount_0f7a4 34 = .ok (.iload_n 0, 1) := by decide +kernel
theorem dJ6_bitCount_0f7a4_35 : decode cJ6_bitCount_0f7a4 35 = .ok (.iload_n 0, 1) := by decide +kernel
theorem dJ6_bitCount_0f7a4_36 : decode cJ6_bitCount_0f7a4 36 = .ok (.bipush 8, 2) := by decide +kernel
theorem dJ6_bitCount_0f7a4_38 : decode cJ6_bitCount_0f7a4 38 = .ok (.iushr, 1) := by decide +kernel
theorem dJ6_bitCount_0f7a4_39 : decode cJ6_bitCount_0f7a4 39 = .ok (.iadd, 1) := by decide +kernel
theorem dJ6_bitCount_0f7a4_40 : decode cJ6_bitCount_0f7a4 40 = .ok (.istore_n 0, 1) := by decide +kernel
theorem dJ6_bitCount_0f7a4_41 : decode cJ6_bitCount_0f7a4 41 = .ok (.iload_n 0, 1) := by decide +kernel
theorem dJ6_bitCount_0f7a4_42 : decode cJ6_bitCount_0f7a4 42 = .ok (.iload_n 0, 1) := by decide +kernel
theorem dJ6_bitCount_0f7a4_43 : decode cJ6_bitCount_0f7a4 43 = .ok (.bipush 16, 2) := by decide +kernel
theorem dJ6_bitCount_0f7a4_45 : decode cJ6_bitCount_0f7a4 45 = .ok (.iushr, 1) := by decide +kernel
theorem dJ6_bitCount_0f7a4_46 : decode cJ6_bitCount_0f7a4 46 = .ok (.iadd, 1) := by decide +kernel
theorem dJ6_bitCount_0f7a4_47 : decode cJ6_bitCount_0f7a4 47 = .ok (.istore_n 0, 1) := by decide +kernel
theorem dJ6_bitCount_0f7a4_48 : decode cJ6_bitCount_0f7a4 48 = .ok (.iload_n 0, 1) := by decide +kernel
theorem dJ6_bitCount_0f7a4_49 : decode cJ6_bitCount_0f7a4 49 = .ok (.bipush 63, 2) := by decide +kernel
theorem dJ6_bitCount_0f7a4_51 : decode cJ6_bitCount_0f7a4 51 = .ok (.iand, 1) := by decide +kernel
theorem dJ6_bitCount_0f7a4_52 : decode cJ6_bitCount_0f7a4 52 = .ok (.ireturn, 1) := by decide +kernel
def pc_J6_bitCount_0f7a4 (i : Nat) : Nat := ([0] : List Nat).getD i 0
set_option maxRecDepth 20000 in
theorem ob_J6_bitCount_0f7a4_0 {x : ip_Cx} {G : ip_Gl} {d : Nat} (X : ip_X x G tb 1 d 0 0 RJ6 cJ6_bitCount_0f7a4) (hr : x.2.2.2.2.2.2.2.2.1.sig.returnType = (some .int)) (hnm : x.2.2.2.2.2.2.2.2.1.name = "bitCount") : ip_okB x G 1 pc_J6_bitCount_0f7a4 0 ([oLdI 0, oLdI 0, oI (1), oBI (fun a b => (a.toUInt32 >>> (b.toUInt32 &&& Int32.toUInt32 31)).toInt32), oI (1431655765), oBI (fun a b => a &&& b), oBI (fun a b => a - b), oStI 0, oLdI 0, oI (858993459), oBI (fun a b => a &&& b), oLdI 0, oI (2), oBI (fun a b => (a.toUInt32 >>> (b.toUInt32 &&& Int32.toUInt32 31)).toInt32), oI (858993459), oBI (fun a b => a &&& b), oBI (fun a b => a + b), oStI 0, oLdI 0, oLdI 0, oI (4), oBI (fun a b => (a.toUInt32 >>> (b.toUInt32 &&& Int32.toUInt32 31)).toInt32), oBI (fun a b => a + b), oI (252645135), oBI (fun a b => a &&& b), oStI 0, oLdI 0, oLdI 0, oI (8), oBI (fun a b => (a.toUInt32 >>> (b.toUInt32 &&& Int32.toUInt32 31)).toInt32), oBI (fun a b => a + b), oStI 0, oLdI 0, oLdI 0, oI (16), oBI (fun a b => (a.toUInt32 >>> (b.toUInt32 &&& Int32.toUInt32 31)).toInt32), oBI (fun a b => a + b), oStI 0, oLdI 0, oI (63), oBI (fun a b => a &&& b)], tRI .int 0 0) := ⟨_, okC (ok_ildn X rfl dJ6_bitCount_0f7a4_0)
  (okC (ok_ildn X rfl dJ6_bitCount_0f7a4_1)
  (okC (ok_ic X (by decide) dJ6_bitCount_0f7a4_2)
  (okC (ok_iushr X dJ6_bitCount_0f7a4_3)
  (okC (ok_ldcw X tw_434 dJ6_bitCount_0f7a4_4)
  (okC (ok_iand X dJ6_bitCount_0f7a4_7)
  (okC (ok_isub X dJ6_bitCount_0f7a4_8)
  (okC (ok_istn X rfl (by decide) dJ6_bitCount_0f7a4_9)
  (okC (ok_ildn X rfl dJ6_bitCount_0f7a4_10)
  (okC (ok_ldcw X tw_435 dJ6_bitCount_0f7a4_11)
  (okC (ok_iand X dJ6_bitCount_0f7a4_14)
  (okC (ok_ildn X rfl dJ6_bitCount_0f7a4_15)
  (okC (ok_ic X (by decide) dJ6_bitCount_0f7a4_16)
  (okC (ok_iushr X dJ6_bitCount_0f7a4_17)
  (okC (ok_ldcw X tw_435 dJ6_bitCount_0f7a4_18)
  (okC (ok_iand X dJ6_bitCount_0f7a4_21)
  (okC (ok_iadd X dJ6_bitCount_0f7a4_22)
  (okC (ok_istn X rfl (by decide) dJ6_bitCount_0f7a4_23)
  (okC (ok_ildn X rfl dJ6_bitCount_0f7a4_24)
  (okC (ok_ildn X rfl dJ6_bitCount_0f7a4_25)
  (okC (ok_ic X (by decide) dJ6_bitCount_0f7a4_26)
  (okC (ok_iushr X dJ6_bitCount_0f7a4_27)
  (okC (ok_iadd X dJ6_bitCount_0f7a4_28)
  (okC (ok_ldcw X tw_436 dJ6_bitCount_0f7a4_29)
  (okC (ok_iand X dJ6_bitCount_0f7a4_32)
  (okC (ok_istn X rfl (by decide) dJ6_bitCount_0f7a4_33)
  (okC (ok_ildn X rfl dJ6_bitCount_0f7a4_34)
  (okC (ok_ildn X rfl dJ6_bitCount_0f7a4_35)
  (okC (ok_bi X (by decide) dJ6_bitCount_0f7a4_36)
  (okC (ok_iushr X dJ6_bitCount_0f7a4_38)
  (okC (ok_iadd X dJ6_bitCount_0f7a4_39)
  (okC (ok_istn X rfl (by decide) dJ6_bitCount_0f7a4_40)
  (okC (ok_ildn X rfl dJ6_bitCount_0f7a4_41)
  (okC (ok_ildn X rfl dJ6_bitCount_0f7a4_42)
  (okC (ok_bi X (by decide) dJ6_bitCount_0f7a4_43)
  (okC (ok_iushr X dJ6_bitCount_0f7a4_45)
  (okC (ok_iadd X dJ6_bitCount_0f7a4_46)
  (okC (ok_istn X rfl (by decide) dJ6_bitCount_0f7a4_47)
  (okC (ok_ildn X rfl dJ6_bitCount_0f7a4_48)
  (okC (ok_bi X (by decide) dJ6_bitCount_0f7a4_49)
  (okC (ok_iand X dJ6_bitCount_0f7a4_51)
  (okN))))))))))))))))))))))))))))))))))))))))), ok_ret X hr dJ6_bitCount_0f7a4_52⟩
theorem om_227 : ip_MOk tb en_227 pc_J6_bitCount_0f7a4 := fun x G d X hr hnm => ⟨ob_J6_bitCount_0f7a4_0 X hr hnm, trivial⟩
theorem dJ0_length_8abf5_0 : decode cJ0_length_8abf5 0 = .ok (.aload_n 0, 1) := by decide +kernel
theorem dJ0_length_8abf5_1 : decode cJ0_length_8abf5 1 = .ok (.getfield 9, 3) := by decide +kernel
theorem dJ0_length_8abf5_4 : decode cJ0_length_8abf5 4 = .ok (.arraylength, 1) := by decide +kernel
theorem dJ0_length_8abf5_5 : decode cJ0_length_8abf5 5 = .ok (.aload_n 0, 1) := by decide +kernel
theorem dJ0_length_8abf5_6 : decode cJ0_length_8abf5 6 = .ok (.invokevirtual 335, 3) := by decide +kernel
theorem dJ0_length_8abf5_9 : decode cJ0_length_8abf5 9 = .ok (.ishr, 1) := by decide +kernel
theorem dJ0_length_8abf5_10 : decode cJ0_length_8abf5 10 = .ok (.ireturn, 1) := by decide +kernel
def pc_J0_length_8abf5 (i : Nat) : Nat := ([0] : List Nat).getD i 0
set_option maxRecDepth 20000 in
theorem ob_J0_length_8abf5_0 {x : ip_Cx} {G : ip_Gl} {d : Nat} (X : ip_X x G tb 1 d 0 0 RJ0 cJ0_length_8abf5) (hr : x.2.2.2.2.2.2.2.2.1.sig.returnType = (some .int)) (hnm : x.2.2.2.2.2.2.2.2.1.name = "length") : ip_okB x G 1 pc_J0_length_8abf5 0 ([oLdA 0, oGet 7 0, oLen, oLdA 0, oCaV (ip_call tb d) 0 0 7 230 1 0 0, oBI (fun a b => a >>> (b &&& 31))], tRI .int 0 0) := ⟨_, okC (ok_aldn X rfl dJ0_length_8abf5_0)
  (okC (ok_getS X (nm := "value") (ds := "[B") (by decide) tw_1319 dJ0_length_8abf5_1)
  (okC (ok_len X dJ0_length_8abf5_4)
  (okC (ok_aldn X rfl dJ0_length_8abf5_5)
  (okC (ok_calV X (i := 335) (e := en_230) rfl mt_230 rfl rfl rfl tw_282 tw_283 (Or.inr ⟨rfl, rfl⟩) tw_284 dJ0_length_8abf5_6)
  (okC (ok_ishr X dJ0_length_8abf5_9)
  (okN)))))), ok_ret X hr dJ0_length_8abf5_10⟩
theorem om_228 : ip_MOk tb en_228 pc_J0_length_8abf5 := fun x G d X hr hnm => ⟨ob_J0_length_8abf5_0 X hr hnm, trivial⟩
theorem dJ0_charAt_5068e_0 : decode cJ0_charAt_5068e 0 = .ok (.aload_n 0, 1) := by decide +kernel
theorem dJ0_charAt_5068e_1 : decode cJ0_charAt_5068e 1 = .ok (.invokevirtual 492, 3) := by decide +kernel
theorem dJ0_charAt_5068e_4 : decode cJ0_charAt_5068e 4 = .ok (.ifCond .eq 12, 3) := by decide +kernel
theorem dJ0_charAt_5068e_7 : decode cJ0_charAt_5068e 7 = .ok (.aload_n 0, 1) := by decide +kernel
theorem dJ0_charAt_5068e_8 : decode cJ0_charAt_5068e 8 = .ok (.getfield 9, 3) := by decide +kernel
theorem dJ0_charAt_5068e_11 : decode cJ0_charAt_5068e 11 = .ok (.iload_n 1, 1) := by decide +kernel
theorem dJ0_charAt_5068e_12 : decode cJ0_charAt_5068e 12 = .ok (.invokestatic 495, 3) := by decide +kernel
theorem dJ0_charAt_5068e_15 : decode cJ0_charAt_5068e 15 = .ok (.ireturn, 1) := by decide +kernel
theorem dJ0_charAt_5068e_16 : decode cJ0_charAt_5068e 16 = .ok (.aload_n 0, 1) := by decide +kernel
theorem dJ0_charAt_5068e_17 : decode cJ0_charAt_5068e 17 = .ok (.getfield 9, 3) := by decide +kernel
theorem dJ0_charAt_5068e_20 : decode cJ0_charAt_5068e 20 = .ok (.iload_n 1, 1) := by decide +kernel
theorem dJ0_charAt_5068e_21 : decode cJ0_charAt_5068e 21 = .ok (.invokestatic 498, 3) := by decide +kernel
theorem dJ0_charAt_5068e_24 : decode cJ0_charAt_5068e 24 = .ok (.ireturn, 1) := by decide +kernel
def pc_J0_charAt_5068e (i : Nat) : Nat := ([0, 7, 16] : List Nat).getD i 0
set_option maxRecDepth 20000 in
theorem ob_J0_charAt_5068e_0 {x : ip_Cx} {G : ip_Gl} {d : Nat} (X : ip_X x G tb 2 d 0 0 RJ0 cJ0_charAt_5068e) (hr : x.2.2.2.2.2.2.2.2.1.sig.returnType = (some .char)) (hnm : x.2.2.2.2.2.2.2.2.1.name = "charAt") : ip_okB x G 2 pc_J0_charAt_5068e 0 ([oLdA 0, oCaV (ip_call tb d) 0 0 7 231 1 0 0], tIf (fun a => a = 0) 2 1) := ⟨_, okC (ok_aldn X rfl dJ0_charAt_5068e_0)
  (okC (ok_calV X (i := 492) (e := en_231) rfl mt_231 rfl rfl rfl tw_292 tw_293 (Or.inr ⟨rfl, rfl⟩) tw_294 dJ0_charAt_5068e_1)
  (okN)), ok_ifeq X (by decide) rfl dJ0_charAt_5068e_4⟩
set_option maxRecDepth 20000 in
theorem ob_J0_charAt_5068e_1 {x : ip_Cx} {G : ip_Gl} {d : Nat} (X : ip_X x G tb 2 d 0 0 RJ0 cJ0_charAt_5068e) (hr : x.2.2.2.2.2.2.2.2.1.sig.returnType = (some .char)) (hnm : x.2.2.2.2.2.2.2.2.1.name = "charAt") : ip_okB x G 2 pc_J0_charAt_5068e 7 ([oLdA 0, oGet 7 0, oLdI 1, oCal (ip_call tb d) 0 0 233 2 0 0], tRI .char 0 0) := ⟨_, okC (ok_aldn X rfl dJ0_charAt_5068e_7)
  (okC (ok_getS X (nm := "value") (ds := "[B") (by decide) tw_1319 dJ0_charAt_5068e_8)
  (okC (ok_ildn X rfl dJ0_charAt_5068e_11)
  (okC (ok_calS X (i := 495) (e := en_233) rfl mt_233 rfl rfl rfl tw_296 tw_297 dJ0_charAt_5068e_12)
  (okN)))), ok_ret X hr dJ0_charAt_5068e_15⟩
set_option maxRecDepth 20000 in
theorem ob_J0_charAt_5068e_2 {x : ip_Cx} {G : ip_Gl} {d : Nat} (X : ip_X x G tb 2 d 0 0 RJ0 cJ0_charAt_5068e) (hr : x.2.2.2.2.2.2.2.2.1.sig.returnType = (some .char)) (hnm : x.2.2.2.2.2.2.2.2.1.name = "charAt") : ip_okB x G 2 pc_J0_charAt_5068e 16 ([oLdA 0, oGet 7 0, oLdI 1, oNo], tRI .char 0 0) := ⟨_, okC (ok_aldn X rfl dJ0_charAt_5068e_16)
  (okC (ok_getS X (nm := "value") (ds := "[B") (by decide) tw_1319 dJ0_charAt_5068e_17)
  (okC (ok_ildn X rfl dJ0_charAt_5068e_20)
  (okC (ok_no (pc1 := 24))
  (okN)))), ok_ret X hr dJ0_charAt_5068e_24⟩
theorem om_229 : ip_MOk tb en_229 pc_J0_charAt_5068e := fun x G d X hr hnm => ⟨ob_J0_charAt_5068e_0 X hr hnm, ⟨ob_J0_charAt_5068e_1 X hr hnm, ⟨ob_J0_charAt_5068e_2 X hr hnm, trivial⟩⟩⟩
theorem dJ0_coder_7d493_0 : decode cJ0_coder_7d493 0 = .ok (.getstatic 38, 3) := by decide +kernel
theorem dJ0_coder_7d493_3 : decode cJ0_coder_7d493 3 = .ok (.ifCond .eq 10, 3) := by decide +kernel
theorem dJ0_coder_7d493_6 : decode cJ0_coder_7d493 6 = .ok (.aload_n 0, 1) := by decide +kernel
theorem dJ0_coder_7d493_7 : decode cJ0_coder_7d493 7 = .ok (.getfield 15, 3) := by decide +kernel
theorem dJ0_coder_7d493_10 : decode cJ0_coder_7d493 10 = .ok (.goto 4, 3) := by decide +kernel
theorem dJ0_coder_7d493_13 : decode cJ0_coder_7d493 13 = .ok (.iconst 1, 1) := by decide +kernel
theorem dJ0_coder_7d493_14 : decode cJ0_coder_7d493 14 = .ok (.ireturn, 1) := by decide +kernel
def pc_J0_coder_7d493 (i : Nat) : Nat := ([0, 6, 13, 14] : List Nat).getD i 0
set_option maxRecDepth 20000 in
theorem ob_J0_coder_7d493_0 {x : ip_Cx} {G : ip_Gl} {d : Nat} (X : ip_X x G tb 1 d 0 0 RJ0 cJ0_coder_7d493) (hr : x.2.2.2.2.2.2.2.2.1.sig.returnType = (some .byte)) (hnm : x.2.2.2.2.2.2.2.2.1.name = "coder") : ip_okB x G 1 pc_J0_coder_7d493 0 ([oI 1], tIf (fun a => a = 0) 2 1) := ⟨_, okC (ok_gsi X (q := (RJ0, "COMPACT_STRINGS", "Z", .int 1)) (by simp [ip_stat]) rfl tw_286 dJ0_coder_7d493_0)
  (okN), ok_ifeq X (by decide) rfl dJ0_coder_7d493_3⟩
set_option maxRecDepth 20000 in
theorem ob_J0_coder_7d493_1 {x : ip_Cx} {G : ip_Gl} {d : Nat} (X : ip_X x G tb 1 d 0 0 RJ0 cJ0_coder_7d493) (hr : x.2.2.2.2.2.2.2.2.1.sig.returnType = (some .byte)) (hnm : x.2.2.2.2.2.2.2.2.1.name = "coder") : ip_okB x G 1 pc_J0_coder_7d493 6 ([oLdA 0, oGet 7 1], tGo 3) := ⟨_, okC (ok_aldn X rfl dJ0_coder_7d493_6)
  (okC (ok_getS X (nm := "coder") (ds := "B") (by decide) tw_1320 dJ0_coder_7d493_7)
  (okN)), ok_go X (by decide) dJ0_coder_7d493_10⟩
set_option maxRecDepth 20000 in
theorem ob_J0_coder_7d493_2 {x : ip_Cx} {G : ip_Gl} {d : Nat} (X : ip_X x G tb 1 d 0 0 RJ0 cJ0_coder_7d493) (hr : x.2.2.2.2.2.2.2.2.1.sig.returnType = (some .byte)) (hnm : x.2.2.2.2.2.2.2.2.1.name = "coder") : ip_okB x G 1 pc_J0_coder_7d493 13 ([oI (1)], tGo 3) := ⟨_, okC (ok_ic X (by decide) dJ0_coder_7d493_13)
  (okN), ok_fall rfl⟩
set_option maxRecDepth 20000 in
theorem ob_J0_coder_7d493_3 {x : ip_Cx} {G : ip_Gl} {d : Nat} (X : ip_X x G tb 1 d 0 0 RJ0 cJ0_coder_7d493) (hr : x.2.2.2.2.2.2.2.2.1.sig.returnType = (some .byte)) (hnm : x.2.2.2.2.2.2.2.2.1.name = "coder") : ip_okB x G 1 pc_J0_coder_7d493 14 ([], tRI .byte 0 0) := ⟨_, okN, ok_ret X hr dJ0_coder_7d493_14⟩
theorem om_230 : ip_MOk tb en_230 pc_J0_coder_7d493 := fun x G d X hr hnm => ⟨ob_J0_coder_7d493_0 X hr hnm, ⟨ob_J0_coder_7d493_1 X hr hnm, ⟨ob_J0_coder_7d493_2 X hr hnm, ⟨ob_J0_coder_7d493_3 X hr hnm, trivial⟩⟩⟩⟩
theorem dJ0_isLatin1_aae02_0 : decode cJ0_isLatin1_aae02 0 = .ok (.getstatic 38, 3) := by decide +kernel
theorem dJ0_isLatin1_aae02_3 : decode cJ0_isLatin1_aae02 3 = .ok (.ifCond .eq 14, 3) := by decide +kernel
theorem dJ0_isLatin1_aae02_6 : decode cJ0_isLatin1_aae02 6 = .ok (.aload_n 0, 1) := by decide +kernel
theorem dJ0_isLatin1_aae02_7 : decode cJ0_isLatin1_aae02 7 = .ok (.getfield 15, 3) := by decide +kernel
theorem dJ0_isLatin1_aae02_10 : decode cJ0_isLatin1_aae02 10 = .ok (.ifCond .ne 7, 3) := by decide +kernel
theorem dJ0_isLatin1_aae02_13 : decode cJ0_isLatin1_aae02 13 = .ok (.iconst 1, 1) := by decide +kernel
theorem dJ0_isLatin1_aae02_14 : decode cJ0_isLatin1_aae02 14 = .ok (.goto 4, 3) := by decide +kernel
theorem dJ0_isLatin1_aae02_17 : decode cJ0_isLatin1_aae02 17 = .ok (.iconst 0, 1) := by decide +kernel
theorem dJ0_isLatin1_aae02_18 : decode cJ0_isLatin1_aae02 18 = .ok (.ireturn, 1) := by decide +kernel
def pc_J0_isLatin1_aae02 (i : Nat) : Nat := ([0, 6, 13, 17, 18] : List Nat).getD i 0
set_option maxRecDepth 20000 in
theorem ob_J0_isLatin1_aae02_0 {x : ip_Cx} {G : ip_Gl} {d : Nat} (X : ip_X x G tb 1 d 0 0 RJ0 cJ0_isLatin1_aae02) (hr : x.2.2.2.2.2.2.2.2.1.sig.returnType = (some .boolean)) (hnm : x.2.2.2.2.2.2.2.2.1.name = "isLatin1") : ip_okB x G 1 pc_J0_isLatin1_aae02 0 ([oI 1], tIf (fun a => a = 0) 3 1) := ⟨_, okC (ok_gsi X (q := (RJ0, "COMPACT_STRINGS", "Z", .int 1)) (by simp [ip_stat]) rfl tw_286 dJ0_isLatin1_aae02_0)
  (okN), ok_ifeq X (by decide) rfl dJ0_isLatin1_aae02_3⟩
set_option maxRecDepth 20000 in
theorem ob_J0_isLatin1_aae02_1 {x : ip_Cx} {G : ip_Gl} {d : Nat} (X : ip_X x G tb 1 d 0 0 RJ0 cJ0_isLatin1_aae02) (hr : x.2.2.2.2.2.2.2.2.1.sig.returnType = (some .boolean)) (hnm : x.2.2.2.2.2.2.2.2.1.name = "isLatin1") : ip_okB x G 1 pc_J0_isLatin1_aae02 6 ([oLdA 0, oGet 7 1], tIf (fun a => a = 0) 2 3) := ⟨_, okC (ok_aldn X rfl dJ0_isLatin1_aae02_6)
  (okC (ok_getS X (nm := "coder") (ds := "B") (by decide) tw_1320 dJ0_isLatin1_aae02_7)
  (okN)), ok_ifne X (by decide) rfl dJ0_isLatin1_aae02_10⟩
set_option maxRecDepth 20000 in
theorem ob_J0_isLatin1_aae02_2 {x : ip_Cx} {G : ip_Gl} {d : Nat} (X : ip_X x G tb 1 d 0 0 RJ0 cJ0_isLatin1_aae02) (hr : x.2.2.2.2.2.2.2.2.1.sig.returnType = (some .boolean)) (hnm : x.2.2.2.2.2.2.2.2.1.name = "isLatin1") : ip_okB x G 1 pc_J0_isLatin1_aae02 13 ([oI (1)], tGo 4) := ⟨_, okC (ok_ic X (by decide) dJ0_isLatin1_aae02_13)
  (okN), ok_go X (by decide) dJ0_isLatin1_aae02_14⟩
set_option maxRecDepth 20000 in
theorem ob_J0_isLatin1_aae02_3 {x : ip_Cx} {G : ip_Gl} {d : Nat} (X : ip_X x G tb 1 d 0 0 RJ0 cJ0_isLatin1_aae02) (hr : x.2.2.2.2.2.2.2.2.1.sig.returnType = (some .boolean)) (hnm : x.2.2.2.2.2.2.2.2.1.name = "isLatin1") : ip_okB x G 1 pc_J0_isLatin1_aae02 17 ([oI (0)], tGo 4) := ⟨_, okC (ok_ic X (by decide) dJ0_isLatin1_aae02_17)
  (okN), ok_fall rfl⟩
set_option maxRecDepth 20000 in
theorem ob_J0_isLatin1_aae02_4 {x : ip_Cx} {G : ip_Gl} {d : Nat} (X : ip_X x G tb 1 d 0 0 RJ0 cJ0_isLatin1_aae02) (hr : x.2.2.2.2.2.2.2.2.1.sig.returnType = (some .boolean)) (hnm : x.2.2.2.2.2.2.2.2.1.name = "isLatin1") : ip_okB x G 1 pc_J0_isLatin1_aae02 18 ([], tRI .boolean 0 0) := ⟨_, okN, ok_ret X hr dJ0_isLatin1_aae02_18⟩
theorem om_231 : ip_MOk tb en_231 pc_J0_isLatin1_aae02 := fun x G d X hr hnm => ⟨ob_J0_isLatin1_aae02_0 X hr hnm, ⟨ob_J0_isLatin1_aae02_1 X hr hnm, ⟨ob_J0_isLatin1_aae02_2 X hr hnm, ⟨ob_J0_isLatin1_aae02_3 X hr hnm, ⟨ob_J0_isLatin1_aae02_4 X hr hnm, trivial⟩⟩⟩⟩⟩
theorem dJ0_checkIndex_df160_0 : decode cJ0_checkIndex_df160 0 = .ok (.iload_n 0, 1) := by decide +kernel
theorem dJ0_checkIndex_df160_1 : decode cJ0_checkIndex_df160 1 = .ok (.iload_n 1, 1) := by decide +kernel
theorem dJ0_checkIndex_df160_2 : decode cJ0_checkIndex_df160 2 = .ok (.getstatic 1053, 3) := by decide +kernel
theorem dJ0_checkIndex_df160_5 : decode cJ0_checkIndex_df160 5 = .ok (.invokestatic 1059, 3) := by decide +kernel
theorem dJ0_checkIndex_df160_8 : decode cJ0_checkIndex_df160 8 = .ok (.pop, 1) := by decide +kernel
theorem dJ0_checkIndex_df160_9 : decode cJ0_checkIndex_df160 9 = .ok (.return_, 1) := by decide +kernel
def pc_J0_checkIndex_df160 (i : Nat) : Nat := ([0] : List Nat).getD i 0
set_option maxRecDepth 20000 in
theorem ob_J0_checkIndex_df160_0 {x : ip_Cx} {G : ip_Gl} {d : Nat} (X : ip_X x G tb 2 d 0 0 RJ0 cJ0_checkIndex_df160) (hr : x.2.2.2.2.2.2.2.2.1.sig.returnType = none) (hnm : x.2.2.2.2.2.2.2.2.1.name = "checkIndex") : ip_okB x G 2 pc_J0_checkIndex_df160 0 ([oLdI 0, oLdI 1, oFmt, oCal (ip_call tb d) 0 0 234 3 0 0, oPop], tRV 0 0) := ⟨_, okC (ok_ildn X rfl dJ0_checkIndex_df160_0)
  (okC (ok_ildn X rfl dJ0_checkIndex_df160_1)
  (okC (ok_fmt X tw_302 dJ0_checkIndex_df160_2)
  (okC (ok_calS X (i := 1059) (e := en_234) rfl mt_234 rfl rfl rfl tw_304 tw_305 dJ0_checkIndex_df160_5)
  (okC (ok_pop X dJ0_checkIndex_df160_8)
  (okN))))), ok_vret X hr dJ0_checkIndex_df160_9⟩
theorem om_232 : ip_MOk tb en_232 pc_J0_checkIndex_df160 := fun x G d X hr hnm => ⟨ob_J0_checkIndex_df160_0 X hr hnm, trivial⟩
theorem dJ1_charAt_3b067_0 : decode cJ1_charAt_3b067 0 = .ok (.iload_n 1, 1) := by decide +kernel
theorem dJ1_charAt_3b067_1 : decode cJ1_charAt_3b067 1 = .ok (.aload_n 0, 1) := by decide +kernel
theorem dJ1_charAt_3b067_2 : decode cJ1_charAt_3b067 2 = .ok (.arraylength, 1) := by decide +kernel
theorem dJ1_charAt_3b067_3 : decode cJ1_charAt_3b067 3 = .ok (.invokestatic 9, 3) := by decide +kernel
theorem dJ1_charAt_3b067_6 : decode cJ1_charAt_3b067 6 = .ok (.aload_n 0, 1) := by decide +kernel
theorem dJ1_charAt_3b067_7 : decode cJ1_charAt_3b067 7 = .ok (.iload_n 1, 1) := by decide +kernel
theorem dJ1_charAt_3b067_8 : decode cJ1_charAt_3b067 8 = .ok (.baload, 1) := by decide +kernel
theorem dJ1_charAt_3b067_9 : decode cJ1_charAt_3b067 9 = .ok (.sipush 255, 3) := by decide +kernel
theorem dJ1_charAt_3b067_12 : decode cJ1_charAt_3b067 12 = .ok (.iand, 1) := by decide +kernel
theorem dJ1_charAt_3b067_13 : decode cJ1_charAt_3b067 13 = .ok (.i2c, 1) := by decide +kernel
theorem dJ1_charAt_3b067_14 : decode cJ1_charAt_3b067 14 = .ok (.ireturn, 1) := by decide +kernel
def pc_J1_charAt_3b067 (i : Nat) : Nat := ([0] : List Nat).getD i 0
set_option maxRecDepth 20000 in
theorem ob_J1_charAt_3b067_0 {x : ip_Cx} {G : ip_Gl} {d : Nat} (X : ip_X x G tb 2 d 0 0 RJ1 cJ1_charAt_3b067) (hr : x.2.2.2.2.2.2.2.2.1.sig.returnType = (some .char)) (hnm : x.2.2.2.2.2.2.2.2.1.name = "charAt") : ip_okB x G 2 pc_J1_charAt_3b067 0 ([oLdI 1, oLdA 0, oLen, oCal (ip_call tb d) 0 0 232 2 0 0, oLdA 0, oLdI 1, oAldB, oI (255), oBI (fun a b => a &&& b), oUI (fun a => (a.toUInt32 % 65536).toInt32)], tRI .char 0 0) := ⟨_, okC (ok_ildn X rfl dJ1_charAt_3b067_0)
  (okC (ok_aldn X rfl dJ1_charAt_3b067_1)
  (okC (ok_len X dJ1_charAt_3b067_2)
  (okC (ok_calS X (i := 9) (e := en_232) rfl mt_232 rfl rfl rfl tw_299 tw_300 dJ1_charAt_3b067_3)
  (okC (ok_aldn X rfl dJ1_charAt_3b067_6)
  (okC (ok_ildn X rfl dJ1_charAt_3b067_7)
  (okC (ok_bald X dJ1_charAt_3b067_8)
  (okC (ok_si X (by decide) dJ1_charAt_3b067_9)
  (okC (ok_iand X dJ1_charAt_3b067_12)
  (okC (ok_i2c X dJ1_charAt_3b067_13)
  (okN)))))))))), ok_ret X hr dJ1_charAt_3b067_14⟩
theorem om_233 : ip_MOk tb en_233 pc_J1_charAt_3b067 := fun x G d X hr hnm => ⟨ob_J1_charAt_3b067_0 X hr hnm, trivial⟩
theorem dJ3_checkIndex_8e157_0 : decode cJ3_checkIndex_8e157 0 = .ok (.iload_n 0, 1) := by decide +kernel
theorem dJ3_checkIndex_8e157_1 : decode cJ3_checkIndex_8e157 1 = .ok (.ifCond .lt 8, 3) := by decide +kernel
theorem dJ3_checkIndex_8e157_4 : decode cJ3_checkIndex_8e157 4 = .ok (.iload_n 0, 1) := by decide +kernel
theorem dJ3_checkIndex_8e157_5 : decode cJ3_checkIndex_8e157 5 = .ok (.iload_n 1, 1) := by decide +kernel
theorem dJ3_checkIndex_8e157_6 : decode cJ3_checkIndex_8e157 6 = .ok (.if_icmp .lt 10, 3) := by decide +kernel
theorem dJ3_checkIndex_8e157_9 : decode cJ3_checkIndex_8e157 9 = .ok (.aload_n 2, 1) := by decide +kernel
theorem dJ3_checkIndex_8e157_10 : decode cJ3_checkIndex_8e157 10 = .ok (.iload_n 0, 1) := by decide +kernel
theorem dJ3_checkIndex_8e157_11 : decode cJ3_checkIndex_8e157 11 = .ok (.iload_n 1, 1) := by decide +kernel
theorem dJ3_checkIndex_8e157_12 : decode cJ3_checkIndex_8e157 12 = .ok (.invokestatic 95, 3) := by decide +kernel
theorem dJ3_checkIndex_8e157_15 : decode cJ3_checkIndex_8e157 15 = .ok (.athrow, 1) := by decide +kernel
theorem dJ3_checkIndex_8e157_16 : decode cJ3_checkIndex_8e157 16 = .ok (.iload_n 0, 1) := by decide +kernel
theorem dJ3_checkIndex_8e157_17 : decode cJ3_checkIndex_8e157 17 = .ok (.ireturn, 1) := by decide +kernel
def pc_J3_checkIndex_8e157 (i : Nat) : Nat := ([0, 4, 9, 16] : List Nat).getD i 0
set_option maxRecDepth 20000 in
theorem ob_J3_checkIndex_8e157_0 {x : ip_Cx} {G : ip_Gl} {d : Nat} (X : ip_X x G tb 3 d 0 0 RJ3 cJ3_checkIndex_8e157) (hr : x.2.2.2.2.2.2.2.2.1.sig.returnType = (some .int)) (hnm : x.2.2.2.2.2.2.2.2.1.name = "checkIndex") : ip_okB x G 3 pc_J3_checkIndex_8e157 0 ([oLdI 0], tIf (fun a => a < 0) 2 1) := ⟨_, okC (ok_ildn X rfl dJ3_checkIndex_8e157_0)
  (okN), ok_iflt X (by decide) rfl dJ3_checkIndex_8e157_1⟩
set_option maxRecDepth 20000 in
theorem ob_J3_checkIndex_8e157_1 {x : ip_Cx} {G : ip_Gl} {d : Nat} (X : ip_X x G tb 3 d 0 0 RJ3 cJ3_checkIndex_8e157) (hr : x.2.2.2.2.2.2.2.2.1.sig.returnType = (some .int)) (hnm : x.2.2.2.2.2.2.2.2.1.name = "checkIndex") : ip_okB x G 3 pc_J3_checkIndex_8e157 4 ([oLdI 0, oLdI 1], tCm (fun a b => a < b) 3 2) := ⟨_, okC (ok_ildn X rfl dJ3_checkIndex_8e157_4)
  (okC (ok_ildn X rfl dJ3_checkIndex_8e157_5)
  (okN)), ok_cmlt X (by decide) rfl dJ3_checkIndex_8e157_6⟩
set_option maxRecDepth 20000 in
theorem ob_J3_checkIndex_8e157_2 {x : ip_Cx} {G : ip_Gl} {d : Nat} (X : ip_X x G tb 3 d 0 0 RJ3 cJ3_checkIndex_8e157) (hr : x.2.2.2.2.2.2.2.2.1.sig.returnType = (some .int)) (hnm : x.2.2.2.2.2.2.2.2.1.name = "checkIndex") : ip_okB x G 3 pc_J3_checkIndex_8e157 9 ([oLdA 2, oLdI 0, oLdI 1, oNo], tNo) := ⟨_, okC (ok_aldn X rfl dJ3_checkIndex_8e157_9)
  (okC (ok_ildn X rfl dJ3_checkIndex_8e157_10)
  (okC (ok_ildn X rfl dJ3_checkIndex_8e157_11)
  (okC (ok_no (pc1 := 15))
  (okN)))), ok_nt⟩
set_option maxRecDepth 20000 in
theorem ob_J3_checkIndex_8e157_3 {x : ip_Cx} {G : ip_Gl} {d : Nat} (X : ip_X x G tb 3 d 0 0 RJ3 cJ3_checkIndex_8e157) (hr : x.2.2.2.2.2.2.2.2.1.sig.returnType = (some .int)) (hnm : x.2.2.2.2.2.2.2.2.1.name = "checkIndex") : ip_okB x G 3 pc_J3_checkIndex_8e157 16 ([oLdI 0], tRI .int 0 0) := ⟨_, okC (ok_ildn X rfl dJ3_checkIndex_8e157_16)
  (okN), ok_ret X hr dJ3_checkIndex_8e157_17⟩
theorem om_234 : ip_MOk tb en_234 pc_J3_checkIndex_8e157 := fun x G d X hr hnm => ⟨ob_J3_checkIndex_8e157_0 X hr hnm, ⟨ob_J3_checkIndex_8e157_1 X hr hnm, ⟨ob_J3_checkIndex_8e157_2 X hr hnm, ⟨ob_J3_checkIndex_8e157_3 X hr hnm, trivial⟩⟩⟩⟩
