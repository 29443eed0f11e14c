theorem dX6_mostHeld_0 : decode cX6_mostHeld 0 = .ok (.iconst 0, 1) := by decide +kernel
theorem dX6_mostHeld_1 : decode cX6_mostHeld 1 = .ok (.istore_n 1, 1) := by decide +kernel
theorem dX6_mostHeld_2 : decode cX6_mostHeld 2 = .ok (.iconst 0, 1) := by decide +kernel
theorem dX6_mostHeld_3 : decode cX6_mostHeld 3 = .ok (.istore_n 2, 1) := by decide +kernel
theorem dX6_mostHeld_4 : decode cX6_mostHeld 4 = .ok (.iload_n 2, 1) := by decide +kernel
theorem dX6_mostHeld_5 : decode cX6_mostHeld 5 = .ok (.iconst 1, 1) := by decide +kernel
theorem dX6_mostHeld_6 : decode cX6_mostHeld 6 = .ok (.aload_n 0, 1) := by decide +kernel
theorem dX6_mostHeld_7 : decode cX6_mostHeld 7 = .ok (.getfield 7, 3) := by decide +kernel
theorem dX6_mostHeld_10 : decode cX6_mostHeld 10 = .ok (.bipush 6, 2) := by decide +kernel
theorem dX6_mostHeld_12 : decode cX6_mostHeld 12 = .ok (.iaload, 1) := by decide +kernel
theorem dX6_mostHeld_13 : decode cX6_mostHeld 13 = .ok (.ishl, 1) := by decide +kernel
theorem dX6_mostHeld_14 : decode cX6_mostHeld 14 = .ok (.if_icmp .ge 30, 3) := by decide +kernel
theorem dX6_mostHeld_17 : decode cX6_mostHeld 17 = .ok (.iload_n 2, 1) := by decide +kernel
theorem dX6_mostHeld_18 : decode cX6_mostHeld 18 = .ok (.invokestatic 198, 3) := by decide +kernel
theorem dX6_mostHeld_21 : decode cX6_mostHeld 21 = .ok (.iload_n 1, 1) := by decide +kernel
theorem dX6_mostHeld_22 : decode cX6_mostHeld 22 = .ok (.if_icmp .le 16, 3) := by decide +kernel
theorem dX6_mostHeld_25 : decode cX6_mostHeld 25 = .ok (.aload_n 0, 1) := by decide +kernel
theorem dX6_mostHeld_26 : decode cX6_mostHeld 26 = .ok (.iload_n 2, 1) := by decide +kernel
theorem dX6_mostHeld_27 : decode cX6_mostHeld 27 = .ok (.invokevirtual 245, 3) := by decide +kernel
theorem dX6_mostHeld_30 : decode cX6_mostHeld 30 = .ok (.ifCond .eq 8, 3) := by decide +kernel
theorem dX6_mostHeld_33 : decode cX6_mostHeld 33 = .ok (.iload_n 2, 1) := by decide +kernel
theorem dX6_mostHeld_34 : decode cX6_mostHeld 34 = .ok (.invokestatic 198, 3) := by decide +kernel
theorem dX6_mostHeld_37 : decode cX6_mostHeld 37 = .ok (.istore_n 1, 1) := by decide +kernel
theorem dX6_mostHeld_38 : decode cX6_mostHeld 38 = .ok (.iinc 2 1, 3) := by decide +kernel
theorem dX6_mostHeld_41 : decode cX6_mostHeld 41 = .ok (.goto (-37), 3) := by decide +kernel
theorem dX6_mostHeld_44 : decode cX6_mostHeld 44 = .ok (.iload_n 1, 1) := by decide +kernel
theorem dX6_mostHeld_45 : decode cX6_mostHeld 45 = .ok (.ireturn, 1) := by decide +kernel
def pc_X6_mostHeld (i : Nat) : Nat := ([0, 4, 17, 25, 33, 38, 44] : List Nat).getD i 0
set_option maxRecDepth 20000 in
theorem ob_X6_mostHeld_0 {x : ip_Cx} {G : ip_Gl} {d : Nat} (X : ip_X x G tb 3 d 0 0 RX6 cX6_mostHeld) (hr : x.2.2.2.2.2.2.2.2.1.sig.returnType = (some .int)) (hnm : x.2.2.2.2.2.2.2.2.1.name = "mostHeld") : ip_okB x G 3 pc_X6_mostHeld 0 ([oI (0), oStI 1, oI (0), oStI 2], tGo 1) := ⟨_, okC (ok_ic X (by decide) dX6_mostHeld_0)
  (okC (ok_istn X rfl (by decide) dX6_mostHeld_1)
  (okC (ok_ic X (by decide) dX6_mostHeld_2)
  (okC (ok_istn X rfl (by decide) dX6_mostHeld_3)
  (okN)))), ok_fall rfl⟩
set_option maxRecDepth 20000 in
theorem ob_X6_mostHeld_1 {x : ip_Cx} {G : ip_Gl} {d : Nat} (X : ip_X x G tb 3 d 0 0 RX6 cX6_mostHeld) (hr : x.2.2.2.2.2.2.2.2.1.sig.returnType = (some .int)) (hnm : x.2.2.2.2.2.2.2.2.1.name = "mostHeld") : ip_okB x G 3 pc_X6_mostHeld 4 ([oLdI 2, oI (1), oLdA 0, oGet 6 0, oI (6), oAldI, oBI (fun a b => a <<< (b &&& 31))], tCm (fun a b => a < b) 2 6) := ⟨_, okC (ok_ildn X rfl dX6_mostHeld_4)
  (okC (ok_ic X (by decide) dX6_mostHeld_5)
  (okC (ok_aldn X rfl dX6_mostHeld_6)
  (okC (ok_get X (ci := 6) rfl (by decide) iw_X6 tw_795 dX6_mostHeld_7)
  (okC (ok_bi X (by decide) dX6_mostHeld_10)
  (okC (ok_iald X dX6_mostHeld_12)
  (okC (ok_ishl X dX6_mostHeld_13)
  (okN))))))), ok_cmge X (by decide) rfl dX6_mostHeld_14⟩
set_option maxRecDepth 20000 in
theorem ob_X6_mostHeld_2 {x : ip_Cx} {G : ip_Gl} {d : Nat} (X : ip_X x G tb 3 d 0 0 RX6 cX6_mostHeld) (hr : x.2.2.2.2.2.2.2.2.1.sig.returnType = (some .int)) (hnm : x.2.2.2.2.2.2.2.2.1.name = "mostHeld") : ip_okB x G 3 pc_X6_mostHeld 17 ([oLdI 2, oCal (ip_call tb d) 0 0 127 1 0 0, oLdI 1], tCm (fun a b => b < a) 3 5) := ⟨_, okC (ok_ildn X rfl dX6_mostHeld_17)
  (okC (ok_calS X (i := 198) (e := en_127) rfl mt_127 rfl rfl rfl tw_1022 tw_1023 dX6_mostHeld_18)
  (okC (ok_ildn X rfl dX6_mostHeld_21)
  (okN))), ok_cmle X (by decide) rfl dX6_mostHeld_22⟩
set_option maxRecDepth 20000 in
theorem ob_X6_mostHeld_3 {x : ip_Cx} {G : ip_Gl} {d : Nat} (X : ip_X x G tb 3 d 0 0 RX6 cX6_mostHeld) (hr : x.2.2.2.2.2.2.2.2.1.sig.returnType = (some .int)) (hnm : x.2.2.2.2.2.2.2.2.1.name = "mostHeld") : ip_okB x G 3 pc_X6_mostHeld 25 ([oLdA 0, oLdI 2, oCaV (ip_call tb d) 0 0 6 173 2 0 0], tIf (fun a => a = 0) 5 4) := ⟨_, okC (ok_aldn X rfl dX6_mostHeld_25)
  (okC (ok_ildn X rfl dX6_mostHeld_26)
  (okC (ok_calV X (i := 245) (e := en_173) rfl mt_173 rfl rfl rfl tw_1109 tw_1111 (Or.inl ⟨_, _, rfl⟩) tp_39 dX6_mostHeld_27)
  (okN))), ok_ifeq X (by decide) rfl dX6_mostHeld_30⟩
set_option maxRecDepth 20000 in
theorem ob_X6_mostHeld_4 {x : ip_Cx} {G : ip_Gl} {d : Nat} (X : ip_X x G tb 3 d 0 0 RX6 cX6_mostHeld) (hr : x.2.2.2.2.2.2.2.2.1.sig.returnType = (some .int)) (hnm : x.2.2.2.2.2.2.2.2.1.name = "mostHeld") : ip_okB x G 3 pc_X6_mostHeld 33 ([oLdI 2, oCal (ip_call tb d) 0 0 127 1 0 0, oStI 1], tGo 5) := ⟨_, okC (ok_ildn X rfl dX6_mostHeld_33)
  (okC (ok_calS X (i := 198) (e := en_127) rfl mt_127 rfl rfl rfl tw_1022 tw_1023 dX6_mostHeld_34)
  (okC (ok_istn X rfl (by decide) dX6_mostHeld_37)
  (okN))), ok_fall rfl⟩
set_option maxRecDepth 20000 in
theorem ob_X6_mostHeld_5 {x : ip_Cx} {G : ip_Gl} {d : Nat} (X : ip_X x G tb 3 d 0 0 RX6 cX6_mostHeld) (hr : x.2.2.2.2.2.2.2.2.1.sig.returnType = (some .int)) (hnm : x.2.2.2.2.2.2.2.2.1.name = "mostHeld") : ip_okB x G 3 pc_X6_mostHeld 38 ([oInc 2 (1)], tGo 1) := ⟨_, okC (ok_inc X (by decide) dX6_mostHeld_38)
  (okN), ok_go X (by decide) dX6_mostHeld_41⟩
set_option maxRecDepth 20000 in
theorem ob_X6_mostHeld_6 {x : ip_Cx} {G : ip_Gl} {d : Nat} (X : ip_X x G tb 3 d 0 0 RX6 cX6_mostHeld) (hr : x.2.2.2.2.2.2.2.2.1.sig.returnType = (some .int)) (hnm : x.2.2.2.2.2.2.2.2.1.name = "mostHeld") : ip_okB x G 3 pc_X6_mostHeld 44 ([oLdI 1], tRI .int 0 0) := ⟨_, okC (ok_ildn X rfl dX6_mostHeld_44)
  (okN), ok_ret X hr dX6_mostHeld_45⟩
theorem om_174 : ip_MOk tb en_174 pc_X6_mostHeld := fun x G d X hr hnm => ⟨ob_X6_mostHeld_0 X hr hnm, ⟨ob_X6_mostHeld_1 X hr hnm, ⟨ob_X6_mostHeld_2 X hr hnm, ⟨ob_X6_mostHeld_3 X hr hnm, ⟨ob_X6_mostHeld_4 X hr hnm, ⟨ob_X6_mostHeld_5 X hr hnm, ⟨ob_X6_mostHeld_6 X hr hnm, trivial⟩⟩⟩⟩⟩⟩⟩
theorem dX6_places_0 : decode cX6_places 0 = .ok (.iconst 0, 1) := by decide +kernel
theorem dX6_places_1 : decode cX6_places 1 = .ok (.istore_n 1, 1) := by decide +kernel
theorem dX6_places_2 : decode cX6_places 2 = .ok (.iconst 0, 1) := by decide +kernel
theorem dX6_places_3 : decode cX6_places 3 = .ok (.istore_n 2, 1) := by decide +kernel
theorem dX6_places_4 : decode cX6_places 4 = .ok (.iload_n 2, 1) := by decide +kernel
theorem dX6_places_5 : decode cX6_places 5 = .ok (.aload_n 0, 1) := by decide +kernel
theorem dX6_places_6 : decode cX6_places 6 = .ok (.getfield 7, 3) := by decide +kernel
theorem dX6_places_9 : decode cX6_places 9 = .ok (.bipush 6, 2) := by decide +kernel
theorem dX6_places_11 : decode cX6_places 11 = .ok (.iaload, 1) := by decide +kernel
theorem dX6_places_12 : decode cX6_places 12 = .ok (.if_icmp .ge 18, 3) := by decide +kernel
theorem dX6_places_15 : decode cX6_places 15 = .ok (.iload_n 1, 1) := by decide +kernel
theorem dX6_places_16 : decode cX6_places 16 = .ok (.aload_n 0, 1) := by decide +kernel
theorem dX6_places_17 : decode cX6_places 17 = .ok (.iload_n 2, 1) := by decide +kernel
theorem dX6_places_18 : decode cX6_places 18 = .ok (.iconst 2, 1) := by decide +kernel
theorem dX6_places_19 : decode cX6_places 19 = .ok (.invokevirtual 195, 3) := by decide +kernel
theorem dX6_places_22 : decode cX6_places 22 = .ok (.iadd, 1) := by decide +kernel
theorem dX6_places_23 : decode cX6_places 23 = .ok (.istore_n 1, 1) := by decide +kernel
theorem dX6_places_24 : decode cX6_places 24 = .ok (.iinc 2 1, 3) := by decide +kernel
theorem dX6_places_27 : decode cX6_places 27 = .ok (.goto (-23), 3) := by decide +kernel
theorem dX6_places_30 : decode cX6_places 30 = .ok (.iload_n 1, 1) := by decide +kernel
theorem dX6_places_31 : decode cX6_places 31 = .ok (.ireturn, 1) := by decide +kernel
def pc_X6_places (i : Nat) : Nat := ([0, 4, 15, 30] : List Nat).getD i 0
set_option maxRecDepth 20000 in
theorem ob_X6_places_0 {x : ip_Cx} {G : ip_Gl} {d : Nat} (X : ip_X x G tb 3 d 0 0 RX6 cX6_places) (hr : x.2.2.2.2.2.2.2.2.1.sig.returnType = (some .int)) (hnm : x.2.2.2.2.2.2.2.2.1.name = "places") : ip_okB x G 3 pc_X6_places 0 ([oI (0), oStI 1, oI (0), oStI 2], tGo 1) := ⟨_, okC (ok_ic X (by decide) dX6_places_0)
  (okC (ok_istn X rfl (by decide) dX6_places_1)
  (okC (ok_ic X (by decide) dX6_places_2)
  (okC (ok_istn X rfl (by decide) dX6_places_3)
  (okN)))), ok_fall rfl⟩
set_option maxRecDepth 20000 in
theorem ob_X6_places_1 {x : ip_Cx} {G : ip_Gl} {d : Nat} (X : ip_X x G tb 3 d 0 0 RX6 cX6_places) (hr : x.2.2.2.2.2.2.2.2.1.sig.returnType = (some .int)) (hnm : x.2.2.2.2.2.2.2.2.1.name = "places") : ip_okB x G 3 pc_X6_places 4 ([oLdI 2, oLdA 0, oGet 6 0, oI (6), oAldI], tCm (fun a b => a < b) 2 3) := ⟨_, okC (ok_ildn X rfl dX6_places_4)
  (okC (ok_aldn X rfl dX6_places_5)
  (okC (ok_get X (ci := 6) rfl (by decide) iw_X6 tw_795 dX6_places_6)
  (okC (ok_bi X (by decide) dX6_places_9)
  (okC (ok_iald X dX6_places_11)
  (okN))))), ok_cmge X (by decide) rfl dX6_places_12⟩
set_option maxRecDepth 20000 in
theorem ob_X6_places_2 {x : ip_Cx} {G : ip_Gl} {d : Nat} (X : ip_X x G tb 3 d 0 0 RX6 cX6_places) (hr : x.2.2.2.2.2.2.2.2.1.sig.returnType = (some .int)) (hnm : x.2.2.2.2.2.2.2.2.1.name = "places") : ip_okB x G 3 pc_X6_places 15 ([oLdI 1, oLdA 0, oLdI 2, oI (2), oCaV (ip_call tb d) 0 0 6 124 3 0 0, oBI (fun a b => a + b), oStI 1, oInc 2 (1)], tGo 1) := ⟨_, okC (ok_ildn X rfl dX6_places_15)
  (okC (ok_aldn X rfl dX6_places_16)
  (okC (ok_ildn X rfl dX6_places_17)
  (okC (ok_ic X (by decide) dX6_places_18)
  (okC (ok_calV X (i := 195) (e := en_124) rfl mt_124 rfl rfl rfl tw_1006 tw_1008 (Or.inl ⟨_, _, rfl⟩) tp_24 dX6_places_19)
  (okC (ok_iadd X dX6_places_22)
  (okC (ok_istn X rfl (by decide) dX6_places_23)
  (okC (ok_inc X (by decide) dX6_places_24)
  (okN)))))))), ok_go X (by decide) dX6_places_27⟩
set_option maxRecDepth 20000 in
theorem ob_X6_places_3 {x : ip_Cx} {G : ip_Gl} {d : Nat} (X : ip_X x G tb 3 d 0 0 RX6 cX6_places) (hr : x.2.2.2.2.2.2.2.2.1.sig.returnType = (some .int)) (hnm : x.2.2.2.2.2.2.2.2.1.name = "places") : ip_okB x G 3 pc_X6_places 30 ([oLdI 1], tRI .int 0 0) := ⟨_, okC (ok_ildn X rfl dX6_places_30)
  (okN), ok_ret X hr dX6_places_31⟩
theorem om_175 : ip_MOk tb en_175 pc_X6_places := fun x G d X hr hnm => ⟨ob_X6_places_0 X hr hnm, ⟨ob_X6_places_1 X hr hnm, ⟨ob_X6_places_2 X hr hnm, ⟨ob_X6_places_3 X hr hnm, trivial⟩⟩⟩⟩
theorem dX6_state_0 : decode cX6_state 0 = .ok (.iload_n 1, 1) := by decide +kernel
theorem dX6_state_1 : decode cX6_state 1 = .ok (.tableswitch 73 0 5 #[39, 46, 51, 56, 63, 68], 39) := by decide +kernel
theorem dX6_state_40 : decode cX6_state 40 = .ok (.aload_n 0, 1) := by decide +kernel
theorem dX6_state_41 : decode cX6_state 41 = .ok (.getfield 7, 3) := by decide +kernel
theorem dX6_state_44 : decode cX6_state 44 = .ok (.iconst 4, 1) := by decide +kernel
theorem dX6_state_45 : decode cX6_state 45 = .ok (.iaload, 1) := by decide +kernel
theorem dX6_state_46 : decode cX6_state 46 = .ok (.ireturn, 1) := by decide +kernel
theorem dX6_state_47 : decode cX6_state 47 = .ok (.aload_n 0, 1) := by decide +kernel
theorem dX6_state_48 : decode cX6_state 48 = .ok (.invokevirtual 229, 3) := by decide +kernel
theorem dX6_state_51 : decode cX6_state 51 = .ok (.ireturn, 1) := by decide +kernel
theorem dX6_state_52 : decode cX6_state 52 = .ok (.aload_n 0, 1) := by decide +kernel
theorem dX6_state_53 : decode cX6_state 53 = .ok (.invokevirtual 239, 3) := by decide +kernel
theorem dX6_state_56 : decode cX6_state 56 = .ok (.ireturn, 1) := by decide +kernel
theorem dX6_state_57 : decode cX6_state 57 = .ok (.aload_n 0, 1) := by decide +kernel
theorem dX6_state_58 : decode cX6_state 58 = .ok (.getfield 7, 3) := by decide +kernel
theorem dX6_state_61 : decode cX6_state 61 = .ok (.iconst 5, 1) := by decide +kernel
theorem dX6_state_62 : decode cX6_state 62 = .ok (.iaload, 1) := by decide +kernel
theorem dX6_state_63 : decode cX6_state 63 = .ok (.ireturn, 1) := by decide +kernel
theorem dX6_state_64 : decode cX6_state 64 = .ok (.aload_n 0, 1) := by decide +kernel
theorem dX6_state_65 : decode cX6_state 65 = .ok (.invokevirtual 248, 3) := by decide +kernel
theorem dX6_state_68 : decode cX6_state 68 = .ok (.ireturn, 1) := by decide +kernel
theorem dX6_state_69 : decode cX6_state 69 = .ok (.aload_n 0, 1) := by decide +kernel
theorem dX6_state_70 : decode cX6_state 70 = .ok (.invokevirtual 251, 3) := by decide +kernel
theorem dX6_state_73 : decode cX6_state 73 = .ok (.ireturn, 1) := by decide +kernel
theorem dX6_state_74 : decode cX6_state 74 = .ok (.iconst (-1), 1) := by decide +kernel
theorem dX6_state_75 : decode cX6_state 75 = .ok (.ireturn, 1) := by decide +kernel
def pc_X6_state (i : Nat) : Nat := ([0, 40, 47, 52, 57, 64, 69, 74] : List Nat).getD i 0
set_option maxRecDepth 20000 in
theorem ob_X6_state_0 {x : ip_Cx} {G : ip_Gl} {d : Nat} (X : ip_X x G tb 2 d 0 0 RX6 cX6_state) (hr : x.2.2.2.2.2.2.2.2.1.sig.returnType = (some .int)) (hnm : x.2.2.2.2.2.2.2.2.1.name = "state") : ip_okB x G 2 pc_X6_state 0 ([oLdI 1], tSw [(0, 1), (1, 2), (2, 3), (3, 4), (4, 5), (5, 6)] 7) := ⟨_, okC (ok_ildn X rfl dX6_state_0)
  (okN), ok_tsw X (by decide) (by decide +kernel) (by decide) dX6_state_1⟩
set_option maxRecDepth 20000 in
theorem ob_X6_state_1 {x : ip_Cx} {G : ip_Gl} {d : Nat} (X : ip_X x G tb 2 d 0 0 RX6 cX6_state) (hr : x.2.2.2.2.2.2.2.2.1.sig.returnType = (some .int)) (hnm : x.2.2.2.2.2.2.2.2.1.name = "state") : ip_okB x G 2 pc_X6_state 40 ([oLdA 0, oGet 6 0, oI (4), oAldI], tRI .int 0 0) := ⟨_, okC (ok_aldn X rfl dX6_state_40)
  (okC (ok_get X (ci := 6) rfl (by decide) iw_X6 tw_795 dX6_state_41)
  (okC (ok_ic X (by decide) dX6_state_44)
  (okC (ok_iald X dX6_state_45)
  (okN)))), ok_ret X hr dX6_state_46⟩
set_option maxRecDepth 20000 in
theorem ob_X6_state_2 {x : ip_Cx} {G : ip_Gl} {d : Nat} (X : ip_X x G tb 2 d 0 0 RX6 cX6_state) (hr : x.2.2.2.2.2.2.2.2.1.sig.returnType = (some .int)) (hnm : x.2.2.2.2.2.2.2.2.1.name = "state") : ip_okB x G 2 pc_X6_state 47 ([oLdA 0, oCaV (ip_call tb d) 0 0 6 163 1 0 0], tRI .int 0 0) := ⟨_, okC (ok_aldn X rfl dX6_state_47)
  (okC (ok_calV X (i := 229) (e := en_163) rfl mt_163 rfl rfl rfl tw_1068 tw_1070 (Or.inl ⟨_, _, rfl⟩) tp_33 dX6_state_48)
  (okN)), ok_ret X hr dX6_state_51⟩
set_option maxRecDepth 20000 in
theorem ob_X6_state_3 {x : ip_Cx} {G : ip_Gl} {d : Nat} (X : ip_X x G tb 2 d 0 0 RX6 cX6_state) (hr : x.2.2.2.2.2.2.2.2.1.sig.returnType = (some .int)) (hnm : x.2.2.2.2.2.2.2.2.1.name = "state") : ip_okB x G 2 pc_X6_state 52 ([oLdA 0, oCaV (ip_call tb d) 0 0 6 164 1 0 0], tRI .int 0 0) := ⟨_, okC (ok_aldn X rfl dX6_state_52)
  (okC (ok_calV X (i := 239) (e := en_164) rfl mt_164 rfl rfl rfl tw_1093 tw_1095 (Or.inl ⟨_, _, rfl⟩) tp_36 dX6_state_53)
  (okN)), ok_ret X hr dX6_state_56⟩
set_option maxRecDepth 20000 in
theorem ob_X6_state_4 {x : ip_Cx} {G : ip_Gl} {d : Nat} (X : ip_X x G tb 2 d 0 0 RX6 cX6_state) (hr : x.2.2.2.2.2.2.2.2.1.sig.returnType = (some .int)) (hnm : x.2.2.2.2.2.2.2.2.1.name = "state") : ip_okB x G 2 pc_X6_state 57 ([oLdA 0, oGet 6 0, oI (5), oAldI], tRI .int 0 0) := ⟨_, okC (ok_aldn X rfl dX6_state_57)
  (okC (ok_get X (ci := 6) rfl (by decide) iw_X6 tw_795 dX6_state_58)
  (okC (ok_ic X (by decide) dX6_state_61)
  (okC (ok_iald X dX6_state_62)
  (okN)))), ok_ret X hr dX6_state_63⟩
set_option maxRecDepth 20000 in
theorem ob_X6_state_5 {x : ip_Cx} {G : ip_Gl} {d : Nat} (X : ip_X x G tb 2 d 0 0 RX6 cX6_state) (hr : x.2.2.2.2.2.2.2.2.1.sig.returnType = (some .int)) (hnm : x.2.2.2.2.2.2.2.2.1.name = "state") : ip_okB x G 2 pc_X6_state 64 ([oLdA 0, oCaV (ip_call tb d) 0 0 6 175 1 0 0], tRI .int 0 0) := ⟨_, okC (ok_aldn X rfl dX6_state_64)
  (okC (ok_calV X (i := 248) (e := en_175) rfl mt_175 rfl rfl rfl tw_1101 tw_1103 (Or.inl ⟨_, _, rfl⟩) tp_37 dX6_state_65)
  (okN)), ok_ret X hr dX6_state_68⟩
set_option maxRecDepth 20000 in
theorem ob_X6_state_6 {x : ip_Cx} {G : ip_Gl} {d : Nat} (X : ip_X x G tb 2 d 0 0 RX6 cX6_state) (hr : x.2.2.2.2.2.2.2.2.1.sig.returnType = (some .int)) (hnm : x.2.2.2.2.2.2.2.2.1.name = "state") : ip_okB x G 2 pc_X6_state 69 ([oLdA 0, oCaV (ip_call tb d) 0 0 6 174 1 0 0], tRI .int 0 0) := ⟨_, okC (ok_aldn X rfl dX6_state_69)
  (okC (ok_calV X (i := 251) (e := en_174) rfl mt_174 rfl rfl rfl tw_1105 tw_1107 (Or.inl ⟨_, _, rfl⟩) tp_38 dX6_state_70)
  (okN)), ok_ret X hr dX6_state_73⟩
set_option maxRecDepth 20000 in
theorem ob_X6_state_7 {x : ip_Cx} {G : ip_Gl} {d : Nat} (X : ip_X x G tb 2 d 0 0 RX6 cX6_state) (hr : x.2.2.2.2.2.2.2.2.1.sig.returnType = (some .int)) (hnm : x.2.2.2.2.2.2.2.2.1.name = "state") : ip_okB x G 2 pc_X6_state 74 ([oI (-1)], tRI .int 0 0) := ⟨_, okC (ok_ic X (by decide) dX6_state_74)
  (okN), ok_ret X hr dX6_state_75⟩
theorem om_176 : ip_MOk tb en_176 pc_X6_state := fun x G d X hr hnm => ⟨ob_X6_state_0 X hr hnm, ⟨ob_X6_state_1 X hr hnm, ⟨ob_X6_state_2 X hr hnm, ⟨ob_X6_state_3 X hr hnm, ⟨ob_X6_state_4 X hr hnm, ⟨ob_X6_state_5 X hr hnm, ⟨ob_X6_state_6 X hr hnm, ⟨ob_X6_state_7 X hr hnm, trivial⟩⟩⟩⟩⟩⟩⟩⟩
theorem dX6_goesOn_0 : decode cX6_goesOn 0 = .ok (.aload_n 0, 1) := by decide +kernel
theorem dX6_goesOn_1 : decode cX6_goesOn 1 = .ok (.iload_n 1, 1) := by decide +kernel
theorem dX6_goesOn_2 : decode cX6_goesOn 2 = .ok (.invokevirtual 223, 3) := by decide +kernel
theorem dX6_goesOn_5 : decode cX6_goesOn 5 = .ok (.aload_n 0, 1) := by decide +kernel
theorem dX6_goesOn_6 : decode cX6_goesOn 6 = .ok (.getfield 7, 3) := by decide +kernel
theorem dX6_goesOn_9 : decode cX6_goesOn 9 = .ok (.iconst 4, 1) := by decide +kernel
theorem dX6_goesOn_10 : decode cX6_goesOn 10 = .ok (.dup2, 1) := by decide +kernel
theorem dX6_goesOn_11 : decode cX6_goesOn 11 = .ok (.iaload, 1) := by decide +kernel
theorem dX6_goesOn_12 : decode cX6_goesOn 12 = .ok (.iconst 1, 1) := by decide +kernel
theorem dX6_goesOn_13 : decode cX6_goesOn 13 = .ok (.iadd, 1) := by decide +kernel
theorem dX6_goesOn_14 : decode cX6_goesOn 14 = .ok (.iastore, 1) := by decide +kernel
theorem dX6_goesOn_15 : decode cX6_goesOn 15 = .ok (.return_, 1) := by decide +kernel
def pc_X6_goesOn (i : Nat) : Nat := ([0] : List Nat).getD i 0
set_option maxRecDepth 20000 in
theorem ob_X6_goesOn_0 {x : ip_Cx} {G : ip_Gl} {d : Nat} (X : ip_X x G tb 2 d 0 0 RX6 cX6_goesOn) (hr : x.2.2.2.2.2.2.2.2.1.sig.returnType = none) (hnm : x.2.2.2.2.2.2.2.2.1.name = "goesOn") : ip_okB x G 2 pc_X6_goesOn 0 ([oLdA 0, oLdI 1, oCaV (ip_call tb d) 0 0 6 161 2 0 0, oLdA 0, oGet 6 0, oI (4), oDp2, oAldI, oI (1), oBI (fun a b => a + b), oAstI], tRV 0 0) := ⟨_, okC (ok_aldn X rfl dX6_goesOn_0)
  (okC (ok_ildn X rfl dX6_goesOn_1)
  (okC (ok_calV X (i := 223) (e := en_161) rfl mt_161 rfl rfl rfl tw_1053 tw_1055 (Or.inl ⟨_, _, rfl⟩) tp_30 dX6_goesOn_2)
  (okC (ok_aldn X rfl dX6_goesOn_5)
  (okC (ok_get X (ci := 6) rfl (by decide) iw_X6 tw_795 dX6_goesOn_6)
  (okC (ok_ic X (by decide) dX6_goesOn_9)
  (okC (ok_dp2 X dX6_goesOn_10)
  (okC (ok_iald X dX6_goesOn_11)
  (okC (ok_ic X (by decide) dX6_goesOn_12)
  (okC (ok_iadd X dX6_goesOn_13)
  (okC (ok_iast X dX6_goesOn_14)
  (okN))))))))))), ok_vret X hr dX6_goesOn_15⟩
theorem om_177 : ip_MOk tb en_177 pc_X6_goesOn := fun x G d X hr hnm => ⟨ob_X6_goesOn_0 X hr hnm, trivial⟩
theorem dX6_placeBehind_0 : decode cX6_placeBehind 0 = .ok (.iconst 0, 1) := by decide +kernel
theorem dX6_placeBehind_1 : decode cX6_placeBehind 1 = .ok (.istore_n 3, 1) := by decide +kernel
theorem dX6_placeBehind_2 : decode cX6_placeBehind 2 = .ok (.iload_n 3, 1) := by decide +kernel
theorem dX6_placeBehind_3 : decode cX6_placeBehind 3 = .ok (.iload_n 2, 1) := by decide +kernel
theorem dX6_placeBehind_4 : decode cX6_placeBehind 4 = .ok (.if_icmp .ge 22, 3) := by decide +kernel
theorem dX6_placeBehind_7 : decode cX6_placeBehind 7 = .ok (.aload_n 0, 1) := by decide +kernel
theorem dX6_placeBehind_8 : decode cX6_placeBehind 8 = .ok (.iload_n 1, 1) := by decide +kernel
theorem dX6_placeBehind_9 : decode cX6_placeBehind 9 = .ok (.invokevirtual 216, 3) := by decide +kernel
theorem dX6_placeBehind_12 : decode cX6_placeBehind 12 = .ok (.ifCond .ne 14, 3) := by decide +kernel
theorem dX6_placeBehind_15 : decode cX6_placeBehind 15 = .ok (.aload_n 0, 1) := by decide +kernel
theorem dX6_placeBehind_16 : decode cX6_placeBehind 16 = .ok (.iload_n 1, 1) := by decide +kernel
theorem dX6_placeBehind_17 : decode cX6_placeBehind 17 = .ok (.invokevirtual 254, 3) := by decide +kernel
theorem dX6_placeBehind_20 : decode cX6_placeBehind 20 = .ok (.iinc 3 1, 3) := by decide +kernel
theorem dX6_placeBehind_23 : decode cX6_placeBehind 23 = .ok (.goto (-21), 3) := by decide +kernel
theorem dX6_placeBehind_26 : decode cX6_placeBehind 26 = .ok (.aload_n 0, 1) := by decide +kernel
theorem dX6_placeBehind_27 : decode cX6_placeBehind 27 = .ok (.iload_n 1, 1) := by decide +kernel
theorem dX6_placeBehind_28 : decode cX6_placeBehind 28 = .ok (.iconst 2, 1) := by decide +kernel
theorem dX6_placeBehind_29 : decode cX6_placeBehind 29 = .ok (.invokevirtual 195, 3) := by decide +kernel
theorem dX6_placeBehind_32 : decode cX6_placeBehind 32 = .ok (.istore_n 3, 1) := by decide +kernel
theorem dX6_placeBehind_33 : decode cX6_placeBehind 33 = .ok (.aload_n 0, 1) := by decide +kernel
theorem dX6_placeBehind_34 : decode cX6_placeBehind 34 = .ok (.getfield 19, 3) := by decide +kernel
theorem dX6_placeBehind_37 : decode cX6_placeBehind 37 = .ok (.aload_n 0, 1) := by decide +kernel
theorem dX6_placeBehind_38 : decode cX6_placeBehind 38 = .ok (.getfield 7, 3) := by decide +kernel
theorem dX6_placeBehind_41 : decode cX6_placeBehind 41 = .ok (.invokestatic 174, 3) := by decide +kernel
theorem dX6_placeBehind_44 : decode cX6_placeBehind 44 = .ok (.iload_n 3, 1) := by decide +kernel
theorem dX6_placeBehind_45 : decode cX6_placeBehind 45 = .ok (.ireturn, 1) := by decide +kernel
def pc_X6_placeBehind (i : Nat) : Nat := ([0, 2, 7, 15, 26] : List Nat).getD i 0
set_option maxRecDepth 20000 in
theorem ob_X6_placeBehind_0 {x : ip_Cx} {G : ip_Gl} {d : Nat} (X : ip_X x G tb 4 d 0 0 RX6 cX6_placeBehind) (hr : x.2.2.2.2.2.2.2.2.1.sig.returnType = (some .int)) (hnm : x.2.2.2.2.2.2.2.2.1.name = "placeBehind") : ip_okB x G 4 pc_X6_placeBehind 0 ([oI (0), oStI 3], tGo 1) := ⟨_, okC (ok_ic X (by decide) dX6_placeBehind_0)
  (okC (ok_istn X rfl (by decide) dX6_placeBehind_1)
  (okN)), ok_fall rfl⟩
set_option maxRecDepth 20000 in
theorem ob_X6_placeBehind_1 {x : ip_Cx} {G : ip_Gl} {d : Nat} (X : ip_X x G tb 4 d 0 0 RX6 cX6_placeBehind) (hr : x.2.2.2.2.2.2.2.2.1.sig.returnType = (some .int)) (hnm : x.2.2.2.2.2.2.2.2.1.name = "placeBehind") : ip_okB x G 4 pc_X6_placeBehind 2 ([oLdI 3, oLdI 2], tCm (fun a b => a < b) 2 4) := ⟨_, okC (ok_ildn X rfl dX6_placeBehind_2)
  (okC (ok_ildn X rfl dX6_placeBehind_3)
  (okN)), ok_cmge X (by decide) rfl dX6_placeBehind_4⟩
set_option maxRecDepth 20000 in
theorem ob_X6_placeBehind_2 {x : ip_Cx} {G : ip_Gl} {d : Nat} (X : ip_X x G tb 4 d 0 0 RX6 cX6_placeBehind) (hr : x.2.2.2.2.2.2.2.2.1.sig.returnType = (some .int)) (hnm : x.2.2.2.2.2.2.2.2.1.name = "placeBehind") : ip_okB x G 4 pc_X6_placeBehind 7 ([oLdA 0, oLdI 1, oCaV (ip_call tb d) 0 0 6 160 2 0 0], tIf (fun a => a = 0) 3 4) := ⟨_, okC (ok_aldn X rfl dX6_placeBehind_7)
  (okC (ok_ildn X rfl dX6_placeBehind_8)
  (okC (ok_calV X (i := 216) (e := en_160) rfl mt_160 rfl rfl rfl tw_1057 tw_1059 (Or.inl ⟨_, _, rfl⟩) tp_31 dX6_placeBehind_9)
  (okN))), ok_ifne X (by decide) rfl dX6_placeBehind_12⟩
set_option maxRecDepth 20000 in
theorem ob_X6_placeBehind_3 {x : ip_Cx} {G : ip_Gl} {d : Nat} (X : ip_X x G tb 4 d 0 0 RX6 cX6_placeBehind) (hr : x.2.2.2.2.2.2.2.2.1.sig.returnType = (some .int)) (hnm : x.2.2.2.2.2.2.2.2.1.name = "placeBehind") : ip_okB x G 4 pc_X6_placeBehind 15 ([oLdA 0, oLdI 1, oCaV (ip_call tb d) 0 0 6 177 2 0 0, oInc 3 (1)], tGo 1) := ⟨_, okC (ok_aldn X rfl dX6_placeBehind_15)
  (okC (ok_ildn X rfl dX6_placeBehind_16)
  (okC (ok_calV X (i := 254) (e := en_177) rfl mt_177 rfl rfl rfl tw_1125 tw_1127 (Or.inl ⟨_, _, rfl⟩) tp_42 dX6_placeBehind_17)
  (okC (ok_inc X (by decide) dX6_placeBehind_20)
  (okN)))), ok_go X (by decide) dX6_placeBehind_23⟩
set_option maxRecDepth 20000 in
theorem ob_X6_placeBehind_4 {x : ip_Cx} {G : ip_Gl} {d : Nat} (X : ip_X x G tb 4 d 0 0 RX6 cX6_placeBehind) (hr : x.2.2.2.2.2.2.2.2.1.sig.returnType = (some .int)) (hnm : x.2.2.2.2.2.2.2.2.1.name = "placeBehind") : ip_okB x G 4 pc_X6_placeBehind 26 ([oLdA 0, oLdI 1, oI (2), oCaV (ip_call tb d) 0 0 6 124 3 0 0, oStI 3, oLdA 0, oGet 6 3, oLdA 0, oGet 6 0, oCal (ip_call tb d) 0 0 122 2 0 0, oLdI 3], tRI .int 0 0) := ⟨_, okC (ok_aldn X rfl dX6_placeBehind_26)
  (okC (ok_ildn X rfl dX6_placeBehind_27)
  (okC (ok_ic X (by decide) dX6_placeBehind_28)
  (okC (ok_calV X (i := 195) (e := en_124) rfl mt_124 rfl rfl rfl tw_1006 tw_1008 (Or.inl ⟨_, _, rfl⟩) tp_24 dX6_placeBehind_29)
  (okC (ok_istn X rfl (by decide) dX6_placeBehind_32)
  (okC (ok_aldn X rfl dX6_placeBehind_33)
  (okC (ok_get X (ci := 6) rfl (by decide) iw_X6 tw_798 dX6_placeBehind_34)
  (okC (ok_aldn X rfl dX6_placeBehind_37)
  (okC (ok_get X (ci := 6) rfl (by decide) iw_X6 tw_795 dX6_placeBehind_38)
  (okC (ok_calS X (i := 174) (e := en_122) rfl mt_122 rfl rfl rfl tw_968 tw_969 dX6_placeBehind_41)
  (okC (ok_ildn X rfl dX6_placeBehind_44)
  (okN))))))))))), ok_ret X hr dX6_placeBehind_45⟩
theorem om_178 : ip_MOk tb en_178 pc_X6_placeBehind := fun x G d X hr hnm => ⟨ob_X6_placeBehind_0 X hr hnm, ⟨ob_X6_placeBehind_1 X hr hnm, ⟨ob_X6_placeBehind_2 X hr hnm, ⟨ob_X6_placeBehind_3 X hr hnm, ⟨ob_X6_placeBehind_4 X hr hnm, trivial⟩⟩⟩⟩⟩
theorem dX6_reaches_0 : decode cX6_reaches 0 = .ok (.aload_n 0, 1) := by decide +kernel
theorem dX6_reaches_1 : decode cX6_reaches 1 = .ok (.iload_n 1, 1) := by decide +kernel
theorem dX6_reaches_2 : decode cX6_reaches 2 = .ok (.invokevirtual 192, 3) := by decide +kernel
theorem dX6_reaches_5 : decode cX6_reaches 5 = .ok (.ifCond .eq 13, 3) := by decide +kernel
theorem dX6_reaches_8 : decode cX6_reaches 8 = .ok (.iload_n 2, 1) := by decide +kernel
theorem dX6_reaches_9 : decode cX6_reaches 9 = .ok (.iconst 0, 1) := by decide +kernel
theorem dX6_reaches_10 : decode cX6_reaches 10 = .ok (.bipush 60, 2) := by decide +kernel
theorem dX6_reaches_12 : decode cX6_reaches 12 = .ok (.invokestatic 57, 3) := by decide +kernel
theorem dX6_reaches_15 : decode cX6_reaches 15 = .ok (.ifCond .ne 5, 3) := by decide +kernel
theorem dX6_reaches_18 : decode cX6_reaches 18 = .ok (.iconst (-1), 1) := by decide +kernel
theorem dX6_reaches_19 : decode cX6_reaches 19 = .ok (.ireturn, 1) := by decide +kernel
theorem dX6_reaches_20 : decode cX6_reaches 20 = .ok (.aload_n 0, 1) := by decide +kernel
theorem dX6_reaches_21 : decode cX6_reaches 21 = .ok (.getfield 7, 3) := by decide +kernel
theorem dX6_reaches_24 : decode cX6_reaches 24 = .ok (.aload_n 0, 1) := by decide +kernel
theorem dX6_reaches_25 : decode cX6_reaches 25 = .ok (.getfield 19, 3) := by decide +kernel
theorem dX6_reaches_28 : decode cX6_reaches 28 = .ok (.invokestatic 174, 3) := by decide +kernel
theorem dX6_reaches_31 : decode cX6_reaches 31 = .ok (.aload_n 0, 1) := by decide +kernel
theorem dX6_reaches_32 : decode cX6_reaches 32 = .ok (.iload_n 1, 1) := by decide +kernel
theorem dX6_reaches_33 : decode cX6_reaches 33 = .ok (.iload_n 2, 1) := by decide +kernel
theorem dX6_reaches_34 : decode cX6_reaches 34 = .ok (.invokevirtual 257, 3) := by decide +kernel
theorem dX6_reaches_37 : decode cX6_reaches 37 = .ok (.ireturn, 1) := by decide +kernel
def pc_X6_reaches (i : Nat) : Nat := ([0, 8, 18, 20] : List Nat).getD i 0
set_option maxRecDepth 20000 in
theorem ob_X6_reaches_0 {x : ip_Cx} {G : ip_Gl} {d : Nat} (X : ip_X x G tb 3 d 0 0 RX6 cX6_reaches) (hr : x.2.2.2.2.2.2.2.2.1.sig.returnType = (some .int)) (hnm : x.2.2.2.2.2.2.2.2.1.name = "reaches") : ip_okB x G 3 pc_X6_reaches 0 ([oLdA 0, oLdI 1, oCaV (ip_call tb d) 0 0 6 123 2 0 0], tIf (fun a => a = 0) 2 1) := ⟨_, okC (ok_aldn X rfl dX6_reaches_0)
  (okC (ok_ildn X rfl dX6_reaches_1)
  (okC (ok_calV X (i := 192) (e := en_123) rfl mt_123 rfl rfl rfl tw_1002 tw_1004 (Or.inl ⟨_, _, rfl⟩) tp_23 dX6_reaches_2)
  (okN))), ok_ifeq X (by decide) rfl dX6_reaches_5⟩
set_option maxRecDepth 20000 in
theorem ob_X6_reaches_1 {x : ip_Cx} {G : ip_Gl} {d : Nat} (X : ip_X x G tb 3 d 0 0 RX6 cX6_reaches) (hr : x.2.2.2.2.2.2.2.2.1.sig.returnType = (some .int)) (hnm : x.2.2.2.2.2.2.2.2.1.name = "reaches") : ip_okB x G 3 pc_X6_reaches 8 ([oLdI 2, oI (0), oI (60), oCal (ip_call tb d) 0 0 120 3 0 0], tIf (fun a => a = 0) 2 3) := ⟨_, okC (ok_ildn X rfl dX6_reaches_8)
  (okC (ok_ic X (by decide) dX6_reaches_9)
  (okC (ok_bi X (by decide) dX6_reaches_10)
  (okC (ok_calS X (i := 57) (e := en_120) rfl mt_120 rfl rfl rfl tw_885 tw_886 dX6_reaches_12)
  (okN)))), ok_ifne X (by decide) rfl dX6_reaches_15⟩
set_option maxRecDepth 20000 in
theorem ob_X6_reaches_2 {x : ip_Cx} {G : ip_Gl} {d : Nat} (X : ip_X x G tb 3 d 0 0 RX6 cX6_reaches) (hr : x.2.2.2.2.2.2.2.2.1.sig.returnType = (some .int)) (hnm : x.2.2.2.2.2.2.2.2.1.name = "reaches") : ip_okB x G 3 pc_X6_reaches 18 ([oI (-1)], tRI .int 0 0) := ⟨_, okC (ok_ic X (by decide) dX6_reaches_18)
  (okN), ok_ret X hr dX6_reaches_19⟩
set_option maxRecDepth 20000 in
theorem ob_X6_reaches_3 {x : ip_Cx} {G : ip_Gl} {d : Nat} (X : ip_X x G tb 3 d 0 0 RX6 cX6_reaches) (hr : x.2.2.2.2.2.2.2.2.1.sig.returnType = (some .int)) (hnm : x.2.2.2.2.2.2.2.2.1.name = "reaches") : ip_okB x G 3 pc_X6_reaches 20 ([oLdA 0, oGet 6 0, oLdA 0, oGet 6 3, oCal (ip_call tb d) 0 0 122 2 0 0, oLdA 0, oLdI 1, oLdI 2, oCaV (ip_call tb d) 0 0 6 178 3 0 0], tRI .int 0 0) := ⟨_, okC (ok_aldn X rfl dX6_reaches_20)
  (okC (ok_get X (ci := 6) rfl (by decide) iw_X6 tw_795 dX6_reaches_21)
  (okC (ok_aldn X rfl dX6_reaches_24)
  (okC (ok_get X (ci := 6) rfl (by decide) iw_X6 tw_798 dX6_reaches_25)
  (okC (ok_calS X (i := 174) (e := en_122) rfl mt_122 rfl rfl rfl tw_968 tw_969 dX6_reaches_28)
  (okC (ok_aldn X rfl dX6_reaches_31)
  (okC (ok_ildn X rfl dX6_reaches_32)
  (okC (ok_ildn X rfl dX6_reaches_33)
  (okC (ok_calV X (i := 257) (e := en_178) rfl mt_178 rfl rfl rfl tw_1121 tw_1123 (Or.inl ⟨_, _, rfl⟩) tp_41 dX6_reaches_34)
  (okN))))))))), ok_ret X hr dX6_reaches_37⟩
theorem om_179 : ip_MOk tb en_179 pc_X6_reaches := fun x G d X hr hnm => ⟨ob_X6_reaches_0 X hr hnm, ⟨ob_X6_reaches_1 X hr hnm, ⟨ob_X6_reaches_2 X hr hnm, ⟨ob_X6_reaches_3 X hr hnm, trivial⟩⟩⟩⟩
theorem dX6_over_0 : decode cX6_over 0 = .ok (.aload_n 0, 1) := by decide +kernel
theorem dX6_over_1 : decode cX6_over 1 = .ok (.iload_n 1, 1) := by decide +kernel
theorem dX6_over_2 : decode cX6_over 2 = .ok (.invokevirtual 192, 3) := by decide +kernel
theorem dX6_over_5 : decode cX6_over 5 = .ok (.ifCond .ne 5, 3) := by decide +kernel
theorem dX6_over_8 : decode cX6_over 8 = .ok (.iconst (-1), 1) := by decide +kernel
theorem dX6_over_9 : decode cX6_over 9 = .ok (.ireturn, 1) := by decide +kernel
theorem dX6_over_10 : decode cX6_over 10 = .ok (.aload_n 0, 1) := by decide +kernel
theorem dX6_over_11 : decode cX6_over 11 = .ok (.getfield 7, 3) := by decide +kernel
theorem dX6_over_14 : decode cX6_over 14 = .ok (.aload_n 0, 1) := by decide +kernel
theorem dX6_over_15 : decode cX6_over 15 = .ok (.getfield 19, 3) := by decide +kernel
theorem dX6_over_18 : decode cX6_over 18 = .ok (.invokestatic 174, 3) := by decide +kernel
theorem dX6_over_21 : decode cX6_over 21 = .ok (.iconst 0, 1) := by decide +kernel
theorem dX6_over_22 : decode cX6_over 22 = .ok (.istore_n 2, 1) := by decide +kernel
theorem dX6_over_23 : decode cX6_over 23 = .ok (.iload_n 2, 1) := by decide +kernel
theorem dX6_over_24 : decode cX6_over 24 = .ok (.bipush 60, 2) := by decide +kernel
theorem dX6_over_26 : decode cX6_over 26 = .ok (.if_icmp .gt 22, 3) := by decide +kernel
theorem dX6_over_29 : decode cX6_over 29 = .ok (.aload_n 0, 1) := by decide +kernel
theorem dX6_over_30 : decode cX6_over 30 = .ok (.iload_n 1, 1) := by decide +kernel
theorem dX6_over_31 : decode cX6_over 31 = .ok (.invokevirtual 213, 3) := by decide +kernel
theorem dX6_over_34 : decode cX6_over 34 = .ok (.ifCond .ne 14, 3) := by decide +kernel
theorem dX6_over_37 : decode cX6_over 37 = .ok (.aload_n 0, 1) := by decide +kernel
theorem dX6_over_38 : decode cX6_over 38 = .ok (.iload_n 1, 1) := by decide +kernel
theorem dX6_over_39 : decode cX6_over 39 = .ok (.invokevirtual 254, 3) := by decide +kernel
theorem dX6_over_42 : decode cX6_over 42 = .ok (.iinc 2 1, 3) := by decide +kernel
theorem dX6_over_45 : decode cX6_over 45 = .ok (.goto (-22), 3) := by decide +kernel
theorem dX6_over_48 : decode cX6_over 48 = .ok (.aload_n 0, 1) := by decide +kernel
theorem dX6_over_49 : decode cX6_over 49 = .ok (.getfield 19, 3) := by decide +kernel
theorem dX6_over_52 : decode cX6_over 52 = .ok (.aload_n 0, 1) := by decide +kernel
theorem dX6_over_53 : decode cX6_over 53 = .ok (.getfield 7, 3) := by decide +kernel
theorem dX6_over_56 : decode cX6_over 56 = .ok (.invokestatic 174, 3) := by decide +kernel
theorem dX6_over_59 : decode cX6_over 59 = .ok (.iload_n 2, 1) := by decide +kernel
theorem dX6_over_60 : decode cX6_over 60 = .ok (.bipush 60, 2) := by decide +kernel
theorem dX6_over_62 : decode cX6_over 62 = .ok (.if_icmp .le 8, 3) := by decide +kernel
theorem dX6_over_65 : decode cX6_over 65 = .ok (.bipush (-3), 2) := by decide +kernel
theorem dX6_over_67 : decode cX6_over 67 = .ok (.goto 4, 3) := by decide +kernel
theorem dX6_over_70 : decode cX6_over 70 = .ok (.iload_n 2, 1) := by decide +kernel
theorem dX6_over_71 : decode cX6_over 71 = .ok (.ireturn, 1) := by decide +kernel
def pc_X6_over (i : Nat) : Nat := ([0, 8, 10, 23, 29, 37, 48, 65, 70, 71] : List Nat).getD i 0
set_option maxRecDepth 20000 in
theorem ob_X6_over_0 {x : ip_Cx} {G : ip_Gl} {d : Nat} (X : ip_X x G tb 3 d 0 0 RX6 cX6_over) (hr : x.2.2.2.2.2.2.2.2.1.sig.returnType = (some .int)) (hnm : x.2.2.2.2.2.2.2.2.1.name = "over") : ip_okB x G 3 pc_X6_over 0 ([oLdA 0, oLdI 1, oCaV (ip_call tb d) 0 0 6 123 2 0 0], tIf (fun a => a = 0) 1 2) := ⟨_, okC (ok_aldn X rfl dX6_over_0)
  (okC (ok_ildn X rfl dX6_over_1)
  (okC (ok_calV X (i := 192) (e := en_123) rfl mt_123 rfl rfl rfl tw_1002 tw_1004 (Or.inl ⟨_, _, rfl⟩) tp_23 dX6_over_2)
  (okN))), ok_ifne X (by decide) rfl dX6_over_5⟩
set_option maxRecDepth 20000 in
theorem ob_X6_over_1 {x : ip_Cx} {G : ip_Gl} {d : Nat} (X : ip_X x G tb 3 d 0 0 RX6 cX6_over) (hr : x.2.2.2.2.2.2.2.2.1.sig.returnType = (some .int)) (hnm : x.2.2.2.2.2.2.2.2.1.name = "over") : ip_okB x G 3 pc_X6_over 8 ([oI (-1)], tRI .int 0 0) := ⟨_, okC (ok_ic X (by decide) dX6_over_8)
  (okN), ok_ret X hr dX6_over_9⟩
set_option maxRecDepth 20000 in
theorem ob_X6_over_2 {x : ip_Cx} {G : ip_Gl} {d : Nat} (X : ip_X x G tb 3 d 0 0 RX6 cX6_over) (hr : x.2.2.2.2.2.2.2.2.1.sig.returnType = (some .int)) (hnm : x.2.2.2.2.2.2.2.2.1.name = "over") : ip_okB x G 3 pc_X6_over 10 ([oLdA 0, oGet 6 0, oLdA 0, oGet 6 3, oCal (ip_call tb d) 0 0 122 2 0 0, oI (0), oStI 2], tGo 3) := ⟨_, okC (ok_aldn X rfl dX6_over_10)
  (okC (ok_get X (ci := 6) rfl (by decide) iw_X6 tw_795 dX6_over_11)
  (okC (ok_aldn X rfl dX6_over_14)
  (okC (ok_get X (ci := 6) rfl (by decide) iw_X6 tw_798 dX6_over_15)
  (okC (ok_calS X (i := 174) (e := en_122) rfl mt_122 rfl rfl rfl tw_968 tw_969 dX6_over_18)
  (okC (ok_ic X (by decide) dX6_over_21)
  (okC (ok_istn X rfl (by decide) dX6_over_22)
  (okN))))))), ok_fall rfl⟩
set_option maxRecDepth 20000 in
theorem ob_X6_over_3 {x : ip_Cx} {G : ip_Gl} {d : Nat} (X : ip_X x G tb 3 d 0 0 RX6 cX6_over) (hr : x.2.2.2.2.2.2.2.2.1.sig.returnType = (some .int)) (hnm : x.2.2.2.2.2.2.2.2.1.name = "over") : ip_okB x G 3 pc_X6_over 23 ([oLdI 2, oI (60)], tCm (fun a b => b < a) 6 4) := ⟨_, okC (ok_ildn X rfl dX6_over_23)
  (okC (ok_bi X (by decide) dX6_over_24)
  (okN)), ok_cmgt X (by decide) rfl dX6_over_26⟩
set_option maxRecDepth 20000 in
theorem ob_X6_over_4 {x : ip_Cx} {G : ip_Gl} {d : Nat} (X : ip_X x G tb 3 d 0 0 RX6 cX6_over) (hr : x.2.2.2.2.2.2.2.2.1.sig.returnType = (some .int)) (hnm : x.2.2.2.2.2.2.2.2.1.name = "over") : ip_okB x G 3 pc_X6_over 29 ([oLdA 0, oLdI 1, oCaV (ip_call tb d) 0 0 6 159 2 0 0], tIf (fun a => a = 0) 5 6) := ⟨_, okC (ok_aldn X rfl dX6_over_29)
  (okC (ok_ildn X rfl dX6_over_30)
  (okC (ok_calV X (i := 213) (e := en_159) rfl mt_159 rfl rfl rfl tw_1061 tw_1063 (Or.inl ⟨_, _, rfl⟩) tp_32 dX6_over_31)
  (okN))), ok_ifne X (by decide) rfl dX6_over_34⟩
set_option maxRecDepth 20000 in
theorem ob_X6_over_5 {x : ip_Cx} {G : ip_Gl} {d : Nat} (X : ip_X x G tb 3 d 0 0 RX6 cX6_over) (hr : x.2.2.2.2.2.2.2.2.1.sig.returnType = (some .int)) (hnm : x.2.2.2.2.2.2.2.2.1.name = "over") : ip_okB x G 3 pc_X6_over 37 ([oLdA 0, oLdI 1, oCaV (ip_call tb d) 0 0 6 177 2 0 0, oInc 2 (1)], tGo 3) := ⟨_, okC (ok_aldn X rfl dX6_over_37)
  (okC (ok_ildn X rfl dX6_over_38)
  (okC (ok_calV X (i := 254) (e := en_177) rfl mt_177 rfl rfl rfl tw_1125 tw_1127 (Or.inl ⟨_, _, rfl⟩) tp_42 dX6_over_39)
  (okC (ok_inc X (by decide) dX6_over_42)
  (okN)))), ok_go X (by decide) dX6_over_45⟩
set_option maxRecDepth 20000 in
theorem ob_X6_over_6 {x : ip_Cx} {G : ip_Gl} {d : Nat} (X : ip_X x G tb 3 d 0 0 RX6 cX6_over) (hr : x.2.2.2.2.2.2.2.2.1.sig.returnType = (some .int)) (hnm : x.2.2.2.2.2.2.2.2.1.name = "over") : ip_okB x G 3 pc_X6_over 48 ([oLdA 0, oGet 6 3, oLdA 0, oGet 6 0, oCal (ip_call tb d) 0 0 122 2 0 0, oLdI 2, oI (60)], tCm (fun a b => b < a) 7 8) := ⟨_, okC (ok_aldn X rfl dX6_over_48)
  (okC (ok_get X (ci := 6) rfl (by decide) iw_X6 tw_798 dX6_over_49)
  (okC (ok_aldn X rfl dX6_over_52)
  (okC (ok_get X (ci := 6) rfl (by decide) iw_X6 tw_795 dX6_over_53)
  (okC (ok_calS X (i := 174) (e := en_122) rfl mt_122 rfl rfl rfl tw_968 tw_969 dX6_over_56)
  (okC (ok_ildn X rfl dX6_over_59)
  (okC (ok_bi X (by decide) dX6_over_60)
  (okN))))))), ok_cmle X (by decide) rfl dX6_over_62⟩
set_option maxRecDepth 20000 in
theorem ob_X6_over_7 {x : ip_Cx} {G : ip_Gl} {d : Nat} (X : ip_X x G tb 3 d 0 0 RX6 cX6_over) (hr : x.2.2.2.2.2.2.2.2.1.sig.returnType = (some .int)) (hnm : x.2.2.2.2.2.2.2.2.1.name = "over") : ip_okB x G 3 pc_X6_over 65 ([oI (-3)], tGo 9) := ⟨_, okC (ok_bi X (by decide) dX6_over_65)
  (okN), ok_go X (by decide) dX6_over_67⟩
set_option maxRecDepth 20000 in
theorem ob_X6_over_8 {x : ip_Cx} {G : ip_Gl} {d : Nat} (X : ip_X x G tb 3 d 0 0 RX6 cX6_over) (hr : x.2.2.2.2.2.2.2.2.1.sig.returnType = (some .int)) (hnm : x.2.2.2.2.2.2.2.2.1.name = "over") : ip_okB x G 3 pc_X6_over 70 ([oLdI 2], tGo 9) := ⟨_, okC (ok_ildn X rfl dX6_over_70)
  (okN), ok_fall rfl⟩
set_option maxRecDepth 20000 in
theorem ob_X6_over_9 {x : ip_Cx} {G : ip_Gl} {d : Nat} (X : ip_X x G tb 3 d 0 0 RX6 cX6_over) (hr : x.2.2.2.2.2.2.2.2.1.sig.returnType = (some .int)) (hnm : x.2.2.2.2.2.2.2.2.1.name = "over") : ip_okB x G 3 pc_X6_over 71 ([], tRI .int 0 0) := ⟨_, okN, ok_ret X hr dX6_over_71⟩
theorem om_180 : ip_MOk tb en_180 pc_X6_over := fun x G d X hr hnm => ⟨ob_X6_over_0 X hr hnm, ⟨ob_X6_over_1 X hr hnm, ⟨ob_X6_over_2 X hr hnm, ⟨ob_X6_over_3 X hr hnm, ⟨ob_X6_over_4 X hr hnm, ⟨ob_X6_over_5 X hr hnm, ⟨ob_X6_over_6 X hr hnm, ⟨ob_X6_over_7 X hr hnm, ⟨ob_X6_over_8 X hr hnm, ⟨ob_X6_over_9 X hr hnm, trivial⟩⟩⟩⟩⟩⟩⟩⟩⟩⟩
theorem dX6_falls_0 : decode cX6_falls 0 = .ok (.aload_n 0, 1) := by decide +kernel
theorem dX6_falls_1 : decode cX6_falls 1 = .ok (.iload_n 1, 1) := by decide +kernel
theorem dX6_falls_2 : decode cX6_falls 2 = .ok (.invokevirtual 192, 3) := by decide +kernel
theorem dX6_falls_5 : decode cX6_falls 5 = .ok (.ifCond .ne 5, 3) := by decide +kernel
theorem dX6_falls_8 : decode cX6_falls 8 = .ok (.iconst (-1), 1) := by decide +kernel
theorem dX6_falls_9 : decode cX6_falls 9 = .ok (.ireturn, 1) := by decide +kernel
theorem dX6_falls_10 : decode cX6_falls 10 = .ok (.aload_n 0, 1) := by decide +kernel
theorem dX6_falls_11 : decode cX6_falls 11 = .ok (.getfield 7, 3) := by decide +kernel
theorem dX6_falls_14 : decode cX6_falls 14 = .ok (.aload_n 0, 1) := by decide +kernel
theorem dX6_falls_15 : decode cX6_falls 15 = .ok (.getfield 19, 3) := by decide +kernel
theorem dX6_falls_18 : decode cX6_falls 18 = .ok (.invokestatic 174, 3) := by decide +kernel
theorem dX6_falls_21 : decode cX6_falls 21 = .ok (.iconst 0, 1) := by decide +kernel
theorem dX6_falls_22 : decode cX6_falls 22 = .ok (.istore_n 2, 1) := by decide +kernel
theorem dX6_falls_23 : decode cX6_falls 23 = .ok (.iload_n 2, 1) := by decide +kernel
theorem dX6_falls_24 : decode cX6_falls 24 = .ok (.bipush 60, 2) := by decide +kernel
theorem dX6_falls_26 : decode cX6_falls 26 = .ok (.if_icmp .gt 23, 3) := by decide +kernel
theorem dX6_falls_29 : decode cX6_falls 29 = .ok (.aload_n 0, 1) := by decide +kernel
theorem dX6_falls_30 : decode cX6_falls 30 = .ok (.iload_n 1, 1) := by decide +kernel
theorem dX6_falls_31 : decode cX6_falls 31 = .ok (.iconst 5, 1) := by decide +kernel
theorem dX6_falls_32 : decode cX6_falls 32 = .ok (.invokevirtual 195, 3) := by decide +kernel
theorem dX6_falls_35 : decode cX6_falls 35 = .ok (.ifCond .ne 14, 3) := by decide +kernel
theorem dX6_falls_38 : decode cX6_falls 38 = .ok (.aload_n 0, 1) := by decide +kernel
theorem dX6_falls_39 : decode cX6_falls 39 = .ok (.iload_n 1, 1) := by decide +kernel
theorem dX6_falls_40 : decode cX6_falls 40 = .ok (.invokevirtual 254, 3) := by decide +kernel
theorem dX6_falls_43 : decode cX6_falls 43 = .ok (.iinc 2 1, 3) := by decide +kernel
theorem dX6_falls_46 : decode cX6_falls 46 = .ok (.goto (-23), 3) := by decide +kernel
theorem dX6_falls_49 : decode cX6_falls 49 = .ok (.aload_n 0, 1) := by decide +kernel
theorem dX6_falls_50 : decode cX6_falls 50 = .ok (.getfield 19, 3) := by decide +kernel
theorem dX6_falls_53 : decode cX6_falls 53 = .ok (.aload_n 0, 1) := by decide +kernel
theorem dX6_falls_54 : decode cX6_falls 54 = .ok (.getfield 7, 3) := by decide +kernel
theorem dX6_falls_57 : decode cX6_falls 57 = .ok (.invokestatic 174, 3) := by decide +kernel
theorem dX6_falls_60 : decode cX6_falls 60 = .ok (.iload_n 2, 1) := by decide +kernel
theorem dX6_falls_61 : decode cX6_falls 61 = .ok (.bipush 60, 2) := by decide +kernel
theorem dX6_falls_63 : decode cX6_falls 63 = .ok (.if_icmp .le 8, 3) := by decide +kernel
theorem dX6_falls_66 : decode cX6_falls 66 = .ok (.bipush (-3), 2) := by decide +kernel
theorem dX6_falls_68 : decode cX6_falls 68 = .ok (.goto 4, 3) := by decide +kernel
theorem dX6_falls_71 : decode cX6_falls 71 = .ok (.iload_n 2, 1) := by decide +kernel
theorem dX6_falls_72 : decode cX6_falls 72 = .ok (.ireturn, 1) := by decide +kernel
def pc_X6_falls (i : Nat) : Nat := ([0, 8, 10, 23, 29, 38, 49, 66, 71, 72] : List Nat).getD i 0
set_option maxRecDepth 20000 in
theorem ob_X6_falls_0 {x : ip_Cx} {G : ip_Gl} {d : Nat} (X : ip_X x G tb 3 d 0 0 RX6 cX6_falls) (hr : x.2.2.2.2.2.2.2.2.1.sig.returnType = (some .int)) (hnm : x.2.2.2.2.2.2.2.2.1.name = "falls") : ip_okB x G 3 pc_X6_falls 0 ([oLdA 0, oLdI 1, oCaV (ip_call tb d) 0 0 6 123 2 0 0], tIf (fun a => a = 0) 1 2) := ⟨_, okC (ok_aldn X rfl dX6_falls_0)
  (okC (ok_ildn X rfl dX6_falls_1)
  (okC (ok_calV X (i := 192) (e := en_123) rfl mt_123 rfl rfl rfl tw_1002 tw_1004 (Or.inl ⟨_, _, rfl⟩) tp_23 dX6_falls_2)
  (okN))), ok_ifne X (by decide) rfl dX6_falls_5⟩
set_option maxRecDepth 20000 in
theorem ob_X6_falls_1 {x : ip_Cx} {G : ip_Gl} {d : Nat} (X : ip_X x G tb 3 d 0 0 RX6 cX6_falls) (hr : x.2.2.2.2.2.2.2.2.1.sig.returnType = (some .int)) (hnm : x.2.2.2.2.2.2.2.2.1.name = "falls") : ip_okB x G 3 pc_X6_falls 8 ([oI (-1)], tRI .int 0 0) := ⟨_, okC (ok_ic X (by decide) dX6_falls_8)
  (okN), ok_ret X hr dX6_falls_9⟩
set_option maxRecDepth 20000 in
theorem ob_X6_falls_2 {x : ip_Cx} {G : ip_Gl} {d : Nat} (X : ip_X x G tb 3 d 0 0 RX6 cX6_falls) (hr : x.2.2.2.2.2.2.2.2.1.sig.returnType = (some .int)) (hnm : x.2.2.2.2.2.2.2.2.1.name = "falls") : ip_okB x G 3 pc_X6_falls 10 ([oLdA 0, oGet 6 0, oLdA 0, oGet 6 3, oCal (ip_call tb d) 0 0 122 2 0 0, oI (0), oStI 2], tGo 3) := ⟨_, okC (ok_aldn X rfl dX6_falls_10)
  (okC (ok_get X (ci := 6) rfl (by decide) iw_X6 tw_795 dX6_falls_11)
  (okC (ok_aldn X rfl dX6_falls_14)
  (okC (ok_get X (ci := 6) rfl (by decide) iw_X6 tw_798 dX6_falls_15)
  (okC (ok_calS X (i := 174) (e := en_122) rfl mt_122 rfl rfl rfl tw_968 tw_969 dX6_falls_18)
  (okC (ok_ic X (by decide) dX6_falls_21)
  (okC (ok_istn X rfl (by decide) dX6_falls_22)
  (okN))))))), ok_fall rfl⟩
set_option maxRecDepth 20000 in
theorem ob_X6_falls_3 {x : ip_Cx} {G : ip_Gl} {d : Nat} (X : ip_X x G tb 3 d 0 0 RX6 cX6_falls) (hr : x.2.2.2.2.2.2.2.2.1.sig.returnType = (some .int)) (hnm : x.2.2.2.2.2.2.2.2.1.name = "falls") : ip_okB x G 3 pc_X6_falls 23 ([oLdI 2, oI (60)], tCm (fun a b => b < a) 6 4) := ⟨_, okC (ok_ildn X rfl dX6_falls_23)
  (okC (ok_bi X (by decide) dX6_falls_24)
  (okN)), ok_cmgt X (by decide) rfl dX6_falls_26⟩
set_option maxRecDepth 20000 in
theorem ob_X6_falls_4 {x : ip_Cx} {G : ip_Gl} {d : Nat} (X : ip_X x G tb 3 d 0 0 RX6 cX6_falls) (hr : x.2.2.2.2.2.2.2.2.1.sig.returnType = (some .int)) (hnm : x.2.2.2.2.2.2.2.2.1.name = "falls") : ip_okB x G 3 pc_X6_falls 29 ([oLdA 0, oLdI 1, oI (5), oCaV (ip_call tb d) 0 0 6 124 3 0 0], tIf (fun a => a = 0) 5 6) := ⟨_, okC (ok_aldn X rfl dX6_falls_29)
  (okC (ok_ildn X rfl dX6_falls_30)
  (okC (ok_ic X (by decide) dX6_falls_31)
  (okC (ok_calV X (i := 195) (e := en_124) rfl mt_124 rfl rfl rfl tw_1006 tw_1008 (Or.inl ⟨_, _, rfl⟩) tp_24 dX6_falls_32)
  (okN)))), ok_ifne X (by decide) rfl dX6_falls_35⟩
set_option maxRecDepth 20000 in
theorem ob_X6_falls_5 {x : ip_Cx} {G : ip_Gl} {d : Nat} (X : ip_X x G tb 3 d 0 0 RX6 cX6_falls) (hr : x.2.2.2.2.2.2.2.2.1.sig.returnType = (some .int)) (hnm : x.2.2.2.2.2.2.2.2.1.name = "falls") : ip_okB x G 3 pc_X6_falls 38 ([oLdA 0, oLdI 1, oCaV (ip_call tb d) 0 0 6 177 2 0 0, oInc 2 (1)], tGo 3) := ⟨_, okC (ok_aldn X rfl dX6_falls_38)
  (okC (ok_ildn X rfl dX6_falls_39)
  (okC (ok_calV X (i := 254) (e := en_177) rfl mt_177 rfl rfl rfl tw_1125 tw_1127 (Or.inl ⟨_, _, rfl⟩) tp_42 dX6_falls_40)
  (okC (ok_inc X (by decide) dX6_falls_43)
  (okN)))), ok_go X (by decide) dX6_falls_46⟩
set_option maxRecDepth 20000 in
theorem ob_X6_falls_6 {x : ip_Cx} {G : ip_Gl} {d : Nat} (X : ip_X x G tb 3 d 0 0 RX6 cX6_falls) (hr : x.2.2.2.2.2.2.2.2.1.sig.returnType = (some .int)) (hnm : x.2.2.2.2.2.2.2.2.1.name = "falls") : ip_okB x G 3 pc_X6_falls 49 ([oLdA 0, oGet 6 3, oLdA 0, oGet 6 0, oCal (ip_call tb d) 0 0 122 2 0 0, oLdI 2, oI (60)], tCm (fun a b => b < a) 7 8) := ⟨_, okC (ok_aldn X rfl dX6_falls_49)
  (okC (ok_get X (ci := 6) rfl (by decide) iw_X6 tw_798 dX6_falls_50)
  (okC (ok_aldn X rfl dX6_falls_53)
  (okC (ok_get X (ci := 6) rfl (by decide) iw_X6 tw_795 dX6_falls_54)
  (okC (ok_calS X (i := 174) (e := en_122) rfl mt_122 rfl rfl rfl tw_968 tw_969 dX6_falls_57)
  (okC (ok_ildn X rfl dX6_falls_60)
  (okC (ok_bi X (by decide) dX6_falls_61)
  (okN))))))), ok_cmle X (by decide) rfl dX6_falls_63⟩
set_option maxRecDepth 20000 in
theorem ob_X6_falls_7 {x : ip_Cx} {G : ip_Gl} {d : Nat} (X : ip_X x G tb 3 d 0 0 RX6 cX6_falls) (hr : x.2.2.2.2.2.2.2.2.1.sig.returnType = (some .int)) (hnm : x.2.2.2.2.2.2.2.2.1.name = "falls") : ip_okB x G 3 pc_X6_falls 66 ([oI (-3)], tGo 9) := ⟨_, okC (ok_bi X (by decide) dX6_falls_66)
  (okN), ok_go X (by decide) dX6_falls_68⟩
set_option maxRecDepth 20000 in
theorem ob_X6_falls_8 {x : ip_Cx} {G : ip_Gl} {d : Nat} (X : ip_X x G tb 3 d 0 0 RX6 cX6_falls) (hr : x.2.2.2.2.2.2.2.2.1.sig.returnType = (some .int)) (hnm : x.2.2.2.2.2.2.2.2.1.name = "falls") : ip_okB x G 3 pc_X6_falls 71 ([oLdI 2], tGo 9) := ⟨_, okC (ok_ildn X rfl dX6_falls_71)
  (okN), ok_fall rfl⟩
set_option maxRecDepth 20000 in
theorem ob_X6_falls_9 {x : ip_Cx} {G : ip_Gl} {d : Nat} (X : ip_X x G tb 3 d 0 0 RX6 cX6_falls) (hr : x.2.2.2.2.2.2.2.2.1.sig.returnType = (some .int)) (hnm : x.2.2.2.2.2.2.2.2.1.name = "falls") : ip_okB x G 3 pc_X6_falls 72 ([], tRI .int 0 0) := ⟨_, okN, ok_ret X hr dX6_falls_72⟩
theorem om_181 : ip_MOk tb en_181 pc_X6_falls := fun x G d X hr hnm => ⟨ob_X6_falls_0 X hr hnm, ⟨ob_X6_falls_1 X hr hnm, ⟨ob_X6_falls_2 X hr hnm, ⟨ob_X6_falls_3 X hr hnm, ⟨ob_X6_falls_4 X hr hnm, ⟨ob_X6_falls_5 X hr hnm, ⟨ob_X6_falls_6 X hr hnm, ⟨ob_X6_falls_7 X hr hnm, ⟨ob_X6_falls_8 X hr hnm, ⟨ob_X6_falls_9 X hr hnm, trivial⟩⟩⟩⟩⟩⟩⟩⟩⟩⟩
theorem dX6_end_0 : decode cX6_end 0 = .ok (.aload_n 0, 1) := by decide +kernel
theorem dX6_end_1 : decode cX6_end 1 = .ok (.getfield 7, 3) := by decide +kernel
theorem dX6_end_4 : decode cX6_end 4 = .ok (.aload_n 0, 1) := by decide +kernel
theorem dX6_end_5 : decode cX6_end 5 = .ok (.getfield 19, 3) := by decide +kernel
theorem dX6_end_8 : decode cX6_end 8 = .ok (.invokestatic 174, 3) := by decide +kernel
theorem dX6_end_11 : decode cX6_end 11 = .ok (.iconst 0, 1) := by decide +kernel
theorem dX6_end_12 : decode cX6_end 12 = .ok (.istore_n 1, 1) := by decide +kernel
theorem dX6_end_13 : decode cX6_end 13 = .ok (.iload_n 1, 1) := by decide +kernel
theorem dX6_end_14 : decode cX6_end 14 = .ok (.bipush 60, 2) := by decide +kernel
theorem dX6_end_16 : decode cX6_end 16 = .ok (.if_icmp .gt 36, 3) := by decide +kernel
theorem dX6_end_19 : decode cX6_end 19 = .ok (.aload_n 0, 1) := by decide +kernel
theorem dX6_end_20 : decode cX6_end 20 = .ok (.invokevirtual 229, 3) := by decide +kernel
theorem dX6_end_23 : decode cX6_end 23 = .ok (.aload_n 0, 1) := by decide +kernel
theorem dX6_end_24 : decode cX6_end 24 = .ok (.invokevirtual 239, 3) := by decide +kernel
theorem dX6_end_27 : decode cX6_end 27 = .ok (.ior, 1) := by decide +kernel
theorem dX6_end_28 : decode cX6_end 28 = .ok (.iconst 1, 1) := by decide +kernel
theorem dX6_end_29 : decode cX6_end 29 = .ok (.aload_n 0, 1) := by decide +kernel
theorem dX6_end_30 : decode cX6_end 30 = .ok (.getfield 7, 3) := by decide +kernel
theorem dX6_end_33 : decode cX6_end 33 = .ok (.bipush 6, 2) := by decide +kernel
theorem dX6_end_35 : decode cX6_end 35 = .ok (.iaload, 1) := by decide +kernel
theorem dX6_end_36 : decode cX6_end 36 = .ok (.ishl, 1) := by decide +kernel
theorem dX6_end_37 : decode cX6_end 37 = .ok (.iconst 1, 1) := by decide +kernel
theorem dX6_end_38 : decode cX6_end 38 = .ok (.isub, 1) := by decide +kernel
theorem dX6_end_39 : decode cX6_end 39 = .ok (.if_icmp .eq 13, 3) := by decide +kernel
theorem dX6_end_42 : decode cX6_end 42 = .ok (.aload_n 0, 1) := by decide +kernel
theorem dX6_end_43 : decode cX6_end 43 = .ok (.invokevirtual 226, 3) := by decide +kernel
theorem dX6_end_46 : decode cX6_end 46 = .ok (.iinc 1 1, 3) := by decide +kernel
theorem dX6_end_49 : decode cX6_end 49 = .ok (.goto (-36), 3) := by decide +kernel
theorem dX6_end_52 : decode cX6_end 52 = .ok (.aload_n 0, 1) := by decide +kernel
theorem dX6_end_53 : decode cX6_end 53 = .ok (.getfield 19, 3) := by decide +kernel
theorem dX6_end_56 : decode cX6_end 56 = .ok (.aload_n 0, 1) := by decide +kernel
theorem dX6_end_57 : decode cX6_end 57 = .ok (.getfield 7, 3) := by decide +kernel
theorem dX6_end_60 : decode cX6_end 60 = .ok (.invokestatic 174, 3) := by decide +kernel
theorem dX6_end_63 : decode cX6_end 63 = .ok (.iload_n 1, 1) := by decide +kernel
theorem dX6_end_64 : decode cX6_end 64 = .ok (.bipush 60, 2) := by decide +kernel
theorem dX6_end_66 : decode cX6_end 66 = .ok (.if_icmp .le 8, 3) := by decide +kernel
theorem dX6_end_69 : decode cX6_end 69 = .ok (.bipush (-3), 2) := by decide +kernel
theorem dX6_end_71 : decode cX6_end 71 = .ok (.goto 4, 3) := by decide +kernel
theorem dX6_end_74 : decode cX6_end 74 = .ok (.iload_n 1, 1) := by decide +kernel
theorem dX6_end_75 : decode cX6_end 75 = .ok (.ireturn, 1) := by decide +kernel
def pc_X6_end (i : Nat) : Nat := ([0, 13, 19, 42, 52, 69, 74, 75] : List Nat).getD i 0
set_option maxRecDepth 20000 in
theorem ob_X6_end_0 {x : ip_Cx} {G : ip_Gl} {d : Nat} (X : ip_X x G tb 2 d 0 0 RX6 cX6_end) (hr : x.2.2.2.2.2.2.2.2.1.sig.returnType = (some .int)) (hnm : x.2.2.2.2.2.2.2.2.1.name = "end") : ip_okB x G 2 pc_X6_end 0 ([oLdA 0, oGet 6 0, oLdA 0, oGet 6 3, oCal (ip_call tb d) 0 0 122 2 0 0, oI (0), oStI 1], tGo 1) := ⟨_, okC (ok_aldn X rfl dX6_end_0)
  (okC (ok_get X (ci := 6) rfl (by decide) iw_X6 tw_795 dX6_end_1)
  (okC (ok_aldn X rfl dX6_end_4)
  (okC (ok_get X (ci := 6) rfl (by decide) iw_X6 tw_798 dX6_end_5)
  (okC (ok_calS X (i := 174) (e := en_122) rfl mt_122 rfl rfl rfl tw_968 tw_969 dX6_end_8)
  (okC (ok_ic X (by decide) dX6_end_11)
  (okC (ok_istn X rfl (by decide) dX6_end_12)
  (okN))))))), ok_fall rfl⟩
set_option maxRecDepth 20000 in
theorem ob_X6_end_1 {x : ip_Cx} {G : ip_Gl} {d : Nat} (X : ip_X x G tb 2 d 0 0 RX6 cX6_end) (hr : x.2.2.2.2.2.2.2.2.1.sig.returnType = (some .int)) (hnm : x.2.2.2.2.2.2.2.2.1.name = "end") : ip_okB x G 2 pc_X6_end 13 ([oLdI 1, oI (60)], tCm (fun a b => b < a) 4 2) := ⟨_, okC (ok_ildn X rfl dX6_end_13)
  (okC (ok_bi X (by decide) dX6_end_14)
  (okN)), ok_cmgt X (by decide) rfl dX6_end_16⟩
set_option maxRecDepth 20000 in
theorem ob_X6_end_2 {x : ip_Cx} {G : ip_Gl} {d : Nat} (X : ip_X x G tb 2 d 0 0 RX6 cX6_end) (hr : x.2.2.2.2.2.2.2.2.1.sig.returnType = (some .int)) (hnm : x.2.2.2.2.2.2.2.2.1.name = "end") : ip_okB x G 2 pc_X6_end 19 ([oLdA 0, oCaV (ip_call tb d) 0 0 6 163 1 0 0, oLdA 0, oCaV (ip_call tb d) 0 0 6 164 1 0 0, oBI (fun a b => a ||| b), oI (1), oLdA 0, oGet 6 0, oI (6), oAldI, oBI (fun a b => a <<< (b &&& 31)), oI (1), oBI (fun a b => a - b)], tCm (fun a b => a = b) 4 3) := ⟨_, okC (ok_aldn X rfl dX6_end_19)
  (okC (ok_calV X (i := 229) (e := en_163) rfl mt_163 rfl rfl rfl tw_1068 tw_1070 (Or.inl ⟨_, _, rfl⟩) tp_33 dX6_end_20)
  (okC (ok_aldn X rfl dX6_end_23)
  (okC (ok_calV X (i := 239) (e := en_164) rfl mt_164 rfl rfl rfl tw_1093 tw_1095 (Or.inl ⟨_, _, rfl⟩) tp_36 dX6_end_24)
  (okC (ok_ior X dX6_end_27)
  (okC (ok_ic X (by decide) dX6_end_28)
  (okC (ok_aldn X rfl dX6_end_29)
  (okC (ok_get X (ci := 6) rfl (by decide) iw_X6 tw_795 dX6_end_30)
  (okC (ok_bi X (by decide) dX6_end_33)
  (okC (ok_iald X dX6_end_35)
  (okC (ok_ishl X dX6_end_36)
  (okC (ok_ic X (by decide) dX6_end_37)
  (okC (ok_isub X dX6_end_38)
  (okN))))))))))))), ok_cmeq X (by decide) rfl dX6_end_39⟩
set_option maxRecDepth 20000 in
theorem ob_X6_end_3 {x : ip_Cx} {G : ip_Gl} {d : Nat} (X : ip_X x G tb 2 d 0 0 RX6 cX6_end) (hr : x.2.2.2.2.2.2.2.2.1.sig.returnType = (some .int)) (hnm : x.2.2.2.2.2.2.2.2.1.name = "end") : ip_okB x G 2 pc_X6_end 42 ([oLdA 0, oCaV (ip_call tb d) 0 0 6 162 1 0 0, oInc 1 (1)], tGo 1) := ⟨_, okC (ok_aldn X rfl dX6_end_42)
  (okC (ok_calV X (i := 226) (e := en_162) rfl mt_162 rfl rfl rfl tw_1049 tw_1051 (Or.inl ⟨_, _, rfl⟩) tp_29 dX6_end_43)
  (okC (ok_inc X (by decide) dX6_end_46)
  (okN))), ok_go X (by decide) dX6_end_49⟩
set_option maxRecDepth 20000 in
theorem ob_X6_end_4 {x : ip_Cx} {G : ip_Gl} {d : Nat} (X : ip_X x G tb 2 d 0 0 RX6 cX6_end) (hr : x.2.2.2.2.2.2.2.2.1.sig.returnType = (some .int)) (hnm : x.2.2.2.2.2.2.2.2.1.name = "end") : ip_okB x G 2 pc_X6_end 52 ([oLdA 0, oGet 6 3, oLdA 0, oGet 6 0, oCal (ip_call tb d) 0 0 122 2 0 0, oLdI 1, oI (60)], tCm (fun a b => b < a) 5 6) := ⟨_, okC (ok_aldn X rfl dX6_end_52)
  (okC (ok_get X (ci := 6) rfl (by decide) iw_X6 tw_798 dX6_end_53)
  (okC (ok_aldn X rfl dX6_end_56)
  (okC (ok_get X (ci := 6) rfl (by decide) iw_X6 tw_795 dX6_end_57)
  (okC (ok_calS X (i := 174) (e := en_122) rfl mt_122 rfl rfl rfl tw_968 tw_969 dX6_end_60)
  (okC (ok_ildn X rfl dX6_end_63)
  (okC (ok_bi X (by decide) dX6_end_64)
  (okN))))))), ok_cmle X (by decide) rfl dX6_end_66⟩
set_option maxRecDepth 20000 in
theorem ob_X6_end_5 {x : ip_Cx} {G : ip_Gl} {d : Nat} (X : ip_X x G tb 2 d 0 0 RX6 cX6_end) (hr : x.2.2.2.2.2.2.2.2.1.sig.returnType = (some .int)) (hnm : x.2.2.2.2.2.2.2.2.1.name = "end") : ip_okB x G 2 pc_X6_end 69 ([oI (-3)], tGo 7) := ⟨_, okC (ok_bi X (by decide) dX6_end_69)
  (okN), ok_go X (by decide) dX6_end_71⟩
set_option maxRecDepth 20000 in
theorem ob_X6_end_6 {x : ip_Cx} {G : ip_Gl} {d : Nat} (X : ip_X x G tb 2 d 0 0 RX6 cX6_end) (hr : x.2.2.2.2.2.2.2.2.1.sig.returnType = (some .int)) (hnm : x.2.2.2.2.2.2.2.2.1.name = "end") : ip_okB x G 2 pc_X6_end 74 ([oLdI 1], tGo 7) := ⟨_, okC (ok_ildn X rfl dX6_end_74)
  (okN), ok_fall rfl⟩
set_option maxRecDepth 20000 in
theorem ob_X6_end_7 {x : ip_Cx} {G : ip_Gl} {d : Nat} (X : ip_X x G tb 2 d 0 0 RX6 cX6_end) (hr : x.2.2.2.2.2.2.2.2.1.sig.returnType = (some .int)) (hnm : x.2.2.2.2.2.2.2.2.1.name = "end") : ip_okB x G 2 pc_X6_end 75 ([], tRI .int 0 0) := ⟨_, okN, ok_ret X hr dX6_end_75⟩
theorem om_182 : ip_MOk tb en_182 pc_X6_end := fun x G d X hr hnm => ⟨ob_X6_end_0 X hr hnm, ⟨ob_X6_end_1 X hr hnm, ⟨ob_X6_end_2 X hr hnm, ⟨ob_X6_end_3 X hr hnm, ⟨ob_X6_end_4 X hr hnm, ⟨ob_X6_end_5 X hr hnm, ⟨ob_X6_end_6 X hr hnm, ⟨ob_X6_end_7 X hr hnm, trivial⟩⟩⟩⟩⟩⟩⟩⟩
theorem dX6_comesOver_0 : decode cX6_comesOver 0 = .ok (.aload_n 0, 1) := by decide +kernel
theorem dX6_comesOver_1 : decode cX6_comesOver 1 = .ok (.iload_n 1, 1) := by decide +kernel
theorem dX6_comesOver_2 : decode cX6_comesOver 2 = .ok (.iconst 3, 1) := by decide +kernel
theorem dX6_comesOver_3 : decode cX6_comesOver 3 = .ok (.iload_n 3, 1) := by decide +kernel
theorem dX6_comesOver_4 : decode cX6_comesOver 4 = .ok (.invokevirtual 188, 3) := by decide +kernel
theorem dX6_comesOver_7 : decode cX6_comesOver 7 = .ok (.aload_n 0, 1) := by decide +kernel
theorem dX6_comesOver_8 : decode cX6_comesOver 8 = .ok (.iload_n 1, 1) := by decide +kernel
theorem dX6_comesOver_9 : decode cX6_comesOver 9 = .ok (.iconst 4, 1) := by decide +kernel
theorem dX6_comesOver_10 : decode cX6_comesOver 10 = .ok (.iload 4, 2) := by decide +kernel
theorem dX6_comesOver_12 : decode cX6_comesOver 12 = .ok (.invokevirtual 188, 3) := by decide +kernel
theorem dX6_comesOver_15 : decode cX6_comesOver 15 = .ok (.aload_n 0, 1) := by decide +kernel
theorem dX6_comesOver_16 : decode cX6_comesOver 16 = .ok (.iload_n 1, 1) := by decide +kernel
theorem dX6_comesOver_17 : decode cX6_comesOver 17 = .ok (.iload_n 2, 1) := by decide +kernel
theorem dX6_comesOver_18 : decode cX6_comesOver 18 = .ok (.invokevirtual 257, 3) := by decide +kernel
theorem dX6_comesOver_21 : decode cX6_comesOver 21 = .ok (.bipush 20, 2) := by decide +kernel
theorem dX6_comesOver_23 : decode cX6_comesOver 23 = .ok (.if_icmp .ne 7, 3) := by decide +kernel
theorem dX6_comesOver_26 : decode cX6_comesOver 26 = .ok (.iconst 1, 1) := by decide +kernel
theorem dX6_comesOver_27 : decode cX6_comesOver 27 = .ok (.goto 4, 3) := by decide +kernel
theorem dX6_comesOver_30 : decode cX6_comesOver 30 = .ok (.iconst 0, 1) := by decide +kernel
theorem dX6_comesOver_31 : decode cX6_comesOver 31 = .ok (.ireturn, 1) := by decide +kernel
def pc_X6_comesOver (i : Nat) : Nat := ([0, 26, 30, 31] : List Nat).getD i 0
set_option maxRecDepth 20000 in
theorem ob_X6_comesOver_0 {x : ip_Cx} {G : ip_Gl} {d : Nat} (X : ip_X x G tb 5 d 0 0 RX6 cX6_comesOver) (hr : x.2.2.2.2.2.2.2.2.1.sig.returnType = (some .boolean)) (hnm : x.2.2.2.2.2.2.2.2.1.name = "comesOver") : ip_okB x G 5 pc_X6_comesOver 0 ([oLdA 0, oLdI 1, oI (3), oLdI 3, oCaV (ip_call tb d) 0 0 6 125 4 0 0, oLdA 0, oLdI 1, oI (4), oLdI 4, oCaV (ip_call tb d) 0 0 6 125 4 0 0, oLdA 0, oLdI 1, oLdI 2, oCaV (ip_call tb d) 0 0 6 178 3 0 0, oI (20)], tCm (fun a b => a = b) 1 2) := ⟨_, okC (ok_aldn X rfl dX6_comesOver_0)
  (okC (ok_ildn X rfl dX6_comesOver_1)
  (okC (ok_ic X (by decide) dX6_comesOver_2)
  (okC (ok_ildn X rfl dX6_comesOver_3)
  (okC (ok_calV X (i := 188) (e := en_125) rfl mt_125 rfl rfl rfl tw_994 tw_996 (Or.inl ⟨_, _, rfl⟩) tp_22 dX6_comesOver_4)
  (okC (ok_aldn X rfl dX6_comesOver_7)
  (okC (ok_ildn X rfl dX6_comesOver_8)
  (okC (ok_ic X (by decide) dX6_comesOver_9)
  (okC (ok_ild X dX6_comesOver_10)
  (okC (ok_calV X (i := 188) (e := en_125) rfl mt_125 rfl rfl rfl tw_994 tw_996 (Or.inl ⟨_, _, rfl⟩) tp_22 dX6_comesOver_12)
  (okC (ok_aldn X rfl dX6_comesOver_15)
  (okC (ok_ildn X rfl dX6_comesOver_16)
  (okC (ok_ildn X rfl dX6_comesOver_17)
  (okC (ok_calV X (i := 257) (e := en_178) rfl mt_178 rfl rfl rfl tw_1121 tw_1123 (Or.inl ⟨_, _, rfl⟩) tp_41 dX6_comesOver_18)
  (okC (ok_bi X (by decide) dX6_comesOver_21)
  (okN))))))))))))))), ok_cmne X (by decide) rfl dX6_comesOver_23⟩
set_option maxRecDepth 20000 in
theorem ob_X6_comesOver_1 {x : ip_Cx} {G : ip_Gl} {d : Nat} (X : ip_X x G tb 5 d 0 0 RX6 cX6_comesOver) (hr : x.2.2.2.2.2.2.2.2.1.sig.returnType = (some .boolean)) (hnm : x.2.2.2.2.2.2.2.2.1.name = "comesOver") : ip_okB x G 5 pc_X6_comesOver 26 ([oI (1)], tGo 3) := ⟨_, okC (ok_ic X (by decide) dX6_comesOver_26)
  (okN), ok_go X (by decide) dX6_comesOver_27⟩
set_option maxRecDepth 20000 in
theorem ob_X6_comesOver_2 {x : ip_Cx} {G : ip_Gl} {d : Nat} (X : ip_X x G tb 5 d 0 0 RX6 cX6_comesOver) (hr : x.2.2.2.2.2.2.2.2.1.sig.returnType = (some .boolean)) (hnm : x.2.2.2.2.2.2.2.2.1.name = "comesOver") : ip_okB x G 5 pc_X6_comesOver 30 ([oI (0)], tGo 3) := ⟨_, okC (ok_ic X (by decide) dX6_comesOver_30)
  (okN), ok_fall rfl⟩
set_option maxRecDepth 20000 in
theorem ob_X6_comesOver_3 {x : ip_Cx} {G : ip_Gl} {d : Nat} (X : ip_X x G tb 5 d 0 0 RX6 cX6_comesOver) (hr : x.2.2.2.2.2.2.2.2.1.sig.returnType = (some .boolean)) (hnm : x.2.2.2.2.2.2.2.2.1.name = "comesOver") : ip_okB x G 5 pc_X6_comesOver 31 ([], tRI .boolean 0 0) := ⟨_, okN, ok_ret X hr dX6_comesOver_31⟩
theorem om_183 : ip_MOk tb en_183 pc_X6_comesOver := fun x G d X hr hnm => ⟨ob_X6_comesOver_0 X hr hnm, ⟨ob_X6_comesOver_1 X hr hnm, ⟨ob_X6_comesOver_2 X hr hnm, ⟨ob_X6_comesOver_3 X hr hnm, trivial⟩⟩⟩⟩
theorem dX6_sayFor_0 : decode cX6_sayFor 0 = .ok (.aload_n 0, 1) := by decide +kernel
theorem dX6_sayFor_1 : decode cX6_sayFor 1 = .ok (.iload_n 1, 1) := by decide +kernel
theorem dX6_sayFor_2 : decode cX6_sayFor 2 = .ok (.invokevirtual 192, 3) := by decide +kernel
theorem dX6_sayFor_5 : decode cX6_sayFor 5 = .ok (.ifCond .eq 13, 3) := by decide +kernel
theorem dX6_sayFor_8 : decode cX6_sayFor 8 = .ok (.iload_n 2, 1) := by decide +kernel
theorem dX6_sayFor_9 : decode cX6_sayFor 9 = .ok (.iconst 1, 1) := by decide +kernel
theorem dX6_sayFor_10 : decode cX6_sayFor 10 = .ok (.bipush 30, 2) := by decide +kernel
theorem dX6_sayFor_12 : decode cX6_sayFor 12 = .ok (.invokestatic 57, 3) := by decide +kernel
theorem dX6_sayFor_15 : decode cX6_sayFor 15 = .ok (.ifCond .ne 5, 3) := by decide +kernel
theorem dX6_sayFor_18 : decode cX6_sayFor 18 = .ok (.iconst (-1), 1) := by decide +kernel
theorem dX6_sayFor_19 : decode cX6_sayFor 19 = .ok (.ireturn, 1) := by decide +kernel
theorem dX6_sayFor_20 : decode cX6_sayFor 20 = .ok (.aload_n 0, 1) := by decide +kernel
theorem dX6_sayFor_21 : decode cX6_sayFor 21 = .ok (.getfield 7, 3) := by decide +kernel
theorem dX6_sayFor_24 : decode cX6_sayFor 24 = .ok (.aload_n 0, 1) := by decide +kernel
theorem dX6_sayFor_25 : decode cX6_sayFor 25 = .ok (.getfield 19, 3) := by decide +kernel
theorem dX6_sayFor_28 : decode cX6_sayFor 28 = .ok (.invokestatic 174, 3) := by decide +kernel
theorem dX6_sayFor_31 : decode cX6_sayFor 31 = .ok (.bipush (-3), 2) := by decide +kernel
theorem dX6_sayFor_33 : decode cX6_sayFor 33 = .ok (.istore_n 3, 1) := by decide +kernel
theorem dX6_sayFor_34 : decode cX6_sayFor 34 = .ok (.bipush 9, 2) := by decide +kernel
theorem dX6_sayFor_36 : decode cX6_sayFor 36 = .ok (.istore 4, 2) := by decide +kernel
theorem dX6_sayFor_38 : decode cX6_sayFor 38 = .ok (.iconst 0, 1) := by decide +kernel
theorem dX6_sayFor_39 : decode cX6_sayFor 39 = .ok (.istore 5, 2) := by decide +kernel
theorem dX6_sayFor_41 : decode cX6_sayFor 41 = .ok (.iload 5, 2) := by decide +kernel
theorem dX6_sayFor_43 : decode cX6_sayFor 43 = .ok (.sipush 255, 3) := by decide +kernel
theorem dX6_sayFor_46 : decode cX6_sayFor 46 = .ok (.if_icmp .gt 81, 3) := by decide +kernel
theorem dX6_sayFor_49 : decode cX6_sayFor 49 = .ok (.iconst 0, 1) := by decide +kernel
theorem dX6_sayFor_50 : decode cX6_sayFor 50 = .ok (.istore 6, 2) := by decide +kernel
theorem dX6_sayFor_52 : decode cX6_sayFor 52 = .ok (.iload 6, 2) := by decide +kernel
theorem dX6_sayFor_54 : decode cX6_sayFor 54 = .ok (.sipush 255, 3) := by decide +kernel
theorem dX6_sayFor_57 : decode cX6_sayFor 57 = .ok (.if_icmp .gt 64, 3) := by decide +kernel
theorem dX6_sayFor_60 : decode cX6_sayFor 60 = .ok (.iload 5, 2) := by decide +kernel
theorem dX6_sayFor_62 : decode cX6_sayFor 62 = .ok (.invokestatic 198, 3) := by decide +kernel
theorem dX6_sayFor_65 : decode cX6_sayFor 65 = .ok (.iload 6, 2) := by decide +kernel
theorem dX6_sayFor_67 : decode cX6_sayFor 67 = .ok (.invokestatic 198, 3) := by decide +kernel
theorem dX6_sayFor_70 : decode cX6_sayFor 70 = .ok (.iadd, 1) := by decide +kernel
theorem dX6_sayFor_71 : decode cX6_sayFor 71 = .ok (.istore 7, 2) := by decide +kernel
theorem dX6_sayFor_73 : decode cX6_sayFor 73 = .ok (.iload 5, 2) := by decide +kernel
theorem dX6_sayFor_75 : decode cX6_sayFor 75 = .ok (.iload 6, 2) := by decide +kernel
theorem dX6_sayFor_77 : decode cX6_sayFor 77 = .ok (.iand, 1) := by decide +kernel
theorem dX6_sayFor_78 : decode cX6_sayFor 78 = .ok (.ifCond .ne 37, 3) := by decide +kernel
theorem dX6_sayFor_81 : decode cX6_sayFor 81 = .ok (.iload 7, 2) := by decide +kernel
theorem dX6_sayFor_83 : decode cX6_sayFor 83 = .ok (.iload 4, 2) := by decide +kernel
theorem dX6_sayFor_85 : decode cX6_sayFor 85 = .ok (.if_icmp .ge 30, 3) := by decide +kernel
theorem dX6_sayFor_88 : decode cX6_sayFor 88 = .ok (.aload_n 0, 1) := by decide +kernel
theorem dX6_sayFor_89 : decode cX6_sayFor 89 = .ok (.iload_n 1, 1) := by decide +kernel
theorem dX6_sayFor_90 : decode cX6_sayFor 90 = .ok (.iload_n 2, 1) := by decide +kernel
theorem dX6_sayFor_91 : decode cX6_sayFor 91 = .ok (.iload 5, 2) := by decide +kernel
theorem dX6_sayFor_93 : decode cX6_sayFor 93 = .ok (.iload 6, 2) := by decide +kernel
theorem dX6_sayFor_95 : decode cX6_sayFor 95 = .ok (.invokevirtual 260, 3) := by decide +kernel
theorem dX6_sayFor_98 : decode cX6_sayFor 98 = .ok (.ifCond .eq 17, 3) := by decide +kernel
theorem dX6_sayFor_101 : decode cX6_sayFor 101 = .ok (.sipush 256, 3) := by decide +kernel
theorem dX6_sayFor_104 : decode cX6_sayFor 104 = .ok (.iload 5, 2) := by decide +kernel
theorem dX6_sayFor_106 : decode cX6_sayFor 106 = .ok (.imul, 1) := by decide +kernel
theorem dX6_sayFor_107 : decode cX6_sayFor 107 = .ok (.iload 6, 2) := by decide +kernel
theorem dX6_sayFor_109 : decode cX6_sayFor 109 = .ok (.iadd, 1) := by decide +kernel
theorem dX6_sayFor_110 : decode cX6_sayFor 110 = .ok (.istore_n 3, 1) := by decide +kernel
theorem dX6_sayFor_111 : decode cX6_sayFor 111 = .ok (.iload 7, 2) := by decide +kernel
theorem dX6_sayFor_113 : decode cX6_sayFor 113 = .ok (.istore 4, 2) := by decide +kernel
theorem dX6_sayFor_115 : decode cX6_sayFor 115 = .ok (.iinc 6 1, 3) := by decide +kernel
theorem dX6_sayFor_118 : decode cX6_sayFor 118 = .ok (.goto (-66), 3) := by decide +kernel
theorem dX6_sayFor_121 : decode cX6_sayFor 121 = .ok (.iinc 5 1, 3) := by decide +kernel
theorem dX6_sayFor_124 : decode cX6_sayFor 124 = .ok (.goto (-83), 3) := by decide +kernel
theorem dX6_sayFor_127 : decode cX6_sayFor 127 = .ok (.iload_n 3, 1) := by decide +kernel
theorem dX6_sayFor_128 : decode cX6_sayFor 128 = .ok (.ireturn, 1) := by decide +kernel
def pc_X6_sayFor (i : Nat) : Nat := ([0, 8, 18, 20, 41, 49, 52, 60, 81, 88, 101, 115, 121, 127] : List Nat).getD i 0
set_option maxRecDepth 20000 in
theorem ob_X6_sayFor_0 {x : ip_Cx} {G : ip_Gl} {d : Nat} (X : ip_X x G tb 8 d 0 0 RX6 cX6_sayFor) (hr : x.2.2.2.2.2.2.2.2.1.sig.returnType = (some .int)) (hnm : x.2.2.2.2.2.2.2.2.1.name = "sayFor") : ip_okB x G 8 pc_X6_sayFor 0 ([oLdA 0, oLdI 1, oCaV (ip_call tb d) 0 0 6 123 2 0 0], tIf (fun a => a = 0) 2 1) := ⟨_, okC (ok_aldn X rfl dX6_sayFor_0)
  (okC (ok_ildn X rfl dX6_sayFor_1)
  (okC (ok_calV X (i := 192) (e := en_123) rfl mt_123 rfl rfl rfl tw_1002 tw_1004 (Or.inl ⟨_, _, rfl⟩) tp_23 dX6_sayFor_2)
  (okN))), ok_ifeq X (by decide) rfl dX6_sayFor_5⟩
set_option maxRecDepth 20000 in
theorem ob_X6_sayFor_1 {x : ip_Cx} {G : ip_Gl} {d : Nat} (X : ip_X x G tb 8 d 0 0 RX6 cX6_sayFor) (hr : x.2.2.2.2.2.2.2.2.1.sig.returnType = (some .int)) (hnm : x.2.2.2.2.2.2.2.2.1.name = "sayFor") : ip_okB x G 8 pc_X6_sayFor 8 ([oLdI 2, oI (1), oI (30), oCal (ip_call tb d) 0 0 120 3 0 0], tIf (fun a => a = 0) 2 3) := ⟨_, okC (ok_ildn X rfl dX6_sayFor_8)
  (okC (ok_ic X (by decide) dX6_sayFor_9)
  (okC (ok_bi X (by decide) dX6_sayFor_10)
  (okC (ok_calS X (i := 57) (e := en_120) rfl mt_120 rfl rfl rfl tw_885 tw_886 dX6_sayFor_12)
  (okN)))), ok_ifne X (by decide) rfl dX6_sayFor_15⟩
set_option maxRecDepth 20000 in
theorem ob_X6_sayFor_2 {x : ip_Cx} {G : ip_Gl} {d : Nat} (X : ip_X x G tb 8 d 0 0 RX6 cX6_sayFor) (hr : x.2.2.2.2.2.2.2.2.1.sig.returnType = (some .int)) (hnm : x.2.2.2.2.2.2.2.2.1.name = "sayFor") : ip_okB x G 8 pc_X6_sayFor 18 ([oI (-1)], tRI .int 0 0) := ⟨_, okC (ok_ic X (by decide) dX6_sayFor_18)
  (okN), ok_ret X hr dX6_sayFor_19⟩
set_option maxRecDepth 20000 in
theorem ob_X6_sayFor_3 {x : ip_Cx} {G : ip_Gl} {d : Nat} (X : ip_X x G tb 8 d 0 0 RX6 cX6_sayFor) (hr : x.2.2.2.2.2.2.2.2.1.sig.returnType = (some .int)) (hnm : x.2.2.2.2.2.2.2.2.1.name = "sayFor") : ip_okB x G 8 pc_X6_sayFor 20 ([oLdA 0, oGet 6 0, oLdA 0, oGet 6 3, oCal (ip_call tb d) 0 0 122 2 0 0, oI (-3), oStI 3, oI (9), oStI 4, oI (0), oStI 5], tGo 4) := ⟨_, okC (ok_aldn X rfl dX6_sayFor_20)
  (okC (ok_get X (ci := 6) rfl (by decide) iw_X6 tw_795 dX6_sayFor_21)
  (okC (ok_aldn X rfl dX6_sayFor_24)
  (okC (ok_get X (ci := 6) rfl (by decide) iw_X6 tw_798 dX6_sayFor_25)
  (okC (ok_calS X (i := 174) (e := en_122) rfl mt_122 rfl rfl rfl tw_968 tw_969 dX6_sayFor_28)
  (okC (ok_bi X (by decide) dX6_sayFor_31)
  (okC (ok_istn X rfl (by decide) dX6_sayFor_33)
  (okC (ok_bi X (by decide) dX6_sayFor_34)
  (okC (ok_ist X (by decide) dX6_sayFor_36)
  (okC (ok_ic X (by decide) dX6_sayFor_38)
  (okC (ok_ist X (by decide) dX6_sayFor_39)
  (okN))))))))))), ok_fall rfl⟩
set_option maxRecDepth 20000 in
theorem ob_X6_sayFor_4 {x : ip_Cx} {G : ip_Gl} {d : Nat} (X : ip_X x G tb 8 d 0 0 RX6 cX6_sayFor) (hr : x.2.2.2.2.2.2.2.2.1.sig.returnType = (some .int)) (hnm : x.2.2.2.2.2.2.2.2.1.name = "sayFor") : ip_okB x G 8 pc_X6_sayFor 41 ([oLdI 5, oI (255)], tCm (fun a b => b < a) 13 5) := ⟨_, okC (ok_ild X dX6_sayFor_41)
  (okC (ok_si X (by decide) dX6_sayFor_43)
  (okN)), ok_cmgt X (by decide) rfl dX6_sayFor_46⟩
set_option maxRecDepth 20000 in
theorem ob_X6_sayFor_5 {x : ip_Cx} {G : ip_Gl} {d : Nat} (X : ip_X x G tb 8 d 0 0 RX6 cX6_sayFor) (hr : x.2.2.2.2.2.2.2.2.1.sig.returnType = (some .int)) (hnm : x.2.2.2.2.2.2.2.2.1.name = "sayFor") : ip_okB x G 8 pc_X6_sayFor 49 ([oI (0), oStI 6], tGo 6) := ⟨_, okC (ok_ic X (by decide) dX6_sayFor_49)
  (okC (ok_ist X (by decide) dX6_sayFor_50)
  (okN)), ok_fall rfl⟩
set_option maxRecDepth 20000 in
theorem ob_X6_sayFor_6 {x : ip_Cx} {G : ip_Gl} {d : Nat} (X : ip_X x G tb 8 d 0 0 RX6 cX6_sayFor) (hr : x.2.2.2.2.2.2.2.2.1.sig.returnType = (some .int)) (hnm : x.2.2.2.2.2.2.2.2.1.name = "sayFor") : ip_okB x G 8 pc_X6_sayFor 52 ([oLdI 6, oI (255)], tCm (fun a b => b < a) 12 7) := ⟨_, okC (ok_ild X dX6_sayFor_52)
  (okC (ok_si X (by decide) dX6_sayFor_54)
  (okN)), ok_cmgt X (by decide) rfl dX6_sayFor_57⟩
set_option maxRecDepth 20000 in
theorem ob_X6_sayFor_7 {x : ip_Cx} {G : ip_Gl} {d : Nat} (X : ip_X x G tb 8 d 0 0 RX6 cX6_sayFor) (hr : x.2.2.2.2.2.2.2.2.1.sig.returnType = (some .int)) (hnm : x.2.2.2.2.2.2.2.2.1.name = "sayFor") : ip_okB x G 8 pc_X6_sayFor 60 ([oLdI 5, oCal (ip_call tb d) 0 0 127 1 0 0, oLdI 6, oCal (ip_call tb d) 0 0 127 1 0 0, oBI (fun a b => a + b), oStI 7, oLdI 5, oLdI 6, oBI (fun a b => a &&& b)], tIf (fun a => a = 0) 8 11) := ⟨_, okC (ok_ild X dX6_sayFor_60)
  (okC (ok_calS X (i := 198) (e := en_127) rfl mt_127 rfl rfl rfl tw_1022 tw_1023 dX6_sayFor_62)
  (okC (ok_ild X dX6_sayFor_65)
  (okC (ok_calS X (i := 198) (e := en_127) rfl mt_127 rfl rfl rfl tw_1022 tw_1023 dX6_sayFor_67)
  (okC (ok_iadd X dX6_sayFor_70)
  (okC (ok_ist X (by decide) dX6_sayFor_71)
  (okC (ok_ild X dX6_sayFor_73)
  (okC (ok_ild X dX6_sayFor_75)
  (okC (ok_iand X dX6_sayFor_77)
  (okN))))))))), ok_ifne X (by decide) rfl dX6_sayFor_78⟩
set_option maxRecDepth 20000 in
theorem ob_X6_sayFor_8 {x : ip_Cx} {G : ip_Gl} {d : Nat} (X : ip_X x G tb 8 d 0 0 RX6 cX6_sayFor) (hr : x.2.2.2.2.2.2.2.2.1.sig.returnType = (some .int)) (hnm : x.2.2.2.2.2.2.2.2.1.name = "sayFor") : ip_okB x G 8 pc_X6_sayFor 81 ([oLdI 7, oLdI 4], tCm (fun a b => a < b) 9 11) := ⟨_, okC (ok_ild X dX6_sayFor_81)
  (okC (ok_ild X dX6_sayFor_83)
  (okN)), ok_cmge X (by decide) rfl dX6_sayFor_85⟩
set_option maxRecDepth 20000 in
theorem ob_X6_sayFor_9 {x : ip_Cx} {G : ip_Gl} {d : Nat} (X : ip_X x G tb 8 d 0 0 RX6 cX6_sayFor) (hr : x.2.2.2.2.2.2.2.2.1.sig.returnType = (some .int)) (hnm : x.2.2.2.2.2.2.2.2.1.name = "sayFor") : ip_okB x G 8 pc_X6_sayFor 88 ([oLdA 0, oLdI 1, oLdI 2, oLdI 5, oLdI 6, oCaV (ip_call tb d) 0 0 6 183 5 0 0], tIf (fun a => a = 0) 11 10) := ⟨_, okC (ok_aldn X rfl dX6_sayFor_88)
  (okC (ok_ildn X rfl dX6_sayFor_89)
  (okC (ok_ildn X rfl dX6_sayFor_90)
  (okC (ok_ild X dX6_sayFor_91)
  (okC (ok_ild X dX6_sayFor_93)
  (okC (ok_calV X (i := 260) (e := en_183) rfl mt_183 rfl rfl rfl tw_1145 tw_1147 (Or.inl ⟨_, _, rfl⟩) tp_43 dX6_sayFor_95)
  (okN)))))), ok_ifeq X (by decide) rfl dX6_sayFor_98⟩
set_option maxRecDepth 20000 in
theorem ob_X6_sayFor_10 {x : ip_Cx} {G : ip_Gl} {d : Nat} (X : ip_X x G tb 8 d 0 0 RX6 cX6_sayFor) (hr : x.2.2.2.2.2.2.2.2.1.sig.returnType = (some .int)) (hnm : x.2.2.2.2.2.2.2.2.1.name = "sayFor") : ip_okB x G 8 pc_X6_sayFor 101 ([oI (256), oLdI 5, oBI (fun a b => a * b), oLdI 6, oBI (fun a b => a + b), oStI 3, oLdI 7, oStI 4], tGo 11) := ⟨_, okC (ok_si X (by decide) dX6_sayFor_101)
  (okC (ok_ild X dX6_sayFor_104)
  (okC (ok_imul X dX6_sayFor_106)
  (okC (ok_ild X dX6_sayFor_107)
  (okC (ok_iadd X dX6_sayFor_109)
  (okC (ok_istn X rfl (by decide) dX6_sayFor_110)
  (okC (ok_ild X dX6_sayFor_111)
  (okC (ok_ist X (by decide) dX6_sayFor_113)
  (okN)))))))), ok_fall rfl⟩
set_option maxRecDepth 20000 in
theorem ob_X6_sayFor_11 {x : ip_Cx} {G : ip_Gl} {d : Nat} (X : ip_X x G tb 8 d 0 0 RX6 cX6_sayFor) (hr : x.2.2.2.2.2.2.2.2.1.sig.returnType = (some .int)) (hnm : x.2.2.2.2.2.2.2.2.1.name = "sayFor") : ip_okB x G 8 pc_X6_sayFor 115 ([oInc 6 (1)], tGo 6) := ⟨_, okC (ok_inc X (by decide) dX6_sayFor_115)
  (okN), ok_go X (by decide) dX6_sayFor_118⟩
set_option maxRecDepth 20000 in
theorem ob_X6_sayFor_12 {x : ip_Cx} {G : ip_Gl} {d : Nat} (X : ip_X x G tb 8 d 0 0 RX6 cX6_sayFor) (hr : x.2.2.2.2.2.2.2.2.1.sig.returnType = (some .int)) (hnm : x.2.2.2.2.2.2.2.2.1.name = "sayFor") : ip_okB x G 8 pc_X6_sayFor 121 ([oInc 5 (1)], tGo 4) := ⟨_, okC (ok_inc X (by decide) dX6_sayFor_121)
  (okN), ok_go X (by decide) dX6_sayFor_124⟩
set_option maxRecDepth 20000 in
theorem ob_X6_sayFor_13 {x : ip_Cx} {G : ip_Gl} {d : Nat} (X : ip_X x G tb 8 d 0 0 RX6 cX6_sayFor) (hr : x.2.2.2.2.2.2.2.2.1.sig.returnType = (some .int)) (hnm : x.2.2.2.2.2.2.2.2.1.name = "sayFor") : ip_okB x G 8 pc_X6_sayFor 127 ([oLdI 3], tRI .int 0 0) := ⟨_, okC (ok_ildn X rfl dX6_sayFor_127)
  (okN), ok_ret X hr dX6_sayFor_128⟩
theorem om_184 : ip_MOk tb en_184 pc_X6_sayFor := fun x G d X hr hnm => ⟨ob_X6_sayFor_0 X hr hnm, ⟨ob_X6_sayFor_1 X hr hnm, ⟨ob_X6_sayFor_2 X hr hnm, ⟨ob_X6_sayFor_3 X hr hnm, ⟨ob_X6_sayFor_4 X hr hnm, ⟨ob_X6_sayFor_5 X hr hnm, ⟨ob_X6_sayFor_6 X hr hnm, ⟨ob_X6_sayFor_7 X hr hnm, ⟨ob_X6_sayFor_8 X hr hnm, ⟨ob_X6_sayFor_9 X hr hnm, ⟨ob_X6_sayFor_10 X hr hnm, ⟨ob_X6_sayFor_11 X hr hnm, ⟨ob_X6_sayFor_12 X hr hnm, ⟨ob_X6_sayFor_13 X hr hnm, trivial⟩⟩⟩⟩⟩⟩⟩⟩⟩⟩⟩⟩⟩⟩
theorem dX6_kindFor_0 : decode cX6_kindFor 0 = .ok (.aload_n 0, 1) := by decide +kernel
theorem dX6_kindFor_1 : decode cX6_kindFor 1 = .ok (.iload_n 1, 1) := by decide +kernel
theorem dX6_kindFor_2 : decode cX6_kindFor 2 = .ok (.invokevirtual 192, 3) := by decide +kernel
theorem dX6_kindFor_5 : decode cX6_kindFor 5 = .ok (.ifCond .eq 13, 3) := by decide +kernel
theorem dX6_kindFor_8 : decode cX6_kindFor 8 = .ok (.iload_n 2, 1) := by decide +kernel
theorem dX6_kindFor_9 : decode cX6_kindFor 9 = .ok (.iconst 1, 1) := by decide +kernel
theorem dX6_kindFor_10 : decode cX6_kindFor 10 = .ok (.bipush 30, 2) := by decide +kernel
theorem dX6_kindFor_12 : decode cX6_kindFor 12 = .ok (.invokestatic 57, 3) := by decide +kernel
theorem dX6_kindFor_15 : decode cX6_kindFor 15 = .ok (.ifCond .ne 5, 3) := by decide +kernel
theorem dX6_kindFor_18 : decode cX6_kindFor 18 = .ok (.iconst (-1), 1) := by decide +kernel
theorem dX6_kindFor_19 : decode cX6_kindFor 19 = .ok (.ireturn, 1) := by decide +kernel
theorem dX6_kindFor_20 : decode cX6_kindFor 20 = .ok (.aload_n 0, 1) := by decide +kernel
theorem dX6_kindFor_21 : decode cX6_kindFor 21 = .ok (.getfield 7, 3) := by decide +kernel
theorem dX6_kindFor_24 : decode cX6_kindFor 24 = .ok (.aload_n 0, 1) := by decide +kernel
theorem dX6_kindFor_25 : decode cX6_kindFor 25 = .ok (.getfield 19, 3) := by decide +kernel
theorem dX6_kindFor_28 : decode cX6_kindFor 28 = .ok (.invokestatic 174, 3) := by decide +kernel
theorem dX6_kindFor_31 : decode cX6_kindFor 31 = .ok (.iconst 0, 1) := by decide +kernel
theorem dX6_kindFor_32 : decode cX6_kindFor 32 = .ok (.istore_n 3, 1) := by decide +kernel
theorem dX6_kindFor_33 : decode cX6_kindFor 33 = .ok (.iconst (-1), 1) := by decide +kernel
theorem dX6_kindFor_34 : decode cX6_kindFor 34 = .ok (.istore 4, 2) := by decide +kernel
theorem dX6_kindFor_36 : decode cX6_kindFor 36 = .ok (.iconst 0, 1) := by decide +kernel
theorem dX6_kindFor_37 : decode cX6_kindFor 37 = .ok (.istore 5, 2) := by decide +kernel
theorem dX6_kindFor_39 : decode cX6_kindFor 39 = .ok (.iload 5, 2) := by decide +kernel
theorem dX6_kindFor_41 : decode cX6_kindFor 41 = .ok (.iconst 5, 1) := by decide +kernel
theorem dX6_kindFor_42 : decode cX6_kindFor 42 = .ok (.if_icmp .gt 55, 3) := by decide +kernel
theorem dX6_kindFor_45 : decode cX6_kindFor 45 = .ok (.aload_n 0, 1) := by decide +kernel
theorem dX6_kindFor_46 : decode cX6_kindFor 46 = .ok (.iload_n 1, 1) := by decide +kernel
theorem dX6_kindFor_47 : decode cX6_kindFor 47 = .ok (.iconst 0, 1) := by decide +kernel
theorem dX6_kindFor_48 : decode cX6_kindFor 48 = .ok (.iload 5, 2) := by decide +kernel
theorem dX6_kindFor_50 : decode cX6_kindFor 50 = .ok (.invokevirtual 188, 3) := by decide +kernel
theorem dX6_kindFor_53 : decode cX6_kindFor 53 = .ok (.aload_n 0, 1) := by decide +kernel
theorem dX6_kindFor_54 : decode cX6_kindFor 54 = .ok (.iload_n 1, 1) := by decide +kernel
theorem dX6_kindFor_55 : decode cX6_kindFor 55 = .ok (.iload_n 2, 1) := by decide +kernel
theorem dX6_kindFor_56 : decode cX6_kindFor 56 = .ok (.invokevirtual 257, 3) := by decide +kernel
theorem dX6_kindFor_59 : decode cX6_kindFor 59 = .ok (.istore 6, 2) := by decide +kernel
theorem dX6_kindFor_61 : decode cX6_kindFor 61 = .ok (.iload 6, 2) := by decide +kernel
theorem dX6_kindFor_63 : decode cX6_kindFor 63 = .ok (.iload 4, 2) := by decide +kernel
theorem dX6_kindFor_65 : decode cX6_kindFor 65 = .ok (.if_icmp .le 8, 3) := by decide +kernel
theorem dX6_kindFor_68 : decode cX6_kindFor 68 = .ok (.iload 5, 2) := by decide +kernel
theorem dX6_kindFor_70 : decode cX6_kindFor 70 = .ok (.goto 4, 3) := by decide +kernel
theorem dX6_kindFor_73 : decode cX6_kindFor 73 = .ok (.iload_n 3, 1) := by decide +kernel
theorem dX6_kindFor_74 : decode cX6_kindFor 74 = .ok (.istore_n 3, 1) := by decide +kernel
theorem dX6_kindFor_75 : decode cX6_kindFor 75 = .ok (.iload 6, 2) := by decide +kernel
theorem dX6_kindFor_77 : decode cX6_kindFor 77 = .ok (.iload 4, 2) := by decide +kernel
theorem dX6_kindFor_79 : decode cX6_kindFor 79 = .ok (.if_icmp .le 8, 3) := by decide +kernel
theorem dX6_kindFor_82 : decode cX6_kindFor 82 = .ok (.iload 6, 2) := by decide +kernel
theorem dX6_kindFor_84 : decode cX6_kindFor 84 = .ok (.goto 5, 3) := by decide +kernel
theorem dX6_kindFor_87 : decode cX6_kindFor 87 = .ok (.iload 4, 2) := by decide +kernel
theorem dX6_kindFor_89 : decode cX6_kindFor 89 = .ok (.istore 4, 2) := by decide +kernel
theorem dX6_kindFor_91 : decode cX6_kindFor 91 = .ok (.iinc 5 1, 3) := by decide +kernel
theorem dX6_kindFor_94 : decode cX6_kindFor 94 = .ok (.goto (-55), 3) := by decide +kernel
theorem dX6_kindFor_97 : decode cX6_kindFor 97 = .ok (.iload_n 3, 1) := by decide +kernel
theorem dX6_kindFor_98 : decode cX6_kindFor 98 = .ok (.ireturn, 1) := by decide +kernel
def pc_X6_kindFor (i : Nat) : Nat := ([0, 8, 18, 20, 39, 45, 68, 73, 74, 82, 87, 89, 97] : List Nat).getD i 0
set_option maxRecDepth 20000 in
theorem ob_X6_kindFor_0 {x : ip_Cx} {G : ip_Gl} {d : Nat} (X : ip_X x G tb 7 d 0 0 RX6 cX6_kindFor) (hr : x.2.2.2.2.2.2.2.2.1.sig.returnType = (some .int)) (hnm : x.2.2.2.2.2.2.2.2.1.name = "kindFor") : ip_okB x G 7 pc_X6_kindFor 0 ([oLdA 0, oLdI 1, oCaV (ip_call tb d) 0 0 6 123 2 0 0], tIf (fun a => a = 0) 2 1) := ⟨_, okC (ok_aldn X rfl dX6_kindFor_0)
  (okC (ok_ildn X rfl dX6_kindFor_1)
  (okC (ok_calV X (i := 192) (e := en_123) rfl mt_123 rfl rfl rfl tw_1002 tw_1004 (Or.inl ⟨_, _, rfl⟩) tp_23 dX6_kindFor_2)
  (okN))), ok_ifeq X (by decide) rfl dX6_kindFor_5⟩
set_option maxRecDepth 20000 in
theorem ob_X6_kindFor_1 {x : ip_Cx} {G : ip_Gl} {d : Nat} (X : ip_X x G tb 7 d 0 0 RX6 cX6_kindFor) (hr : x.2.2.2.2.2.2.2.2.1.sig.returnType = (some .int)) (hnm : x.2.2.2.2.2.2.2.2.1.name = "kindFor") : ip_okB x G 7 pc_X6_kindFor 8 ([oLdI 2, oI (1), oI (30), oCal (ip_call tb d) 0 0 120 3 0 0], tIf (fun a => a = 0) 2 3) := ⟨_, okC (ok_ildn X rfl dX6_kindFor_8)
  (okC (ok_ic X (by decide) dX6_kindFor_9)
  (okC (ok_bi X (by decide) dX6_kindFor_10)
  (okC (ok_calS X (i := 57) (e := en_120) rfl mt_120 rfl rfl rfl tw_885 tw_886 dX6_kindFor_12)
  (okN)))), ok_ifne X (by decide) rfl dX6_kindFor_15⟩
set_option maxRecDepth 20000 in
theorem ob_X6_kindFor_2 {x : ip_Cx} {G : ip_Gl} {d : Nat} (X : ip_X x G tb 7 d 0 0 RX6 cX6_kindFor) (hr : x.2.2.2.2.2.2.2.2.1.sig.returnType = (some .int)) (hnm : x.2.2.2.2.2.2.2.2.1.name = "kindFor") : ip_okB x G 7 pc_X6_kindFor 18 ([oI (-1)], tRI .int 0 0) := ⟨_, okC (ok_ic X (by decide) dX6_kindFor_18)
  (okN), ok_ret X hr dX6_kindFor_19⟩
set_option maxRecDepth 20000 in
theorem ob_X6_kindFor_3 {x : ip_Cx} {G : ip_Gl} {d : Nat} (X : ip_X x G tb 7 d 0 0 RX6 cX6_kindFor) (hr : x.2.2.2.2.2.2.2.2.1.sig.returnType = (some .int)) (hnm : x.2.2.2.2.2.2.2.2.1.name = "kindFor") : ip_okB x G 7 pc_X6_kindFor 20 ([oLdA 0, oGet 6 0, oLdA 0, oGet 6 3, oCal (ip_call tb d) 0 0 122 2 0 0, oI (0), oStI 3, oI (-1), oStI 4, oI (0), oStI 5], tGo 4) := ⟨_, okC (ok_aldn X rfl dX6_kindFor_20)
  (okC (ok_get X (ci := 6) rfl (by decide) iw_X6 tw_795 dX6_kindFor_21)
  (okC (ok_aldn X rfl dX6_kindFor_24)
  (okC (ok_get X (ci := 6) rfl (by decide) iw_X6 tw_798 dX6_kindFor_25)
  (okC (ok_calS X (i := 174) (e := en_122) rfl mt_122 rfl rfl rfl tw_968 tw_969 dX6_kindFor_28)
  (okC (ok_ic X (by decide) dX6_kindFor_31)
  (okC (ok_istn X rfl (by decide) dX6_kindFor_32)
  (okC (ok_ic X (by decide) dX6_kindFor_33)
  (okC (ok_ist X (by decide) dX6_kindFor_34)
  (okC (ok_ic X (by decide) dX6_kindFor_36)
  (okC (ok_ist X (by decide) dX6_kindFor_37)
  (okN))))))))))), ok_fall rfl⟩
set_option maxRecDepth 20000 in
theorem ob_X6_kindFor_4 {x : ip_Cx} {G : ip_Gl} {d : Nat} (X : ip_X x G tb 7 d 0 0 RX6 cX6_kindFor) (hr : x.2.2.2.2.2.2.2.2.1.sig.returnType = (some .int)) (hnm : x.2.2.2.2.2.2.2.2.1.name = "kindFor") : ip_okB x G 7 pc_X6_kindFor 39 ([oLdI 5, oI (5)], tCm (fun a b => b < a) 12 5) := ⟨_, okC (ok_ild X dX6_kindFor_39)
  (okC (ok_ic X (by decide) dX6_kindFor_41)
  (okN)), ok_cmgt X (by decide) rfl dX6_kindFor_42⟩
set_option maxRecDepth 20000 in
theorem ob_X6_kindFor_5 {x : ip_Cx} {G : ip_Gl} {d : Nat} (X : ip_X x G tb 7 d 0 0 RX6 cX6_kindFor) (hr : x.2.2.2.2.2.2.2.2.1.sig.returnType = (some .int)) (hnm : x.2.2.2.2.2.2.2.2.1.name = "kindFor") : ip_okB x G 7 pc_X6_kindFor 45 ([oLdA 0, oLdI 1, oI (0), oLdI 5, oCaV (ip_call tb d) 0 0 6 125 4 0 0, oLdA 0, oLdI 1, oLdI 2, oCaV (ip_call tb d) 0 0 6 178 3 0 0, oStI 6, oLdI 6, oLdI 4], tCm (fun a b => b < a) 6 7) := ⟨_, okC (ok_aldn X rfl dX6_kindFor_45)
  (okC (ok_ildn X rfl dX6_kindFor_46)
  (okC (ok_ic X (by decide) dX6_kindFor_47)
  (okC (ok_ild X dX6_kindFor_48)
  (okC (ok_calV X (i := 188) (e := en_125) rfl mt_125 rfl rfl rfl tw_994 tw_996 (Or.inl ⟨_, _, rfl⟩) tp_22 dX6_kindFor_50)
  (okC (ok_aldn X rfl dX6_kindFor_53)
  (okC (ok_ildn X rfl dX6_kindFor_54)
  (okC (ok_ildn X rfl dX6_kindFor_55)
  (okC (ok_calV X (i := 257) (e := en_178) rfl mt_178 rfl rfl rfl tw_1121 tw_1123 (Or.inl ⟨_, _, rfl⟩) tp_41 dX6_kindFor_56)
  (okC (ok_ist X (by decide) dX6_kindFor_59)
  (okC (ok_ild X dX6_kindFor_61)
  (okC (ok_ild X dX6_kindFor_63)
  (okN)))))))))))), ok_cmle X (by decide) rfl dX6_kindFor_65⟩
set_option maxRecDepth 20000 in
theorem ob_X6_kindFor_6 {x : ip_Cx} {G : ip_Gl} {d : Nat} (X : ip_X x G tb 7 d 0 0 RX6 cX6_kindFor) (hr : x.2.2.2.2.2.2.2.2.1.sig.returnType = (some .int)) (hnm : x.2.2.2.2.2.2.2.2.1.name = "kindFor") : ip_okB x G 7 pc_X6_kindFor 68 ([oLdI 5], tGo 8) := ⟨_, okC (ok_ild X dX6_kindFor_68)
  (okN), ok_go X (by decide) dX6_kindFor_70⟩
set_option maxRecDepth 20000 in
theorem ob_X6_kindFor_7 {x : ip_Cx} {G : ip_Gl} {d : Nat} (X : ip_X x G tb 7 d 0 0 RX6 cX6_kindFor) (hr : x.2.2.2.2.2.2.2.2.1.sig.returnType = (some .int)) (hnm : x.2.2.2.2.2.2.2.2.1.name = "kindFor") : ip_okB x G 7 pc_X6_kindFor 73 ([oLdI 3], tGo 8) := ⟨_, okC (ok_ildn X rfl dX6_kindFor_73)
  (okN), ok_fall rfl⟩
set_option maxRecDepth 20000 in
theorem ob_X6_kindFor_8 {x : ip_Cx} {G : ip_Gl} {d : Nat} (X : ip_X x G tb 7 d 0 0 RX6 cX6_kindFor) (hr : x.2.2.2.2.2.2.2.2.1.sig.returnType = (some .int)) (hnm : x.2.2.2.2.2.2.2.2.1.name = "kindFor") : ip_okB x G 7 pc_X6_kindFor 74 ([oStI 3, oLdI 6, oLdI 4], tCm (fun a b => b < a) 9 10) := ⟨_, okC (ok_istn X rfl (by decide) dX6_kindFor_74)
  (okC (ok_ild X dX6_kindFor_75)
  (okC (ok_ild X dX6_kindFor_77)
  (okN))), ok_cmle X (by decide) rfl dX6_kindFor_79⟩
set_option maxRecDepth 20000 in
theorem ob_X6_kindFor_9 {x : ip_Cx} {G : ip_Gl} {d : Nat} (X : ip_X x G tb 7 d 0 0 RX6 cX6_kindFor) (hr : x.2.2.2.2.2.2.2.2.1.sig.returnType = (some .int)) (hnm : x.2.2.2.2.2.2.2.2.1.name = "kindFor") : ip_okB x G 7 pc_X6_kindFor 82 ([oLdI 6], tGo 11) := ⟨_, okC (ok_ild X dX6_kindFor_82)
  (okN), ok_go X (by decide) dX6_kindFor_84⟩
set_option maxRecDepth 20000 in
theorem ob_X6_kindFor_10 {x : ip_Cx} {G : ip_Gl} {d : Nat} (X : ip_X x G tb 7 d 0 0 RX6 cX6_kindFor) (hr : x.2.2.2.2.2.2.2.2.1.sig.returnType = (some .int)) (hnm : x.2.2.2.2.2.2.2.2.1.name = "kindFor") : ip_okB x G 7 pc_X6_kindFor 87 ([oLdI 4], tGo 11) := ⟨_, okC (ok_ild X dX6_kindFor_87)
  (okN), ok_fall rfl⟩
set_option maxRecDepth 20000 in
theorem ob_X6_kindFor_11 {x : ip_Cx} {G : ip_Gl} {d : Nat} (X : ip_X x G tb 7 d 0 0 RX6 cX6_kindFor) (hr : x.2.2.2.2.2.2.2.2.1.sig.returnType = (some .int)) (hnm : x.2.2.2.2.2.2.2.2.1.name = "kindFor") : ip_okB x G 7 pc_X6_kindFor 89 ([oStI 4, oInc 5 (1)], tGo 4) := ⟨_, okC (ok_ist X (by decide) dX6_kindFor_89)
  (okC (ok_inc X (by decide) dX6_kindFor_91)
  (okN)), ok_go X (by decide) dX6_kindFor_94⟩
set_option maxRecDepth 20000 in
theorem ob_X6_kindFor_12 {x : ip_Cx} {G : ip_Gl} {d : Nat} (X : ip_X x G tb 7 d 0 0 RX6 cX6_kindFor) (hr : x.2.2.2.2.2.2.2.2.1.sig.returnType = (some .int)) (hnm : x.2.2.2.2.2.2.2.2.1.name = "kindFor") : ip_okB x G 7 pc_X6_kindFor 97 ([oLdI 3], tRI .int 0 0) := ⟨_, okC (ok_ildn X rfl dX6_kindFor_97)
  (okN), ok_ret X hr dX6_kindFor_98⟩
theorem om_185 : ip_MOk tb en_185 pc_X6_kindFor := fun x G d X hr hnm => ⟨ob_X6_kindFor_0 X hr hnm, ⟨ob_X6_kindFor_1 X hr hnm, ⟨ob_X6_kindFor_2 X hr hnm, ⟨ob_X6_kindFor_3 X hr hnm, ⟨ob_X6_kindFor_4 X hr hnm, ⟨ob_X6_kindFor_5 X hr hnm, ⟨ob_X6_kindFor_6 X hr hnm, ⟨ob_X6_kindFor_7 X hr hnm, ⟨ob_X6_kindFor_8 X hr hnm, ⟨ob_X6_kindFor_9 X hr hnm, ⟨ob_X6_kindFor_10 X hr hnm, ⟨ob_X6_kindFor_11 X hr hnm, ⟨ob_X6_kindFor_12 X hr hnm, trivial⟩⟩⟩⟩⟩⟩⟩⟩⟩⟩⟩⟩⟩
theorem dX6_turnedFor_0 : decode cX6_turnedFor 0 = .ok (.aload_n 0, 1) := by decide +kernel
theorem dX6_turnedFor_1 : decode cX6_turnedFor 1 = .ok (.iload_n 1, 1) := by decide +kernel
theorem dX6_turnedFor_2 : decode cX6_turnedFor 2 = .ok (.invokevirtual 192, 3) := by decide +kernel
theorem dX6_turnedFor_5 : decode cX6_turnedFor 5 = .ok (.ifCond .eq 13, 3) := by decide +kernel
theorem dX6_turnedFor_8 : decode cX6_turnedFor 8 = .ok (.iload_n 2, 1) := by decide +kernel
theorem dX6_turnedFor_9 : decode cX6_turnedFor 9 = .ok (.iconst 1, 1) := by decide +kernel
theorem dX6_turnedFor_10 : decode cX6_turnedFor 10 = .ok (.bipush 30, 2) := by decide +kernel
theorem dX6_turnedFor_12 : decode cX6_turnedFor 12 = .ok (.invokestatic 57, 3) := by decide +kernel
theorem dX6_turnedFor_15 : decode cX6_turnedFor 15 = .ok (.ifCond .ne 5, 3) := by decide +kernel
theorem dX6_turnedFor_18 : decode cX6_turnedFor 18 = .ok (.iconst (-1), 1) := by decide +kernel
theorem dX6_turnedFor_19 : decode cX6_turnedFor 19 = .ok (.ireturn, 1) := by decide +kernel
theorem dX6_turnedFor_20 : decode cX6_turnedFor 20 = .ok (.aload_n 0, 1) := by decide +kernel
theorem dX6_turnedFor_21 : decode cX6_turnedFor 21 = .ok (.getfield 7, 3) := by decide +kernel
theorem dX6_turnedFor_24 : decode cX6_turnedFor 24 = .ok (.aload_n 0, 1) := by decide +kernel
theorem dX6_turnedFor_25 : decode cX6_turnedFor 25 = .ok (.getfield 19, 3) := by decide +kernel
theorem dX6_turnedFor_28 : decode cX6_turnedFor 28 = .ok (.invokestatic 174, 3) := by decide +kernel
theorem dX6_turnedFor_31 : decode cX6_turnedFor 31 = .ok (.bipush (-3), 2) := by decide +kernel
theorem dX6_turnedFor_33 : decode cX6_turnedFor 33 = .ok (.istore_n 3, 1) := by decide +kernel
theorem dX6_turnedFor_34 : decode cX6_turnedFor 34 = .ok (.aload_n 0, 1) := by decide +kernel
theorem dX6_turnedFor_35 : decode cX6_turnedFor 35 = .ok (.iload_n 1, 1) := by decide +kernel
theorem dX6_turnedFor_36 : decode cX6_turnedFor 36 = .ok (.iload_n 2, 1) := by decide +kernel
theorem dX6_turnedFor_37 : decode cX6_turnedFor 37 = .ok (.invokevirtual 257, 3) := by decide +kernel
theorem dX6_turnedFor_40 : decode cX6_turnedFor 40 = .ok (.istore 4, 2) := by decide +kernel
theorem dX6_turnedFor_42 : decode cX6_turnedFor 42 = .ok (.iconst 0, 1) := by decide +kernel
theorem dX6_turnedFor_43 : decode cX6_turnedFor 43 = .ok (.istore 5, 2) := by decide +kernel
theorem dX6_turnedFor_45 : decode cX6_turnedFor 45 = .ok (.iload 5, 2) := by decide +kernel
theorem dX6_turnedFor_47 : decode cX6_turnedFor 47 = .ok (.bipush 8, 2) := by decide +kernel
theorem dX6_turnedFor_49 : decode cX6_turnedFor 49 = .ok (.if_icmp .ge 60, 3) := by decide +kernel
theorem dX6_turnedFor_52 : decode cX6_turnedFor 52 = .ok (.aload_n 0, 1) := by decide +kernel
theorem dX6_turnedFor_53 : decode cX6_turnedFor 53 = .ok (.getfield 7, 3) := by decide +kernel
theorem dX6_turnedFor_56 : decode cX6_turnedFor 56 = .ok (.iconst 5, 1) := by decide +kernel
theorem dX6_turnedFor_57 : decode cX6_turnedFor 57 = .ok (.dup2, 1) := by decide +kernel
theorem dX6_turnedFor_58 : decode cX6_turnedFor 58 = .ok (.iaload, 1) := by decide +kernel
theorem dX6_turnedFor_59 : decode cX6_turnedFor 59 = .ok (.iconst 1, 1) := by decide +kernel
theorem dX6_turnedFor_60 : decode cX6_turnedFor 60 = .ok (.iload 5, 2) := by decide +kernel
theorem dX6_turnedFor_62 : decode cX6_turnedFor 62 = .ok (.ishl, 1) := by decide +kernel
theorem dX6_turnedFor_63 : decode cX6_turnedFor 63 = .ok (.ixor, 1) := by decide +kernel
theorem dX6_turnedFor_64 : decode cX6_turnedFor 64 = .ok (.iastore, 1) := by decide +kernel
theorem dX6_turnedFor_65 : decode cX6_turnedFor 65 = .ok (.aload_n 0, 1) := by decide +kernel
theorem dX6_turnedFor_66 : decode cX6_turnedFor 66 = .ok (.iload_n 1, 1) := by decide +kernel
theorem dX6_turnedFor_67 : decode cX6_turnedFor 67 = .ok (.iload_n 2, 1) := by decide +kernel
theorem dX6_turnedFor_68 : decode cX6_turnedFor 68 = .ok (.invokevirtual 257, 3) := by decide +kernel
theorem dX6_turnedFor_71 : decode cX6_turnedFor 71 = .ok (.istore 6, 2) := by decide +kernel
theorem dX6_turnedFor_73 : decode cX6_turnedFor 73 = .ok (.iload 6, 2) := by decide +kernel
theorem dX6_turnedFor_75 : decode cX6_turnedFor 75 = .ok (.iload 4, 2) := by decide +kernel
theorem dX6_turnedFor_77 : decode cX6_turnedFor 77 = .ok (.if_icmp .le 8, 3) := by decide +kernel
theorem dX6_turnedFor_80 : decode cX6_turnedFor 80 = .ok (.iload 5, 2) := by decide +kernel
theorem dX6_turnedFor_82 : decode cX6_turnedFor 82 = .ok (.goto 4, 3) := by decide +kernel
theorem dX6_turnedFor_85 : decode cX6_turnedFor 85 = .ok (.iload_n 3, 1) := by decide +kernel
theorem dX6_turnedFor_86 : decode cX6_turnedFor 86 = .ok (.istore_n 3, 1) := by decide +kernel
theorem dX6_turnedFor_87 : decode cX6_turnedFor 87 = .ok (.iload 6, 2) := by decide +kernel
theorem dX6_turnedFor_89 : decode cX6_turnedFor 89 = .ok (.iload 4, 2) := by decide +kernel
theorem dX6_turnedFor_91 : decode cX6_turnedFor 91 = .ok (.if_icmp .le 8, 3) := by decide +kernel
theorem dX6_turnedFor_94 : decode cX6_turnedFor 94 = .ok (.iload 6, 2) := by decide +kernel
theorem dX6_turnedFor_96 : decode cX6_turnedFor 96 = .ok (.goto 5, 3) := by decide +kernel
theorem dX6_turnedFor_99 : decode cX6_turnedFor 99 = .ok (.iload 4, 2) := by decide +kernel
theorem dX6_turnedFor_101 : decode cX6_turnedFor 101 = .ok (.istore 4, 2) := by decide +kernel
theorem dX6_turnedFor_103 : decode cX6_turnedFor 103 = .ok (.iinc 5 1, 3) := by decide +kernel
theorem dX6_turnedFor_106 : decode cX6_turnedFor 106 = .ok (.goto (-61), 3) := by decide +kernel
theorem dX6_turnedFor_109 : decode cX6_turnedFor 109 = .ok (.iload_n 3, 1) := by decide +kernel
theorem dX6_turnedFor_110 : decode cX6_turnedFor 110 = .ok (.ireturn, 1) := by decide +kernel
def pc_X6_turnedFor (i : Nat) : Nat := ([0, 8, 18, 20, 45, 52, 80, 85, 86, 94, 99, 101, 109] : List Nat).getD i 0
set_option maxRecDepth 20000 in
theorem ob_X6_turnedFor_0 {x : ip_Cx} {G : ip_Gl} {d : Nat} (X : ip_X x G tb 7 d 0 0 RX6 cX6_turnedFor) (hr : x.2.2.2.2.2.2.2.2.1.sig.returnType = (some .int)) (hnm : x.2.2.2.2.2.2.2.2.1.name = "turnedFor") : ip_okB x G 7 pc_X6_turnedFor 0 ([oLdA 0, oLdI 1, oCaV (ip_call tb d) 0 0 6 123 2 0 0], tIf (fun a => a = 0) 2 1) := ⟨_, okC (ok_aldn X rfl dX6_turnedFor_0)
  (okC (ok_ildn X rfl dX6_turnedFor_1)
  (okC (ok_calV X (i := 192) (e := en_123) rfl mt_123 rfl rfl rfl tw_1002 tw_1004 (Or.inl ⟨_, _, rfl⟩) tp_23 dX6_turnedFor_2)
  (okN))), ok_ifeq X (by decide) rfl dX6_turnedFor_5⟩
set_option maxRecDepth 20000 in
theorem ob_X6_turnedFor_1 {x : ip_Cx} {G : ip_Gl} {d : Nat} (X : ip_X x G tb 7 d 0 0 RX6 cX6_turnedFor) (hr : x.2.2.2.2.2.2.2.2.1.sig.returnType = (some .int)) (hnm : x.2.2.2.2.2.2.2.2.1.name = "turnedFor") : ip_okB x G 7 pc_X6_turnedFor 8 ([oLdI 2, oI (1), oI (30), oCal (ip_call tb d) 0 0 120 3 0 0], tIf (fun a => a = 0) 2 3) := ⟨_, okC (ok_ildn X rfl dX6_turnedFor_8)
  (okC (ok_ic X (by decide) dX6_turnedFor_9)
  (okC (ok_bi X (by decide) dX6_turnedFor_10)
  (okC (ok_calS X (i := 57) (e := en_120) rfl mt_120 rfl rfl rfl tw_885 tw_886 dX6_turnedFor_12)
  (okN)))), ok_ifne X (by decide) rfl dX6_turnedFor_15⟩
set_option maxRecDepth 20000 in
theorem ob_X6_turnedFor_2 {x : ip_Cx} {G : ip_Gl} {d : Nat} (X : ip_X x G tb 7 d 0 0 RX6 cX6_turnedFor) (hr : x.2.2.2.2.2.2.2.2.1.sig.returnType = (some .int)) (hnm : x.2.2.2.2.2.2.2.2.1.name = "turnedFor") : ip_okB x G 7 pc_X6_turnedFor 18 ([oI (-1)], tRI .int 0 0) := ⟨_, okC (ok_ic X (by decide) dX6_turnedFor_18)
  (okN), ok_ret X hr dX6_turnedFor_19⟩
set_option maxRecDepth 20000 in
theorem ob_X6_turnedFor_3 {x : ip_Cx} {G : ip_Gl} {d : Nat} (X : ip_X x G tb 7 d 0 0 RX6 cX6_turnedFor) (hr : x.2.2.2.2.2.2.2.2.1.sig.returnType = (some .int)) (hnm : x.2.2.2.2.2.2.2.2.1.name = "turnedFor") : ip_okB x G 7 pc_X6_turnedFor 20 ([oLdA 0, oGet 6 0, oLdA 0, oGet 6 3, oCal (ip_call tb d) 0 0 122 2 0 0, oI (-3), oStI 3, oLdA 0, oLdI 1, oLdI 2, oCaV (ip_call tb d) 0 0 6 178 3 0 0, oStI 4, oI (0), oStI 5], tGo 4) := ⟨_, okC (ok_aldn X rfl dX6_turnedFor_20)
  (okC (ok_get X (ci := 6) rfl (by decide) iw_X6 tw_795 dX6_turnedFor_21)
  (okC (ok_aldn X rfl dX6_turnedFor_24)
  (okC (ok_get X (ci := 6) rfl (by decide) iw_X6 tw_798 dX6_turnedFor_25)
  (okC (ok_calS X (i := 174) (e := en_122) rfl mt_122 rfl rfl rfl tw_968 tw_969 dX6_turnedFor_28)
  (okC (ok_bi X (by decide) dX6_turnedFor_31)
  (okC (ok_istn X rfl (by decide) dX6_turnedFor_33)
  (okC (ok_aldn X rfl dX6_turnedFor_34)
  (okC (ok_ildn X rfl dX6_turnedFor_35)
  (okC (ok_ildn X rfl dX6_turnedFor_36)
  (okC (ok_calV X (i := 257) (e := en_178) rfl mt_178 rfl rfl rfl tw_1121 tw_1123 (Or.inl ⟨_, _, rfl⟩) tp_41 dX6_turnedFor_37)
  (okC (ok_ist X (by decide) dX6_turnedFor_40)
  (okC (ok_ic X (by decide) dX6_turnedFor_42)
  (okC (ok_ist X (by decide) dX6_turnedFor_43)
  (okN)))))))))))))), ok_fall rfl⟩
set_option maxRecDepth 20000 in
theorem ob_X6_turnedFor_4 {x : ip_Cx} {G : ip_Gl} {d : Nat} (X : ip_X x G tb 7 d 0 0 RX6 cX6_turnedFor) (hr : x.2.2.2.2.2.2.2.2.1.sig.returnType = (some .int)) (hnm : x.2.2.2.2.2.2.2.2.1.name = "turnedFor") : ip_okB x G 7 pc_X6_turnedFor 45 ([oLdI 5, oI (8)], tCm (fun a b => a < b) 5 12) := ⟨_, okC (ok_ild X dX6_turnedFor_45)
  (okC (ok_bi X (by decide) dX6_turnedFor_47)
  (okN)), ok_cmge X (by decide) rfl dX6_turnedFor_49⟩
set_option maxRecDepth 20000 in
theorem ob_X6_turnedFor_5 {x : ip_Cx} {G : ip_Gl} {d : Nat} (X : ip_X x G tb 7 d 0 0 RX6 cX6_turnedFor) (hr : x.2.2.2.2.2.2.2.2.1.sig.returnType = (some .int)) (hnm : x.2.2.2.2.2.2.2.2.1.name = "turnedFor") : ip_okB x G 7 pc_X6_turnedFor 52 ([oLdA 0, oGet 6 0, oI (5), oDp2, oAldI, oI (1), oLdI 5, oBI (fun a b => a <<< (b &&& 31)), oBI (fun a b => a ^^^ b), oAstI, oLdA 0, oLdI 1, oLdI 2, oCaV (ip_call tb d) 0 0 6 178 3 0 0, oStI 6, oLdI 6, oLdI 4], tCm (fun a b => b < a) 6 7) := ⟨_, okC (ok_aldn X rfl dX6_turnedFor_52)
  (okC (ok_get X (ci := 6) rfl (by decide) iw_X6 tw_795 dX6_turnedFor_53)
  (okC (ok_ic X (by decide) dX6_turnedFor_56)
  (okC (ok_dp2 X dX6_turnedFor_57)
  (okC (ok_iald X dX6_turnedFor_58)
  (okC (ok_ic X (by decide) dX6_turnedFor_59)
  (okC (ok_ild X dX6_turnedFor_60)
  (okC (ok_ishl X dX6_turnedFor_62)
  (okC (ok_ixor X dX6_turnedFor_63)
  (okC (ok_iast X dX6_turnedFor_64)
  (okC (ok_aldn X rfl dX6_turnedFor_65)
  (okC (ok_ildn X rfl dX6_turnedFor_66)
  (okC (ok_ildn X rfl dX6_turnedFor_67)
  (okC (ok_calV X (i := 257) (e := en_178) rfl mt_178 rfl rfl rfl tw_1121 tw_1123 (Or.inl ⟨_, _, rfl⟩) tp_41 dX6_turnedFor_68)
  (okC (ok_ist X (by decide) dX6_turnedFor_71)
  (okC (ok_ild X dX6_turnedFor_73)
  (okC (ok_ild X dX6_turnedFor_75)
  (okN))))))))))))))))), ok_cmle X (by decide) rfl dX6_turnedFor_77⟩
set_option maxRecDepth 20000 in
theorem ob_X6_turnedFor_6 {x : ip_Cx} {G : ip_Gl} {d : Nat} (X : ip_X x G tb 7 d 0 0 RX6 cX6_turnedFor) (hr : x.2.2.2.2.2.2.2.2.1.sig.returnType = (some .int)) (hnm : x.2.2.2.2.2.2.2.2.1.name = "turnedFor") : ip_okB x G 7 pc_X6_turnedFor 80 ([oLdI 5], tGo 8) := ⟨_, okC (ok_ild X dX6_turnedFor_80)
  (okN), ok_go X (by decide) dX6_turnedFor_82⟩
set_option maxRecDepth 20000 in
theorem ob_X6_turnedFor_7 {x : ip_Cx} {G : ip_Gl} {d : Nat} (X : ip_X x G tb 7 d 0 0 RX6 cX6_turnedFor) (hr : x.2.2.2.2.2.2.2.2.1.sig.returnType = (some .int)) (hnm : x.2.2.2.2.2.2.2.2.1.name = "turnedFor") : ip_okB x G 7 pc_X6_turnedFor 85 ([oLdI 3], tGo 8) := ⟨_, okC (ok_ildn X rfl dX6_turnedFor_85)
  (okN), ok_fall rfl⟩
set_option maxRecDepth 20000 in
theorem ob_X6_turnedFor_8 {x : ip_Cx} {G : ip_Gl} {d : Nat} (X : ip_X x G tb 7 d 0 0 RX6 cX6_turnedFor) (hr : x.2.2.2.2.2.2.2.2.1.sig.returnType = (some .int)) (hnm : x.2.2.2.2.2.2.2.2.1.name = "turnedFor") : ip_okB x G 7 pc_X6_turnedFor 86 ([oStI 3, oLdI 6, oLdI 4], tCm (fun a b => b < a) 9 10) := ⟨_, okC (ok_istn X rfl (by decide) dX6_turnedFor_86)
  (okC (ok_ild X dX6_turnedFor_87)
  (okC (ok_ild X dX6_turnedFor_89)
  (okN))), ok_cmle X (by decide) rfl dX6_turnedFor_91⟩
set_option maxRecDepth 20000 in
theorem ob_X6_turnedFor_9 {x : ip_Cx} {G : ip_Gl} {d : Nat} (X : ip_X x G tb 7 d 0 0 RX6 cX6_turnedFor) (hr : x.2.2.2.2.2.2.2.2.1.sig.returnType = (some .int)) (hnm : x.2.2.2.2.2.2.2.2.1.name = "turnedFor") : ip_okB x G 7 pc_X6_turnedFor 94 ([oLdI 6], tGo 11) := ⟨_, okC (ok_ild X dX6_turnedFor_94)
  (okN), ok_go X (by decide) dX6_turnedFor_96⟩
set_option maxRecDepth 20000 in
theorem ob_X6_turnedFor_10 {x : ip_Cx} {G : ip_Gl} {d : Nat} (X : ip_X x G tb 7 d 0 0 RX6 cX6_turnedFor) (hr : x.2.2.2.2.2.2.2.2.1.sig.returnType = (some .int)) (hnm : x.2.2.2.2.2.2.2.2.1.name = "turnedFor") : ip_okB x G 7 pc_X6_turnedFor 99 ([oLdI 4], tGo 11) := ⟨_, okC (ok_ild X dX6_turnedFor_99)
  (okN), ok_fall rfl⟩
set_option maxRecDepth 20000 in
theorem ob_X6_turnedFor_11 {x : ip_Cx} {G : ip_Gl} {d : Nat} (X : ip_X x G tb 7 d 0 0 RX6 cX6_turnedFor) (hr : x.2.2.2.2.2.2.2.2.1.sig.returnType = (some .int)) (hnm : x.2.2.2.2.2.2.2.2.1.name = "turnedFor") : ip_okB x G 7 pc_X6_turnedFor 101 ([oStI 4, oInc 5 (1)], tGo 4) := ⟨_, okC (ok_ist X (by decide) dX6_turnedFor_101)
  (okC (ok_inc X (by decide) dX6_turnedFor_103)
  (okN)), ok_go X (by decide) dX6_turnedFor_106⟩
set_option maxRecDepth 20000 in
theorem ob_X6_turnedFor_12 {x : ip_Cx} {G : ip_Gl} {d : Nat} (X : ip_X x G tb 7 d 0 0 RX6 cX6_turnedFor) (hr : x.2.2.2.2.2.2.2.2.1.sig.returnType = (some .int)) (hnm : x.2.2.2.2.2.2.2.2.1.name = "turnedFor") : ip_okB x G 7 pc_X6_turnedFor 109 ([oLdI 3], tRI .int 0 0) := ⟨_, okC (ok_ildn X rfl dX6_turnedFor_109)
  (okN), ok_ret X hr dX6_turnedFor_110⟩
theorem om_186 : ip_MOk tb en_186 pc_X6_turnedFor := fun x G d X hr hnm => ⟨ob_X6_turnedFor_0 X hr hnm, ⟨ob_X6_turnedFor_1 X hr hnm, ⟨ob_X6_turnedFor_2 X hr hnm, ⟨ob_X6_turnedFor_3 X hr hnm, ⟨ob_X6_turnedFor_4 X hr hnm, ⟨ob_X6_turnedFor_5 X hr hnm, ⟨ob_X6_turnedFor_6 X hr hnm, ⟨ob_X6_turnedFor_7 X hr hnm, ⟨ob_X6_turnedFor_8 X hr hnm, ⟨ob_X6_turnedFor_9 X hr hnm, ⟨ob_X6_turnedFor_10 X hr hnm, ⟨ob_X6_turnedFor_11 X hr hnm, ⟨ob_X6_turnedFor_12 X hr hnm, trivial⟩⟩⟩⟩⟩⟩⟩⟩⟩⟩⟩⟩⟩
theorem dX6_loadFor_0 : decode cX6_loadFor 0 = .ok (.aload_n 0, 1) := by decide +kernel
theorem dX6_loadFor_1 : decode cX6_loadFor 1 = .ok (.iload_n 1, 1) := by decide +kernel
theorem dX6_loadFor_2 : decode cX6_loadFor 2 = .ok (.invokevirtual 192, 3) := by decide +kernel
theorem dX6_loadFor_5 : decode cX6_loadFor 5 = .ok (.ifCond .eq 13, 3) := by decide +kernel
theorem dX6_loadFor_8 : decode cX6_loadFor 8 = .ok (.iload_n 2, 1) := by decide +kernel
theorem dX6_loadFor_9 : decode cX6_loadFor 9 = .ok (.iconst 1, 1) := by decide +kernel
theorem dX6_loadFor_10 : decode cX6_loadFor 10 = .ok (.bipush 30, 2) := by decide +kernel
theorem dX6_loadFor_12 : decode cX6_loadFor 12 = .ok (.invokestatic 57, 3) := by decide +kernel
theorem dX6_loadFor_15 : decode cX6_loadFor 15 = .ok (.ifCond .ne 5, 3) := by decide +kernel
theorem dX6_loadFor_18 : decode cX6_loadFor 18 = .ok (.iconst (-1), 1) := by decide +kernel
theorem dX6_loadFor_19 : decode cX6_loadFor 19 = .ok (.ireturn, 1) := by decide +kernel
theorem dX6_loadFor_20 : decode cX6_loadFor 20 = .ok (.aload_n 0, 1) := by decide +kernel
theorem dX6_loadFor_21 : decode cX6_loadFor 21 = .ok (.getfield 7, 3) := by decide +kernel
theorem dX6_loadFor_24 : decode cX6_loadFor 24 = .ok (.aload_n 0, 1) := by decide +kernel
theorem dX6_loadFor_25 : decode cX6_loadFor 25 = .ok (.getfield 19, 3) := by decide +kernel
theorem dX6_loadFor_28 : decode cX6_loadFor 28 = .ok (.invokestatic 174, 3) := by decide +kernel
theorem dX6_loadFor_31 : decode cX6_loadFor 31 = .ok (.bipush 100, 2) := by decide +kernel
theorem dX6_loadFor_33 : decode cX6_loadFor 33 = .ok (.istore_n 3, 1) := by decide +kernel
theorem dX6_loadFor_34 : decode cX6_loadFor 34 = .ok (.iconst 0, 1) := by decide +kernel
theorem dX6_loadFor_35 : decode cX6_loadFor 35 = .ok (.istore 4, 2) := by decide +kernel
theorem dX6_loadFor_37 : decode cX6_loadFor 37 = .ok (.iload_n 3, 1) := by decide +kernel
theorem dX6_loadFor_38 : decode cX6_loadFor 38 = .ok (.ifCond .le 39, 3) := by decide +kernel
theorem dX6_loadFor_41 : decode cX6_loadFor 41 = .ok (.iload 4, 2) := by decide +kernel
theorem dX6_loadFor_43 : decode cX6_loadFor 43 = .ok (.ifCond .ne 34, 3) := by decide +kernel
theorem dX6_loadFor_46 : decode cX6_loadFor 46 = .ok (.iinc 3 (-1), 3) := by decide +kernel
theorem dX6_loadFor_49 : decode cX6_loadFor 49 = .ok (.aload_n 0, 1) := by decide +kernel
theorem dX6_loadFor_50 : decode cX6_loadFor 50 = .ok (.iload_n 1, 1) := by decide +kernel
theorem dX6_loadFor_51 : decode cX6_loadFor 51 = .ok (.iconst 1, 1) := by decide +kernel
theorem dX6_loadFor_52 : decode cX6_loadFor 52 = .ok (.iload_n 3, 1) := by decide +kernel
theorem dX6_loadFor_53 : decode cX6_loadFor 53 = .ok (.invokevirtual 188, 3) := by decide +kernel
theorem dX6_loadFor_56 : decode cX6_loadFor 56 = .ok (.aload_n 0, 1) := by decide +kernel
theorem dX6_loadFor_57 : decode cX6_loadFor 57 = .ok (.iload_n 1, 1) := by decide +kernel
theorem dX6_loadFor_58 : decode cX6_loadFor 58 = .ok (.iload_n 2, 1) := by decide +kernel
theorem dX6_loadFor_59 : decode cX6_loadFor 59 = .ok (.invokevirtual 257, 3) := by decide +kernel
theorem dX6_loadFor_62 : decode cX6_loadFor 62 = .ok (.bipush 20, 2) := by decide +kernel
theorem dX6_loadFor_64 : decode cX6_loadFor 64 = .ok (.if_icmp .ne 7, 3) := by decide +kernel
theorem dX6_loadFor_67 : decode cX6_loadFor 67 = .ok (.iconst 1, 1) := by decide +kernel
theorem dX6_loadFor_68 : decode cX6_loadFor 68 = .ok (.goto 4, 3) := by decide +kernel
theorem dX6_loadFor_71 : decode cX6_loadFor 71 = .ok (.iconst 0, 1) := by decide +kernel
theorem dX6_loadFor_72 : decode cX6_loadFor 72 = .ok (.istore 4, 2) := by decide +kernel
theorem dX6_loadFor_74 : decode cX6_loadFor 74 = .ok (.goto (-37), 3) := by decide +kernel
theorem dX6_loadFor_77 : decode cX6_loadFor 77 = .ok (.iload 4, 2) := by decide +kernel
theorem dX6_loadFor_79 : decode cX6_loadFor 79 = .ok (.ifCond .eq 7, 3) := by decide +kernel
theorem dX6_loadFor_82 : decode cX6_loadFor 82 = .ok (.iload_n 3, 1) := by decide +kernel
theorem dX6_loadFor_83 : decode cX6_loadFor 83 = .ok (.goto 5, 3) := by decide +kernel
theorem dX6_loadFor_86 : decode cX6_loadFor 86 = .ok (.bipush (-3), 2) := by decide +kernel
theorem dX6_loadFor_88 : decode cX6_loadFor 88 = .ok (.ireturn, 1) := by decide +kernel
def pc_X6_loadFor (i : Nat) : Nat := ([0, 8, 18, 20, 37, 41, 46, 67, 71, 72, 77, 82, 86, 88] : List Nat).getD i 0
set_option maxRecDepth 20000 in
theorem ob_X6_loadFor_0 {x : ip_Cx} {G : ip_Gl} {d : Nat} (X : ip_X x G tb 5 d 0 0 RX6 cX6_loadFor) (hr : x.2.2.2.2.2.2.2.2.1.sig.returnType = (some .int)) (hnm : x.2.2.2.2.2.2.2.2.1.name = "loadFor") : ip_okB x G 5 pc_X6_loadFor 0 ([oLdA 0, oLdI 1, oCaV (ip_call tb d) 0 0 6 123 2 0 0], tIf (fun a => a = 0) 2 1) := ⟨_, okC (ok_aldn X rfl dX6_loadFor_0)
  (okC (ok_ildn X rfl dX6_loadFor_1)
  (okC (ok_calV X (i := 192) (e := en_123) rfl mt_123 rfl rfl rfl tw_1002 tw_1004 (Or.inl ⟨_, _, rfl⟩) tp_23 dX6_loadFor_2)
  (okN))), ok_ifeq X (by decide) rfl dX6_loadFor_5⟩
set_option maxRecDepth 20000 in
theorem ob_X6_loadFor_1 {x : ip_Cx} {G : ip_Gl} {d : Nat} (X : ip_X x G tb 5 d 0 0 RX6 cX6_loadFor) (hr : x.2.2.2.2.2.2.2.2.1.sig.returnType = (some .int)) (hnm : x.2.2.2.2.2.2.2.2.1.name = "loadFor") : ip_okB x G 5 pc_X6_loadFor 8 ([oLdI 2, oI (1), oI (30), oCal (ip_call tb d) 0 0 120 3 0 0], tIf (fun a => a = 0) 2 3) := ⟨_, okC (ok_ildn X rfl dX6_loadFor_8)
  (okC (ok_ic X (by decide) dX6_loadFor_9)
  (okC (ok_bi X (by decide) dX6_loadFor_10)
  (okC (ok_calS X (i := 57) (e := en_120) rfl mt_120 rfl rfl rfl tw_885 tw_886 dX6_loadFor_12)
  (okN)))), ok_ifne X (by decide) rfl dX6_loadFor_15⟩
set_option maxRecDepth 20000 in
theorem ob_X6_loadFor_2 {x : ip_Cx} {G : ip_Gl} {d : Nat} (X : ip_X x G tb 5 d 0 0 RX6 cX6_loadFor) (hr : x.2.2.2.2.2.2.2.2.1.sig.returnType = (some .int)) (hnm : x.2.2.2.2.2.2.2.2.1.name = "loadFor") : ip_okB x G 5 pc_X6_loadFor 18 ([oI (-1)], tRI .int 0 0) := ⟨_, okC (ok_ic X (by decide) dX6_loadFor_18)
  (okN), ok_ret X hr dX6_loadFor_19⟩
set_option maxRecDepth 20000 in
theorem ob_X6_loadFor_3 {x : ip_Cx} {G : ip_Gl} {d : Nat} (X : ip_X x G tb 5 d 0 0 RX6 cX6_loadFor) (hr : x.2.2.2.2.2.2.2.2.1.sig.returnType = (some .int)) (hnm : x.2.2.2.2.2.2.2.2.1.name = "loadFor") : ip_okB x G 5 pc_X6_loadFor 20 ([oLdA 0, oGet 6 0, oLdA 0, oGet 6 3, oCal (ip_call tb d) 0 0 122 2 0 0, oI (100), oStI 3, oI (0), oStI 4], tGo 4) := ⟨_, okC (ok_aldn X rfl dX6_loadFor_20)
  (okC (ok_get X (ci := 6) rfl (by decide) iw_X6 tw_795 dX6_loadFor_21)
  (okC (ok_aldn X rfl dX6_loadFor_24)
  (okC (ok_get X (ci := 6) rfl (by decide) iw_X6 tw_798 dX6_loadFor_25)
  (okC (ok_calS X (i := 174) (e := en_122) rfl mt_122 rfl rfl rfl tw_968 tw_969 dX6_loadFor_28)
  (okC (ok_bi X (by decide) dX6_loadFor_31)
  (okC (ok_istn X rfl (by decide) dX6_loadFor_33)
  (okC (ok_ic X (by decide) dX6_loadFor_34)
  (okC (ok_ist X (by decide) dX6_loadFor_35)
  (okN))))))))), ok_fall rfl⟩
set_option maxRecDepth 20000 in
theorem ob_X6_loadFor_4 {x : ip_Cx} {G : ip_Gl} {d : Nat} (X : ip_X x G tb 5 d 0 0 RX6 cX6_loadFor) (hr : x.2.2.2.2.2.2.2.2.1.sig.returnType = (some .int)) (hnm : x.2.2.2.2.2.2.2.2.1.name = "loadFor") : ip_okB x G 5 pc_X6_loadFor 37 ([oLdI 3], tIf (fun a => 0 < a) 5 10) := ⟨_, okC (ok_ildn X rfl dX6_loadFor_37)
  (okN), ok_ifle X (by decide) rfl dX6_loadFor_38⟩
set_option maxRecDepth 20000 in
theorem ob_X6_loadFor_5 {x : ip_Cx} {G : ip_Gl} {d : Nat} (X : ip_X x G tb 5 d 0 0 RX6 cX6_loadFor) (hr : x.2.2.2.2.2.2.2.2.1.sig.returnType = (some .int)) (hnm : x.2.2.2.2.2.2.2.2.1.name = "loadFor") : ip_okB x G 5 pc_X6_loadFor 41 ([oLdI 4], tIf (fun a => a = 0) 6 10) := ⟨_, okC (ok_ild X dX6_loadFor_41)
  (okN), ok_ifne X (by decide) rfl dX6_loadFor_43⟩
set_option maxRecDepth 20000 in
theorem ob_X6_loadFor_6 {x : ip_Cx} {G : ip_Gl} {d : Nat} (X : ip_X x G tb 5 d 0 0 RX6 cX6_loadFor) (hr : x.2.2.2.2.2.2.2.2.1.sig.returnType = (some .int)) (hnm : x.2.2.2.2.2.2.2.2.1.name = "loadFor") : ip_okB x G 5 pc_X6_loadFor 46 ([oInc 3 (-1), oLdA 0, oLdI 1, oI (1), oLdI 3, oCaV (ip_call tb d) 0 0 6 125 4 0 0, oLdA 0, oLdI 1, oLdI 2, oCaV (ip_call tb d) 0 0 6 178 3 0 0, oI (20)], tCm (fun a b => a = b) 7 8) := ⟨_, okC (ok_inc X (by decide) dX6_loadFor_46)
  (okC (ok_aldn X rfl dX6_loadFor_49)
  (okC (ok_ildn X rfl dX6_loadFor_50)
  (okC (ok_ic X (by decide) dX6_loadFor_51)
  (okC (ok_ildn X rfl dX6_loadFor_52)
  (okC (ok_calV X (i := 188) (e := en_125) rfl mt_125 rfl rfl rfl tw_994 tw_996 (Or.inl ⟨_, _, rfl⟩) tp_22 dX6_loadFor_53)
  (okC (ok_aldn X rfl dX6_loadFor_56)
  (okC (ok_ildn X rfl dX6_loadFor_57)
  (okC (ok_ildn X rfl dX6_loadFor_58)
  (okC (ok_calV X (i := 257) (e := en_178) rfl mt_178 rfl rfl rfl tw_1121 tw_1123 (Or.inl ⟨_, _, rfl⟩) tp_41 dX6_loadFor_59)
  (okC (ok_bi X (by decide) dX6_loadFor_62)
  (okN))))))))))), ok_cmne X (by decide) rfl dX6_loadFor_64⟩
set_option maxRecDepth 20000 in
theorem ob_X6_loadFor_7 {x : ip_Cx} {G : ip_Gl} {d : Nat} (X : ip_X x G tb 5 d 0 0 RX6 cX6_loadFor) (hr : x.2.2.2.2.2.2.2.2.1.sig.returnType = (some .int)) (hnm : x.2.2.2.2.2.2.2.2.1.name = "loadFor") : ip_okB x G 5 pc_X6_loadFor 67 ([oI (1)], tGo 9) := ⟨_, okC (ok_ic X (by decide) dX6_loadFor_67)
  (okN), ok_go X (by decide) dX6_loadFor_68⟩
set_option maxRecDepth 20000 in
theorem ob_X6_loadFor_8 {x : ip_Cx} {G : ip_Gl} {d : Nat} (X : ip_X x G tb 5 d 0 0 RX6 cX6_loadFor) (hr : x.2.2.2.2.2.2.2.2.1.sig.returnType = (some .int)) (hnm : x.2.2.2.2.2.2.2.2.1.name = "loadFor") : ip_okB x G 5 pc_X6_loadFor 71 ([oI (0)], tGo 9) := ⟨_, okC (ok_ic X (by decide) dX6_loadFor_71)
  (okN), ok_fall rfl⟩
set_option maxRecDepth 20000 in
theorem ob_X6_loadFor_9 {x : ip_Cx} {G : ip_Gl} {d : Nat} (X : ip_X x G tb 5 d 0 0 RX6 cX6_loadFor) (hr : x.2.2.2.2.2.2.2.2.1.sig.returnType = (some .int)) (hnm : x.2.2.2.2.2.2.2.2.1.name = "loadFor") : ip_okB x G 5 pc_X6_loadFor 72 ([oStI 4], tGo 4) := ⟨_, okC (ok_ist X (by decide) dX6_loadFor_72)
  (okN), ok_go X (by decide) dX6_loadFor_74⟩
set_option maxRecDepth 20000 in
theorem ob_X6_loadFor_10 {x : ip_Cx} {G : ip_Gl} {d : Nat} (X : ip_X x G tb 5 d 0 0 RX6 cX6_loadFor) (hr : x.2.2.2.2.2.2.2.2.1.sig.returnType = (some .int)) (hnm : x.2.2.2.2.2.2.2.2.1.name = "loadFor") : ip_okB x G 5 pc_X6_loadFor 77 ([oLdI 4], tIf (fun a => a = 0) 12 11) := ⟨_, okC (ok_ild X dX6_loadFor_77)
  (okN), ok_ifeq X (by decide) rfl dX6_loadFor_79⟩
set_option maxRecDepth 20000 in
theorem ob_X6_loadFor_11 {x : ip_Cx} {G : ip_Gl} {d : Nat} (X : ip_X x G tb 5 d 0 0 RX6 cX6_loadFor) (hr : x.2.2.2.2.2.2.2.2.1.sig.returnType = (some .int)) (hnm : x.2.2.2.2.2.2.2.2.1.name = "loadFor") : ip_okB x G 5 pc_X6_loadFor 82 ([oLdI 3], tGo 13) := ⟨_, okC (ok_ildn X rfl dX6_loadFor_82)
  (okN), ok_go X (by decide) dX6_loadFor_83⟩
set_option maxRecDepth 20000 in
theorem ob_X6_loadFor_12 {x : ip_Cx} {G : ip_Gl} {d : Nat} (X : ip_X x G tb 5 d 0 0 RX6 cX6_loadFor) (hr : x.2.2.2.2.2.2.2.2.1.sig.returnType = (some .int)) (hnm : x.2.2.2.2.2.2.2.2.1.name = "loadFor") : ip_okB x G 5 pc_X6_loadFor 86 ([oI (-3)], tGo 13) := ⟨_, okC (ok_bi X (by decide) dX6_loadFor_86)
  (okN), ok_fall rfl⟩
set_option maxRecDepth 20000 in
theorem ob_X6_loadFor_13 {x : ip_Cx} {G : ip_Gl} {d : Nat} (X : ip_X x G tb 5 d 0 0 RX6 cX6_loadFor) (hr : x.2.2.2.2.2.2.2.2.1.sig.returnType = (some .int)) (hnm : x.2.2.2.2.2.2.2.2.1.name = "loadFor") : ip_okB x G 5 pc_X6_loadFor 88 ([], tRI .int 0 0) := ⟨_, okN, ok_ret X hr dX6_loadFor_88⟩
theorem om_187 : ip_MOk tb en_187 pc_X6_loadFor := fun x G d X hr hnm => ⟨ob_X6_loadFor_0 X hr hnm, ⟨ob_X6_loadFor_1 X hr hnm, ⟨ob_X6_loadFor_2 X hr hnm, ⟨ob_X6_loadFor_3 X hr hnm, ⟨ob_X6_loadFor_4 X hr hnm, ⟨ob_X6_loadFor_5 X hr hnm, ⟨ob_X6_loadFor_6 X hr hnm, ⟨ob_X6_loadFor_7 X hr hnm, ⟨ob_X6_loadFor_8 X hr hnm, ⟨ob_X6_loadFor_9 X hr hnm, ⟨ob_X6_loadFor_10 X hr hnm, ⟨ob_X6_loadFor_11 X hr hnm, ⟨ob_X6_loadFor_12 X hr hnm, ⟨ob_X6_loadFor_13 X hr hnm, trivial⟩⟩⟩⟩⟩⟩⟩⟩⟩⟩⟩⟩⟩⟩
theorem dX6_both_0 : decode cX6_both 0 = .ok (.aload_n 0, 1) := by decide +kernel
theorem dX6_both_1 : decode cX6_both 1 = .ok (.iload_n 1, 1) := by decide +kernel
theorem dX6_both_2 : decode cX6_both 2 = .ok (.invokevirtual 192, 3) := by decide +kernel
theorem dX6_both_5 : decode cX6_both 5 = .ok (.ifCond .eq 25, 3) := by decide +kernel
theorem dX6_both_8 : decode cX6_both 8 = .ok (.aload_n 0, 1) := by decide +kernel
theorem dX6_both_9 : decode cX6_both 9 = .ok (.iload_n 2, 1) := by decide +kernel
theorem dX6_both_10 : decode cX6_both 10 = .ok (.invokevirtual 192, 3) := by decide +kernel
theorem dX6_both_13 : decode cX6_both 13 = .ok (.ifCond .eq 17, 3) := by decide +kernel
theorem dX6_both_16 : decode cX6_both 16 = .ok (.iload_n 1, 1) := by decide +kernel
theorem dX6_both_17 : decode cX6_both 17 = .ok (.iload_n 2, 1) := by decide +kernel
theorem dX6_both_18 : decode cX6_both 18 = .ok (.if_icmp .eq 12, 3) := by decide +kernel
theorem dX6_both_21 : decode cX6_both 21 = .ok (.iload_n 3, 1) := by decide +kernel
theorem dX6_both_22 : decode cX6_both 22 = .ok (.iconst 0, 1) := by decide +kernel
theorem dX6_both_23 : decode cX6_both 23 = .ok (.iconst 1, 1) := by decide +kernel
theorem dX6_both_24 : decode cX6_both 24 = .ok (.invokestatic 57, 3) := by decide +kernel
theorem dX6_both_27 : decode cX6_both 27 = .ok (.ifCond .ne 5, 3) := by decide +kernel
theorem dX6_both_30 : decode cX6_both 30 = .ok (.iconst (-1), 1) := by decide +kernel
theorem dX6_both_31 : decode cX6_both 31 = .ok (.ireturn, 1) := by decide +kernel
theorem dX6_both_32 : decode cX6_both 32 = .ok (.iload_n 3, 1) := by decide +kernel
theorem dX6_both_33 : decode cX6_both 33 = .ok (.ifCond .ne 12, 3) := by decide +kernel
theorem dX6_both_36 : decode cX6_both 36 = .ok (.aload_n 0, 1) := by decide +kernel
theorem dX6_both_37 : decode cX6_both 37 = .ok (.iload_n 1, 1) := by decide +kernel
theorem dX6_both_38 : decode cX6_both 38 = .ok (.iload_n 2, 1) := by decide +kernel
theorem dX6_both_39 : decode cX6_both 39 = .ok (.invokevirtual 264, 3) := by decide +kernel
theorem dX6_both_42 : decode cX6_both 42 = .ok (.goto 9, 3) := by decide +kernel
theorem dX6_both_45 : decode cX6_both 45 = .ok (.aload_n 0, 1) := by decide +kernel
theorem dX6_both_46 : decode cX6_both 46 = .ok (.iload_n 1, 1) := by decide +kernel
theorem dX6_both_47 : decode cX6_both 47 = .ok (.iload_n 2, 1) := by decide +kernel
theorem dX6_both_48 : decode cX6_both 48 = .ok (.invokevirtual 242, 3) := by decide +kernel
theorem dX6_both_51 : decode cX6_both 51 = .ok (.ireturn, 1) := by decide +kernel
def pc_X6_both (i : Nat) : Nat := ([0, 8, 16, 21, 30, 32, 36, 45, 51] : List Nat).getD i 0
set_option maxRecDepth 20000 in
theorem ob_X6_both_0 {x : ip_Cx} {G : ip_Gl} {d : Nat} (X : ip_X x G tb 4 d 0 0 RX6 cX6_both) (hr : x.2.2.2.2.2.2.2.2.1.sig.returnType = (some .int)) (hnm : x.2.2.2.2.2.2.2.2.1.name = "both") : ip_okB x G 4 pc_X6_both 0 ([oLdA 0, oLdI 1, oCaV (ip_call tb d) 0 0 6 123 2 0 0], tIf (fun a => a = 0) 4 1) := ⟨_, okC (ok_aldn X rfl dX6_both_0)
  (okC (ok_ildn X rfl dX6_both_1)
  (okC (ok_calV X (i := 192) (e := en_123) rfl mt_123 rfl rfl rfl tw_1002 tw_1004 (Or.inl ⟨_, _, rfl⟩) tp_23 dX6_both_2)
  (okN))), ok_ifeq X (by decide) rfl dX6_both_5⟩
set_option maxRecDepth 20000 in
theorem ob_X6_both_1 {x : ip_Cx} {G : ip_Gl} {d : Nat} (X : ip_X x G tb 4 d 0 0 RX6 cX6_both) (hr : x.2.2.2.2.2.2.2.2.1.sig.returnType = (some .int)) (hnm : x.2.2.2.2.2.2.2.2.1.name = "both") : ip_okB x G 4 pc_X6_both 8 ([oLdA 0, oLdI 2, oCaV (ip_call tb d) 0 0 6 123 2 0 0], tIf (fun a => a = 0) 4 2) := ⟨_, okC (ok_aldn X rfl dX6_both_8)
  (okC (ok_ildn X rfl dX6_both_9)
  (okC (ok_calV X (i := 192) (e := en_123) rfl mt_123 rfl rfl rfl tw_1002 tw_1004 (Or.inl ⟨_, _, rfl⟩) tp_23 dX6_both_10)
  (okN))), ok_ifeq X (by decide) rfl dX6_both_13⟩
set_option maxRecDepth 20000 in
theorem ob_X6_both_2 {x : ip_Cx} {G : ip_Gl} {d : Nat} (X : ip_X x G tb 4 d 0 0 RX6 cX6_both) (hr : x.2.2.2.2.2.2.2.2.1.sig.returnType = (some .int)) (hnm : x.2.2.2.2.2.2.2.2.1.name = "both") : ip_okB x G 4 pc_X6_both 16 ([oLdI 1, oLdI 2], tCm (fun a b => a = b) 4 3) := ⟨_, okC (ok_ildn X rfl dX6_both_16)
  (okC (ok_ildn X rfl dX6_both_17)
  (okN)), ok_cmeq X (by decide) rfl dX6_both_18⟩
set_option maxRecDepth 20000 in
theorem ob_X6_both_3 {x : ip_Cx} {G : ip_Gl} {d : Nat} (X : ip_X x G tb 4 d 0 0 RX6 cX6_both) (hr : x.2.2.2.2.2.2.2.2.1.sig.returnType = (some .int)) (hnm : x.2.2.2.2.2.2.2.2.1.name = "both") : ip_okB x G 4 pc_X6_both 21 ([oLdI 3, oI (0), oI (1), oCal (ip_call tb d) 0 0 120 3 0 0], tIf (fun a => a = 0) 4 5) := ⟨_, okC (ok_ildn X rfl dX6_both_21)
  (okC (ok_ic X (by decide) dX6_both_22)
  (okC (ok_ic X (by decide) dX6_both_23)
  (okC (ok_calS X (i := 57) (e := en_120) rfl mt_120 rfl rfl rfl tw_885 tw_886 dX6_both_24)
  (okN)))), ok_ifne X (by decide) rfl dX6_both_27⟩
set_option maxRecDepth 20000 in
theorem ob_X6_both_4 {x : ip_Cx} {G : ip_Gl} {d : Nat} (X : ip_X x G tb 4 d 0 0 RX6 cX6_both) (hr : x.2.2.2.2.2.2.2.2.1.sig.returnType = (some .int)) (hnm : x.2.2.2.2.2.2.2.2.1.name = "both") : ip_okB x G 4 pc_X6_both 30 ([oI (-1)], tRI .int 0 0) := ⟨_, okC (ok_ic X (by decide) dX6_both_30)
  (okN), ok_ret X hr dX6_both_31⟩
set_option maxRecDepth 20000 in
theorem ob_X6_both_5 {x : ip_Cx} {G : ip_Gl} {d : Nat} (X : ip_X x G tb 4 d 0 0 RX6 cX6_both) (hr : x.2.2.2.2.2.2.2.2.1.sig.returnType = (some .int)) (hnm : x.2.2.2.2.2.2.2.2.1.name = "both") : ip_okB x G 4 pc_X6_both 32 ([oLdI 3], tIf (fun a => a = 0) 6 7) := ⟨_, okC (ok_ildn X rfl dX6_both_32)
  (okN), ok_ifne X (by decide) rfl dX6_both_33⟩
set_option maxRecDepth 20000 in
theorem ob_X6_both_6 {x : ip_Cx} {G : ip_Gl} {d : Nat} (X : ip_X x G tb 4 d 0 0 RX6 cX6_both) (hr : x.2.2.2.2.2.2.2.2.1.sig.returnType = (some .int)) (hnm : x.2.2.2.2.2.2.2.2.1.name = "both") : ip_okB x G 4 pc_X6_both 36 ([oLdA 0, oLdI 1, oLdI 2, oCaV (ip_call tb d) 0 0 6 172 3 0 0], tGo 8) := ⟨_, okC (ok_aldn X rfl dX6_both_36)
  (okC (ok_ildn X rfl dX6_both_37)
  (okC (ok_ildn X rfl dX6_both_38)
  (okC (ok_calV X (i := 264) (e := en_172) rfl mt_172 rfl rfl rfl tw_1165 tw_1167 (Or.inl ⟨_, _, rfl⟩) tp_44 dX6_both_39)
  (okN)))), ok_go X (by decide) dX6_both_42⟩
set_option maxRecDepth 20000 in
theorem ob_X6_both_7 {x : ip_Cx} {G : ip_Gl} {d : Nat} (X : ip_X x G tb 4 d 0 0 RX6 cX6_both) (hr : x.2.2.2.2.2.2.2.2.1.sig.returnType = (some .int)) (hnm : x.2.2.2.2.2.2.2.2.1.name = "both") : ip_okB x G 4 pc_X6_both 45 ([oLdA 0, oLdI 1, oLdI 2, oCaV (ip_call tb d) 0 0 6 171 3 0 0], tGo 8) := ⟨_, okC (ok_aldn X rfl dX6_both_45)
  (okC (ok_ildn X rfl dX6_both_46)
  (okC (ok_ildn X rfl dX6_both_47)
  (okC (ok_calV X (i := 242) (e := en_171) rfl mt_171 rfl rfl rfl tw_1113 tw_1115 (Or.inl ⟨_, _, rfl⟩) tp_40 dX6_both_48)
  (okN)))), ok_fall rfl⟩
set_option maxRecDepth 20000 in
theorem ob_X6_both_8 {x : ip_Cx} {G : ip_Gl} {d : Nat} (X : ip_X x G tb 4 d 0 0 RX6 cX6_both) (hr : x.2.2.2.2.2.2.2.2.1.sig.returnType = (some .int)) (hnm : x.2.2.2.2.2.2.2.2.1.name = "both") : ip_okB x G 4 pc_X6_both 51 ([], tRI .int 0 0) := ⟨_, okN, ok_ret X hr dX6_both_51⟩
theorem om_188 : ip_MOk tb en_188 pc_X6_both := fun x G d X hr hnm => ⟨ob_X6_both_0 X hr hnm, ⟨ob_X6_both_1 X hr hnm, ⟨ob_X6_both_2 X hr hnm, ⟨ob_X6_both_3 X hr hnm, ⟨ob_X6_both_4 X hr hnm, ⟨ob_X6_both_5 X hr hnm, ⟨ob_X6_both_6 X hr hnm, ⟨ob_X6_both_7 X hr hnm, ⟨ob_X6_both_8 X hr hnm, trivial⟩⟩⟩⟩⟩⟩⟩⟩⟩
theorem dX6_isSo_0 : decode cX6_isSo 0 = .ok (.iconst 1, 1) := by decide +kernel
theorem dX6_isSo_1 : decode cX6_isSo 1 = .ok (.istore_n 3, 1) := by decide +kernel
theorem dX6_isSo_2 : decode cX6_isSo 2 = .ok (.iconst 0, 1) := by decide +kernel
theorem dX6_isSo_3 : decode cX6_isSo 3 = .ok (.istore 4, 2) := by decide +kernel
theorem dX6_isSo_5 : decode cX6_isSo 5 = .ok (.iload 4, 2) := by decide +kernel
theorem dX6_isSo_7 : decode cX6_isSo 7 = .ok (.aload_n 0, 1) := by decide +kernel
theorem dX6_isSo_8 : decode cX6_isSo 8 = .ok (.getfield 34, 3) := by decide +kernel
theorem dX6_isSo_11 : decode cX6_isSo 11 = .ok (.iload_n 1, 1) := by decide +kernel
theorem dX6_isSo_12 : decode cX6_isSo 12 = .ok (.iaload, 1) := by decide +kernel
theorem dX6_isSo_13 : decode cX6_isSo 13 = .ok (.if_icmp .ge 66, 3) := by decide +kernel
theorem dX6_isSo_16 : decode cX6_isSo 16 = .ok (.iload_n 3, 1) := by decide +kernel
theorem dX6_isSo_17 : decode cX6_isSo 17 = .ok (.ifCond .eq 62, 3) := by decide +kernel
theorem dX6_isSo_20 : decode cX6_isSo 20 = .ok (.aload_n 0, 1) := by decide +kernel
theorem dX6_isSo_21 : decode cX6_isSo 21 = .ok (.iload_n 2, 1) := by decide +kernel
theorem dX6_isSo_22 : decode cX6_isSo 22 = .ok (.invokevirtual 254, 3) := by decide +kernel
theorem dX6_isSo_25 : decode cX6_isSo 25 = .ok (.aload_n 0, 1) := by decide +kernel
theorem dX6_isSo_26 : decode cX6_isSo 26 = .ok (.getfield 37, 3) := by decide +kernel
theorem dX6_isSo_29 : decode cX6_isSo 29 = .ok (.bipush 40, 2) := by decide +kernel
theorem dX6_isSo_31 : decode cX6_isSo 31 = .ok (.iload_n 1, 1) := by decide +kernel
theorem dX6_isSo_32 : decode cX6_isSo 32 = .ok (.imul, 1) := by decide +kernel
theorem dX6_isSo_33 : decode cX6_isSo 33 = .ok (.iload 4, 2) := by decide +kernel
theorem dX6_isSo_35 : decode cX6_isSo 35 = .ok (.iadd, 1) := by decide +kernel
theorem dX6_isSo_36 : decode cX6_isSo 36 = .ok (.laload, 1) := by decide +kernel
theorem dX6_isSo_37 : decode cX6_isSo 37 = .ok (.ldc2_w 97, 3) := by decide +kernel
theorem dX6_isSo_40 : decode cX6_isSo 40 = .ok (.lcmp, 1) := by decide +kernel
theorem dX6_isSo_41 : decode cX6_isSo 41 = .ok (.ifCond .eq 26, 3) := by decide +kernel
theorem dX6_isSo_44 : decode cX6_isSo 44 = .ok (.aload_n 0, 1) := by decide +kernel
theorem dX6_isSo_45 : decode cX6_isSo 45 = .ok (.getfield 37, 3) := by decide +kernel
theorem dX6_isSo_48 : decode cX6_isSo 48 = .ok (.bipush 40, 2) := by decide +kernel
theorem dX6_isSo_50 : decode cX6_isSo 50 = .ok (.iload_n 1, 1) := by decide +kernel
theorem dX6_isSo_51 : decode cX6_isSo 51 = .ok (.imul, 1) := by decide +kernel
theorem dX6_isSo_52 : decode cX6_isSo 52 = .ok (.iload 4, 2) := by decide +kernel
theorem dX6_isSo_54 : decode cX6_isSo 54 = .ok (.iadd, 1) := by decide +kernel
theorem dX6_isSo_55 : decode cX6_isSo 55 = .ok (.laload, 1) := by decide +kernel
theorem dX6_isSo_56 : decode cX6_isSo 56 = .ok (.aload_n 0, 1) := by decide +kernel
theorem dX6_isSo_57 : decode cX6_isSo 57 = .ok (.iload_n 2, 1) := by decide +kernel
theorem dX6_isSo_58 : decode cX6_isSo 58 = .ok (.iconst 2, 1) := by decide +kernel
theorem dX6_isSo_59 : decode cX6_isSo 59 = .ok (.invokevirtual 195, 3) := by decide +kernel
theorem dX6_isSo_62 : decode cX6_isSo 62 = .ok (.i2l, 1) := by decide +kernel
theorem dX6_isSo_63 : decode cX6_isSo 63 = .ok (.lcmp, 1) := by decide +kernel
theorem dX6_isSo_64 : decode cX6_isSo 64 = .ok (.ifCond .ne 7, 3) := by decide +kernel
theorem dX6_isSo_67 : decode cX6_isSo 67 = .ok (.iconst 1, 1) := by decide +kernel
theorem dX6_isSo_68 : decode cX6_isSo 68 = .ok (.goto 4, 3) := by decide +kernel
theorem dX6_isSo_71 : decode cX6_isSo 71 = .ok (.iconst 0, 1) := by decide +kernel
theorem dX6_isSo_72 : decode cX6_isSo 72 = .ok (.istore_n 3, 1) := by decide +kernel
theorem dX6_isSo_73 : decode cX6_isSo 73 = .ok (.iinc 4 1, 3) := by decide +kernel
theorem dX6_isSo_76 : decode cX6_isSo 76 = .ok (.goto (-71), 3) := by decide +kernel
theorem dX6_isSo_79 : decode cX6_isSo 79 = .ok (.aload_n 0, 1) := by decide +kernel
theorem dX6_isSo_80 : decode cX6_isSo 80 = .ok (.getfield 19, 3) := by decide +kernel
theorem dX6_isSo_83 : decode cX6_isSo 83 = .ok (.aload_n 0, 1) := by decide +kernel
theorem dX6_isSo_84 : decode cX6_isSo 84 = .ok (.getfield 7, 3) := by decide +kernel
theorem dX6_isSo_87 : decode cX6_isSo 87 = .ok (.invokestatic 174, 3) := by decide +kernel
theorem dX6_isSo_90 : decode cX6_isSo 90 = .ok (.iload_n 3, 1) := by decide +kernel
theorem dX6_isSo_91 : decode cX6_isSo 91 = .ok (.ireturn, 1) := by decide +kernel
def pc_X6_isSo (i : Nat) : Nat := ([0, 5, 16, 20, 44, 67, 71, 72, 79] : List Nat).getD i 0
set_option maxRecDepth 20000 in
theorem ob_X6_isSo_0 {x : ip_Cx} {G : ip_Gl} {d : Nat} (X : ip_X x G tb 5 d 0 0 RX6 cX6_isSo) (hr : x.2.2.2.2.2.2.2.2.1.sig.returnType = (some .boolean)) (hnm : x.2.2.2.2.2.2.2.2.1.name = "isSo") : ip_okB x G 5 pc_X6_isSo 0 ([oI (1), oStI 3, oI (0), oStI 4], tGo 1) := ⟨_, okC (ok_ic X (by decide) dX6_isSo_0)
  (okC (ok_istn X rfl (by decide) dX6_isSo_1)
  (okC (ok_ic X (by decide) dX6_isSo_2)
  (okC (ok_ist X (by decide) dX6_isSo_3)
  (okN)))), ok_fall rfl⟩
set_option maxRecDepth 20000 in
theorem ob_X6_isSo_1 {x : ip_Cx} {G : ip_Gl} {d : Nat} (X : ip_X x G tb 5 d 0 0 RX6 cX6_isSo) (hr : x.2.2.2.2.2.2.2.2.1.sig.returnType = (some .boolean)) (hnm : x.2.2.2.2.2.2.2.2.1.name = "isSo") : ip_okB x G 5 pc_X6_isSo 5 ([oLdI 4, oLdA 0, oGet 6 17, oLdI 1, oAldI], tCm (fun a b => a < b) 2 8) := ⟨_, okC (ok_ild X dX6_isSo_5)
  (okC (ok_aldn X rfl dX6_isSo_7)
  (okC (ok_get X (ci := 6) rfl (by decide) iw_X6 tw_812 dX6_isSo_8)
  (okC (ok_ildn X rfl dX6_isSo_11)
  (okC (ok_iald X dX6_isSo_12)
  (okN))))), ok_cmge X (by decide) rfl dX6_isSo_13⟩
set_option maxRecDepth 20000 in
theorem ob_X6_isSo_2 {x : ip_Cx} {G : ip_Gl} {d : Nat} (X : ip_X x G tb 5 d 0 0 RX6 cX6_isSo) (hr : x.2.2.2.2.2.2.2.2.1.sig.returnType = (some .boolean)) (hnm : x.2.2.2.2.2.2.2.2.1.name = "isSo") : ip_okB x G 5 pc_X6_isSo 16 ([oLdI 3], tIf (fun a => a = 0) 8 3) := ⟨_, okC (ok_ildn X rfl dX6_isSo_16)
  (okN), ok_ifeq X (by decide) rfl dX6_isSo_17⟩
set_option maxRecDepth 20000 in
theorem ob_X6_isSo_3 {x : ip_Cx} {G : ip_Gl} {d : Nat} (X : ip_X x G tb 5 d 0 0 RX6 cX6_isSo) (hr : x.2.2.2.2.2.2.2.2.1.sig.returnType = (some .boolean)) (hnm : x.2.2.2.2.2.2.2.2.1.name = "isSo") : ip_okB x G 5 pc_X6_isSo 20 ([oLdA 0, oLdI 2, oCaV (ip_call tb d) 0 0 6 177 2 0 0, oLdA 0, oGet 6 18, oI (40), oLdI 1, oBI (fun a b => a * b), oLdI 4, oBI (fun a b => a + b), oAldL, oL (-1), oCmpL], tIf (fun a => a = 0) 5 4) := ⟨_, okC (ok_aldn X rfl dX6_isSo_20)
  (okC (ok_ildn X rfl dX6_isSo_21)
  (okC (ok_calV X (i := 254) (e := en_177) rfl mt_177 rfl rfl rfl tw_1125 tw_1127 (Or.inl ⟨_, _, rfl⟩) tp_42 dX6_isSo_22)
  (okC (ok_aldn X rfl dX6_isSo_25)
  (okC (ok_get X (ci := 6) rfl (by decide) iw_X6 tw_813 dX6_isSo_26)
  (okC (ok_bi X (by decide) dX6_isSo_29)
  (okC (ok_ildn X rfl dX6_isSo_31)
  (okC (ok_imul X dX6_isSo_32)
  (okC (ok_ild X dX6_isSo_33)
  (okC (ok_iadd X dX6_isSo_35)
  (okC (ok_lald X dX6_isSo_36)
  (okC (ok_ldc2 X tw_909 dX6_isSo_37)
  (okC (ok_lcmp X dX6_isSo_40)
  (okN))))))))))))), ok_ifeq X (by decide) rfl dX6_isSo_41⟩
set_option maxRecDepth 20000 in
theorem ob_X6_isSo_4 {x : ip_Cx} {G : ip_Gl} {d : Nat} (X : ip_X x G tb 5 d 0 0 RX6 cX6_isSo) (hr : x.2.2.2.2.2.2.2.2.1.sig.returnType = (some .boolean)) (hnm : x.2.2.2.2.2.2.2.2.1.name = "isSo") : ip_okB x G 5 pc_X6_isSo 44 ([oLdA 0, oGet 6 18, oI (40), oLdI 1, oBI (fun a b => a * b), oLdI 4, oBI (fun a b => a + b), oAldL, oLdA 0, oLdI 2, oI (2), oCaV (ip_call tb d) 0 0 6 124 3 0 0, oIL, oCmpL], tIf (fun a => a = 0) 5 6) := ⟨_, okC (ok_aldn X rfl dX6_isSo_44)
  (okC (ok_get X (ci := 6) rfl (by decide) iw_X6 tw_813 dX6_isSo_45)
  (okC (ok_bi X (by decide) dX6_isSo_48)
  (okC (ok_ildn X rfl dX6_isSo_50)
  (okC (ok_imul X dX6_isSo_51)
  (okC (ok_ild X dX6_isSo_52)
  (okC (ok_iadd X dX6_isSo_54)
  (okC (ok_lald X dX6_isSo_55)
  (okC (ok_aldn X rfl dX6_isSo_56)
  (okC (ok_ildn X rfl dX6_isSo_57)
  (okC (ok_ic X (by decide) dX6_isSo_58)
  (okC (ok_calV X (i := 195) (e := en_124) rfl mt_124 rfl rfl rfl tw_1006 tw_1008 (Or.inl ⟨_, _, rfl⟩) tp_24 dX6_isSo_59)
  (okC (ok_i2l X dX6_isSo_62)
  (okC (ok_lcmp X dX6_isSo_63)
  (okN)))))))))))))), ok_ifne X (by decide) rfl dX6_isSo_64⟩
set_option maxRecDepth 20000 in
theorem ob_X6_isSo_5 {x : ip_Cx} {G : ip_Gl} {d : Nat} (X : ip_X x G tb 5 d 0 0 RX6 cX6_isSo) (hr : x.2.2.2.2.2.2.2.2.1.sig.returnType = (some .boolean)) (hnm : x.2.2.2.2.2.2.2.2.1.name = "isSo") : ip_okB x G 5 pc_X6_isSo 67 ([oI (1)], tGo 7) := ⟨_, okC (ok_ic X (by decide) dX6_isSo_67)
  (okN), ok_go X (by decide) dX6_isSo_68⟩
set_option maxRecDepth 20000 in
theorem ob_X6_isSo_6 {x : ip_Cx} {G : ip_Gl} {d : Nat} (X : ip_X x G tb 5 d 0 0 RX6 cX6_isSo) (hr : x.2.2.2.2.2.2.2.2.1.sig.returnType = (some .boolean)) (hnm : x.2.2.2.2.2.2.2.2.1.name = "isSo") : ip_okB x G 5 pc_X6_isSo 71 ([oI (0)], tGo 7) := ⟨_, okC (ok_ic X (by decide) dX6_isSo_71)
  (okN), ok_fall rfl⟩
set_option maxRecDepth 20000 in
theorem ob_X6_isSo_7 {x : ip_Cx} {G : ip_Gl} {d : Nat} (X : ip_X x G tb 5 d 0 0 RX6 cX6_isSo) (hr : x.2.2.2.2.2.2.2.2.1.sig.returnType = (some .boolean)) (hnm : x.2.2.2.2.2.2.2.2.1.name = "isSo") : ip_okB x G 5 pc_X6_isSo 72 ([oStI 3, oInc 4 (1)], tGo 1) := ⟨_, okC (ok_istn X rfl (by decide) dX6_isSo_72)
  (okC (ok_inc X (by decide) dX6_isSo_73)
  (okN)), ok_go X (by decide) dX6_isSo_76⟩
set_option maxRecDepth 20000 in
theorem ob_X6_isSo_8 {x : ip_Cx} {G : ip_Gl} {d : Nat} (X : ip_X x G tb 5 d 0 0 RX6 cX6_isSo) (hr : x.2.2.2.2.2.2.2.2.1.sig.returnType = (some .boolean)) (hnm : x.2.2.2.2.2.2.2.2.1.name = "isSo") : ip_okB x G 5 pc_X6_isSo 79 ([oLdA 0, oGet 6 3, oLdA 0, oGet 6 0, oCal (ip_call tb d) 0 0 122 2 0 0, oLdI 3], tRI .boolean 0 0) := ⟨_, okC (ok_aldn X rfl dX6_isSo_79)
  (okC (ok_get X (ci := 6) rfl (by decide) iw_X6 tw_798 dX6_isSo_80)
  (okC (ok_aldn X rfl dX6_isSo_83)
  (okC (ok_get X (ci := 6) rfl (by decide) iw_X6 tw_795 dX6_isSo_84)
  (okC (ok_calS X (i := 174) (e := en_122) rfl mt_122 rfl rfl rfl tw_968 tw_969 dX6_isSo_87)
  (okC (ok_ildn X rfl dX6_isSo_90)
  (okN)))))), ok_ret X hr dX6_isSo_91⟩
theorem om_189 : ip_MOk tb en_189 pc_X6_isSo := fun x G d X hr hnm => ⟨ob_X6_isSo_0 X hr hnm, ⟨ob_X6_isSo_1 X hr hnm, ⟨ob_X6_isSo_2 X hr hnm, ⟨ob_X6_isSo_3 X hr hnm, ⟨ob_X6_isSo_4 X hr hnm, ⟨ob_X6_isSo_5 X hr hnm, ⟨ob_X6_isSo_6 X hr hnm, ⟨ob_X6_isSo_7 X hr hnm, ⟨ob_X6_isSo_8 X hr hnm, trivial⟩⟩⟩⟩⟩⟩⟩⟩⟩
theorem dX6_fits_0 : decode cX6_fits 0 = .ok (.iload_n 1, 1) := by decide +kernel
theorem dX6_fits_1 : decode cX6_fits 1 = .ok (.invokestatic 267, 3) := by decide +kernel
theorem dX6_fits_4 : decode cX6_fits 4 = .ok (.ifCond .eq 20, 3) := by decide +kernel
theorem dX6_fits_7 : decode cX6_fits 7 = .ok (.aload_n 0, 1) := by decide +kernel
theorem dX6_fits_8 : decode cX6_fits 8 = .ok (.iload_n 2, 1) := by decide +kernel
theorem dX6_fits_9 : decode cX6_fits 9 = .ok (.invokevirtual 192, 3) := by decide +kernel
theorem dX6_fits_12 : decode cX6_fits 12 = .ok (.ifCond .eq 12, 3) := by decide +kernel
theorem dX6_fits_15 : decode cX6_fits 15 = .ok (.iload_n 3, 1) := by decide +kernel
theorem dX6_fits_16 : decode cX6_fits 16 = .ok (.iconst 0, 1) := by decide +kernel
theorem dX6_fits_17 : decode cX6_fits 17 = .ok (.iconst 1, 1) := by decide +kernel
theorem dX6_fits_18 : decode cX6_fits 18 = .ok (.invokestatic 57, 3) := by decide +kernel
theorem dX6_fits_21 : decode cX6_fits 21 = .ok (.ifCond .ne 5, 3) := by decide +kernel
theorem dX6_fits_24 : decode cX6_fits 24 = .ok (.iconst (-1), 1) := by decide +kernel
theorem dX6_fits_25 : decode cX6_fits 25 = .ok (.ireturn, 1) := by decide +kernel
theorem dX6_fits_26 : decode cX6_fits 26 = .ok (.aload_n 0, 1) := by decide +kernel
theorem dX6_fits_27 : decode cX6_fits 27 = .ok (.getfield 31, 3) := by decide +kernel
theorem dX6_fits_30 : decode cX6_fits 30 = .ok (.iload_n 1, 1) := by decide +kernel
theorem dX6_fits_31 : decode cX6_fits 31 = .ok (.iaload, 1) := by decide +kernel
theorem dX6_fits_32 : decode cX6_fits 32 = .ok (.ifCond .ge 6, 3) := by decide +kernel
theorem dX6_fits_35 : decode cX6_fits 35 = .ok (.bipush (-11), 2) := by decide +kernel
theorem dX6_fits_37 : decode cX6_fits 37 = .ok (.ireturn, 1) := by decide +kernel
theorem dX6_fits_38 : decode cX6_fits 38 = .ok (.aload_n 0, 1) := by decide +kernel
theorem dX6_fits_39 : decode cX6_fits 39 = .ok (.getfield 7, 3) := by decide +kernel
theorem dX6_fits_42 : decode cX6_fits 42 = .ok (.aload_n 0, 1) := by decide +kernel
theorem dX6_fits_43 : decode cX6_fits 43 = .ok (.getfield 19, 3) := by decide +kernel
theorem dX6_fits_46 : decode cX6_fits 46 = .ok (.invokestatic 174, 3) := by decide +kernel
theorem dX6_fits_49 : decode cX6_fits 49 = .ok (.iconst 0, 1) := by decide +kernel
theorem dX6_fits_50 : decode cX6_fits 50 = .ok (.istore 4, 2) := by decide +kernel
theorem dX6_fits_52 : decode cX6_fits 52 = .ok (.bipush (-3), 2) := by decide +kernel
theorem dX6_fits_54 : decode cX6_fits 54 = .ok (.istore 5, 2) := by decide +kernel
theorem dX6_fits_56 : decode cX6_fits 56 = .ok (.sipush 255, 3) := by decide +kernel
theorem dX6_fits_59 : decode cX6_fits 59 = .ok (.istore 6, 2) := by decide +kernel
theorem dX6_fits_61 : decode cX6_fits 61 = .ok (.iload 6, 2) := by decide +kernel
theorem dX6_fits_63 : decode cX6_fits 63 = .ok (.ifCond .lt 54, 3) := by decide +kernel
theorem dX6_fits_66 : decode cX6_fits 66 = .ok (.aload_n 0, 1) := by decide +kernel
theorem dX6_fits_67 : decode cX6_fits 67 = .ok (.getfield 7, 3) := by decide +kernel
theorem dX6_fits_70 : decode cX6_fits 70 = .ok (.iconst 5, 1) := by decide +kernel
theorem dX6_fits_71 : decode cX6_fits 71 = .ok (.iload 6, 2) := by decide +kernel
theorem dX6_fits_73 : decode cX6_fits 73 = .ok (.iastore, 1) := by decide +kernel
theorem dX6_fits_74 : decode cX6_fits 74 = .ok (.aload_n 0, 1) := by decide +kernel
theorem dX6_fits_75 : decode cX6_fits 75 = .ok (.iload_n 1, 1) := by decide +kernel
theorem dX6_fits_76 : decode cX6_fits 76 = .ok (.iload_n 2, 1) := by decide +kernel
theorem dX6_fits_77 : decode cX6_fits 77 = .ok (.invokevirtual 270, 3) := by decide +kernel
theorem dX6_fits_80 : decode cX6_fits 80 = .ok (.istore 7, 2) := by decide +kernel
theorem dX6_fits_82 : decode cX6_fits 82 = .ok (.iload 4, 2) := by decide +kernel
theorem dX6_fits_84 : decode cX6_fits 84 = .ok (.iload 7, 2) := by decide +kernel
theorem dX6_fits_86 : decode cX6_fits 86 = .ok (.ifCond .eq 7, 3) := by decide +kernel
theorem dX6_fits_89 : decode cX6_fits 89 = .ok (.iconst 1, 1) := by decide +kernel
theorem dX6_fits_90 : decode cX6_fits 90 = .ok (.goto 4, 3) := by decide +kernel
theorem dX6_fits_93 : decode cX6_fits 93 = .ok (.iconst 0, 1) := by decide +kernel
theorem dX6_fits_94 : decode cX6_fits 94 = .ok (.iadd, 1) := by decide +kernel
theorem dX6_fits_95 : decode cX6_fits 95 = .ok (.istore 4, 2) := by decide +kernel
theorem dX6_fits_97 : decode cX6_fits 97 = .ok (.iload 7, 2) := by decide +kernel
theorem dX6_fits_99 : decode cX6_fits 99 = .ok (.ifCond .eq 8, 3) := by decide +kernel
theorem dX6_fits_102 : decode cX6_fits 102 = .ok (.iload 6, 2) := by decide +kernel
theorem dX6_fits_104 : decode cX6_fits 104 = .ok (.goto 5, 3) := by decide +kernel
theorem dX6_fits_107 : decode cX6_fits 107 = .ok (.iload 5, 2) := by decide +kernel
theorem dX6_fits_109 : decode cX6_fits 109 = .ok (.istore 5, 2) := by decide +kernel
theorem dX6_fits_111 : decode cX6_fits 111 = .ok (.iinc 6 (-1), 3) := by decide +kernel
theorem dX6_fits_114 : decode cX6_fits 114 = .ok (.goto (-53), 3) := by decide +kernel
theorem dX6_fits_117 : decode cX6_fits 117 = .ok (.iload_n 3, 1) := by decide +kernel
theorem dX6_fits_118 : decode cX6_fits 118 = .ok (.ifCond .ne 8, 3) := by decide +kernel
theorem dX6_fits_121 : decode cX6_fits 121 = .ok (.iload 4, 2) := by decide +kernel
theorem dX6_fits_123 : decode cX6_fits 123 = .ok (.goto 5, 3) := by decide +kernel
theorem dX6_fits_126 : decode cX6_fits 126 = .ok (.iload 5, 2) := by decide +kernel
theorem dX6_fits_128 : decode cX6_fits 128 = .ok (.ireturn, 1) := by decide +kernel
def pc_X6_fits (i : Nat) : Nat := ([0, 7, 15, 24, 26, 35, 38, 61, 66, 89, 93, 94, 102, 107, 109, 117, 121, 126, 128] : List Nat).getD i 0
set_option maxRecDepth 20000 in
theorem ob_X6_fits_0 {x : ip_Cx} {G : ip_Gl} {d : Nat} (X : ip_X x G tb 8 d 0 0 RX6 cX6_fits) (hr : x.2.2.2.2.2.2.2.2.1.sig.returnType = (some .int)) (hnm : x.2.2.2.2.2.2.2.2.1.name = "fits") : ip_okB x G 8 pc_X6_fits 0 ([oLdI 1, oCal (ip_call tb d) 0 0 202 1 0 0], tIf (fun a => a = 0) 3 1) := ⟨_, okC (ok_ildn X rfl dX6_fits_0)
  (okC (ok_calS X (i := 267) (e := en_202) rfl mt_202 rfl rfl rfl tw_1173 tw_1174 dX6_fits_1)
  (okN)), ok_ifeq X (by decide) rfl dX6_fits_4⟩
set_option maxRecDepth 20000 in
theorem ob_X6_fits_1 {x : ip_Cx} {G : ip_Gl} {d : Nat} (X : ip_X x G tb 8 d 0 0 RX6 cX6_fits) (hr : x.2.2.2.2.2.2.2.2.1.sig.returnType = (some .int)) (hnm : x.2.2.2.2.2.2.2.2.1.name = "fits") : ip_okB x G 8 pc_X6_fits 7 ([oLdA 0, oLdI 2, oCaV (ip_call tb d) 0 0 6 123 2 0 0], tIf (fun a => a = 0) 3 2) := ⟨_, okC (ok_aldn X rfl dX6_fits_7)
  (okC (ok_ildn X rfl dX6_fits_8)
  (okC (ok_calV X (i := 192) (e := en_123) rfl mt_123 rfl rfl rfl tw_1002 tw_1004 (Or.inl ⟨_, _, rfl⟩) tp_23 dX6_fits_9)
  (okN))), ok_ifeq X (by decide) rfl dX6_fits_12⟩
set_option maxRecDepth 20000 in
theorem ob_X6_fits_2 {x : ip_Cx} {G : ip_Gl} {d : Nat} (X : ip_X x G tb 8 d 0 0 RX6 cX6_fits) (hr : x.2.2.2.2.2.2.2.2.1.sig.returnType = (some .int)) (hnm : x.2.2.2.2.2.2.2.2.1.name = "fits") : ip_okB x G 8 pc_X6_fits 15 ([oLdI 3, oI (0), oI (1), oCal (ip_call tb d) 0 0 120 3 0 0], tIf (fun a => a = 0) 3 4) := ⟨_, okC (ok_ildn X rfl dX6_fits_15)
  (okC (ok_ic X (by decide) dX6_fits_16)
  (okC (ok_ic X (by decide) dX6_fits_17)
  (okC (ok_calS X (i := 57) (e := en_120) rfl mt_120 rfl rfl rfl tw_885 tw_886 dX6_fits_18)
  (okN)))), ok_ifne X (by decide) rfl dX6_fits_21⟩
set_option maxRecDepth 20000 in
theorem ob_X6_fits_3 {x : ip_Cx} {G : ip_Gl} {d : Nat} (X : ip_X x G tb 8 d 0 0 RX6 cX6_fits) (hr : x.2.2.2.2.2.2.2.2.1.sig.returnType = (some .int)) (hnm : x.2.2.2.2.2.2.2.2.1.name = "fits") : ip_okB x G 8 pc_X6_fits 24 ([oI (-1)], tRI .int 0 0) := ⟨_, okC (ok_ic X (by decide) dX6_fits_24)
  (okN), ok_ret X hr dX6_fits_25⟩
set_option maxRecDepth 20000 in
theorem ob_X6_fits_4 {x : ip_Cx} {G : ip_Gl} {d : Nat} (X : ip_X x G tb 8 d 0 0 RX6 cX6_fits) (hr : x.2.2.2.2.2.2.2.2.1.sig.returnType = (some .int)) (hnm : x.2.2.2.2.2.2.2.2.1.name = "fits") : ip_okB x G 8 pc_X6_fits 26 ([oLdA 0, oGet 6 16, oLdI 1, oAldI], tIf (fun a => a < 0) 5 6) := ⟨_, okC (ok_aldn X rfl dX6_fits_26)
  (okC (ok_get X (ci := 6) rfl (by decide) iw_X6 tw_811 dX6_fits_27)
  (okC (ok_ildn X rfl dX6_fits_30)
  (okC (ok_iald X dX6_fits_31)
  (okN)))), ok_ifge X (by decide) rfl dX6_fits_32⟩
set_option maxRecDepth 20000 in
theorem ob_X6_fits_5 {x : ip_Cx} {G : ip_Gl} {d : Nat} (X : ip_X x G tb 8 d 0 0 RX6 cX6_fits) (hr : x.2.2.2.2.2.2.2.2.1.sig.returnType = (some .int)) (hnm : x.2.2.2.2.2.2.2.2.1.name = "fits") : ip_okB x G 8 pc_X6_fits 35 ([oI (-11)], tRI .int 0 0) := ⟨_, okC (ok_bi X (by decide) dX6_fits_35)
  (okN), ok_ret X hr dX6_fits_37⟩
set_option maxRecDepth 20000 in
theorem ob_X6_fits_6 {x : ip_Cx} {G : ip_Gl} {d : Nat} (X : ip_X x G tb 8 d 0 0 RX6 cX6_fits) (hr : x.2.2.2.2.2.2.2.2.1.sig.returnType = (some .int)) (hnm : x.2.2.2.2.2.2.2.2.1.name = "fits") : ip_okB x G 8 pc_X6_fits 38 ([oLdA 0, oGet 6 0, oLdA 0, oGet 6 3, oCal (ip_call tb d) 0 0 122 2 0 0, oI (0), oStI 4, oI (-3), oStI 5, oI (255), oStI 6], tGo 7) := ⟨_, okC (ok_aldn X rfl dX6_fits_38)
  (okC (ok_get X (ci := 6) rfl (by decide) iw_X6 tw_795 dX6_fits_39)
  (okC (ok_aldn X rfl dX6_fits_42)
  (okC (ok_get X (ci := 6) rfl (by decide) iw_X6 tw_798 dX6_fits_43)
  (okC (ok_calS X (i := 174) (e := en_122) rfl mt_122 rfl rfl rfl tw_968 tw_969 dX6_fits_46)
  (okC (ok_ic X (by decide) dX6_fits_49)
  (okC (ok_ist X (by decide) dX6_fits_50)
  (okC (ok_bi X (by decide) dX6_fits_52)
  (okC (ok_ist X (by decide) dX6_fits_54)
  (okC (ok_si X (by decide) dX6_fits_56)
  (okC (ok_ist X (by decide) dX6_fits_59)
  (okN))))))))))), ok_fall rfl⟩
set_option maxRecDepth 20000 in
theorem ob_X6_fits_7 {x : ip_Cx} {G : ip_Gl} {d : Nat} (X : ip_X x G tb 8 d 0 0 RX6 cX6_fits) (hr : x.2.2.2.2.2.2.2.2.1.sig.returnType = (some .int)) (hnm : x.2.2.2.2.2.2.2.2.1.name = "fits") : ip_okB x G 8 pc_X6_fits 61 ([oLdI 6], tIf (fun a => a < 0) 15 8) := ⟨_, okC (ok_ild X dX6_fits_61)
  (okN), ok_iflt X (by decide) rfl dX6_fits_63⟩
set_option maxRecDepth 20000 in
theorem ob_X6_fits_8 {x : ip_Cx} {G : ip_Gl} {d : Nat} (X : ip_X x G tb 8 d 0 0 RX6 cX6_fits) (hr : x.2.2.2.2.2.2.2.2.1.sig.returnType = (some .int)) (hnm : x.2.2.2.2.2.2.2.2.1.name = "fits") : ip_okB x G 8 pc_X6_fits 66 ([oLdA 0, oGet 6 0, oI (5), oLdI 6, oAstI, oLdA 0, oLdI 1, oLdI 2, oCaV (ip_call tb d) 0 0 6 189 3 0 0, oStI 7, oLdI 4, oLdI 7], tIf (fun a => a = 0) 10 9) := ⟨_, okC (ok_aldn X rfl dX6_fits_66)
  (okC (ok_get X (ci := 6) rfl (by decide) iw_X6 tw_795 dX6_fits_67)
  (okC (ok_ic X (by decide) dX6_fits_70)
  (okC (ok_ild X dX6_fits_71)
  (okC (ok_iast X dX6_fits_73)
  (okC (ok_aldn X rfl dX6_fits_74)
  (okC (ok_ildn X rfl dX6_fits_75)
  (okC (ok_ildn X rfl dX6_fits_76)
  (okC (ok_calV X (i := 270) (e := en_189) rfl mt_189 rfl rfl rfl tw_1176 tw_1178 (Or.inl ⟨_, _, rfl⟩) tp_45 dX6_fits_77)
  (okC (ok_ist X (by decide) dX6_fits_80)
  (okC (ok_ild X dX6_fits_82)
  (okC (ok_ild X dX6_fits_84)
  (okN)))))))))))), ok_ifeq X (by decide) rfl dX6_fits_86⟩
set_option maxRecDepth 20000 in
theorem ob_X6_fits_9 {x : ip_Cx} {G : ip_Gl} {d : Nat} (X : ip_X x G tb 8 d 0 0 RX6 cX6_fits) (hr : x.2.2.2.2.2.2.2.2.1.sig.returnType = (some .int)) (hnm : x.2.2.2.2.2.2.2.2.1.name = "fits") : ip_okB x G 8 pc_X6_fits 89 ([oI (1)], tGo 11) := ⟨_, okC (ok_ic X (by decide) dX6_fits_89)
  (okN), ok_go X (by decide) dX6_fits_90⟩
set_option maxRecDepth 20000 in
theorem ob_X6_fits_10 {x : ip_Cx} {G : ip_Gl} {d : Nat} (X : ip_X x G tb 8 d 0 0 RX6 cX6_fits) (hr : x.2.2.2.2.2.2.2.2.1.sig.returnType = (some .int)) (hnm : x.2.2.2.2.2.2.2.2.1.name = "fits") : ip_okB x G 8 pc_X6_fits 93 ([oI (0)], tGo 11) := ⟨_, okC (ok_ic X (by decide) dX6_fits_93)
  (okN), ok_fall rfl⟩
set_option maxRecDepth 20000 in
theorem ob_X6_fits_11 {x : ip_Cx} {G : ip_Gl} {d : Nat} (X : ip_X x G tb 8 d 0 0 RX6 cX6_fits) (hr : x.2.2.2.2.2.2.2.2.1.sig.returnType = (some .int)) (hnm : x.2.2.2.2.2.2.2.2.1.name = "fits") : ip_okB x G 8 pc_X6_fits 94 ([oBI (fun a b => a + b), oStI 4, oLdI 7], tIf (fun a => a = 0) 13 12) := ⟨_, okC (ok_iadd X dX6_fits_94)
  (okC (ok_ist X (by decide) dX6_fits_95)
  (okC (ok_ild X dX6_fits_97)
  (okN))), ok_ifeq X (by decide) rfl dX6_fits_99⟩
set_option maxRecDepth 20000 in
theorem ob_X6_fits_12 {x : ip_Cx} {G : ip_Gl} {d : Nat} (X : ip_X x G tb 8 d 0 0 RX6 cX6_fits) (hr : x.2.2.2.2.2.2.2.2.1.sig.returnType = (some .int)) (hnm : x.2.2.2.2.2.2.2.2.1.name = "fits") : ip_okB x G 8 pc_X6_fits 102 ([oLdI 6], tGo 14) := ⟨_, okC (ok_ild X dX6_fits_102)
  (okN), ok_go X (by decide) dX6_fits_104⟩
set_option maxRecDepth 20000 in
theorem ob_X6_fits_13 {x : ip_Cx} {G : ip_Gl} {d : Nat} (X : ip_X x G tb 8 d 0 0 RX6 cX6_fits) (hr : x.2.2.2.2.2.2.2.2.1.sig.returnType = (some .int)) (hnm : x.2.2.2.2.2.2.2.2.1.name = "fits") : ip_okB x G 8 pc_X6_fits 107 ([oLdI 5], tGo 14) := ⟨_, okC (ok_ild X dX6_fits_107)
  (okN), ok_fall rfl⟩
set_option maxRecDepth 20000 in
theorem ob_X6_fits_14 {x : ip_Cx} {G : ip_Gl} {d : Nat} (X : ip_X x G tb 8 d 0 0 RX6 cX6_fits) (hr : x.2.2.2.2.2.2.2.2.1.sig.returnType = (some .int)) (hnm : x.2.2.2.2.2.2.2.2.1.name = "fits") : ip_okB x G 8 pc_X6_fits 109 ([oStI 5, oInc 6 (-1)], tGo 7) := ⟨_, okC (ok_ist X (by decide) dX6_fits_109)
  (okC (ok_inc X (by decide) dX6_fits_111)
  (okN)), ok_go X (by decide) dX6_fits_114⟩
set_option maxRecDepth 20000 in
theorem ob_X6_fits_15 {x : ip_Cx} {G : ip_Gl} {d : Nat} (X : ip_X x G tb 8 d 0 0 RX6 cX6_fits) (hr : x.2.2.2.2.2.2.2.2.1.sig.returnType = (some .int)) (hnm : x.2.2.2.2.2.2.2.2.1.name = "fits") : ip_okB x G 8 pc_X6_fits 117 ([oLdI 3], tIf (fun a => a = 0) 16 17) := ⟨_, okC (ok_ildn X rfl dX6_fits_117)
  (okN), ok_ifne X (by decide) rfl dX6_fits_118⟩
set_option maxRecDepth 20000 in
theorem ob_X6_fits_16 {x : ip_Cx} {G : ip_Gl} {d : Nat} (X : ip_X x G tb 8 d 0 0 RX6 cX6_fits) (hr : x.2.2.2.2.2.2.2.2.1.sig.returnType = (some .int)) (hnm : x.2.2.2.2.2.2.2.2.1.name = "fits") : ip_okB x G 8 pc_X6_fits 121 ([oLdI 4], tGo 18) := ⟨_, okC (ok_ild X dX6_fits_121)
  (okN), ok_go X (by decide) dX6_fits_123⟩
set_option maxRecDepth 20000 in
theorem ob_X6_fits_17 {x : ip_Cx} {G : ip_Gl} {d : Nat} (X : ip_X x G tb 8 d 0 0 RX6 cX6_fits) (hr : x.2.2.2.2.2.2.2.2.1.sig.returnType = (some .int)) (hnm : x.2.2.2.2.2.2.2.2.1.name = "fits") : ip_okB x G 8 pc_X6_fits 126 ([oLdI 5], tGo 18) := ⟨_, okC (ok_ild X dX6_fits_126)
  (okN), ok_fall rfl⟩
set_option maxRecDepth 20000 in
theorem ob_X6_fits_18 {x : ip_Cx} {G : ip_Gl} {d : Nat} (X : ip_X x G tb 8 d 0 0 RX6 cX6_fits) (hr : x.2.2.2.2.2.2.2.2.1.sig.returnType = (some .int)) (hnm : x.2.2.2.2.2.2.2.2.1.name = "fits") : ip_okB x G 8 pc_X6_fits 128 ([], tRI .int 0 0) := ⟨_, okN, ok_ret X hr dX6_fits_128⟩
theorem om_190 : ip_MOk tb en_190 pc_X6_fits := fun x G d X hr hnm => ⟨ob_X6_fits_0 X hr hnm, ⟨ob_X6_fits_1 X hr hnm, ⟨ob_X6_fits_2 X hr hnm, ⟨ob_X6_fits_3 X hr hnm, ⟨ob_X6_fits_4 X hr hnm, ⟨ob_X6_fits_5 X hr hnm, ⟨ob_X6_fits_6 X hr hnm, ⟨ob_X6_fits_7 X hr hnm, ⟨ob_X6_fits_8 X hr hnm, ⟨ob_X6_fits_9 X hr hnm, ⟨ob_X6_fits_10 X hr hnm, ⟨ob_X6_fits_11 X hr hnm, ⟨ob_X6_fits_12 X hr hnm, ⟨ob_X6_fits_13 X hr hnm, ⟨ob_X6_fits_14 X hr hnm, ⟨ob_X6_fits_15 X hr hnm, ⟨ob_X6_fits_16 X hr hnm, ⟨ob_X6_fits_17 X hr hnm, ⟨ob_X6_fits_18 X hr hnm, trivial⟩⟩⟩⟩⟩⟩⟩⟩⟩⟩⟩⟩⟩⟩⟩⟩⟩⟩⟩
theorem dX6_lowest_0 : decode cX6_lowest 0 = .ok (.lload_n 2, 1) := by decide +kernel
theorem dX6_lowest_1 : decode cX6_lowest 1 = .ok (.lstore 5, 2) := by decide +kernel
theorem dX6_lowest_3 : decode cX6_lowest 3 = .ok (.lload_n 0, 1) := by decide +kernel
theorem dX6_lowest_4 : decode cX6_lowest 4 = .ok (.lstore 7, 2) := by decide +kernel
theorem dX6_lowest_6 : decode cX6_lowest 6 = .ok (.lload 7, 2) := by decide +kernel
theorem dX6_lowest_8 : decode cX6_lowest 8 = .ok (.lconst 0, 1) := by decide +kernel
theorem dX6_lowest_9 : decode cX6_lowest 9 = .ok (.lcmp, 1) := by decide +kernel
theorem dX6_lowest_10 : decode cX6_lowest 10 = .ok (.ifCond .eq 21, 3) := by decide +kernel
theorem dX6_lowest_13 : decode cX6_lowest 13 = .ok (.lload 5, 2) := by decide +kernel
theorem dX6_lowest_15 : decode cX6_lowest 15 = .ok (.lload 7, 2) := by decide +kernel
theorem dX6_lowest_17 : decode cX6_lowest 17 = .ok (.lrem, 1) := by decide +kernel
theorem dX6_lowest_18 : decode cX6_lowest 18 = .ok (.lstore 9, 2) := by decide +kernel
theorem dX6_lowest_20 : decode cX6_lowest 20 = .ok (.lload 7, 2) := by decide +kernel
theorem dX6_lowest_22 : decode cX6_lowest 22 = .ok (.lstore 5, 2) := by decide +kernel
theorem dX6_lowest_24 : decode cX6_lowest 24 = .ok (.lload 9, 2) := by decide +kernel
theorem dX6_lowest_26 : decode cX6_lowest 26 = .ok (.lstore 7, 2) := by decide +kernel
theorem dX6_lowest_28 : decode cX6_lowest 28 = .ok (.goto (-22), 3) := by decide +kernel
theorem dX6_lowest_31 : decode cX6_lowest 31 = .ok (.iload 4, 2) := by decide +kernel
theorem dX6_lowest_33 : decode cX6_lowest 33 = .ok (.ifCond .ne 10, 3) := by decide +kernel
theorem dX6_lowest_36 : decode cX6_lowest 36 = .ok (.lload_n 0, 1) := by decide +kernel
theorem dX6_lowest_37 : decode cX6_lowest 37 = .ok (.lload 5, 2) := by decide +kernel
theorem dX6_lowest_39 : decode cX6_lowest 39 = .ok (.ldiv, 1) := by decide +kernel
theorem dX6_lowest_40 : decode cX6_lowest 40 = .ok (.goto 7, 3) := by decide +kernel
theorem dX6_lowest_43 : decode cX6_lowest 43 = .ok (.lload_n 2, 1) := by decide +kernel
theorem dX6_lowest_44 : decode cX6_lowest 44 = .ok (.lload 5, 2) := by decide +kernel
theorem dX6_lowest_46 : decode cX6_lowest 46 = .ok (.ldiv, 1) := by decide +kernel
theorem dX6_lowest_47 : decode cX6_lowest 47 = .ok (.lreturn, 1) := by decide +kernel
def pc_X6_lowest (i : Nat) : Nat := ([0, 6, 13, 31, 36, 43, 47] : List Nat).getD i 0
set_option maxRecDepth 20000 in
theorem ob_X6_lowest_0 {x : ip_Cx} {G : ip_Gl} {d : Nat} (X : ip_X x G tb 11 d 0 0 RX6 cX6_lowest) (hr : x.2.2.2.2.2.2.2.2.1.sig.returnType = (some .long)) (hnm : x.2.2.2.2.2.2.2.2.1.name = "lowest") : ip_okB x G 11 pc_X6_lowest 0 ([oLdL 2, oStL 5, oLdL 0, oStL 7], tGo 1) := ⟨_, okC (ok_lldn X rfl dX6_lowest_0)
  (okC (ok_lst X (by decide) dX6_lowest_1)
  (okC (ok_lldn X rfl dX6_lowest_3)
  (okC (ok_lst X (by decide) dX6_lowest_4)
  (okN)))), ok_fall rfl⟩
set_option maxRecDepth 20000 in
theorem ob_X6_lowest_1 {x : ip_Cx} {G : ip_Gl} {d : Nat} (X : ip_X x G tb 11 d 0 0 RX6 cX6_lowest) (hr : x.2.2.2.2.2.2.2.2.1.sig.returnType = (some .long)) (hnm : x.2.2.2.2.2.2.2.2.1.name = "lowest") : ip_okB x G 11 pc_X6_lowest 6 ([oLdL 7, oL 0, oCmpL], tIf (fun a => a = 0) 3 2) := ⟨_, okC (ok_lld X dX6_lowest_6)
  (okC (ok_lc X (by decide) dX6_lowest_8)
  (okC (ok_lcmp X dX6_lowest_9)
  (okN))), ok_ifeq X (by decide) rfl dX6_lowest_10⟩
set_option maxRecDepth 20000 in
theorem ob_X6_lowest_2 {x : ip_Cx} {G : ip_Gl} {d : Nat} (X : ip_X x G tb 11 d 0 0 RX6 cX6_lowest) (hr : x.2.2.2.2.2.2.2.2.1.sig.returnType = (some .long)) (hnm : x.2.2.2.2.2.2.2.2.1.name = "lowest") : ip_okB x G 11 pc_X6_lowest 13 ([oLdL 5, oLdL 7, oDL (fun a b => a - a / b * b), oStL 9, oLdL 7, oStL 5, oLdL 9, oStL 7], tGo 1) := ⟨_, okC (ok_lld X dX6_lowest_13)
  (okC (ok_lld X dX6_lowest_15)
  (okC (ok_lrem X dX6_lowest_17)
  (okC (ok_lst X (by decide) dX6_lowest_18)
  (okC (ok_lld X dX6_lowest_20)
  (okC (ok_lst X (by decide) dX6_lowest_22)
  (okC (ok_lld X dX6_lowest_24)
  (okC (ok_lst X (by decide) dX6_lowest_26)
  (okN)))))))), ok_go X (by decide) dX6_lowest_28⟩
set_option maxRecDepth 20000 in
theorem ob_X6_lowest_3 {x : ip_Cx} {G : ip_Gl} {d : Nat} (X : ip_X x G tb 11 d 0 0 RX6 cX6_lowest) (hr : x.2.2.2.2.2.2.2.2.1.sig.returnType = (some .long)) (hnm : x.2.2.2.2.2.2.2.2.1.name = "lowest") : ip_okB x G 11 pc_X6_lowest 31 ([oLdI 4], tIf (fun a => a = 0) 4 5) := ⟨_, okC (ok_ild X dX6_lowest_31)
  (okN), ok_ifne X (by decide) rfl dX6_lowest_33⟩
set_option maxRecDepth 20000 in
theorem ob_X6_lowest_4 {x : ip_Cx} {G : ip_Gl} {d : Nat} (X : ip_X x G tb 11 d 0 0 RX6 cX6_lowest) (hr : x.2.2.2.2.2.2.2.2.1.sig.returnType = (some .long)) (hnm : x.2.2.2.2.2.2.2.2.1.name = "lowest") : ip_okB x G 11 pc_X6_lowest 36 ([oLdL 0, oLdL 5, oDL (fun a b => a / b)], tGo 6) := ⟨_, okC (ok_lldn X rfl dX6_lowest_36)
  (okC (ok_lld X dX6_lowest_37)
  (okC (ok_ldiv X dX6_lowest_39)
  (okN))), ok_go X (by decide) dX6_lowest_40⟩
set_option maxRecDepth 20000 in
theorem ob_X6_lowest_5 {x : ip_Cx} {G : ip_Gl} {d : Nat} (X : ip_X x G tb 11 d 0 0 RX6 cX6_lowest) (hr : x.2.2.2.2.2.2.2.2.1.sig.returnType = (some .long)) (hnm : x.2.2.2.2.2.2.2.2.1.name = "lowest") : ip_okB x G 11 pc_X6_lowest 43 ([oLdL 2, oLdL 5, oDL (fun a b => a / b)], tGo 6) := ⟨_, okC (ok_lldn X rfl dX6_lowest_43)
  (okC (ok_lld X dX6_lowest_44)
  (okC (ok_ldiv X dX6_lowest_46)
  (okN))), ok_fall rfl⟩
set_option maxRecDepth 20000 in
theorem ob_X6_lowest_6 {x : ip_Cx} {G : ip_Gl} {d : Nat} (X : ip_X x G tb 11 d 0 0 RX6 cX6_lowest) (hr : x.2.2.2.2.2.2.2.2.1.sig.returnType = (some .long)) (hnm : x.2.2.2.2.2.2.2.2.1.name = "lowest") : ip_okB x G 11 pc_X6_lowest 47 ([], tRL 0 0) := ⟨_, okN, ok_lret X hr dX6_lowest_47⟩
theorem om_191 : ip_MOk tb en_191 pc_X6_lowest := fun x G d X hr hnm => ⟨ob_X6_lowest_0 X hr hnm, ⟨ob_X6_lowest_1 X hr hnm, ⟨ob_X6_lowest_2 X hr hnm, ⟨ob_X6_lowest_3 X hr hnm, ⟨ob_X6_lowest_4 X hr hnm, ⟨ob_X6_lowest_5 X hr hnm, ⟨ob_X6_lowest_6 X hr hnm, trivial⟩⟩⟩⟩⟩⟩⟩
theorem dX6_powerOf_0 : decode cX6_powerOf 0 = .ok (.lconst 1, 1) := by decide +kernel
theorem dX6_powerOf_1 : decode cX6_powerOf 1 = .ok (.lstore_n 2, 1) := by decide +kernel
theorem dX6_powerOf_2 : decode cX6_powerOf 2 = .ok (.iconst 0, 1) := by decide +kernel
theorem dX6_powerOf_3 : decode cX6_powerOf 3 = .ok (.istore 4, 2) := by decide +kernel
theorem dX6_powerOf_5 : decode cX6_powerOf 5 = .ok (.iload 4, 2) := by decide +kernel
theorem dX6_powerOf_7 : decode cX6_powerOf 7 = .ok (.iload_n 1, 1) := by decide +kernel
theorem dX6_powerOf_8 : decode cX6_powerOf 8 = .ok (.if_icmp .ge 14, 3) := by decide +kernel
theorem dX6_powerOf_11 : decode cX6_powerOf 11 = .ok (.lload_n 2, 1) := by decide +kernel
theorem dX6_powerOf_12 : decode cX6_powerOf 12 = .ok (.iload_n 0, 1) := by decide +kernel
theorem dX6_powerOf_13 : decode cX6_powerOf 13 = .ok (.i2l, 1) := by decide +kernel
theorem dX6_powerOf_14 : decode cX6_powerOf 14 = .ok (.lmul, 1) := by decide +kernel
theorem dX6_powerOf_15 : decode cX6_powerOf 15 = .ok (.lstore_n 2, 1) := by decide +kernel
theorem dX6_powerOf_16 : decode cX6_powerOf 16 = .ok (.iinc 4 1, 3) := by decide +kernel
theorem dX6_powerOf_19 : decode cX6_powerOf 19 = .ok (.goto (-14), 3) := by decide +kernel
theorem dX6_powerOf_22 : decode cX6_powerOf 22 = .ok (.lload_n 2, 1) := by decide +kernel
theorem dX6_powerOf_23 : decode cX6_powerOf 23 = .ok (.lreturn, 1) := by decide +kernel
def pc_X6_powerOf (i : Nat) : Nat := ([0, 5, 11, 22] : List Nat).getD i 0
set_option maxRecDepth 20000 in
theorem ob_X6_powerOf_0 {x : ip_Cx} {G : ip_Gl} {d : Nat} (X : ip_X x G tb 5 d 0 0 RX6 cX6_powerOf) (hr : x.2.2.2.2.2.2.2.2.1.sig.returnType = (some .long)) (hnm : x.2.2.2.2.2.2.2.2.1.name = "powerOf") : ip_okB x G 5 pc_X6_powerOf 0 ([oL 1, oStL 2, oI (0), oStI 4], tGo 1) := ⟨_, okC (ok_lc X (by decide) dX6_powerOf_0)
  (okC (ok_lstn X rfl (by decide) dX6_powerOf_1)
  (okC (ok_ic X (by decide) dX6_powerOf_2)
  (okC (ok_ist X (by decide) dX6_powerOf_3)
  (okN)))), ok_fall rfl⟩
set_option maxRecDepth 20000 in
theorem ob_X6_powerOf_1 {x : ip_Cx} {G : ip_Gl} {d : Nat} (X : ip_X x G tb 5 d 0 0 RX6 cX6_powerOf) (hr : x.2.2.2.2.2.2.2.2.1.sig.returnType = (some .long)) (hnm : x.2.2.2.2.2.2.2.2.1.name = "powerOf") : ip_okB x G 5 pc_X6_powerOf 5 ([oLdI 4, oLdI 1], tCm (fun a b => a < b) 2 3) := ⟨_, okC (ok_ild X dX6_powerOf_5)
  (okC (ok_ildn X rfl dX6_powerOf_7)
  (okN)), ok_cmge X (by decide) rfl dX6_powerOf_8⟩
set_option maxRecDepth 20000 in
theorem ob_X6_powerOf_2 {x : ip_Cx} {G : ip_Gl} {d : Nat} (X : ip_X x G tb 5 d 0 0 RX6 cX6_powerOf) (hr : x.2.2.2.2.2.2.2.2.1.sig.returnType = (some .long)) (hnm : x.2.2.2.2.2.2.2.2.1.name = "powerOf") : ip_okB x G 5 pc_X6_powerOf 11 ([oLdL 2, oLdI 0, oIL, oBL (fun a b => a * b), oStL 2, oInc 4 (1)], tGo 1) := ⟨_, okC (ok_lldn X rfl dX6_powerOf_11)
  (okC (ok_ildn X rfl dX6_powerOf_12)
  (okC (ok_i2l X dX6_powerOf_13)
  (okC (ok_lmul X dX6_powerOf_14)
  (okC (ok_lstn X rfl (by decide) dX6_powerOf_15)
  (okC (ok_inc X (by decide) dX6_powerOf_16)
  (okN)))))), ok_go X (by decide) dX6_powerOf_19⟩
set_option maxRecDepth 20000 in
theorem ob_X6_powerOf_3 {x : ip_Cx} {G : ip_Gl} {d : Nat} (X : ip_X x G tb 5 d 0 0 RX6 cX6_powerOf) (hr : x.2.2.2.2.2.2.2.2.1.sig.returnType = (some .long)) (hnm : x.2.2.2.2.2.2.2.2.1.name = "powerOf") : ip_okB x G 5 pc_X6_powerOf 22 ([oLdL 2], tRL 0 0) := ⟨_, okC (ok_lldn X rfl dX6_powerOf_22)
  (okN), ok_lret X hr dX6_powerOf_23⟩
theorem om_192 : ip_MOk tb en_192 pc_X6_powerOf := fun x G d X hr hnm => ⟨ob_X6_powerOf_0 X hr hnm, ⟨ob_X6_powerOf_1 X hr hnm, ⟨ob_X6_powerOf_2 X hr hnm, ⟨ob_X6_powerOf_3 X hr hnm, trivial⟩⟩⟩⟩
theorem dX6_odds_0 : decode cX6_odds 0 = .ok (.iload_n 1, 1) := by decide +kernel
theorem dX6_odds_1 : decode cX6_odds 1 = .ok (.iconst 0, 1) := by decide +kernel
theorem dX6_odds_2 : decode cX6_odds 2 = .ok (.bipush 8, 2) := by decide +kernel
theorem dX6_odds_4 : decode cX6_odds 4 = .ok (.invokestatic 57, 3) := by decide +kernel
theorem dX6_odds_7 : decode cX6_odds 7 = .ok (.ifCond .eq 21, 3) := by decide +kernel
theorem dX6_odds_10 : decode cX6_odds 10 = .ok (.iload_n 2, 1) := by decide +kernel
theorem dX6_odds_11 : decode cX6_odds 11 = .ok (.iconst 0, 1) := by decide +kernel
theorem dX6_odds_12 : decode cX6_odds 12 = .ok (.iload_n 1, 1) := by decide +kernel
theorem dX6_odds_13 : decode cX6_odds 13 = .ok (.invokestatic 57, 3) := by decide +kernel
theorem dX6_odds_16 : decode cX6_odds 16 = .ok (.ifCond .eq 12, 3) := by decide +kernel
theorem dX6_odds_19 : decode cX6_odds 19 = .ok (.iload_n 3, 1) := by decide +kernel
theorem dX6_odds_20 : decode cX6_odds 20 = .ok (.iconst 0, 1) := by decide +kernel
theorem dX6_odds_21 : decode cX6_odds 21 = .ok (.iconst 1, 1) := by decide +kernel
theorem dX6_odds_22 : decode cX6_odds 22 = .ok (.invokestatic 57, 3) := by decide +kernel
theorem dX6_odds_25 : decode cX6_odds 25 = .ok (.ifCond .ne 7, 3) := by decide +kernel
theorem dX6_odds_28 : decode cX6_odds 28 = .ok (.ldc2_w 97, 3) := by decide +kernel
theorem dX6_odds_31 : decode cX6_odds 31 = .ok (.lreturn, 1) := by decide +kernel
theorem dX6_odds_32 : decode cX6_odds 32 = .ok (.lconst 1, 1) := by decide +kernel
theorem dX6_odds_33 : decode cX6_odds 33 = .ok (.lstore 4, 2) := by decide +kernel
theorem dX6_odds_35 : decode cX6_odds 35 = .ok (.iconst 0, 1) := by decide +kernel
theorem dX6_odds_36 : decode cX6_odds 36 = .ok (.istore 6, 2) := by decide +kernel
theorem dX6_odds_38 : decode cX6_odds 38 = .ok (.iload 6, 2) := by decide +kernel
theorem dX6_odds_40 : decode cX6_odds 40 = .ok (.iload_n 2, 1) := by decide +kernel
theorem dX6_odds_41 : decode cX6_odds 41 = .ok (.if_icmp .ge 25, 3) := by decide +kernel
theorem dX6_odds_44 : decode cX6_odds 44 = .ok (.lload 4, 2) := by decide +kernel
theorem dX6_odds_46 : decode cX6_odds 46 = .ok (.iload_n 1, 1) := by decide +kernel
theorem dX6_odds_47 : decode cX6_odds 47 = .ok (.iload 6, 2) := by decide +kernel
theorem dX6_odds_49 : decode cX6_odds 49 = .ok (.isub, 1) := by decide +kernel
theorem dX6_odds_50 : decode cX6_odds 50 = .ok (.i2l, 1) := by decide +kernel
theorem dX6_odds_51 : decode cX6_odds 51 = .ok (.lmul, 1) := by decide +kernel
theorem dX6_odds_52 : decode cX6_odds 52 = .ok (.iload 6, 2) := by decide +kernel
theorem dX6_odds_54 : decode cX6_odds 54 = .ok (.iconst 1, 1) := by decide +kernel
theorem dX6_odds_55 : decode cX6_odds 55 = .ok (.iadd, 1) := by decide +kernel
theorem dX6_odds_56 : decode cX6_odds 56 = .ok (.i2l, 1) := by decide +kernel
theorem dX6_odds_57 : decode cX6_odds 57 = .ok (.ldiv, 1) := by decide +kernel
theorem dX6_odds_58 : decode cX6_odds 58 = .ok (.lstore 4, 2) := by decide +kernel
theorem dX6_odds_60 : decode cX6_odds 60 = .ok (.iinc 6 1, 3) := by decide +kernel
theorem dX6_odds_63 : decode cX6_odds 63 = .ok (.goto (-25), 3) := by decide +kernel
theorem dX6_odds_66 : decode cX6_odds 66 = .ok (.lload 4, 2) := by decide +kernel
theorem dX6_odds_68 : decode cX6_odds 68 = .ok (.aload_n 0, 1) := by decide +kernel
theorem dX6_odds_69 : decode cX6_odds 69 = .ok (.getfield 7, 3) := by decide +kernel
theorem dX6_odds_72 : decode cX6_odds 72 = .ok (.iconst 3, 1) := by decide +kernel
theorem dX6_odds_73 : decode cX6_odds 73 = .ok (.iaload, 1) := by decide +kernel
theorem dX6_odds_74 : decode cX6_odds 74 = .ok (.iload_n 2, 1) := by decide +kernel
theorem dX6_odds_75 : decode cX6_odds 75 = .ok (.invokestatic 273, 3) := by decide +kernel
theorem dX6_odds_78 : decode cX6_odds 78 = .ok (.lmul, 1) := by decide +kernel
theorem dX6_odds_79 : decode cX6_odds 79 = .ok (.bipush 100, 2) := by decide +kernel
theorem dX6_odds_81 : decode cX6_odds 81 = .ok (.aload_n 0, 1) := by decide +kernel
theorem dX6_odds_82 : decode cX6_odds 82 = .ok (.getfield 7, 3) := by decide +kernel
theorem dX6_odds_85 : decode cX6_odds 85 = .ok (.iconst 3, 1) := by decide +kernel
theorem dX6_odds_86 : decode cX6_odds 86 = .ok (.iaload, 1) := by decide +kernel
theorem dX6_odds_87 : decode cX6_odds 87 = .ok (.isub, 1) := by decide +kernel
theorem dX6_odds_88 : decode cX6_odds 88 = .ok (.iload_n 1, 1) := by decide +kernel
theorem dX6_odds_89 : decode cX6_odds 89 = .ok (.iload_n 2, 1) := by decide +kernel
theorem dX6_odds_90 : decode cX6_odds 90 = .ok (.isub, 1) := by decide +kernel
theorem dX6_odds_91 : decode cX6_odds 91 = .ok (.invokestatic 273, 3) := by decide +kernel
theorem dX6_odds_94 : decode cX6_odds 94 = .ok (.lmul, 1) := by decide +kernel
theorem dX6_odds_95 : decode cX6_odds 95 = .ok (.bipush 100, 2) := by decide +kernel
theorem dX6_odds_97 : decode cX6_odds 97 = .ok (.iload_n 1, 1) := by decide +kernel
theorem dX6_odds_98 : decode cX6_odds 98 = .ok (.invokestatic 273, 3) := by decide +kernel
theorem dX6_odds_101 : decode cX6_odds 101 = .ok (.iload_n 3, 1) := by decide +kernel
theorem dX6_odds_102 : decode cX6_odds 102 = .ok (.invokestatic 277, 3) := by decide +kernel
theorem dX6_odds_105 : decode cX6_odds 105 = .ok (.lreturn, 1) := by decide +kernel
def pc_X6_odds (i : Nat) : Nat := ([0, 10, 19, 28, 32, 38, 44, 66] : List Nat).getD i 0
set_option maxRecDepth 20000 in
theorem ob_X6_odds_0 {x : ip_Cx} {G : ip_Gl} {d : Nat} (X : ip_X x G tb 7 d 0 0 RX6 cX6_odds) (hr : x.2.2.2.2.2.2.2.2.1.sig.returnType = (some .long)) (hnm : x.2.2.2.2.2.2.2.2.1.name = "odds") : ip_okB x G 7 pc_X6_odds 0 ([oLdI 1, oI (0), oI (8), oCal (ip_call tb d) 0 0 120 3 0 0], tIf (fun a => a = 0) 3 1) := ⟨_, okC (ok_ildn X rfl dX6_odds_0)
  (okC (ok_ic X (by decide) dX6_odds_1)
  (okC (ok_bi X (by decide) dX6_odds_2)
  (okC (ok_calS X (i := 57) (e := en_120) rfl mt_120 rfl rfl rfl tw_885 tw_886 dX6_odds_4)
  (okN)))), ok_ifeq X (by decide) rfl dX6_odds_7⟩
set_option maxRecDepth 20000 in
theorem ob_X6_odds_1 {x : ip_Cx} {G : ip_Gl} {d : Nat} (X : ip_X x G tb 7 d 0 0 RX6 cX6_odds) (hr : x.2.2.2.2.2.2.2.2.1.sig.returnType = (some .long)) (hnm : x.2.2.2.2.2.2.2.2.1.name = "odds") : ip_okB x G 7 pc_X6_odds 10 ([oLdI 2, oI (0), oLdI 1, oCal (ip_call tb d) 0 0 120 3 0 0], tIf (fun a => a = 0) 3 2) := ⟨_, okC (ok_ildn X rfl dX6_odds_10)
  (okC (ok_ic X (by decide) dX6_odds_11)
  (okC (ok_ildn X rfl dX6_odds_12)
  (okC (ok_calS X (i := 57) (e := en_120) rfl mt_120 rfl rfl rfl tw_885 tw_886 dX6_odds_13)
  (okN)))), ok_ifeq X (by decide) rfl dX6_odds_16⟩
set_option maxRecDepth 20000 in
theorem ob_X6_odds_2 {x : ip_Cx} {G : ip_Gl} {d : Nat} (X : ip_X x G tb 7 d 0 0 RX6 cX6_odds) (hr : x.2.2.2.2.2.2.2.2.1.sig.returnType = (some .long)) (hnm : x.2.2.2.2.2.2.2.2.1.name = "odds") : ip_okB x G 7 pc_X6_odds 19 ([oLdI 3, oI (0), oI (1), oCal (ip_call tb d) 0 0 120 3 0 0], tIf (fun a => a = 0) 3 4) := ⟨_, okC (ok_ildn X rfl dX6_odds_19)
  (okC (ok_ic X (by decide) dX6_odds_20)
  (okC (ok_ic X (by decide) dX6_odds_21)
  (okC (ok_calS X (i := 57) (e := en_120) rfl mt_120 rfl rfl rfl tw_885 tw_886 dX6_odds_22)
  (okN)))), ok_ifne X (by decide) rfl dX6_odds_25⟩
set_option maxRecDepth 20000 in
theorem ob_X6_odds_3 {x : ip_Cx} {G : ip_Gl} {d : Nat} (X : ip_X x G tb 7 d 0 0 RX6 cX6_odds) (hr : x.2.2.2.2.2.2.2.2.1.sig.returnType = (some .long)) (hnm : x.2.2.2.2.2.2.2.2.1.name = "odds") : ip_okB x G 7 pc_X6_odds 28 ([oL (-1)], tRL 0 0) := ⟨_, okC (ok_ldc2 X tw_909 dX6_odds_28)
  (okN), ok_lret X hr dX6_odds_31⟩
set_option maxRecDepth 20000 in
theorem ob_X6_odds_4 {x : ip_Cx} {G : ip_Gl} {d : Nat} (X : ip_X x G tb 7 d 0 0 RX6 cX6_odds) (hr : x.2.2.2.2.2.2.2.2.1.sig.returnType = (some .long)) (hnm : x.2.2.2.2.2.2.2.2.1.name = "odds") : ip_okB x G 7 pc_X6_odds 32 ([oL 1, oStL 4, oI (0), oStI 6], tGo 5) := ⟨_, okC (ok_lc X (by decide) dX6_odds_32)
  (okC (ok_lst X (by decide) dX6_odds_33)
  (okC (ok_ic X (by decide) dX6_odds_35)
  (okC (ok_ist X (by decide) dX6_odds_36)
  (okN)))), ok_fall rfl⟩
set_option maxRecDepth 20000 in
theorem ob_X6_odds_5 {x : ip_Cx} {G : ip_Gl} {d : Nat} (X : ip_X x G tb 7 d 0 0 RX6 cX6_odds) (hr : x.2.2.2.2.2.2.2.2.1.sig.returnType = (some .long)) (hnm : x.2.2.2.2.2.2.2.2.1.name = "odds") : ip_okB x G 7 pc_X6_odds 38 ([oLdI 6, oLdI 2], tCm (fun a b => a < b) 6 7) := ⟨_, okC (ok_ild X dX6_odds_38)
  (okC (ok_ildn X rfl dX6_odds_40)
  (okN)), ok_cmge X (by decide) rfl dX6_odds_41⟩
set_option maxRecDepth 20000 in
theorem ob_X6_odds_6 {x : ip_Cx} {G : ip_Gl} {d : Nat} (X : ip_X x G tb 7 d 0 0 RX6 cX6_odds) (hr : x.2.2.2.2.2.2.2.2.1.sig.returnType = (some .long)) (hnm : x.2.2.2.2.2.2.2.2.1.name = "odds") : ip_okB x G 7 pc_X6_odds 44 ([oLdL 4, oLdI 1, oLdI 6, oBI (fun a b => a - b), oIL, oBL (fun a b => a * b), oLdI 6, oI (1), oBI (fun a b => a + b), oIL, oDL (fun a b => a / b), oStL 4, oInc 6 (1)], tGo 5) := ⟨_, okC (ok_lld X dX6_odds_44)
  (okC (ok_ildn X rfl dX6_odds_46)
  (okC (ok_ild X dX6_odds_47)
  (okC (ok_isub X dX6_odds_49)
  (okC (ok_i2l X dX6_odds_50)
  (okC (ok_lmul X dX6_odds_51)
  (okC (ok_ild X dX6_odds_52)
  (okC (ok_ic X (by decide) dX6_odds_54)
  (okC (ok_iadd X dX6_odds_55)
  (okC (ok_i2l X dX6_odds_56)
  (okC (ok_ldiv X dX6_odds_57)
  (okC (ok_lst X (by decide) dX6_odds_58)
  (okC (ok_inc X (by decide) dX6_odds_60)
  (okN))))))))))))), ok_go X (by decide) dX6_odds_63⟩
set_option maxRecDepth 20000 in
theorem ob_X6_odds_7 {x : ip_Cx} {G : ip_Gl} {d : Nat} (X : ip_X x G tb 7 d 0 0 RX6 cX6_odds) (hr : x.2.2.2.2.2.2.2.2.1.sig.returnType = (some .long)) (hnm : x.2.2.2.2.2.2.2.2.1.name = "odds") : ip_okB x G 7 pc_X6_odds 66 ([oLdL 4, oLdA 0, oGet 6 0, oI (3), oAldI, oLdI 2, oCal (ip_call tb d) 0 0 192 2 0 0, oBL (fun a b => a * b), oI (100), oLdA 0, oGet 6 0, oI (3), oAldI, oBI (fun a b => a - b), oLdI 1, oLdI 2, oBI (fun a b => a - b), oCal (ip_call tb d) 0 0 192 2 0 0, oBL (fun a b => a * b), oI (100), oLdI 1, oCal (ip_call tb d) 0 0 192 2 0 0, oLdI 3, oCal (ip_call tb d) 0 0 191 3 0 0], tRL 0 0) := ⟨_, okC (ok_lld X dX6_odds_66)
  (okC (ok_aldn X rfl dX6_odds_68)
  (okC (ok_get X (ci := 6) rfl (by decide) iw_X6 tw_795 dX6_odds_69)
  (okC (ok_ic X (by decide) dX6_odds_72)
  (okC (ok_iald X dX6_odds_73)
  (okC (ok_ildn X rfl dX6_odds_74)
  (okC (ok_calS X (i := 273) (e := en_192) rfl mt_192 rfl rfl rfl tw_1184 tw_1185 dX6_odds_75)
  (okC (ok_lmul X dX6_odds_78)
  (okC (ok_bi X (by decide) dX6_odds_79)
  (okC (ok_aldn X rfl dX6_odds_81)
  (okC (ok_get X (ci := 6) rfl (by decide) iw_X6 tw_795 dX6_odds_82)
  (okC (ok_ic X (by decide) dX6_odds_85)
  (okC (ok_iald X dX6_odds_86)
  (okC (ok_isub X dX6_odds_87)
  (okC (ok_ildn X rfl dX6_odds_88)
  (okC (ok_ildn X rfl dX6_odds_89)
  (okC (ok_isub X dX6_odds_90)
  (okC (ok_calS X (i := 273) (e := en_192) rfl mt_192 rfl rfl rfl tw_1184 tw_1185 dX6_odds_91)
  (okC (ok_lmul X dX6_odds_94)
  (okC (ok_bi X (by decide) dX6_odds_95)
  (okC (ok_ildn X rfl dX6_odds_97)
  (okC (ok_calS X (i := 273) (e := en_192) rfl mt_192 rfl rfl rfl tw_1184 tw_1185 dX6_odds_98)
  (okC (ok_ildn X rfl dX6_odds_101)
  (okC (ok_calS X (i := 277) (e := en_191) rfl mt_191 rfl rfl rfl tw_1187 tw_1188 dX6_odds_102)
  (okN)))))))))))))))))))))))), ok_lret X hr dX6_odds_105⟩
theorem om_193 : ip_MOk tb en_193 pc_X6_odds := fun x G d X hr hnm => ⟨ob_X6_odds_0 X hr hnm, ⟨ob_X6_odds_1 X hr hnm, ⟨ob_X6_odds_2 X hr hnm, ⟨ob_X6_odds_3 X hr hnm, ⟨ob_X6_odds_4 X hr hnm, ⟨ob_X6_odds_5 X hr hnm, ⟨ob_X6_odds_6 X hr hnm, ⟨ob_X6_odds_7 X hr hnm, trivial⟩⟩⟩⟩⟩⟩⟩⟩
