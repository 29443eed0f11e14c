def oNo : ip_Op := fun _ _ => False
def tNo : ip_Tm := fun _ _ _ => False
def T_X0_init (call : ip_Cl) : List ip_B := [
  ([oLdA 0, oObj, oLdA 0, oI (30), oNwA 1 30 .int (fun N => (N, .inl (fun _ => 0))), oPut 0 0 (.array .int)], tRV 1 30)]
def T_X0_forget (call : ip_Cl) : List ip_B := [
  ([oLdA 0, oI (0), oPut 0 1 .int, oLdA 0, oI (0), oPut 0 2 .boolean], tRV 0 0)]
def T_X0_perform (call : ip_Cl) : List ip_B := [
  ([oLdA 0, oLdI 1, oPut 0 3 .int, oLdA 0, oLdI 2, oPut 0 4 .int, oLdA 0, oLdI 3, oPut 0 5 .int, oLdA 0, oLdA 0, oLdI 4, oCaV call 0 0 0 3 2 0 0, oLdI 5, oI (0), oCaV call 0 0 0 5 4 0 0, oStI 6, oLdA 0, oGet 0 2], tIf (fun a => a = 0) 2 1),
  ([oI (-15)], tGo 3),
  ([oLdI 6], tGo 3),
  ([], tRI .int 0 0)]
def T_X0_ownBody (call : ip_Cl) : List ip_B := [
  ([oLdA 0, oGet 0 3, oI (4), oBI (fun a b => a * b), oLdI 1, oBI (fun a b => a + b), oStI 2, oLdI 2, oI (0), oRef 4, oLen, oI (1), oBI (fun a b => a - b), oCal call 0 0 95 3 0 0], tIf (fun a => a = 0) 2 1),
  ([oRef 4, oLdI 2, oAldI], tGo 3),
  ([oI (0)], tGo 3),
  ([], tRI .int 0 0)]
def T_X0_begin (call : ip_Cl) : List ip_B := [
  ([oLdA 0, oGet 0 2], tIf (fun a => a = 0) 1 3),
  ([oLdA 0, oGet 0 1, oI (30)], tCm (fun a b => a < b) 2 3),
  ([oLdA 0, oGet 0 0, oLdA 0, oGet 0 1, oLdI 1, oAstI, oLdA 0, oDup, oGet 0 1, oI (1), oBI (fun a b => a + b), oPut 0 1 .int], tGo 3),
  ([], tRV 0 0)]
def T_X0_run (call : ip_Cl) : List ip_B := [
  ([oLdI 3, oI (40)], tCm (fun a b => b < a) 1 2),
  ([oI (0)], tRI .int 0 0),
  ([oLdA 0, oLdI 1, oCaV call 0 0 0 4 2 0 0, oLdI 3, oI (1), oBI (fun a b => a + b), oStI 4, oLdI 1], tSw [(10, 3), (11, 4), (12, 5), (13, 6), (14, 16), (15, 16), (16, 16), (17, 16), (18, 16), (19, 16), (20, 7), (21, 16), (22, 16), (23, 16), (24, 16), (25, 16), (26, 16), (27, 16), (28, 16), (29, 16), (30, 8), (31, 9), (32, 16), (33, 16), (34, 16), (35, 16), (36, 16), (37, 16), (38, 16), (39, 16), (40, 10), (41, 11), (42, 16), (43, 16), (44, 16), (45, 16), (46, 16), (47, 16), (48, 16), (49, 16), (50, 12), (51, 13), (52, 16), (53, 16), (54, 16), (55, 16), (56, 16), (57, 16), (58, 16), (59, 16), (60, 14), (61, 15)] 16),
  ([oLdI 2, oI (8), oBI (fun a b => a * b), oLdA 0, oGet 0 4, oBI (fun a b => a - b)], tRI .int 0 0),
  ([oLdA 0, oLdA 0, oI (0), oCaV call 0 0 0 3 2 0 0, oLdI 2, oLdI 4, oCaV call 0 0 0 5 4 0 0, oLdA 0, oGet 0 5, oBI (fun a b => a + b)], tRI .int 0 0),
  ([oLdA 0, oLdI 2, oLdA 0, oGet 0 5, oLdA 0, oGet 0 4, oBI (fun a b => a - b), oCaV call 0 0 0 6 3 0 0], tRI .int 0 0),
  ([oLdA 0, oLdA 0, oI (1), oCaV call 0 0 0 3 2 0 0, oLdI 2, oLdI 4, oCaV call 0 0 0 5 4 0 0, oI (110), oBI (fun a b => a ^^^ b)], tRI .int 0 0),
  ([oI (0), oLdA 0, oI (11), oLdI 2, oLdI 4, oCaV call 0 0 0 5 4 0 0, oBI (fun a b => a - b)], tRI .int 0 0),
  ([oLdA 0, oI (10), oLdI 2, oLdI 4, oCaV call 0 0 0 5 4 0 0, oI (7), oBI (fun a b => a + b)], tRI .int 0 0),
  ([oLdA 0, oI (13), oLdI 2, oLdI 4, oCaV call 0 0 0 5 4 0 0, oLdA 0, oLdA 0, oI (2), oCaV call 0 0 0 3 2 0 0, oLdA 0, oGet 0 4, oLdI 4, oCaV call 0 0 0 5 4 0 0, oBI (fun a b => a - b)], tRI .int 0 0),
  ([oLdA 0, oI (30), oLdI 2, oLdI 4, oCaV call 0 0 0 5 4 0 0, oI (2), oBI (fun a b => a * b)], tRI .int 0 0),
  ([oLdA 0, oI (11), oLdI 2, oLdI 4, oCaV call 0 0 0 5 4 0 0, oLdA 0, oLdA 0, oI (0), oCaV call 0 0 0 3 2 0 0, oLdA 0, oGet 0 5, oLdI 4, oCaV call 0 0 0 5 4 0 0, oBI (fun a b => a - b)], tRI .int 0 0),
  ([oLdA 0, oI (12), oLdI 2, oI (4), oBI (fun a b => a + b), oLdI 4, oCaV call 0 0 0 5 4 0 0, oLdA 0, oGet 0 4, oBI (fun a b => a - b)], tRI .int 0 0),
  ([oLdA 0, oI (10), oLdI 2, oLdI 4, oCaV call 0 0 0 5 4 0 0, oI (3), oBI (fun a b => a ^^^ b)], tRI .int 0 0),
  ([oLdA 0, oI (13), oLdI 2, oLdI 4, oCaV call 0 0 0 5 4 0 0, oI (4), oBI (fun a b => a * b)], tRI .int 0 0),
  ([oLdA 0, oI (12), oLdI 2, oLdI 4, oCaV call 0 0 0 5 4 0 0, oLdA 0, oLdA 0, oI (0), oCaV call 0 0 0 3 2 0 0, oLdA 0, oGet 0 4, oLdI 4, oCaV call 0 0 0 5 4 0 0, oBI (fun a b => a + b)], tRI .int 0 0),
  ([oI (0)], tRI .int 0 0)]
def T_X0_quotient (call : ip_Cl) : List ip_B := [
  ([oLdI 2], tIf (fun a => a = 0) 1 2),
  ([oLdA 0, oI (1), oPut 0 2 .boolean, oI (0)], tRI .int 0 0),
  ([oLdI 1, oLdI 2, oDI (fun a b => a / b)], tRI .int 0 0)]
def T_X1_init (call : ip_Cl) : List ip_B := [
  ([oLdA 0, oObj, oLdA 0, oI (4), oNwA 6 44 .int (fun N => (N, .inl (fun _ => 0))), oPut 1 0 (.array .int), oLdA 0, oI (1), oPut 1 3 .int, oLdA 0, oI (8), oNwA 6 44 .int (fun N => (N, .inl (fun _ => 0))), oPut 1 5 (.array .int), oLdA 0, oI (8), oNwA 6 44 .int (fun N => (N, .inl (fun _ => 0))), oPut 1 6 (.array .int), oLdA 0, oI (8), oNwA 6 44 .int (fun N => (N, .inl (fun _ => 0))), oPut 1 7 (.array .int), oLdA 0, oI (8), oNwA 6 44 .int (fun N => (N, .inl (fun _ => 0))), oPut 1 8 (.array .int), oLdA 0, oI (8), oNwA 6 44 .int (fun N => (N, .inl (fun _ => 0))), oPut 1 9 (.array .int), oLdA 0, oCaV call 6 44 1 8 1 0 0], tRV 6 44)]
def T_X1_clear (call : ip_Cl) : List ip_B := [
  ([oRef 1, oI (0), oLdA 0, oGet 1 0, oI (0), oI (4), oCpy, oLdA 0, oI (0), oPut 1 1 .int, oLdA 0, oI (0), oPut 1 2 .int, oLdA 0, oI (0), oPut 1 4 .int, oLdA 0, oI (0), oPut 1 10 .int], tRV 0 0)]
def T_X1_copy (call : ip_Cl) : List ip_B := [
  ([oLdA 1, oGet 1 0, oI (0), oLdA 0, oGet 1 0, oI (0), oI (4), oCpy, oLdA 0, oLdA 1, oGet 1 1, oPut 1 1 .int, oLdA 0, oLdA 1, oGet 1 2, oPut 1 2 .int, oLdA 0, oLdA 1, oGet 1 3, oPut 1 3 .int, oLdA 0, oLdA 1, oGet 1 4, oPut 1 4 .int, oLdA 1, oGet 1 5, oI (0), oLdA 0, oGet 1 5, oI (0), oI (8), oCpy, oLdA 1, oGet 1 6, oI (0), oLdA 0, oGet 1 6, oI (0), oI (8), oCpy, oLdA 1, oGet 1 7, oI (0), oLdA 0, oGet 1 7, oI (0), oI (8), oCpy, oLdA 1, oGet 1 8, oI (0), oLdA 0, oGet 1 8, oI (0), oI (8), oCpy, oLdA 1, oGet 1 9, oI (0), oLdA 0, oGet 1 9, oI (0), oI (8), oCpy, oLdA 0, oLdA 1, oGet 1 10, oPut 1 10 .int], tRV 0 0)]
def T_X1_add (call : ip_Cl) : List ip_B := [
  ([oLdA 0, oGet 1 4, oI (8)], tCm (fun a b => a < b) 2 1),
  ([oI (-2)], tRI .int 0 0),
  ([oLdA 0, oGet 1 4, oStI 3, oLdA 0, oGet 1 5, oLdI 3, oLdI 1, oAstI, oLdA 0, oGet 1 6, oLdI 3, oLdI 2, oAstI, oLdA 0, oGet 1 7, oLdI 3, oI (0), oAstI, oLdA 0, oGet 1 8, oLdI 3, oI (0), oAstI, oLdA 0, oGet 1 9, oLdI 3, oI (0), oAstI, oLdA 0, oDup, oGet 1 4, oI (1), oBI (fun a b => a + b), oPut 1 4 .int, oLdI 3], tRI .int 0 0)]
def T_X1_saidBy (call : ip_Cl) : List ip_B := [
  ([oLdA 0, oGet 1 8, oLdI 1, oAldI, oLdA 0, oGet 1 9, oLdI 1, oAldI, oBI (fun a b => a ||| b), oCal call 0 0 227 1 0 0], tRI .int 0 0)]
def T_X1_rightOf (call : ip_Cl) : List ip_B := [
  ([oLdA 0, oGet 1 8, oLdI 1, oAldI, oLdA 0, oGet 1 9, oLdI 1, oAldI, oLdI 2, oCal call 0 0 114 3 0 0], tRI .int 0 0)]
def T_X1_tread (call : ip_Cl) : List ip_B := [
  ([oI (0), oStI 2], tGo 1),
  ([oLdI 2, oLdA 0, oGet 1 4], tCm (fun a b => a < b) 2 3),
  ([oLdA 1, oLdA 0, oLdI 2, oLdA 0, oGet 1 1, oCaV call 0 0 4 39 4 0 0, oLdA 1, oCaV call 0 0 4 48 1 0 0, oLdA 0, oGet 1 7, oLdI 2, oLdA 1, oGet 4 6, oAstI, oLdA 0, oLdA 0, oGet 1 10, oLdI 2, oLdA 1, oGet 4 9, oCal call 0 0 105 3 0 0, oPut 1 10 .int, oInc 2 (1)], tGo 1),
  ([oLdA 0, oDup, oGet 1 2, oI (1), oBI (fun a b => a + b), oPut 1 2 .int], tRV 0 0)]
def T_X1_draw (call : ip_Cl) : List ip_B := [
  ([oLdA 0, oLdA 0, oGet 1 3, oI (1103515245), oBI (fun a b => a * b), oI (12345), oBI (fun a b => a + b), oPut 1 3 .int, oLdA 0, oGet 1 3, oI (16), oBI (fun a b => (a.toUInt32 >>> (b.toUInt32 &&& Int32.toUInt32 31)).toInt32)], tRI .int 0 0)]
def T_X1_treadByDraws (call : ip_Cl) : List ip_B := [
  ([oLdA 0, oCaV call 0 0 1 14 1 0 0, oI (8), oDI (fun a b => a - a / b * b), oStI 2, oLdA 0, oCaV call 0 0 1 14 1 0 0, oI (100), oDI (fun a b => a - a / b * b), oLdA 0, oGet 1 0, oI (3), oAldI], tCm (fun a b => a < b) 1 2),
  ([oLdA 0, oDup, oGet 1 1, oI (1), oLdI 2, oBI (fun a b => a <<< (b &&& 31)), oBI (fun a b => a ^^^ b), oPut 1 1 .int], tGo 2),
  ([oLdA 0, oLdA 1, oCaV call 0 0 1 13 2 0 0], tRV 0 0)]
def T_X1_across (call : ip_Cl) : List ip_B := [
  ([oI (0), oStI 1, oI (0), oStI 2], tGo 1),
  ([oLdI 2, oLdA 0, oGet 1 4], tCm (fun a b => a < b) 2 6),
  ([oLdI 1, oLdI 2, oLdA 0, oGet 1 7, oLdI 2, oAldI, oI (20)], tCm (fun a b => a = b) 3 4),
  ([oI (1)], tGo 5),
  ([oI (0)], tGo 5),
  ([oCal call 0 0 105 3 0 0, oStI 1, oInc 2 (1)], tGo 1),
  ([oLdI 1], tRI .int 0 0)]
def T_X1_placesTogether (call : ip_Cl) : List ip_B := [
  ([oI (0), oStI 1, oI (0), oStI 2], tGo 1),
  ([oLdI 2, oLdA 0, oGet 1 4], tCm (fun a b => a < b) 2 3),
  ([oLdI 1, oLdA 0, oGet 1 7, oLdI 2, oAldI, oBI (fun a b => a + b), oStI 1, oInc 2 (1)], tGo 1),
  ([oLdI 1], tRI .int 0 0)]
def T_X1_held (call : ip_Cl) : List ip_B := [
  ([oI (0), oStI 1, oI (0), oStI 2], tGo 1),
  ([oLdI 2, oI (1), oLdA 0, oGet 1 4, oBI (fun a b => a <<< (b &&& 31))], tCm (fun a b => a < b) 2 10),
  ([oI (0), oStI 3, oI (0), oStI 4, oI (0), oStI 5], tGo 3),
  ([oLdI 5, oLdA 0, oGet 1 4], tCm (fun a b => a < b) 4 7),
  ([oLdI 2, oLdI 5, oCal call 0 0 104 2 0 0], tIf (fun a => a = 0) 6 5),
  ([oLdI 3, oLdA 0, oGet 1 8, oLdI 5, oAldI, oBI (fun a b => a ||| b), oStI 3, oLdI 4, oLdA 0, oGet 1 9, oLdI 5, oAldI, oBI (fun a b => a ||| b), oStI 4], tGo 6),
  ([oInc 5 (1)], tGo 3),
  ([oLdI 3, oLdI 4, oBI (fun a b => a &&& b)], tIf (fun a => a = 0) 8 9),
  ([oLdI 1, oLdI 2, oCal call 0 0 227 1 0 0, oMax 0 0, oStI 1], tGo 9),
  ([oInc 2 (1)], tGo 1),
  ([oLdI 1], tRI .int 0 0)]
def T_X1_rowItem (call : ip_Cl) : List ip_B := [
  ([oLdI 2], tSw [(0, 1), (1, 2)] 3),
  ([oLdA 0, oGet 1 7, oLdI 1, oAldI], tRI .int 0 0),
  ([oLdA 0, oGet 1 10, oLdI 1, oBI (fun a b => a >>> (b &&& 31)), oI (1), oBI (fun a b => a &&& b)], tRI .int 0 0),
  ([oLdA 0, oCaV call 0 0 1 16 1 0 0, oCal call 0 0 227 1 0 0], tRI .int 0 0)]
def T_X2_init (call : ip_Cl) : List ip_B := [
  ([oLdA 0, oObj, oLdA 0, oLdI 1, oPut 2 0 .int, oLdA 0, oI (0), oLdI 2, oMax 1 40, oNwA 1 40 .int (fun N => (N, .inl (fun _ => 0))), oPut 2 1 (.array .int)], tRV 1 40)]
def T_X2_narrowed (call : ip_Cl) : List ip_B := [
  ([oLdA 0, oGet 2 0], tSw [(0, 1), (1, 2)] 3),
  ([oLdI 1, oUI (fun a => a.toInt8.toInt32)], tRI .int 0 0),
  ([oLdI 1, oUI (fun a => a.toInt16.toInt32)], tRI .int 0 0),
  ([oLdI 1], tRI .int 0 0)]
def T_X3_init (call : ip_Cl) : List ip_B := [
  ([oLdA 0, oObj, oLdA 0, oI (200), oNwA 1 200 .byte (fun N => (N, .inl (fun _ => 0))), oPut 3 0 (.array .byte), oLdA 0, oI (0), oPut 3 2 .int, oLdA 0, oI (-1), oPut 3 5 .int], tRV 1 200)]
def T_X3_append (call : ip_Cl) : List ip_B := [
  ([oLdA 0, oGet 3 1, oI (200)], tCm (fun a b => a < b) 1 2),
  ([oLdA 0, oGet 3 0, oLdA 0, oGet 3 1, oLdI 1, oAstB, oLdA 0, oDup, oGet 3 1, oI (1), oBI (fun a b => a + b), oPut 3 1 .int], tGo 2),
  ([], tRV 0 0)]
def T_X3_readInto (call : ip_Cl) : List ip_B := [
  ([oLdA 0, oI (-1), oPut 3 5 .int, oLdA 0, oI (0), oPut 3 4 .int, oLdA 0, oCaV call 0 0 3 31 1 0 0, oI (0), oStI 2], tGo 1),
  ([oLdI 2, oI (200)], tCm (fun a b => a < b) 2 5),
  ([oLdA 0, oGet 3 2], tIf (fun a => a = 0) 5 3),
  ([oLdA 0, oGet 3 5, oI (-1)], tCm (fun a b => a = b) 4 5),
  ([oLdA 0, oLdA 1, oCaV call 0 0 3 25 2 0 0, oInc 2 (1)], tGo 1),
  ([oLdA 0, oGet 3 5], tRI .int 0 0)]
def T_X3_readOne (call : ip_Cl) : List ip_B := [
  ([oLdA 0, oCaV call 0 0 3 36 1 0 0, oStI 2, oLdA 0, oCaV call 0 0 3 37 1 0 0, oStI 3, oLdI 2, oI (-1)], tCm (fun a b => a = b) 3 1),
  ([oLdA 1, oGet 1 4, oI (8)], tCm (fun a b => a < b) 2 3),
  ([oLdA 0, oCaV call 0 0 3 31 1 0 0, oLdA 0, oLdA 1, oLdA 1, oLdI 2, oI (10), oCaV call 0 0 1 10 3 0 0, oCaV call 0 0 3 26 3 0 0], tGo 8),
  ([oLdI 3, oI (-1)], tCm (fun a b => a = b) 5 4),
  ([oLdA 0, oCaV call 0 0 3 31 1 0 0, oLdA 1, oGet 1 0, oLdI 3, oLdA 0, oRef 2, oLdI 3, oAldI, oI (0), oCaV call 0 0 3 28 3 0 0, oAstI], tGo 8),
  ([oLdA 0, oRef 19, oCaV call 0 0 3 35 2 0 0], tIf (fun a => a = 0) 7 6),
  ([oLdA 0, oCaV call 0 0 3 31 1 0 0, oLdA 1, oDup, oGet 1 1, oI (1), oLdA 0, oI (7), oI (0), oCaV call 0 0 3 28 3 0 0, oBI (fun a b => a <<< (b &&& 31)), oBI (fun a b => a ||| b), oPut 1 1 .int], tGo 8),
  ([oLdA 0, oCaV call 0 0 3 30 1 0 0], tGo 8),
  ([oLdA 0, oCaV call 0 0 3 29 1 0 0], tRV 0 0)]
def T_X3_readWalker (call : ip_Cl) : List ip_B := [
  ([oLdA 1, oGet 1 6, oLdI 2, oLdA 0, oRef 15, oI (99), oI (0), oI (10), oCaV call 0 0 3 27 5 0 0, oAstI, oLdA 1, oGet 1 7, oLdI 2, oLdA 0, oRef 16, oI (20), oI (0), oI (0), oCaV call 0 0 3 27 5 0 0, oAstI, oLdA 1, oGet 1 8, oLdI 2, oLdA 0, oRef 17, oI (255), oI (0), oI (0), oCaV call 0 0 3 27 5 0 0, oAstI, oLdA 1, oGet 1 9, oLdI 2, oLdA 0, oRef 18, oI (255), oLdA 1, oGet 1 8, oLdI 2, oAldI, oI (0), oCaV call 0 0 3 27 5 0 0, oAstI], tRV 0 0)]
def T_X3_readOption (call : ip_Cl) : List ip_B := [
  ([oLdA 0, oLdA 1, oCaV call 0 0 3 35 2 0 0], tIf (fun a => a = 0) 1 2),
  ([oLdI 4], tRI .int 0 0),
  ([oLdA 0, oCaV call 0 0 3 31 1 0 0, oLdA 0, oLdI 2, oLdI 3, oCaV call 0 0 3 28 3 0 0], tRI .int 0 0)]
def T_X3_readNumber (call : ip_Cl) : List ip_B := [
  ([oLdA 0, oCaV call 0 0 3 34 1 0 0, oStI 3, oLdI 3], tIf (fun a => a < 0) 3 1),
  ([oLdI 3, oLdI 1], tCm (fun a b => b < a) 3 2),
  ([oLdI 3, oLdI 2, oBI (fun a b => a &&& b)], tIf (fun a => a = 0) 4 3),
  ([oLdA 0, oCaV call 0 0 3 30 1 0 0, oI (0)], tRI .int 0 0),
  ([oLdA 0, oCaV call 0 0 3 31 1 0 0, oLdI 3], tRI .int 0 0)]
def T_X3_readClose (call : ip_Cl) : List ip_B := [
  ([oLdA 0, oGet 3 2, oI (3)], tCm (fun a b => a = b) 1 4),
  ([oLdA 0, oGet 3 3, oLdA 0, oGet 3 1], tCm (fun a b => a < b) 2 4),
  ([oLdA 0, oGet 3 0, oLdA 0, oGet 3 3, oAldB, oI (59)], tCm (fun a b => a = b) 3 4),
  ([oLdA 0, oCaV call 0 0 3 31 1 0 0], tGo 5),
  ([oLdA 0, oCaV call 0 0 3 30 1 0 0], tGo 5),
  ([], tRV 0 0)]
def T_X3_fail (call : ip_Cl) : List ip_B := [
  ([oLdA 0, oGet 3 5, oI (-1)], tCm (fun a b => a = b) 1 2),
  ([oLdA 0, oLdA 0, oGet 3 3, oPut 3 5 .int], tGo 2),
  ([], tRV 0 0)]
def T_X3_advance (call : ip_Cl) : List ip_B := [
  ([oLdA 0, oGet 3 4, oStI 1], tGo 1),
  ([oLdI 1, oLdA 0, oGet 3 1], tCm (fun a b => a < b) 2 4),
  ([oLdA 0, oGet 3 0, oLdI 1, oAldB, oI (32)], tCm (fun a b => a = b) 3 4),
  ([oInc 1 (1)], tGo 1),
  ([oLdA 0, oLdI 1, oPut 3 3 .int, oLdI 1, oLdA 0, oGet 3 1], tCm (fun a b => a < b) 6 5),
  ([oLdA 0, oI (0), oPut 3 2 .int], tGo 17),
  ([oLdA 0, oGet 3 0, oLdI 1, oAldB, oCal call 0 0 32 1 0 0], tIf (fun a => a = 0) 11 7),
  ([oLdA 0, oI (1), oPut 3 2 .int], tGo 8),
  ([oLdI 1, oLdA 0, oGet 3 1], tCm (fun a b => a < b) 9 17),
  ([oLdA 0, oGet 3 0, oLdI 1, oAldB, oCal call 0 0 32 1 0 0], tIf (fun a => a = 0) 17 10),
  ([oInc 1 (1)], tGo 8),
  ([oLdA 0, oGet 3 0, oLdI 1, oAldB, oCal call 0 0 33 1 0 0], tIf (fun a => a = 0) 16 12),
  ([oLdA 0, oI (2), oPut 3 2 .int], tGo 13),
  ([oLdI 1, oLdA 0, oGet 3 1], tCm (fun a b => a < b) 14 17),
  ([oLdA 0, oGet 3 0, oLdI 1, oAldB, oCal call 0 0 33 1 0 0], tIf (fun a => a = 0) 17 15),
  ([oInc 1 (1)], tGo 13),
  ([oLdA 0, oI (3), oPut 3 2 .int, oInc 1 (1)], tGo 17),
  ([oLdA 0, oLdI 1, oPut 3 4 .int], tRV 0 0)]
def T_X3_isLetter (call : ip_Cl) : List ip_B := [
  ([oLdI 0, oI (97)], tCm (fun a b => a < b) 3 1),
  ([oLdI 0, oI (122)], tCm (fun a b => b < a) 3 2),
  ([oI (1)], tGo 4),
  ([oI (0)], tGo 4),
  ([], tRI .boolean 0 0)]
def T_X3_isDigit (call : ip_Cl) : List ip_B := [
  ([oLdI 0, oI (48)], tCm (fun a b => a < b) 3 1),
  ([oLdI 0, oI (57)], tCm (fun a b => b < a) 3 2),
  ([oI (1)], tGo 4),
  ([oI (0)], tGo 4),
  ([], tRI .boolean 0 0)]
def T_X3_tokenNumber (call : ip_Cl) : List ip_B := [
  ([oLdA 0, oGet 3 2, oI (2)], tCm (fun a b => a = b) 1 2),
  ([oLdA 0, oGet 3 4, oLdA 0, oGet 3 3, oBI (fun a b => a - b), oI (3)], tCm (fun a b => b < a) 2 3),
  ([oI (-1)], tRI .int 0 0),
  ([oI (0), oStI 1, oLdA 0, oGet 3 3, oStI 2], tGo 4),
  ([oLdI 2, oLdA 0, oGet 3 4], tCm (fun a b => a < b) 5 6),
  ([oLdI 1, oI (10), oBI (fun a b => a * b), oLdA 0, oGet 3 0, oLdI 2, oAldB, oI (48), oBI (fun a b => a - b), oBI (fun a b => a + b), oStI 1, oInc 2 (1)], tGo 4),
  ([oLdI 1], tRI .int 0 0)]
def T_X3_isNamed (call : ip_Cl) : List ip_B := [
  ([oLdA 0, oGet 3 2, oI (1)], tCm (fun a b => a = b) 1 2),
  ([oLdA 0, oGet 3 4, oLdA 0, oGet 3 3, oBI (fun a b => a - b), oLdA 1, oCaV call 0 0 7 228 1 0 0], tCm (fun a b => a = b) 3 2),
  ([oI (0)], tRI .boolean 0 0),
  ([oI (0), oStI 2], tGo 4),
  ([oLdI 2, oLdA 1, oCaV call 0 0 7 228 1 0 0], tCm (fun a b => a < b) 5 8),
  ([oLdA 0, oGet 3 0, oLdA 0, oGet 3 3, oLdI 2, oBI (fun a b => a + b), oAldB, oLdA 1, oLdI 2, oCaV call 0 0 7 229 2 0 0], tCm (fun a b => a = b) 7 6),
  ([oI (0)], tRI .boolean 0 0),
  ([oInc 2 (1)], tGo 4),
  ([oI (1)], tRI .boolean 0 0)]
def T_X3_kindNamed (call : ip_Cl) : List ip_B := [
  ([oLdA 0, oRef 5, oCaV call 0 0 3 35 2 0 0], tIf (fun a => a = 0) 2 1),
  ([oI (0)], tGo 13),
  ([oLdA 0, oRef 6, oCaV call 0 0 3 35 2 0 0], tIf (fun a => a = 0) 4 3),
  ([oI (1)], tGo 13),
  ([oLdA 0, oRef 7, oCaV call 0 0 3 35 2 0 0], tIf (fun a => a = 0) 6 5),
  ([oI (2)], tGo 13),
  ([oLdA 0, oRef 8, oCaV call 0 0 3 35 2 0 0], tIf (fun a => a = 0) 8 7),
  ([oI (3)], tGo 13),
  ([oLdA 0, oRef 9, oCaV call 0 0 3 35 2 0 0], tIf (fun a => a = 0) 10 9),
  ([oI (4)], tGo 13),
  ([oLdA 0, oRef 10, oCaV call 0 0 3 35 2 0 0], tIf (fun a => a = 0) 12 11),
  ([oI (5)], tGo 13),
  ([oI (-1)], tGo 13),
  ([], tRI .int 0 0)]
def T_X3_lawNamed (call : ip_Cl) : List ip_B := [
  ([oLdA 0, oRef 11, oCaV call 0 0 3 35 2 0 0], tIf (fun a => a = 0) 2 1),
  ([oI (0)], tGo 9),
  ([oLdA 0, oRef 12, oCaV call 0 0 3 35 2 0 0], tIf (fun a => a = 0) 4 3),
  ([oI (1)], tGo 9),
  ([oLdA 0, oRef 13, oCaV call 0 0 3 35 2 0 0], tIf (fun a => a = 0) 6 5),
  ([oI (2)], tGo 9),
  ([oLdA 0, oRef 14, oCaV call 0 0 3 35 2 0 0], tIf (fun a => a = 0) 8 7),
  ([oI (3)], tGo 9),
  ([oI (-1)], tGo 9),
  ([], tRI .int 0 0)]
def T_X4_init (call : ip_Cl) : List ip_B := [
  ([oLdA 0, oObj], tRV 0 0)]
def T_X4_begin (call : ip_Cl) : List ip_B := [
  ([oLdA 0, oLdA 1, oGet 1 0, oI (0), oAldI, oPut 4 0 .int, oLdA 0, oLdA 1, oGet 1 0, oI (1), oAldI, oPut 4 1 .int, oLdA 0, oLdA 1, oGet 1 0, oI (2), oAldI, oPut 4 2 .int, oLdA 0, oLdA 1, oGet 1 2, oPut 4 3 .int, oLdA 0, oLdA 1, oGet 1 5, oLdI 2, oAldI, oPut 4 4 .int, oLdA 0, oLdA 1, oGet 1 6, oLdI 2, oAldI, oPut 4 5 .int, oLdA 0, oLdA 1, oGet 1 7, oLdI 2, oAldI, oPut 4 6 .int, oLdA 0, oLdA 1, oGet 1 10, oLdI 2, oCal call 0 0 104 2 0 0, oPut 4 9 .boolean, oLdA 1, oLdI 2, oLdI 3, oCaV call 0 0 1 12 3 0 0, oStI 4, oLdA 0, oLdI 4, oLdA 1, oLdI 2, oCaV call 0 0 1 11 2 0 0, oLdI 4, oBI (fun a b => a - b), oCaV call 0 0 4 40 3 0 0], tRV 0 0)]
def T_X4_hear (call : ip_Cl) : List ip_B := [
  ([oLdA 0, oLdI 1, oPut 4 7 .int, oLdA 0, oLdI 2, oPut 4 8 .int], tRV 0 0)]
def T_X4_isAcross (call : ip_Cl) : List ip_B := [
  ([oLdA 0, oGet 4 6, oI (20)], tCm (fun a b => a = b) 1 2),
  ([oI (1)], tGo 3),
  ([oI (0)], tGo 3),
  ([], tRI .boolean 0 0)]
def T_X4_isAtRest (call : ip_Cl) : List ip_B := [
  ([oLdA 0, oGet 4 9], tIf (fun a => a = 0) 1 2),
  ([oLdA 0, oCaV call 0 0 4 41 1 0 0], tIf (fun a => a = 0) 3 2),
  ([oI (1)], tGo 4),
  ([oI (0)], tGo 4),
  ([], tRI .boolean 0 0)]
def T_X4_bears (call : ip_Cl) : List ip_B := [
  ([oLdA 0, oGet 4 4], tSw [(1, 1), (2, 3), (3, 2), (4, 4), (5, 5)] 9),
  ([oLdA 0, oCaV call 0 0 4 45 1 0 0], tRI .int 0 0),
  ([oLdA 0, oCaV call 0 0 4 45 1 0 0, oLdA 0, oGet 4 2, oBI (fun a b => a + b)], tRI .int 0 0),
  ([oLdA 0, oCaV call 0 0 4 46 1 0 0], tRI .int 0 0),
  ([oI (2), oLdA 0, oCaV call 0 0 4 46 1 0 0, oBI (fun a b => a * b)], tRI .int 0 0),
  ([oI (90), oI (10), oLdA 0, oGet 4 6, oBI (fun a b => a * b), oBI (fun a b => a - b), oLdA 0, oGet 4 7, oLdA 0, oGet 4 8, oBI (fun a b => a + b)], tIf (fun a => 0 < a) 6 7),
  ([oI (50)], tGo 8),
  ([oI (0)], tGo 8),
  ([oBI (fun a b => a - b)], tRI .int 0 0),
  ([oLdA 0, oCaV call 0 0 4 44 1 0 0], tRI .int 0 0)]
def T_X4_bearsAsWalker (call : ip_Cl) : List ip_B := [
  ([oLdA 0, oGet 4 0, oLdA 0, oGet 4 7, oBI (fun a b => a * b), oLdA 0, oGet 4 1, oLdA 0, oGet 4 8, oBI (fun a b => a * b), oBI (fun a b => a - b)], tRI .int 0 0)]
def T_X4_bearsAsClown (call : ip_Cl) : List ip_B := [
  ([oLdA 0, oGet 4 0, oLdA 0, oGet 4 8, oBI (fun a b => a * b), oLdA 0, oGet 4 1, oLdA 0, oGet 4 7, oBI (fun a b => a * b), oBI (fun a b => a - b)], tRI .int 0 0)]
def T_X4_bearsAsChild (call : ip_Cl) : List ip_B := [
  ([oLdA 0, oCaV call 0 0 4 44 1 0 0, oI (2), oI (8), oLdA 0, oGet 4 7, oBI (fun a b => a - b), oLdA 0, oGet 4 8, oBI (fun a b => a - b), oBI (fun a b => a * b), oBI (fun a b => a + b)], tRI .int 0 0)]
def T_X4_strides (call : ip_Cl) : List ip_B := [
  ([oLdA 0, oGet 4 4], tSw [(1, 1), (2, 7), (3, 2), (4, 6)] 7),
  ([oI (2)], tRI .int 0 0),
  ([oLdA 0, oGet 4 3, oI (1), oBI (fun a b => a &&& b)], tIf (fun a => a = 0) 3 4),
  ([oI (3)], tGo 5),
  ([oI (2)], tGo 5),
  ([], tRI .int 0 0),
  ([oI (1), oLdA 0, oGet 4 7, oBI (fun a b => a + b)], tRI .int 0 0),
  ([oI (1)], tRI .int 0 0)]
def T_X4_tread (call : ip_Cl) : List ip_B := [
  ([oLdA 0, oCaV call 0 0 4 42 1 0 0], tIf (fun a => a = 0) 1 4),
  ([oLdA 0, oCaV call 0 0 4 43 1 0 0, oLdA 0, oGet 4 5], tCm (fun a b => a < b) 3 2),
  ([oLdA 0, oI (20), oLdA 0, oGet 4 6, oLdA 0, oCaV call 0 0 4 47 1 0 0, oBI (fun a b => a + b), oMin 0 0, oPut 4 6 .int], tGo 4),
  ([oLdA 0, oI (1), oPut 4 9 .boolean], tGo 4),
  ([oLdA 0, oDup, oGet 4 3, oI (1), oBI (fun a b => a + b), oPut 4 3 .int], tRV 0 0)]
def T_X4_go (call : ip_Cl) : List ip_B := [
  ([oI (0), oStI 2], tGo 1),
  ([oLdI 2, oLdI 1], tCm (fun a b => a < b) 2 4),
  ([oLdA 0, oCaV call 0 0 4 42 1 0 0], tIf (fun a => a = 0) 3 4),
  ([oLdA 0, oCaV call 0 0 4 48 1 0 0, oInc 2 (1)], tGo 1),
  ([], tRV 0 0)]
def T_X4_goesAs (call : ip_Cl) : List ip_B := [
  ([oI (0), oStI 2], tGo 1),
  ([oLdI 2, oLdA 1, oGet 2 1, oLen], tCm (fun a b => a < b) 2 6),
  ([oLdA 0, oCaV call 0 0 4 48 1 0 0, oLdA 1, oGet 2 1, oLdI 2, oAldI, oI (-1)], tCm (fun a b => a = b) 5 3),
  ([oLdA 1, oGet 2 1, oLdI 2, oAldI, oLdA 0, oGet 4 6], tCm (fun a b => a = b) 5 4),
  ([oI (0)], tRI .boolean 0 0),
  ([oInc 2 (1)], tGo 1),
  ([oI (1)], tRI .boolean 0 0)]
def T_X5_init (call : ip_Cl) : List ip_B := [
  ([oLdA 0, oObj, oLdA 0, oNew 30 459 1 [.null, .int 0, .int 0, .int 0, .int 0, .null, .null, .null, .null, .null, .int 0], oDup, oCaV call 30 459 1 7 1 6 44, oPut 5 0 (.object "TruthRope$Ring"), oLdA 0, oNew 30 459 1 [.null, .int 0, .int 0, .int 0, .int 0, .null, .null, .null, .null, .null, .int 0], oDup, oCaV call 30 459 1 7 1 6 44, oPut 5 1 (.object "TruthRope$Ring"), oLdA 0, oNew 30 459 1 [.null, .int 0, .int 0, .int 0, .int 0, .null, .null, .null, .null, .null, .int 0], oDup, oCaV call 30 459 1 7 1 6 44, oPut 5 2 (.object "TruthRope$Ring"), oLdA 0, oI (0), oPut 5 3 .boolean, oLdA 0, oNew 30 459 4 [.int 0, .int 0, .int 0, .int 0, .int 0, .int 0, .int 0, .int 0, .int 0, .int 0], oDup, oCaV call 30 459 4 38 1 0 0, oPut 5 4 (.object "TruthRope$Trial"), oLdA 0, oNew 30 459 3 [.null, .int 0, .int 0, .int 0, .int 0, .int 0], oDup, oCaV call 30 459 3 22 1 1 200, oPut 5 5 (.object "TruthRope$Text"), oLdA 0, oNew 30 459 0 [.null, .int 0, .int 0, .int 0, .int 0, .int 0], oDup, oCaV call 30 459 0 0 1 1 30, oPut 5 6 (.object "TruthRope$Deed"), oLdA 0, oI (30), oNwA 30 459 .int (fun N => (N, .inl (fun _ => 0))), oPut 5 7 (.array .int), oLdA 0, oI (0), oPut 5 8 .int, oLdA 0, oI (4), oNwA 30 459 (.object RX2) (fun N => (N, .inr (.inr (.inr (.inr (fun _ => none)))))), oPut 5 9 (.array (.object "TruthRope$Strip")), oLdA 0, oI (4), oNwA 30 459 (.object RX2) (fun N => (N, .inr (.inr (.inr (.inr (fun _ => none)))))), oPut 5 10 (.array (.object "TruthRope$Strip")), oLdA 0, oI (4), oNwA 30 459 .int (fun N => (N, .inl (fun _ => 0))), oDup, oI (0), oI (-1), oAstI, oDup, oI (1), oI (-1), oAstI, oDup, oI (2), oI (-1), oAstI, oDup, oI (3), oI (-1), oAstI, oPut 5 11 (.array .int)], tRV 30 459)]
def T_X5_feed (call : ip_Cl) : List ip_B := [
  ([oLdI 3, oI (1), oI (8), oCal call 0 0 95 3 0 0], tIf (fun a => a = 0) 1 2),
  ([oI (-1)], tRI .int 0 0),
  ([oLdA 0, oGet 5 5, oGet 3 1, oLdI 3, oBI (fun a b => a + b), oI (200)], tCm (fun a b => b < a) 3 4),
  ([oI (-2)], tRI .int 0 0),
  ([oI (0), oStI 4], tGo 5),
  ([oLdI 4, oLdI 3], tCm (fun a b => a < b) 6 7),
  ([oLdA 0, oGet 5 5, oLdL 1, oI (8), oLdI 4, oBI (fun a b => a * b), oSL (fun a b => (a.toUInt64 >>> (b.toInt64.toUInt64 &&& Int64.toUInt64 63)).toInt64), oLI, oUI (fun a => a.toInt8.toInt32), oCaV call 0 0 3 23 2 0 0, oInc 4 (1)], tGo 5),
  ([oLdA 0, oGet 5 5, oGet 3 1], tRI .int 0 0)]
def T_X5_circus (call : ip_Cl) : List ip_B := [
  ([oLdA 0, oGet 5 1, oCaV call 0 0 1 8 1 0 0, oLdA 0, oGet 5 1, oLdA 0, oGet 5 0, oGet 1 3, oPut 1 3 .int, oLdA 0, oGet 5 5, oLdA 0, oGet 5 1, oCaV call 0 0 3 24 2 0 0, oStI 1, oLdA 0, oGet 5 5, oI (0), oPut 3 1 .int, oLdI 1], tIf (fun a => a < 0) 2 1),
  ([oI (-100), oLdI 1, oBI (fun a b => a - b)], tRI .int 0 0),
  ([oLdA 0, oGet 5 0, oLdA 0, oGet 5 1, oCaV call 0 0 1 9 2 0 0, oLdA 0, oI (0), oPut 5 8 .int, oLdA 0, oGet 5 0, oGet 1 4], tRI .int 0 0)]
def T_X5_set (call : ip_Cl) : List ip_B := [
  ([oLdI 1, oI (0), oI (3), oCal call 0 0 95 3 0 0], tIf (fun a => a = 0) 2 1),
  ([oLdI 2, oI (0), oRef 2, oLdI 1, oAldI, oCal call 0 0 95 3 0 0], tIf (fun a => a = 0) 2 3),
  ([oI (-1)], tRI .int 0 0),
  ([oLdA 0, oGet 5 0, oGet 1 0, oLdI 1, oAldI, oStI 3, oLdA 0, oGet 5 0, oGet 1 0, oLdI 1, oLdI 2, oAstI, oLdI 3], tRI .int 0 0)]
def T_X5_lawOf (call : ip_Cl) : List ip_B := [
  ([oLdI 1, oI (0), oI (3), oCal call 0 0 95 3 0 0], tIf (fun a => a = 0) 2 1),
  ([oLdA 0, oGet 5 0, oGet 1 0, oLdI 1, oAldI], tGo 3),
  ([oI (-1)], tGo 3),
  ([], tRI .int 0 0)]
def T_X5_fact (call : ip_Cl) : List ip_B := [
  ([oLdI 1, oI (0), oI (7), oCal call 0 0 95 3 0 0], tIf (fun a => a = 0) 2 1),
  ([oLdI 2, oI (0), oI (1), oCal call 0 0 95 3 0 0], tIf (fun a => a = 0) 2 3),
  ([oI (-1)], tRI .int 0 0),
  ([oLdA 0, oGet 5 0, oGet 1 1, oLdI 1, oBI (fun a b => a >>> (b &&& 31)), oI (1), oBI (fun a b => a &&& b), oStI 3, oLdA 0, oGet 5 0, oLdA 0, oGet 5 0, oGet 1 1, oLdI 1, oLdI 2, oI (1)], tCm (fun a b => a = b) 4 5),
  ([oI (1)], tGo 6),
  ([oI (0)], tGo 6),
  ([oCal call 0 0 105 3 0 0, oPut 1 1 .int, oLdI 3], tRI .int 0 0)]
def T_X5_walker (call : ip_Cl) : List ip_B := [
  ([oLdI 1, oCal call 0 0 96 1 0 0], tIf (fun a => a = 0) 2 1),
  ([oLdI 2, oCal call 0 0 97 1 0 0], tIf (fun a => a = 0) 2 3),
  ([oI (-1)], tRI .int 0 0),
  ([oLdA 0, oGet 5 0, oLdI 1, oLdI 2, oCaV call 0 0 1 10 3 0 0], tRI .int 0 0)]
def T_X5_of (call : ip_Cl) : List ip_B := [
  ([oLdA 0, oLdI 1, oCaV call 0 0 5 102 2 0 0], tIf (fun a => a = 0) 1 2),
  ([oI (-1)], tRI .int 0 0),
  ([oLdI 2], tSw [(0, 3), (1, 4), (2, 5), (3, 6), (4, 7), (5, 8)] 9),
  ([oLdA 0, oGet 5 0, oGet 1 5, oLdI 1, oAldI], tRI .int 0 0),
  ([oLdA 0, oGet 5 0, oGet 1 6, oLdI 1, oAldI], tRI .int 0 0),
  ([oLdA 0, oGet 5 0, oGet 1 7, oLdI 1, oAldI], tRI .int 0 0),
  ([oLdA 0, oGet 5 0, oGet 1 8, oLdI 1, oAldI], tRI .int 0 0),
  ([oLdA 0, oGet 5 0, oGet 1 9, oLdI 1, oAldI], tRI .int 0 0),
  ([oLdA 0, oGet 5 0, oGet 1 10, oLdI 1, oBI (fun a b => a >>> (b &&& 31)), oI (1), oBI (fun a b => a &&& b)], tRI .int 0 0),
  ([oI (-1)], tRI .int 0 0)]
def T_X5_does (call : ip_Cl) : List ip_B := [
  ([oLdA 0, oLdI 1, oCaV call 0 0 5 102 2 0 0], tIf (fun a => a = 0) 1 2),
  ([oI (-1)], tRI .int 0 0),
  ([oLdA 0, oGet 5 4, oLdA 0, oGet 5 0, oLdI 1, oLdA 0, oGet 5 0, oGet 1 1, oCaV call 0 0 4 39 4 0 0, oLdI 2], tSw [(0, 3), (1, 4), (2, 5), (3, 6)] 7),
  ([oI (1000), oLdA 0, oGet 5 4, oCaV call 0 0 4 43 1 0 0, oBI (fun a b => a + b)], tRI .int 0 0),
  ([oI (1000), oLdA 0, oGet 5 4, oCaV call 0 0 4 47 1 0 0, oBI (fun a b => a + b)], tRI .int 0 0),
  ([oI (1000), oLdA 0, oGet 5 4, oGet 4 7, oBI (fun a b => a + b)], tRI .int 0 0),
  ([oI (1000), oLdA 0, oGet 5 4, oGet 4 8, oBI (fun a b => a + b)], tRI .int 0 0),
  ([oI (-1)], tRI .int 0 0)]
def T_X5_mind (call : ip_Cl) : List ip_B := [
  ([oLdA 0, oLdI 1, oCaV call 0 0 5 102 2 0 0], tIf (fun a => a = 0) 3 1),
  ([oLdI 2, oCal call 0 0 96 1 0 0], tIf (fun a => a = 0) 3 2),
  ([oLdI 3, oCal call 0 0 97 1 0 0], tIf (fun a => a = 0) 3 4),
  ([oI (-1)], tRI .int 0 0),
  ([oLdA 0, oGet 5 0, oGet 1 5, oLdI 1, oAldI, oStI 4, oLdA 0, oGet 5 0, oGet 1 5, oLdI 1, oLdI 2, oAstI, oLdA 0, oGet 5 0, oGet 1 6, oLdI 1, oLdI 3, oAstI, oLdI 4], tRI .int 0 0)]
def T_X5_say (call : ip_Cl) : List ip_B := [
  ([oLdA 0, oLdI 1, oCaV call 0 0 5 102 2 0 0], tIf (fun a => a = 0) 4 1),
  ([oLdI 2, oCal call 0 0 98 1 0 0], tIf (fun a => a = 0) 4 2),
  ([oLdI 3, oCal call 0 0 98 1 0 0], tIf (fun a => a = 0) 4 3),
  ([oLdI 2, oLdI 3, oBI (fun a b => a &&& b)], tIf (fun a => a = 0) 5 4),
  ([oI (-1)], tRI .int 0 0),
  ([oLdA 0, oGet 5 0, oLdI 1, oCaV call 0 0 1 11 2 0 0, oStI 4, oLdA 0, oGet 5 0, oGet 1 8, oLdI 1, oLdI 2, oAstI, oLdA 0, oGet 5 0, oGet 1 9, oLdI 1, oLdI 3, oAstI, oLdI 4], tRI .int 0 0)]
def T_X5_stand (call : ip_Cl) : List ip_B := [
  ([oLdA 0, oLdI 1, oCaV call 0 0 5 102 2 0 0], tIf (fun a => a = 0) 2 1),
  ([oLdI 2, oI (0), oI (20), oCal call 0 0 95 3 0 0], tIf (fun a => a = 0) 2 3),
  ([oI (-1)], tRI .int 0 0),
  ([oLdA 0, oGet 5 0, oGet 1 7, oLdI 1, oAldI, oStI 3, oLdA 0, oGet 5 0, oGet 1 7, oLdI 1, oLdI 2, oAstI, oLdA 0, oGet 5 0, oLdA 0, oGet 5 0, oGet 1 10, oLdI 1, oI (0), oCal call 0 0 105 3 0 0, oPut 1 10 .int, oLdI 3], tRI .int 0 0)]
def T_X5_steps (call : ip_Cl) : List ip_B := [
  ([oLdI 1, oI (1), oI (60), oCal call 0 0 95 3 0 0], tIf (fun a => a = 0) 1 2),
  ([oI (-1)], tRI .int 0 0),
  ([oI (0), oStI 2], tGo 3),
  ([oLdI 2, oLdI 1], tCm (fun a b => a < b) 4 5),
  ([oLdA 0, oGet 5 0, oLdA 0, oGet 5 4, oCaV call 0 0 1 13 2 0 0, oInc 2 (1)], tGo 3),
  ([oLdA 0, oGet 5 0, oCaV call 0 0 1 16 1 0 0, oCal call 0 0 227 1 0 0], tRI .int 0 0)]
def T_X5_seed (call : ip_Cl) : List ip_B := [
  ([oLdA 0, oGet 5 0, oGet 1 3, oStI 2, oLdA 0, oGet 5 0, oLdI 1, oPut 1 3 .int, oLdI 2], tRI .int 0 0)]
def T_X5_step (call : ip_Cl) : List ip_B := [
  ([oLdA 0, oGet 5 0, oLdA 0, oGet 5 4, oCaV call 0 0 1 15 2 0 0, oLdA 0, oGet 5 0, oCaV call 0 0 1 16 1 0 0, oCal call 0 0 227 1 0 0], tRI .int 0 0)]
def T_X5_luck (call : ip_Cl) : List ip_B := [
  ([oLdI 1, oI (1), oI (30), oCal call 0 0 95 3 0 0], tIf (fun a => a = 0) 1 2),
  ([oI (-1)], tRI .int 0 0),
  ([oLdA 0, oGet 5 1, oLdA 0, oGet 5 0, oCaV call 0 0 1 9 2 0 0, oLdA 0, oGet 5 1, oLdA 0, oGet 5 4, oCaV call 0 0 1 13 2 0 0, oLdA 0, oGet 5 1, oGet 1 10, oCal call 0 0 227 1 0 0, oStI 2, oI (0), oStI 3, oLdA 0, oGet 5 0, oGet 1 3, oStI 4, oI (0), oStI 5], tGo 3),
  ([oLdI 5, oLdI 1], tCm (fun a b => a < b) 4 7),
  ([oLdA 0, oGet 5 1, oLdA 0, oGet 5 0, oCaV call 0 0 1 9 2 0 0, oLdA 0, oGet 5 1, oLdI 4, oPut 1 3 .int, oLdA 0, oGet 5 1, oLdA 0, oGet 5 4, oCaV call 0 0 1 15 2 0 0, oLdA 0, oGet 5 1, oGet 1 3, oStI 4, oLdA 0, oGet 5 1, oGet 1 10, oCal call 0 0 227 1 0 0, oLdI 2], tCm (fun a b => b < a) 5 6),
  ([oInc 3 (1)], tGo 6),
  ([oInc 5 (1)], tGo 3),
  ([oLdI 3], tRI .int 0 0)]
def T_X5_state (call : ip_Cl) : List ip_B := [
  ([oLdI 1], tSw [(0, 1), (1, 2), (2, 3), (3, 4), (4, 5), (5, 6)] 7),
  ([oLdA 0, oGet 5 0, oGet 1 2], tRI .int 0 0),
  ([oLdA 0, oGet 5 0, oCaV call 0 0 1 16 1 0 0], tRI .int 0 0),
  ([oLdA 0, oGet 5 0, oGet 1 10], tRI .int 0 0),
  ([oLdA 0, oGet 5 0, oGet 1 1], tRI .int 0 0),
  ([oLdA 0, oGet 5 0, oCaV call 0 0 1 17 1 0 0], tRI .int 0 0),
  ([oLdA 0, oGet 5 0, oCaV call 0 0 1 18 1 0 0], tRI .int 0 0),
  ([oI (-1)], tRI .int 0 0)]
def T_X5_reaches (call : ip_Cl) : List ip_B := [
  ([oLdA 0, oLdI 1, oCaV call 0 0 5 102 2 0 0], tIf (fun a => a = 0) 2 1),
  ([oLdI 2, oI (0), oI (60), oCal call 0 0 95 3 0 0], tIf (fun a => a = 0) 2 3),
  ([oI (-1)], tRI .int 0 0),
  ([oLdA 0, oGet 5 4, oLdA 0, oGet 5 0, oLdI 1, oLdA 0, oGet 5 0, oGet 1 1, oCaV call 0 0 4 39 4 0 0, oLdA 0, oGet 5 4, oLdI 2, oCaV call 0 0 4 49 2 0 0, oLdA 0, oGet 5 4, oGet 4 6], tRI .int 0 0)]
def T_X5_over (call : ip_Cl) : List ip_B := [
  ([oLdA 0, oLdI 1, oCaV call 0 0 5 102 2 0 0], tIf (fun a => a = 0) 1 2),
  ([oI (-1)], tRI .int 0 0),
  ([oLdA 0, oLdI 1, oCaV call 0 0 5 108 2 0 0, oStI 2, oLdA 0, oGet 5 4, oCaV call 0 0 4 41 1 0 0], tIf (fun a => a = 0) 4 3),
  ([oLdI 2], tGo 5),
  ([oI (-3)], tGo 5),
  ([], tRI .int 0 0)]
def T_X5_falls (call : ip_Cl) : List ip_B := [
  ([oLdA 0, oLdI 1, oCaV call 0 0 5 102 2 0 0], tIf (fun a => a = 0) 1 2),
  ([oI (-1)], tRI .int 0 0),
  ([oLdA 0, oLdI 1, oCaV call 0 0 5 108 2 0 0, oStI 2, oLdA 0, oGet 5 4, oGet 4 9], tIf (fun a => a = 0) 4 3),
  ([oLdI 2], tGo 5),
  ([oI (-3)], tGo 5),
  ([], tRI .int 0 0)]
def T_X5_end (call : ip_Cl) : List ip_B := [
  ([oI (0), oStI 1, oI (0), oStI 2], tGo 1),
  ([oLdI 2, oLdA 0, oGet 5 0, oGet 1 4], tCm (fun a b => a < b) 2 5),
  ([oLdA 0, oLdI 2, oCaV call 0 0 5 108 2 0 0, oStI 3, oLdA 0, oGet 5 4, oCaV call 0 0 4 42 1 0 0], tIf (fun a => a = 0) 3 4),
  ([oI (-3)], tRI .int 0 0),
  ([oLdI 1, oLdI 3, oMax 0 0, oStI 1, oInc 2 (1)], tGo 1),
  ([oLdI 1], tRI .int 0 0)]
def T_X5_sayFor (call : ip_Cl) : List ip_B := [
  ([oLdA 0, oLdI 1, oCaV call 0 0 5 102 2 0 0], tIf (fun a => a = 0) 2 1),
  ([oLdI 2, oI (1), oI (30), oCal call 0 0 95 3 0 0], tIf (fun a => a = 0) 2 3),
  ([oI (-1)], tRI .int 0 0),
  ([oI (0), oStI 3], tGo 4),
  ([oLdI 3, oI (8)], tCm (fun a b => b < a) 8 5),
  ([oLdA 0, oLdI 1, oLdI 2, oLdI 3, oCaV call 0 0 5 109 4 0 0, oStI 4, oLdI 4], tIf (fun a => a = 0) 7 6),
  ([oLdA 0, oLdI 3, oLdI 4, oCaV call 0 0 5 111 3 0 0], tRI .int 0 0),
  ([oInc 3 (1)], tGo 4),
  ([oI (-3)], tRI .int 0 0)]
def T_X5_kindFor (call : ip_Cl) : List ip_B := [
  ([oLdA 0, oLdI 1, oCaV call 0 0 5 102 2 0 0], tIf (fun a => a = 0) 2 1),
  ([oLdI 2, oI (1), oI (30), oCal call 0 0 95 3 0 0], tIf (fun a => a = 0) 2 3),
  ([oI (-1)], tRI .int 0 0),
  ([oI (0), oStI 3, oI (-1), oStI 4, oI (0), oStI 5], tGo 4),
  ([oLdI 5, oI (6)], tCm (fun a b => a < b) 5 8),
  ([oLdA 0, oGet 5 4, oLdA 0, oGet 5 0, oLdI 1, oLdA 0, oGet 5 0, oGet 1 1, oCaV call 0 0 4 39 4 0 0, oLdA 0, oGet 5 4, oLdI 5, oPut 4 4 .int, oLdA 0, oGet 5 4, oLdI 2, oCaV call 0 0 4 49 2 0 0, oLdA 0, oGet 5 4, oGet 4 6, oLdI 4], tCm (fun a b => b < a) 6 7),
  ([oLdA 0, oGet 5 4, oGet 4 6, oStI 4, oLdI 5, oStI 3], tGo 7),
  ([oInc 5 (1)], tGo 4),
  ([oLdI 3], tRI .int 0 0)]
def T_X5_turnedFor (call : ip_Cl) : List ip_B := [
  ([oLdA 0, oLdI 1, oCaV call 0 0 5 102 2 0 0], tIf (fun a => a = 0) 2 1),
  ([oLdI 2, oI (1), oI (30), oCal call 0 0 95 3 0 0], tIf (fun a => a = 0) 2 3),
  ([oI (-1)], tRI .int 0 0),
  ([oLdA 0, oGet 5 4, oLdA 0, oGet 5 0, oLdI 1, oLdA 0, oGet 5 0, oGet 1 1, oCaV call 0 0 4 39 4 0 0, oLdA 0, oGet 5 4, oLdI 2, oCaV call 0 0 4 49 2 0 0, oI (-3), oStI 3, oLdA 0, oGet 5 4, oGet 4 6, oStI 4, oI (0), oStI 5], tGo 4),
  ([oLdI 5, oI (8)], tCm (fun a b => a < b) 5 8),
  ([oLdA 0, oGet 5 4, oLdA 0, oGet 5 0, oLdI 1, oLdA 0, oGet 5 0, oGet 1 1, oI (1), oLdI 5, oBI (fun a b => a <<< (b &&& 31)), oBI (fun a b => a ^^^ b), oCaV call 0 0 4 39 4 0 0, oLdA 0, oGet 5 4, oLdI 2, oCaV call 0 0 4 49 2 0 0, oLdA 0, oGet 5 4, oGet 4 6, oLdI 4], tCm (fun a b => b < a) 6 7),
  ([oLdA 0, oGet 5 4, oGet 4 6, oStI 4, oLdI 5, oStI 3], tGo 7),
  ([oInc 5 (1)], tGo 4),
  ([oLdI 3], tRI .int 0 0)]
def T_X5_loadFor (call : ip_Cl) : List ip_B := [
  ([oLdA 0, oLdI 1, oCaV call 0 0 5 102 2 0 0], tIf (fun a => a = 0) 2 1),
  ([oLdI 2, oI (1), oI (30), oCal call 0 0 95 3 0 0], tIf (fun a => a = 0) 2 3),
  ([oI (-1)], tRI .int 0 0),
  ([oI (99), oStI 3], tGo 4),
  ([oLdI 3], tIf (fun a => a < 0) 8 5),
  ([oLdA 0, oGet 5 4, oLdA 0, oGet 5 0, oLdI 1, oLdA 0, oGet 5 0, oGet 1 1, oCaV call 0 0 4 39 4 0 0, oLdA 0, oGet 5 4, oLdI 3, oPut 4 5 .int, oLdA 0, oGet 5 4, oLdI 2, oCaV call 0 0 4 49 2 0 0, oLdA 0, oGet 5 4, oCaV call 0 0 4 41 1 0 0], tIf (fun a => a = 0) 7 6),
  ([oLdI 3], tRI .int 0 0),
  ([oInc 3 (-1)], tGo 4),
  ([oI (-3)], tRI .int 0 0)]
def T_X5_both (call : ip_Cl) : List ip_B := [
  ([oLdA 0, oLdI 1, oCaV call 0 0 5 102 2 0 0], tIf (fun a => a = 0) 3 1),
  ([oLdA 0, oLdI 2, oCaV call 0 0 5 102 2 0 0], tIf (fun a => a = 0) 3 2),
  ([oLdI 1, oLdI 2], tCm (fun a b => a = b) 3 4),
  ([oI (-1)], tRI .int 0 0),
  ([oLdI 3], tSw [(0, 5), (1, 6)] 7),
  ([oLdA 0, oGet 5 0, oGet 1 8, oLdI 1, oAldI, oLdA 0, oGet 5 0, oGet 1 8, oLdI 2, oAldI, oBI (fun a b => a &&& b), oCal call 0 0 227 1 0 0, oLdA 0, oGet 5 0, oGet 1 9, oLdI 1, oAldI, oLdA 0, oGet 5 0, oGet 1 9, oLdI 2, oAldI, oBI (fun a b => a &&& b), oCal call 0 0 227 1 0 0, oBI (fun a b => a + b)], tRI .int 0 0),
  ([oLdA 0, oGet 5 0, oGet 1 8, oLdI 1, oAldI, oLdA 0, oGet 5 0, oGet 1 9, oLdI 2, oAldI, oBI (fun a b => a &&& b), oCal call 0 0 227 1 0 0, oLdA 0, oGet 5 0, oGet 1 9, oLdI 1, oAldI, oLdA 0, oGet 5 0, oGet 1 8, oLdI 2, oAldI, oBI (fun a b => a &&& b), oCal call 0 0 227 1 0 0, oBI (fun a b => a + b)], tRI .int 0 0),
  ([oI (-1)], tRI .int 0 0)]
def T_X5_fits (call : ip_Cl) : List ip_B := [
  ([oLdI 1, oCal call 0 0 99 1 0 0], tIf (fun a => a = 0) 3 1),
  ([oLdA 0, oLdI 2, oCaV call 0 0 5 102 2 0 0], tIf (fun a => a = 0) 3 2),
  ([oLdI 3, oI (0), oI (1), oCal call 0 0 95 3 0 0], tIf (fun a => a = 0) 3 4),
  ([oI (-1)], tRI .int 0 0),
  ([oLdA 0, oGet 5 9, oLdI 1, oAldA, oStA 4, oLdA 4], tNu 5 6),
  ([oI (-11)], tRI .int 0 0),
  ([oLdA 0, oLdI 2, oLdA 4, oCaV call 0 0 5 110 3 0 0, oStI 5, oI (0), oStI 6, oI (0), oStI 7], tGo 7),
  ([oLdI 7, oI (256)], tCm (fun a b => a < b) 8 13),
  ([oLdI 5, oLdA 0, oGet 5 0, oLdI 2, oLdI 7, oCaV call 0 0 1 12 3 0 0, oCal call 0 0 104 2 0 0], tIf (fun a => a = 0) 12 9),
  ([oLdI 3, oI (1)], tCm (fun a b => a = b) 10 11),
  ([oLdI 7], tRI .int 0 0),
  ([oInc 6 (1)], tGo 12),
  ([oInc 7 (1)], tGo 7),
  ([oLdI 3, oI (1)], tCm (fun a b => a = b) 14 15),
  ([oI (-3)], tGo 16),
  ([oLdI 6], tGo 16),
  ([], tRI .int 0 0)]
def T_X5_odds (call : ip_Cl) : List ip_B := [
  ([oLdI 1, oI (0), oI (8), oCal call 0 0 95 3 0 0], tIf (fun a => a = 0) 3 1),
  ([oLdI 2, oI (0), oLdI 1, oCal call 0 0 95 3 0 0], tIf (fun a => a = 0) 3 2),
  ([oLdI 3, oI (0), oI (1), oCal call 0 0 95 3 0 0], tIf (fun a => a = 0) 3 4),
  ([oL (-1)], tRL 0 0),
  ([oLdA 0, oGet 5 0, oGet 1 0, oI (3), oAldI, oStI 4, oLdI 1, oLdI 2, oCal call 0 0 115 2 0 0, oStL 5, oL 1, oStL 7, oI (0), oStI 9], tGo 5),
  ([oLdI 9, oLdI 1], tCm (fun a b => a < b) 6 10),
  ([oLdL 5, oLdI 9, oLdI 2], tCm (fun a b => a < b) 7 8),
  ([oLdI 4, oIL], tGo 9),
  ([oI (100), oLdI 4, oBI (fun a b => a - b), oIL], tGo 9),
  ([oBL (fun a b => a * b), oStL 5, oLdL 7, oL (100), oBL (fun a b => a * b), oStL 7, oInc 9 (1)], tGo 5),
  ([oLdL 5, oLdL 7, oLdI 3, oCal call 0 0 116 3 0 0], tRL 0 0)]
def T_X5_hope (call : ip_Cl) : List ip_B := [
  ([oLdI 1, oI (0), oI (99), oCal call 0 0 95 3 0 0], tIf (fun a => a = 0) 2 1),
  ([oLdI 2, oI (0), oI (1), oCal call 0 0 95 3 0 0], tIf (fun a => a = 0) 2 3),
  ([oL (-1)], tRL 0 0),
  ([oLdI 1, oIL, oLdA 0, oGet 5 0, oGet 1 0, oI (3), oAldI, oIL, oBL (fun a b => a * b), oL (100), oLdI 2, oCal call 0 0 116 3 0 0], tRL 0 0)]
def T_X5_prove (call : ip_Cl) : List ip_B := [
  ([oLdA 0, oLdI 1, oCaV call 0 0 5 102 2 0 0], tIf (fun a => a = 0) 2 1),
  ([oLdI 2, oI (1), oI (10), oCal call 0 0 95 3 0 0], tIf (fun a => a = 0) 2 3),
  ([oI (-1)], tRI .int 0 0),
  ([oLdA 0, oGet 5 1, oLdA 0, oGet 5 0, oCaV call 0 0 1 9 2 0 0, oI (0), oStI 3], tGo 4),
  ([oLdI 3, oLdI 2], tCm (fun a b => a < b) 5 9),
  ([oLdA 0, oGet 5 1, oLdA 0, oGet 5 4, oCaV call 0 0 1 13 2 0 0, oI (0), oStI 4], tGo 6),
  ([oLdI 4, oI (3)], tCm (fun a b => a < b) 7 8),
  ([oLdA 0, oGet 5 7, oLdI 3, oI (3), oBI (fun a b => a * b), oLdI 4, oBI (fun a b => a + b), oLdA 0, oGet 5 1, oLdI 1, oLdI 4, oCaV call 0 0 1 19 3 0 0, oAstI, oInc 4 (1)], tGo 6),
  ([oInc 3 (1)], tGo 4),
  ([oLdA 0, oLdI 2, oPut 5 8 .int, oLdI 2], tRI .int 0 0)]
def T_X5_row (call : ip_Cl) : List ip_B := [
  ([oLdA 0, oLdI 1, oLdI 2, oCaV call 0 0 5 103 3 0 0], tIf (fun a => a = 0) 2 1),
  ([oLdA 0, oGet 5 7, oLdI 1, oI (3), oBI (fun a b => a * b), oLdI 2, oBI (fun a b => a + b), oAldI], tGo 3),
  ([oI (-9)], tGo 3),
  ([], tRI .int 0 0)]
def T_X5_alterRow (call : ip_Cl) : List ip_B := [
  ([oLdA 0, oLdI 1, oLdI 2, oCaV call 0 0 5 103 3 0 0], tIf (fun a => a = 0) 1 2),
  ([oI (-9)], tRI .int 0 0),
  ([oLdA 0, oGet 5 7, oLdI 1, oI (3), oBI (fun a b => a * b), oLdI 2, oBI (fun a b => a + b), oAldI, oStI 4, oLdA 0, oGet 5 7, oLdI 1, oI (3), oBI (fun a b => a * b), oLdI 2, oBI (fun a b => a + b), oLdI 3, oAstI, oLdI 4], tRI .int 0 0)]
def T_X5_judge (call : ip_Cl) : List ip_B := [
  ([oLdA 0, oLdI 1, oCaV call 0 0 5 102 2 0 0], tIf (fun a => a = 0) 1 2),
  ([oI (-1)], tRI .int 0 0),
  ([oLdA 0, oGet 5 1, oLdA 0, oGet 5 0, oCaV call 0 0 1 9 2 0 0, oI (0), oStI 2], tGo 3),
  ([oLdI 2, oLdA 0, oGet 5 8], tCm (fun a b => a < b) 4 10),
  ([oLdA 0, oGet 5 1, oLdA 0, oGet 5 4, oCaV call 0 0 1 13 2 0 0, oI (0), oStI 3], tGo 5),
  ([oLdI 3, oI (3)], tCm (fun a b => a < b) 6 9),
  ([oLdA 0, oGet 5 7, oLdI 2, oI (3), oBI (fun a b => a * b), oLdI 3, oBI (fun a b => a + b), oAldI, oLdA 0, oGet 5 1, oLdI 1, oLdI 3, oCaV call 0 0 1 19 3 0 0], tCm (fun a b => a = b) 8 7),
  ([oLdI 2, oI (1), oBI (fun a b => a + b)], tRI .int 0 0),
  ([oInc 3 (1)], tGo 5),
  ([oInc 2 (1)], tGo 3),
  ([oI (0)], tRI .int 0 0)]
def T_X5_minds (call : ip_Cl) : List ip_B := [
  ([oLdI 1, oCal call 0 0 99 1 0 0], tIf (fun a => a = 0) 4 1),
  ([oLdA 0, oLdI 3, oCaV call 0 0 5 102 2 0 0], tIf (fun a => a = 0) 4 2),
  ([oLdI 4, oI (0), oI (8), oCal call 0 0 95 3 0 0], tIf (fun a => a = 0) 4 3),
  ([oLdI 3, oLdI 4, oBI (fun a b => a + b), oLdA 0, oGet 5 0, oGet 1 4], tCm (fun a b => b < a) 4 5),
  ([oI (-1)], tRI .int 0 0),
  ([oLdA 0, oGet 5 9, oLdI 1, oAldA, oStA 5, oLdA 5], tNu 6 7),
  ([oI (-11)], tRI .int 0 0),
  ([oLdA 5, oGet 2 0], tIf (fun a => a = 0) 9 8),
  ([oI (-13)], tRI .int 0 0),
  ([oLdI 2, oI (0), oLdA 5, oGet 2 1, oLen, oCal call 0 0 95 3 0 0], tIf (fun a => a = 0) 11 10),
  ([oLdI 4, oLdA 5, oGet 2 1, oLen, oLdI 2, oBI (fun a b => a - b)], tCm (fun a b => b < a) 11 12),
  ([oI (-12)], tRI .int 0 0),
  ([oI (0), oStI 6], tGo 13),
  ([oLdI 6, oLdI 4], tCm (fun a b => a < b) 14 15),
  ([oLdA 0, oGet 5 0, oGet 1 6, oLdI 3, oLdI 6, oBI (fun a b => a + b), oI (0), oI (99), oLdA 5, oGet 2 1, oLdI 2, oLdI 6, oBI (fun a b => a + b), oAldI, oMin 0 0, oMax 0 0, oAstI, oInc 6 (1)], tGo 13),
  ([oLdI 4], tRI .int 0 0)]
def T_X5_sheet (call : ip_Cl) : List ip_B := [
  ([oLdI 1, oCal call 2 42 99 1 0 0], tIf (fun a => a = 0) 1 2),
  ([oI (-1)], tRI .int 2 42),
  ([oLdI 2, oI (-1)], tCm (fun a b => a = b) 3 4),
  ([oLdA 0, oGet 5 9, oLdI 1, oNul, oAstA, oI (1)], tRI .int 2 42),
  ([oLdI 2, oCal call 2 42 100 1 0 0], tIf (fun a => a = 0) 6 5),
  ([oLdI 3, oI (40)], tCm (fun a b => b < a) 6 7),
  ([oI (-1)], tRI .int 2 42),
  ([oLdI 3], tIf (fun a => a < 0) 8 9),
  ([oI (-14)], tRI .int 2 42),
  ([oLdA 0, oGet 5 9, oLdI 1, oNew 2 42 2 [.int 0, .null], oDup, oLdI 2, oLdI 3, oCaV call 2 42 2 20 3 1 40, oAstA, oI (1)], tRI .int 2 42)]
def T_X5_put (call : ip_Cl) : List ip_B := [
  ([oLdI 1, oCal call 0 0 99 1 0 0], tIf (fun a => a = 0) 1 2),
  ([oI (-1)], tRI .int 0 0),
  ([oLdA 0, oGet 5 9, oLdI 1, oAldA, oStA 4, oLdA 4], tNu 3 4),
  ([oI (-11)], tRI .int 0 0),
  ([oLdI 2, oI (0), oLdA 4, oGet 2 1, oLen, oI (1), oBI (fun a b => a - b), oCal call 0 0 95 3 0 0], tIf (fun a => a = 0) 5 6),
  ([oI (-12)], tRI .int 0 0),
  ([oLdA 4, oGet 2 1, oLdI 2, oLdA 4, oLdI 3, oCaV call 0 0 2 21 2 0 0, oAstI, oI (1)], tRI .int 0 0)]
def T_X5_item (call : ip_Cl) : List ip_B := [
  ([oLdI 1, oCal call 0 0 99 1 0 0], tIf (fun a => a = 0) 2 1),
  ([oLdI 2, oCal call 0 0 100 1 0 0], tIf (fun a => a = 0) 2 3),
  ([oI (-1)], tRI .int 0 0),
  ([oLdA 0, oGet 5 9, oLdI 1, oAldA, oStA 4, oLdA 4], tNu 4 5),
  ([oI (-11)], tRI .int 0 0),
  ([oLdA 4, oGet 2 0, oLdI 2], tCm (fun a b => a = b) 7 6),
  ([oI (-13)], tRI .int 0 0),
  ([oLdI 3, oI (0), oLdA 4, oGet 2 1, oLen, oI (1), oBI (fun a b => a - b), oCal call 0 0 95 3 0 0], tIf (fun a => a = 0) 9 8),
  ([oLdA 4, oGet 2 1, oLdI 3, oAldI], tGo 10),
  ([oI (-12)], tGo 10),
  ([], tRI .int 0 0)]
def T_X5_shelf (call : ip_Cl) : List ip_B := [
  ([oLdI 1, oCal call 0 0 101 1 0 0], tIf (fun a => a = 0) 1 2),
  ([oI (-1)], tRI .int 0 0),
  ([oLdI 2], tSw [(0, 3), (1, 6), (2, 9)] 10),
  ([oLdA 0, oLdI 3, oCaV call 0 0 5 102 2 0 0], tIf (fun a => a = 0) 4 5),
  ([oI (-1)], tRI .int 0 0),
  ([oLdA 0, oLdI 1, oLdI 3, oNul, oCaV call 0 0 5 107 4 0 0], tRI .int 0 0),
  ([oLdI 3, oCal call 0 0 99 1 0 0], tIf (fun a => a = 0) 7 8),
  ([oI (-1)], tRI .int 0 0),
  ([oLdA 0, oLdI 1, oI (-1), oLdA 0, oGet 5 9, oLdI 3, oAldA, oCaV call 0 0 5 107 4 0 0], tRI .int 0 0),
  ([oLdA 0, oLdI 1, oI (-1), oNul, oCaV call 0 0 5 107 4 0 0], tRI .int 0 0),
  ([oI (-1)], tRI .int 0 0)]
def T_X5_taken (call : ip_Cl) : List ip_B := [
  ([oLdI 2, oCal call 0 0 96 1 0 0, oStI 3, oLdI 1, oCal call 0 0 101 1 0 0], tIf (fun a => a = 0) 3 1),
  ([oLdI 3], tIf (fun a => a = 0) 2 4),
  ([oLdI 2, oI (10), oBI (fun a b => a - b), oCal call 0 0 100 1 0 0], tIf (fun a => a = 0) 3 4),
  ([oI (-1)], tRI .int 0 0),
  ([oLdA 0, oGet 5 10, oLdI 1, oAldA, oStA 4, oLdA 4], tNu 10 5),
  ([oLdI 3], tIf (fun a => a = 0) 6 8),
  ([oLdA 4, oGet 2 0, oLdI 2, oI (10), oBI (fun a b => a - b)], tCm (fun a b => a = b) 7 8),
  ([oLdA 4, oGet 2 1, oLen], tGo 9),
  ([oI (-13)], tGo 9),
  ([], tRI .int 0 0),
  ([oLdA 0, oGet 5 11, oLdI 1, oAldI, oStI 5, oLdA 0, oLdI 5, oCaV call 0 0 5 102 2 0 0], tIf (fun a => a = 0) 11 12),
  ([oI (-11)], tRI .int 0 0),
  ([oLdI 3], tIf (fun a => a = 0) 15 13),
  ([oLdA 0, oGet 5 0, oGet 1 5, oLdI 5, oAldI, oLdI 2, oCal call 0 0 106 2 0 0], tIf (fun a => a = 0) 15 14),
  ([oLdI 5], tGo 16),
  ([oI (-13)], tGo 16),
  ([], tRI .int 0 0)]
def T_X5_act (call : ip_Cl) : List ip_B := [
  ([oLdA 0, oGet 5 6, oCaV call 0 0 0 1 1 0 0, oLdI 1, oCal call 0 0 101 1 0 0], tIf (fun a => a = 0) 3 1),
  ([oLdI 2, oI (0), oI (3), oCal call 0 0 95 3 0 0], tIf (fun a => a = 0) 3 2),
  ([oLdA 0, oLdA 0, oGet 5 11, oLdI 1, oAldI, oCaV call 0 0 5 102 2 0 0], tIf (fun a => a = 0) 3 4),
  ([oI (0)], tRI .int 0 0),
  ([oLdA 0, oGet 5 11, oLdI 1, oAldI, oStI 4, oLdA 0, oGet 5 6, oLdA 0, oGet 5 0, oGet 1 5, oLdI 4, oAldI, oLdI 4, oLdA 0, oGet 5 0, oGet 1 7, oLdI 4, oAldI, oLdI 2, oLdI 3, oCaV call 0 0 0 2 6 0 0], tRI .int 0 0)]
def T_X5_trace (call : ip_Cl) : List ip_B := [
  ([oLdI 1, oI (0), oLdA 0, oGet 5 6, oGet 0 1, oI (1), oBI (fun a b => a - b), oCal call 0 0 95 3 0 0], tIf (fun a => a = 0) 2 1),
  ([oLdA 0, oGet 5 6, oGet 0 0, oLdI 1, oAldI], tGo 3),
  ([oI (-3)], tGo 3),
  ([], tRI .int 0 0)]
def T_X5_many (call : ip_Cl) : List ip_B := [
  ([oLdI 1], tSw [(0, 1), (1, 2), (2, 3), (3, 4), (4, 5), (5, 6), (6, 7)] 8),
  ([oLdA 0, oGet 5 0, oGet 1 4], tRI .int 0 0),
  ([oLdA 0, oGet 5 0, oCaV call 0 0 1 16 1 0 0, oCal call 0 0 227 1 0 0], tRI .int 0 0),
  ([oLdA 0, oGet 5 0, oGet 1 10, oCal call 0 0 227 1 0 0], tRI .int 0 0),
  ([oLdA 0, oGet 5 0, oGet 1 1, oCal call 0 0 227 1 0 0], tRI .int 0 0),
  ([oLdA 0, oGet 5 8], tRI .int 0 0),
  ([oLdA 0, oGet 5 5, oGet 3 1], tRI .int 0 0),
  ([oLdA 0, oGet 5 6, oGet 0 1], tRI .int 0 0),
  ([oI (-1)], tRI .int 0 0)]
def T_X5_keep (call : ip_Cl) : List ip_B := [
  ([oLdA 0, oGet 5 2, oLdA 0, oGet 5 0, oCaV call 0 0 1 9 2 0 0, oLdA 0, oI (1), oPut 5 3 .boolean, oI (1)], tRI .int 0 0)]
def T_X5_again (call : ip_Cl) : List ip_B := [
  ([oLdA 0, oGet 5 3], tIf (fun a => a = 0) 1 2),
  ([oI (-3)], tRI .int 0 0),
  ([oLdA 0, oGet 5 0, oLdA 0, oGet 5 2, oCaV call 0 0 1 9 2 0 0, oLdA 0, oGet 5 0, oGet 1 4], tRI .int 0 0)]
def T_X5_within (call : ip_Cl) : List ip_B := [
  ([oLdI 0, oLdI 1], tCm (fun a b => a < b) 3 1),
  ([oLdI 0, oLdI 2], tCm (fun a b => b < a) 3 2),
  ([oI (1)], tGo 4),
  ([oI (0)], tGo 4),
  ([], tRI .boolean 0 0)]
def T_X5_isKind (call : ip_Cl) : List ip_B := [
  ([oLdI 0, oI (0), oI (5), oCal call 0 0 95 3 0 0], tRI .boolean 0 0)]
def T_X5_isWeight (call : ip_Cl) : List ip_B := [
  ([oLdI 0, oI (0), oI (99), oCal call 0 0 95 3 0 0], tRI .boolean 0 0)]
def T_X5_isFactSet (call : ip_Cl) : List ip_B := [
  ([oLdI 0, oI (0), oI (255), oCal call 0 0 95 3 0 0], tRI .boolean 0 0)]
def T_X5_isSheet (call : ip_Cl) : List ip_B := [
  ([oLdI 0, oI (0), oI (3), oCal call 0 0 95 3 0 0], tRI .boolean 0 0)]
def T_X5_isSort (call : ip_Cl) : List ip_B := [
  ([oLdI 0, oI (0), oI (3), oCal call 0 0 95 3 0 0], tRI .boolean 0 0)]
def T_X5_isShelf (call : ip_Cl) : List ip_B := [
  ([oLdI 0, oI (0), oI (3), oCal call 0 0 95 3 0 0], tRI .boolean 0 0)]
def T_X5_isWalker (call : ip_Cl) : List ip_B := [
  ([oLdI 1, oI (0), oLdA 0, oGet 5 0, oGet 1 4, oI (1), oBI (fun a b => a - b), oCal call 0 0 95 3 0 0], tRI .boolean 0 0)]
def T_X5_isRowItem (call : ip_Cl) : List ip_B := [
  ([oLdI 1, oI (0), oLdA 0, oGet 5 8, oI (1), oBI (fun a b => a - b), oCal call 0 0 95 3 0 0], tIf (fun a => a = 0) 3 1),
  ([oLdI 2, oI (0), oI (2), oCal call 0 0 95 3 0 0], tIf (fun a => a = 0) 3 2),
  ([oI (1)], tGo 4),
  ([oI (0)], tGo 4),
  ([], tRI .boolean 0 0)]
def T_X5_hasBit (call : ip_Cl) : List ip_B := [
  ([oLdI 0, oLdI 1, oBI (fun a b => a >>> (b &&& 31)), oI (1), oBI (fun a b => a &&& b), oI (1)], tCm (fun a b => a = b) 1 2),
  ([oI (1)], tGo 3),
  ([oI (0)], tGo 3),
  ([], tRI .boolean 0 0)]
def T_X5_withBit (call : ip_Cl) : List ip_B := [
  ([oLdI 2], tIf (fun a => a = 0) 2 1),
  ([oLdI 0, oI (1), oLdI 1, oBI (fun a b => a <<< (b &&& 31)), oBI (fun a b => a ||| b)], tGo 3),
  ([oLdI 0, oI (1), oLdI 1, oBI (fun a b => a <<< (b &&& 31)), oI (-1), oBI (fun a b => a ^^^ b), oBI (fun a b => a &&& b)], tGo 3),
  ([], tRI .int 0 0)]
def T_X5_isUnder (call : ip_Cl) : List ip_B := [
  ([oLdI 0, oStI 2, oI (0), oStI 3], tGo 1),
  ([oLdI 3, oI (6)], tCm (fun a b => a < b) 2 6),
  ([oLdI 2, oCal call 0 0 96 1 0 0], tIf (fun a => a = 0) 6 3),
  ([oLdI 2, oLdI 1], tCm (fun a b => a = b) 4 5),
  ([oI (1)], tRI .boolean 0 0),
  ([oRef 3, oLdI 2, oAldI, oStI 2, oInc 3 (1)], tGo 1),
  ([oI (0)], tRI .boolean 0 0)]
def T_X5_putOnShelf (call : ip_Cl) : List ip_B := [
  ([oLdA 0, oGet 5 11, oLdI 1, oLdI 2, oAstI, oLdA 0, oGet 5 10, oLdI 1, oLdA 3, oAstA, oI (1)], tRI .int 0 0)]
def T_X5_stepsToRest (call : ip_Cl) : List ip_B := [
  ([oLdA 0, oGet 5 4, oLdA 0, oGet 5 0, oLdI 1, oLdA 0, oGet 5 0, oGet 1 1, oCaV call 0 0 4 39 4 0 0, oI (0), oStI 2], tGo 1),
  ([oLdI 2, oI (60)], tCm (fun a b => a < b) 2 4),
  ([oLdA 0, oGet 5 4, oCaV call 0 0 4 42 1 0 0], tIf (fun a => a = 0) 3 4),
  ([oLdA 0, oGet 5 4, oCaV call 0 0 4 48 1 0 0, oInc 2 (1)], tGo 1),
  ([oLdI 2], tRI .int 0 0)]
def T_X5_rightsThatCross (call : ip_Cl) : List ip_B := [
  ([oI (0), oStI 4, oI (0), oStI 5], tGo 1),
  ([oLdI 5, oLdI 3], tCm (fun a b => b < a) 3 2),
  ([oLdA 0, oGet 5 4, oLdA 0, oGet 5 0, oLdI 1, oLdA 0, oGet 5 0, oGet 1 1, oCaV call 0 0 4 39 4 0 0, oLdA 0, oGet 5 4, oLdI 5, oLdI 3, oLdI 5, oBI (fun a b => a - b), oCaV call 0 0 4 40 3 0 0, oLdA 0, oGet 5 4, oLdI 2, oCaV call 0 0 4 49 2 0 0, oLdI 4, oLdI 5, oLdA 0, oGet 5 4, oCaV call 0 0 4 41 1 0 0, oCal call 0 0 105 3 0 0, oStI 4, oInc 5 (1)], tGo 1),
  ([oLdI 4], tRI .int 0 0)]
def T_X5_rightsAsTold (call : ip_Cl) : List ip_B := [
  ([oI (0), oStI 3, oLdA 0, oGet 5 0, oLdI 1, oCaV call 0 0 1 11 2 0 0, oStI 4, oI (0), oStI 5], tGo 1),
  ([oLdI 5, oLdI 4], tCm (fun a b => b < a) 3 2),
  ([oLdA 0, oGet 5 4, oLdA 0, oGet 5 0, oLdI 1, oLdA 0, oGet 5 0, oGet 1 1, oCaV call 0 0 4 39 4 0 0, oLdA 0, oGet 5 4, oLdI 5, oLdI 4, oLdI 5, oBI (fun a b => a - b), oCaV call 0 0 4 40 3 0 0, oLdI 3, oLdI 5, oLdA 0, oGet 5 4, oLdA 2, oCaV call 0 0 4 50 2 0 0, oCal call 0 0 105 3 0 0, oStI 3, oInc 5 (1)], tGo 1),
  ([oLdI 3], tRI .int 0 0)]
def T_X5_leastSaying (call : ip_Cl) : List ip_B := [
  ([oI (0), oStI 3], tGo 1),
  ([oLdI 3, oI (256)], tCm (fun a b => a < b) 2 5),
  ([oLdA 0, oLdI 3, oLdI 1, oLdI 2, oCaV call 0 0 5 112 4 0 0], tIf (fun a => a = 0) 4 3),
  ([oLdI 3, oI (256), oBI (fun a b => a * b), oLdA 0, oLdI 3, oLdI 1, oLdI 2, oCaV call 0 0 5 113 4 0 0, oBI (fun a b => a + b)], tRI .int 0 0),
  ([oInc 3 (1)], tGo 1),
  ([oI (-3)], tRI .int 0 0)]
def T_X5_mayBeYes (call : ip_Cl) : List ip_B := [
  ([oLdI 2, oLdI 1, oCal call 0 0 227 1 0 0, oBI (fun a b => a - b), oStI 4, oI (255), oLdI 1, oI (-1), oBI (fun a b => a ^^^ b), oBI (fun a b => a &&& b), oStI 5, oLdI 5, oLdA 0, oGet 5 0, oGet 1 1, oBI (fun a b => a &&& b), oCal call 0 0 227 1 0 0, oStI 6, oLdI 5, oLdA 0, oGet 5 0, oGet 1 1, oI (-1), oBI (fun a b => a ^^^ b), oBI (fun a b => a &&& b), oCal call 0 0 227 1 0 0, oStI 7, oLdI 1, oLdA 0, oGet 5 0, oGet 1 1, oBI (fun a b => a &&& b), oCal call 0 0 227 1 0 0, oStI 8, oI (0), oLdI 4, oLdI 6, oBI (fun a b => a - b), oMax 0 0, oStI 9], tGo 1),
  ([oLdI 9, oLdI 4, oLdI 7, oMin 0 0], tCm (fun a b => b < a) 5 2),
  ([oLdI 3, oLdI 8, oLdI 9, oBI (fun a b => a + b), oCal call 0 0 104 2 0 0], tIf (fun a => a = 0) 4 3),
  ([oI (1)], tRI .boolean 0 0),
  ([oInc 9 (1)], tGo 1),
  ([oI (0)], tRI .boolean 0 0)]
def T_X5_leastNo (call : ip_Cl) : List ip_B := [
  ([oLdI 2, oLdI 1, oCal call 0 0 227 1 0 0, oBI (fun a b => a - b), oStI 4, oI (0), oStI 5], tGo 1),
  ([oLdI 5, oI (256)], tCm (fun a b => a < b) 2 7),
  ([oLdI 1, oLdI 5, oBI (fun a b => a &&& b)], tIf (fun a => a = 0) 3 6),
  ([oLdI 5, oCal call 0 0 227 1 0 0, oLdI 4], tCm (fun a b => a = b) 4 6),
  ([oLdI 3, oLdI 1, oLdI 5, oLdA 0, oGet 5 0, oGet 1 1, oCal call 0 0 114 3 0 0, oCal call 0 0 104 2 0 0], tIf (fun a => a = 0) 6 5),
  ([oLdI 5], tRI .int 0 0),
  ([oInc 5 (1)], tGo 1),
  ([oI (0)], tRI .int 0 0)]
def T_X5_rightOf (call : ip_Cl) : List ip_B := [
  ([oLdI 0, oLdI 2, oBI (fun a b => a &&& b), oCal call 0 0 227 1 0 0, oLdI 1, oLdI 2, oI (-1), oBI (fun a b => a ^^^ b), oBI (fun a b => a &&& b), oCal call 0 0 227 1 0 0, oBI (fun a b => a + b)], tRI .int 0 0)]
def T_X5_choices (call : ip_Cl) : List ip_B := [
  ([oL 1, oStL 2, oI (1), oStI 4], tGo 1),
  ([oLdI 4, oLdI 1], tCm (fun a b => b < a) 3 2),
  ([oLdL 2, oLdI 0, oLdI 1, oBI (fun a b => a - b), oLdI 4, oBI (fun a b => a + b), oIL, oBL (fun a b => a * b), oLdI 4, oIL, oDL (fun a b => a / b), oStL 2, oInc 4 (1)], tGo 1),
  ([oLdL 2], tRL 0 0)]
def T_X5_partOf (call : ip_Cl) : List ip_B := [
  ([oLdL 0, oLdL 2, oCal call 0 0 117 2 0 0, oStL 5, oLdL 5, oL 0, oCmpL], tIf (fun a => a = 0) 1 2),
  ([oL 0], tRL 0 0),
  ([oLdI 4], tIf (fun a => a = 0) 3 4),
  ([oLdL 0], tGo 5),
  ([oLdL 2], tGo 5),
  ([oLdL 5, oDL (fun a b => a / b)], tRL 0 0)]
def T_X5_commonDivisor (call : ip_Cl) : List ip_B := [
  ([oLdL 0, oStL 4, oLdL 2, oStL 6, oI (0), oStI 8], tGo 1),
  ([oLdI 8, oI (100)], tCm (fun a b => a < b) 2 4),
  ([oLdL 6, oL 0, oCmpL], tIf (fun a => a = 0) 4 3),
  ([oLdL 4, oLdL 6, oDL (fun a b => a - a / b * b), oStL 9, oLdL 6, oStL 4, oLdL 9, oStL 6, oInc 8 (1)], tGo 1),
  ([oLdL 4], tRL 0 0)]
def T_X6_init (call : ip_Cl) : List ip_B := [
  ([oLdA 0, oObj, oLdA 0, oI (56), oNwA 14 694 .int (fun N => (N, .inl (fun _ => 0))), oPut 6 0 (.array .int), oLdA 0, oI (56), oNwA 14 694 .int (fun N => (N, .inl (fun _ => 0))), oPut 6 1 (.array .int), oLdA 0, oI (56), oNwA 14 694 .int (fun N => (N, .inl (fun _ => 0))), oPut 6 2 (.array .int), oLdA 0, oI (56), oNwA 14 694 .int (fun N => (N, .inl (fun _ => 0))), oPut 6 3 (.array .int), oLdA 0, oI (200), oNwA 14 694 .int (fun N => (N, .inl (fun _ => 0))), oPut 6 5 (.array .int), oLdA 0, oI (30), oNwA 14 694 .int (fun N => (N, .inl (fun _ => 0))), oPut 6 13 (.array .int), oLdA 0, oI (30), oNwA 14 694 .int (fun N => (N, .inl (fun _ => 0))), oPut 6 14 (.array .int), oLdA 0, oI (4), oNwA 14 694 .int (fun N => (N, .inl (fun _ => 0))), oDup, oI (0), oI (-1), oAstI, oDup, oI (1), oI (-1), oAstI, oDup, oI (2), oI (-1), oAstI, oDup, oI (3), oI (-1), oAstI, oPut 6 16 (.array .int), oLdA 0, oI (4), oNwA 14 694 .int (fun N => (N, .inl (fun _ => 0))), oPut 6 17 (.array .int), oLdA 0, oI (160), oNwA 14 694 .long (fun N => (N, .inr (.inl (fun _ => 0)))), oPut 6 18 (.array .long), oLdA 0, oI (4), oNwA 14 694 .int (fun N => (N, .inl (fun _ => 0))), oDup, oI (0), oI (-1), oAstI, oDup, oI (1), oI (-1), oAstI, oDup, oI (2), oI (-1), oAstI, oDup, oI (3), oI (-1), oAstI, oPut 6 19 (.array .int), oLdA 0, oI (4), oNwA 14 694 .int (fun N => (N, .inl (fun _ => 0))), oPut 6 20 (.array .int), oLdA 0, oI (4), oNwA 14 694 .int (fun N => (N, .inl (fun _ => 0))), oPut 6 21 (.array .int), oLdA 0, oI (30), oNwA 14 694 .int (fun N => (N, .inl (fun _ => 0))), oPut 6 25 (.array .int), oLdA 0, oGet 6 0, oCal call 14 694 119 1 0 0, oLdA 0, oGet 6 0, oI (7), oI (1), oAstI], tRV 14 694)]
def T_X6_begins (call : ip_Cl) : List ip_B := [
  ([oI (0), oStI 1], tGo 1),
  ([oLdI 1, oI (56)], tCm (fun a b => a < b) 2 3),
  ([oLdA 0, oLdI 1, oI (0), oAstI, oInc 1 (1)], tGo 1),
  ([oLdA 0, oI (0), oI (8), oAstI, oLdA 0, oI (1), oI (3), oAstI, oLdA 0, oI (2), oI (2), oAstI, oLdA 0, oI (3), oI (20), oAstI], tRV 0 0)]
def T_X6_in (call : ip_Cl) : List ip_B := [
  ([oLdI 0, oLdI 1], tCm (fun a b => a < b) 3 1),
  ([oLdI 0, oLdI 2], tCm (fun a b => b < a) 3 2),
  ([oI (1)], tGo 4),
  ([oI (0)], tGo 4),
  ([], tRI .boolean 0 0)]
def T_X6_held (call : ip_Cl) : List ip_B := [
  ([oLdI 0, oLdI 1], tCm (fun a b => a < b) 1 2),
  ([oLdI 1], tGo 5),
  ([oLdI 0, oLdI 2], tCm (fun a b => b < a) 3 4),
  ([oLdI 2], tGo 5),
  ([oLdI 0], tGo 5),
  ([], tRI .int 0 0)]
def T_X6_moveAll (call : ip_Cl) : List ip_B := [
  ([oI (0), oStI 2], tGo 1),
  ([oLdI 2, oI (56)], tCm (fun a b => a < b) 2 3),
  ([oLdA 1, oLdI 2, oLdA 0, oLdI 2, oAldI, oAstI, oInc 2 (1)], tGo 1),
  ([], tRV 0 0)]
def T_X6_isOne (call : ip_Cl) : List ip_B := [
  ([oLdI 1, oI (0), oLdA 0, oGet 6 0, oI (6), oAldI, oI (1), oBI (fun a b => a - b), oCal call 0 0 120 3 0 0], tRI .boolean 0 0)]
def T_X6_its (call : ip_Cl) : List ip_B := [
  ([oLdA 0, oGet 6 0, oI (8), oI (6), oLdI 1, oBI (fun a b => a * b), oBI (fun a b => a + b), oLdI 2, oBI (fun a b => a + b), oAldI], tRI .int 0 0)]
def T_X6_sets (call : ip_Cl) : List ip_B := [
  ([oLdA 0, oGet 6 0, oI (8), oI (6), oLdI 1, oBI (fun a b => a * b), oBI (fun a b => a + b), oLdI 2, oBI (fun a b => a + b), oLdI 3, oAstI], tRV 0 0)]
def T_X6_becomes (call : ip_Cl) : List ip_B := [
  ([oLdA 0, oGet 6 0, oLdI 1, oAldI, oStI 3, oLdA 0, oGet 6 0, oLdI 1, oLdI 2, oAstI, oLdI 3], tRI .int 0 0)]
def T_X6_ones (call : ip_Cl) : List ip_B := [
  ([oI (0), oStI 1, oLdI 0, oStI 2], tGo 1),
  ([oLdI 2], tIf (fun a => a = 0) 3 2),
  ([oInc 1 (1), oLdI 2, oLdI 2, oI (1), oBI (fun a b => a - b), oBI (fun a b => a &&& b), oStI 2], tGo 1),
  ([oLdI 1], tRI .int 0 0)]
def T_X6_feed (call : ip_Cl) : List ip_B := [
  ([oLdI 3, oI (1), oI (8), oCal call 0 0 120 3 0 0], tIf (fun a => a = 0) 1 2),
  ([oI (-1)], tRI .int 0 0),
  ([oLdA 0, oGet 6 6, oLdI 3, oBI (fun a b => a + b), oI (200)], tCm (fun a b => b < a) 3 4),
  ([oI (-2)], tRI .int 0 0),
  ([oI (0), oStI 4], tGo 5),
  ([oLdI 4, oLdI 3], tCm (fun a b => a < b) 6 7),
  ([oLdA 0, oGet 6 5, oLdA 0, oGet 6 6, oLdL 1, oI (8), oLdI 4, oBI (fun a b => a * b), oSL (fun a b => a >>> (b.toInt64 &&& 63)), oL (255), oBL (fun a b => a &&& b), oLI, oAstI, oLdA 0, oDup, oGet 6 6, oI (1), oBI (fun a b => a + b), oPut 6 6 .int, oInc 4 (1)], tGo 5),
  ([oLdA 0, oGet 6 6], tRI .int 0 0)]
def T_X6_byteAt (call : ip_Cl) : List ip_B := [
  ([oLdI 1, oLdA 0, oGet 6 6], tCm (fun a b => a < b) 1 2),
  ([oLdA 0, oGet 6 5, oLdI 1, oAldI], tGo 3),
  ([oI (-1)], tGo 3),
  ([], tRI .int 0 0)]
def T_X6_isLetter (call : ip_Cl) : List ip_B := [
  ([oLdI 0, oI (97), oI (122), oCal call 0 0 120 3 0 0], tRI .boolean 0 0)]
def T_X6_isDigit (call : ip_Cl) : List ip_B := [
  ([oLdI 0, oI (48), oI (57), oCal call 0 0 120 3 0 0], tRI .boolean 0 0)]
def T_X6_advance (call : ip_Cl) : List ip_B := [
  ([oLdA 0, oLdA 0, oGet 6 9, oPut 6 8 .int], tGo 1),
  ([oLdA 0, oLdA 0, oGet 6 8, oCaV call 0 0 6 129 2 0 0, oI (32)], tCm (fun a b => a = b) 2 3),
  ([oLdA 0, oDup, oGet 6 8, oI (1), oBI (fun a b => a + b), oPut 6 8 .int], tGo 1),
  ([oLdA 0, oLdA 0, oGet 6 8, oPut 6 9 .int, oLdA 0, oLdA 0, oGet 6 8, oCaV call 0 0 6 129 2 0 0, oStI 1, oLdA 0, oLdI 1], tIf (fun a => a < 0) 4 5),
  ([oI (0)], tGo 10),
  ([oLdI 1, oCal call 0 0 130 1 0 0], tIf (fun a => a = 0) 7 6),
  ([oI (1)], tGo 10),
  ([oLdI 1, oCal call 0 0 131 1 0 0], tIf (fun a => a = 0) 9 8),
  ([oI (2)], tGo 10),
  ([oI (3)], tGo 10),
  ([oPut 6 7 .int, oLdA 0, oL 0, oPut 6 10 .long, oLdA 0, oLdA 0, oGet 6 7, oI (2)], tCm (fun a b => a = b) 11 12),
  ([oI (0)], tGo 13),
  ([oLdI 1], tGo 13),
  ([oPut 6 11 .int, oLdA 0, oGet 6 7, oI (3)], tCm (fun a b => a = b) 14 15),
  ([oLdA 0, oDup, oGet 6 9, oI (1), oBI (fun a b => a + b), oPut 6 9 .int], tGo 15),
  ([oLdA 0, oGet 6 7, oI (1)], tCm (fun a b => a = b) 16 21),
  ([oLdA 0, oLdA 0, oGet 6 9, oCaV call 0 0 6 129 2 0 0, oCal call 0 0 130 1 0 0], tIf (fun a => a = 0) 21 17),
  ([oLdA 0, oLdA 0, oGet 6 9, oLdA 0, oGet 6 8, oBI (fun a b => a - b), oI (9)], tCm (fun a b => a < b) 18 19),
  ([oL (27), oLdA 0, oGet 6 10, oBL (fun a b => a * b), oLdA 0, oLdA 0, oGet 6 9, oCaV call 0 0 6 129 2 0 0, oIL, oBL (fun a b => a + b), oL (96), oBL (fun a b => a - b)], tGo 20),
  ([oL (-1)], tGo 20),
  ([oPut 6 10 .long, oLdA 0, oDup, oGet 6 9, oI (1), oBI (fun a b => a + b), oPut 6 9 .int], tGo 15),
  ([oLdA 0, oGet 6 7, oI (2)], tCm (fun a b => a = b) 22 27),
  ([oLdA 0, oLdA 0, oGet 6 9, oCaV call 0 0 6 129 2 0 0, oCal call 0 0 131 1 0 0], tIf (fun a => a = 0) 27 23),
  ([oLdA 0, oLdA 0, oGet 6 9, oLdA 0, oGet 6 8, oBI (fun a b => a - b), oI (3)], tCm (fun a b => a < b) 24 25),
  ([oI (10), oLdA 0, oGet 6 11, oBI (fun a b => a * b), oLdA 0, oLdA 0, oGet 6 9, oCaV call 0 0 6 129 2 0 0, oBI (fun a b => a + b), oI (48), oBI (fun a b => a - b)], tGo 26),
  ([oI (-1)], tGo 26),
  ([oPut 6 11 .int, oLdA 0, oDup, oGet 6 9, oI (1), oBI (fun a b => a + b), oPut 6 9 .int], tGo 21),
  ([], tRV 0 0)]
def T_X6_isWord (call : ip_Cl) : List ip_B := [
  ([oLdA 0, oGet 6 7, oI (1)], tCm (fun a b => a = b) 1 3),
  ([oLdA 0, oGet 6 10, oLdL 1, oCmpL], tIf (fun a => a = 0) 2 3),
  ([oI (1)], tGo 4),
  ([oI (0)], tGo 4),
  ([], tRI .boolean 0 0)]
def T_X6_isMark (call : ip_Cl) : List ip_B := [
  ([oLdA 0, oGet 6 7, oI (3)], tCm (fun a b => a = b) 1 3),
  ([oLdA 0, oGet 6 11, oLdI 1], tCm (fun a b => a = b) 2 3),
  ([oI (1)], tGo 4),
  ([oI (0)], tGo 4),
  ([], tRI .boolean 0 0)]
def T_X6_kindHere (call : ip_Cl) : List ip_B := [
  ([oLdA 0, oL (330800670), oCaV call 0 0 6 133 2 0 0], tIf (fun a => a = 0) 2 1),
  ([oI (0)], tGo 13),
  ([oLdA 0, oL (1842089), oCaV call 0 0 6 133 2 0 0], tIf (fun a => a = 0) 4 3),
  ([oI (1)], tGo 13),
  ([oLdA 0, oL (1758676), oCaV call 0 0 6 133 2 0 0], tIf (fun a => a = 0) 6 5),
  ([oI (2)], tGo 13),
  ([oLdA 0, oL (146534985), oCaV call 0 0 6 133 2 0 0], tIf (fun a => a = 0) 8 7),
  ([oI (3)], tGo 13),
  ([oLdA 0, oL (10124021), oCaV call 0 0 6 133 2 0 0], tIf (fun a => a = 0) 10 9),
  ([oI (4)], tGo 13),
  ([oLdA 0, oL (7868267739), oCaV call 0 0 6 133 2 0 0], tIf (fun a => a = 0) 12 11),
  ([oI (5)], tGo 13),
  ([oI (-1)], tGo 13),
  ([], tRI .int 0 0)]
def T_X6_lawHere (call : ip_Cl) : List ip_B := [
  ([oLdA 0, oL (8740370), oCaV call 0 0 6 133 2 0 0], tIf (fun a => a = 0) 2 1),
  ([oI (0)], tGo 9),
  ([oLdA 0, oL (2045), oCaV call 0 0 6 133 2 0 0], tIf (fun a => a = 0) 4 3),
  ([oI (1)], tGo 9),
  ([oLdA 0, oL (17030), oCaV call 0 0 6 133 2 0 0], tIf (fun a => a = 0) 6 5),
  ([oI (2)], tGo 9),
  ([oLdA 0, oL (2436392), oCaV call 0 0 6 133 2 0 0], tIf (fun a => a = 0) 8 7),
  ([oI (3)], tGo 9),
  ([oI (-1)], tGo 9),
  ([], tRI .int 0 0)]
def T_X6_wantNumber (call : ip_Cl) : List ip_B := [
  ([oLdA 0, oGet 6 11, oStI 3, oLdA 0, oLdA 0, oGet 6 12], tIf (fun a => a = 0) 4 1),
  ([oLdA 0, oGet 6 7, oI (2)], tCm (fun a b => a = b) 2 4),
  ([oLdI 3, oLdI 1, oLdI 2, oCal call 0 0 120 3 0 0], tIf (fun a => a = 0) 4 3),
  ([oI (1)], tGo 5),
  ([oI (0)], tGo 5),
  ([oPut 6 12 .boolean, oLdA 0, oGet 6 12], tIf (fun a => a = 0) 7 6),
  ([oLdA 0, oCaV call 0 0 6 132 1 0 0], tGo 7),
  ([oLdI 3], tRI .int 0 0)]
def T_X6_wantEnd (call : ip_Cl) : List ip_B := [
  ([oLdA 0, oLdA 0, oGet 6 12], tIf (fun a => a = 0) 3 1),
  ([oLdA 0, oI (59), oCaV call 0 0 6 134 2 0 0], tIf (fun a => a = 0) 3 2),
  ([oI (1)], tGo 4),
  ([oI (0)], tGo 4),
  ([oPut 6 12 .boolean, oLdA 0, oGet 6 12], tIf (fun a => a = 0) 6 5),
  ([oLdA 0, oCaV call 0 0 6 132 1 0 0], tGo 6),
  ([], tRV 0 0)]
def T_X6_mayWant (call : ip_Cl) : List ip_B := [
  ([oLdA 0, oGet 6 12], tIf (fun a => a = 0) 2 1),
  ([oLdA 0, oLdL 1, oCaV call 0 0 6 133 2 0 0], tIf (fun a => a = 0) 2 3),
  ([oLdI 4], tRI .int 0 0),
  ([oLdA 0, oCaV call 0 0 6 132 1 0 0, oLdA 0, oI (0), oLdI 3, oCaV call 0 0 6 137 3 0 0], tRI .int 0 0)]
def T_X6_mayDeny (call : ip_Cl) : List ip_B := [
  ([oLdA 0, oGet 6 12], tIf (fun a => a = 0) 2 1),
  ([oLdA 0, oL (60335110), oCaV call 0 0 6 133 2 0 0], tIf (fun a => a = 0) 2 3),
  ([oI (0)], tRI .int 0 0),
  ([oLdA 0, oCaV call 0 0 6 132 1 0 0, oLdA 0, oLdA 0, oGet 6 7, oI (2)], tCm (fun a b => a = b) 4 7),
  ([oLdA 0, oGet 6 11, oI (0), oI (255), oCal call 0 0 120 3 0 0], tIf (fun a => a = 0) 7 5),
  ([oLdA 0, oGet 6 11, oLdI 1, oBI (fun a b => a &&& b)], tIf (fun a => a = 0) 6 7),
  ([oI (1)], tGo 8),
  ([oI (0)], tGo 8),
  ([oPut 6 12 .boolean, oLdA 0, oI (0), oI (255), oCaV call 0 0 6 137 3 0 0], tRI .int 0 0)]
def T_X6_wantOne (call : ip_Cl) : List ip_B := [
  ([oLdA 0, oLdA 0, oGet 6 1, oI (6), oAldI, oI (8)], tCm (fun a b => a < b) 1 2),
  ([oI (1)], tGo 3),
  ([oI (0)], tGo 3),
  ([oPut 6 12 .boolean, oLdA 0, oGet 6 12], tIf (fun a => a = 0) 5 4),
  ([oLdA 0, oCaV call 0 0 6 132 1 0 0], tGo 5),
  ([oLdA 0, oL (332864552), oI (99), oI (10), oCaV call 0 0 6 139 4 0 0, oStI 2, oLdA 0, oL (47), oI (20), oI (0), oCaV call 0 0 6 139 4 0 0, oStI 3, oLdA 0, oL (375400), oI (255), oI (0), oCaV call 0 0 6 139 4 0 0, oStI 4, oLdA 0, oLdI 4, oCaV call 0 0 6 140 2 0 0, oStI 5, oLdA 0, oCaV call 0 0 6 138 1 0 0, oLdA 0, oGet 6 12], tIf (fun a => a = 0) 7 6),
  ([oI (8), oI (6), oLdA 0, oGet 6 1, oI (6), oAldI, oBI (fun a b => a * b), oBI (fun a b => a + b), oStI 6, oLdA 0, oGet 6 1, oLdI 6, oLdI 1, oAstI, oLdA 0, oGet 6 1, oLdI 6, oI (1), oBI (fun a b => a + b), oLdI 2, oAstI, oLdA 0, oGet 6 1, oLdI 6, oI (2), oBI (fun a b => a + b), oLdI 3, oAstI, oLdA 0, oGet 6 1, oLdI 6, oI (3), oBI (fun a b => a + b), oLdI 4, oAstI, oLdA 0, oGet 6 1, oLdI 6, oI (4), oBI (fun a b => a + b), oLdI 5, oAstI, oLdA 0, oGet 6 1, oLdI 6, oI (5), oBI (fun a b => a + b), oI (0), oAstI, oLdA 0, oGet 6 1, oI (6), oDp2, oAldI, oI (1), oBI (fun a b => a + b), oAstI], tGo 7),
  ([], tRV 0 0)]
def T_X6_wantClause (call : ip_Cl) : List ip_B := [
  ([oLdA 0, oCaV call 0 0 6 136 1 0 0, oStI 1, oLdA 0, oCaV call 0 0 6 135 1 0 0], tIf (fun a => a < 0) 2 1),
  ([oLdA 0, oLdA 0, oCaV call 0 0 6 135 1 0 0, oCaV call 0 0 6 141 2 0 0], tGo 10),
  ([oLdI 1], tIf (fun a => a < 0) 4 3),
  ([oLdA 0, oCaV call 0 0 6 132 1 0 0, oLdA 0, oGet 6 1, oLdI 1, oLdA 0, oI (0), oLdI 1, oCal call 0 0 144 1 0 0, oCaV call 0 0 6 137 3 0 0, oAstI, oLdA 0, oCaV call 0 0 6 138 1 0 0], tGo 10),
  ([oLdA 0, oL (118928), oCaV call 0 0 6 133 2 0 0], tIf (fun a => a = 0) 9 5),
  ([oLdA 0, oCaV call 0 0 6 132 1 0 0, oLdA 0, oI (0), oI (7), oCaV call 0 0 6 137 3 0 0, oStI 2, oLdA 0, oGet 6 1, oI (5), oDp2, oAldI, oLdA 0, oGet 6 12], tIf (fun a => a = 0) 7 6),
  ([oI (1), oLdI 2, oBI (fun a b => a <<< (b &&& 31))], tGo 8),
  ([oI (0)], tGo 8),
  ([oBI (fun a b => a ||| b), oAstI, oLdA 0, oCaV call 0 0 6 138 1 0 0], tGo 10),
  ([oLdA 0, oI (0), oPut 6 12 .boolean], tGo 10),
  ([], tRV 0 0)]
def T_X6_circus (call : ip_Cl) : List ip_B := [
  ([oLdA 0, oI (0), oPut 6 9 .int, oLdA 0, oI (1), oPut 6 12 .boolean, oLdA 0, oGet 6 1, oCal call 0 0 119 1 0 0, oLdA 0, oCaV call 0 0 6 132 1 0 0], tGo 1),
  ([oLdA 0, oGet 6 12], tIf (fun a => a = 0) 4 2),
  ([oLdA 0, oGet 6 7], tIf (fun a => a = 0) 4 3),
  ([oLdA 0, oCaV call 0 0 6 142 1 0 0], tGo 1),
  ([oLdA 0, oI (0), oPut 6 6 .int, oLdA 0, oGet 6 12], tIf (fun a => a = 0) 5 6),
  ([oI (-100), oLdA 0, oGet 6 8, oBI (fun a b => a - b)], tRI .int 0 0),
  ([oLdA 0, oGet 6 1, oI (7), oLdA 0, oGet 6 0, oI (7), oAldI, oAstI, oLdA 0, oGet 6 1, oLdA 0, oGet 6 0, oCal call 0 0 122 2 0 0, oLdA 0, oI (0), oPut 6 15 .int, oLdA 0, oGet 6 0, oI (6), oAldI], tRI .int 0 0)]
def T_X6_mostOf (call : ip_Cl) : List ip_B := [
  ([oLdI 0, oI (3)], tCm (fun a b => a = b) 1 2),
  ([oI (99)], tGo 3),
  ([oI (9)], tGo 3),
  ([], tRI .int 0 0)]
def T_X6_set (call : ip_Cl) : List ip_B := [
  ([oLdI 1, oI (0), oI (3), oCal call 0 0 120 3 0 0], tIf (fun a => a = 0) 3 1),
  ([oLdI 2, oI (0), oLdI 1, oCal call 0 0 144 1 0 0, oCal call 0 0 120 3 0 0], tIf (fun a => a = 0) 3 2),
  ([oLdA 0, oLdI 1, oLdI 2, oCaV call 0 0 6 126 3 0 0], tGo 4),
  ([oI (-1)], tGo 4),
  ([], tRI .int 0 0)]
def T_X6_lawOf (call : ip_Cl) : List ip_B := [
  ([oLdI 1, oI (0), oI (3), oCal call 0 0 120 3 0 0], tIf (fun a => a = 0) 2 1),
  ([oLdA 0, oGet 6 0, oLdI 1, oAldI], tGo 3),
  ([oI (-1)], tGo 3),
  ([], tRI .int 0 0)]
def T_X6_fact (call : ip_Cl) : List ip_B := [
  ([oLdI 1, oI (0), oI (7), oCal call 0 0 120 3 0 0], tIf (fun a => a = 0) 2 1),
  ([oLdI 2, oI (0), oI (1), oCal call 0 0 120 3 0 0], tIf (fun a => a = 0) 2 3),
  ([oI (-1)], tRI .int 0 0),
  ([oLdA 0, oGet 6 0, oI (5), oAldI, oLdI 1, oBI (fun a b => a >>> (b &&& 31)), oI (1), oBI (fun a b => a &&& b), oStI 3, oLdA 0, oGet 6 0, oI (5), oLdA 0, oGet 6 0, oI (5), oAldI, oI (1), oLdI 1, oBI (fun a b => a <<< (b &&& 31)), oI (-1), oBI (fun a b => a ^^^ b), oBI (fun a b => a &&& b), oLdI 2, oLdI 1, oBI (fun a b => a <<< (b &&& 31)), oBI (fun a b => a ||| b), oAstI, oLdI 3], tRI .int 0 0)]
def T_X6_isKind (call : ip_Cl) : List ip_B := [
  ([oLdI 0, oI (0), oI (5), oCal call 0 0 120 3 0 0], tIf (fun a => a = 0) 3 1),
  ([oLdI 1, oI (0), oI (99), oCal call 0 0 120 3 0 0], tIf (fun a => a = 0) 3 2),
  ([oI (1)], tGo 4),
  ([oI (0)], tGo 4),
  ([], tRI .boolean 0 0)]
def T_X6_walker (call : ip_Cl) : List ip_B := [
  ([oLdI 1, oLdI 2, oCal call 0 0 148 2 0 0], tIf (fun a => a = 0) 1 2),
  ([oI (-1)], tRI .int 0 0),
  ([oLdA 0, oGet 6 0, oI (6), oAldI, oI (8)], tCm (fun a b => a = b) 3 4),
  ([oI (-2)], tRI .int 0 0),
  ([oLdA 0, oGet 6 0, oI (6), oAldI, oStI 3, oI (0), oStI 4], tGo 5),
  ([oLdI 4, oI (6)], tCm (fun a b => a < b) 6 7),
  ([oLdA 0, oLdI 3, oLdI 4, oI (0), oCaV call 0 0 6 125 4 0 0, oInc 4 (1)], tGo 5),
  ([oLdA 0, oLdI 3, oI (0), oLdI 1, oCaV call 0 0 6 125 4 0 0, oLdA 0, oLdI 3, oI (1), oLdI 2, oCaV call 0 0 6 125 4 0 0, oLdA 0, oGet 6 0, oI (6), oDp2, oAldI, oI (1), oBI (fun a b => a + b), oAstI, oLdI 3], tRI .int 0 0)]
def T_X6_of (call : ip_Cl) : List ip_B := [
  ([oLdA 0, oLdI 1, oCaV call 0 0 6 123 2 0 0], tIf (fun a => a = 0) 3 1),
  ([oLdI 2, oI (0), oI (5), oCal call 0 0 120 3 0 0], tIf (fun a => a = 0) 3 2),
  ([oLdA 0, oLdI 1, oLdI 2, oCaV call 0 0 6 124 3 0 0], tGo 4),
  ([oI (-1)], tGo 4),
  ([], tRI .int 0 0)]
def T_X6_right (call : ip_Cl) : List ip_B := [
  ([oLdA 0, oLdI 1, oI (3), oCaV call 0 0 6 124 3 0 0, oLdA 0, oGet 6 0, oI (5), oAldI, oBI (fun a b => a &&& b), oCal call 0 0 127 1 0 0, oLdA 0, oLdI 1, oI (4), oCaV call 0 0 6 124 3 0 0, oLdA 0, oGet 6 0, oI (5), oAldI, oI (-1), oBI (fun a b => a ^^^ b), oBI (fun a b => a &&& b), oCal call 0 0 127 1 0 0, oBI (fun a b => a + b)], tRI .int 0 0)]
def T_X6_said (call : ip_Cl) : List ip_B := [
  ([oLdA 0, oLdI 1, oI (3), oCaV call 0 0 6 124 3 0 0, oCal call 0 0 127 1 0 0, oLdA 0, oLdI 1, oI (4), oCaV call 0 0 6 124 3 0 0, oCal call 0 0 127 1 0 0, oBI (fun a b => a + b)], tRI .int 0 0)]
def T_X6_bears (call : ip_Cl) : List ip_B := [
  ([oLdA 0, oLdI 1, oCaV call 0 0 6 151 2 0 0, oStI 2, oLdA 0, oLdI 1, oCaV call 0 0 6 152 2 0 0, oLdI 2, oBI (fun a b => a - b), oStI 3, oLdA 0, oGet 6 0, oI (0), oAldI, oLdI 2, oBI (fun a b => a * b), oLdA 0, oGet 6 0, oI (1), oAldI, oLdI 3, oBI (fun a b => a * b), oBI (fun a b => a - b), oStI 4, oLdA 0, oGet 6 0, oI (0), oAldI, oLdI 3, oBI (fun a b => a * b), oLdA 0, oGet 6 0, oI (1), oAldI, oLdI 2, oBI (fun a b => a * b), oBI (fun a b => a - b), oStI 5, oLdI 4, oI (2), oI (8), oLdA 0, oLdI 1, oCaV call 0 0 6 152 2 0 0, oBI (fun a b => a - b), oBI (fun a b => a * b), oBI (fun a b => a + b), oStI 6, oLdA 0, oLdI 1, oI (0), oCaV call 0 0 6 124 3 0 0], tSw [(1, 1), (2, 3), (3, 2), (4, 4), (5, 5)] 9),
  ([oLdI 5], tRI .int 0 0),
  ([oLdI 5, oLdA 0, oGet 6 0, oI (2), oAldI, oBI (fun a b => a + b)], tRI .int 0 0),
  ([oLdI 6], tRI .int 0 0),
  ([oI (2), oLdI 6, oBI (fun a b => a * b)], tRI .int 0 0),
  ([oI (90), oI (10), oLdA 0, oLdI 1, oI (2), oCaV call 0 0 6 124 3 0 0, oBI (fun a b => a * b), oBI (fun a b => a - b), oLdA 0, oLdI 1, oCaV call 0 0 6 152 2 0 0], tIf (fun a => 0 < a) 6 7),
  ([oI (50)], tGo 8),
  ([oI (0)], tGo 8),
  ([oBI (fun a b => a - b)], tRI .int 0 0),
  ([oLdI 4], tRI .int 0 0)]
def T_X6_strides (call : ip_Cl) : List ip_B := [
  ([oLdA 0, oLdI 1, oI (0), oCaV call 0 0 6 124 3 0 0], tSw [(1, 1), (2, 7), (3, 2), (4, 6)] 7),
  ([oI (2)], tRI .int 0 0),
  ([oLdA 0, oGet 6 0, oI (4), oAldI, oI (2), oDI (fun a b => a - a / b * b)], tIf (fun a => a = 0) 3 4),
  ([oI (3)], tGo 5),
  ([oI (2)], tGo 5),
  ([], tRI .int 0 0),
  ([oI (1), oLdA 0, oLdI 1, oCaV call 0 0 6 151 2 0 0, oBI (fun a b => a + b)], tRI .int 0 0),
  ([oI (1)], tRI .int 0 0)]
def T_X6_does (call : ip_Cl) : List ip_B := [
  ([oLdA 0, oLdI 1, oCaV call 0 0 6 123 2 0 0], tIf (fun a => a = 0) 1 2),
  ([oI (-1)], tRI .int 0 0),
  ([oLdI 2], tSw [(0, 3), (1, 4), (2, 5), (3, 6)] 7),
  ([oI (1000), oLdA 0, oLdI 1, oCaV call 0 0 6 153 2 0 0, oBI (fun a b => a + b)], tRI .int 0 0),
  ([oI (1000), oLdA 0, oLdI 1, oCaV call 0 0 6 154 2 0 0, oBI (fun a b => a + b)], tRI .int 0 0),
  ([oI (1000), oLdA 0, oLdI 1, oCaV call 0 0 6 151 2 0 0, oBI (fun a b => a + b)], tRI .int 0 0),
  ([oI (1000), oLdA 0, oLdI 1, oCaV call 0 0 6 152 2 0 0, oBI (fun a b => a + b), oLdA 0, oLdI 1, oCaV call 0 0 6 151 2 0 0, oBI (fun a b => a - b)], tRI .int 0 0),
  ([oI (-1)], tRI .int 0 0)]
def T_X6_mind (call : ip_Cl) : List ip_B := [
  ([oLdA 0, oLdI 1, oCaV call 0 0 6 123 2 0 0], tIf (fun a => a = 0) 2 1),
  ([oLdI 2, oLdI 3, oCal call 0 0 148 2 0 0], tIf (fun a => a = 0) 2 3),
  ([oI (-1)], tRI .int 0 0),
  ([oLdA 0, oLdI 1, oI (1), oLdI 3, oCaV call 0 0 6 125 4 0 0, oLdA 0, oI (8), oI (6), oLdI 1, oBI (fun a b => a * b), oBI (fun a b => a + b), oLdI 2, oCaV call 0 0 6 126 3 0 0], tRI .int 0 0)]
def T_X6_say (call : ip_Cl) : List ip_B := [
  ([oLdA 0, oLdI 1, oCaV call 0 0 6 123 2 0 0], tIf (fun a => a = 0) 4 1),
  ([oLdI 2, oI (0), oI (255), oCal call 0 0 120 3 0 0], tIf (fun a => a = 0) 4 2),
  ([oLdI 3, oI (0), oI (255), oCal call 0 0 120 3 0 0], tIf (fun a => a = 0) 4 3),
  ([oLdI 2, oLdI 3, oBI (fun a b => a &&& b)], tIf (fun a => a = 0) 5 4),
  ([oI (-1)], tRI .int 0 0),
  ([oLdA 0, oLdI 1, oCaV call 0 0 6 152 2 0 0, oStI 4, oLdA 0, oLdI 1, oI (3), oLdI 2, oCaV call 0 0 6 125 4 0 0, oLdA 0, oLdI 1, oI (4), oLdI 3, oCaV call 0 0 6 125 4 0 0, oLdI 4], tRI .int 0 0)]
def T_X6_stand (call : ip_Cl) : List ip_B := [
  ([oLdA 0, oLdI 1, oCaV call 0 0 6 123 2 0 0], tIf (fun a => a = 0) 2 1),
  ([oLdI 2, oI (0), oI (20), oCal call 0 0 120 3 0 0], tIf (fun a => a = 0) 2 3),
  ([oI (-1)], tRI .int 0 0),
  ([oLdA 0, oLdI 1, oI (5), oI (0), oCaV call 0 0 6 125 4 0 0, oLdA 0, oI (8), oI (6), oLdI 1, oBI (fun a b => a * b), oBI (fun a b => a + b), oI (2), oBI (fun a b => a + b), oLdI 2, oCaV call 0 0 6 126 3 0 0], tRI .int 0 0)]
def T_X6_isAcross (call : ip_Cl) : List ip_B := [
  ([oLdA 0, oLdI 1, oI (2), oCaV call 0 0 6 124 3 0 0, oI (20)], tCm (fun a b => a = b) 1 2),
  ([oI (1)], tGo 3),
  ([oI (0)], tGo 3),
  ([], tRI .boolean 0 0)]
def T_X6_isDone (call : ip_Cl) : List ip_B := [
  ([oLdA 0, oLdI 1, oCaV call 0 0 6 159 2 0 0], tIf (fun a => a = 0) 1 2),
  ([oLdA 0, oLdI 1, oI (5), oCaV call 0 0 6 124 3 0 0, oI (1)], tCm (fun a b => a = b) 2 3),
  ([oI (1)], tGo 4),
  ([oI (0)], tGo 4),
  ([], tRI .boolean 0 0)]
def T_X6_goes (call : ip_Cl) : List ip_B := [
  ([oLdA 0, oLdI 1, oCaV call 0 0 6 160 2 0 0], tIf (fun a => a = 0) 2 1),
  ([], tRV 0 0),
  ([oLdA 0, oLdI 1, oCaV call 0 0 6 153 2 0 0, oLdA 0, oLdI 1, oI (1), oCaV call 0 0 6 124 3 0 0], tCm (fun a b => a < b) 4 3),
  ([oLdA 0, oLdI 1, oI (2), oLdA 0, oLdI 1, oI (2), oCaV call 0 0 6 124 3 0 0, oLdA 0, oLdI 1, oCaV call 0 0 6 154 2 0 0, oBI (fun a b => a + b), oI (0), oI (20), oCal call 0 0 121 3 0 0, oCaV call 0 0 6 125 4 0 0], tGo 5),
  ([oLdA 0, oLdI 1, oI (5), oI (1), oCaV call 0 0 6 125 4 0 0], tGo 5),
  ([], tRV 0 0)]
def T_X6_stepGoes (call : ip_Cl) : List ip_B := [
  ([oI (0), oStI 1], tGo 1),
  ([oLdI 1, oLdA 0, oGet 6 0, oI (6), oAldI], tCm (fun a b => a < b) 2 3),
  ([oLdA 0, oLdI 1, oCaV call 0 0 6 161 2 0 0, oInc 1 (1)], tGo 1),
  ([oLdA 0, oGet 6 0, oI (4), oDp2, oAldI, oI (1), oBI (fun a b => a + b), oAstI], tRV 0 0)]
def T_X6_acrossSet (call : ip_Cl) : List ip_B := [
  ([oI (0), oStI 1, oI (0), oStI 2], tGo 1),
  ([oLdI 2, oLdA 0, oGet 6 0, oI (6), oAldI], tCm (fun a b => a < b) 2 6),
  ([oLdI 1, oLdA 0, oLdI 2, oCaV call 0 0 6 159 2 0 0], tIf (fun a => a = 0) 4 3),
  ([oI (1), oLdI 2, oBI (fun a b => a <<< (b &&& 31))], tGo 5),
  ([oI (0)], tGo 5),
  ([oBI (fun a b => a ||| b), oStI 1, oInc 2 (1)], tGo 1),
  ([oLdI 1], tRI .int 0 0)]
def T_X6_fallenSet (call : ip_Cl) : List ip_B := [
  ([oI (0), oStI 1, oI (0), oStI 2], tGo 1),
  ([oLdI 2, oLdA 0, oGet 6 0, oI (6), oAldI], tCm (fun a b => a < b) 2 3),
  ([oLdI 1, oLdA 0, oLdI 2, oI (5), oCaV call 0 0 6 124 3 0 0, oLdI 2, oBI (fun a b => a <<< (b &&& 31)), oBI (fun a b => a ||| b), oStI 1, oInc 2 (1)], tGo 1),
  ([oLdI 1], tRI .int 0 0)]
def T_X6_steps (call : ip_Cl) : List ip_B := [
  ([oLdI 1, oI (1), oI (60), oCal call 0 0 120 3 0 0], tIf (fun a => a = 0) 1 2),
  ([oI (-1)], tRI .int 0 0),
  ([oI (0), oStI 2], tGo 3),
  ([oLdI 2, oLdI 1], tCm (fun a b => a < b) 4 5),
  ([oLdA 0, oCaV call 0 0 6 162 1 0 0, oInc 2 (1)], tGo 3),
  ([oLdA 0, oCaV call 0 0 6 163 1 0 0, oCal call 0 0 127 1 0 0], tRI .int 0 0)]
def T_X6_drawn (call : ip_Cl) : List ip_B := [
  ([oLdA 0, oGet 6 0, oI (7), oLdA 0, oGet 6 0, oI (7), oAldI, oI (1103515245), oBI (fun a b => a * b), oI (12345), oBI (fun a b => a + b), oAstI, oLdA 0, oGet 6 0, oI (7), oAldI, oI (16), oBI (fun a b => (a.toUInt32 >>> (b.toUInt32 &&& Int32.toUInt32 31)).toInt32)], tRI .int 0 0)]
def T_X6_seed (call : ip_Cl) : List ip_B := [
  ([oLdA 0, oI (7), oLdI 1, oCaV call 0 0 6 126 3 0 0], tRI .int 0 0)]
def T_X6_stepByDraws (call : ip_Cl) : List ip_B := [
  ([oLdA 0, oCaV call 0 0 6 166 1 0 0, oI (8), oDI (fun a b => a - a / b * b), oStI 1, oLdA 0, oCaV call 0 0 6 166 1 0 0, oI (100), oDI (fun a b => a - a / b * b), oLdA 0, oGet 6 0, oI (3), oAldI], tCm (fun a b => a < b) 1 2),
  ([oLdA 0, oGet 6 0, oI (5), oDp2, oAldI, oI (1), oLdI 1, oBI (fun a b => a <<< (b &&& 31)), oBI (fun a b => a ^^^ b), oAstI], tGo 2),
  ([oLdA 0, oCaV call 0 0 6 162 1 0 0], tRV 0 0)]
def T_X6_step (call : ip_Cl) : List ip_B := [
  ([oLdA 0, oCaV call 0 0 6 168 1 0 0, oLdA 0, oCaV call 0 0 6 163 1 0 0, oCal call 0 0 127 1 0 0], tRI .int 0 0)]
def T_X6_luck (call : ip_Cl) : List ip_B := [
  ([oLdI 1, oI (1), oI (30), oCal call 0 0 120 3 0 0], tIf (fun a => a = 0) 1 2),
  ([oI (-1)], tRI .int 0 0),
  ([oLdA 0, oGet 6 0, oLdA 0, oGet 6 3, oCal call 0 0 122 2 0 0, oLdA 0, oCaV call 0 0 6 162 1 0 0, oLdA 0, oCaV call 0 0 6 164 1 0 0, oCal call 0 0 127 1 0 0, oStI 2, oLdA 0, oGet 6 3, oLdA 0, oGet 6 0, oCal call 0 0 122 2 0 0, oLdA 0, oGet 6 0, oI (7), oAldI, oStI 3, oI (0), oStI 4, oI (0), oStI 5], tGo 3),
  ([oLdI 5, oLdI 1], tCm (fun a b => a < b) 4 8),
  ([oLdA 0, oGet 6 0, oI (7), oLdI 3, oAstI, oLdA 0, oCaV call 0 0 6 168 1 0 0, oLdI 4, oLdA 0, oCaV call 0 0 6 164 1 0 0, oCal call 0 0 127 1 0 0, oLdI 2], tCm (fun a b => b < a) 5 6),
  ([oI (1)], tGo 7),
  ([oI (0)], tGo 7),
  ([oBI (fun a b => a + b), oStI 4, oLdA 0, oGet 6 0, oI (7), oAldI, oStI 3, oLdA 0, oGet 6 3, oLdA 0, oGet 6 0, oCal call 0 0 122 2 0 0, oInc 5 (1)], tGo 3),
  ([oLdI 4], tRI .int 0 0)]
def T_X6_clash (call : ip_Cl) : List ip_B := [
  ([oLdA 0, oLdI 1, oI (3), oCaV call 0 0 6 124 3 0 0, oLdA 0, oLdI 2, oI (4), oCaV call 0 0 6 124 3 0 0, oBI (fun a b => a &&& b), oCal call 0 0 127 1 0 0, oLdA 0, oLdI 1, oI (4), oCaV call 0 0 6 124 3 0 0, oLdA 0, oLdI 2, oI (3), oCaV call 0 0 6 124 3 0 0, oBI (fun a b => a &&& b), oCal call 0 0 127 1 0 0, oBI (fun a b => a + b)], tRI .int 0 0)]
def T_X6_agreed (call : ip_Cl) : List ip_B := [
  ([oLdA 0, oLdI 1, oI (3), oCaV call 0 0 6 124 3 0 0, oLdA 0, oLdI 2, oI (3), oCaV call 0 0 6 124 3 0 0, oBI (fun a b => a &&& b), oCal call 0 0 127 1 0 0, oLdA 0, oLdI 1, oI (4), oCaV call 0 0 6 124 3 0 0, oLdA 0, oLdI 2, oI (4), oCaV call 0 0 6 124 3 0 0, oBI (fun a b => a &&& b), oCal call 0 0 127 1 0 0, oBI (fun a b => a + b)], tRI .int 0 0)]
def T_X6_isPeace (call : ip_Cl) : List ip_B := [
  ([oI (1), oStI 2, oI (0), oStI 3], tGo 1),
  ([oLdI 3, oLdA 0, oGet 6 0, oI (6), oAldI], tCm (fun a b => a < b) 2 11),
  ([oLdI 3, oI (1), oBI (fun a b => a + b), oStI 4], tGo 3),
  ([oLdI 4, oLdA 0, oGet 6 0, oI (6), oAldI], tCm (fun a b => a < b) 4 10),
  ([oLdI 2], tIf (fun a => a = 0) 10 5),
  ([oLdI 1, oLdI 3, oBI (fun a b => a >>> (b &&& 31)), oLdI 1, oLdI 4, oBI (fun a b => a >>> (b &&& 31)), oBI (fun a b => a &&& b), oI (1), oBI (fun a b => a &&& b)], tIf (fun a => a = 0) 7 6),
  ([oLdA 0, oLdI 3, oLdI 4, oCaV call 0 0 6 171 3 0 0], tIf (fun a => a = 0) 7 8),
  ([oI (1)], tGo 9),
  ([oI (0)], tGo 9),
  ([oStI 2, oInc 4 (1)], tGo 3),
  ([oInc 3 (1)], tGo 1),
  ([oLdI 2], tRI .boolean 0 0)]
def T_X6_mostHeld (call : ip_Cl) : List ip_B := [
  ([oI (0), oStI 1, oI (0), oStI 2], tGo 1),
  ([oLdI 2, oI (1), oLdA 0, oGet 6 0, oI (6), oAldI, oBI (fun a b => a <<< (b &&& 31))], tCm (fun a b => a < b) 2 6),
  ([oLdI 2, oCal call 0 0 127 1 0 0, oLdI 1], tCm (fun a b => b < a) 3 5),
  ([oLdA 0, oLdI 2, oCaV call 0 0 6 173 2 0 0], tIf (fun a => a = 0) 5 4),
  ([oLdI 2, oCal call 0 0 127 1 0 0, oStI 1], tGo 5),
  ([oInc 2 (1)], tGo 1),
  ([oLdI 1], tRI .int 0 0)]
def T_X6_places (call : ip_Cl) : List ip_B := [
  ([oI (0), oStI 1, oI (0), oStI 2], tGo 1),
  ([oLdI 2, oLdA 0, oGet 6 0, oI (6), oAldI], tCm (fun a b => a < b) 2 3),
  ([oLdI 1, oLdA 0, oLdI 2, oI (2), oCaV call 0 0 6 124 3 0 0, oBI (fun a b => a + b), oStI 1, oInc 2 (1)], tGo 1),
  ([oLdI 1], tRI .int 0 0)]
def T_X6_state (call : ip_Cl) : List ip_B := [
  ([oLdI 1], tSw [(0, 1), (1, 2), (2, 3), (3, 4), (4, 5), (5, 6)] 7),
  ([oLdA 0, oGet 6 0, oI (4), oAldI], tRI .int 0 0),
  ([oLdA 0, oCaV call 0 0 6 163 1 0 0], tRI .int 0 0),
  ([oLdA 0, oCaV call 0 0 6 164 1 0 0], tRI .int 0 0),
  ([oLdA 0, oGet 6 0, oI (5), oAldI], tRI .int 0 0),
  ([oLdA 0, oCaV call 0 0 6 175 1 0 0], tRI .int 0 0),
  ([oLdA 0, oCaV call 0 0 6 174 1 0 0], tRI .int 0 0),
  ([oI (-1)], tRI .int 0 0)]
def T_X6_goesOn (call : ip_Cl) : List ip_B := [
  ([oLdA 0, oLdI 1, oCaV call 0 0 6 161 2 0 0, oLdA 0, oGet 6 0, oI (4), oDp2, oAldI, oI (1), oBI (fun a b => a + b), oAstI], tRV 0 0)]
def T_X6_placeBehind (call : ip_Cl) : List ip_B := [
  ([oI (0), oStI 3], tGo 1),
  ([oLdI 3, oLdI 2], tCm (fun a b => a < b) 2 4),
  ([oLdA 0, oLdI 1, oCaV call 0 0 6 160 2 0 0], tIf (fun a => a = 0) 3 4),
  ([oLdA 0, oLdI 1, oCaV call 0 0 6 177 2 0 0, oInc 3 (1)], tGo 1),
  ([oLdA 0, oLdI 1, oI (2), oCaV call 0 0 6 124 3 0 0, oStI 3, oLdA 0, oGet 6 3, oLdA 0, oGet 6 0, oCal call 0 0 122 2 0 0, oLdI 3], tRI .int 0 0)]
def T_X6_reaches (call : ip_Cl) : List ip_B := [
  ([oLdA 0, oLdI 1, oCaV call 0 0 6 123 2 0 0], tIf (fun a => a = 0) 2 1),
  ([oLdI 2, oI (0), oI (60), oCal call 0 0 120 3 0 0], tIf (fun a => a = 0) 2 3),
  ([oI (-1)], tRI .int 0 0),
  ([oLdA 0, oGet 6 0, oLdA 0, oGet 6 3, oCal call 0 0 122 2 0 0, oLdA 0, oLdI 1, oLdI 2, oCaV call 0 0 6 178 3 0 0], tRI .int 0 0)]
def T_X6_over (call : ip_Cl) : List ip_B := [
  ([oLdA 0, oLdI 1, oCaV call 0 0 6 123 2 0 0], tIf (fun a => a = 0) 1 2),
  ([oI (-1)], tRI .int 0 0),
  ([oLdA 0, oGet 6 0, oLdA 0, oGet 6 3, oCal call 0 0 122 2 0 0, oI (0), oStI 2], tGo 3),
  ([oLdI 2, oI (60)], tCm (fun a b => b < a) 6 4),
  ([oLdA 0, oLdI 1, oCaV call 0 0 6 159 2 0 0], tIf (fun a => a = 0) 5 6),
  ([oLdA 0, oLdI 1, oCaV call 0 0 6 177 2 0 0, oInc 2 (1)], tGo 3),
  ([oLdA 0, oGet 6 3, oLdA 0, oGet 6 0, oCal call 0 0 122 2 0 0, oLdI 2, oI (60)], tCm (fun a b => b < a) 7 8),
  ([oI (-3)], tGo 9),
  ([oLdI 2], tGo 9),
  ([], tRI .int 0 0)]
def T_X6_falls (call : ip_Cl) : List ip_B := [
  ([oLdA 0, oLdI 1, oCaV call 0 0 6 123 2 0 0], tIf (fun a => a = 0) 1 2),
  ([oI (-1)], tRI .int 0 0),
  ([oLdA 0, oGet 6 0, oLdA 0, oGet 6 3, oCal call 0 0 122 2 0 0, oI (0), oStI 2], tGo 3),
  ([oLdI 2, oI (60)], tCm (fun a b => b < a) 6 4),
  ([oLdA 0, oLdI 1, oI (5), oCaV call 0 0 6 124 3 0 0], tIf (fun a => a = 0) 5 6),
  ([oLdA 0, oLdI 1, oCaV call 0 0 6 177 2 0 0, oInc 2 (1)], tGo 3),
  ([oLdA 0, oGet 6 3, oLdA 0, oGet 6 0, oCal call 0 0 122 2 0 0, oLdI 2, oI (60)], tCm (fun a b => b < a) 7 8),
  ([oI (-3)], tGo 9),
  ([oLdI 2], tGo 9),
  ([], tRI .int 0 0)]
def T_X6_end (call : ip_Cl) : List ip_B := [
  ([oLdA 0, oGet 6 0, oLdA 0, oGet 6 3, oCal call 0 0 122 2 0 0, oI (0), oStI 1], tGo 1),
  ([oLdI 1, oI (60)], tCm (fun a b => b < a) 4 2),
  ([oLdA 0, oCaV call 0 0 6 163 1 0 0, oLdA 0, oCaV call 0 0 6 164 1 0 0, oBI (fun a b => a ||| b), oI (1), oLdA 0, oGet 6 0, oI (6), oAldI, oBI (fun a b => a <<< (b &&& 31)), oI (1), oBI (fun a b => a - b)], tCm (fun a b => a = b) 4 3),
  ([oLdA 0, oCaV call 0 0 6 162 1 0 0, oInc 1 (1)], tGo 1),
  ([oLdA 0, oGet 6 3, oLdA 0, oGet 6 0, oCal call 0 0 122 2 0 0, oLdI 1, oI (60)], tCm (fun a b => b < a) 5 6),
  ([oI (-3)], tGo 7),
  ([oLdI 1], tGo 7),
  ([], tRI .int 0 0)]
def T_X6_comesOver (call : ip_Cl) : List ip_B := [
  ([oLdA 0, oLdI 1, oI (3), oLdI 3, oCaV call 0 0 6 125 4 0 0, oLdA 0, oLdI 1, oI (4), oLdI 4, oCaV call 0 0 6 125 4 0 0, oLdA 0, oLdI 1, oLdI 2, oCaV call 0 0 6 178 3 0 0, oI (20)], tCm (fun a b => a = b) 1 2),
  ([oI (1)], tGo 3),
  ([oI (0)], tGo 3),
  ([], tRI .boolean 0 0)]
def T_X6_sayFor (call : ip_Cl) : List ip_B := [
  ([oLdA 0, oLdI 1, oCaV call 0 0 6 123 2 0 0], tIf (fun a => a = 0) 2 1),
  ([oLdI 2, oI (1), oI (30), oCal call 0 0 120 3 0 0], tIf (fun a => a = 0) 2 3),
  ([oI (-1)], tRI .int 0 0),
  ([oLdA 0, oGet 6 0, oLdA 0, oGet 6 3, oCal call 0 0 122 2 0 0, oI (-3), oStI 3, oI (9), oStI 4, oI (0), oStI 5], tGo 4),
  ([oLdI 5, oI (255)], tCm (fun a b => b < a) 13 5),
  ([oI (0), oStI 6], tGo 6),
  ([oLdI 6, oI (255)], tCm (fun a b => b < a) 12 7),
  ([oLdI 5, oCal call 0 0 127 1 0 0, oLdI 6, oCal call 0 0 127 1 0 0, oBI (fun a b => a + b), oStI 7, oLdI 5, oLdI 6, oBI (fun a b => a &&& b)], tIf (fun a => a = 0) 8 11),
  ([oLdI 7, oLdI 4], tCm (fun a b => a < b) 9 11),
  ([oLdA 0, oLdI 1, oLdI 2, oLdI 5, oLdI 6, oCaV call 0 0 6 183 5 0 0], tIf (fun a => a = 0) 11 10),
  ([oI (256), oLdI 5, oBI (fun a b => a * b), oLdI 6, oBI (fun a b => a + b), oStI 3, oLdI 7, oStI 4], tGo 11),
  ([oInc 6 (1)], tGo 6),
  ([oInc 5 (1)], tGo 4),
  ([oLdI 3], tRI .int 0 0)]
def T_X6_kindFor (call : ip_Cl) : List ip_B := [
  ([oLdA 0, oLdI 1, oCaV call 0 0 6 123 2 0 0], tIf (fun a => a = 0) 2 1),
  ([oLdI 2, oI (1), oI (30), oCal call 0 0 120 3 0 0], tIf (fun a => a = 0) 2 3),
  ([oI (-1)], tRI .int 0 0),
  ([oLdA 0, oGet 6 0, oLdA 0, oGet 6 3, oCal call 0 0 122 2 0 0, oI (0), oStI 3, oI (-1), oStI 4, oI (0), oStI 5], tGo 4),
  ([oLdI 5, oI (5)], tCm (fun a b => b < a) 12 5),
  ([oLdA 0, oLdI 1, oI (0), oLdI 5, oCaV call 0 0 6 125 4 0 0, oLdA 0, oLdI 1, oLdI 2, oCaV call 0 0 6 178 3 0 0, oStI 6, oLdI 6, oLdI 4], tCm (fun a b => b < a) 6 7),
  ([oLdI 5], tGo 8),
  ([oLdI 3], tGo 8),
  ([oStI 3, oLdI 6, oLdI 4], tCm (fun a b => b < a) 9 10),
  ([oLdI 6], tGo 11),
  ([oLdI 4], tGo 11),
  ([oStI 4, oInc 5 (1)], tGo 4),
  ([oLdI 3], tRI .int 0 0)]
def T_X6_turnedFor (call : ip_Cl) : List ip_B := [
  ([oLdA 0, oLdI 1, oCaV call 0 0 6 123 2 0 0], tIf (fun a => a = 0) 2 1),
  ([oLdI 2, oI (1), oI (30), oCal call 0 0 120 3 0 0], tIf (fun a => a = 0) 2 3),
  ([oI (-1)], tRI .int 0 0),
  ([oLdA 0, oGet 6 0, oLdA 0, oGet 6 3, oCal call 0 0 122 2 0 0, oI (-3), oStI 3, oLdA 0, oLdI 1, oLdI 2, oCaV call 0 0 6 178 3 0 0, oStI 4, oI (0), oStI 5], tGo 4),
  ([oLdI 5, oI (8)], tCm (fun a b => a < b) 5 12),
  ([oLdA 0, oGet 6 0, oI (5), oDp2, oAldI, oI (1), oLdI 5, oBI (fun a b => a <<< (b &&& 31)), oBI (fun a b => a ^^^ b), oAstI, oLdA 0, oLdI 1, oLdI 2, oCaV call 0 0 6 178 3 0 0, oStI 6, oLdI 6, oLdI 4], tCm (fun a b => b < a) 6 7),
  ([oLdI 5], tGo 8),
  ([oLdI 3], tGo 8),
  ([oStI 3, oLdI 6, oLdI 4], tCm (fun a b => b < a) 9 10),
  ([oLdI 6], tGo 11),
  ([oLdI 4], tGo 11),
  ([oStI 4, oInc 5 (1)], tGo 4),
  ([oLdI 3], tRI .int 0 0)]
def T_X6_loadFor (call : ip_Cl) : List ip_B := [
  ([oLdA 0, oLdI 1, oCaV call 0 0 6 123 2 0 0], tIf (fun a => a = 0) 2 1),
  ([oLdI 2, oI (1), oI (30), oCal call 0 0 120 3 0 0], tIf (fun a => a = 0) 2 3),
  ([oI (-1)], tRI .int 0 0),
  ([oLdA 0, oGet 6 0, oLdA 0, oGet 6 3, oCal call 0 0 122 2 0 0, oI (100), oStI 3, oI (0), oStI 4], tGo 4),
  ([oLdI 3], tIf (fun a => 0 < a) 5 10),
  ([oLdI 4], tIf (fun a => a = 0) 6 10),
  ([oInc 3 (-1), oLdA 0, oLdI 1, oI (1), oLdI 3, oCaV call 0 0 6 125 4 0 0, oLdA 0, oLdI 1, oLdI 2, oCaV call 0 0 6 178 3 0 0, oI (20)], tCm (fun a b => a = b) 7 8),
  ([oI (1)], tGo 9),
  ([oI (0)], tGo 9),
  ([oStI 4], tGo 4),
  ([oLdI 4], tIf (fun a => a = 0) 12 11),
  ([oLdI 3], tGo 13),
  ([oI (-3)], tGo 13),
  ([], tRI .int 0 0)]
def T_X6_both (call : ip_Cl) : List ip_B := [
  ([oLdA 0, oLdI 1, oCaV call 0 0 6 123 2 0 0], tIf (fun a => a = 0) 4 1),
  ([oLdA 0, oLdI 2, oCaV call 0 0 6 123 2 0 0], tIf (fun a => a = 0) 4 2),
  ([oLdI 1, oLdI 2], tCm (fun a b => a = b) 4 3),
  ([oLdI 3, oI (0), oI (1), oCal call 0 0 120 3 0 0], tIf (fun a => a = 0) 4 5),
  ([oI (-1)], tRI .int 0 0),
  ([oLdI 3], tIf (fun a => a = 0) 6 7),
  ([oLdA 0, oLdI 1, oLdI 2, oCaV call 0 0 6 172 3 0 0], tGo 8),
  ([oLdA 0, oLdI 1, oLdI 2, oCaV call 0 0 6 171 3 0 0], tGo 8),
  ([], tRI .int 0 0)]
def T_X6_isSo (call : ip_Cl) : List ip_B := [
  ([oI (1), oStI 3, oI (0), oStI 4], tGo 1),
  ([oLdI 4, oLdA 0, oGet 6 17, oLdI 1, oAldI], tCm (fun a b => a < b) 2 8),
  ([oLdI 3], tIf (fun a => a = 0) 8 3),
  ([oLdA 0, oLdI 2, oCaV call 0 0 6 177 2 0 0, oLdA 0, oGet 6 18, oI (40), oLdI 1, oBI (fun a b => a * b), oLdI 4, oBI (fun a b => a + b), oAldL, oL (-1), oCmpL], tIf (fun a => a = 0) 5 4),
  ([oLdA 0, oGet 6 18, oI (40), oLdI 1, oBI (fun a b => a * b), oLdI 4, oBI (fun a b => a + b), oAldL, oLdA 0, oLdI 2, oI (2), oCaV call 0 0 6 124 3 0 0, oIL, oCmpL], tIf (fun a => a = 0) 5 6),
  ([oI (1)], tGo 7),
  ([oI (0)], tGo 7),
  ([oStI 3, oInc 4 (1)], tGo 1),
  ([oLdA 0, oGet 6 3, oLdA 0, oGet 6 0, oCal call 0 0 122 2 0 0, oLdI 3], tRI .boolean 0 0)]
def T_X6_fits (call : ip_Cl) : List ip_B := [
  ([oLdI 1, oCal call 0 0 202 1 0 0], tIf (fun a => a = 0) 3 1),
  ([oLdA 0, oLdI 2, oCaV call 0 0 6 123 2 0 0], tIf (fun a => a = 0) 3 2),
  ([oLdI 3, oI (0), oI (1), oCal call 0 0 120 3 0 0], tIf (fun a => a = 0) 3 4),
  ([oI (-1)], tRI .int 0 0),
  ([oLdA 0, oGet 6 16, oLdI 1, oAldI], tIf (fun a => a < 0) 5 6),
  ([oI (-11)], tRI .int 0 0),
  ([oLdA 0, oGet 6 0, oLdA 0, oGet 6 3, oCal call 0 0 122 2 0 0, oI (0), oStI 4, oI (-3), oStI 5, oI (255), oStI 6], tGo 7),
  ([oLdI 6], tIf (fun a => a < 0) 15 8),
  ([oLdA 0, oGet 6 0, oI (5), oLdI 6, oAstI, oLdA 0, oLdI 1, oLdI 2, oCaV call 0 0 6 189 3 0 0, oStI 7, oLdI 4, oLdI 7], tIf (fun a => a = 0) 10 9),
  ([oI (1)], tGo 11),
  ([oI (0)], tGo 11),
  ([oBI (fun a b => a + b), oStI 4, oLdI 7], tIf (fun a => a = 0) 13 12),
  ([oLdI 6], tGo 14),
  ([oLdI 5], tGo 14),
  ([oStI 5, oInc 6 (-1)], tGo 7),
  ([oLdI 3], tIf (fun a => a = 0) 16 17),
  ([oLdI 4], tGo 18),
  ([oLdI 5], tGo 18),
  ([], tRI .int 0 0)]
def T_X6_lowest (call : ip_Cl) : List ip_B := [
  ([oLdL 2, oStL 5, oLdL 0, oStL 7], tGo 1),
  ([oLdL 7, oL 0, oCmpL], tIf (fun a => a = 0) 3 2),
  ([oLdL 5, oLdL 7, oDL (fun a b => a - a / b * b), oStL 9, oLdL 7, oStL 5, oLdL 9, oStL 7], tGo 1),
  ([oLdI 4], tIf (fun a => a = 0) 4 5),
  ([oLdL 0, oLdL 5, oDL (fun a b => a / b)], tGo 6),
  ([oLdL 2, oLdL 5, oDL (fun a b => a / b)], tGo 6),
  ([], tRL 0 0)]
def T_X6_powerOf (call : ip_Cl) : List ip_B := [
  ([oL 1, oStL 2, oI (0), oStI 4], tGo 1),
  ([oLdI 4, oLdI 1], tCm (fun a b => a < b) 2 3),
  ([oLdL 2, oLdI 0, oIL, oBL (fun a b => a * b), oStL 2, oInc 4 (1)], tGo 1),
  ([oLdL 2], tRL 0 0)]
def T_X6_odds (call : ip_Cl) : List ip_B := [
  ([oLdI 1, oI (0), oI (8), oCal call 0 0 120 3 0 0], tIf (fun a => a = 0) 3 1),
  ([oLdI 2, oI (0), oLdI 1, oCal call 0 0 120 3 0 0], tIf (fun a => a = 0) 3 2),
  ([oLdI 3, oI (0), oI (1), oCal call 0 0 120 3 0 0], tIf (fun a => a = 0) 3 4),
  ([oL (-1)], tRL 0 0),
  ([oL 1, oStL 4, oI (0), oStI 6], tGo 5),
  ([oLdI 6, oLdI 2], tCm (fun a b => a < b) 6 7),
  ([oLdL 4, oLdI 1, oLdI 6, oBI (fun a b => a - b), oIL, oBL (fun a b => a * b), oLdI 6, oI (1), oBI (fun a b => a + b), oIL, oDL (fun a b => a / b), oStL 4, oInc 6 (1)], tGo 5),
  ([oLdL 4, oLdA 0, oGet 6 0, oI (3), oAldI, oLdI 2, oCal call 0 0 192 2 0 0, oBL (fun a b => a * b), oI (100), oLdA 0, oGet 6 0, oI (3), oAldI, oBI (fun a b => a - b), oLdI 1, oLdI 2, oBI (fun a b => a - b), oCal call 0 0 192 2 0 0, oBL (fun a b => a * b), oI (100), oLdI 1, oCal call 0 0 192 2 0 0, oLdI 3, oCal call 0 0 191 3 0 0], tRL 0 0)]
def T_X6_hope (call : ip_Cl) : List ip_B := [
  ([oLdI 1, oI (0), oI (99), oCal call 0 0 120 3 0 0], tIf (fun a => a = 0) 3 1),
  ([oLdI 2, oI (0), oI (1), oCal call 0 0 120 3 0 0], tIf (fun a => a = 0) 3 2),
  ([oLdI 1, oIL, oLdA 0, oGet 6 0, oI (3), oAldI, oIL, oBL (fun a b => a * b), oL (100), oLdI 2, oCal call 0 0 191 3 0 0], tGo 4),
  ([oL (-1)], tGo 4),
  ([], tRL 0 0)]
def T_X6_findRows (call : ip_Cl) : List ip_B := [
  ([oLdA 0, oGet 6 0, oLdA 0, oGet 6 3, oCal call 0 0 122 2 0 0, oI (0), oStI 3], tGo 1),
  ([oLdI 3, oLdI 2], tCm (fun a b => a < b) 2 3),
  ([oLdA 0, oCaV call 0 0 6 162 1 0 0, oLdA 0, oGet 6 14, oI (3), oLdI 3, oBI (fun a b => a * b), oLdA 0, oLdI 1, oI (2), oCaV call 0 0 6 124 3 0 0, oAstI, oLdA 0, oGet 6 14, oI (3), oLdI 3, oBI (fun a b => a * b), oI (1), oBI (fun a b => a + b), oLdA 0, oLdI 1, oI (5), oCaV call 0 0 6 124 3 0 0, oAstI, oLdA 0, oGet 6 14, oI (3), oLdI 3, oBI (fun a b => a * b), oI (2), oBI (fun a b => a + b), oLdA 0, oCaV call 0 0 6 163 1 0 0, oCal call 0 0 127 1 0 0, oAstI, oInc 3 (1)], tGo 1),
  ([oLdA 0, oGet 6 3, oLdA 0, oGet 6 0, oCal call 0 0 122 2 0 0], tRV 0 0)]
def T_X6_prove (call : ip_Cl) : List ip_B := [
  ([oLdA 0, oLdI 1, oCaV call 0 0 6 123 2 0 0], tIf (fun a => a = 0) 2 1),
  ([oLdI 2, oI (1), oI (10), oCal call 0 0 120 3 0 0], tIf (fun a => a = 0) 2 3),
  ([oI (-1)], tRI .int 0 0),
  ([oLdA 0, oLdI 1, oLdI 2, oCaV call 0 0 6 195 3 0 0, oLdA 0, oLdI 2, oPut 6 15 .int, oI (0), oStI 3], tGo 4),
  ([oLdI 3, oI (3), oLdI 2, oBI (fun a b => a * b)], tCm (fun a b => a < b) 5 6),
  ([oLdA 0, oGet 6 13, oLdI 3, oLdA 0, oGet 6 14, oLdI 3, oAldI, oAstI, oInc 3 (1)], tGo 4),
  ([oLdI 2], tRI .int 0 0)]
def T_X6_isRow (call : ip_Cl) : List ip_B := [
  ([oLdI 1, oI (0), oLdA 0, oGet 6 15, oI (1), oBI (fun a b => a - b), oCal call 0 0 120 3 0 0], tIf (fun a => a = 0) 3 1),
  ([oLdI 2, oI (0), oI (2), oCal call 0 0 120 3 0 0], tIf (fun a => a = 0) 3 2),
  ([oI (1)], tGo 4),
  ([oI (0)], tGo 4),
  ([], tRI .boolean 0 0)]
def T_X6_row (call : ip_Cl) : List ip_B := [
  ([oLdA 0, oLdI 1, oLdI 2, oCaV call 0 0 6 197 3 0 0], tIf (fun a => a = 0) 2 1),
  ([oLdA 0, oGet 6 13, oI (3), oLdI 1, oBI (fun a b => a * b), oLdI 2, oBI (fun a b => a + b), oAldI], tGo 3),
  ([oI (-9)], tGo 3),
  ([], tRI .int 0 0)]
def T_X6_alterRow (call : ip_Cl) : List ip_B := [
  ([oLdA 0, oLdI 1, oLdI 2, oCaV call 0 0 6 197 3 0 0], tIf (fun a => a = 0) 1 2),
  ([oI (-9)], tRI .int 0 0),
  ([oLdA 0, oGet 6 13, oI (3), oLdI 1, oBI (fun a b => a * b), oLdI 2, oBI (fun a b => a + b), oAldI, oStI 4, oLdA 0, oGet 6 13, oI (3), oLdI 1, oBI (fun a b => a * b), oLdI 2, oBI (fun a b => a + b), oLdI 3, oAstI, oLdI 4], tRI .int 0 0)]
def T_X6_judge (call : ip_Cl) : List ip_B := [
  ([oLdA 0, oLdI 1, oCaV call 0 0 6 123 2 0 0], tIf (fun a => a = 0) 1 2),
  ([oI (-1)], tRI .int 0 0),
  ([oLdA 0, oLdI 1, oLdA 0, oGet 6 15, oCaV call 0 0 6 195 3 0 0, oI (0), oStI 2], tGo 3),
  ([oLdI 2, oI (3), oLdA 0, oGet 6 15, oBI (fun a b => a * b)], tCm (fun a b => a < b) 4 7),
  ([oLdA 0, oGet 6 13, oLdI 2, oAldI, oLdA 0, oGet 6 14, oLdI 2, oAldI], tCm (fun a b => a = b) 6 5),
  ([oLdI 2, oI (3), oDI (fun a b => a / b), oI (1), oBI (fun a b => a + b)], tRI .int 0 0),
  ([oInc 2 (1)], tGo 3),
  ([oI (0)], tRI .int 0 0)]
def T_X6_minds (call : ip_Cl) : List ip_B := [
  ([oLdI 1, oCal call 0 0 202 1 0 0], tIf (fun a => a = 0) 4 1),
  ([oLdA 0, oLdI 3, oCaV call 0 0 6 123 2 0 0], tIf (fun a => a = 0) 4 2),
  ([oLdI 4, oI (0), oI (8), oCal call 0 0 120 3 0 0], tIf (fun a => a = 0) 4 3),
  ([oLdI 4, oLdA 0, oGet 6 0, oI (6), oAldI, oLdI 3, oBI (fun a b => a - b)], tCm (fun a b => b < a) 4 5),
  ([oI (-1)], tRI .int 0 0),
  ([oLdA 0, oLdI 1, oI (0), oCaV call 0 0 6 205 3 0 0, oStI 5, oLdI 5], tIf (fun a => a = 0) 7 6),
  ([oLdI 5], tRI .int 0 0),
  ([oLdI 2], tIf (fun a => a < 0) 9 8),
  ([oLdI 2, oLdA 0, oGet 6 17, oLdI 1, oAldI, oLdI 4, oBI (fun a b => a - b)], tCm (fun a b => b < a) 9 10),
  ([oI (-12)], tRI .int 0 0),
  ([oI (0), oStI 6], tGo 11),
  ([oLdI 6, oLdI 4], tCm (fun a b => a < b) 12 13),
  ([oLdA 0, oLdI 3, oLdI 6, oBI (fun a b => a + b), oI (1), oLdA 0, oGet 6 18, oI (40), oLdI 1, oBI (fun a b => a * b), oLdI 2, oBI (fun a b => a + b), oLdI 6, oBI (fun a b => a + b), oAldL, oLI, oI (0), oI (99), oCal call 0 0 121 3 0 0, oCaV call 0 0 6 125 4 0 0, oInc 6 (1)], tGo 11),
  ([oLdI 4], tRI .int 0 0)]
def T_X6_isShelf (call : ip_Cl) : List ip_B := [
  ([oLdI 0, oI (0), oI (3), oCal call 0 0 120 3 0 0], tRI .boolean 0 0)]
def T_X6_sheet (call : ip_Cl) : List ip_B := [
  ([oLdI 1, oCal call 0 0 202 1 0 0], tIf (fun a => a = 0) 4 1),
  ([oLdI 2, oI (-1), oI (3), oCal call 0 0 120 3 0 0], tIf (fun a => a = 0) 4 2),
  ([oLdI 2], tIf (fun a => a < 0) 5 3),
  ([oLdI 3, oI (40)], tCm (fun a b => b < a) 4 5),
  ([oI (-1)], tRI .int 0 0),
  ([oLdI 2], tIf (fun a => a < 0) 8 6),
  ([oLdI 3], tIf (fun a => a < 0) 7 8),
  ([oI (-14)], tRI .int 0 0),
  ([oLdA 0, oGet 6 16, oLdI 1, oLdI 2, oAstI, oLdA 0, oGet 6 17, oLdI 1, oLdI 2], tIf (fun a => a < 0) 9 10),
  ([oI (0)], tGo 11),
  ([oLdI 3], tGo 11),
  ([oAstI, oI (0), oStI 4], tGo 12),
  ([oLdI 4, oI (40)], tCm (fun a b => a < b) 13 14),
  ([oLdA 0, oGet 6 18, oI (40), oLdI 1, oBI (fun a b => a * b), oLdI 4, oBI (fun a b => a + b), oL 0, oAstL, oInc 4 (1)], tGo 12),
  ([oI (1)], tRI .int 0 0)]
def T_X6_put (call : ip_Cl) : List ip_B := [
  ([oLdI 1, oCal call 0 0 202 1 0 0], tIf (fun a => a = 0) 1 2),
  ([oI (-1)], tRI .int 0 0),
  ([oLdA 0, oGet 6 16, oLdI 1, oAldI], tIf (fun a => a < 0) 3 4),
  ([oI (-11)], tRI .int 0 0),
  ([oLdI 2, oI (0), oLdA 0, oGet 6 17, oLdI 1, oAldI, oI (1), oBI (fun a b => a - b), oCal call 0 0 120 3 0 0], tIf (fun a => a = 0) 5 6),
  ([oI (-12)], tRI .int 0 0),
  ([oLdA 0, oGet 6 18, oI (40), oLdI 1, oBI (fun a b => a * b), oLdI 2, oBI (fun a b => a + b), oLdA 0, oGet 6 16, oLdI 1, oAldI], tIf (fun a => a = 0) 7 8),
  ([oLdI 3, oUI (fun a => a.toInt8.toInt32), oIL], tGo 11),
  ([oLdA 0, oGet 6 16, oLdI 1, oAldI, oI (1)], tCm (fun a b => a = b) 9 10),
  ([oLdI 3, oUI (fun a => a.toInt16.toInt32), oIL], tGo 11),
  ([oLdI 3, oIL], tGo 11),
  ([oAstL, oI (1)], tRI .int 0 0)]
def T_X6_lacksSort (call : ip_Cl) : List ip_B := [
  ([oLdA 0, oGet 6 16, oLdI 1, oAldI], tIf (fun a => a < 0) 1 2),
  ([oI (-11)], tGo 5),
  ([oLdA 0, oGet 6 16, oLdI 1, oAldI, oLdI 2], tCm (fun a b => a = b) 4 3),
  ([oI (-13)], tGo 5),
  ([oI (0)], tGo 5),
  ([], tRI .int 0 0)]
def T_X6_item (call : ip_Cl) : List ip_B := [
  ([oLdI 1, oCal call 0 0 202 1 0 0], tIf (fun a => a = 0) 2 1),
  ([oLdI 2, oI (0), oI (3), oCal call 0 0 120 3 0 0], tIf (fun a => a = 0) 2 3),
  ([oI (-1)], tRI .int 0 0),
  ([oLdA 0, oLdI 1, oLdI 2, oCaV call 0 0 6 205 3 0 0, oStI 4, oLdI 4], tIf (fun a => a = 0) 5 4),
  ([oLdI 4], tRI .int 0 0),
  ([oLdI 3, oI (0), oLdA 0, oGet 6 17, oLdI 1, oAldI, oI (1), oBI (fun a b => a - b), oCal call 0 0 120 3 0 0], tIf (fun a => a = 0) 7 6),
  ([oLdA 0, oGet 6 18, oI (40), oLdI 1, oBI (fun a b => a * b), oLdI 3, oBI (fun a b => a + b), oAldL, oLI], tGo 8),
  ([oI (-12)], tGo 8),
  ([], tRI .int 0 0)]
def T_X6_isHeld (call : ip_Cl) : List ip_B := [
  ([oLdI 1], tIf (fun a => a = 0) 1 2),
  ([oLdA 0, oLdI 2, oCaV call 0 0 6 123 2 0 0], tGo 7),
  ([oLdI 1, oI (1)], tCm (fun a b => a = b) 3 4),
  ([oLdI 2, oCal call 0 0 202 1 0 0], tGo 7),
  ([oLdI 1, oI (2)], tCm (fun a b => a = b) 5 6),
  ([oI (1)], tGo 7),
  ([oI (0)], tGo 7),
  ([], tRI .boolean 0 0)]
def T_X6_shelf (call : ip_Cl) : List ip_B := [
  ([oLdI 1, oCal call 0 0 202 1 0 0], tIf (fun a => a = 0) 2 1),
  ([oLdA 0, oLdI 2, oLdI 3, oCaV call 0 0 6 207 3 0 0], tIf (fun a => a = 0) 2 3),
  ([oI (-1)], tRI .int 0 0),
  ([oLdA 0, oGet 6 19, oLdI 1, oLdI 2, oI (2)], tCm (fun a b => a = b) 6 4),
  ([oLdI 2, oI (1)], tCm (fun a b => a = b) 5 7),
  ([oLdA 0, oGet 6 16, oLdI 3, oAldI], tIf (fun a => a < 0) 6 7),
  ([oI (-1)], tGo 8),
  ([oLdI 2], tGo 8),
  ([oAstI, oLdA 0, oGet 6 20, oLdI 1, oLdI 2, oI (1)], tCm (fun a b => a = b) 9 10),
  ([oLdA 0, oGet 6 16, oLdI 3, oAldI], tGo 11),
  ([oLdI 3], tGo 11),
  ([oAstI, oLdA 0, oGet 6 21, oLdI 1, oLdI 2, oI (1)], tCm (fun a b => a = b) 12 13),
  ([oLdA 0, oGet 6 17, oLdI 3, oAldI], tGo 14),
  ([oI (0)], tGo 14),
  ([oAstI, oI (1)], tRI .int 0 0)]
def T_X6_kindOn (call : ip_Cl) : List ip_B := [
  ([oLdA 0, oGet 6 19, oLdI 1, oAldI], tIf (fun a => a = 0) 5 1),
  ([oLdA 0, oGet 6 19, oLdI 1, oAldI], tIf (fun a => a < 0) 2 3),
  ([oI (-1)], tGo 4),
  ([oI (9)], tGo 4),
  ([], tRI .int 0 0),
  ([oLdA 0, oLdA 0, oGet 6 20, oLdI 1, oAldI, oCaV call 0 0 6 123 2 0 0], tIf (fun a => a = 0) 7 6),
  ([oLdA 0, oLdA 0, oGet 6 20, oLdI 1, oAldI, oI (0), oCaV call 0 0 6 124 3 0 0], tGo 8),
  ([oI (-1)], tGo 8),
  ([], tRI .int 0 0)]
def T_X6_isUnder (call : ip_Cl) : List ip_B := [
  ([oLdI 1], tIf (fun a => a = 0) 6 1),
  ([oLdI 1, oLdI 0], tCm (fun a b => a = b) 6 2),
  ([oLdI 1, oI (1)], tCm (fun a b => a = b) 3 4),
  ([oLdI 0, oI (3)], tCm (fun a b => a = b) 6 4),
  ([oLdI 1, oI (2)], tCm (fun a b => a = b) 5 7),
  ([oLdI 0, oI (4)], tCm (fun a b => a = b) 6 7),
  ([oI (1)], tGo 8),
  ([oI (0)], tGo 8),
  ([], tRI .boolean 0 0)]
def T_X6_taken (call : ip_Cl) : List ip_B := [
  ([oLdI 1, oCal call 0 0 202 1 0 0], tIf (fun a => a = 0) 3 1),
  ([oLdI 2, oI (0), oI (5), oCal call 0 0 120 3 0 0], tIf (fun a => a = 0) 2 4),
  ([oLdI 2, oI (10), oI (13), oCal call 0 0 120 3 0 0], tIf (fun a => a = 0) 3 4),
  ([oI (-1)], tRI .int 0 0),
  ([oLdA 0, oLdI 1, oCaV call 0 0 6 209 2 0 0, oStI 3, oLdI 3], tIf (fun a => a < 0) 5 6),
  ([oI (-11)], tRI .int 0 0),
  ([oLdI 3, oI (9)], tCm (fun a b => a = b) 7 11),
  ([oLdI 2, oI (10), oLdA 0, oGet 6 20, oLdI 1, oAldI, oBI (fun a b => a + b)], tCm (fun a b => a = b) 8 9),
  ([oLdA 0, oGet 6 21, oLdI 1, oAldI], tGo 10),
  ([oI (-13)], tGo 10),
  ([], tRI .int 0 0),
  ([oLdI 2, oI (10)], tCm (fun a b => a < b) 12 14),
  ([oLdI 3, oLdI 2, oCal call 0 0 210 2 0 0], tIf (fun a => a = 0) 14 13),
  ([oLdA 0, oGet 6 20, oLdI 1, oAldI], tGo 15),
  ([oI (-13)], tGo 15),
  ([], tRI .int 0 0)]
def T_X6_ran (call : ip_Cl) : List ip_B := [
  ([oLdA 0, oGet 6 26, oI (30)], tCm (fun a b => a < b) 1 2),
  ([oLdA 0, oGet 6 25, oLdA 0, oGet 6 26, oLdI 1, oAstI, oLdA 0, oDup, oGet 6 26, oI (1), oBI (fun a b => a + b), oPut 6 26 .int], tGo 2),
  ([], tRV 0 0)]
def T_X6_plainLeans (call : ip_Cl) : List ip_B := [
  ([oLdA 0, oI (10), oCaV call 0 0 6 212 2 0 0, oLdI 1, oI (8), oBI (fun a b => a * b), oLdA 0, oGet 6 23, oBI (fun a b => a - b)], tRI .int 0 0)]
def T_X6_childLeans (call : ip_Cl) : List ip_B := [
  ([oLdA 0, oI (30), oCaV call 0 0 6 212 2 0 0, oLdA 0, oLdI 1, oCaV call 0 0 6 213 2 0 0, oI (7), oBI (fun a b => a + b)], tRI .int 0 0)]
def T_X6_leansIt (call : ip_Cl) : List ip_B := [
  ([oLdA 0, oGet 6 22], tSw [(2, 1), (3, 3), (4, 2)] 4),
  ([oLdA 0, oLdI 1, oCaV call 0 0 6 214 2 0 0], tRI .int 0 0),
  ([oLdA 0, oI (40), oCaV call 0 0 6 212 2 0 0, oLdA 0, oLdI 1, oCaV call 0 0 6 214 2 0 0, oI (2), oBI (fun a b => a * b)], tRI .int 0 0),
  ([oLdA 0, oI (51), oCaV call 0 0 6 212 2 0 0, oLdA 0, oLdI 1, oCaV call 0 0 6 213 2 0 0, oI (3), oBI (fun a b => a ^^^ b)], tRI .int 0 0),
  ([oLdA 0, oLdI 1, oCaV call 0 0 6 213 2 0 0], tRI .int 0 0)]
def T_X6_plainSways (call : ip_Cl) : List ip_B := [
  ([oLdA 0, oI (11), oCaV call 0 0 6 212 2 0 0, oLdA 0, oLdI 1, oCaV call 0 0 6 215 2 0 0, oLdA 0, oGet 6 24, oBI (fun a b => a + b)], tRI .int 0 0)]
def T_X6_swaysIt (call : ip_Cl) : List ip_B := [
  ([oLdA 0, oGet 6 22, oI (1)], tCm (fun a b => a = b) 2 1),
  ([oLdA 0, oGet 6 22, oI (3)], tCm (fun a b => a = b) 2 3),
  ([oLdA 0, oI (20), oCaV call 0 0 6 212 2 0 0, oLdA 0, oLdI 1, oCaV call 0 0 6 216 2 0 0, oUI (fun a => -a)], tRI .int 0 0),
  ([oLdA 0, oGet 6 22, oI (4)], tCm (fun a b => a = b) 4 5),
  ([oLdA 0, oI (41), oCaV call 0 0 6 212 2 0 0, oLdA 0, oLdI 1, oCaV call 0 0 6 216 2 0 0, oStI 2, oLdI 2, oLdA 0, oLdA 0, oGet 6 24, oCaV call 0 0 6 215 2 0 0, oBI (fun a b => a - b)], tRI .int 0 0),
  ([oLdA 0, oLdI 1, oCaV call 0 0 6 216 2 0 0], tRI .int 0 0)]
def T_X6_plainParts (call : ip_Cl) : List ip_B := [
  ([oLdA 0, oI (12), oCaV call 0 0 6 212 2 0 0, oLdA 0, oGet 6 24, oLdA 0, oGet 6 23], tCm (fun a b => a = b) 1 2),
  ([oLdA 0, oI (1), oPut 6 27 .boolean, oI (0)], tRI .int 0 0),
  ([oLdI 1, oLdA 0, oGet 6 24, oLdA 0, oGet 6 23, oBI (fun a b => a - b), oDI (fun a b => a / b)], tRI .int 0 0)]
def T_X6_partsIt (call : ip_Cl) : List ip_B := [
  ([oLdA 0, oGet 6 22, oI (3)], tCm (fun a b => a = b) 1 2),
  ([oLdA 0, oI (50), oCaV call 0 0 6 212 2 0 0, oLdA 0, oLdI 1, oI (4), oBI (fun a b => a + b), oCaV call 0 0 6 218 2 0 0, oLdA 0, oGet 6 23, oBI (fun a b => a - b)], tRI .int 0 0),
  ([oLdA 0, oGet 6 22, oI (5)], tCm (fun a b => a = b) 3 7),
  ([oLdA 0, oI (61), oCaV call 0 0 6 212 2 0 0, oLdA 0, oLdI 1, oCaV call 0 0 6 218 2 0 0, oStI 2, oLdA 0, oGet 6 27], tIf (fun a => a = 0) 5 4),
  ([oI (0)], tGo 6),
  ([oLdI 2, oLdA 0, oLdA 0, oGet 6 23, oCaV call 0 0 6 215 2 0 0, oBI (fun a b => a + b)], tGo 6),
  ([], tRI .int 0 0),
  ([oLdA 0, oLdI 1, oCaV call 0 0 6 218 2 0 0], tRI .int 0 0)]
def T_X6_plainTreads (call : ip_Cl) : List ip_B := [
  ([oLdA 0, oI (13), oCaV call 0 0 6 212 2 0 0, oLdA 0, oLdI 1, oCaV call 0 0 6 217 2 0 0, oI (110), oBI (fun a b => a ^^^ b)], tRI .int 0 0)]
def T_X6_treadsIt (call : ip_Cl) : List ip_B := [
  ([oLdA 0, oGet 6 22, oI (2)], tCm (fun a b => a = b) 2 1),
  ([oLdA 0, oGet 6 22, oI (4)], tCm (fun a b => a = b) 2 3),
  ([oLdA 0, oI (31), oCaV call 0 0 6 212 2 0 0, oLdA 0, oLdI 1, oCaV call 0 0 6 220 2 0 0, oStI 2, oLdI 2, oLdA 0, oLdA 0, oGet 6 23, oCaV call 0 0 6 219 2 0 0, oBI (fun a b => a - b)], tRI .int 0 0),
  ([oLdA 0, oGet 6 22, oI (5)], tCm (fun a b => a = b) 4 5),
  ([oLdA 0, oI (60), oCaV call 0 0 6 212 2 0 0, oLdA 0, oLdI 1, oCaV call 0 0 6 220 2 0 0, oI (4), oBI (fun a b => a * b)], tRI .int 0 0),
  ([oLdA 0, oLdI 1, oCaV call 0 0 6 220 2 0 0], tRI .int 0 0)]
def T_X6_act (call : ip_Cl) : List ip_B := [
  ([oLdA 0, oI (0), oPut 6 26 .int, oLdI 1, oCal call 0 0 202 1 0 0], tIf (fun a => a = 0) 2 1),
  ([oLdA 0, oLdI 1, oCaV call 0 0 6 209 2 0 0], tGo 3),
  ([oI (-1)], tGo 3),
  ([oStI 4, oLdI 2, oI (0), oI (3), oCal call 0 0 120 3 0 0], tIf (fun a => a = 0) 5 4),
  ([oLdI 4, oI (0), oI (5), oCal call 0 0 120 3 0 0], tIf (fun a => a = 0) 5 6),
  ([oI (0)], tRI .int 0 0),
  ([oLdA 0, oLdI 4, oPut 6 22 .int, oLdA 0, oLdA 0, oGet 6 20, oLdI 1, oAldI, oPut 6 23 .int, oLdA 0, oLdA 0, oLdA 0, oGet 6 23, oI (2), oCaV call 0 0 6 124 3 0 0, oPut 6 24 .int, oLdA 0, oI (0), oPut 6 27 .boolean, oLdI 2], tIf (fun a => a = 0) 7 8),
  ([oLdA 0, oLdI 3, oCaV call 0 0 6 215 2 0 0], tGo 13),
  ([oLdI 2, oI (1)], tCm (fun a b => a = b) 9 10),
  ([oLdA 0, oLdI 3, oCaV call 0 0 6 217 2 0 0], tGo 13),
  ([oLdI 2, oI (2)], tCm (fun a b => a = b) 11 12),
  ([oLdA 0, oLdI 3, oCaV call 0 0 6 219 2 0 0], tGo 13),
  ([oLdA 0, oLdI 3, oCaV call 0 0 6 221 2 0 0], tGo 13),
  ([oStI 5, oLdA 0, oGet 6 27], tIf (fun a => a = 0) 15 14),
  ([oI (-15)], tGo 16),
  ([oLdI 5], tGo 16),
  ([], tRI .int 0 0)]
def T_X6_trace (call : ip_Cl) : List ip_B := [
  ([oLdI 1, oI (0), oLdA 0, oGet 6 26, oI (1), oBI (fun a b => a - b), oCal call 0 0 120 3 0 0], tIf (fun a => a = 0) 2 1),
  ([oLdA 0, oGet 6 25, oLdI 1, oAldI], tGo 3),
  ([oI (-3)], tGo 3),
  ([], tRI .int 0 0)]
def T_X6_many (call : ip_Cl) : List ip_B := [
  ([oLdI 1], tSw [(0, 1), (1, 2), (2, 3), (3, 4), (4, 5), (5, 6), (6, 7)] 8),
  ([oLdA 0, oGet 6 0, oI (6), oAldI], tRI .int 0 0),
  ([oLdA 0, oCaV call 0 0 6 163 1 0 0, oCal call 0 0 127 1 0 0], tRI .int 0 0),
  ([oLdA 0, oCaV call 0 0 6 164 1 0 0, oCal call 0 0 127 1 0 0], tRI .int 0 0),
  ([oLdA 0, oGet 6 0, oI (5), oAldI, oCal call 0 0 127 1 0 0], tRI .int 0 0),
  ([oLdA 0, oGet 6 15], tRI .int 0 0),
  ([oLdA 0, oGet 6 6], tRI .int 0 0),
  ([oLdA 0, oGet 6 26], tRI .int 0 0),
  ([oI (-1)], tRI .int 0 0)]
def T_X6_keep (call : ip_Cl) : List ip_B := [
  ([oLdA 0, oGet 6 0, oLdA 0, oGet 6 2, oCal call 0 0 122 2 0 0, oLdA 0, oI (1), oPut 6 4 .boolean, oI (1)], tRI .int 0 0)]
def T_X6_again (call : ip_Cl) : List ip_B := [
  ([oLdA 0, oGet 6 4], tIf (fun a => a = 0) 1 2),
  ([oI (-3)], tRI .int 0 0),
  ([oLdA 0, oGet 6 2, oLdA 0, oGet 6 0, oCal call 0 0 122 2 0 0, oLdA 0, oGet 6 0, oI (6), oAldI], tRI .int 0 0)]
def T_J6_bitCount_0f7a4 (call : ip_Cl) : List ip_B := [
  ([oLdI 0, oLdI 0, oI (1), oBI (fun a b => (a.toUInt32 >>> (b.toUInt32 &&& Int32.toUInt32 31)).toInt32), oI (1431655765), oBI (fun a b => a &&& b), oBI (fun a b => a - b), oStI 0, oLdI 0, oI (858993459), oBI (fun a b => a &&& b), oLdI 0, oI (2), oBI (fun a b => (a.toUInt32 >>> (b.toUInt32 &&& Int32.toUInt32 31)).toInt32), oI (858993459), oBI (fun a b => a &&& b), oBI (fun a b => a + b), oStI 0, oLdI 0, oLdI 0, oI (4), oBI (fun a b => (a.toUInt32 >>> (b.toUInt32 &&& Int32.toUInt32 31)).toInt32), oBI (fun a b => a + b), oI (252645135), oBI (fun a b => a &&& b), oStI 0, oLdI 0, oLdI 0, oI (8), oBI (fun a b => (a.toUInt32 >>> (b.toUInt32 &&& Int32.toUInt32 31)).toInt32), oBI (fun a b => a + b), oStI 0, oLdI 0, oLdI 0, oI (16), oBI (fun a b => (a.toUInt32 >>> (b.toUInt32 &&& Int32.toUInt32 31)).toInt32), oBI (fun a b => a + b), oStI 0, oLdI 0, oI (63), oBI (fun a b => a &&& b)], tRI .int 0 0)]
def T_J0_length_8abf5 (call : ip_Cl) : List ip_B := [
  ([oLdA 0, oGet 7 0, oLen, oLdA 0, oCaV call 0 0 7 230 1 0 0, oBI (fun a b => a >>> (b &&& 31))], tRI .int 0 0)]
def T_J0_charAt_5068e (call : ip_Cl) : List ip_B := [
  ([oLdA 0, oCaV call 0 0 7 231 1 0 0], tIf (fun a => a = 0) 2 1),
  ([oLdA 0, oGet 7 0, oLdI 1, oCal call 0 0 233 2 0 0], tRI .char 0 0),
  ([oLdA 0, oGet 7 0, oLdI 1, oNo], tRI .char 0 0)]
def T_J0_coder_7d493 (call : ip_Cl) : List ip_B := [
  ([oI 1], tIf (fun a => a = 0) 2 1),
  ([oLdA 0, oGet 7 1], tGo 3),
  ([oI (1)], tGo 3),
  ([], tRI .byte 0 0)]
def T_J0_isLatin1_aae02 (call : ip_Cl) : List ip_B := [
  ([oI 1], tIf (fun a => a = 0) 3 1),
  ([oLdA 0, oGet 7 1], tIf (fun a => a = 0) 2 3),
  ([oI (1)], tGo 4),
  ([oI (0)], tGo 4),
  ([], tRI .boolean 0 0)]
def T_J0_checkIndex_df160 (call : ip_Cl) : List ip_B := [
  ([oLdI 0, oLdI 1, oFmt, oCal call 0 0 234 3 0 0, oPop], tRV 0 0)]
def T_J1_charAt_3b067 (call : ip_Cl) : List ip_B := [
  ([oLdI 1, oLdA 0, oLen, oCal call 0 0 232 2 0 0, oLdA 0, oLdI 1, oAldB, oI (255), oBI (fun a b => a &&& b), oUI (fun a => (a.toUInt32 % 65536).toInt32)], tRI .char 0 0)]
def T_J3_checkIndex_8e157 (call : ip_Cl) : List ip_B := [
  ([oLdI 0], tIf (fun a => a < 0) 2 1),
  ([oLdI 0, oLdI 1], tCm (fun a b => a < b) 3 2),
  ([oLdA 2, oLdI 0, oLdI 1, oNo], tNo),
  ([oLdI 0], tRI .int 0 0)]
def en_0 : ip_En := (yX0_init, cX0_init, 1, none, 1, 30, T_X0_init)
def en_1 : ip_En := (yX0_forget, cX0_forget, 1, none, 0, 0, T_X0_forget)
def en_2 : ip_En := (yX0_perform, cX0_perform, 7, (some .int), 0, 0, T_X0_perform)
def en_3 : ip_En := (yX0_ownBody, cX0_ownBody, 3, (some .int), 0, 0, T_X0_ownBody)
def en_4 : ip_En := (yX0_begin, cX0_begin, 2, none, 0, 0, T_X0_begin)
def en_5 : ip_En := (yX0_run, cX0_run, 5, (some .int), 0, 0, T_X0_run)
def en_6 : ip_En := (yX0_quotient, cX0_quotient, 3, (some .int), 0, 0, T_X0_quotient)
def en_7 : ip_En := (yX1_init, cX1_init, 1, none, 6, 44, T_X1_init)
def en_8 : ip_En := (yX1_clear, cX1_clear, 1, none, 0, 0, T_X1_clear)
def en_9 : ip_En := (yX1_copy, cX1_copy, 2, none, 0, 0, T_X1_copy)
def en_10 : ip_En := (yX1_add, cX1_add, 4, (some .int), 0, 0, T_X1_add)
def en_11 : ip_En := (yX1_saidBy, cX1_saidBy, 2, (some .int), 0, 0, T_X1_saidBy)
def en_12 : ip_En := (yX1_rightOf, cX1_rightOf, 3, (some .int), 0, 0, T_X1_rightOf)
def en_13 : ip_En := (yX1_tread, cX1_tread, 3, none, 0, 0, T_X1_tread)
def en_14 : ip_En := (yX1_draw, cX1_draw, 1, (some .int), 0, 0, T_X1_draw)
def en_15 : ip_En := (yX1_treadByDraws, cX1_treadByDraws, 3, none, 0, 0, T_X1_treadByDraws)
def en_16 : ip_En := (yX1_across, cX1_across, 3, (some .int), 0, 0, T_X1_across)
def en_17 : ip_En := (yX1_placesTogether, cX1_placesTogether, 3, (some .int), 0, 0, T_X1_placesTogether)
def en_18 : ip_En := (yX1_held, cX1_held, 6, (some .int), 0, 0, T_X1_held)
def en_19 : ip_En := (yX1_rowItem, cX1_rowItem, 3, (some .int), 0, 0, T_X1_rowItem)
def en_20 : ip_En := (yX2_init, cX2_init, 3, none, 1, 40, T_X2_init)
def en_21 : ip_En := (yX2_narrowed, cX2_narrowed, 2, (some .int), 0, 0, T_X2_narrowed)
def en_22 : ip_En := (yX3_init, cX3_init, 1, none, 1, 200, T_X3_init)
def en_23 : ip_En := (yX3_append, cX3_append, 2, none, 0, 0, T_X3_append)
def en_24 : ip_En := (yX3_readInto, cX3_readInto, 3, (some .int), 0, 0, T_X3_readInto)
def en_25 : ip_En := (yX3_readOne, cX3_readOne, 4, none, 0, 0, T_X3_readOne)
def en_26 : ip_En := (yX3_readWalker, cX3_readWalker, 3, none, 0, 0, T_X3_readWalker)
def en_27 : ip_En := (yX3_readOption, cX3_readOption, 5, (some .int), 0, 0, T_X3_readOption)
def en_28 : ip_En := (yX3_readNumber, cX3_readNumber, 4, (some .int), 0, 0, T_X3_readNumber)
def en_29 : ip_En := (yX3_readClose, cX3_readClose, 1, none, 0, 0, T_X3_readClose)
def en_30 : ip_En := (yX3_fail, cX3_fail, 1, none, 0, 0, T_X3_fail)
def en_31 : ip_En := (yX3_advance, cX3_advance, 2, none, 0, 0, T_X3_advance)
def en_32 : ip_En := (yX3_isLetter, cX3_isLetter, 1, (some .boolean), 0, 0, T_X3_isLetter)
def en_33 : ip_En := (yX3_isDigit, cX3_isDigit, 1, (some .boolean), 0, 0, T_X3_isDigit)
def en_34 : ip_En := (yX3_tokenNumber, cX3_tokenNumber, 3, (some .int), 0, 0, T_X3_tokenNumber)
def en_35 : ip_En := (yX3_isNamed, cX3_isNamed, 3, (some .boolean), 0, 0, T_X3_isNamed)
def en_36 : ip_En := (yX3_kindNamed, cX3_kindNamed, 1, (some .int), 0, 0, T_X3_kindNamed)
def en_37 : ip_En := (yX3_lawNamed, cX3_lawNamed, 1, (some .int), 0, 0, T_X3_lawNamed)
def en_38 : ip_En := (yX4_init, cX4_init, 1, none, 0, 0, T_X4_init)
def en_39 : ip_En := (yX4_begin, cX4_begin, 5, none, 0, 0, T_X4_begin)
def en_40 : ip_En := (yX4_hear, cX4_hear, 3, none, 0, 0, T_X4_hear)
def en_41 : ip_En := (yX4_isAcross, cX4_isAcross, 1, (some .boolean), 0, 0, T_X4_isAcross)
def en_42 : ip_En := (yX4_isAtRest, cX4_isAtRest, 1, (some .boolean), 0, 0, T_X4_isAtRest)
def en_43 : ip_En := (yX4_bears, cX4_bears, 1, (some .int), 0, 0, T_X4_bears)
def en_44 : ip_En := (yX4_bearsAsWalker, cX4_bearsAsWalker, 1, (some .int), 0, 0, T_X4_bearsAsWalker)
def en_45 : ip_En := (yX4_bearsAsClown, cX4_bearsAsClown, 1, (some .int), 0, 0, T_X4_bearsAsClown)
def en_46 : ip_En := (yX4_bearsAsChild, cX4_bearsAsChild, 1, (some .int), 0, 0, T_X4_bearsAsChild)
def en_47 : ip_En := (yX4_strides, cX4_strides, 1, (some .int), 0, 0, T_X4_strides)
def en_48 : ip_En := (yX4_tread, cX4_tread, 1, none, 0, 0, T_X4_tread)
def en_49 : ip_En := (yX4_go, cX4_go, 3, none, 0, 0, T_X4_go)
def en_50 : ip_En := (yX4_goesAs, cX4_goesAs, 3, (some .boolean), 0, 0, T_X4_goesAs)
def en_51 : ip_En := (yX5_init, cX5_init, 1, none, 30, 459, T_X5_init)
def en_52 : ip_En := (yX5_feed, cX5_feed, 5, (some .int), 0, 0, T_X5_feed)
def en_53 : ip_En := (yX5_circus, cX5_circus, 2, (some .int), 0, 0, T_X5_circus)
def en_54 : ip_En := (yX5_set, cX5_set, 4, (some .int), 0, 0, T_X5_set)
def en_55 : ip_En := (yX5_lawOf, cX5_lawOf, 2, (some .int), 0, 0, T_X5_lawOf)
def en_56 : ip_En := (yX5_fact, cX5_fact, 4, (some .int), 0, 0, T_X5_fact)
def en_57 : ip_En := (yX5_walker, cX5_walker, 3, (some .int), 0, 0, T_X5_walker)
def en_58 : ip_En := (yX5_of, cX5_of, 3, (some .int), 0, 0, T_X5_of)
def en_59 : ip_En := (yX5_does, cX5_does, 3, (some .int), 0, 0, T_X5_does)
def en_60 : ip_En := (yX5_mind, cX5_mind, 5, (some .int), 0, 0, T_X5_mind)
def en_61 : ip_En := (yX5_say, cX5_say, 5, (some .int), 0, 0, T_X5_say)
def en_62 : ip_En := (yX5_stand, cX5_stand, 4, (some .int), 0, 0, T_X5_stand)
def en_63 : ip_En := (yX5_steps, cX5_steps, 3, (some .int), 0, 0, T_X5_steps)
def en_64 : ip_En := (yX5_seed, cX5_seed, 3, (some .int), 0, 0, T_X5_seed)
def en_65 : ip_En := (yX5_step, cX5_step, 1, (some .int), 0, 0, T_X5_step)
def en_66 : ip_En := (yX5_luck, cX5_luck, 6, (some .int), 0, 0, T_X5_luck)
def en_67 : ip_En := (yX5_state, cX5_state, 2, (some .int), 0, 0, T_X5_state)
def en_68 : ip_En := (yX5_reaches, cX5_reaches, 3, (some .int), 0, 0, T_X5_reaches)
def en_69 : ip_En := (yX5_over, cX5_over, 3, (some .int), 0, 0, T_X5_over)
def en_70 : ip_En := (yX5_falls, cX5_falls, 3, (some .int), 0, 0, T_X5_falls)
def en_71 : ip_En := (yX5_end, cX5_end, 4, (some .int), 0, 0, T_X5_end)
def en_72 : ip_En := (yX5_sayFor, cX5_sayFor, 5, (some .int), 0, 0, T_X5_sayFor)
def en_73 : ip_En := (yX5_kindFor, cX5_kindFor, 6, (some .int), 0, 0, T_X5_kindFor)
def en_74 : ip_En := (yX5_turnedFor, cX5_turnedFor, 6, (some .int), 0, 0, T_X5_turnedFor)
def en_75 : ip_En := (yX5_loadFor, cX5_loadFor, 4, (some .int), 0, 0, T_X5_loadFor)
def en_76 : ip_En := (yX5_both, cX5_both, 4, (some .int), 0, 0, T_X5_both)
def en_77 : ip_En := (yX5_fits, cX5_fits, 8, (some .int), 0, 0, T_X5_fits)
def en_78 : ip_En := (yX5_odds, cX5_odds, 10, (some .long), 0, 0, T_X5_odds)
def en_79 : ip_En := (yX5_hope, cX5_hope, 3, (some .long), 0, 0, T_X5_hope)
def en_80 : ip_En := (yX5_prove, cX5_prove, 5, (some .int), 0, 0, T_X5_prove)
def en_81 : ip_En := (yX5_row, cX5_row, 3, (some .int), 0, 0, T_X5_row)
def en_82 : ip_En := (yX5_alterRow, cX5_alterRow, 5, (some .int), 0, 0, T_X5_alterRow)
def en_83 : ip_En := (yX5_judge, cX5_judge, 4, (some .int), 0, 0, T_X5_judge)
def en_84 : ip_En := (yX5_minds, cX5_minds, 7, (some .int), 0, 0, T_X5_minds)
def en_85 : ip_En := (yX5_sheet, cX5_sheet, 4, (some .int), 2, 42, T_X5_sheet)
def en_86 : ip_En := (yX5_put, cX5_put, 5, (some .int), 0, 0, T_X5_put)
def en_87 : ip_En := (yX5_item, cX5_item, 5, (some .int), 0, 0, T_X5_item)
def en_88 : ip_En := (yX5_shelf, cX5_shelf, 4, (some .int), 0, 0, T_X5_shelf)
def en_89 : ip_En := (yX5_taken, cX5_taken, 6, (some .int), 0, 0, T_X5_taken)
def en_90 : ip_En := (yX5_act, cX5_act, 5, (some .int), 0, 0, T_X5_act)
def en_91 : ip_En := (yX5_trace, cX5_trace, 2, (some .int), 0, 0, T_X5_trace)
def en_92 : ip_En := (yX5_many, cX5_many, 2, (some .int), 0, 0, T_X5_many)
def en_93 : ip_En := (yX5_keep, cX5_keep, 1, (some .int), 0, 0, T_X5_keep)
def en_94 : ip_En := (yX5_again, cX5_again, 1, (some .int), 0, 0, T_X5_again)
def en_95 : ip_En := (yX5_within, cX5_within, 3, (some .boolean), 0, 0, T_X5_within)
def en_96 : ip_En := (yX5_isKind, cX5_isKind, 1, (some .boolean), 0, 0, T_X5_isKind)
def en_97 : ip_En := (yX5_isWeight, cX5_isWeight, 1, (some .boolean), 0, 0, T_X5_isWeight)
def en_98 : ip_En := (yX5_isFactSet, cX5_isFactSet, 1, (some .boolean), 0, 0, T_X5_isFactSet)
def en_99 : ip_En := (yX5_isSheet, cX5_isSheet, 1, (some .boolean), 0, 0, T_X5_isSheet)
def en_100 : ip_En := (yX5_isSort, cX5_isSort, 1, (some .boolean), 0, 0, T_X5_isSort)
def en_101 : ip_En := (yX5_isShelf, cX5_isShelf, 1, (some .boolean), 0, 0, T_X5_isShelf)
def en_102 : ip_En := (yX5_isWalker, cX5_isWalker, 2, (some .boolean), 0, 0, T_X5_isWalker)
def en_103 : ip_En := (yX5_isRowItem, cX5_isRowItem, 3, (some .boolean), 0, 0, T_X5_isRowItem)
def en_104 : ip_En := (yX5_hasBit, cX5_hasBit, 2, (some .boolean), 0, 0, T_X5_hasBit)
def en_105 : ip_En := (yX5_withBit, cX5_withBit, 3, (some .int), 0, 0, T_X5_withBit)
def en_106 : ip_En := (yX5_isUnder, cX5_isUnder, 4, (some .boolean), 0, 0, T_X5_isUnder)
def en_107 : ip_En := (yX5_putOnShelf, cX5_putOnShelf, 4, (some .int), 0, 0, T_X5_putOnShelf)
def en_108 : ip_En := (yX5_stepsToRest, cX5_stepsToRest, 3, (some .int), 0, 0, T_X5_stepsToRest)
def en_109 : ip_En := (yX5_rightsThatCross, cX5_rightsThatCross, 6, (some .int), 0, 0, T_X5_rightsThatCross)
def en_110 : ip_En := (yX5_rightsAsTold, cX5_rightsAsTold, 6, (some .int), 0, 0, T_X5_rightsAsTold)
def en_111 : ip_En := (yX5_leastSaying, cX5_leastSaying, 4, (some .int), 0, 0, T_X5_leastSaying)
def en_112 : ip_En := (yX5_mayBeYes, cX5_mayBeYes, 10, (some .boolean), 0, 0, T_X5_mayBeYes)
def en_113 : ip_En := (yX5_leastNo, cX5_leastNo, 6, (some .int), 0, 0, T_X5_leastNo)
def en_114 : ip_En := (yX5_rightOf, cX5_rightOf, 3, (some .int), 0, 0, T_X5_rightOf)
def en_115 : ip_En := (yX5_choices, cX5_choices, 5, (some .long), 0, 0, T_X5_choices)
def en_116 : ip_En := (yX5_partOf, cX5_partOf, 7, (some .long), 0, 0, T_X5_partOf)
def en_117 : ip_En := (yX5_commonDivisor, cX5_commonDivisor, 11, (some .long), 0, 0, T_X5_commonDivisor)
def en_118 : ip_En := (yX6_init, cX6_init, 1, none, 14, 694, T_X6_init)
def en_119 : ip_En := (yX6_begins, cX6_begins, 2, none, 0, 0, T_X6_begins)
def en_120 : ip_En := (yX6_in, cX6_in, 3, (some .boolean), 0, 0, T_X6_in)
def en_121 : ip_En := (yX6_held, cX6_held, 3, (some .int), 0, 0, T_X6_held)
def en_122 : ip_En := (yX6_moveAll, cX6_moveAll, 3, none, 0, 0, T_X6_moveAll)
def en_123 : ip_En := (yX6_isOne, cX6_isOne, 2, (some .boolean), 0, 0, T_X6_isOne)
def en_124 : ip_En := (yX6_its, cX6_its, 3, (some .int), 0, 0, T_X6_its)
def en_125 : ip_En := (yX6_sets, cX6_sets, 4, none, 0, 0, T_X6_sets)
def en_126 : ip_En := (yX6_becomes, cX6_becomes, 4, (some .int), 0, 0, T_X6_becomes)
def en_127 : ip_En := (yX6_ones, cX6_ones, 3, (some .int), 0, 0, T_X6_ones)
def en_128 : ip_En := (yX6_feed, cX6_feed, 5, (some .int), 0, 0, T_X6_feed)
def en_129 : ip_En := (yX6_byteAt, cX6_byteAt, 2, (some .int), 0, 0, T_X6_byteAt)
def en_130 : ip_En := (yX6_isLetter, cX6_isLetter, 1, (some .boolean), 0, 0, T_X6_isLetter)
def en_131 : ip_En := (yX6_isDigit, cX6_isDigit, 1, (some .boolean), 0, 0, T_X6_isDigit)
def en_132 : ip_En := (yX6_advance, cX6_advance, 2, none, 0, 0, T_X6_advance)
def en_133 : ip_En := (yX6_isWord, cX6_isWord, 3, (some .boolean), 0, 0, T_X6_isWord)
def en_134 : ip_En := (yX6_isMark, cX6_isMark, 2, (some .boolean), 0, 0, T_X6_isMark)
def en_135 : ip_En := (yX6_kindHere, cX6_kindHere, 1, (some .int), 0, 0, T_X6_kindHere)
def en_136 : ip_En := (yX6_lawHere, cX6_lawHere, 1, (some .int), 0, 0, T_X6_lawHere)
def en_137 : ip_En := (yX6_wantNumber, cX6_wantNumber, 4, (some .int), 0, 0, T_X6_wantNumber)
def en_138 : ip_En := (yX6_wantEnd, cX6_wantEnd, 1, none, 0, 0, T_X6_wantEnd)
def en_139 : ip_En := (yX6_mayWant, cX6_mayWant, 5, (some .int), 0, 0, T_X6_mayWant)
def en_140 : ip_En := (yX6_mayDeny, cX6_mayDeny, 2, (some .int), 0, 0, T_X6_mayDeny)
def en_141 : ip_En := (yX6_wantOne, cX6_wantOne, 7, none, 0, 0, T_X6_wantOne)
def en_142 : ip_En := (yX6_wantClause, cX6_wantClause, 3, none, 0, 0, T_X6_wantClause)
def en_143 : ip_En := (yX6_circus, cX6_circus, 1, (some .int), 0, 0, T_X6_circus)
def en_144 : ip_En := (yX6_mostOf, cX6_mostOf, 1, (some .int), 0, 0, T_X6_mostOf)
def en_145 : ip_En := (yX6_set, cX6_set, 3, (some .int), 0, 0, T_X6_set)
def en_146 : ip_En := (yX6_lawOf, cX6_lawOf, 2, (some .int), 0, 0, T_X6_lawOf)
def en_147 : ip_En := (yX6_fact, cX6_fact, 4, (some .int), 0, 0, T_X6_fact)
def en_148 : ip_En := (yX6_isKind, cX6_isKind, 2, (some .boolean), 0, 0, T_X6_isKind)
def en_149 : ip_En := (yX6_walker, cX6_walker, 5, (some .int), 0, 0, T_X6_walker)
def en_150 : ip_En := (yX6_of, cX6_of, 3, (some .int), 0, 0, T_X6_of)
def en_151 : ip_En := (yX6_right, cX6_right, 2, (some .int), 0, 0, T_X6_right)
def en_152 : ip_En := (yX6_said, cX6_said, 2, (some .int), 0, 0, T_X6_said)
def en_153 : ip_En := (yX6_bears, cX6_bears, 7, (some .int), 0, 0, T_X6_bears)
def en_154 : ip_En := (yX6_strides, cX6_strides, 2, (some .int), 0, 0, T_X6_strides)
def en_155 : ip_En := (yX6_does, cX6_does, 3, (some .int), 0, 0, T_X6_does)
def en_156 : ip_En := (yX6_mind, cX6_mind, 4, (some .int), 0, 0, T_X6_mind)
def en_157 : ip_En := (yX6_say, cX6_say, 5, (some .int), 0, 0, T_X6_say)
def en_158 : ip_En := (yX6_stand, cX6_stand, 3, (some .int), 0, 0, T_X6_stand)
def en_159 : ip_En := (yX6_isAcross, cX6_isAcross, 2, (some .boolean), 0, 0, T_X6_isAcross)
def en_160 : ip_En := (yX6_isDone, cX6_isDone, 2, (some .boolean), 0, 0, T_X6_isDone)
def en_161 : ip_En := (yX6_goes, cX6_goes, 2, none, 0, 0, T_X6_goes)
def en_162 : ip_En := (yX6_stepGoes, cX6_stepGoes, 2, none, 0, 0, T_X6_stepGoes)
def en_163 : ip_En := (yX6_acrossSet, cX6_acrossSet, 3, (some .int), 0, 0, T_X6_acrossSet)
def en_164 : ip_En := (yX6_fallenSet, cX6_fallenSet, 3, (some .int), 0, 0, T_X6_fallenSet)
def en_165 : ip_En := (yX6_steps, cX6_steps, 3, (some .int), 0, 0, T_X6_steps)
def en_166 : ip_En := (yX6_drawn, cX6_drawn, 1, (some .int), 0, 0, T_X6_drawn)
def en_167 : ip_En := (yX6_seed, cX6_seed, 2, (some .int), 0, 0, T_X6_seed)
def en_168 : ip_En := (yX6_stepByDraws, cX6_stepByDraws, 2, none, 0, 0, T_X6_stepByDraws)
def en_169 : ip_En := (yX6_step, cX6_step, 1, (some .int), 0, 0, T_X6_step)
def en_170 : ip_En := (yX6_luck, cX6_luck, 6, (some .int), 0, 0, T_X6_luck)
def en_171 : ip_En := (yX6_clash, cX6_clash, 3, (some .int), 0, 0, T_X6_clash)
def en_172 : ip_En := (yX6_agreed, cX6_agreed, 3, (some .int), 0, 0, T_X6_agreed)
def en_173 : ip_En := (yX6_isPeace, cX6_isPeace, 5, (some .boolean), 0, 0, T_X6_isPeace)
def en_174 : ip_En := (yX6_mostHeld, cX6_mostHeld, 3, (some .int), 0, 0, T_X6_mostHeld)
def en_175 : ip_En := (yX6_places, cX6_places, 3, (some .int), 0, 0, T_X6_places)
def en_176 : ip_En := (yX6_state, cX6_state, 2, (some .int), 0, 0, T_X6_state)
def en_177 : ip_En := (yX6_goesOn, cX6_goesOn, 2, none, 0, 0, T_X6_goesOn)
def en_178 : ip_En := (yX6_placeBehind, cX6_placeBehind, 4, (some .int), 0, 0, T_X6_placeBehind)
def en_179 : ip_En := (yX6_reaches, cX6_reaches, 3, (some .int), 0, 0, T_X6_reaches)
def en_180 : ip_En := (yX6_over, cX6_over, 3, (some .int), 0, 0, T_X6_over)
def en_181 : ip_En := (yX6_falls, cX6_falls, 3, (some .int), 0, 0, T_X6_falls)
def en_182 : ip_En := (yX6_end, cX6_end, 2, (some .int), 0, 0, T_X6_end)
def en_183 : ip_En := (yX6_comesOver, cX6_comesOver, 5, (some .boolean), 0, 0, T_X6_comesOver)
def en_184 : ip_En := (yX6_sayFor, cX6_sayFor, 8, (some .int), 0, 0, T_X6_sayFor)
def en_185 : ip_En := (yX6_kindFor, cX6_kindFor, 7, (some .int), 0, 0, T_X6_kindFor)
def en_186 : ip_En := (yX6_turnedFor, cX6_turnedFor, 7, (some .int), 0, 0, T_X6_turnedFor)
def en_187 : ip_En := (yX6_loadFor, cX6_loadFor, 5, (some .int), 0, 0, T_X6_loadFor)
def en_188 : ip_En := (yX6_both, cX6_both, 4, (some .int), 0, 0, T_X6_both)
def en_189 : ip_En := (yX6_isSo, cX6_isSo, 5, (some .boolean), 0, 0, T_X6_isSo)
def en_190 : ip_En := (yX6_fits, cX6_fits, 8, (some .int), 0, 0, T_X6_fits)
def en_191 : ip_En := (yX6_lowest, cX6_lowest, 11, (some .long), 0, 0, T_X6_lowest)
def en_192 : ip_En := (yX6_powerOf, cX6_powerOf, 5, (some .long), 0, 0, T_X6_powerOf)
def en_193 : ip_En := (yX6_odds, cX6_odds, 7, (some .long), 0, 0, T_X6_odds)
def en_194 : ip_En := (yX6_hope, cX6_hope, 3, (some .long), 0, 0, T_X6_hope)
def en_195 : ip_En := (yX6_findRows, cX6_findRows, 4, none, 0, 0, T_X6_findRows)
def en_196 : ip_En := (yX6_prove, cX6_prove, 4, (some .int), 0, 0, T_X6_prove)
def en_197 : ip_En := (yX6_isRow, cX6_isRow, 3, (some .boolean), 0, 0, T_X6_isRow)
def en_198 : ip_En := (yX6_row, cX6_row, 3, (some .int), 0, 0, T_X6_row)
def en_199 : ip_En := (yX6_alterRow, cX6_alterRow, 5, (some .int), 0, 0, T_X6_alterRow)
def en_200 : ip_En := (yX6_judge, cX6_judge, 3, (some .int), 0, 0, T_X6_judge)
def en_201 : ip_En := (yX6_minds, cX6_minds, 7, (some .int), 0, 0, T_X6_minds)
def en_202 : ip_En := (yX6_isShelf, cX6_isShelf, 1, (some .boolean), 0, 0, T_X6_isShelf)
def en_203 : ip_En := (yX6_sheet, cX6_sheet, 5, (some .int), 0, 0, T_X6_sheet)
def en_204 : ip_En := (yX6_put, cX6_put, 4, (some .int), 0, 0, T_X6_put)
def en_205 : ip_En := (yX6_lacksSort, cX6_lacksSort, 3, (some .int), 0, 0, T_X6_lacksSort)
def en_206 : ip_En := (yX6_item, cX6_item, 5, (some .int), 0, 0, T_X6_item)
def en_207 : ip_En := (yX6_isHeld, cX6_isHeld, 3, (some .boolean), 0, 0, T_X6_isHeld)
def en_208 : ip_En := (yX6_shelf, cX6_shelf, 4, (some .int), 0, 0, T_X6_shelf)
def en_209 : ip_En := (yX6_kindOn, cX6_kindOn, 2, (some .int), 0, 0, T_X6_kindOn)
def en_210 : ip_En := (yX6_isUnder, cX6_isUnder, 2, (some .boolean), 0, 0, T_X6_isUnder)
def en_211 : ip_En := (yX6_taken, cX6_taken, 4, (some .int), 0, 0, T_X6_taken)
def en_212 : ip_En := (yX6_ran, cX6_ran, 2, none, 0, 0, T_X6_ran)
def en_213 : ip_En := (yX6_plainLeans, cX6_plainLeans, 2, (some .int), 0, 0, T_X6_plainLeans)
def en_214 : ip_En := (yX6_childLeans, cX6_childLeans, 2, (some .int), 0, 0, T_X6_childLeans)
def en_215 : ip_En := (yX6_leansIt, cX6_leansIt, 2, (some .int), 0, 0, T_X6_leansIt)
def en_216 : ip_En := (yX6_plainSways, cX6_plainSways, 2, (some .int), 0, 0, T_X6_plainSways)
def en_217 : ip_En := (yX6_swaysIt, cX6_swaysIt, 3, (some .int), 0, 0, T_X6_swaysIt)
def en_218 : ip_En := (yX6_plainParts, cX6_plainParts, 2, (some .int), 0, 0, T_X6_plainParts)
def en_219 : ip_En := (yX6_partsIt, cX6_partsIt, 3, (some .int), 0, 0, T_X6_partsIt)
def en_220 : ip_En := (yX6_plainTreads, cX6_plainTreads, 2, (some .int), 0, 0, T_X6_plainTreads)
def en_221 : ip_En := (yX6_treadsIt, cX6_treadsIt, 3, (some .int), 0, 0, T_X6_treadsIt)
def en_222 : ip_En := (yX6_act, cX6_act, 6, (some .int), 0, 0, T_X6_act)
def en_223 : ip_En := (yX6_trace, cX6_trace, 2, (some .int), 0, 0, T_X6_trace)
def en_224 : ip_En := (yX6_many, cX6_many, 2, (some .int), 0, 0, T_X6_many)
def en_225 : ip_En := (yX6_keep, cX6_keep, 1, (some .int), 0, 0, T_X6_keep)
def en_226 : ip_En := (yX6_again, cX6_again, 1, (some .int), 0, 0, T_X6_again)
def en_227 : ip_En := (yJ6_bitCount_0f7a4, cJ6_bitCount_0f7a4, 1, (some .int), 0, 0, T_J6_bitCount_0f7a4)
def en_228 : ip_En := (yJ0_length_8abf5, cJ0_length_8abf5, 1, (some .int), 0, 0, T_J0_length_8abf5)
def en_229 : ip_En := (yJ0_charAt_5068e, cJ0_charAt_5068e, 2, (some .char), 0, 0, T_J0_charAt_5068e)
def en_230 : ip_En := (yJ0_coder_7d493, cJ0_coder_7d493, 1, (some .byte), 0, 0, T_J0_coder_7d493)
def en_231 : ip_En := (yJ0_isLatin1_aae02, cJ0_isLatin1_aae02, 1, (some .boolean), 0, 0, T_J0_isLatin1_aae02)
def en_232 : ip_En := (yJ0_checkIndex_df160, cJ0_checkIndex_df160, 2, none, 0, 0, T_J0_checkIndex_df160)
def en_233 : ip_En := (yJ1_charAt_3b067, cJ1_charAt_3b067, 2, (some .char), 0, 0, T_J1_charAt_3b067)
def en_234 : ip_En := (yJ3_checkIndex_8e157, cJ3_checkIndex_8e157, 3, (some .int), 0, 0, T_J3_checkIndex_8e157)
def tbL : List ip_En := [en_0, en_1, en_2, en_3, en_4, en_5, en_6, en_7, en_8, en_9, en_10, en_11, en_12, en_13, en_14, en_15, en_16, en_17, en_18, en_19, en_20, en_21, en_22, en_23, en_24, en_25, en_26, en_27, en_28, en_29, en_30, en_31, en_32, en_33, en_34, en_35, en_36, en_37, en_38, en_39, en_40, en_41, en_42, en_43, en_44, en_45, en_46, en_47, en_48, en_49, en_50, en_51, en_52, en_53, en_54, en_55, en_56, en_57, en_58, en_59, en_60, en_61, en_62, en_63, en_64, en_65, en_66, en_67, en_68, en_69, en_70, en_71, en_72, en_73, en_74, en_75, en_76, en_77, en_78, en_79, en_80, en_81, en_82, en_83, en_84, en_85, en_86, en_87, en_88, en_89, en_90, en_91, en_92, en_93, en_94, en_95, en_96, en_97, en_98, en_99, en_100, en_101, en_102, en_103, en_104, en_105, en_106, en_107, en_108, en_109, en_110, en_111, en_112, en_113, en_114, en_115, en_116, en_117, en_118, en_119, en_120, en_121, en_122, en_123, en_124, en_125, en_126, en_127, en_128, en_129, en_130, en_131, en_132, en_133, en_134, en_135, en_136, en_137, en_138, en_139, en_140, en_141, en_142, en_143, en_144, en_145, en_146, en_147, en_148, en_149, en_150, en_151, en_152, en_153, en_154, en_155, en_156, en_157, en_158, en_159, en_160, en_161, en_162, en_163, en_164, en_165, en_166, en_167, en_168, en_169, en_170, en_171, en_172, en_173, en_174, en_175, en_176, en_177, en_178, en_179, en_180, en_181, en_182, en_183, en_184, en_185, en_186, en_187, en_188, en_189, en_190, en_191, en_192, en_193, en_194, en_195, en_196, en_197, en_198, en_199, en_200, en_201, en_202, en_203, en_204, en_205, en_206, en_207, en_208, en_209, en_210, en_211, en_212, en_213, en_214, en_215, en_216, en_217, en_218, en_219, en_220, en_221, en_222, en_223, en_224, en_225, en_226, en_227, en_228, en_229, en_230, en_231, en_232, en_233, en_234]
def tb (k : Nat) : Option ip_En := tbL[k]?
theorem cl_0 {d : Nat} {vs : List Value} {M : ip_M} {n : Nat} {Φ : ip_P} : ip_call tb (d + 1) 0 vs M n Φ = ((ip_loc vs).length ≤ 1 ∧ ip_Ev (T_X0_init (ip_call tb d)) Φ 0 (ip_ent 1 vs, [], M, n, 0, 0)) := rfl
theorem cl_1 {d : Nat} {vs : List Value} {M : ip_M} {n : Nat} {Φ : ip_P} : ip_call tb (d + 1) 1 vs M n Φ = ((ip_loc vs).length ≤ 1 ∧ ip_Ev (T_X0_forget (ip_call tb d)) Φ 0 (ip_ent 1 vs, [], M, n, 0, 0)) := rfl
theorem cl_2 {d : Nat} {vs : List Value} {M : ip_M} {n : Nat} {Φ : ip_P} : ip_call tb (d + 1) 2 vs M n Φ = ((ip_loc vs).length ≤ 7 ∧ ip_Ev (T_X0_perform (ip_call tb d)) Φ 0 (ip_ent 7 vs, [], M, n, 0, 0)) := rfl
theorem cl_3 {d : Nat} {vs : List Value} {M : ip_M} {n : Nat} {Φ : ip_P} : ip_call tb (d + 1) 3 vs M n Φ = ((ip_loc vs).length ≤ 3 ∧ ip_Ev (T_X0_ownBody (ip_call tb d)) Φ 0 (ip_ent 3 vs, [], M, n, 0, 0)) := rfl
theorem cl_4 {d : Nat} {vs : List Value} {M : ip_M} {n : Nat} {Φ : ip_P} : ip_call tb (d + 1) 4 vs M n Φ = ((ip_loc vs).length ≤ 2 ∧ ip_Ev (T_X0_begin (ip_call tb d)) Φ 0 (ip_ent 2 vs, [], M, n, 0, 0)) := rfl
theorem cl_5 {d : Nat} {vs : List Value} {M : ip_M} {n : Nat} {Φ : ip_P} : ip_call tb (d + 1) 5 vs M n Φ = ((ip_loc vs).length ≤ 5 ∧ ip_Ev (T_X0_run (ip_call tb d)) Φ 0 (ip_ent 5 vs, [], M, n, 0, 0)) := rfl
theorem cl_6 {d : Nat} {vs : List Value} {M : ip_M} {n : Nat} {Φ : ip_P} : ip_call tb (d + 1) 6 vs M n Φ = ((ip_loc vs).length ≤ 3 ∧ ip_Ev (T_X0_quotient (ip_call tb d)) Φ 0 (ip_ent 3 vs, [], M, n, 0, 0)) := rfl
theorem cl_7 {d : Nat} {vs : List Value} {M : ip_M} {n : Nat} {Φ : ip_P} : ip_call tb (d + 1) 7 vs M n Φ = ((ip_loc vs).length ≤ 1 ∧ ip_Ev (T_X1_init (ip_call tb d)) Φ 0 (ip_ent 1 vs, [], M, n, 0, 0)) := rfl
theorem cl_8 {d : Nat} {vs : List Value} {M : ip_M} {n : Nat} {Φ : ip_P} : ip_call tb (d + 1) 8 vs M n Φ = ((ip_loc vs).length ≤ 1 ∧ ip_Ev (T_X1_clear (ip_call tb d)) Φ 0 (ip_ent 1 vs, [], M, n, 0, 0)) := rfl
theorem cl_9 {d : Nat} {vs : List Value} {M : ip_M} {n : Nat} {Φ : ip_P} : ip_call tb (d + 1) 9 vs M n Φ = ((ip_loc vs).length ≤ 2 ∧ ip_Ev (T_X1_copy (ip_call tb d)) Φ 0 (ip_ent 2 vs, [], M, n, 0, 0)) := rfl
theorem cl_10 {d : Nat} {vs : List Value} {M : ip_M} {n : Nat} {Φ : ip_P} : ip_call tb (d + 1) 10 vs M n Φ = ((ip_loc vs).length ≤ 4 ∧ ip_Ev (T_X1_add (ip_call tb d)) Φ 0 (ip_ent 4 vs, [], M, n, 0, 0)) := rfl
theorem cl_11 {d : Nat} {vs : List Value} {M : ip_M} {n : Nat} {Φ : ip_P} : ip_call tb (d + 1) 11 vs M n Φ = ((ip_loc vs).length ≤ 2 ∧ ip_Ev (T_X1_saidBy (ip_call tb d)) Φ 0 (ip_ent 2 vs, [], M, n, 0, 0)) := rfl
theorem cl_12 {d : Nat} {vs : List Value} {M : ip_M} {n : Nat} {Φ : ip_P} : ip_call tb (d + 1) 12 vs M n Φ = ((ip_loc vs).length ≤ 3 ∧ ip_Ev (T_X1_rightOf (ip_call tb d)) Φ 0 (ip_ent 3 vs, [], M, n, 0, 0)) := rfl
theorem cl_13 {d : Nat} {vs : List Value} {M : ip_M} {n : Nat} {Φ : ip_P} : ip_call tb (d + 1) 13 vs M n Φ = ((ip_loc vs).length ≤ 3 ∧ ip_Ev (T_X1_tread (ip_call tb d)) Φ 0 (ip_ent 3 vs, [], M, n, 0, 0)) := rfl
theorem cl_14 {d : Nat} {vs : List Value} {M : ip_M} {n : Nat} {Φ : ip_P} : ip_call tb (d + 1) 14 vs M n Φ = ((ip_loc vs).length ≤ 1 ∧ ip_Ev (T_X1_draw (ip_call tb d)) Φ 0 (ip_ent 1 vs, [], M, n, 0, 0)) := rfl
theorem cl_15 {d : Nat} {vs : List Value} {M : ip_M} {n : Nat} {Φ : ip_P} : ip_call tb (d + 1) 15 vs M n Φ = ((ip_loc vs).length ≤ 3 ∧ ip_Ev (T_X1_treadByDraws (ip_call tb d)) Φ 0 (ip_ent 3 vs, [], M, n, 0, 0)) := rfl
theorem cl_16 {d : Nat} {vs : List Value} {M : ip_M} {n : Nat} {Φ : ip_P} : ip_call tb (d + 1) 16 vs M n Φ = ((ip_loc vs).length ≤ 3 ∧ ip_Ev (T_X1_across (ip_call tb d)) Φ 0 (ip_ent 3 vs, [], M, n, 0, 0)) := rfl
theorem cl_17 {d : Nat} {vs : List Value} {M : ip_M} {n : Nat} {Φ : ip_P} : ip_call tb (d + 1) 17 vs M n Φ = ((ip_loc vs).length ≤ 3 ∧ ip_Ev (T_X1_placesTogether (ip_call tb d)) Φ 0 (ip_ent 3 vs, [], M, n, 0, 0)) := rfl
theorem cl_18 {d : Nat} {vs : List Value} {M : ip_M} {n : Nat} {Φ : ip_P} : ip_call tb (d + 1) 18 vs M n Φ = ((ip_loc vs).length ≤ 6 ∧ ip_Ev (T_X1_held (ip_call tb d)) Φ 0 (ip_ent 6 vs, [], M, n, 0, 0)) := rfl
theorem cl_19 {d : Nat} {vs : List Value} {M : ip_M} {n : Nat} {Φ : ip_P} : ip_call tb (d + 1) 19 vs M n Φ = ((ip_loc vs).length ≤ 3 ∧ ip_Ev (T_X1_rowItem (ip_call tb d)) Φ 0 (ip_ent 3 vs, [], M, n, 0, 0)) := rfl
theorem cl_20 {d : Nat} {vs : List Value} {M : ip_M} {n : Nat} {Φ : ip_P} : ip_call tb (d + 1) 20 vs M n Φ = ((ip_loc vs).length ≤ 3 ∧ ip_Ev (T_X2_init (ip_call tb d)) Φ 0 (ip_ent 3 vs, [], M, n, 0, 0)) := rfl
theorem cl_21 {d : Nat} {vs : List Value} {M : ip_M} {n : Nat} {Φ : ip_P} : ip_call tb (d + 1) 21 vs M n Φ = ((ip_loc vs).length ≤ 2 ∧ ip_Ev (T_X2_narrowed (ip_call tb d)) Φ 0 (ip_ent 2 vs, [], M, n, 0, 0)) := rfl
theorem cl_22 {d : Nat} {vs : List Value} {M : ip_M} {n : Nat} {Φ : ip_P} : ip_call tb (d + 1) 22 vs M n Φ = ((ip_loc vs).length ≤ 1 ∧ ip_Ev (T_X3_init (ip_call tb d)) Φ 0 (ip_ent 1 vs, [], M, n, 0, 0)) := rfl
theorem cl_23 {d : Nat} {vs : List Value} {M : ip_M} {n : Nat} {Φ : ip_P} : ip_call tb (d + 1) 23 vs M n Φ = ((ip_loc vs).length ≤ 2 ∧ ip_Ev (T_X3_append (ip_call tb d)) Φ 0 (ip_ent 2 vs, [], M, n, 0, 0)) := rfl
theorem cl_24 {d : Nat} {vs : List Value} {M : ip_M} {n : Nat} {Φ : ip_P} : ip_call tb (d + 1) 24 vs M n Φ = ((ip_loc vs).length ≤ 3 ∧ ip_Ev (T_X3_readInto (ip_call tb d)) Φ 0 (ip_ent 3 vs, [], M, n, 0, 0)) := rfl
theorem cl_25 {d : Nat} {vs : List Value} {M : ip_M} {n : Nat} {Φ : ip_P} : ip_call tb (d + 1) 25 vs M n Φ = ((ip_loc vs).length ≤ 4 ∧ ip_Ev (T_X3_readOne (ip_call tb d)) Φ 0 (ip_ent 4 vs, [], M, n, 0, 0)) := rfl
theorem cl_26 {d : Nat} {vs : List Value} {M : ip_M} {n : Nat} {Φ : ip_P} : ip_call tb (d + 1) 26 vs M n Φ = ((ip_loc vs).length ≤ 3 ∧ ip_Ev (T_X3_readWalker (ip_call tb d)) Φ 0 (ip_ent 3 vs, [], M, n, 0, 0)) := rfl
theorem cl_27 {d : Nat} {vs : List Value} {M : ip_M} {n : Nat} {Φ : ip_P} : ip_call tb (d + 1) 27 vs M n Φ = ((ip_loc vs).length ≤ 5 ∧ ip_Ev (T_X3_readOption (ip_call tb d)) Φ 0 (ip_ent 5 vs, [], M, n, 0, 0)) := rfl
theorem cl_28 {d : Nat} {vs : List Value} {M : ip_M} {n : Nat} {Φ : ip_P} : ip_call tb (d + 1) 28 vs M n Φ = ((ip_loc vs).length ≤ 4 ∧ ip_Ev (T_X3_readNumber (ip_call tb d)) Φ 0 (ip_ent 4 vs, [], M, n, 0, 0)) := rfl
theorem cl_29 {d : Nat} {vs : List Value} {M : ip_M} {n : Nat} {Φ : ip_P} : ip_call tb (d + 1) 29 vs M n Φ = ((ip_loc vs).length ≤ 1 ∧ ip_Ev (T_X3_readClose (ip_call tb d)) Φ 0 (ip_ent 1 vs, [], M, n, 0, 0)) := rfl
theorem cl_30 {d : Nat} {vs : List Value} {M : ip_M} {n : Nat} {Φ : ip_P} : ip_call tb (d + 1) 30 vs M n Φ = ((ip_loc vs).length ≤ 1 ∧ ip_Ev (T_X3_fail (ip_call tb d)) Φ 0 (ip_ent 1 vs, [], M, n, 0, 0)) := rfl
theorem cl_31 {d : Nat} {vs : List Value} {M : ip_M} {n : Nat} {Φ : ip_P} : ip_call tb (d + 1) 31 vs M n Φ = ((ip_loc vs).length ≤ 2 ∧ ip_Ev (T_X3_advance (ip_call tb d)) Φ 0 (ip_ent 2 vs, [], M, n, 0, 0)) := rfl
theorem cl_32 {d : Nat} {vs : List Value} {M : ip_M} {n : Nat} {Φ : ip_P} : ip_call tb (d + 1) 32 vs M n Φ = ((ip_loc vs).length ≤ 1 ∧ ip_Ev (T_X3_isLetter (ip_call tb d)) Φ 0 (ip_ent 1 vs, [], M, n, 0, 0)) := rfl
theorem cl_33 {d : Nat} {vs : List Value} {M : ip_M} {n : Nat} {Φ : ip_P} : ip_call tb (d + 1) 33 vs M n Φ = ((ip_loc vs).length ≤ 1 ∧ ip_Ev (T_X3_isDigit (ip_call tb d)) Φ 0 (ip_ent 1 vs, [], M, n, 0, 0)) := rfl
theorem cl_34 {d : Nat} {vs : List Value} {M : ip_M} {n : Nat} {Φ : ip_P} : ip_call tb (d + 1) 34 vs M n Φ = ((ip_loc vs).length ≤ 3 ∧ ip_Ev (T_X3_tokenNumber (ip_call tb d)) Φ 0 (ip_ent 3 vs, [], M, n, 0, 0)) := rfl
theorem cl_35 {d : Nat} {vs : List Value} {M : ip_M} {n : Nat} {Φ : ip_P} : ip_call tb (d + 1) 35 vs M n Φ = ((ip_loc vs).length ≤ 3 ∧ ip_Ev (T_X3_isNamed (ip_call tb d)) Φ 0 (ip_ent 3 vs, [], M, n, 0, 0)) := rfl
theorem cl_36 {d : Nat} {vs : List Value} {M : ip_M} {n : Nat} {Φ : ip_P} : ip_call tb (d + 1) 36 vs M n Φ = ((ip_loc vs).length ≤ 1 ∧ ip_Ev (T_X3_kindNamed (ip_call tb d)) Φ 0 (ip_ent 1 vs, [], M, n, 0, 0)) := rfl
theorem cl_37 {d : Nat} {vs : List Value} {M : ip_M} {n : Nat} {Φ : ip_P} : ip_call tb (d + 1) 37 vs M n Φ = ((ip_loc vs).length ≤ 1 ∧ ip_Ev (T_X3_lawNamed (ip_call tb d)) Φ 0 (ip_ent 1 vs, [], M, n, 0, 0)) := rfl
theorem cl_38 {d : Nat} {vs : List Value} {M : ip_M} {n : Nat} {Φ : ip_P} : ip_call tb (d + 1) 38 vs M n Φ = ((ip_loc vs).length ≤ 1 ∧ ip_Ev (T_X4_init (ip_call tb d)) Φ 0 (ip_ent 1 vs, [], M, n, 0, 0)) := rfl
theorem cl_39 {d : Nat} {vs : List Value} {M : ip_M} {n : Nat} {Φ : ip_P} : ip_call tb (d + 1) 39 vs M n Φ = ((ip_loc vs).length ≤ 5 ∧ ip_Ev (T_X4_begin (ip_call tb d)) Φ 0 (ip_ent 5 vs, [], M, n, 0, 0)) := rfl
theorem cl_40 {d : Nat} {vs : List Value} {M : ip_M} {n : Nat} {Φ : ip_P} : ip_call tb (d + 1) 40 vs M n Φ = ((ip_loc vs).length ≤ 3 ∧ ip_Ev (T_X4_hear (ip_call tb d)) Φ 0 (ip_ent 3 vs, [], M, n, 0, 0)) := rfl
theorem cl_41 {d : Nat} {vs : List Value} {M : ip_M} {n : Nat} {Φ : ip_P} : ip_call tb (d + 1) 41 vs M n Φ = ((ip_loc vs).length ≤ 1 ∧ ip_Ev (T_X4_isAcross (ip_call tb d)) Φ 0 (ip_ent 1 vs, [], M, n, 0, 0)) := rfl
theorem cl_42 {d : Nat} {vs : List Value} {M : ip_M} {n : Nat} {Φ : ip_P} : ip_call tb (d + 1) 42 vs M n Φ = ((ip_loc vs).length ≤ 1 ∧ ip_Ev (T_X4_isAtRest (ip_call tb d)) Φ 0 (ip_ent 1 vs, [], M, n, 0, 0)) := rfl
theorem cl_43 {d : Nat} {vs : List Value} {M : ip_M} {n : Nat} {Φ : ip_P} : ip_call tb (d + 1) 43 vs M n Φ = ((ip_loc vs).length ≤ 1 ∧ ip_Ev (T_X4_bears (ip_call tb d)) Φ 0 (ip_ent 1 vs, [], M, n, 0, 0)) := rfl
theorem cl_44 {d : Nat} {vs : List Value} {M : ip_M} {n : Nat} {Φ : ip_P} : ip_call tb (d + 1) 44 vs M n Φ = ((ip_loc vs).length ≤ 1 ∧ ip_Ev (T_X4_bearsAsWalker (ip_call tb d)) Φ 0 (ip_ent 1 vs, [], M, n, 0, 0)) := rfl
theorem cl_45 {d : Nat} {vs : List Value} {M : ip_M} {n : Nat} {Φ : ip_P} : ip_call tb (d + 1) 45 vs M n Φ = ((ip_loc vs).length ≤ 1 ∧ ip_Ev (T_X4_bearsAsClown (ip_call tb d)) Φ 0 (ip_ent 1 vs, [], M, n, 0, 0)) := rfl
theorem cl_46 {d : Nat} {vs : List Value} {M : ip_M} {n : Nat} {Φ : ip_P} : ip_call tb (d + 1) 46 vs M n Φ = ((ip_loc vs).length ≤ 1 ∧ ip_Ev (T_X4_bearsAsChild (ip_call tb d)) Φ 0 (ip_ent 1 vs, [], M, n, 0, 0)) := rfl
theorem cl_47 {d : Nat} {vs : List Value} {M : ip_M} {n : Nat} {Φ : ip_P} : ip_call tb (d + 1) 47 vs M n Φ = ((ip_loc vs).length ≤ 1 ∧ ip_Ev (T_X4_strides (ip_call tb d)) Φ 0 (ip_ent 1 vs, [], M, n, 0, 0)) := rfl
theorem cl_48 {d : Nat} {vs : List Value} {M : ip_M} {n : Nat} {Φ : ip_P} : ip_call tb (d + 1) 48 vs M n Φ = ((ip_loc vs).length ≤ 1 ∧ ip_Ev (T_X4_tread (ip_call tb d)) Φ 0 (ip_ent 1 vs, [], M, n, 0, 0)) := rfl
theorem cl_49 {d : Nat} {vs : List Value} {M : ip_M} {n : Nat} {Φ : ip_P} : ip_call tb (d + 1) 49 vs M n Φ = ((ip_loc vs).length ≤ 3 ∧ ip_Ev (T_X4_go (ip_call tb d)) Φ 0 (ip_ent 3 vs, [], M, n, 0, 0)) := rfl
theorem cl_50 {d : Nat} {vs : List Value} {M : ip_M} {n : Nat} {Φ : ip_P} : ip_call tb (d + 1) 50 vs M n Φ = ((ip_loc vs).length ≤ 3 ∧ ip_Ev (T_X4_goesAs (ip_call tb d)) Φ 0 (ip_ent 3 vs, [], M, n, 0, 0)) := rfl
theorem cl_51 {d : Nat} {vs : List Value} {M : ip_M} {n : Nat} {Φ : ip_P} : ip_call tb (d + 1) 51 vs M n Φ = ((ip_loc vs).length ≤ 1 ∧ ip_Ev (T_X5_init (ip_call tb d)) Φ 0 (ip_ent 1 vs, [], M, n, 0, 0)) := rfl
theorem cl_52 {d : Nat} {vs : List Value} {M : ip_M} {n : Nat} {Φ : ip_P} : ip_call tb (d + 1) 52 vs M n Φ = ((ip_loc vs).length ≤ 5 ∧ ip_Ev (T_X5_feed (ip_call tb d)) Φ 0 (ip_ent 5 vs, [], M, n, 0, 0)) := rfl
theorem cl_53 {d : Nat} {vs : List Value} {M : ip_M} {n : Nat} {Φ : ip_P} : ip_call tb (d + 1) 53 vs M n Φ = ((ip_loc vs).length ≤ 2 ∧ ip_Ev (T_X5_circus (ip_call tb d)) Φ 0 (ip_ent 2 vs, [], M, n, 0, 0)) := rfl
theorem cl_54 {d : Nat} {vs : List Value} {M : ip_M} {n : Nat} {Φ : ip_P} : ip_call tb (d + 1) 54 vs M n Φ = ((ip_loc vs).length ≤ 4 ∧ ip_Ev (T_X5_set (ip_call tb d)) Φ 0 (ip_ent 4 vs, [], M, n, 0, 0)) := rfl
theorem cl_55 {d : Nat} {vs : List Value} {M : ip_M} {n : Nat} {Φ : ip_P} : ip_call tb (d + 1) 55 vs M n Φ = ((ip_loc vs).length ≤ 2 ∧ ip_Ev (T_X5_lawOf (ip_call tb d)) Φ 0 (ip_ent 2 vs, [], M, n, 0, 0)) := rfl
theorem cl_56 {d : Nat} {vs : List Value} {M : ip_M} {n : Nat} {Φ : ip_P} : ip_call tb (d + 1) 56 vs M n Φ = ((ip_loc vs).length ≤ 4 ∧ ip_Ev (T_X5_fact (ip_call tb d)) Φ 0 (ip_ent 4 vs, [], M, n, 0, 0)) := rfl
theorem cl_57 {d : Nat} {vs : List Value} {M : ip_M} {n : Nat} {Φ : ip_P} : ip_call tb (d + 1) 57 vs M n Φ = ((ip_loc vs).length ≤ 3 ∧ ip_Ev (T_X5_walker (ip_call tb d)) Φ 0 (ip_ent 3 vs, [], M, n, 0, 0)) := rfl
theorem cl_58 {d : Nat} {vs : List Value} {M : ip_M} {n : Nat} {Φ : ip_P} : ip_call tb (d + 1) 58 vs M n Φ = ((ip_loc vs).length ≤ 3 ∧ ip_Ev (T_X5_of (ip_call tb d)) Φ 0 (ip_ent 3 vs, [], M, n, 0, 0)) := rfl
theorem cl_59 {d : Nat} {vs : List Value} {M : ip_M} {n : Nat} {Φ : ip_P} : ip_call tb (d + 1) 59 vs M n Φ = ((ip_loc vs).length ≤ 3 ∧ ip_Ev (T_X5_does (ip_call tb d)) Φ 0 (ip_ent 3 vs, [], M, n, 0, 0)) := rfl
theorem cl_60 {d : Nat} {vs : List Value} {M : ip_M} {n : Nat} {Φ : ip_P} : ip_call tb (d + 1) 60 vs M n Φ = ((ip_loc vs).length ≤ 5 ∧ ip_Ev (T_X5_mind (ip_call tb d)) Φ 0 (ip_ent 5 vs, [], M, n, 0, 0)) := rfl
theorem cl_61 {d : Nat} {vs : List Value} {M : ip_M} {n : Nat} {Φ : ip_P} : ip_call tb (d + 1) 61 vs M n Φ = ((ip_loc vs).length ≤ 5 ∧ ip_Ev (T_X5_say (ip_call tb d)) Φ 0 (ip_ent 5 vs, [], M, n, 0, 0)) := rfl
theorem cl_62 {d : Nat} {vs : List Value} {M : ip_M} {n : Nat} {Φ : ip_P} : ip_call tb (d + 1) 62 vs M n Φ = ((ip_loc vs).length ≤ 4 ∧ ip_Ev (T_X5_stand (ip_call tb d)) Φ 0 (ip_ent 4 vs, [], M, n, 0, 0)) := rfl
theorem cl_63 {d : Nat} {vs : List Value} {M : ip_M} {n : Nat} {Φ : ip_P} : ip_call tb (d + 1) 63 vs M n Φ = ((ip_loc vs).length ≤ 3 ∧ ip_Ev (T_X5_steps (ip_call tb d)) Φ 0 (ip_ent 3 vs, [], M, n, 0, 0)) := rfl
theorem cl_64 {d : Nat} {vs : List Value} {M : ip_M} {n : Nat} {Φ : ip_P} : ip_call tb (d + 1) 64 vs M n Φ = ((ip_loc vs).length ≤ 3 ∧ ip_Ev (T_X5_seed (ip_call tb d)) Φ 0 (ip_ent 3 vs, [], M, n, 0, 0)) := rfl
theorem cl_65 {d : Nat} {vs : List Value} {M : ip_M} {n : Nat} {Φ : ip_P} : ip_call tb (d + 1) 65 vs M n Φ = ((ip_loc vs).length ≤ 1 ∧ ip_Ev (T_X5_step (ip_call tb d)) Φ 0 (ip_ent 1 vs, [], M, n, 0, 0)) := rfl
theorem cl_66 {d : Nat} {vs : List Value} {M : ip_M} {n : Nat} {Φ : ip_P} : ip_call tb (d + 1) 66 vs M n Φ = ((ip_loc vs).length ≤ 6 ∧ ip_Ev (T_X5_luck (ip_call tb d)) Φ 0 (ip_ent 6 vs, [], M, n, 0, 0)) := rfl
theorem cl_67 {d : Nat} {vs : List Value} {M : ip_M} {n : Nat} {Φ : ip_P} : ip_call tb (d + 1) 67 vs M n Φ = ((ip_loc vs).length ≤ 2 ∧ ip_Ev (T_X5_state (ip_call tb d)) Φ 0 (ip_ent 2 vs, [], M, n, 0, 0)) := rfl
theorem cl_68 {d : Nat} {vs : List Value} {M : ip_M} {n : Nat} {Φ : ip_P} : ip_call tb (d + 1) 68 vs M n Φ = ((ip_loc vs).length ≤ 3 ∧ ip_Ev (T_X5_reaches (ip_call tb d)) Φ 0 (ip_ent 3 vs, [], M, n, 0, 0)) := rfl
theorem cl_69 {d : Nat} {vs : List Value} {M : ip_M} {n : Nat} {Φ : ip_P} : ip_call tb (d + 1) 69 vs M n Φ = ((ip_loc vs).length ≤ 3 ∧ ip_Ev (T_X5_over (ip_call tb d)) Φ 0 (ip_ent 3 vs, [], M, n, 0, 0)) := rfl
theorem cl_70 {d : Nat} {vs : List Value} {M : ip_M} {n : Nat} {Φ : ip_P} : ip_call tb (d + 1) 70 vs M n Φ = ((ip_loc vs).length ≤ 3 ∧ ip_Ev (T_X5_falls (ip_call tb d)) Φ 0 (ip_ent 3 vs, [], M, n, 0, 0)) := rfl
theorem cl_71 {d : Nat} {vs : List Value} {M : ip_M} {n : Nat} {Φ : ip_P} : ip_call tb (d + 1) 71 vs M n Φ = ((ip_loc vs).length ≤ 4 ∧ ip_Ev (T_X5_end (ip_call tb d)) Φ 0 (ip_ent 4 vs, [], M, n, 0, 0)) := rfl
theorem cl_72 {d : Nat} {vs : List Value} {M : ip_M} {n : Nat} {Φ : ip_P} : ip_call tb (d + 1) 72 vs M n Φ = ((ip_loc vs).length ≤ 5 ∧ ip_Ev (T_X5_sayFor (ip_call tb d)) Φ 0 (ip_ent 5 vs, [], M, n, 0, 0)) := rfl
theorem cl_73 {d : Nat} {vs : List Value} {M : ip_M} {n : Nat} {Φ : ip_P} : ip_call tb (d + 1) 73 vs M n Φ = ((ip_loc vs).length ≤ 6 ∧ ip_Ev (T_X5_kindFor (ip_call tb d)) Φ 0 (ip_ent 6 vs, [], M, n, 0, 0)) := rfl
theorem cl_74 {d : Nat} {vs : List Value} {M : ip_M} {n : Nat} {Φ : ip_P} : ip_call tb (d + 1) 74 vs M n Φ = ((ip_loc vs).length ≤ 6 ∧ ip_Ev (T_X5_turnedFor (ip_call tb d)) Φ 0 (ip_ent 6 vs, [], M, n, 0, 0)) := rfl
theorem cl_75 {d : Nat} {vs : List Value} {M : ip_M} {n : Nat} {Φ : ip_P} : ip_call tb (d + 1) 75 vs M n Φ = ((ip_loc vs).length ≤ 4 ∧ ip_Ev (T_X5_loadFor (ip_call tb d)) Φ 0 (ip_ent 4 vs, [], M, n, 0, 0)) := rfl
theorem cl_76 {d : Nat} {vs : List Value} {M : ip_M} {n : Nat} {Φ : ip_P} : ip_call tb (d + 1) 76 vs M n Φ = ((ip_loc vs).length ≤ 4 ∧ ip_Ev (T_X5_both (ip_call tb d)) Φ 0 (ip_ent 4 vs, [], M, n, 0, 0)) := rfl
theorem cl_77 {d : Nat} {vs : List Value} {M : ip_M} {n : Nat} {Φ : ip_P} : ip_call tb (d + 1) 77 vs M n Φ = ((ip_loc vs).length ≤ 8 ∧ ip_Ev (T_X5_fits (ip_call tb d)) Φ 0 (ip_ent 8 vs, [], M, n, 0, 0)) := rfl
theorem cl_78 {d : Nat} {vs : List Value} {M : ip_M} {n : Nat} {Φ : ip_P} : ip_call tb (d + 1) 78 vs M n Φ = ((ip_loc vs).length ≤ 10 ∧ ip_Ev (T_X5_odds (ip_call tb d)) Φ 0 (ip_ent 10 vs, [], M, n, 0, 0)) := rfl
theorem cl_79 {d : Nat} {vs : List Value} {M : ip_M} {n : Nat} {Φ : ip_P} : ip_call tb (d + 1) 79 vs M n Φ = ((ip_loc vs).length ≤ 3 ∧ ip_Ev (T_X5_hope (ip_call tb d)) Φ 0 (ip_ent 3 vs, [], M, n, 0, 0)) := rfl
theorem cl_80 {d : Nat} {vs : List Value} {M : ip_M} {n : Nat} {Φ : ip_P} : ip_call tb (d + 1) 80 vs M n Φ = ((ip_loc vs).length ≤ 5 ∧ ip_Ev (T_X5_prove (ip_call tb d)) Φ 0 (ip_ent 5 vs, [], M, n, 0, 0)) := rfl
theorem cl_81 {d : Nat} {vs : List Value} {M : ip_M} {n : Nat} {Φ : ip_P} : ip_call tb (d + 1) 81 vs M n Φ = ((ip_loc vs).length ≤ 3 ∧ ip_Ev (T_X5_row (ip_call tb d)) Φ 0 (ip_ent 3 vs, [], M, n, 0, 0)) := rfl
theorem cl_82 {d : Nat} {vs : List Value} {M : ip_M} {n : Nat} {Φ : ip_P} : ip_call tb (d + 1) 82 vs M n Φ = ((ip_loc vs).length ≤ 5 ∧ ip_Ev (T_X5_alterRow (ip_call tb d)) Φ 0 (ip_ent 5 vs, [], M, n, 0, 0)) := rfl
theorem cl_83 {d : Nat} {vs : List Value} {M : ip_M} {n : Nat} {Φ : ip_P} : ip_call tb (d + 1) 83 vs M n Φ = ((ip_loc vs).length ≤ 4 ∧ ip_Ev (T_X5_judge (ip_call tb d)) Φ 0 (ip_ent 4 vs, [], M, n, 0, 0)) := rfl
theorem cl_84 {d : Nat} {vs : List Value} {M : ip_M} {n : Nat} {Φ : ip_P} : ip_call tb (d + 1) 84 vs M n Φ = ((ip_loc vs).length ≤ 7 ∧ ip_Ev (T_X5_minds (ip_call tb d)) Φ 0 (ip_ent 7 vs, [], M, n, 0, 0)) := rfl
theorem cl_85 {d : Nat} {vs : List Value} {M : ip_M} {n : Nat} {Φ : ip_P} : ip_call tb (d + 1) 85 vs M n Φ = ((ip_loc vs).length ≤ 4 ∧ ip_Ev (T_X5_sheet (ip_call tb d)) Φ 0 (ip_ent 4 vs, [], M, n, 0, 0)) := rfl
theorem cl_86 {d : Nat} {vs : List Value} {M : ip_M} {n : Nat} {Φ : ip_P} : ip_call tb (d + 1) 86 vs M n Φ = ((ip_loc vs).length ≤ 5 ∧ ip_Ev (T_X5_put (ip_call tb d)) Φ 0 (ip_ent 5 vs, [], M, n, 0, 0)) := rfl
theorem cl_87 {d : Nat} {vs : List Value} {M : ip_M} {n : Nat} {Φ : ip_P} : ip_call tb (d + 1) 87 vs M n Φ = ((ip_loc vs).length ≤ 5 ∧ ip_Ev (T_X5_item (ip_call tb d)) Φ 0 (ip_ent 5 vs, [], M, n, 0, 0)) := rfl
theorem cl_88 {d : Nat} {vs : List Value} {M : ip_M} {n : Nat} {Φ : ip_P} : ip_call tb (d + 1) 88 vs M n Φ = ((ip_loc vs).length ≤ 4 ∧ ip_Ev (T_X5_shelf (ip_call tb d)) Φ 0 (ip_ent 4 vs, [], M, n, 0, 0)) := rfl
theorem cl_89 {d : Nat} {vs : List Value} {M : ip_M} {n : Nat} {Φ : ip_P} : ip_call tb (d + 1) 89 vs M n Φ = ((ip_loc vs).length ≤ 6 ∧ ip_Ev (T_X5_taken (ip_call tb d)) Φ 0 (ip_ent 6 vs, [], M, n, 0, 0)) := rfl
theorem cl_90 {d : Nat} {vs : List Value} {M : ip_M} {n : Nat} {Φ : ip_P} : ip_call tb (d + 1) 90 vs M n Φ = ((ip_loc vs).length ≤ 5 ∧ ip_Ev (T_X5_act (ip_call tb d)) Φ 0 (ip_ent 5 vs, [], M, n, 0, 0)) := rfl
theorem cl_91 {d : Nat} {vs : List Value} {M : ip_M} {n : Nat} {Φ : ip_P} : ip_call tb (d + 1) 91 vs M n Φ = ((ip_loc vs).length ≤ 2 ∧ ip_Ev (T_X5_trace (ip_call tb d)) Φ 0 (ip_ent 2 vs, [], M, n, 0, 0)) := rfl
theorem cl_92 {d : Nat} {vs : List Value} {M : ip_M} {n : Nat} {Φ : ip_P} : ip_call tb (d + 1) 92 vs M n Φ = ((ip_loc vs).length ≤ 2 ∧ ip_Ev (T_X5_many (ip_call tb d)) Φ 0 (ip_ent 2 vs, [], M, n, 0, 0)) := rfl
theorem cl_93 {d : Nat} {vs : List Value} {M : ip_M} {n : Nat} {Φ : ip_P} : ip_call tb (d + 1) 93 vs M n Φ = ((ip_loc vs).length ≤ 1 ∧ ip_Ev (T_X5_keep (ip_call tb d)) Φ 0 (ip_ent 1 vs, [], M, n, 0, 0)) := rfl
theorem cl_94 {d : Nat} {vs : List Value} {M : ip_M} {n : Nat} {Φ : ip_P} : ip_call tb (d + 1) 94 vs M n Φ = ((ip_loc vs).length ≤ 1 ∧ ip_Ev (T_X5_again (ip_call tb d)) Φ 0 (ip_ent 1 vs, [], M, n, 0, 0)) := rfl
theorem cl_95 {d : Nat} {vs : List Value} {M : ip_M} {n : Nat} {Φ : ip_P} : ip_call tb (d + 1) 95 vs M n Φ = ((ip_loc vs).length ≤ 3 ∧ ip_Ev (T_X5_within (ip_call tb d)) Φ 0 (ip_ent 3 vs, [], M, n, 0, 0)) := rfl
theorem cl_96 {d : Nat} {vs : List Value} {M : ip_M} {n : Nat} {Φ : ip_P} : ip_call tb (d + 1) 96 vs M n Φ = ((ip_loc vs).length ≤ 1 ∧ ip_Ev (T_X5_isKind (ip_call tb d)) Φ 0 (ip_ent 1 vs, [], M, n, 0, 0)) := rfl
theorem cl_97 {d : Nat} {vs : List Value} {M : ip_M} {n : Nat} {Φ : ip_P} : ip_call tb (d + 1) 97 vs M n Φ = ((ip_loc vs).length ≤ 1 ∧ ip_Ev (T_X5_isWeight (ip_call tb d)) Φ 0 (ip_ent 1 vs, [], M, n, 0, 0)) := rfl
theorem cl_98 {d : Nat} {vs : List Value} {M : ip_M} {n : Nat} {Φ : ip_P} : ip_call tb (d + 1) 98 vs M n Φ = ((ip_loc vs).length ≤ 1 ∧ ip_Ev (T_X5_isFactSet (ip_call tb d)) Φ 0 (ip_ent 1 vs, [], M, n, 0, 0)) := rfl
theorem cl_99 {d : Nat} {vs : List Value} {M : ip_M} {n : Nat} {Φ : ip_P} : ip_call tb (d + 1) 99 vs M n Φ = ((ip_loc vs).length ≤ 1 ∧ ip_Ev (T_X5_isSheet (ip_call tb d)) Φ 0 (ip_ent 1 vs, [], M, n, 0, 0)) := rfl
theorem cl_100 {d : Nat} {vs : List Value} {M : ip_M} {n : Nat} {Φ : ip_P} : ip_call tb (d + 1) 100 vs M n Φ = ((ip_loc vs).length ≤ 1 ∧ ip_Ev (T_X5_isSort (ip_call tb d)) Φ 0 (ip_ent 1 vs, [], M, n, 0, 0)) := rfl
theorem cl_101 {d : Nat} {vs : List Value} {M : ip_M} {n : Nat} {Φ : ip_P} : ip_call tb (d + 1) 101 vs M n Φ = ((ip_loc vs).length ≤ 1 ∧ ip_Ev (T_X5_isShelf (ip_call tb d)) Φ 0 (ip_ent 1 vs, [], M, n, 0, 0)) := rfl
theorem cl_102 {d : Nat} {vs : List Value} {M : ip_M} {n : Nat} {Φ : ip_P} : ip_call tb (d + 1) 102 vs M n Φ = ((ip_loc vs).length ≤ 2 ∧ ip_Ev (T_X5_isWalker (ip_call tb d)) Φ 0 (ip_ent 2 vs, [], M, n, 0, 0)) := rfl
theorem cl_103 {d : Nat} {vs : List Value} {M : ip_M} {n : Nat} {Φ : ip_P} : ip_call tb (d + 1) 103 vs M n Φ = ((ip_loc vs).length ≤ 3 ∧ ip_Ev (T_X5_isRowItem (ip_call tb d)) Φ 0 (ip_ent 3 vs, [], M, n, 0, 0)) := rfl
theorem cl_104 {d : Nat} {vs : List Value} {M : ip_M} {n : Nat} {Φ : ip_P} : ip_call tb (d + 1) 104 vs M n Φ = ((ip_loc vs).length ≤ 2 ∧ ip_Ev (T_X5_hasBit (ip_call tb d)) Φ 0 (ip_ent 2 vs, [], M, n, 0, 0)) := rfl
theorem cl_105 {d : Nat} {vs : List Value} {M : ip_M} {n : Nat} {Φ : ip_P} : ip_call tb (d + 1) 105 vs M n Φ = ((ip_loc vs).length ≤ 3 ∧ ip_Ev (T_X5_withBit (ip_call tb d)) Φ 0 (ip_ent 3 vs, [], M, n, 0, 0)) := rfl
theorem cl_106 {d : Nat} {vs : List Value} {M : ip_M} {n : Nat} {Φ : ip_P} : ip_call tb (d + 1) 106 vs M n Φ = ((ip_loc vs).length ≤ 4 ∧ ip_Ev (T_X5_isUnder (ip_call tb d)) Φ 0 (ip_ent 4 vs, [], M, n, 0, 0)) := rfl
theorem cl_107 {d : Nat} {vs : List Value} {M : ip_M} {n : Nat} {Φ : ip_P} : ip_call tb (d + 1) 107 vs M n Φ = ((ip_loc vs).length ≤ 4 ∧ ip_Ev (T_X5_putOnShelf (ip_call tb d)) Φ 0 (ip_ent 4 vs, [], M, n, 0, 0)) := rfl
theorem cl_108 {d : Nat} {vs : List Value} {M : ip_M} {n : Nat} {Φ : ip_P} : ip_call tb (d + 1) 108 vs M n Φ = ((ip_loc vs).length ≤ 3 ∧ ip_Ev (T_X5_stepsToRest (ip_call tb d)) Φ 0 (ip_ent 3 vs, [], M, n, 0, 0)) := rfl
theorem cl_109 {d : Nat} {vs : List Value} {M : ip_M} {n : Nat} {Φ : ip_P} : ip_call tb (d + 1) 109 vs M n Φ = ((ip_loc vs).length ≤ 6 ∧ ip_Ev (T_X5_rightsThatCross (ip_call tb d)) Φ 0 (ip_ent 6 vs, [], M, n, 0, 0)) := rfl
theorem cl_110 {d : Nat} {vs : List Value} {M : ip_M} {n : Nat} {Φ : ip_P} : ip_call tb (d + 1) 110 vs M n Φ = ((ip_loc vs).length ≤ 6 ∧ ip_Ev (T_X5_rightsAsTold (ip_call tb d)) Φ 0 (ip_ent 6 vs, [], M, n, 0, 0)) := rfl
theorem cl_111 {d : Nat} {vs : List Value} {M : ip_M} {n : Nat} {Φ : ip_P} : ip_call tb (d + 1) 111 vs M n Φ = ((ip_loc vs).length ≤ 4 ∧ ip_Ev (T_X5_leastSaying (ip_call tb d)) Φ 0 (ip_ent 4 vs, [], M, n, 0, 0)) := rfl
theorem cl_112 {d : Nat} {vs : List Value} {M : ip_M} {n : Nat} {Φ : ip_P} : ip_call tb (d + 1) 112 vs M n Φ = ((ip_loc vs).length ≤ 10 ∧ ip_Ev (T_X5_mayBeYes (ip_call tb d)) Φ 0 (ip_ent 10 vs, [], M, n, 0, 0)) := rfl
theorem cl_113 {d : Nat} {vs : List Value} {M : ip_M} {n : Nat} {Φ : ip_P} : ip_call tb (d + 1) 113 vs M n Φ = ((ip_loc vs).length ≤ 6 ∧ ip_Ev (T_X5_leastNo (ip_call tb d)) Φ 0 (ip_ent 6 vs, [], M, n, 0, 0)) := rfl
theorem cl_114 {d : Nat} {vs : List Value} {M : ip_M} {n : Nat} {Φ : ip_P} : ip_call tb (d + 1) 114 vs M n Φ = ((ip_loc vs).length ≤ 3 ∧ ip_Ev (T_X5_rightOf (ip_call tb d)) Φ 0 (ip_ent 3 vs, [], M, n, 0, 0)) := rfl
theorem cl_115 {d : Nat} {vs : List Value} {M : ip_M} {n : Nat} {Φ : ip_P} : ip_call tb (d + 1) 115 vs M n Φ = ((ip_loc vs).length ≤ 5 ∧ ip_Ev (T_X5_choices (ip_call tb d)) Φ 0 (ip_ent 5 vs, [], M, n, 0, 0)) := rfl
theorem cl_116 {d : Nat} {vs : List Value} {M : ip_M} {n : Nat} {Φ : ip_P} : ip_call tb (d + 1) 116 vs M n Φ = ((ip_loc vs).length ≤ 7 ∧ ip_Ev (T_X5_partOf (ip_call tb d)) Φ 0 (ip_ent 7 vs, [], M, n, 0, 0)) := rfl
theorem cl_117 {d : Nat} {vs : List Value} {M : ip_M} {n : Nat} {Φ : ip_P} : ip_call tb (d + 1) 117 vs M n Φ = ((ip_loc vs).length ≤ 11 ∧ ip_Ev (T_X5_commonDivisor (ip_call tb d)) Φ 0 (ip_ent 11 vs, [], M, n, 0, 0)) := rfl
theorem cl_118 {d : Nat} {vs : List Value} {M : ip_M} {n : Nat} {Φ : ip_P} : ip_call tb (d + 1) 118 vs M n Φ = ((ip_loc vs).length ≤ 1 ∧ ip_Ev (T_X6_init (ip_call tb d)) Φ 0 (ip_ent 1 vs, [], M, n, 0, 0)) := rfl
theorem cl_119 {d : Nat} {vs : List Value} {M : ip_M} {n : Nat} {Φ : ip_P} : ip_call tb (d + 1) 119 vs M n Φ = ((ip_loc vs).length ≤ 2 ∧ ip_Ev (T_X6_begins (ip_call tb d)) Φ 0 (ip_ent 2 vs, [], M, n, 0, 0)) := rfl
theorem cl_120 {d : Nat} {vs : List Value} {M : ip_M} {n : Nat} {Φ : ip_P} : ip_call tb (d + 1) 120 vs M n Φ = ((ip_loc vs).length ≤ 3 ∧ ip_Ev (T_X6_in (ip_call tb d)) Φ 0 (ip_ent 3 vs, [], M, n, 0, 0)) := rfl
theorem cl_121 {d : Nat} {vs : List Value} {M : ip_M} {n : Nat} {Φ : ip_P} : ip_call tb (d + 1) 121 vs M n Φ = ((ip_loc vs).length ≤ 3 ∧ ip_Ev (T_X6_held (ip_call tb d)) Φ 0 (ip_ent 3 vs, [], M, n, 0, 0)) := rfl
theorem cl_122 {d : Nat} {vs : List Value} {M : ip_M} {n : Nat} {Φ : ip_P} : ip_call tb (d + 1) 122 vs M n Φ = ((ip_loc vs).length ≤ 3 ∧ ip_Ev (T_X6_moveAll (ip_call tb d)) Φ 0 (ip_ent 3 vs, [], M, n, 0, 0)) := rfl
theorem cl_123 {d : Nat} {vs : List Value} {M : ip_M} {n : Nat} {Φ : ip_P} : ip_call tb (d + 1) 123 vs M n Φ = ((ip_loc vs).length ≤ 2 ∧ ip_Ev (T_X6_isOne (ip_call tb d)) Φ 0 (ip_ent 2 vs, [], M, n, 0, 0)) := rfl
theorem cl_124 {d : Nat} {vs : List Value} {M : ip_M} {n : Nat} {Φ : ip_P} : ip_call tb (d + 1) 124 vs M n Φ = ((ip_loc vs).length ≤ 3 ∧ ip_Ev (T_X6_its (ip_call tb d)) Φ 0 (ip_ent 3 vs, [], M, n, 0, 0)) := rfl
theorem cl_125 {d : Nat} {vs : List Value} {M : ip_M} {n : Nat} {Φ : ip_P} : ip_call tb (d + 1) 125 vs M n Φ = ((ip_loc vs).length ≤ 4 ∧ ip_Ev (T_X6_sets (ip_call tb d)) Φ 0 (ip_ent 4 vs, [], M, n, 0, 0)) := rfl
theorem cl_126 {d : Nat} {vs : List Value} {M : ip_M} {n : Nat} {Φ : ip_P} : ip_call tb (d + 1) 126 vs M n Φ = ((ip_loc vs).length ≤ 4 ∧ ip_Ev (T_X6_becomes (ip_call tb d)) Φ 0 (ip_ent 4 vs, [], M, n, 0, 0)) := rfl
theorem cl_127 {d : Nat} {vs : List Value} {M : ip_M} {n : Nat} {Φ : ip_P} : ip_call tb (d + 1) 127 vs M n Φ = ((ip_loc vs).length ≤ 3 ∧ ip_Ev (T_X6_ones (ip_call tb d)) Φ 0 (ip_ent 3 vs, [], M, n, 0, 0)) := rfl
theorem cl_128 {d : Nat} {vs : List Value} {M : ip_M} {n : Nat} {Φ : ip_P} : ip_call tb (d + 1) 128 vs M n Φ = ((ip_loc vs).length ≤ 5 ∧ ip_Ev (T_X6_feed (ip_call tb d)) Φ 0 (ip_ent 5 vs, [], M, n, 0, 0)) := rfl
theorem cl_129 {d : Nat} {vs : List Value} {M : ip_M} {n : Nat} {Φ : ip_P} : ip_call tb (d + 1) 129 vs M n Φ = ((ip_loc vs).length ≤ 2 ∧ ip_Ev (T_X6_byteAt (ip_call tb d)) Φ 0 (ip_ent 2 vs, [], M, n, 0, 0)) := rfl
theorem cl_130 {d : Nat} {vs : List Value} {M : ip_M} {n : Nat} {Φ : ip_P} : ip_call tb (d + 1) 130 vs M n Φ = ((ip_loc vs).length ≤ 1 ∧ ip_Ev (T_X6_isLetter (ip_call tb d)) Φ 0 (ip_ent 1 vs, [], M, n, 0, 0)) := rfl
theorem cl_131 {d : Nat} {vs : List Value} {M : ip_M} {n : Nat} {Φ : ip_P} : ip_call tb (d + 1) 131 vs M n Φ = ((ip_loc vs).length ≤ 1 ∧ ip_Ev (T_X6_isDigit (ip_call tb d)) Φ 0 (ip_ent 1 vs, [], M, n, 0, 0)) := rfl
theorem cl_132 {d : Nat} {vs : List Value} {M : ip_M} {n : Nat} {Φ : ip_P} : ip_call tb (d + 1) 132 vs M n Φ = ((ip_loc vs).length ≤ 2 ∧ ip_Ev (T_X6_advance (ip_call tb d)) Φ 0 (ip_ent 2 vs, [], M, n, 0, 0)) := rfl
theorem cl_133 {d : Nat} {vs : List Value} {M : ip_M} {n : Nat} {Φ : ip_P} : ip_call tb (d + 1) 133 vs M n Φ = ((ip_loc vs).length ≤ 3 ∧ ip_Ev (T_X6_isWord (ip_call tb d)) Φ 0 (ip_ent 3 vs, [], M, n, 0, 0)) := rfl
theorem cl_134 {d : Nat} {vs : List Value} {M : ip_M} {n : Nat} {Φ : ip_P} : ip_call tb (d + 1) 134 vs M n Φ = ((ip_loc vs).length ≤ 2 ∧ ip_Ev (T_X6_isMark (ip_call tb d)) Φ 0 (ip_ent 2 vs, [], M, n, 0, 0)) := rfl
theorem cl_135 {d : Nat} {vs : List Value} {M : ip_M} {n : Nat} {Φ : ip_P} : ip_call tb (d + 1) 135 vs M n Φ = ((ip_loc vs).length ≤ 1 ∧ ip_Ev (T_X6_kindHere (ip_call tb d)) Φ 0 (ip_ent 1 vs, [], M, n, 0, 0)) := rfl
theorem cl_136 {d : Nat} {vs : List Value} {M : ip_M} {n : Nat} {Φ : ip_P} : ip_call tb (d + 1) 136 vs M n Φ = ((ip_loc vs).length ≤ 1 ∧ ip_Ev (T_X6_lawHere (ip_call tb d)) Φ 0 (ip_ent 1 vs, [], M, n, 0, 0)) := rfl
theorem cl_137 {d : Nat} {vs : List Value} {M : ip_M} {n : Nat} {Φ : ip_P} : ip_call tb (d + 1) 137 vs M n Φ = ((ip_loc vs).length ≤ 4 ∧ ip_Ev (T_X6_wantNumber (ip_call tb d)) Φ 0 (ip_ent 4 vs, [], M, n, 0, 0)) := rfl
theorem cl_138 {d : Nat} {vs : List Value} {M : ip_M} {n : Nat} {Φ : ip_P} : ip_call tb (d + 1) 138 vs M n Φ = ((ip_loc vs).length ≤ 1 ∧ ip_Ev (T_X6_wantEnd (ip_call tb d)) Φ 0 (ip_ent 1 vs, [], M, n, 0, 0)) := rfl
theorem cl_139 {d : Nat} {vs : List Value} {M : ip_M} {n : Nat} {Φ : ip_P} : ip_call tb (d + 1) 139 vs M n Φ = ((ip_loc vs).length ≤ 5 ∧ ip_Ev (T_X6_mayWant (ip_call tb d)) Φ 0 (ip_ent 5 vs, [], M, n, 0, 0)) := rfl
theorem cl_140 {d : Nat} {vs : List Value} {M : ip_M} {n : Nat} {Φ : ip_P} : ip_call tb (d + 1) 140 vs M n Φ = ((ip_loc vs).length ≤ 2 ∧ ip_Ev (T_X6_mayDeny (ip_call tb d)) Φ 0 (ip_ent 2 vs, [], M, n, 0, 0)) := rfl
theorem cl_141 {d : Nat} {vs : List Value} {M : ip_M} {n : Nat} {Φ : ip_P} : ip_call tb (d + 1) 141 vs M n Φ = ((ip_loc vs).length ≤ 7 ∧ ip_Ev (T_X6_wantOne (ip_call tb d)) Φ 0 (ip_ent 7 vs, [], M, n, 0, 0)) := rfl
theorem cl_142 {d : Nat} {vs : List Value} {M : ip_M} {n : Nat} {Φ : ip_P} : ip_call tb (d + 1) 142 vs M n Φ = ((ip_loc vs).length ≤ 3 ∧ ip_Ev (T_X6_wantClause (ip_call tb d)) Φ 0 (ip_ent 3 vs, [], M, n, 0, 0)) := rfl
theorem cl_143 {d : Nat} {vs : List Value} {M : ip_M} {n : Nat} {Φ : ip_P} : ip_call tb (d + 1) 143 vs M n Φ = ((ip_loc vs).length ≤ 1 ∧ ip_Ev (T_X6_circus (ip_call tb d)) Φ 0 (ip_ent 1 vs, [], M, n, 0, 0)) := rfl
theorem cl_144 {d : Nat} {vs : List Value} {M : ip_M} {n : Nat} {Φ : ip_P} : ip_call tb (d + 1) 144 vs M n Φ = ((ip_loc vs).length ≤ 1 ∧ ip_Ev (T_X6_mostOf (ip_call tb d)) Φ 0 (ip_ent 1 vs, [], M, n, 0, 0)) := rfl
theorem cl_145 {d : Nat} {vs : List Value} {M : ip_M} {n : Nat} {Φ : ip_P} : ip_call tb (d + 1) 145 vs M n Φ = ((ip_loc vs).length ≤ 3 ∧ ip_Ev (T_X6_set (ip_call tb d)) Φ 0 (ip_ent 3 vs, [], M, n, 0, 0)) := rfl
theorem cl_146 {d : Nat} {vs : List Value} {M : ip_M} {n : Nat} {Φ : ip_P} : ip_call tb (d + 1) 146 vs M n Φ = ((ip_loc vs).length ≤ 2 ∧ ip_Ev (T_X6_lawOf (ip_call tb d)) Φ 0 (ip_ent 2 vs, [], M, n, 0, 0)) := rfl
theorem cl_147 {d : Nat} {vs : List Value} {M : ip_M} {n : Nat} {Φ : ip_P} : ip_call tb (d + 1) 147 vs M n Φ = ((ip_loc vs).length ≤ 4 ∧ ip_Ev (T_X6_fact (ip_call tb d)) Φ 0 (ip_ent 4 vs, [], M, n, 0, 0)) := rfl
theorem cl_148 {d : Nat} {vs : List Value} {M : ip_M} {n : Nat} {Φ : ip_P} : ip_call tb (d + 1) 148 vs M n Φ = ((ip_loc vs).length ≤ 2 ∧ ip_Ev (T_X6_isKind (ip_call tb d)) Φ 0 (ip_ent 2 vs, [], M, n, 0, 0)) := rfl
theorem cl_149 {d : Nat} {vs : List Value} {M : ip_M} {n : Nat} {Φ : ip_P} : ip_call tb (d + 1) 149 vs M n Φ = ((ip_loc vs).length ≤ 5 ∧ ip_Ev (T_X6_walker (ip_call tb d)) Φ 0 (ip_ent 5 vs, [], M, n, 0, 0)) := rfl
theorem cl_150 {d : Nat} {vs : List Value} {M : ip_M} {n : Nat} {Φ : ip_P} : ip_call tb (d + 1) 150 vs M n Φ = ((ip_loc vs).length ≤ 3 ∧ ip_Ev (T_X6_of (ip_call tb d)) Φ 0 (ip_ent 3 vs, [], M, n, 0, 0)) := rfl
theorem cl_151 {d : Nat} {vs : List Value} {M : ip_M} {n : Nat} {Φ : ip_P} : ip_call tb (d + 1) 151 vs M n Φ = ((ip_loc vs).length ≤ 2 ∧ ip_Ev (T_X6_right (ip_call tb d)) Φ 0 (ip_ent 2 vs, [], M, n, 0, 0)) := rfl
theorem cl_152 {d : Nat} {vs : List Value} {M : ip_M} {n : Nat} {Φ : ip_P} : ip_call tb (d + 1) 152 vs M n Φ = ((ip_loc vs).length ≤ 2 ∧ ip_Ev (T_X6_said (ip_call tb d)) Φ 0 (ip_ent 2 vs, [], M, n, 0, 0)) := rfl
theorem cl_153 {d : Nat} {vs : List Value} {M : ip_M} {n : Nat} {Φ : ip_P} : ip_call tb (d + 1) 153 vs M n Φ = ((ip_loc vs).length ≤ 7 ∧ ip_Ev (T_X6_bears (ip_call tb d)) Φ 0 (ip_ent 7 vs, [], M, n, 0, 0)) := rfl
theorem cl_154 {d : Nat} {vs : List Value} {M : ip_M} {n : Nat} {Φ : ip_P} : ip_call tb (d + 1) 154 vs M n Φ = ((ip_loc vs).length ≤ 2 ∧ ip_Ev (T_X6_strides (ip_call tb d)) Φ 0 (ip_ent 2 vs, [], M, n, 0, 0)) := rfl
theorem cl_155 {d : Nat} {vs : List Value} {M : ip_M} {n : Nat} {Φ : ip_P} : ip_call tb (d + 1) 155 vs M n Φ = ((ip_loc vs).length ≤ 3 ∧ ip_Ev (T_X6_does (ip_call tb d)) Φ 0 (ip_ent 3 vs, [], M, n, 0, 0)) := rfl
theorem cl_156 {d : Nat} {vs : List Value} {M : ip_M} {n : Nat} {Φ : ip_P} : ip_call tb (d + 1) 156 vs M n Φ = ((ip_loc vs).length ≤ 4 ∧ ip_Ev (T_X6_mind (ip_call tb d)) Φ 0 (ip_ent 4 vs, [], M, n, 0, 0)) := rfl
theorem cl_157 {d : Nat} {vs : List Value} {M : ip_M} {n : Nat} {Φ : ip_P} : ip_call tb (d + 1) 157 vs M n Φ = ((ip_loc vs).length ≤ 5 ∧ ip_Ev (T_X6_say (ip_call tb d)) Φ 0 (ip_ent 5 vs, [], M, n, 0, 0)) := rfl
theorem cl_158 {d : Nat} {vs : List Value} {M : ip_M} {n : Nat} {Φ : ip_P} : ip_call tb (d + 1) 158 vs M n Φ = ((ip_loc vs).length ≤ 3 ∧ ip_Ev (T_X6_stand (ip_call tb d)) Φ 0 (ip_ent 3 vs, [], M, n, 0, 0)) := rfl
theorem cl_159 {d : Nat} {vs : List Value} {M : ip_M} {n : Nat} {Φ : ip_P} : ip_call tb (d + 1) 159 vs M n Φ = ((ip_loc vs).length ≤ 2 ∧ ip_Ev (T_X6_isAcross (ip_call tb d)) Φ 0 (ip_ent 2 vs, [], M, n, 0, 0)) := rfl
theorem cl_160 {d : Nat} {vs : List Value} {M : ip_M} {n : Nat} {Φ : ip_P} : ip_call tb (d + 1) 160 vs M n Φ = ((ip_loc vs).length ≤ 2 ∧ ip_Ev (T_X6_isDone (ip_call tb d)) Φ 0 (ip_ent 2 vs, [], M, n, 0, 0)) := rfl
theorem cl_161 {d : Nat} {vs : List Value} {M : ip_M} {n : Nat} {Φ : ip_P} : ip_call tb (d + 1) 161 vs M n Φ = ((ip_loc vs).length ≤ 2 ∧ ip_Ev (T_X6_goes (ip_call tb d)) Φ 0 (ip_ent 2 vs, [], M, n, 0, 0)) := rfl
theorem cl_162 {d : Nat} {vs : List Value} {M : ip_M} {n : Nat} {Φ : ip_P} : ip_call tb (d + 1) 162 vs M n Φ = ((ip_loc vs).length ≤ 2 ∧ ip_Ev (T_X6_stepGoes (ip_call tb d)) Φ 0 (ip_ent 2 vs, [], M, n, 0, 0)) := rfl
theorem cl_163 {d : Nat} {vs : List Value} {M : ip_M} {n : Nat} {Φ : ip_P} : ip_call tb (d + 1) 163 vs M n Φ = ((ip_loc vs).length ≤ 3 ∧ ip_Ev (T_X6_acrossSet (ip_call tb d)) Φ 0 (ip_ent 3 vs, [], M, n, 0, 0)) := rfl
theorem cl_164 {d : Nat} {vs : List Value} {M : ip_M} {n : Nat} {Φ : ip_P} : ip_call tb (d + 1) 164 vs M n Φ = ((ip_loc vs).length ≤ 3 ∧ ip_Ev (T_X6_fallenSet (ip_call tb d)) Φ 0 (ip_ent 3 vs, [], M, n, 0, 0)) := rfl
theorem cl_165 {d : Nat} {vs : List Value} {M : ip_M} {n : Nat} {Φ : ip_P} : ip_call tb (d + 1) 165 vs M n Φ = ((ip_loc vs).length ≤ 3 ∧ ip_Ev (T_X6_steps (ip_call tb d)) Φ 0 (ip_ent 3 vs, [], M, n, 0, 0)) := rfl
theorem cl_166 {d : Nat} {vs : List Value} {M : ip_M} {n : Nat} {Φ : ip_P} : ip_call tb (d + 1) 166 vs M n Φ = ((ip_loc vs).length ≤ 1 ∧ ip_Ev (T_X6_drawn (ip_call tb d)) Φ 0 (ip_ent 1 vs, [], M, n, 0, 0)) := rfl
theorem cl_167 {d : Nat} {vs : List Value} {M : ip_M} {n : Nat} {Φ : ip_P} : ip_call tb (d + 1) 167 vs M n Φ = ((ip_loc vs).length ≤ 2 ∧ ip_Ev (T_X6_seed (ip_call tb d)) Φ 0 (ip_ent 2 vs, [], M, n, 0, 0)) := rfl
theorem cl_168 {d : Nat} {vs : List Value} {M : ip_M} {n : Nat} {Φ : ip_P} : ip_call tb (d + 1) 168 vs M n Φ = ((ip_loc vs).length ≤ 2 ∧ ip_Ev (T_X6_stepByDraws (ip_call tb d)) Φ 0 (ip_ent 2 vs, [], M, n, 0, 0)) := rfl
theorem cl_169 {d : Nat} {vs : List Value} {M : ip_M} {n : Nat} {Φ : ip_P} : ip_call tb (d + 1) 169 vs M n Φ = ((ip_loc vs).length ≤ 1 ∧ ip_Ev (T_X6_step (ip_call tb d)) Φ 0 (ip_ent 1 vs, [], M, n, 0, 0)) := rfl
theorem cl_170 {d : Nat} {vs : List Value} {M : ip_M} {n : Nat} {Φ : ip_P} : ip_call tb (d + 1) 170 vs M n Φ = ((ip_loc vs).length ≤ 6 ∧ ip_Ev (T_X6_luck (ip_call tb d)) Φ 0 (ip_ent 6 vs, [], M, n, 0, 0)) := rfl
theorem cl_171 {d : Nat} {vs : List Value} {M : ip_M} {n : Nat} {Φ : ip_P} : ip_call tb (d + 1) 171 vs M n Φ = ((ip_loc vs).length ≤ 3 ∧ ip_Ev (T_X6_clash (ip_call tb d)) Φ 0 (ip_ent 3 vs, [], M, n, 0, 0)) := rfl
theorem cl_172 {d : Nat} {vs : List Value} {M : ip_M} {n : Nat} {Φ : ip_P} : ip_call tb (d + 1) 172 vs M n Φ = ((ip_loc vs).length ≤ 3 ∧ ip_Ev (T_X6_agreed (ip_call tb d)) Φ 0 (ip_ent 3 vs, [], M, n, 0, 0)) := rfl
theorem cl_173 {d : Nat} {vs : List Value} {M : ip_M} {n : Nat} {Φ : ip_P} : ip_call tb (d + 1) 173 vs M n Φ = ((ip_loc vs).length ≤ 5 ∧ ip_Ev (T_X6_isPeace (ip_call tb d)) Φ 0 (ip_ent 5 vs, [], M, n, 0, 0)) := rfl
theorem cl_174 {d : Nat} {vs : List Value} {M : ip_M} {n : Nat} {Φ : ip_P} : ip_call tb (d + 1) 174 vs M n Φ = ((ip_loc vs).length ≤ 3 ∧ ip_Ev (T_X6_mostHeld (ip_call tb d)) Φ 0 (ip_ent 3 vs, [], M, n, 0, 0)) := rfl
theorem cl_175 {d : Nat} {vs : List Value} {M : ip_M} {n : Nat} {Φ : ip_P} : ip_call tb (d + 1) 175 vs M n Φ = ((ip_loc vs).length ≤ 3 ∧ ip_Ev (T_X6_places (ip_call tb d)) Φ 0 (ip_ent 3 vs, [], M, n, 0, 0)) := rfl
theorem cl_176 {d : Nat} {vs : List Value} {M : ip_M} {n : Nat} {Φ : ip_P} : ip_call tb (d + 1) 176 vs M n Φ = ((ip_loc vs).length ≤ 2 ∧ ip_Ev (T_X6_state (ip_call tb d)) Φ 0 (ip_ent 2 vs, [], M, n, 0, 0)) := rfl
theorem cl_177 {d : Nat} {vs : List Value} {M : ip_M} {n : Nat} {Φ : ip_P} : ip_call tb (d + 1) 177 vs M n Φ = ((ip_loc vs).length ≤ 2 ∧ ip_Ev (T_X6_goesOn (ip_call tb d)) Φ 0 (ip_ent 2 vs, [], M, n, 0, 0)) := rfl
theorem cl_178 {d : Nat} {vs : List Value} {M : ip_M} {n : Nat} {Φ : ip_P} : ip_call tb (d + 1) 178 vs M n Φ = ((ip_loc vs).length ≤ 4 ∧ ip_Ev (T_X6_placeBehind (ip_call tb d)) Φ 0 (ip_ent 4 vs, [], M, n, 0, 0)) := rfl
theorem cl_179 {d : Nat} {vs : List Value} {M : ip_M} {n : Nat} {Φ : ip_P} : ip_call tb (d + 1) 179 vs M n Φ = ((ip_loc vs).length ≤ 3 ∧ ip_Ev (T_X6_reaches (ip_call tb d)) Φ 0 (ip_ent 3 vs, [], M, n, 0, 0)) := rfl
theorem cl_180 {d : Nat} {vs : List Value} {M : ip_M} {n : Nat} {Φ : ip_P} : ip_call tb (d + 1) 180 vs M n Φ = ((ip_loc vs).length ≤ 3 ∧ ip_Ev (T_X6_over (ip_call tb d)) Φ 0 (ip_ent 3 vs, [], M, n, 0, 0)) := rfl
theorem cl_181 {d : Nat} {vs : List Value} {M : ip_M} {n : Nat} {Φ : ip_P} : ip_call tb (d + 1) 181 vs M n Φ = ((ip_loc vs).length ≤ 3 ∧ ip_Ev (T_X6_falls (ip_call tb d)) Φ 0 (ip_ent 3 vs, [], M, n, 0, 0)) := rfl
theorem cl_182 {d : Nat} {vs : List Value} {M : ip_M} {n : Nat} {Φ : ip_P} : ip_call tb (d + 1) 182 vs M n Φ = ((ip_loc vs).length ≤ 2 ∧ ip_Ev (T_X6_end (ip_call tb d)) Φ 0 (ip_ent 2 vs, [], M, n, 0, 0)) := rfl
theorem cl_183 {d : Nat} {vs : List Value} {M : ip_M} {n : Nat} {Φ : ip_P} : ip_call tb (d + 1) 183 vs M n Φ = ((ip_loc vs).length ≤ 5 ∧ ip_Ev (T_X6_comesOver (ip_call tb d)) Φ 0 (ip_ent 5 vs, [], M, n, 0, 0)) := rfl
theorem cl_184 {d : Nat} {vs : List Value} {M : ip_M} {n : Nat} {Φ : ip_P} : ip_call tb (d + 1) 184 vs M n Φ = ((ip_loc vs).length ≤ 8 ∧ ip_Ev (T_X6_sayFor (ip_call tb d)) Φ 0 (ip_ent 8 vs, [], M, n, 0, 0)) := rfl
theorem cl_185 {d : Nat} {vs : List Value} {M : ip_M} {n : Nat} {Φ : ip_P} : ip_call tb (d + 1) 185 vs M n Φ = ((ip_loc vs).length ≤ 7 ∧ ip_Ev (T_X6_kindFor (ip_call tb d)) Φ 0 (ip_ent 7 vs, [], M, n, 0, 0)) := rfl
theorem cl_186 {d : Nat} {vs : List Value} {M : ip_M} {n : Nat} {Φ : ip_P} : ip_call tb (d + 1) 186 vs M n Φ = ((ip_loc vs).length ≤ 7 ∧ ip_Ev (T_X6_turnedFor (ip_call tb d)) Φ 0 (ip_ent 7 vs, [], M, n, 0, 0)) := rfl
theorem cl_187 {d : Nat} {vs : List Value} {M : ip_M} {n : Nat} {Φ : ip_P} : ip_call tb (d + 1) 187 vs M n Φ = ((ip_loc vs).length ≤ 5 ∧ ip_Ev (T_X6_loadFor (ip_call tb d)) Φ 0 (ip_ent 5 vs, [], M, n, 0, 0)) := rfl
theorem cl_188 {d : Nat} {vs : List Value} {M : ip_M} {n : Nat} {Φ : ip_P} : ip_call tb (d + 1) 188 vs M n Φ = ((ip_loc vs).length ≤ 4 ∧ ip_Ev (T_X6_both (ip_call tb d)) Φ 0 (ip_ent 4 vs, [], M, n, 0, 0)) := rfl
theorem cl_189 {d : Nat} {vs : List Value} {M : ip_M} {n : Nat} {Φ : ip_P} : ip_call tb (d + 1) 189 vs M n Φ = ((ip_loc vs).length ≤ 5 ∧ ip_Ev (T_X6_isSo (ip_call tb d)) Φ 0 (ip_ent 5 vs, [], M, n, 0, 0)) := rfl
theorem cl_190 {d : Nat} {vs : List Value} {M : ip_M} {n : Nat} {Φ : ip_P} : ip_call tb (d + 1) 190 vs M n Φ = ((ip_loc vs).length ≤ 8 ∧ ip_Ev (T_X6_fits (ip_call tb d)) Φ 0 (ip_ent 8 vs, [], M, n, 0, 0)) := rfl
theorem cl_191 {d : Nat} {vs : List Value} {M : ip_M} {n : Nat} {Φ : ip_P} : ip_call tb (d + 1) 191 vs M n Φ = ((ip_loc vs).length ≤ 11 ∧ ip_Ev (T_X6_lowest (ip_call tb d)) Φ 0 (ip_ent 11 vs, [], M, n, 0, 0)) := rfl
theorem cl_192 {d : Nat} {vs : List Value} {M : ip_M} {n : Nat} {Φ : ip_P} : ip_call tb (d + 1) 192 vs M n Φ = ((ip_loc vs).length ≤ 5 ∧ ip_Ev (T_X6_powerOf (ip_call tb d)) Φ 0 (ip_ent 5 vs, [], M, n, 0, 0)) := rfl
theorem cl_193 {d : Nat} {vs : List Value} {M : ip_M} {n : Nat} {Φ : ip_P} : ip_call tb (d + 1) 193 vs M n Φ = ((ip_loc vs).length ≤ 7 ∧ ip_Ev (T_X6_odds (ip_call tb d)) Φ 0 (ip_ent 7 vs, [], M, n, 0, 0)) := rfl
theorem cl_194 {d : Nat} {vs : List Value} {M : ip_M} {n : Nat} {Φ : ip_P} : ip_call tb (d + 1) 194 vs M n Φ = ((ip_loc vs).length ≤ 3 ∧ ip_Ev (T_X6_hope (ip_call tb d)) Φ 0 (ip_ent 3 vs, [], M, n, 0, 0)) := rfl
theorem cl_195 {d : Nat} {vs : List Value} {M : ip_M} {n : Nat} {Φ : ip_P} : ip_call tb (d + 1) 195 vs M n Φ = ((ip_loc vs).length ≤ 4 ∧ ip_Ev (T_X6_findRows (ip_call tb d)) Φ 0 (ip_ent 4 vs, [], M, n, 0, 0)) := rfl
theorem cl_196 {d : Nat} {vs : List Value} {M : ip_M} {n : Nat} {Φ : ip_P} : ip_call tb (d + 1) 196 vs M n Φ = ((ip_loc vs).length ≤ 4 ∧ ip_Ev (T_X6_prove (ip_call tb d)) Φ 0 (ip_ent 4 vs, [], M, n, 0, 0)) := rfl
theorem cl_197 {d : Nat} {vs : List Value} {M : ip_M} {n : Nat} {Φ : ip_P} : ip_call tb (d + 1) 197 vs M n Φ = ((ip_loc vs).length ≤ 3 ∧ ip_Ev (T_X6_isRow (ip_call tb d)) Φ 0 (ip_ent 3 vs, [], M, n, 0, 0)) := rfl
theorem cl_198 {d : Nat} {vs : List Value} {M : ip_M} {n : Nat} {Φ : ip_P} : ip_call tb (d + 1) 198 vs M n Φ = ((ip_loc vs).length ≤ 3 ∧ ip_Ev (T_X6_row (ip_call tb d)) Φ 0 (ip_ent 3 vs, [], M, n, 0, 0)) := rfl
theorem cl_199 {d : Nat} {vs : List Value} {M : ip_M} {n : Nat} {Φ : ip_P} : ip_call tb (d + 1) 199 vs M n Φ = ((ip_loc vs).length ≤ 5 ∧ ip_Ev (T_X6_alterRow (ip_call tb d)) Φ 0 (ip_ent 5 vs, [], M, n, 0, 0)) := rfl
theorem cl_200 {d : Nat} {vs : List Value} {M : ip_M} {n : Nat} {Φ : ip_P} : ip_call tb (d + 1) 200 vs M n Φ = ((ip_loc vs).length ≤ 3 ∧ ip_Ev (T_X6_judge (ip_call tb d)) Φ 0 (ip_ent 3 vs, [], M, n, 0, 0)) := rfl
theorem cl_201 {d : Nat} {vs : List Value} {M : ip_M} {n : Nat} {Φ : ip_P} : ip_call tb (d + 1) 201 vs M n Φ = ((ip_loc vs).length ≤ 7 ∧ ip_Ev (T_X6_minds (ip_call tb d)) Φ 0 (ip_ent 7 vs, [], M, n, 0, 0)) := rfl
theorem cl_202 {d : Nat} {vs : List Value} {M : ip_M} {n : Nat} {Φ : ip_P} : ip_call tb (d + 1) 202 vs M n Φ = ((ip_loc vs).length ≤ 1 ∧ ip_Ev (T_X6_isShelf (ip_call tb d)) Φ 0 (ip_ent 1 vs, [], M, n, 0, 0)) := rfl
theorem cl_203 {d : Nat} {vs : List Value} {M : ip_M} {n : Nat} {Φ : ip_P} : ip_call tb (d + 1) 203 vs M n Φ = ((ip_loc vs).length ≤ 5 ∧ ip_Ev (T_X6_sheet (ip_call tb d)) Φ 0 (ip_ent 5 vs, [], M, n, 0, 0)) := rfl
theorem cl_204 {d : Nat} {vs : List Value} {M : ip_M} {n : Nat} {Φ : ip_P} : ip_call tb (d + 1) 204 vs M n Φ = ((ip_loc vs).length ≤ 4 ∧ ip_Ev (T_X6_put (ip_call tb d)) Φ 0 (ip_ent 4 vs, [], M, n, 0, 0)) := rfl
theorem cl_205 {d : Nat} {vs : List Value} {M : ip_M} {n : Nat} {Φ : ip_P} : ip_call tb (d + 1) 205 vs M n Φ = ((ip_loc vs).length ≤ 3 ∧ ip_Ev (T_X6_lacksSort (ip_call tb d)) Φ 0 (ip_ent 3 vs, [], M, n, 0, 0)) := rfl
theorem cl_206 {d : Nat} {vs : List Value} {M : ip_M} {n : Nat} {Φ : ip_P} : ip_call tb (d + 1) 206 vs M n Φ = ((ip_loc vs).length ≤ 5 ∧ ip_Ev (T_X6_item (ip_call tb d)) Φ 0 (ip_ent 5 vs, [], M, n, 0, 0)) := rfl
theorem cl_207 {d : Nat} {vs : List Value} {M : ip_M} {n : Nat} {Φ : ip_P} : ip_call tb (d + 1) 207 vs M n Φ = ((ip_loc vs).length ≤ 3 ∧ ip_Ev (T_X6_isHeld (ip_call tb d)) Φ 0 (ip_ent 3 vs, [], M, n, 0, 0)) := rfl
theorem cl_208 {d : Nat} {vs : List Value} {M : ip_M} {n : Nat} {Φ : ip_P} : ip_call tb (d + 1) 208 vs M n Φ = ((ip_loc vs).length ≤ 4 ∧ ip_Ev (T_X6_shelf (ip_call tb d)) Φ 0 (ip_ent 4 vs, [], M, n, 0, 0)) := rfl
theorem cl_209 {d : Nat} {vs : List Value} {M : ip_M} {n : Nat} {Φ : ip_P} : ip_call tb (d + 1) 209 vs M n Φ = ((ip_loc vs).length ≤ 2 ∧ ip_Ev (T_X6_kindOn (ip_call tb d)) Φ 0 (ip_ent 2 vs, [], M, n, 0, 0)) := rfl
theorem cl_210 {d : Nat} {vs : List Value} {M : ip_M} {n : Nat} {Φ : ip_P} : ip_call tb (d + 1) 210 vs M n Φ = ((ip_loc vs).length ≤ 2 ∧ ip_Ev (T_X6_isUnder (ip_call tb d)) Φ 0 (ip_ent 2 vs, [], M, n, 0, 0)) := rfl
theorem cl_211 {d : Nat} {vs : List Value} {M : ip_M} {n : Nat} {Φ : ip_P} : ip_call tb (d + 1) 211 vs M n Φ = ((ip_loc vs).length ≤ 4 ∧ ip_Ev (T_X6_taken (ip_call tb d)) Φ 0 (ip_ent 4 vs, [], M, n, 0, 0)) := rfl
theorem cl_212 {d : Nat} {vs : List Value} {M : ip_M} {n : Nat} {Φ : ip_P} : ip_call tb (d + 1) 212 vs M n Φ = ((ip_loc vs).length ≤ 2 ∧ ip_Ev (T_X6_ran (ip_call tb d)) Φ 0 (ip_ent 2 vs, [], M, n, 0, 0)) := rfl
theorem cl_213 {d : Nat} {vs : List Value} {M : ip_M} {n : Nat} {Φ : ip_P} : ip_call tb (d + 1) 213 vs M n Φ = ((ip_loc vs).length ≤ 2 ∧ ip_Ev (T_X6_plainLeans (ip_call tb d)) Φ 0 (ip_ent 2 vs, [], M, n, 0, 0)) := rfl
theorem cl_214 {d : Nat} {vs : List Value} {M : ip_M} {n : Nat} {Φ : ip_P} : ip_call tb (d + 1) 214 vs M n Φ = ((ip_loc vs).length ≤ 2 ∧ ip_Ev (T_X6_childLeans (ip_call tb d)) Φ 0 (ip_ent 2 vs, [], M, n, 0, 0)) := rfl
theorem cl_215 {d : Nat} {vs : List Value} {M : ip_M} {n : Nat} {Φ : ip_P} : ip_call tb (d + 1) 215 vs M n Φ = ((ip_loc vs).length ≤ 2 ∧ ip_Ev (T_X6_leansIt (ip_call tb d)) Φ 0 (ip_ent 2 vs, [], M, n, 0, 0)) := rfl
theorem cl_216 {d : Nat} {vs : List Value} {M : ip_M} {n : Nat} {Φ : ip_P} : ip_call tb (d + 1) 216 vs M n Φ = ((ip_loc vs).length ≤ 2 ∧ ip_Ev (T_X6_plainSways (ip_call tb d)) Φ 0 (ip_ent 2 vs, [], M, n, 0, 0)) := rfl
theorem cl_217 {d : Nat} {vs : List Value} {M : ip_M} {n : Nat} {Φ : ip_P} : ip_call tb (d + 1) 217 vs M n Φ = ((ip_loc vs).length ≤ 3 ∧ ip_Ev (T_X6_swaysIt (ip_call tb d)) Φ 0 (ip_ent 3 vs, [], M, n, 0, 0)) := rfl
theorem cl_218 {d : Nat} {vs : List Value} {M : ip_M} {n : Nat} {Φ : ip_P} : ip_call tb (d + 1) 218 vs M n Φ = ((ip_loc vs).length ≤ 2 ∧ ip_Ev (T_X6_plainParts (ip_call tb d)) Φ 0 (ip_ent 2 vs, [], M, n, 0, 0)) := rfl
theorem cl_219 {d : Nat} {vs : List Value} {M : ip_M} {n : Nat} {Φ : ip_P} : ip_call tb (d + 1) 219 vs M n Φ = ((ip_loc vs).length ≤ 3 ∧ ip_Ev (T_X6_partsIt (ip_call tb d)) Φ 0 (ip_ent 3 vs, [], M, n, 0, 0)) := rfl
theorem cl_220 {d : Nat} {vs : List Value} {M : ip_M} {n : Nat} {Φ : ip_P} : ip_call tb (d + 1) 220 vs M n Φ = ((ip_loc vs).length ≤ 2 ∧ ip_Ev (T_X6_plainTreads (ip_call tb d)) Φ 0 (ip_ent 2 vs, [], M, n, 0, 0)) := rfl
theorem cl_221 {d : Nat} {vs : List Value} {M : ip_M} {n : Nat} {Φ : ip_P} : ip_call tb (d + 1) 221 vs M n Φ = ((ip_loc vs).length ≤ 3 ∧ ip_Ev (T_X6_treadsIt (ip_call tb d)) Φ 0 (ip_ent 3 vs, [], M, n, 0, 0)) := rfl
theorem cl_222 {d : Nat} {vs : List Value} {M : ip_M} {n : Nat} {Φ : ip_P} : ip_call tb (d + 1) 222 vs M n Φ = ((ip_loc vs).length ≤ 6 ∧ ip_Ev (T_X6_act (ip_call tb d)) Φ 0 (ip_ent 6 vs, [], M, n, 0, 0)) := rfl
theorem cl_223 {d : Nat} {vs : List Value} {M : ip_M} {n : Nat} {Φ : ip_P} : ip_call tb (d + 1) 223 vs M n Φ = ((ip_loc vs).length ≤ 2 ∧ ip_Ev (T_X6_trace (ip_call tb d)) Φ 0 (ip_ent 2 vs, [], M, n, 0, 0)) := rfl
theorem cl_224 {d : Nat} {vs : List Value} {M : ip_M} {n : Nat} {Φ : ip_P} : ip_call tb (d + 1) 224 vs M n Φ = ((ip_loc vs).length ≤ 2 ∧ ip_Ev (T_X6_many (ip_call tb d)) Φ 0 (ip_ent 2 vs, [], M, n, 0, 0)) := rfl
theorem cl_225 {d : Nat} {vs : List Value} {M : ip_M} {n : Nat} {Φ : ip_P} : ip_call tb (d + 1) 225 vs M n Φ = ((ip_loc vs).length ≤ 1 ∧ ip_Ev (T_X6_keep (ip_call tb d)) Φ 0 (ip_ent 1 vs, [], M, n, 0, 0)) := rfl
theorem cl_226 {d : Nat} {vs : List Value} {M : ip_M} {n : Nat} {Φ : ip_P} : ip_call tb (d + 1) 226 vs M n Φ = ((ip_loc vs).length ≤ 1 ∧ ip_Ev (T_X6_again (ip_call tb d)) Φ 0 (ip_ent 1 vs, [], M, n, 0, 0)) := rfl
theorem cl_227 {d : Nat} {vs : List Value} {M : ip_M} {n : Nat} {Φ : ip_P} : ip_call tb (d + 1) 227 vs M n Φ = ((ip_loc vs).length ≤ 1 ∧ ip_Ev (T_J6_bitCount_0f7a4 (ip_call tb d)) Φ 0 (ip_ent 1 vs, [], M, n, 0, 0)) := rfl
theorem cl_228 {d : Nat} {vs : List Value} {M : ip_M} {n : Nat} {Φ : ip_P} : ip_call tb (d + 1) 228 vs M n Φ = ((ip_loc vs).length ≤ 1 ∧ ip_Ev (T_J0_length_8abf5 (ip_call tb d)) Φ 0 (ip_ent 1 vs, [], M, n, 0, 0)) := rfl
theorem cl_229 {d : Nat} {vs : List Value} {M : ip_M} {n : Nat} {Φ : ip_P} : ip_call tb (d + 1) 229 vs M n Φ = ((ip_loc vs).length ≤ 2 ∧ ip_Ev (T_J0_charAt_5068e (ip_call tb d)) Φ 0 (ip_ent 2 vs, [], M, n, 0, 0)) := rfl
theorem cl_230 {d : Nat} {vs : List Value} {M : ip_M} {n : Nat} {Φ : ip_P} : ip_call tb (d + 1) 230 vs M n Φ = ((ip_loc vs).length ≤ 1 ∧ ip_Ev (T_J0_coder_7d493 (ip_call tb d)) Φ 0 (ip_ent 1 vs, [], M, n, 0, 0)) := rfl
theorem cl_231 {d : Nat} {vs : List Value} {M : ip_M} {n : Nat} {Φ : ip_P} : ip_call tb (d + 1) 231 vs M n Φ = ((ip_loc vs).length ≤ 1 ∧ ip_Ev (T_J0_isLatin1_aae02 (ip_call tb d)) Φ 0 (ip_ent 1 vs, [], M, n, 0, 0)) := rfl
theorem cl_232 {d : Nat} {vs : List Value} {M : ip_M} {n : Nat} {Φ : ip_P} : ip_call tb (d + 1) 232 vs M n Φ = ((ip_loc vs).length ≤ 2 ∧ ip_Ev (T_J0_checkIndex_df160 (ip_call tb d)) Φ 0 (ip_ent 2 vs, [], M, n, 0, 0)) := rfl
theorem cl_233 {d : Nat} {vs : List Value} {M : ip_M} {n : Nat} {Φ : ip_P} : ip_call tb (d + 1) 233 vs M n Φ = ((ip_loc vs).length ≤ 2 ∧ ip_Ev (T_J1_charAt_3b067 (ip_call tb d)) Φ 0 (ip_ent 2 vs, [], M, n, 0, 0)) := rfl
theorem cl_234 {d : Nat} {vs : List Value} {M : ip_M} {n : Nat} {Φ : ip_P} : ip_call tb (d + 1) 234 vs M n Φ = ((ip_loc vs).length ≤ 3 ∧ ip_Ev (T_J3_checkIndex_8e157 (ip_call tb d)) Φ 0 (ip_ent 3 vs, [], M, n, 0, 0)) := rfl
