/-- now, kept, any kept, the tape, its length, the trace, how long, rows, how many, sheets, shelves' strips, shelves' walkers, what the strips hold -/
abbrev Cs : Type := Rg × Rg × Int32 × (Nat → Int32) × Nat × (Nat → Int32) × Nat × (Nat → Int32) × Nat × (Nat → Option Nat) × (Nat → Option Nat) × (Nat → Int32) × (Nat → Int32 × Nat × (Nat → Int32))
abbrev cNow (S : Cs) : Rg := S.1
abbrev cKp (S : Cs) : Rg := S.2.1
abbrev cAk (S : Cs) : Int32 := S.2.2.1
abbrev cBy (S : Cs) : Nat → Int32 := S.2.2.2.1
abbrev cTl (S : Cs) : Nat := S.2.2.2.2.1
abbrev cTr (S : Cs) : Nat → Int32 := S.2.2.2.2.2.1
abbrev cTd (S : Cs) : Nat := S.2.2.2.2.2.2.1
abbrev cRw (S : Cs) : Nat → Int32 := S.2.2.2.2.2.2.2.1
abbrev cRc (S : Cs) : Nat := S.2.2.2.2.2.2.2.2.1
abbrev cSh (S : Cs) : Nat → Option Nat := S.2.2.2.2.2.2.2.2.2.1
abbrev cSs (S : Cs) : Nat → Option Nat := S.2.2.2.2.2.2.2.2.2.2.1
abbrev cSw (S : Cs) : Nat → Int32 := S.2.2.2.2.2.2.2.2.2.2.2.1
abbrev cSt (S : Cs) : Nat → Int32 × Nat × (Nat → Int32) := S.2.2.2.2.2.2.2.2.2.2.2.2
def obC (ak : Int32) (rc : Nat) : ip_C := .inr (5, [.ref 65, .ref 72, .ref 79, .int ak, .ref 86, .ref 87, .ref 89, .ref 91, .int (nI rc), .ref 92, .ref 93, .ref 94])
def txC (tl : Nat) (a b c d : Int32) : ip_C := .inr (3, [.ref 88, .int (nI tl), .int a, .int b, .int c, .int d])
def deC (td : Nat) (a b c d : Int32) : ip_C := .inr (0, [.ref 90, .int (nI td), .int a, .int b, .int c, .int d])
def qA (n : Nat) (f : Nat → Option Nat) : ip_C := .inl (.object RX2, n, .inr (.inr (.inr (.inr f))))
def bA (n : Nat) (f : Nat → Int32) : ip_C := .inl (.byte, n, .inl f)
def live (S : Cs) (q : Nat) : Prop := ∃ i, i < 4 ∧ (cSh S i = some q ∨ cSs S i = some q)
def stAt (M : ip_M) (n : Nat) (S : Cs) : Prop := n % 2 = 0 ∧ 110 ≤ n ∧ ∀ q, live S q → 110 ≤ q ∧ q + 1 < n ∧ q % 2 = 0 ∧ M q = .inr (2, [.int (cSt S q).1, .ref (q + 1)]) ∧ M (q + 1) = iA (cSt S q).2.1 (cSt S q).2.2
def hiL (k : Nat) : Int32 := if k < 3 then 9 else if k = 3 then 99 else 0
def kaL (k : Nat) : Int32 := if k = 0 then -1 else if k = 3 then 1 else if k = 4 then 2 else 0
def boL (k : Nat) : Int32 := ([10, 11, 12, 13, 10, 20, 12, 13, 30, 11, 12, 31, 51, 20, 50, 13, 40, 41, 12, 31, 10, 11, 61, 60] : List Int32).getD k 0
def txB (k : Nat) : List Int32 := ([[119, 97, 108, 107, 101, 114], [99, 108, 111, 119, 110], [99, 104, 105, 108, 100], [106, 101, 115, 116, 101, 114], [115, 97, 105, 110, 116], [116, 104, 105, 110, 107, 101, 114], [112, 108, 97, 110, 107], [98, 117, 116], [119, 105, 116], [100, 111, 117, 98, 116], [119, 101, 105, 103, 104, 116], [97, 116], [115, 97, 121, 115], [100, 101, 110, 105, 101, 115], [102, 97, 99, 116]] : List (List Int32)).getD k []
/-- what was there before, but for the script -/
def EXs (k : Nat) : ip_C := if k = 1 then iA 4 fstL else if k = 2 then iA 4 hiL else if k = 3 then iA 6 kaL else if k = 4 then iA 24 boL else if 5 ≤ k ∧ k < 20 then .inr (7, [.ref (k + 15), .int 0]) else if 20 ≤ k ∧ k < 35 then bA (txB (k - 20)).length (fun j => (txB (k - 20)).getD j 0) else ip_none
def exAt (M : ip_M) : Prop := ∀ k, k < 64 → k ≠ 0 → M k = EXs k
def clAt (M : ip_M) (n : Nat) (S : Cs) : Prop :=
  M 64 = obC (cAk S) (cRc S) ∧ rgAt M 65 (cNow S) ∧ (∃ Rt, rgAt M 72 Rt ∧ nrm Rt) ∧ rgAt M 79 (cKp S) ∧ trAny M ∧ (∃ a b c d, M 87 = txC (cTl S) a b c d) ∧ M 88 = bA 200 (cBy S) ∧ (∃ a b c d, M 89 = deC (cTd S) a b c d) ∧ M 90 = iA 30 (cTr S) ∧ M 91 = iA 30 (cRw S) ∧ M 92 = qA 4 (cSh S) ∧ M 93 = qA 4 (cSs S) ∧ M 94 = iA 4 (cSw S) ∧ stAt M n S ∧ exAt M
/-- the reference's cells, and what was there before, stay -/
def kFr (M M' : ip_M) : Prop := ∀ k, (k < 64 ∨ (95 ≤ k ∧ k < 110)) → M' k = M k
theorem kFr.rf {M : ip_M} : kFr M M := fun _ _ => rfl
theorem kFr.tr {M M1 M2 : ip_M} (h1 : kFr M M1) (h2 : kFr M1 M2) : kFr M M2 := fun k hk => (h2 k hk).trans (h1 k hk)
def sNow (S : Cs) (R : Rg) : Cs := (R, cKp S, cAk S, cBy S, cTl S, cTr S, cTd S, cRw S, cRc S, cSh S, cSs S, cSw S, cSt S)
theorem rgAt.of {M M' : ip_M} {a : Nat} {R : Rg} (h : rgAt M a R) (hF : ∀ k, a ≤ k → k ≤ a + 6 → M' k = M k) : rgAt M' a R := by
  obtain ⟨h0, h1, h2, h3, h4, h5, h6⟩ := h
  exact ⟨(hF _ (by omega) (by omega)).trans h0, (hF _ (by omega) (by omega)).trans h1, (hF _ (by omega) (by omega)).trans h2, (hF _ (by omega) (by omega)).trans h3, (hF _ (by omega) (by omega)).trans h4, (hF _ (by omega) (by omega)).trans h5, (hF _ (by omega) (by omega)).trans h6⟩
theorem clAt.nowT {M M' : ip_M} {n : Nat} {S : Cs} {R : Rg} (h : clAt M n S) (hR : rgAt M' 65 R) (hRt : ∃ Rt, rgAt M' 72 Rt ∧ nrm Rt) (hT : trAny M') (hF : ∀ k, (k < 65 ∨ (78 < k ∧ k ≠ 86)) → M' k = M k) : clAt M' n (sNow S R) := by
  obtain ⟨h1, h2, h3, h4, h5, ⟨a, b, c, d, h6⟩, h7, ⟨a', b', c', d', h8⟩, h9, h10, h11, h12, h13, ⟨s1, s2, s3⟩, hx⟩ := h
  refine ⟨(hF _ (by omega)).trans h1, hR, hRt, h4.of (fun k q1 q2 => hF k (by omega)), hT, ⟨a, b, c, d, (hF _ (by omega)).trans h6⟩, (hF _ (by omega)).trans h7, ⟨a', b', c', d', (hF _ (by omega)).trans h8⟩, (hF _ (by omega)).trans h9, (hF _ (by omega)).trans h10, (hF _ (by omega)).trans h11, (hF _ (by omega)).trans h12, (hF _ (by omega)).trans h13, ⟨s1, s2, fun q hq => ?_⟩, fun k q1 q2 => (hF k (by omega)).trans (hx k q1 q2)⟩
  obtain ⟨a1, a2, a3, a4, a5⟩ := s3 q hq
  exact ⟨a1, a2, a3, (hF q (by omega)).trans a4, (hF (q + 1) (by omega)).trans a5⟩
theorem clAt.now {M M' : ip_M} {n : Nat} {S : Cs} {R : Rg} (h : clAt M n S) (hR : rgAt M' 65 R) (hF : ∀ k, (k < 65 ∨ 71 < k) → M' k = M k) : clAt M' n (sNow S R) := by
  obtain ⟨Rt, t1, t2⟩ := h.2.2.1
  exact h.nowT hR ⟨Rt, t1.of (fun k q1 q2 => hF k (by omega)), t2⟩ (h.2.2.2.2.1.of (hF 86 (by omega))) (fun k hk => hF k (by omega))
theorem sNow_id {S : Cs} : sNow S (cNow S) = S := rfl
theorem clAt.tried {M M' : ip_M} {n : Nat} {S : Cs} (h : clAt M n S) (hRt : ∃ Rt, rgAt M' 72 Rt ∧ nrm Rt) (hT : trAny M') (hF : ∀ k, (k < 72 ∨ (78 < k ∧ k ≠ 86)) → M' k = M k) : clAt M' n S := h.nowT (h.2.1.of (fun k q1 q2 => hF k (by omega))) hRt hT (fun k hk => hF k (by omega))
theorem clAt.trial {M : ip_M} {n : Nat} {S : Cs} (h : clAt M n S) {p b w s k wt pl r wr f : Int32} : clAt (ip_up M 86 (trC p b w s k wt pl r wr f)) n S := by
  obtain ⟨Rt, t1, t2⟩ := h.2.2.1
  exact h.tried ⟨Rt, t1.up (by omega), t2⟩ ⟨p, b, w, s, k, wt, pl, r, wr, f, ip_up_same⟩ (fun k hk => ip_up_ne (by omega))
-- tests of numbers
theorem sp_w1 {d k : Nat} {lo hi v : Int32} {M : ip_M} {n : Nat} {Φ : ip_P} (hk : ip_call tb (d + 1) k [.int v] M n Φ = ((ip_loc [.int v]).length ≤ 1 ∧ ip_Ev [([oLdI 0, oI lo, oI hi, oCal (ip_call tb d) 0 0 95 3 0 0], tRI .boolean 0 0)] Φ 0 (ip_ent 1 [.int v], [], M, n, 0, 0))) (hd : 1 ≤ d) (h : Φ (some (.int (if lo ≤ v ∧ v ≤ hi then 1 else 0))) M n) : ip_call tb (d + 1) k [.int v] M n Φ := by
  rw [hk]
  simp only [ip_loc, ip_ent, List.length_cons, List.length_nil, List.replicate_succ, List.replicate_zero, List.append_nil, List.nil_append, List.cons_append, Nat.zero_add, Nat.reduceAdd, Nat.reduceSub, Nat.reduceLeDiff, true_and, Nat.le_refl]
  refine ip_step rfl ?_
  simp only [e_ops, e_nil, e_LdI, e_LdL, e_LdA, e_StI, e_StL, e_StA, e_StN, e_Inc, e_I, e_L, e_Nul, e_Ref, e_Fmt, e_Dupint, e_Popint, e_Dupref, e_Popref, e_Dp2, e_BI, e_DI, e_BL, e_DL, e_SL, e_UI, e_IL, e_LI, e_CmpL, e_Get, e_Put, e_AldI, e_AldB, e_AldL, e_AldA, e_AstI, e_AstB, e_AstL, e_AstA, e_AstN, e_Len, e_New, e_NwA, e_Cal, e_CaV, e_isO, e_Max, e_Min, e_Obj, e_Cpy, e_Go, e_If, e_Cm, e_NuN, e_NuR, e_Sw, e_RI, e_RL, e_RV, e_fI, e_fL, e_fA, e_fO, e_fZ, e_clr, ip_clr, List.getElem?_cons_zero, List.getElem?_cons_succ, List.getElem?_nil, List.set_cons_zero, List.set_cons_succ, List.set_nil, Nat.add_one_sub_one, Nat.sub_self, Nat.zero_sub, List.length_cons, List.length_nil, List.length_set, List.take_succ_cons, List.take_zero, List.drop_succ_cons, List.drop_zero, List.reverse_cons, List.reverse_nil, List.nil_append, List.cons_append, List.append_nil, Option.toList_some, Option.toList_none, ip_up_same, ip_upup, if_true, if_false, ite_true, ite_false, true_and, and_true, and_self, true_or, or_true, Nat.zero_add, Nat.add_zero, Nat.le_refl, Nat.zero_le, reduceIte, reduceCtorEq, ne_eq, not_true_eq_false, not_false_eq_true, ip_nari, ip_narif, ip_narb0, ip_narb1, forall_const, Nat.reduceSub, Nat.reduceAdd, Nat.reduceLeDiff, Nat.reduceEqDiff, Nat.reduceLT, Nat.reduceMul, Int32.reduceLT, Int32.reduceLE, Int32.reduceToNatClampNeg, i10, i01, it01, it10, eq_self, ip_uh]
  refine sp_within (by omega) ?_
  simp only [e_ops, e_nil, e_LdI, e_LdL, e_LdA, e_StI, e_StL, e_StA, e_StN, e_Inc, e_I, e_L, e_Nul, e_Ref, e_Fmt, e_Dupint, e_Popint, e_Dupref, e_Popref, e_Dp2, e_BI, e_DI, e_BL, e_DL, e_SL, e_UI, e_IL, e_LI, e_CmpL, e_Get, e_Put, e_AldI, e_AldB, e_AldL, e_AldA, e_AstI, e_AstB, e_AstL, e_AstA, e_AstN, e_Len, e_New, e_NwA, e_Cal, e_CaV, e_isO, e_Max, e_Min, e_Obj, e_Cpy, e_Go, e_If, e_Cm, e_NuN, e_NuR, e_Sw, e_RI, e_RL, e_RV, e_fI, e_fL, e_fA, e_fO, e_fZ, e_clr, ip_clr, List.getElem?_cons_zero, List.getElem?_cons_succ, List.getElem?_nil, List.set_cons_zero, List.set_cons_succ, List.set_nil, Nat.add_one_sub_one, Nat.sub_self, Nat.zero_sub, List.length_cons, List.length_nil, List.length_set, List.take_succ_cons, List.take_zero, List.drop_succ_cons, List.drop_zero, List.reverse_cons, List.reverse_nil, List.nil_append, List.cons_append, List.append_nil, Option.toList_some, Option.toList_none, ip_up_same, ip_upup, if_true, if_false, ite_true, ite_false, true_and, and_true, and_self, true_or, or_true, Nat.zero_add, Nat.add_zero, Nat.le_refl, Nat.zero_le, reduceIte, reduceCtorEq, ne_eq, not_true_eq_false, not_false_eq_true, ip_nari, ip_narif, ip_narb0, ip_narb1, forall_const, Nat.reduceSub, Nat.reduceAdd, Nat.reduceLeDiff, Nat.reduceEqDiff, Nat.reduceLT, Nat.reduceMul, Int32.reduceLT, Int32.reduceLE, Int32.reduceToNatClampNeg, i10, i01, it01, it10, eq_self, ip_uh]
  exact h
theorem sp_isKind {d : Nat} (hd : 2 ≤ d) {v : Int32} {M : ip_M} {n : Nat} {Φ : ip_P} (h : Φ (some (.int (if 0 ≤ v ∧ v ≤ 5 then 1 else 0))) M n) : ip_call tb d 96 [.int v] M n Φ := by
  obtain ⟨d, rfl⟩ := ip_d1 (Nat.le_trans (by decide) hd)
  exact sp_w1 (cl_96.trans rfl) (by omega) h
theorem sp_isWeight {d : Nat} (hd : 2 ≤ d) {v : Int32} {M : ip_M} {n : Nat} {Φ : ip_P} (h : Φ (some (.int (if 0 ≤ v ∧ v ≤ 99 then 1 else 0))) M n) : ip_call tb d 97 [.int v] M n Φ := by
  obtain ⟨d, rfl⟩ := ip_d1 (Nat.le_trans (by decide) hd)
  exact sp_w1 (cl_97.trans rfl) (by omega) h
theorem sp_isFactSet {d : Nat} (hd : 2 ≤ d) {v : Int32} {M : ip_M} {n : Nat} {Φ : ip_P} (h : Φ (some (.int (if 0 ≤ v ∧ v ≤ 255 then 1 else 0))) M n) : ip_call tb d 98 [.int v] M n Φ := by
  obtain ⟨d, rfl⟩ := ip_d1 (Nat.le_trans (by decide) hd)
  exact sp_w1 (cl_98.trans rfl) (by omega) h
theorem sp_isSheet {d : Nat} (hd : 2 ≤ d) {v : Int32} {M : ip_M} {n : Nat} {Φ : ip_P} (h : Φ (some (.int (if 0 ≤ v ∧ v ≤ 3 then 1 else 0))) M n) : ip_call tb d 99 [.int v] M n Φ := by
  obtain ⟨d, rfl⟩ := ip_d1 (Nat.le_trans (by decide) hd)
  exact sp_w1 (cl_99.trans rfl) (by omega) h
theorem sp_isSort {d : Nat} (hd : 2 ≤ d) {v : Int32} {M : ip_M} {n : Nat} {Φ : ip_P} (h : Φ (some (.int (if 0 ≤ v ∧ v ≤ 3 then 1 else 0))) M n) : ip_call tb d 100 [.int v] M n Φ := by
  obtain ⟨d, rfl⟩ := ip_d1 (Nat.le_trans (by decide) hd)
  exact sp_w1 (cl_100.trans rfl) (by omega) h
theorem sp_isShelf {d : Nat} (hd : 2 ≤ d) {v : Int32} {M : ip_M} {n : Nat} {Φ : ip_P} (h : Φ (some (.int (if 0 ≤ v ∧ v ≤ 3 then 1 else 0))) M n) : ip_call tb d 101 [.int v] M n Φ := by
  obtain ⟨d, rfl⟩ := ip_d1 (Nat.le_trans (by decide) hd)
  exact sp_w1 (cl_101.trans rfl) (by omega) h
/-- is there such a one -/
def isW (S : Cs) (v : Int32) : Prop := 0 ≤ v ∧ v ≤ nI (rW (cNow S)) - 1
theorem isW.nat {S : Cs} (h8 : rW (cNow S) ≤ 8) {v : Int32} (h : isW S v) : ∃ i, i < rW (cNow S) ∧ i < 8 ∧ v = nI i := by
  obtain ⟨h1, h2⟩ := h
  generalize rW (cNow S) = w at *
  obtain ⟨i, hi, rfl⟩ := nI_of (x := v) (Int32.not_lt.mpr h1)
  cases w with
  | zero => exact absurd (Int32.le_trans h1 h2) (by decide)
  | succ w =>
    rw [nI_pred, nI_leI hi (by omega)] at h2
    exact ⟨i, by omega, by omega, rfl⟩
theorem isW.of {S : Cs} (h8 : rW (cNow S) ≤ 8) {i : Nat} (h : i < rW (cNow S)) : isW S (nI i) := by
  unfold isW
  generalize rW (cNow S) = w at *
  cases w with
  | zero => omega
  | succ w =>
    rw [nI_pred]
    exact ⟨nI_pos' (by omega), nI_le (by omega) (by omega)⟩
theorem sp_isWalker {d : Nat} (hd : 2 ≤ d) {v : Int32} {S : Cs} {M : ip_M} {n : Nat} {Φ : ip_P} (hS : clAt M n S) (h : Φ (some (.int (if 0 ≤ v ∧ v ≤ nI (rW (cNow S)) - 1 then 1 else 0))) M n) : ip_call tb d 102 [.ref 64, .int v] M n Φ := by
  have h64 := hS.1
  have h65 := hS.2.1.1
  obtain ⟨d, rfl⟩ := ip_d1 (Nat.le_trans (by decide) hd)
  rw [cl_102]
  simp only [ip_loc, ip_ent, List.length_cons, List.length_nil, List.replicate_succ, List.replicate_zero, List.append_nil, List.nil_append, List.cons_append, Nat.zero_add, Nat.reduceAdd, Nat.reduceSub, Nat.reduceLeDiff, true_and, Nat.le_refl]
  refine ip_step rfl ?_
  simp only [e_ops, e_nil, e_LdI, e_LdL, e_LdA, e_StI, e_StL, e_StA, e_StN, e_Inc, e_I, e_L, e_Nul, e_Ref, e_Fmt, e_Dupint, e_Popint, e_Dupref, e_Popref, e_Dp2, e_BI, e_DI, e_BL, e_DL, e_SL, e_UI, e_IL, e_LI, e_CmpL, e_Get, e_Put, e_AldI, e_AldB, e_AldL, e_AldA, e_AstI, e_AstB, e_AstL, e_AstA, e_AstN, e_Len, e_New, e_NwA, e_Cal, e_CaV, e_isO, e_Max, e_Min, e_Obj, e_Cpy, e_Go, e_If, e_Cm, e_NuN, e_NuR, e_Sw, e_RI, e_RL, e_RV, e_fI, e_fL, e_fA, e_fO, e_fZ, e_clr, ip_clr, List.getElem?_cons_zero, List.getElem?_cons_succ, List.getElem?_nil, List.set_cons_zero, List.set_cons_succ, List.set_nil, Nat.add_one_sub_one, Nat.sub_self, Nat.zero_sub, List.length_cons, List.length_nil, List.length_set, List.take_succ_cons, List.take_zero, List.drop_succ_cons, List.drop_zero, List.reverse_cons, List.reverse_nil, List.nil_append, List.cons_append, List.append_nil, Option.toList_some, Option.toList_none, ip_up_same, ip_upup, if_true, if_false, ite_true, ite_false, true_and, and_true, and_self, true_or, or_true, Nat.zero_add, Nat.add_zero, Nat.le_refl, Nat.zero_le, reduceIte, reduceCtorEq, ne_eq, not_true_eq_false, not_false_eq_true, ip_nari, ip_narif, ip_narb0, ip_narb1, forall_const, Nat.reduceSub, Nat.reduceAdd, Nat.reduceLeDiff, Nat.reduceEqDiff, Nat.reduceLT, Nat.reduceMul, Int32.reduceLT, Int32.reduceLE, Int32.reduceToNatClampNeg, i10, i01, it01, it10, eq_self, ip_uh, h64, obC, h65, rgO]
  refine sp_within (by omega) ?_
  simp only [e_ops, e_nil, e_LdI, e_LdL, e_LdA, e_StI, e_StL, e_StA, e_StN, e_Inc, e_I, e_L, e_Nul, e_Ref, e_Fmt, e_Dupint, e_Popint, e_Dupref, e_Popref, e_Dp2, e_BI, e_DI, e_BL, e_DL, e_SL, e_UI, e_IL, e_LI, e_CmpL, e_Get, e_Put, e_AldI, e_AldB, e_AldL, e_AldA, e_AstI, e_AstB, e_AstL, e_AstA, e_AstN, e_Len, e_New, e_NwA, e_Cal, e_CaV, e_isO, e_Max, e_Min, e_Obj, e_Cpy, e_Go, e_If, e_Cm, e_NuN, e_NuR, e_Sw, e_RI, e_RL, e_RV, e_fI, e_fL, e_fA, e_fO, e_fZ, e_clr, ip_clr, List.getElem?_cons_zero, List.getElem?_cons_succ, List.getElem?_nil, List.set_cons_zero, List.set_cons_succ, List.set_nil, Nat.add_one_sub_one, Nat.sub_self, Nat.zero_sub, List.length_cons, List.length_nil, List.length_set, List.take_succ_cons, List.take_zero, List.drop_succ_cons, List.drop_zero, List.reverse_cons, List.reverse_nil, List.nil_append, List.cons_append, List.append_nil, Option.toList_some, Option.toList_none, ip_up_same, ip_upup, if_true, if_false, ite_true, ite_false, true_and, and_true, and_self, true_or, or_true, Nat.zero_add, Nat.add_zero, Nat.le_refl, Nat.zero_le, reduceIte, reduceCtorEq, ne_eq, not_true_eq_false, not_false_eq_true, ip_nari, ip_narif, ip_narb0, ip_narb1, forall_const, Nat.reduceSub, Nat.reduceAdd, Nat.reduceLeDiff, Nat.reduceEqDiff, Nat.reduceLT, Nat.reduceMul, Int32.reduceLT, Int32.reduceLE, Int32.reduceToNatClampNeg, i10, i01, it01, it10, eq_self, ip_uh]
  exact h
