theorem mq0 : vp_in 0 56 = True := eq_true (nIin (i := 0) (N := 56) (by omega) (by omega))
theorem mq1 : vp_in 1 56 = True := eq_true (nIin (i := 1) (N := 56) (by omega) (by omega))
theorem mq2 : vp_in 2 56 = True := eq_true (nIin (i := 2) (N := 56) (by omega) (by omega))
theorem mq3 : vp_in 3 56 = True := eq_true (nIin (i := 3) (N := 56) (by omega) (by omega))
theorem mq4 : vp_in 4 56 = True := eq_true (nIin (i := 4) (N := 56) (by omega) (by omega))
theorem mq5 : vp_in 5 56 = True := eq_true (nIin (i := 5) (N := 56) (by omega) (by omega))
theorem mq6 : vp_in 6 56 = True := eq_true (nIin (i := 6) (N := 56) (by omega) (by omega))
theorem mq7 : vp_in 7 56 = True := eq_true (nIin (i := 7) (N := 56) (by omega) (by omega))
def wAt (M0 M : ip_M) (f : Nat → Int32) : Prop := mRow M f ∧ ∀ k, k ≠ 96 → M k = M0 k
theorem wAt.up {M0 M : ip_M} {f g : Nat → Int32} (h : wAt M0 M f) : wAt M0 (ip_up M 96 (iA 56 g)) g := ⟨h.1.up, fun k hk => (ip_up_ne hk).trans (h.2 k hk)⟩
theorem wAt.rf {M : ip_M} {f : Nat → Int32} (h : mRow M f) : wAt M M f := ⟨h, fun _ _ => rfl⟩
theorem hb_wb {x t : Int32} (hx : is8 x) {i j : Nat} (hi : i < 8) (hj : j < 8) (ht : i01P t) : hasB (withB x (nI i) t) (nI j) = if j = i then t else hasB x (nI j) := by
  obtain ⟨m, hm, rfl⟩ := hx
  obtain ⟨t, ht2, rfl⟩ := i01n ht
  rw [wb_n hm hi ht2, hb_n (wbl_n (w := 8) (by omega) hm hi ht2) hj, wbb_n hm hi hj ht2, hb_n hm hj]
  by_cases e : j = i
  · rw [if_pos e, if_pos e]
  · rw [if_neg e, if_neg e]
theorem okR.fl {R : Rg} (h : okR R) : is8 (rFl R) := by
  obtain ⟨m, hm, e⟩ := h.2.2.1
  exact ⟨m, p2_8 h.1 hm, e⟩
theorem tq01 {R : Rg} {i : Nat} : i01P (tq R i).2 := stepW_fl (q := (rPl R i, hasB (rFl R) (nI i))) hb01
theorem row_go {R : Rg} {f : Nat → Int32} {i : Nat} (h : okR R) (hR : rowR f R) (hi : i < rW R) : rowR (goF f i) (trStep R i) := by
  have h8 := h.1
  obtain ⟨r1, r2, r3, r4, r5, r6⟩ := hR
  have e := row_mW h ⟨r1, r2, r3, r4, r5, r6⟩ hi
  unfold goF
  rw [e]
  refine ⟨fun k hk => ?_, ?_, ?_, ?_, ?_, fun j hj => ?_⟩
  · rw [updN (by omega), updN (by omega)]; exact r1 k hk
  · rw [updN (by omega), updN (by omega)]; exact r2
  · rw [updN (by omega), updN (by omega)]; exact r3
  · rw [updN (by omega), updN (by omega)]; exact r4
  · rw [updN (by omega), updN (by omega)]; exact r5
  have hj : j < rW R := hj
  obtain ⟨q0, q1, q2, q3, q4, q5⟩ := r6 j hj
  refine ⟨?_, ?_, ?_, ?_, ?_, ?_⟩
  · rw [updN (by omega), updN (by omega)]; exact q0
  · rw [updN (by omega), updN (by omega)]; exact q1
  · rw [updN (by omega)]
    show _ = upd (rPl R) i (tq R i).1 j
    by_cases ej : j = i
    · subst ej; rw [updS, updS]
    · rw [updN (by omega), updN ej]; exact q2
  · rw [updN (by omega), updN (by omega)]; exact q3
  · rw [updN (by omega), updN (by omega)]; exact q4
  · show _ = hasB (withB (rFl R) (nI i) (tq R i).2) (nI j)
    rw [hb_wb h.fl (i := i) (j := j) (by omega) (by omega) tq01]
    by_cases ej : j = i
    · subst ej; rw [updS, if_pos rfl]
    · rw [updN (by omega), updN (by omega), if_neg ej]; exact q5
theorem ok_step {R : Rg} {i : Nat} (h : okR R) (hi : i < rW R) : okR (trStep R i) := by
  have h8 := h.1
  obtain ⟨m, hm, e⟩ := h.2.2.1
  obtain ⟨t, ht, e2⟩ := i01n (x := (tq R i).2) tq01
  refine ⟨h8, h.2.1, ⟨wbN m i t, wbl_n h8 hm hi ht, ?_⟩, h.2.2.2.1, ?_, fun j hj => ?_⟩
  · show withB (rFl R) (nI i) (tq R i).2 = _
    rw [e, e2, wb_n (p2_8 h8 hm) (by omega) ht]
  · obtain ⟨a1, a2, a3, a4, a5, a6⟩ := h.2.2.2.2.1
    refine ⟨a1, a2, a3, fun k hk => ?_, a5, a6⟩
    show upd (rPl R) i _ k = 0
    rw [updN (by omega)]
    exact a4 k hk
  · have hj : j < rW R := hj
    obtain ⟨b1, b2, b3⟩ := h.2.2.2.2.2 j hj
    refine ⟨b1, ?_, b3⟩
    show pl20 (upd (rPl R) i (tq R i).1 j)
    by_cases ej : j = i
    · subst ej
      rw [updS]
      exact stepW_pl (q := (rPl R j, hasB (rFl R) (nI j))) (h.rt hj) b2
    · rw [updN ej]; exact b2
theorem ok_trF {R : Rg} (h : okR R) : ∀ i, i ≤ rW R → okR (trF R i)
  | 0, _ => h
  | i + 1, hi => ok_step (ok_trF h i (by omega)) (by rw [(trF_w R i).1]; omega)
theorem ok_tread {R : Rg} (h : okR R) : okR (treadR R) := by
  have ho := ok_trF h (rW R) (Nat.le_refl _)
  obtain ⟨w0, w1, w2, w3, w4, w5, w6, w7, w8⟩ := trF_w R (rW R)
  obtain ⟨o1, o2, o3, o4, o5, o6⟩ := ho
  refine ⟨h.1, h.2.1, ?_, h.2.2.2.1, nrm_treadR h.1 h.2.2.2.2.1, fun j hj => ?_⟩
  · rw [w0] at o3; exact o3
  · have hj : j < rW R := hj
    obtain ⟨b1, b2, b3⟩ := h.2.2.2.2.2 j hj
    exact ⟨b1, (o6 j (by rw [w0]; exact hj)).2.1, b3⟩
theorem row_tread {R : Rg} {f : Nat → Int32} (hR : rowR f (trF R (rW R))) : rowR (upd f 4 (f 4 + 1)) (treadR R) := by
  obtain ⟨w0, w1, w2, w3, w4, w5, w6, w7, w8⟩ := trF_w R (rW R)
  obtain ⟨r1, r2, r3, r4, r5, r6⟩ := hR
  rw [w0] at r4 r6
  rw [w1] at r2
  rw [w2] at r3
  rw [w3] at r1
  rw [w4] at r5
  refine ⟨fun k hk => ?_, ?_, ?_, ?_, ?_, fun j hj => ?_⟩
  · rw [updN (by omega)]; exact r1 k hk
  · rw [updS, r2]; rfl
  · rw [updN (by omega)]; exact r3
  · rw [updN (by omega)]; exact r4
  · rw [updN (by omega)]; exact r5
  · have hj : j < rW R := hj
    have q := r6 j hj
    rw [w5, w6, w7, w8] at q
    rw [updN (by omega), updN (by omega), updN (by omega), updN (by omega), updN (by omega), updN (by omega)]
    exact q
theorem lp_stepGoes {d : Nat} (hd : 4 ≤ d) {R : Rg} {M0 : ip_M} {n : Nat} {Φ : ip_P} (h : ∀ M' f', wAt M0 M' f' → rowR f' (treadR R) → Φ none M' n) : ∀ (j i : Nat) (M : ip_M) (f : Nat → Int32), i + j = rW R → okR (trF R i) → rowR f (trF R i) → wAt M0 M f →
    ip_Ev (T_X6_stepGoes (ip_call tb d)) Φ 1 ([some (.ref 95), some (.int (nI i))], [], M, n, 0, 0) := by
  intro j
  induction j with
  | zero =>
    intro i M f hi ho hR hW
    have hA := hW.1
    obtain ⟨⟨ak, tl, rc, td, xx, h95⟩, h96⟩ := hA
    have hw := (trF_w R i).1
    have h8 := ho.1
    rw [hw] at h8
    have h6 : f 6 = nI (rW R) := by rw [hR.2.2.2.1, hw]
    have hlt := nIlt (i := i) (j := rW R) (by omega) (by omega)
    have hni : ¬ i < rW R := by omega
    have hir : i = rW R := by omega
    subst hir
    refine ip_step rfl ?_
    simp only [e_ops, e_nil, e_LdI, e_LdL, e_LdA, e_StI, e_StL, e_StA, e_StN, e_Inc, e_I, e_L, e_Nul, e_Ref, e_Fmt, e_Dupint, e_Popint, e_Dupref, e_Popref, e_Dp2, e_BI, e_DI, e_BL, e_DL, e_SL, e_UI, e_IL, e_LI, e_CmpL, e_Get, e_Put, e_AldI, e_AldB, e_AldL, e_AldA, e_AstI, e_AstB, e_AstL, e_AstA, e_AstN, e_Len, e_New, e_NwA, e_Cal, e_CaV, e_isO, e_Max, e_Min, e_Obj, e_Cpy, e_Go, e_If, e_Cm, e_NuN, e_NuR, e_Sw, e_RI, e_RL, e_RV, e_fI, e_fL, e_fA, e_fO, e_fZ, e_clr, ip_clr, List.getElem?_cons_zero, List.getElem?_cons_succ, List.getElem?_nil, List.set_cons_zero, List.set_cons_succ, List.set_nil, Nat.add_one_sub_one, Nat.sub_self, Nat.zero_sub, List.length_cons, List.length_nil, List.length_set, List.take_succ_cons, List.take_zero, List.drop_succ_cons, List.drop_zero, List.reverse_cons, List.reverse_nil, List.nil_append, List.cons_append, List.append_nil, Option.toList_some, Option.toList_none, ip_up_same, ip_upup, if_true, if_false, ite_true, ite_false, true_and, and_true, and_self, true_or, or_true, Nat.zero_add, Nat.add_zero, Nat.le_refl, Nat.zero_le, reduceIte, reduceCtorEq, ne_eq, not_true_eq_false, not_false_eq_true, ip_nari, ip_narif, ip_narb0, ip_narb1, forall_const, Nat.reduceSub, Nat.reduceAdd, Nat.reduceLeDiff, Nat.reduceEqDiff, Nat.reduceLT, Nat.reduceMul, Int32.reduceLT, Int32.reduceLE, Int32.reduceToNatClampNeg, i10, i01, it01, it10, eq_self, ip_uh, h95, obM, h96, iA, mq0, mq1, mq2, mq3, mq4, mq5, mq6, mq7, h6, hlt, hni]
    simp only [false_implies, true_and, true_implies]
    refine ip_step rfl ?_
    simp only [e_ops, e_nil, e_LdI, e_LdL, e_LdA, e_StI, e_StL, e_StA, e_StN, e_Inc, e_I, e_L, e_Nul, e_Ref, e_Fmt, e_Dupint, e_Popint, e_Dupref, e_Popref, e_Dp2, e_BI, e_DI, e_BL, e_DL, e_SL, e_UI, e_IL, e_LI, e_CmpL, e_Get, e_Put, e_AldI, e_AldB, e_AldL, e_AldA, e_AstI, e_AstB, e_AstL, e_AstA, e_AstN, e_Len, e_New, e_NwA, e_Cal, e_CaV, e_isO, e_Max, e_Min, e_Obj, e_Cpy, e_Go, e_If, e_Cm, e_NuN, e_NuR, e_Sw, e_RI, e_RL, e_RV, e_fI, e_fL, e_fA, e_fO, e_fZ, e_clr, ip_clr, List.getElem?_cons_zero, List.getElem?_cons_succ, List.getElem?_nil, List.set_cons_zero, List.set_cons_succ, List.set_nil, Nat.add_one_sub_one, Nat.sub_self, Nat.zero_sub, List.length_cons, List.length_nil, List.length_set, List.take_succ_cons, List.take_zero, List.drop_succ_cons, List.drop_zero, List.reverse_cons, List.reverse_nil, List.nil_append, List.cons_append, List.append_nil, Option.toList_some, Option.toList_none, ip_up_same, ip_upup, if_true, if_false, ite_true, ite_false, true_and, and_true, and_self, true_or, or_true, Nat.zero_add, Nat.add_zero, Nat.le_refl, Nat.zero_le, reduceIte, reduceCtorEq, ne_eq, not_true_eq_false, not_false_eq_true, ip_nari, ip_narif, ip_narb0, ip_narb1, forall_const, Nat.reduceSub, Nat.reduceAdd, Nat.reduceLeDiff, Nat.reduceEqDiff, Nat.reduceLT, Nat.reduceMul, Int32.reduceLT, Int32.reduceLE, Int32.reduceToNatClampNeg, i10, i01, it01, it10, eq_self, ip_uh, h95, obM, h96, iA, mq0, mq1, mq2, mq3, mq4, mq5, mq6, mq7]
    exact h _ _ hW.up (row_tread hR)
  | succ j ih =>
    intro i M f hi ho hR hW
    have hA := hW.1
    have hA0 := hA
    obtain ⟨⟨ak, tl, rc, td, xx, h95⟩, h96⟩ := hA
    have hw := (trF_w R i).1
    have h8 := ho.1
    rw [hw] at h8
    have h6 : f 6 = nI (rW R) := by rw [hR.2.2.2.1, hw]
    have hlt := nIlt (i := i) (j := rW R) (by omega) (by omega)
    have hni : i < rW R := by omega
    have hiw : i < rW (trF R i) := by rw [hw]; exact hni
    refine ip_step rfl ?_
    simp only [e_ops, e_nil, e_LdI, e_LdL, e_LdA, e_StI, e_StL, e_StA, e_StN, e_Inc, e_I, e_L, e_Nul, e_Ref, e_Fmt, e_Dupint, e_Popint, e_Dupref, e_Popref, e_Dp2, e_BI, e_DI, e_BL, e_DL, e_SL, e_UI, e_IL, e_LI, e_CmpL, e_Get, e_Put, e_AldI, e_AldB, e_AldL, e_AldA, e_AstI, e_AstB, e_AstL, e_AstA, e_AstN, e_Len, e_New, e_NwA, e_Cal, e_CaV, e_isO, e_Max, e_Min, e_Obj, e_Cpy, e_Go, e_If, e_Cm, e_NuN, e_NuR, e_Sw, e_RI, e_RL, e_RV, e_fI, e_fL, e_fA, e_fO, e_fZ, e_clr, ip_clr, List.getElem?_cons_zero, List.getElem?_cons_succ, List.getElem?_nil, List.set_cons_zero, List.set_cons_succ, List.set_nil, Nat.add_one_sub_one, Nat.sub_self, Nat.zero_sub, List.length_cons, List.length_nil, List.length_set, List.take_succ_cons, List.take_zero, List.drop_succ_cons, List.drop_zero, List.reverse_cons, List.reverse_nil, List.nil_append, List.cons_append, List.append_nil, Option.toList_some, Option.toList_none, ip_up_same, ip_upup, if_true, if_false, ite_true, ite_false, true_and, and_true, and_self, true_or, or_true, Nat.zero_add, Nat.add_zero, Nat.le_refl, Nat.zero_le, reduceIte, reduceCtorEq, ne_eq, not_true_eq_false, not_false_eq_true, ip_nari, ip_narif, ip_narb0, ip_narb1, forall_const, Nat.reduceSub, Nat.reduceAdd, Nat.reduceLeDiff, Nat.reduceEqDiff, Nat.reduceLT, Nat.reduceMul, Int32.reduceLT, Int32.reduceLE, Int32.reduceToNatClampNeg, i10, i01, it01, it10, eq_self, ip_uh, h95, obM, h96, iA, mq0, mq1, mq2, mq3, mq4, mq5, mq6, mq7, h6, hlt, hni]
    simp only [false_implies, and_true, true_implies]
    refine ip_step rfl ?_
    simp only [e_ops, e_nil, e_LdI, e_LdL, e_LdA, e_StI, e_StL, e_StA, e_StN, e_Inc, e_I, e_L, e_Nul, e_Ref, e_Fmt, e_Dupint, e_Popint, e_Dupref, e_Popref, e_Dp2, e_BI, e_DI, e_BL, e_DL, e_SL, e_UI, e_IL, e_LI, e_CmpL, e_Get, e_Put, e_AldI, e_AldB, e_AldL, e_AldA, e_AstI, e_AstB, e_AstL, e_AstA, e_AstN, e_Len, e_New, e_NwA, e_Cal, e_CaV, e_isO, e_Max, e_Min, e_Obj, e_Cpy, e_Go, e_If, e_Cm, e_NuN, e_NuR, e_Sw, e_RI, e_RL, e_RV, e_fI, e_fL, e_fA, e_fO, e_fZ, e_clr, ip_clr, List.getElem?_cons_zero, List.getElem?_cons_succ, List.getElem?_nil, List.set_cons_zero, List.set_cons_succ, List.set_nil, Nat.add_one_sub_one, Nat.sub_self, Nat.zero_sub, List.length_cons, List.length_nil, List.length_set, List.take_succ_cons, List.take_zero, List.drop_succ_cons, List.drop_zero, List.reverse_cons, List.reverse_nil, List.nil_append, List.cons_append, List.append_nil, Option.toList_some, Option.toList_none, ip_up_same, ip_upup, if_true, if_false, ite_true, ite_false, true_and, and_true, and_self, true_or, or_true, Nat.zero_add, Nat.add_zero, Nat.le_refl, Nat.zero_le, reduceIte, reduceCtorEq, ne_eq, not_true_eq_false, not_false_eq_true, ip_nari, ip_narif, ip_narb0, ip_narb1, forall_const, Nat.reduceSub, Nat.reduceAdd, Nat.reduceLeDiff, Nat.reduceEqDiff, Nat.reduceLT, Nat.reduceMul, Int32.reduceLT, Int32.reduceLE, Int32.reduceToNatClampNeg, i10, i01, it01, it10, eq_self, ip_uh, h95, obM, h96, iA, mq0, mq1, mq2, mq3, mq4, mq5, mq6, mq7]
    refine sp_goes (by omega) (by omega) (row_st ho hR hiw) hA0 ?_
    simp only [e_ops, e_nil, e_LdI, e_LdL, e_LdA, e_StI, e_StL, e_StA, e_StN, e_Inc, e_I, e_L, e_Nul, e_Ref, e_Fmt, e_Dupint, e_Popint, e_Dupref, e_Popref, e_Dp2, e_BI, e_DI, e_BL, e_DL, e_SL, e_UI, e_IL, e_LI, e_CmpL, e_Get, e_Put, e_AldI, e_AldB, e_AldL, e_AldA, e_AstI, e_AstB, e_AstL, e_AstA, e_AstN, e_Len, e_New, e_NwA, e_Cal, e_CaV, e_isO, e_Max, e_Min, e_Obj, e_Cpy, e_Go, e_If, e_Cm, e_NuN, e_NuR, e_Sw, e_RI, e_RL, e_RV, e_fI, e_fL, e_fA, e_fO, e_fZ, e_clr, ip_clr, List.getElem?_cons_zero, List.getElem?_cons_succ, List.getElem?_nil, List.set_cons_zero, List.set_cons_succ, List.set_nil, Nat.add_one_sub_one, Nat.sub_self, Nat.zero_sub, List.length_cons, List.length_nil, List.length_set, List.take_succ_cons, List.take_zero, List.drop_succ_cons, List.drop_zero, List.reverse_cons, List.reverse_nil, List.nil_append, List.cons_append, List.append_nil, Option.toList_some, Option.toList_none, ip_up_same, ip_upup, if_true, if_false, ite_true, ite_false, true_and, and_true, and_self, true_or, or_true, Nat.zero_add, Nat.add_zero, Nat.le_refl, Nat.zero_le, reduceIte, reduceCtorEq, ne_eq, not_true_eq_false, not_false_eq_true, ip_nari, ip_narif, ip_narb0, ip_narb1, forall_const, Nat.reduceSub, Nat.reduceAdd, Nat.reduceLeDiff, Nat.reduceEqDiff, Nat.reduceLT, Nat.reduceMul, Int32.reduceLT, Int32.reduceLE, Int32.reduceToNatClampNeg, i10, i01, it01, it10, eq_self, ip_uh]
    rw [nI_1]
    exact ih (i + 1) _ _ (by omega) (ok_step ho hiw) (row_go ho hR hiw) hW.up
theorem sp_stepGoes {d : Nat} (hd : 5 ≤ d) {R : Rg} (ho : okR R) {f : Nat → Int32} {M0 M : ip_M} {n : Nat} {Φ : ip_P} (hR : rowR f R) (hW : wAt M0 M f) (h : ∀ M' f', wAt M0 M' f' → rowR f' (treadR R) → Φ none M' n) : ip_call tb d 162 [.ref 95] M n Φ := by
  obtain ⟨d, rfl⟩ := ip_d1 (Nat.le_trans (by decide) hd)
  rw [cl_162]
  simp only [ip_loc, ip_ent, List.length_cons, List.length_nil, List.replicate_succ, List.replicate_zero, List.append_nil, List.nil_append, List.cons_append, Nat.zero_add, Nat.reduceAdd, Nat.reduceSub, Nat.reduceLeDiff, true_and, Nat.le_refl]
  refine ip_step rfl ?_
  simp only [e_ops, e_nil, e_LdI, e_LdL, e_LdA, e_StI, e_StL, e_StA, e_StN, e_Inc, e_I, e_L, e_Nul, e_Ref, e_Fmt, e_Dupint, e_Popint, e_Dupref, e_Popref, e_Dp2, e_BI, e_DI, e_BL, e_DL, e_SL, e_UI, e_IL, e_LI, e_CmpL, e_Get, e_Put, e_AldI, e_AldB, e_AldL, e_AldA, e_AstI, e_AstB, e_AstL, e_AstA, e_AstN, e_Len, e_New, e_NwA, e_Cal, e_CaV, e_isO, e_Max, e_Min, e_Obj, e_Cpy, e_Go, e_If, e_Cm, e_NuN, e_NuR, e_Sw, e_RI, e_RL, e_RV, e_fI, e_fL, e_fA, e_fO, e_fZ, e_clr, ip_clr, List.getElem?_cons_zero, List.getElem?_cons_succ, List.getElem?_nil, List.set_cons_zero, List.set_cons_succ, List.set_nil, Nat.add_one_sub_one, Nat.sub_self, Nat.zero_sub, List.length_cons, List.length_nil, List.length_set, List.take_succ_cons, List.take_zero, List.drop_succ_cons, List.drop_zero, List.reverse_cons, List.reverse_nil, List.nil_append, List.cons_append, List.append_nil, Option.toList_some, Option.toList_none, ip_up_same, ip_upup, if_true, if_false, ite_true, ite_false, true_and, and_true, and_self, true_or, or_true, Nat.zero_add, Nat.add_zero, Nat.le_refl, Nat.zero_le, reduceIte, reduceCtorEq, ne_eq, not_true_eq_false, not_false_eq_true, ip_nari, ip_narif, ip_narb0, ip_narb1, forall_const, Nat.reduceSub, Nat.reduceAdd, Nat.reduceLeDiff, Nat.reduceEqDiff, Nat.reduceLT, Nat.reduceMul, Int32.reduceLT, Int32.reduceLE, Int32.reduceToNatClampNeg, i10, i01, it01, it10, eq_self, ip_uh]
  exact lp_stepGoes (by omega) h (rW R) 0 M f (by omega) ho hR hW
theorem acL_n {R : Rg} : ∀ i, i ≤ 8 → ∃ m, m < 2 ^ i ∧ acL R i = nI m
  | 0, _ => ⟨0, by decide, rfl⟩
  | i + 1, hi => by
    obtain ⟨m, hm, e⟩ := acL_n (R := R) i (by omega)
    obtain ⟨t, ht, e2⟩ : ∃ t, t < 2 ∧ (if rPl R i = 20 then (1 : Int32) else 0) = nI t := by
      by_cases c : rPl R i = 20
      · exact ⟨1, by omega, by rw [if_pos c]; rfl⟩
      · exact ⟨0, by omega, by rw [if_neg c]; rfl⟩
    have hm2 : m < 2 ^ (i + 1) := Nat.lt_of_lt_of_le hm (Nat.pow_le_pow_right (by omega) (by omega))
    refine ⟨wbN m i t, wbl_n hi hm2 (by omega) ht, ?_⟩
    show withB (acL R i) (nI i) _ = _
    rw [e, e2, wb_n (p2_8 hi hm2) (by omega) ht]
theorem acL_8 {R : Rg} {i : Nat} (h : i ≤ 8) : is8 (acL R i) := by
  obtain ⟨m, hm, e⟩ := acL_n (R := R) i h
  exact ⟨m, p2_8 h hm, e⟩
theorem ac_no {R : Rg} {i : Nat} (h : i < 8) : withB (acL R i) (nI i) 0 = acL R i ||| 0 := by
  obtain ⟨m, hm, e⟩ := acL_n (R := R) i (by omega)
  rw [e, Int32.or_zero]
  have := wb_n (m := m) (i := i) (t := 0) (p2_8 (by omega) hm) h (by omega)
  rw [show (0 : Int32) = nI 0 from rfl, this]
  unfold wbN
  rw [bN_new hm]
  congr 1
  omega
theorem ac_yes {x : Int32} {i : Nat} : withB x (nI i) 1 = x ||| (1 <<< (nI i &&& 31)) := by
  unfold withB
  rw [if_neg (by decide)]
theorem lp_acrossSet {d : Nat} (hd : 2 ≤ d) {R : Rg} {f : Nat → Int32} {M : ip_M} {n : Nat} {Φ : ip_P} (h8 : rW R ≤ 8) (hR : rowR f R) (hA : mRow M f) (h : Φ (some (.int (acL R (rW R)))) M n) : ∀ (j i : Nat), i + j = rW R →
    ip_Ev (T_X6_acrossSet (ip_call tb d)) Φ 1 ([some (.ref 95), some (.int (acL R i)), some (.int (nI i))], [], M, n, 0, 0) := by
  have hA0 := hA
  obtain ⟨⟨ak, tl, rc, td, xx, h95⟩, h96⟩ := hA
  have h6 := hR.2.2.2.1
  intro j
  induction j with
  | zero =>
    intro i hi
    have hlt := nIlt (i := i) (j := rW R) (by omega) (by omega)
    have hni : ¬ i < rW R := by omega
    have hir : i = rW R := by omega
    refine ip_step rfl ?_
    simp only [e_ops, e_nil, e_LdI, e_LdL, e_LdA, e_StI, e_StL, e_StA, e_StN, e_Inc, e_I, e_L, e_Nul, e_Ref, e_Fmt, e_Dupint, e_Popint, e_Dupref, e_Popref, e_Dp2, e_BI, e_DI, e_BL, e_DL, e_SL, e_UI, e_IL, e_LI, e_CmpL, e_Get, e_Put, e_AldI, e_AldB, e_AldL, e_AldA, e_AstI, e_AstB, e_AstL, e_AstA, e_AstN, e_Len, e_New, e_NwA, e_Cal, e_CaV, e_isO, e_Max, e_Min, e_Obj, e_Cpy, e_Go, e_If, e_Cm, e_NuN, e_NuR, e_Sw, e_RI, e_RL, e_RV, e_fI, e_fL, e_fA, e_fO, e_fZ, e_clr, ip_clr, List.getElem?_cons_zero, List.getElem?_cons_succ, List.getElem?_nil, List.set_cons_zero, List.set_cons_succ, List.set_nil, Nat.add_one_sub_one, Nat.sub_self, Nat.zero_sub, List.length_cons, List.length_nil, List.length_set, List.take_succ_cons, List.take_zero, List.drop_succ_cons, List.drop_zero, List.reverse_cons, List.reverse_nil, List.nil_append, List.cons_append, List.append_nil, Option.toList_some, Option.toList_none, ip_up_same, ip_upup, if_true, if_false, ite_true, ite_false, true_and, and_true, and_self, true_or, or_true, Nat.zero_add, Nat.add_zero, Nat.le_refl, Nat.zero_le, reduceIte, reduceCtorEq, ne_eq, not_true_eq_false, not_false_eq_true, ip_nari, ip_narif, ip_narb0, ip_narb1, forall_const, Nat.reduceSub, Nat.reduceAdd, Nat.reduceLeDiff, Nat.reduceEqDiff, Nat.reduceLT, Nat.reduceMul, Int32.reduceLT, Int32.reduceLE, Int32.reduceToNatClampNeg, i10, i01, it01, it10, eq_self, ip_uh, h95, obM, h96, iA, mq0, mq1, mq2, mq3, mq4, mq5, mq6, mq7, h6, hlt, hni]
    simp only [false_implies, true_and, true_implies]
    refine ip_step rfl ?_
    simp only [e_ops, e_nil, e_LdI, e_LdL, e_LdA, e_StI, e_StL, e_StA, e_StN, e_Inc, e_I, e_L, e_Nul, e_Ref, e_Fmt, e_Dupint, e_Popint, e_Dupref, e_Popref, e_Dp2, e_BI, e_DI, e_BL, e_DL, e_SL, e_UI, e_IL, e_LI, e_CmpL, e_Get, e_Put, e_AldI, e_AldB, e_AldL, e_AldA, e_AstI, e_AstB, e_AstL, e_AstA, e_AstN, e_Len, e_New, e_NwA, e_Cal, e_CaV, e_isO, e_Max, e_Min, e_Obj, e_Cpy, e_Go, e_If, e_Cm, e_NuN, e_NuR, e_Sw, e_RI, e_RL, e_RV, e_fI, e_fL, e_fA, e_fO, e_fZ, e_clr, ip_clr, List.getElem?_cons_zero, List.getElem?_cons_succ, List.getElem?_nil, List.set_cons_zero, List.set_cons_succ, List.set_nil, Nat.add_one_sub_one, Nat.sub_self, Nat.zero_sub, List.length_cons, List.length_nil, List.length_set, List.take_succ_cons, List.take_zero, List.drop_succ_cons, List.drop_zero, List.reverse_cons, List.reverse_nil, List.nil_append, List.cons_append, List.append_nil, Option.toList_some, Option.toList_none, ip_up_same, ip_upup, if_true, if_false, ite_true, ite_false, true_and, and_true, and_self, true_or, or_true, Nat.zero_add, Nat.add_zero, Nat.le_refl, Nat.zero_le, reduceIte, reduceCtorEq, ne_eq, not_true_eq_false, not_false_eq_true, ip_nari, ip_narif, ip_narb0, ip_narb1, forall_const, Nat.reduceSub, Nat.reduceAdd, Nat.reduceLeDiff, Nat.reduceEqDiff, Nat.reduceLT, Nat.reduceMul, Int32.reduceLT, Int32.reduceLE, Int32.reduceToNatClampNeg, i10, i01, it01, it10, eq_self, ip_uh]
    rw [hir]
    exact h
  | succ j ih =>
    intro i hi
    have hlt := nIlt (i := i) (j := rW R) (by omega) (by omega)
    have hni : i < rW R := by omega
    have q2 := (hR.2.2.2.2.2 i hni).2.2.1
    refine ip_step rfl ?_
    simp only [e_ops, e_nil, e_LdI, e_LdL, e_LdA, e_StI, e_StL, e_StA, e_StN, e_Inc, e_I, e_L, e_Nul, e_Ref, e_Fmt, e_Dupint, e_Popint, e_Dupref, e_Popref, e_Dp2, e_BI, e_DI, e_BL, e_DL, e_SL, e_UI, e_IL, e_LI, e_CmpL, e_Get, e_Put, e_AldI, e_AldB, e_AldL, e_AldA, e_AstI, e_AstB, e_AstL, e_AstA, e_AstN, e_Len, e_New, e_NwA, e_Cal, e_CaV, e_isO, e_Max, e_Min, e_Obj, e_Cpy, e_Go, e_If, e_Cm, e_NuN, e_NuR, e_Sw, e_RI, e_RL, e_RV, e_fI, e_fL, e_fA, e_fO, e_fZ, e_clr, ip_clr, List.getElem?_cons_zero, List.getElem?_cons_succ, List.getElem?_nil, List.set_cons_zero, List.set_cons_succ, List.set_nil, Nat.add_one_sub_one, Nat.sub_self, Nat.zero_sub, List.length_cons, List.length_nil, List.length_set, List.take_succ_cons, List.take_zero, List.drop_succ_cons, List.drop_zero, List.reverse_cons, List.reverse_nil, List.nil_append, List.cons_append, List.append_nil, Option.toList_some, Option.toList_none, ip_up_same, ip_upup, if_true, if_false, ite_true, ite_false, true_and, and_true, and_self, true_or, or_true, Nat.zero_add, Nat.add_zero, Nat.le_refl, Nat.zero_le, reduceIte, reduceCtorEq, ne_eq, not_true_eq_false, not_false_eq_true, ip_nari, ip_narif, ip_narb0, ip_narb1, forall_const, Nat.reduceSub, Nat.reduceAdd, Nat.reduceLeDiff, Nat.reduceEqDiff, Nat.reduceLT, Nat.reduceMul, Int32.reduceLT, Int32.reduceLE, Int32.reduceToNatClampNeg, i10, i01, it01, it10, eq_self, ip_uh, h95, obM, h96, iA, mq0, mq1, mq2, mq3, mq4, mq5, mq6, mq7, h6, hlt, hni]
    simp only [false_implies, and_true, true_implies]
    refine ip_step rfl ?_
    simp only [e_ops, e_nil, e_LdI, e_LdL, e_LdA, e_StI, e_StL, e_StA, e_StN, e_Inc, e_I, e_L, e_Nul, e_Ref, e_Fmt, e_Dupint, e_Popint, e_Dupref, e_Popref, e_Dp2, e_BI, e_DI, e_BL, e_DL, e_SL, e_UI, e_IL, e_LI, e_CmpL, e_Get, e_Put, e_AldI, e_AldB, e_AldL, e_AldA, e_AstI, e_AstB, e_AstL, e_AstA, e_AstN, e_Len, e_New, e_NwA, e_Cal, e_CaV, e_isO, e_Max, e_Min, e_Obj, e_Cpy, e_Go, e_If, e_Cm, e_NuN, e_NuR, e_Sw, e_RI, e_RL, e_RV, e_fI, e_fL, e_fA, e_fO, e_fZ, e_clr, ip_clr, List.getElem?_cons_zero, List.getElem?_cons_succ, List.getElem?_nil, List.set_cons_zero, List.set_cons_succ, List.set_nil, Nat.add_one_sub_one, Nat.sub_self, Nat.zero_sub, List.length_cons, List.length_nil, List.length_set, List.take_succ_cons, List.take_zero, List.drop_succ_cons, List.drop_zero, List.reverse_cons, List.reverse_nil, List.nil_append, List.cons_append, List.append_nil, Option.toList_some, Option.toList_none, ip_up_same, ip_upup, if_true, if_false, ite_true, ite_false, true_and, and_true, and_self, true_or, or_true, Nat.zero_add, Nat.add_zero, Nat.le_refl, Nat.zero_le, reduceIte, reduceCtorEq, ne_eq, not_true_eq_false, not_false_eq_true, ip_nari, ip_narif, ip_narb0, ip_narb1, forall_const, Nat.reduceSub, Nat.reduceAdd, Nat.reduceLeDiff, Nat.reduceEqDiff, Nat.reduceLT, Nat.reduceMul, Int32.reduceLT, Int32.reduceLE, Int32.reduceToNatClampNeg, i10, i01, it01, it10, eq_self, ip_uh, h95, obM, h96, iA, mq0, mq1, mq2, mq3, mq4, mq5, mq6, mq7]
    refine sp_misAcross (by omega) (by omega) hA0 ?_
    rw [q2]
    simp only [e_ops, e_nil, e_LdI, e_LdL, e_LdA, e_StI, e_StL, e_StA, e_StN, e_Inc, e_I, e_L, e_Nul, e_Ref, e_Fmt, e_Dupint, e_Popint, e_Dupref, e_Popref, e_Dp2, e_BI, e_DI, e_BL, e_DL, e_SL, e_UI, e_IL, e_LI, e_CmpL, e_Get, e_Put, e_AldI, e_AldB, e_AldL, e_AldA, e_AstI, e_AstB, e_AstL, e_AstA, e_AstN, e_Len, e_New, e_NwA, e_Cal, e_CaV, e_isO, e_Max, e_Min, e_Obj, e_Cpy, e_Go, e_If, e_Cm, e_NuN, e_NuR, e_Sw, e_RI, e_RL, e_RV, e_fI, e_fL, e_fA, e_fO, e_fZ, e_clr, ip_clr, List.getElem?_cons_zero, List.getElem?_cons_succ, List.getElem?_nil, List.set_cons_zero, List.set_cons_succ, List.set_nil, Nat.add_one_sub_one, Nat.sub_self, Nat.zero_sub, List.length_cons, List.length_nil, List.length_set, List.take_succ_cons, List.take_zero, List.drop_succ_cons, List.drop_zero, List.reverse_cons, List.reverse_nil, List.nil_append, List.cons_append, List.append_nil, Option.toList_some, Option.toList_none, ip_up_same, ip_upup, if_true, if_false, ite_true, ite_false, true_and, and_true, and_self, true_or, or_true, Nat.zero_add, Nat.add_zero, Nat.le_refl, Nat.zero_le, reduceIte, reduceCtorEq, ne_eq, not_true_eq_false, not_false_eq_true, ip_nari, ip_narif, ip_narb0, ip_narb1, forall_const, Nat.reduceSub, Nat.reduceAdd, Nat.reduceLeDiff, Nat.reduceEqDiff, Nat.reduceLT, Nat.reduceMul, Int32.reduceLT, Int32.reduceLE, Int32.reduceToNatClampNeg, i10, i01, it01, it10, eq_self, ip_uh]
    refine ⟨fun hc => ?_, fun hc => ?_⟩
    · refine ip_step rfl ?_
      simp only [e_ops, e_nil, e_LdI, e_LdL, e_LdA, e_StI, e_StL, e_StA, e_StN, e_Inc, e_I, e_L, e_Nul, e_Ref, e_Fmt, e_Dupint, e_Popint, e_Dupref, e_Popref, e_Dp2, e_BI, e_DI, e_BL, e_DL, e_SL, e_UI, e_IL, e_LI, e_CmpL, e_Get, e_Put, e_AldI, e_AldB, e_AldL, e_AldA, e_AstI, e_AstB, e_AstL, e_AstA, e_AstN, e_Len, e_New, e_NwA, e_Cal, e_CaV, e_isO, e_Max, e_Min, e_Obj, e_Cpy, e_Go, e_If, e_Cm, e_NuN, e_NuR, e_Sw, e_RI, e_RL, e_RV, e_fI, e_fL, e_fA, e_fO, e_fZ, e_clr, ip_clr, List.getElem?_cons_zero, List.getElem?_cons_succ, List.getElem?_nil, List.set_cons_zero, List.set_cons_succ, List.set_nil, Nat.add_one_sub_one, Nat.sub_self, Nat.zero_sub, List.length_cons, List.length_nil, List.length_set, List.take_succ_cons, List.take_zero, List.drop_succ_cons, List.drop_zero, List.reverse_cons, List.reverse_nil, List.nil_append, List.cons_append, List.append_nil, Option.toList_some, Option.toList_none, ip_up_same, ip_upup, if_true, if_false, ite_true, ite_false, true_and, and_true, and_self, true_or, or_true, Nat.zero_add, Nat.add_zero, Nat.le_refl, Nat.zero_le, reduceIte, reduceCtorEq, ne_eq, not_true_eq_false, not_false_eq_true, ip_nari, ip_narif, ip_narb0, ip_narb1, forall_const, Nat.reduceSub, Nat.reduceAdd, Nat.reduceLeDiff, Nat.reduceEqDiff, Nat.reduceLT, Nat.reduceMul, Int32.reduceLT, Int32.reduceLE, Int32.reduceToNatClampNeg, i10, i01, it01, it10, eq_self, ip_uh]
      refine ip_step rfl ?_
      simp only [e_ops, e_nil, e_LdI, e_LdL, e_LdA, e_StI, e_StL, e_StA, e_StN, e_Inc, e_I, e_L, e_Nul, e_Ref, e_Fmt, e_Dupint, e_Popint, e_Dupref, e_Popref, e_Dp2, e_BI, e_DI, e_BL, e_DL, e_SL, e_UI, e_IL, e_LI, e_CmpL, e_Get, e_Put, e_AldI, e_AldB, e_AldL, e_AldA, e_AstI, e_AstB, e_AstL, e_AstA, e_AstN, e_Len, e_New, e_NwA, e_Cal, e_CaV, e_isO, e_Max, e_Min, e_Obj, e_Cpy, e_Go, e_If, e_Cm, e_NuN, e_NuR, e_Sw, e_RI, e_RL, e_RV, e_fI, e_fL, e_fA, e_fO, e_fZ, e_clr, ip_clr, List.getElem?_cons_zero, List.getElem?_cons_succ, List.getElem?_nil, List.set_cons_zero, List.set_cons_succ, List.set_nil, Nat.add_one_sub_one, Nat.sub_self, Nat.zero_sub, List.length_cons, List.length_nil, List.length_set, List.take_succ_cons, List.take_zero, List.drop_succ_cons, List.drop_zero, List.reverse_cons, List.reverse_nil, List.nil_append, List.cons_append, List.append_nil, Option.toList_some, Option.toList_none, ip_up_same, ip_upup, if_true, if_false, ite_true, ite_false, true_and, and_true, and_self, true_or, or_true, Nat.zero_add, Nat.add_zero, Nat.le_refl, Nat.zero_le, reduceIte, reduceCtorEq, ne_eq, not_true_eq_false, not_false_eq_true, ip_nari, ip_narif, ip_narb0, ip_narb1, forall_const, Nat.reduceSub, Nat.reduceAdd, Nat.reduceLeDiff, Nat.reduceEqDiff, Nat.reduceLT, Nat.reduceMul, Int32.reduceLT, Int32.reduceLE, Int32.reduceToNatClampNeg, i10, i01, it01, it10, eq_self, ip_uh]
      rw [nI_1]
      have := ih (i + 1) (by omega)
      rwa [show acL R (i + 1) = acL R i ||| 0 by rw [← ac_no (by omega)]; show withB _ _ _ = _; rw [if_neg hc]] at this
    · refine ip_step rfl ?_
      simp only [e_ops, e_nil, e_LdI, e_LdL, e_LdA, e_StI, e_StL, e_StA, e_StN, e_Inc, e_I, e_L, e_Nul, e_Ref, e_Fmt, e_Dupint, e_Popint, e_Dupref, e_Popref, e_Dp2, e_BI, e_DI, e_BL, e_DL, e_SL, e_UI, e_IL, e_LI, e_CmpL, e_Get, e_Put, e_AldI, e_AldB, e_AldL, e_AldA, e_AstI, e_AstB, e_AstL, e_AstA, e_AstN, e_Len, e_New, e_NwA, e_Cal, e_CaV, e_isO, e_Max, e_Min, e_Obj, e_Cpy, e_Go, e_If, e_Cm, e_NuN, e_NuR, e_Sw, e_RI, e_RL, e_RV, e_fI, e_fL, e_fA, e_fO, e_fZ, e_clr, ip_clr, List.getElem?_cons_zero, List.getElem?_cons_succ, List.getElem?_nil, List.set_cons_zero, List.set_cons_succ, List.set_nil, Nat.add_one_sub_one, Nat.sub_self, Nat.zero_sub, List.length_cons, List.length_nil, List.length_set, List.take_succ_cons, List.take_zero, List.drop_succ_cons, List.drop_zero, List.reverse_cons, List.reverse_nil, List.nil_append, List.cons_append, List.append_nil, Option.toList_some, Option.toList_none, ip_up_same, ip_upup, if_true, if_false, ite_true, ite_false, true_and, and_true, and_self, true_or, or_true, Nat.zero_add, Nat.add_zero, Nat.le_refl, Nat.zero_le, reduceIte, reduceCtorEq, ne_eq, not_true_eq_false, not_false_eq_true, ip_nari, ip_narif, ip_narb0, ip_narb1, forall_const, Nat.reduceSub, Nat.reduceAdd, Nat.reduceLeDiff, Nat.reduceEqDiff, Nat.reduceLT, Nat.reduceMul, Int32.reduceLT, Int32.reduceLE, Int32.reduceToNatClampNeg, i10, i01, it01, it10, eq_self, ip_uh]
      refine ip_step rfl ?_
      simp only [e_ops, e_nil, e_LdI, e_LdL, e_LdA, e_StI, e_StL, e_StA, e_StN, e_Inc, e_I, e_L, e_Nul, e_Ref, e_Fmt, e_Dupint, e_Popint, e_Dupref, e_Popref, e_Dp2, e_BI, e_DI, e_BL, e_DL, e_SL, e_UI, e_IL, e_LI, e_CmpL, e_Get, e_Put, e_AldI, e_AldB, e_AldL, e_AldA, e_AstI, e_AstB, e_AstL, e_AstA, e_AstN, e_Len, e_New, e_NwA, e_Cal, e_CaV, e_isO, e_Max, e_Min, e_Obj, e_Cpy, e_Go, e_If, e_Cm, e_NuN, e_NuR, e_Sw, e_RI, e_RL, e_RV, e_fI, e_fL, e_fA, e_fO, e_fZ, e_clr, ip_clr, List.getElem?_cons_zero, List.getElem?_cons_succ, List.getElem?_nil, List.set_cons_zero, List.set_cons_succ, List.set_nil, Nat.add_one_sub_one, Nat.sub_self, Nat.zero_sub, List.length_cons, List.length_nil, List.length_set, List.take_succ_cons, List.take_zero, List.drop_succ_cons, List.drop_zero, List.reverse_cons, List.reverse_nil, List.nil_append, List.cons_append, List.append_nil, Option.toList_some, Option.toList_none, ip_up_same, ip_upup, if_true, if_false, ite_true, ite_false, true_and, and_true, and_self, true_or, or_true, Nat.zero_add, Nat.add_zero, Nat.le_refl, Nat.zero_le, reduceIte, reduceCtorEq, ne_eq, not_true_eq_false, not_false_eq_true, ip_nari, ip_narif, ip_narb0, ip_narb1, forall_const, Nat.reduceSub, Nat.reduceAdd, Nat.reduceLeDiff, Nat.reduceEqDiff, Nat.reduceLT, Nat.reduceMul, Int32.reduceLT, Int32.reduceLE, Int32.reduceToNatClampNeg, i10, i01, it01, it10, eq_self, ip_uh]
      rw [nI_1]
      have := ih (i + 1) (by omega)
      rwa [show acL R (i + 1) = acL R i ||| (1 <<< (nI i &&& 31)) by rw [← ac_yes]; show withB _ _ _ = _; rw [if_pos (Classical.not_not.mp hc)]] at this
theorem sp_acrossSet {d : Nat} (hd : 3 ≤ d) {R : Rg} {f : Nat → Int32} {M : ip_M} {n : Nat} {Φ : ip_P} (h8 : rW R ≤ 8) (hR : rowR f R) (hA : mRow M f) (h : Φ (some (.int (acL R (rW R)))) M n) : ip_call tb d 163 [.ref 95] M n Φ := by
  obtain ⟨d, rfl⟩ := ip_d1 (Nat.le_trans (by decide) hd)
  rw [cl_163]
  simp only [ip_loc, ip_ent, List.length_cons, List.length_nil, List.replicate_succ, List.replicate_zero, List.append_nil, List.nil_append, List.cons_append, Nat.zero_add, Nat.reduceAdd, Nat.reduceSub, Nat.reduceLeDiff, true_and, Nat.le_refl]
  refine ip_step rfl ?_
  simp only [e_ops, e_nil, e_LdI, e_LdL, e_LdA, e_StI, e_StL, e_StA, e_StN, e_Inc, e_I, e_L, e_Nul, e_Ref, e_Fmt, e_Dupint, e_Popint, e_Dupref, e_Popref, e_Dp2, e_BI, e_DI, e_BL, e_DL, e_SL, e_UI, e_IL, e_LI, e_CmpL, e_Get, e_Put, e_AldI, e_AldB, e_AldL, e_AldA, e_AstI, e_AstB, e_AstL, e_AstA, e_AstN, e_Len, e_New, e_NwA, e_Cal, e_CaV, e_isO, e_Max, e_Min, e_Obj, e_Cpy, e_Go, e_If, e_Cm, e_NuN, e_NuR, e_Sw, e_RI, e_RL, e_RV, e_fI, e_fL, e_fA, e_fO, e_fZ, e_clr, ip_clr, List.getElem?_cons_zero, List.getElem?_cons_succ, List.getElem?_nil, List.set_cons_zero, List.set_cons_succ, List.set_nil, Nat.add_one_sub_one, Nat.sub_self, Nat.zero_sub, List.length_cons, List.length_nil, List.length_set, List.take_succ_cons, List.take_zero, List.drop_succ_cons, List.drop_zero, List.reverse_cons, List.reverse_nil, List.nil_append, List.cons_append, List.append_nil, Option.toList_some, Option.toList_none, ip_up_same, ip_upup, if_true, if_false, ite_true, ite_false, true_and, and_true, and_self, true_or, or_true, Nat.zero_add, Nat.add_zero, Nat.le_refl, Nat.zero_le, reduceIte, reduceCtorEq, ne_eq, not_true_eq_false, not_false_eq_true, ip_nari, ip_narif, ip_narb0, ip_narb1, forall_const, Nat.reduceSub, Nat.reduceAdd, Nat.reduceLeDiff, Nat.reduceEqDiff, Nat.reduceLT, Nat.reduceMul, Int32.reduceLT, Int32.reduceLE, Int32.reduceToNatClampNeg, i10, i01, it01, it10, eq_self, ip_uh]
  exact lp_acrossSet (by omega) h8 hR hA h (rW R) 0 (by omega)
def flL (x : Int32) : Nat → Int32
  | 0 => 0
  | i + 1 => flL x i ||| (hasB x (nI i) <<< (nI i &&& 31))
def flB : Bool := (List.range 9).all fun w => (List.range (2 ^ w)).all fun m => flL (nI m) w == nI m
theorem flB_t : flB = true := by decide +kernel
theorem okR.flL {R : Rg} (h : okR R) : flL (rFl R) (rW R) = rFl R := by
  obtain ⟨m, hm, e⟩ := h.2.2.1
  have h8 := h.1
  rw [e]
  have h := flB_t
  unfold flB at h
  exact eq_of_beq (List.all_eq_true.mp (List.all_eq_true.mp h (rW R) (List.mem_range.mpr (by omega))) m (List.mem_range.mpr hm))
theorem lp_fallenSet {d : Nat} (hd : 1 ≤ d) {R : Rg} {f : Nat → Int32} {M : ip_M} {n : Nat} {Φ : ip_P} (h8 : rW R ≤ 8) (hR : rowR f R) (hA : mRow M f) (h : Φ (some (.int (flL (rFl R) (rW R)))) M n) : ∀ (j i : Nat), i + j = rW R →
    ip_Ev (T_X6_fallenSet (ip_call tb d)) Φ 1 ([some (.ref 95), some (.int (flL (rFl R) i)), some (.int (nI i))], [], M, n, 0, 0) := by
  have hA0 := hA
  obtain ⟨⟨ak, tl, rc, td, xx, h95⟩, h96⟩ := hA
  have h6 := hR.2.2.2.1
  intro j
  induction j with
  | zero =>
    intro i hi
    have hlt := nIlt (i := i) (j := rW R) (by omega) (by omega)
    have hni : ¬ i < rW R := by omega
    have hir : i = rW R := by omega
    refine ip_step rfl ?_
    simp only [e_ops, e_nil, e_LdI, e_LdL, e_LdA, e_StI, e_StL, e_StA, e_StN, e_Inc, e_I, e_L, e_Nul, e_Ref, e_Fmt, e_Dupint, e_Popint, e_Dupref, e_Popref, e_Dp2, e_BI, e_DI, e_BL, e_DL, e_SL, e_UI, e_IL, e_LI, e_CmpL, e_Get, e_Put, e_AldI, e_AldB, e_AldL, e_AldA, e_AstI, e_AstB, e_AstL, e_AstA, e_AstN, e_Len, e_New, e_NwA, e_Cal, e_CaV, e_isO, e_Max, e_Min, e_Obj, e_Cpy, e_Go, e_If, e_Cm, e_NuN, e_NuR, e_Sw, e_RI, e_RL, e_RV, e_fI, e_fL, e_fA, e_fO, e_fZ, e_clr, ip_clr, List.getElem?_cons_zero, List.getElem?_cons_succ, List.getElem?_nil, List.set_cons_zero, List.set_cons_succ, List.set_nil, Nat.add_one_sub_one, Nat.sub_self, Nat.zero_sub, List.length_cons, List.length_nil, List.length_set, List.take_succ_cons, List.take_zero, List.drop_succ_cons, List.drop_zero, List.reverse_cons, List.reverse_nil, List.nil_append, List.cons_append, List.append_nil, Option.toList_some, Option.toList_none, ip_up_same, ip_upup, if_true, if_false, ite_true, ite_false, true_and, and_true, and_self, true_or, or_true, Nat.zero_add, Nat.add_zero, Nat.le_refl, Nat.zero_le, reduceIte, reduceCtorEq, ne_eq, not_true_eq_false, not_false_eq_true, ip_nari, ip_narif, ip_narb0, ip_narb1, forall_const, Nat.reduceSub, Nat.reduceAdd, Nat.reduceLeDiff, Nat.reduceEqDiff, Nat.reduceLT, Nat.reduceMul, Int32.reduceLT, Int32.reduceLE, Int32.reduceToNatClampNeg, i10, i01, it01, it10, eq_self, ip_uh, h95, obM, h96, iA, mq0, mq1, mq2, mq3, mq4, mq5, mq6, mq7, h6, hlt, hni]
    simp only [false_implies, true_and, true_implies]
    refine ip_step rfl ?_
    simp only [e_ops, e_nil, e_LdI, e_LdL, e_LdA, e_StI, e_StL, e_StA, e_StN, e_Inc, e_I, e_L, e_Nul, e_Ref, e_Fmt, e_Dupint, e_Popint, e_Dupref, e_Popref, e_Dp2, e_BI, e_DI, e_BL, e_DL, e_SL, e_UI, e_IL, e_LI, e_CmpL, e_Get, e_Put, e_AldI, e_AldB, e_AldL, e_AldA, e_AstI, e_AstB, e_AstL, e_AstA, e_AstN, e_Len, e_New, e_NwA, e_Cal, e_CaV, e_isO, e_Max, e_Min, e_Obj, e_Cpy, e_Go, e_If, e_Cm, e_NuN, e_NuR, e_Sw, e_RI, e_RL, e_RV, e_fI, e_fL, e_fA, e_fO, e_fZ, e_clr, ip_clr, List.getElem?_cons_zero, List.getElem?_cons_succ, List.getElem?_nil, List.set_cons_zero, List.set_cons_succ, List.set_nil, Nat.add_one_sub_one, Nat.sub_self, Nat.zero_sub, List.length_cons, List.length_nil, List.length_set, List.take_succ_cons, List.take_zero, List.drop_succ_cons, List.drop_zero, List.reverse_cons, List.reverse_nil, List.nil_append, List.cons_append, List.append_nil, Option.toList_some, Option.toList_none, ip_up_same, ip_upup, if_true, if_false, ite_true, ite_false, true_and, and_true, and_self, true_or, or_true, Nat.zero_add, Nat.add_zero, Nat.le_refl, Nat.zero_le, reduceIte, reduceCtorEq, ne_eq, not_true_eq_false, not_false_eq_true, ip_nari, ip_narif, ip_narb0, ip_narb1, forall_const, Nat.reduceSub, Nat.reduceAdd, Nat.reduceLeDiff, Nat.reduceEqDiff, Nat.reduceLT, Nat.reduceMul, Int32.reduceLT, Int32.reduceLE, Int32.reduceToNatClampNeg, i10, i01, it01, it10, eq_self, ip_uh]
    rw [hir]
    exact h
  | succ j ih =>
    intro i hi
    have hlt := nIlt (i := i) (j := rW R) (by omega) (by omega)
    have hni : i < rW R := by omega
    have q5 := (hR.2.2.2.2.2 i hni).2.2.2.2.2
    refine ip_step rfl ?_
    simp only [e_ops, e_nil, e_LdI, e_LdL, e_LdA, e_StI, e_StL, e_StA, e_StN, e_Inc, e_I, e_L, e_Nul, e_Ref, e_Fmt, e_Dupint, e_Popint, e_Dupref, e_Popref, e_Dp2, e_BI, e_DI, e_BL, e_DL, e_SL, e_UI, e_IL, e_LI, e_CmpL, e_Get, e_Put, e_AldI, e_AldB, e_AldL, e_AldA, e_AstI, e_AstB, e_AstL, e_AstA, e_AstN, e_Len, e_New, e_NwA, e_Cal, e_CaV, e_isO, e_Max, e_Min, e_Obj, e_Cpy, e_Go, e_If, e_Cm, e_NuN, e_NuR, e_Sw, e_RI, e_RL, e_RV, e_fI, e_fL, e_fA, e_fO, e_fZ, e_clr, ip_clr, List.getElem?_cons_zero, List.getElem?_cons_succ, List.getElem?_nil, List.set_cons_zero, List.set_cons_succ, List.set_nil, Nat.add_one_sub_one, Nat.sub_self, Nat.zero_sub, List.length_cons, List.length_nil, List.length_set, List.take_succ_cons, List.take_zero, List.drop_succ_cons, List.drop_zero, List.reverse_cons, List.reverse_nil, List.nil_append, List.cons_append, List.append_nil, Option.toList_some, Option.toList_none, ip_up_same, ip_upup, if_true, if_false, ite_true, ite_false, true_and, and_true, and_self, true_or, or_true, Nat.zero_add, Nat.add_zero, Nat.le_refl, Nat.zero_le, reduceIte, reduceCtorEq, ne_eq, not_true_eq_false, not_false_eq_true, ip_nari, ip_narif, ip_narb0, ip_narb1, forall_const, Nat.reduceSub, Nat.reduceAdd, Nat.reduceLeDiff, Nat.reduceEqDiff, Nat.reduceLT, Nat.reduceMul, Int32.reduceLT, Int32.reduceLE, Int32.reduceToNatClampNeg, i10, i01, it01, it10, eq_self, ip_uh, h95, obM, h96, iA, mq0, mq1, mq2, mq3, mq4, mq5, mq6, mq7, h6, hlt, hni]
    simp only [false_implies, and_true, true_implies]
    refine ip_step rfl ?_
    simp only [e_ops, e_nil, e_LdI, e_LdL, e_LdA, e_StI, e_StL, e_StA, e_StN, e_Inc, e_I, e_L, e_Nul, e_Ref, e_Fmt, e_Dupint, e_Popint, e_Dupref, e_Popref, e_Dp2, e_BI, e_DI, e_BL, e_DL, e_SL, e_UI, e_IL, e_LI, e_CmpL, e_Get, e_Put, e_AldI, e_AldB, e_AldL, e_AldA, e_AstI, e_AstB, e_AstL, e_AstA, e_AstN, e_Len, e_New, e_NwA, e_Cal, e_CaV, e_isO, e_Max, e_Min, e_Obj, e_Cpy, e_Go, e_If, e_Cm, e_NuN, e_NuR, e_Sw, e_RI, e_RL, e_RV, e_fI, e_fL, e_fA, e_fO, e_fZ, e_clr, ip_clr, List.getElem?_cons_zero, List.getElem?_cons_succ, List.getElem?_nil, List.set_cons_zero, List.set_cons_succ, List.set_nil, Nat.add_one_sub_one, Nat.sub_self, Nat.zero_sub, List.length_cons, List.length_nil, List.length_set, List.take_succ_cons, List.take_zero, List.drop_succ_cons, List.drop_zero, List.reverse_cons, List.reverse_nil, List.nil_append, List.cons_append, List.append_nil, Option.toList_some, Option.toList_none, ip_up_same, ip_upup, if_true, if_false, ite_true, ite_false, true_and, and_true, and_self, true_or, or_true, Nat.zero_add, Nat.add_zero, Nat.le_refl, Nat.zero_le, reduceIte, reduceCtorEq, ne_eq, not_true_eq_false, not_false_eq_true, ip_nari, ip_narif, ip_narb0, ip_narb1, forall_const, Nat.reduceSub, Nat.reduceAdd, Nat.reduceLeDiff, Nat.reduceEqDiff, Nat.reduceLT, Nat.reduceMul, Int32.reduceLT, Int32.reduceLE, Int32.reduceToNatClampNeg, i10, i01, it01, it10, eq_self, ip_uh, h95, obM, h96, iA, mq0, mq1, mq2, mq3, mq4, mq5, mq6, mq7]
    refine sp_its (j := 5) (by omega) (by omega) (by omega) hA0 ?_
    rw [q5]
    simp only [e_ops, e_nil, e_LdI, e_LdL, e_LdA, e_StI, e_StL, e_StA, e_StN, e_Inc, e_I, e_L, e_Nul, e_Ref, e_Fmt, e_Dupint, e_Popint, e_Dupref, e_Popref, e_Dp2, e_BI, e_DI, e_BL, e_DL, e_SL, e_UI, e_IL, e_LI, e_CmpL, e_Get, e_Put, e_AldI, e_AldB, e_AldL, e_AldA, e_AstI, e_AstB, e_AstL, e_AstA, e_AstN, e_Len, e_New, e_NwA, e_Cal, e_CaV, e_isO, e_Max, e_Min, e_Obj, e_Cpy, e_Go, e_If, e_Cm, e_NuN, e_NuR, e_Sw, e_RI, e_RL, e_RV, e_fI, e_fL, e_fA, e_fO, e_fZ, e_clr, ip_clr, List.getElem?_cons_zero, List.getElem?_cons_succ, List.getElem?_nil, List.set_cons_zero, List.set_cons_succ, List.set_nil, Nat.add_one_sub_one, Nat.sub_self, Nat.zero_sub, List.length_cons, List.length_nil, List.length_set, List.take_succ_cons, List.take_zero, List.drop_succ_cons, List.drop_zero, List.reverse_cons, List.reverse_nil, List.nil_append, List.cons_append, List.append_nil, Option.toList_some, Option.toList_none, ip_up_same, ip_upup, if_true, if_false, ite_true, ite_false, true_and, and_true, and_self, true_or, or_true, Nat.zero_add, Nat.add_zero, Nat.le_refl, Nat.zero_le, reduceIte, reduceCtorEq, ne_eq, not_true_eq_false, not_false_eq_true, ip_nari, ip_narif, ip_narb0, ip_narb1, forall_const, Nat.reduceSub, Nat.reduceAdd, Nat.reduceLeDiff, Nat.reduceEqDiff, Nat.reduceLT, Nat.reduceMul, Int32.reduceLT, Int32.reduceLE, Int32.reduceToNatClampNeg, i10, i01, it01, it10, eq_self, ip_uh]
    rw [nI_1]
    exact ih (i + 1) (by omega)
theorem sp_fallenSet {d : Nat} (hd : 2 ≤ d) {R : Rg} {f : Nat → Int32} {M : ip_M} {n : Nat} {Φ : ip_P} (ho : okR R) (hR : rowR f R) (hA : mRow M f) (h : Φ (some (.int (rFl R))) M n) : ip_call tb d 164 [.ref 95] M n Φ := by
  have h8 := ho.1
  obtain ⟨d, rfl⟩ := ip_d1 (Nat.le_trans (by decide) hd)
  rw [cl_164]
  simp only [ip_loc, ip_ent, List.length_cons, List.length_nil, List.replicate_succ, List.replicate_zero, List.append_nil, List.nil_append, List.cons_append, Nat.zero_add, Nat.reduceAdd, Nat.reduceSub, Nat.reduceLeDiff, true_and, Nat.le_refl]
  refine ip_step rfl ?_
  simp only [e_ops, e_nil, e_LdI, e_LdL, e_LdA, e_StI, e_StL, e_StA, e_StN, e_Inc, e_I, e_L, e_Nul, e_Ref, e_Fmt, e_Dupint, e_Popint, e_Dupref, e_Popref, e_Dp2, e_BI, e_DI, e_BL, e_DL, e_SL, e_UI, e_IL, e_LI, e_CmpL, e_Get, e_Put, e_AldI, e_AldB, e_AldL, e_AldA, e_AstI, e_AstB, e_AstL, e_AstA, e_AstN, e_Len, e_New, e_NwA, e_Cal, e_CaV, e_isO, e_Max, e_Min, e_Obj, e_Cpy, e_Go, e_If, e_Cm, e_NuN, e_NuR, e_Sw, e_RI, e_RL, e_RV, e_fI, e_fL, e_fA, e_fO, e_fZ, e_clr, ip_clr, List.getElem?_cons_zero, List.getElem?_cons_succ, List.getElem?_nil, List.set_cons_zero, List.set_cons_succ, List.set_nil, Nat.add_one_sub_one, Nat.sub_self, Nat.zero_sub, List.length_cons, List.length_nil, List.length_set, List.take_succ_cons, List.take_zero, List.drop_succ_cons, List.drop_zero, List.reverse_cons, List.reverse_nil, List.nil_append, List.cons_append, List.append_nil, Option.toList_some, Option.toList_none, ip_up_same, ip_upup, if_true, if_false, ite_true, ite_false, true_and, and_true, and_self, true_or, or_true, Nat.zero_add, Nat.add_zero, Nat.le_refl, Nat.zero_le, reduceIte, reduceCtorEq, ne_eq, not_true_eq_false, not_false_eq_true, ip_nari, ip_narif, ip_narb0, ip_narb1, forall_const, Nat.reduceSub, Nat.reduceAdd, Nat.reduceLeDiff, Nat.reduceEqDiff, Nat.reduceLT, Nat.reduceMul, Int32.reduceLT, Int32.reduceLE, Int32.reduceToNatClampNeg, i10, i01, it01, it10, eq_self, ip_uh]
  rw [← ho.flL] at h
  exact lp_fallenSet (by omega) h8 hR hA h (rW R) 0 (by omega)
theorem lp_mplaces {d : Nat} (hd : 1 ≤ d) {R : Rg} {f : Nat → Int32} {M : ip_M} {n : Nat} {Φ : ip_P} (h8 : rW R ≤ 8) (hR : rowR f R) (hA : mRow M f) (h : Φ (some (.int (plL R (rW R)))) M n) : ∀ (j i : Nat), i + j = rW R →
    ip_Ev (T_X6_places (ip_call tb d)) Φ 1 ([some (.ref 95), some (.int (plL R i)), some (.int (nI i))], [], M, n, 0, 0) := by
  have hA0 := hA
  obtain ⟨⟨ak, tl, rc, td, xx, h95⟩, h96⟩ := hA
  have h6 := hR.2.2.2.1
  intro j
  induction j with
  | zero =>
    intro i hi
    have hlt := nIlt (i := i) (j := rW R) (by omega) (by omega)
    have hni : ¬ i < rW R := by omega
    have hir : i = rW R := by omega
    refine ip_step rfl ?_
    simp only [e_ops, e_nil, e_LdI, e_LdL, e_LdA, e_StI, e_StL, e_StA, e_StN, e_Inc, e_I, e_L, e_Nul, e_Ref, e_Fmt, e_Dupint, e_Popint, e_Dupref, e_Popref, e_Dp2, e_BI, e_DI, e_BL, e_DL, e_SL, e_UI, e_IL, e_LI, e_CmpL, e_Get, e_Put, e_AldI, e_AldB, e_AldL, e_AldA, e_AstI, e_AstB, e_AstL, e_AstA, e_AstN, e_Len, e_New, e_NwA, e_Cal, e_CaV, e_isO, e_Max, e_Min, e_Obj, e_Cpy, e_Go, e_If, e_Cm, e_NuN, e_NuR, e_Sw, e_RI, e_RL, e_RV, e_fI, e_fL, e_fA, e_fO, e_fZ, e_clr, ip_clr, List.getElem?_cons_zero, List.getElem?_cons_succ, List.getElem?_nil, List.set_cons_zero, List.set_cons_succ, List.set_nil, Nat.add_one_sub_one, Nat.sub_self, Nat.zero_sub, List.length_cons, List.length_nil, List.length_set, List.take_succ_cons, List.take_zero, List.drop_succ_cons, List.drop_zero, List.reverse_cons, List.reverse_nil, List.nil_append, List.cons_append, List.append_nil, Option.toList_some, Option.toList_none, ip_up_same, ip_upup, if_true, if_false, ite_true, ite_false, true_and, and_true, and_self, true_or, or_true, Nat.zero_add, Nat.add_zero, Nat.le_refl, Nat.zero_le, reduceIte, reduceCtorEq, ne_eq, not_true_eq_false, not_false_eq_true, ip_nari, ip_narif, ip_narb0, ip_narb1, forall_const, Nat.reduceSub, Nat.reduceAdd, Nat.reduceLeDiff, Nat.reduceEqDiff, Nat.reduceLT, Nat.reduceMul, Int32.reduceLT, Int32.reduceLE, Int32.reduceToNatClampNeg, i10, i01, it01, it10, eq_self, ip_uh, h95, obM, h96, iA, mq0, mq1, mq2, mq3, mq4, mq5, mq6, mq7, h6, hlt, hni]
    simp only [false_implies, true_and, true_implies]
    refine ip_step rfl ?_
    simp only [e_ops, e_nil, e_LdI, e_LdL, e_LdA, e_StI, e_StL, e_StA, e_StN, e_Inc, e_I, e_L, e_Nul, e_Ref, e_Fmt, e_Dupint, e_Popint, e_Dupref, e_Popref, e_Dp2, e_BI, e_DI, e_BL, e_DL, e_SL, e_UI, e_IL, e_LI, e_CmpL, e_Get, e_Put, e_AldI, e_AldB, e_AldL, e_AldA, e_AstI, e_AstB, e_AstL, e_AstA, e_AstN, e_Len, e_New, e_NwA, e_Cal, e_CaV, e_isO, e_Max, e_Min, e_Obj, e_Cpy, e_Go, e_If, e_Cm, e_NuN, e_NuR, e_Sw, e_RI, e_RL, e_RV, e_fI, e_fL, e_fA, e_fO, e_fZ, e_clr, ip_clr, List.getElem?_cons_zero, List.getElem?_cons_succ, List.getElem?_nil, List.set_cons_zero, List.set_cons_succ, List.set_nil, Nat.add_one_sub_one, Nat.sub_self, Nat.zero_sub, List.length_cons, List.length_nil, List.length_set, List.take_succ_cons, List.take_zero, List.drop_succ_cons, List.drop_zero, List.reverse_cons, List.reverse_nil, List.nil_append, List.cons_append, List.append_nil, Option.toList_some, Option.toList_none, ip_up_same, ip_upup, if_true, if_false, ite_true, ite_false, true_and, and_true, and_self, true_or, or_true, Nat.zero_add, Nat.add_zero, Nat.le_refl, Nat.zero_le, reduceIte, reduceCtorEq, ne_eq, not_true_eq_false, not_false_eq_true, ip_nari, ip_narif, ip_narb0, ip_narb1, forall_const, Nat.reduceSub, Nat.reduceAdd, Nat.reduceLeDiff, Nat.reduceEqDiff, Nat.reduceLT, Nat.reduceMul, Int32.reduceLT, Int32.reduceLE, Int32.reduceToNatClampNeg, i10, i01, it01, it10, eq_self, ip_uh]
    rw [hir]
    exact h
  | succ j ih =>
    intro i hi
    have hlt := nIlt (i := i) (j := rW R) (by omega) (by omega)
    have hni : i < rW R := by omega
    have q2 := (hR.2.2.2.2.2 i hni).2.2.1
    refine ip_step rfl ?_
    simp only [e_ops, e_nil, e_LdI, e_LdL, e_LdA, e_StI, e_StL, e_StA, e_StN, e_Inc, e_I, e_L, e_Nul, e_Ref, e_Fmt, e_Dupint, e_Popint, e_Dupref, e_Popref, e_Dp2, e_BI, e_DI, e_BL, e_DL, e_SL, e_UI, e_IL, e_LI, e_CmpL, e_Get, e_Put, e_AldI, e_AldB, e_AldL, e_AldA, e_AstI, e_AstB, e_AstL, e_AstA, e_AstN, e_Len, e_New, e_NwA, e_Cal, e_CaV, e_isO, e_Max, e_Min, e_Obj, e_Cpy, e_Go, e_If, e_Cm, e_NuN, e_NuR, e_Sw, e_RI, e_RL, e_RV, e_fI, e_fL, e_fA, e_fO, e_fZ, e_clr, ip_clr, List.getElem?_cons_zero, List.getElem?_cons_succ, List.getElem?_nil, List.set_cons_zero, List.set_cons_succ, List.set_nil, Nat.add_one_sub_one, Nat.sub_self, Nat.zero_sub, List.length_cons, List.length_nil, List.length_set, List.take_succ_cons, List.take_zero, List.drop_succ_cons, List.drop_zero, List.reverse_cons, List.reverse_nil, List.nil_append, List.cons_append, List.append_nil, Option.toList_some, Option.toList_none, ip_up_same, ip_upup, if_true, if_false, ite_true, ite_false, true_and, and_true, and_self, true_or, or_true, Nat.zero_add, Nat.add_zero, Nat.le_refl, Nat.zero_le, reduceIte, reduceCtorEq, ne_eq, not_true_eq_false, not_false_eq_true, ip_nari, ip_narif, ip_narb0, ip_narb1, forall_const, Nat.reduceSub, Nat.reduceAdd, Nat.reduceLeDiff, Nat.reduceEqDiff, Nat.reduceLT, Nat.reduceMul, Int32.reduceLT, Int32.reduceLE, Int32.reduceToNatClampNeg, i10, i01, it01, it10, eq_self, ip_uh, h95, obM, h96, iA, mq0, mq1, mq2, mq3, mq4, mq5, mq6, mq7, h6, hlt, hni]
    simp only [false_implies, and_true, true_implies]
    refine ip_step rfl ?_
    simp only [e_ops, e_nil, e_LdI, e_LdL, e_LdA, e_StI, e_StL, e_StA, e_StN, e_Inc, e_I, e_L, e_Nul, e_Ref, e_Fmt, e_Dupint, e_Popint, e_Dupref, e_Popref, e_Dp2, e_BI, e_DI, e_BL, e_DL, e_SL, e_UI, e_IL, e_LI, e_CmpL, e_Get, e_Put, e_AldI, e_AldB, e_AldL, e_AldA, e_AstI, e_AstB, e_AstL, e_AstA, e_AstN, e_Len, e_New, e_NwA, e_Cal, e_CaV, e_isO, e_Max, e_Min, e_Obj, e_Cpy, e_Go, e_If, e_Cm, e_NuN, e_NuR, e_Sw, e_RI, e_RL, e_RV, e_fI, e_fL, e_fA, e_fO, e_fZ, e_clr, ip_clr, List.getElem?_cons_zero, List.getElem?_cons_succ, List.getElem?_nil, List.set_cons_zero, List.set_cons_succ, List.set_nil, Nat.add_one_sub_one, Nat.sub_self, Nat.zero_sub, List.length_cons, List.length_nil, List.length_set, List.take_succ_cons, List.take_zero, List.drop_succ_cons, List.drop_zero, List.reverse_cons, List.reverse_nil, List.nil_append, List.cons_append, List.append_nil, Option.toList_some, Option.toList_none, ip_up_same, ip_upup, if_true, if_false, ite_true, ite_false, true_and, and_true, and_self, true_or, or_true, Nat.zero_add, Nat.add_zero, Nat.le_refl, Nat.zero_le, reduceIte, reduceCtorEq, ne_eq, not_true_eq_false, not_false_eq_true, ip_nari, ip_narif, ip_narb0, ip_narb1, forall_const, Nat.reduceSub, Nat.reduceAdd, Nat.reduceLeDiff, Nat.reduceEqDiff, Nat.reduceLT, Nat.reduceMul, Int32.reduceLT, Int32.reduceLE, Int32.reduceToNatClampNeg, i10, i01, it01, it10, eq_self, ip_uh, h95, obM, h96, iA, mq0, mq1, mq2, mq3, mq4, mq5, mq6, mq7]
    refine sp_its (j := 2) (by omega) (by omega) (by omega) hA0 ?_
    rw [q2]
    simp only [e_ops, e_nil, e_LdI, e_LdL, e_LdA, e_StI, e_StL, e_StA, e_StN, e_Inc, e_I, e_L, e_Nul, e_Ref, e_Fmt, e_Dupint, e_Popint, e_Dupref, e_Popref, e_Dp2, e_BI, e_DI, e_BL, e_DL, e_SL, e_UI, e_IL, e_LI, e_CmpL, e_Get, e_Put, e_AldI, e_AldB, e_AldL, e_AldA, e_AstI, e_AstB, e_AstL, e_AstA, e_AstN, e_Len, e_New, e_NwA, e_Cal, e_CaV, e_isO, e_Max, e_Min, e_Obj, e_Cpy, e_Go, e_If, e_Cm, e_NuN, e_NuR, e_Sw, e_RI, e_RL, e_RV, e_fI, e_fL, e_fA, e_fO, e_fZ, e_clr, ip_clr, List.getElem?_cons_zero, List.getElem?_cons_succ, List.getElem?_nil, List.set_cons_zero, List.set_cons_succ, List.set_nil, Nat.add_one_sub_one, Nat.sub_self, Nat.zero_sub, List.length_cons, List.length_nil, List.length_set, List.take_succ_cons, List.take_zero, List.drop_succ_cons, List.drop_zero, List.reverse_cons, List.reverse_nil, List.nil_append, List.cons_append, List.append_nil, Option.toList_some, Option.toList_none, ip_up_same, ip_upup, if_true, if_false, ite_true, ite_false, true_and, and_true, and_self, true_or, or_true, Nat.zero_add, Nat.add_zero, Nat.le_refl, Nat.zero_le, reduceIte, reduceCtorEq, ne_eq, not_true_eq_false, not_false_eq_true, ip_nari, ip_narif, ip_narb0, ip_narb1, forall_const, Nat.reduceSub, Nat.reduceAdd, Nat.reduceLeDiff, Nat.reduceEqDiff, Nat.reduceLT, Nat.reduceMul, Int32.reduceLT, Int32.reduceLE, Int32.reduceToNatClampNeg, i10, i01, it01, it10, eq_self, ip_uh]
    rw [nI_1]
    exact ih (i + 1) (by omega)
theorem sp_mplaces {d : Nat} (hd : 2 ≤ d) {R : Rg} {f : Nat → Int32} {M : ip_M} {n : Nat} {Φ : ip_P} (h8 : rW R ≤ 8) (hR : rowR f R) (hA : mRow M f) (h : Φ (some (.int (plL R (rW R)))) M n) : ip_call tb d 175 [.ref 95] M n Φ := by
  obtain ⟨d, rfl⟩ := ip_d1 (Nat.le_trans (by decide) hd)
  rw [cl_175]
  simp only [ip_loc, ip_ent, List.length_cons, List.length_nil, List.replicate_succ, List.replicate_zero, List.append_nil, List.nil_append, List.cons_append, Nat.zero_add, Nat.reduceAdd, Nat.reduceSub, Nat.reduceLeDiff, true_and, Nat.le_refl]
  refine ip_step rfl ?_
  simp only [e_ops, e_nil, e_LdI, e_LdL, e_LdA, e_StI, e_StL, e_StA, e_StN, e_Inc, e_I, e_L, e_Nul, e_Ref, e_Fmt, e_Dupint, e_Popint, e_Dupref, e_Popref, e_Dp2, e_BI, e_DI, e_BL, e_DL, e_SL, e_UI, e_IL, e_LI, e_CmpL, e_Get, e_Put, e_AldI, e_AldB, e_AldL, e_AldA, e_AstI, e_AstB, e_AstL, e_AstA, e_AstN, e_Len, e_New, e_NwA, e_Cal, e_CaV, e_isO, e_Max, e_Min, e_Obj, e_Cpy, e_Go, e_If, e_Cm, e_NuN, e_NuR, e_Sw, e_RI, e_RL, e_RV, e_fI, e_fL, e_fA, e_fO, e_fZ, e_clr, ip_clr, List.getElem?_cons_zero, List.getElem?_cons_succ, List.getElem?_nil, List.set_cons_zero, List.set_cons_succ, List.set_nil, Nat.add_one_sub_one, Nat.sub_self, Nat.zero_sub, List.length_cons, List.length_nil, List.length_set, List.take_succ_cons, List.take_zero, List.drop_succ_cons, List.drop_zero, List.reverse_cons, List.reverse_nil, List.nil_append, List.cons_append, List.append_nil, Option.toList_some, Option.toList_none, ip_up_same, ip_upup, if_true, if_false, ite_true, ite_false, true_and, and_true, and_self, true_or, or_true, Nat.zero_add, Nat.add_zero, Nat.le_refl, Nat.zero_le, reduceIte, reduceCtorEq, ne_eq, not_true_eq_false, not_false_eq_true, ip_nari, ip_narif, ip_narb0, ip_narb1, forall_const, Nat.reduceSub, Nat.reduceAdd, Nat.reduceLeDiff, Nat.reduceEqDiff, Nat.reduceLT, Nat.reduceMul, Int32.reduceLT, Int32.reduceLE, Int32.reduceToNatClampNeg, i10, i01, it01, it10, eq_self, ip_uh]
  exact lp_mplaces (by omega) h8 hR hA h (rW R) 0 (by omega)
