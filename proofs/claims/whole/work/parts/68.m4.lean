theorem and1 {s : Int32} : (s &&& 1 = 0) ↔ s.toBitVec.toNat % 2 = 0 := by
  rw [← Int32.toBitVec_inj, Int32.toBitVec_and]
  constructor
  · intro h
    have := congrArg BitVec.toNat h
    rw [BitVec.toNat_and] at this
    have e : s.toBitVec.toNat &&& 1 = 0 := this
    rwa [Nat.and_one_is_mod] at e
  · intro h
    apply BitVec.eq_of_toNat_eq
    rw [BitVec.toNat_and]
    show s.toBitVec.toNat &&& 1 = 0
    rwa [Nat.and_one_is_mod]
theorem toI {s : Int32} : s.toInt % 2 = (s.toBitVec.toNat : Int) % 2 := by
  show s.toBitVec.toInt % 2 = _
  rw [BitVec.toInt_eq_toNat_cond]
  have := s.toBitVec.isLt
  split <;> omega
theorem dv2 {s : Int32} : (s - s / 2 * 2).toInt = s.toInt - (s.toInt.tdiv 2) * 2 := by
  have h1 := s.toInt_lt
  have h2 := s.le_toInt
  have h3 : s.toInt.tdiv 2 * 2 + s.toInt.tmod 2 = s.toInt := Int.tdiv_mul_add_tmod _ _
  have h4 : -1 ≤ s.toInt.tmod 2 ∧ s.toInt.tmod 2 ≤ 1 := by
    have a := Int.tmod_lt_of_pos s.toInt (show (0 : Int) < 2 by decide)
    have b := Int.lt_tmod_of_pos s.toInt (show (0 : Int) < 2 by decide)
    omega
  have h7 : 0 ≤ s.toInt → 0 ≤ s.toInt.tmod 2 := fun h => Int.tmod_nonneg _ h
  rw [Int32.toInt_sub, Int32.toInt_mul, Int32.toInt_div]
  rw [show (2 : Int32).toInt = 2 from rfl]
  rw [Int.bmod_eq_of_le (n := s.toInt.tdiv 2) (by omega) (by omega)]
  rw [Int.bmod_eq_of_le (n := s.toInt.tdiv 2 * 2) (by omega) (by omega)]
  rw [Int.bmod_eq_of_le (by omega) (by omega)]
theorem par {s : Int32} : (s - s / 2 * 2 = 0) = (s &&& 1 = 0) := by
  apply propext
  rw [and1, ← Int32.toInt_inj, dv2, show (0 : Int32).toInt = 0 from rfl]
  have h3 : s.toInt.tdiv 2 * 2 + s.toInt.tmod 2 = s.toInt := Int.tdiv_mul_add_tmod _ _
  have h5 : s.toInt.tmod 2 = 0 ↔ s.toInt % 2 = 0 := by
    rw [← Int.dvd_iff_tmod_eq_zero, Int.dvd_iff_emod_eq_zero]
  have h6 := toI (s := s)
  constructor
  · intro h
    have : s.toInt % 2 = 0 := h5.mp (by omega)
    omega
  · intro h
    have : s.toInt.tmod 2 = 0 := h5.mpr (by omega)
    omega
def mS (f : Nat → Int32) (i : Nat) : Int32 := stridesF (f (8 + 6 * i + 0)) (f 4) (mR f i)
theorem sp_mstrides {d : Nat} (hd : 3 ≤ d) {i : Nat} (hi : i < 8) {f : Nat → Int32} (h8 : ys8 f i) {M : ip_M} {n : Nat} {Φ : ip_P} (hA : mRow M f) (h : Φ (some (.int (mS f i))) M n) : ip_call tb d 154 [.ref 95, .int (nI i)] M n Φ := by
  have hA0 := hA
  obtain ⟨⟨ak, tl, rc, td, x, h95⟩, h96⟩ := hA
  have w4 : vp_in 4 56 := nIin (i := 4) (N := 56) (by omega) (by omega)
  have d2 : ¬ (2 : Int32) = 0 := by decide
  unfold mS stridesF at h
  obtain ⟨d, rfl⟩ := ip_d1 (Nat.le_trans (by decide) hd)
  rw [cl_154]
  simp only [ip_loc, ip_ent, List.length_cons, List.length_nil, List.replicate_succ, List.replicate_zero, List.append_nil, List.nil_append, List.cons_append, Nat.zero_add, Nat.reduceAdd, Nat.reduceSub, Nat.reduceLeDiff, true_and, Nat.le_refl]
  refine ip_step rfl ?_
  simp only [e_ops, e_nil, e_LdI, e_LdL, e_LdA, e_StI, e_StL, e_StA, e_StN, e_Inc, e_I, e_L, e_Nul, e_Ref, e_Fmt, e_Dupint, e_Popint, e_Dupref, e_Popref, e_Dp2, e_BI, e_DI, e_BL, e_DL, e_SL, e_UI, e_IL, e_LI, e_CmpL, e_Get, e_Put, e_AldI, e_AldB, e_AldL, e_AldA, e_AstI, e_AstB, e_AstL, e_AstA, e_AstN, e_Len, e_New, e_NwA, e_Cal, e_CaV, e_isO, e_Max, e_Min, e_Obj, e_Cpy, e_Go, e_If, e_Cm, e_NuN, e_NuR, e_Sw, e_RI, e_RL, e_RV, e_fI, e_fL, e_fA, e_fO, e_fZ, e_clr, ip_clr, List.getElem?_cons_zero, List.getElem?_cons_succ, List.getElem?_nil, List.set_cons_zero, List.set_cons_succ, List.set_nil, Nat.add_one_sub_one, Nat.sub_self, Nat.zero_sub, List.length_cons, List.length_nil, List.length_set, List.take_succ_cons, List.take_zero, List.drop_succ_cons, List.drop_zero, List.reverse_cons, List.reverse_nil, List.nil_append, List.cons_append, List.append_nil, Option.toList_some, Option.toList_none, ip_up_same, ip_upup, if_true, if_false, ite_true, ite_false, true_and, and_true, and_self, true_or, or_true, Nat.zero_add, Nat.add_zero, Nat.le_refl, Nat.zero_le, reduceIte, reduceCtorEq, ne_eq, not_true_eq_false, not_false_eq_true, ip_nari, ip_narif, ip_narb0, ip_narb1, forall_const, Nat.reduceSub, Nat.reduceAdd, Nat.reduceLeDiff, Nat.reduceEqDiff, Nat.reduceLT, Nat.reduceMul, Int32.reduceLT, Int32.reduceLE, Int32.reduceToNatClampNeg, i10, i01, it01, it10, eq_self, ip_uh, h95, obM]
  refine sp_its (j := 0) (by omega) hi (by omega) hA0 ?_
  simp only [e_ops, e_nil, e_LdI, e_LdL, e_LdA, e_StI, e_StL, e_StA, e_StN, e_Inc, e_I, e_L, e_Nul, e_Ref, e_Fmt, e_Dupint, e_Popint, e_Dupref, e_Popref, e_Dp2, e_BI, e_DI, e_BL, e_DL, e_SL, e_UI, e_IL, e_LI, e_CmpL, e_Get, e_Put, e_AldI, e_AldB, e_AldL, e_AldA, e_AstI, e_AstB, e_AstL, e_AstA, e_AstN, e_Len, e_New, e_NwA, e_Cal, e_CaV, e_isO, e_Max, e_Min, e_Obj, e_Cpy, e_Go, e_If, e_Cm, e_NuN, e_NuR, e_Sw, e_RI, e_RL, e_RV, e_fI, e_fL, e_fA, e_fO, e_fZ, e_clr, ip_clr, List.getElem?_cons_zero, List.getElem?_cons_succ, List.getElem?_nil, List.set_cons_zero, List.set_cons_succ, List.set_nil, Nat.add_one_sub_one, Nat.sub_self, Nat.zero_sub, List.length_cons, List.length_nil, List.length_set, List.take_succ_cons, List.take_zero, List.drop_succ_cons, List.drop_zero, List.reverse_cons, List.reverse_nil, List.nil_append, List.cons_append, List.append_nil, Option.toList_some, Option.toList_none, ip_up_same, ip_upup, if_true, if_false, ite_true, ite_false, true_and, and_true, and_self, true_or, or_true, Nat.zero_add, Nat.add_zero, Nat.le_refl, Nat.zero_le, reduceIte, reduceCtorEq, ne_eq, not_true_eq_false, not_false_eq_true, ip_nari, ip_narif, ip_narb0, ip_narb1, forall_const, Nat.reduceSub, Nat.reduceAdd, Nat.reduceLeDiff, Nat.reduceEqDiff, Nat.reduceLT, Nat.reduceMul, Int32.reduceLT, Int32.reduceLE, Int32.reduceToNatClampNeg, i10, i01, it01, it10, eq_self, ip_uh]
  generalize f (8 + 6 * i + 0) = k at *
  unfold ip_sw
  by_cases k1 : k = 1
  · rw [if_pos k1] at h ⊢
    refine ip_step rfl ?_
    simp only [e_ops, e_nil, e_LdI, e_LdL, e_LdA, e_StI, e_StL, e_StA, e_StN, e_Inc, e_I, e_L, e_Nul, e_Ref, e_Fmt, e_Dupint, e_Popint, e_Dupref, e_Popref, e_Dp2, e_BI, e_DI, e_BL, e_DL, e_SL, e_UI, e_IL, e_LI, e_CmpL, e_Get, e_Put, e_AldI, e_AldB, e_AldL, e_AldA, e_AstI, e_AstB, e_AstL, e_AstA, e_AstN, e_Len, e_New, e_NwA, e_Cal, e_CaV, e_isO, e_Max, e_Min, e_Obj, e_Cpy, e_Go, e_If, e_Cm, e_NuN, e_NuR, e_Sw, e_RI, e_RL, e_RV, e_fI, e_fL, e_fA, e_fO, e_fZ, e_clr, ip_clr, List.getElem?_cons_zero, List.getElem?_cons_succ, List.getElem?_nil, List.set_cons_zero, List.set_cons_succ, List.set_nil, Nat.add_one_sub_one, Nat.sub_self, Nat.zero_sub, List.length_cons, List.length_nil, List.length_set, List.take_succ_cons, List.take_zero, List.drop_succ_cons, List.drop_zero, List.reverse_cons, List.reverse_nil, List.nil_append, List.cons_append, List.append_nil, Option.toList_some, Option.toList_none, ip_up_same, ip_upup, if_true, if_false, ite_true, ite_false, true_and, and_true, and_self, true_or, or_true, Nat.zero_add, Nat.add_zero, Nat.le_refl, Nat.zero_le, reduceIte, reduceCtorEq, ne_eq, not_true_eq_false, not_false_eq_true, ip_nari, ip_narif, ip_narb0, ip_narb1, forall_const, Nat.reduceSub, Nat.reduceAdd, Nat.reduceLeDiff, Nat.reduceEqDiff, Nat.reduceLT, Nat.reduceMul, Int32.reduceLT, Int32.reduceLE, Int32.reduceToNatClampNeg, i10, i01, it01, it10, eq_self, ip_uh]
    exact h
  rw [if_neg k1] at h ⊢
  unfold ip_sw
  by_cases k2 : k = 2
  · rw [if_pos k2] at h ⊢
    refine ip_step rfl ?_
    simp only [e_ops, e_nil, e_LdI, e_LdL, e_LdA, e_StI, e_StL, e_StA, e_StN, e_Inc, e_I, e_L, e_Nul, e_Ref, e_Fmt, e_Dupint, e_Popint, e_Dupref, e_Popref, e_Dp2, e_BI, e_DI, e_BL, e_DL, e_SL, e_UI, e_IL, e_LI, e_CmpL, e_Get, e_Put, e_AldI, e_AldB, e_AldL, e_AldA, e_AstI, e_AstB, e_AstL, e_AstA, e_AstN, e_Len, e_New, e_NwA, e_Cal, e_CaV, e_isO, e_Max, e_Min, e_Obj, e_Cpy, e_Go, e_If, e_Cm, e_NuN, e_NuR, e_Sw, e_RI, e_RL, e_RV, e_fI, e_fL, e_fA, e_fO, e_fZ, e_clr, ip_clr, List.getElem?_cons_zero, List.getElem?_cons_succ, List.getElem?_nil, List.set_cons_zero, List.set_cons_succ, List.set_nil, Nat.add_one_sub_one, Nat.sub_self, Nat.zero_sub, List.length_cons, List.length_nil, List.length_set, List.take_succ_cons, List.take_zero, List.drop_succ_cons, List.drop_zero, List.reverse_cons, List.reverse_nil, List.nil_append, List.cons_append, List.append_nil, Option.toList_some, Option.toList_none, ip_up_same, ip_upup, if_true, if_false, ite_true, ite_false, true_and, and_true, and_self, true_or, or_true, Nat.zero_add, Nat.add_zero, Nat.le_refl, Nat.zero_le, reduceIte, reduceCtorEq, ne_eq, not_true_eq_false, not_false_eq_true, ip_nari, ip_narif, ip_narb0, ip_narb1, forall_const, Nat.reduceSub, Nat.reduceAdd, Nat.reduceLeDiff, Nat.reduceEqDiff, Nat.reduceLT, Nat.reduceMul, Int32.reduceLT, Int32.reduceLE, Int32.reduceToNatClampNeg, i10, i01, it01, it10, eq_self, ip_uh]
    exact h
  rw [if_neg k2] at h ⊢
  unfold ip_sw
  by_cases k3 : k = 3
  · rw [if_pos k3] at h ⊢
    refine ip_step rfl ?_
    simp only [e_ops, e_nil, e_LdI, e_LdL, e_LdA, e_StI, e_StL, e_StA, e_StN, e_Inc, e_I, e_L, e_Nul, e_Ref, e_Fmt, e_Dupint, e_Popint, e_Dupref, e_Popref, e_Dp2, e_BI, e_DI, e_BL, e_DL, e_SL, e_UI, e_IL, e_LI, e_CmpL, e_Get, e_Put, e_AldI, e_AldB, e_AldL, e_AldA, e_AstI, e_AstB, e_AstL, e_AstA, e_AstN, e_Len, e_New, e_NwA, e_Cal, e_CaV, e_isO, e_Max, e_Min, e_Obj, e_Cpy, e_Go, e_If, e_Cm, e_NuN, e_NuR, e_Sw, e_RI, e_RL, e_RV, e_fI, e_fL, e_fA, e_fO, e_fZ, e_clr, ip_clr, List.getElem?_cons_zero, List.getElem?_cons_succ, List.getElem?_nil, List.set_cons_zero, List.set_cons_succ, List.set_nil, Nat.add_one_sub_one, Nat.sub_self, Nat.zero_sub, List.length_cons, List.length_nil, List.length_set, List.take_succ_cons, List.take_zero, List.drop_succ_cons, List.drop_zero, List.reverse_cons, List.reverse_nil, List.nil_append, List.cons_append, List.append_nil, Option.toList_some, Option.toList_none, ip_up_same, ip_upup, if_true, if_false, ite_true, ite_false, true_and, and_true, and_self, true_or, or_true, Nat.zero_add, Nat.add_zero, Nat.le_refl, Nat.zero_le, reduceIte, reduceCtorEq, ne_eq, not_true_eq_false, not_false_eq_true, ip_nari, ip_narif, ip_narb0, ip_narb1, forall_const, Nat.reduceSub, Nat.reduceAdd, Nat.reduceLeDiff, Nat.reduceEqDiff, Nat.reduceLT, Nat.reduceMul, Int32.reduceLT, Int32.reduceLE, Int32.reduceToNatClampNeg, i10, i01, it01, it10, eq_self, ip_uh, h95, obM, h96, iA, w4, d2]
    rw [par]
    refine ⟨fun hc => ?_, fun hc => ?_⟩
    · rw [if_pos hc] at h
      refine ip_step rfl ?_
      simp only [e_ops, e_nil, e_LdI, e_LdL, e_LdA, e_StI, e_StL, e_StA, e_StN, e_Inc, e_I, e_L, e_Nul, e_Ref, e_Fmt, e_Dupint, e_Popint, e_Dupref, e_Popref, e_Dp2, e_BI, e_DI, e_BL, e_DL, e_SL, e_UI, e_IL, e_LI, e_CmpL, e_Get, e_Put, e_AldI, e_AldB, e_AldL, e_AldA, e_AstI, e_AstB, e_AstL, e_AstA, e_AstN, e_Len, e_New, e_NwA, e_Cal, e_CaV, e_isO, e_Max, e_Min, e_Obj, e_Cpy, e_Go, e_If, e_Cm, e_NuN, e_NuR, e_Sw, e_RI, e_RL, e_RV, e_fI, e_fL, e_fA, e_fO, e_fZ, e_clr, ip_clr, List.getElem?_cons_zero, List.getElem?_cons_succ, List.getElem?_nil, List.set_cons_zero, List.set_cons_succ, List.set_nil, Nat.add_one_sub_one, Nat.sub_self, Nat.zero_sub, List.length_cons, List.length_nil, List.length_set, List.take_succ_cons, List.take_zero, List.drop_succ_cons, List.drop_zero, List.reverse_cons, List.reverse_nil, List.nil_append, List.cons_append, List.append_nil, Option.toList_some, Option.toList_none, ip_up_same, ip_upup, if_true, if_false, ite_true, ite_false, true_and, and_true, and_self, true_or, or_true, Nat.zero_add, Nat.add_zero, Nat.le_refl, Nat.zero_le, reduceIte, reduceCtorEq, ne_eq, not_true_eq_false, not_false_eq_true, ip_nari, ip_narif, ip_narb0, ip_narb1, forall_const, Nat.reduceSub, Nat.reduceAdd, Nat.reduceLeDiff, Nat.reduceEqDiff, Nat.reduceLT, Nat.reduceMul, Int32.reduceLT, Int32.reduceLE, Int32.reduceToNatClampNeg, i10, i01, it01, it10, eq_self, ip_uh]
      refine ip_step rfl ?_
      simp only [e_ops, e_nil, e_LdI, e_LdL, e_LdA, e_StI, e_StL, e_StA, e_StN, e_Inc, e_I, e_L, e_Nul, e_Ref, e_Fmt, e_Dupint, e_Popint, e_Dupref, e_Popref, e_Dp2, e_BI, e_DI, e_BL, e_DL, e_SL, e_UI, e_IL, e_LI, e_CmpL, e_Get, e_Put, e_AldI, e_AldB, e_AldL, e_AldA, e_AstI, e_AstB, e_AstL, e_AstA, e_AstN, e_Len, e_New, e_NwA, e_Cal, e_CaV, e_isO, e_Max, e_Min, e_Obj, e_Cpy, e_Go, e_If, e_Cm, e_NuN, e_NuR, e_Sw, e_RI, e_RL, e_RV, e_fI, e_fL, e_fA, e_fO, e_fZ, e_clr, ip_clr, List.getElem?_cons_zero, List.getElem?_cons_succ, List.getElem?_nil, List.set_cons_zero, List.set_cons_succ, List.set_nil, Nat.add_one_sub_one, Nat.sub_self, Nat.zero_sub, List.length_cons, List.length_nil, List.length_set, List.take_succ_cons, List.take_zero, List.drop_succ_cons, List.drop_zero, List.reverse_cons, List.reverse_nil, List.nil_append, List.cons_append, List.append_nil, Option.toList_some, Option.toList_none, ip_up_same, ip_upup, if_true, if_false, ite_true, ite_false, true_and, and_true, and_self, true_or, or_true, Nat.zero_add, Nat.add_zero, Nat.le_refl, Nat.zero_le, reduceIte, reduceCtorEq, ne_eq, not_true_eq_false, not_false_eq_true, ip_nari, ip_narif, ip_narb0, ip_narb1, forall_const, Nat.reduceSub, Nat.reduceAdd, Nat.reduceLeDiff, Nat.reduceEqDiff, Nat.reduceLT, Nat.reduceMul, Int32.reduceLT, Int32.reduceLE, Int32.reduceToNatClampNeg, i10, i01, it01, it10, eq_self, ip_uh]
      exact h
    · rw [if_neg hc] at h
      refine ip_step rfl ?_
      simp only [e_ops, e_nil, e_LdI, e_LdL, e_LdA, e_StI, e_StL, e_StA, e_StN, e_Inc, e_I, e_L, e_Nul, e_Ref, e_Fmt, e_Dupint, e_Popint, e_Dupref, e_Popref, e_Dp2, e_BI, e_DI, e_BL, e_DL, e_SL, e_UI, e_IL, e_LI, e_CmpL, e_Get, e_Put, e_AldI, e_AldB, e_AldL, e_AldA, e_AstI, e_AstB, e_AstL, e_AstA, e_AstN, e_Len, e_New, e_NwA, e_Cal, e_CaV, e_isO, e_Max, e_Min, e_Obj, e_Cpy, e_Go, e_If, e_Cm, e_NuN, e_NuR, e_Sw, e_RI, e_RL, e_RV, e_fI, e_fL, e_fA, e_fO, e_fZ, e_clr, ip_clr, List.getElem?_cons_zero, List.getElem?_cons_succ, List.getElem?_nil, List.set_cons_zero, List.set_cons_succ, List.set_nil, Nat.add_one_sub_one, Nat.sub_self, Nat.zero_sub, List.length_cons, List.length_nil, List.length_set, List.take_succ_cons, List.take_zero, List.drop_succ_cons, List.drop_zero, List.reverse_cons, List.reverse_nil, List.nil_append, List.cons_append, List.append_nil, Option.toList_some, Option.toList_none, ip_up_same, ip_upup, if_true, if_false, ite_true, ite_false, true_and, and_true, and_self, true_or, or_true, Nat.zero_add, Nat.add_zero, Nat.le_refl, Nat.zero_le, reduceIte, reduceCtorEq, ne_eq, not_true_eq_false, not_false_eq_true, ip_nari, ip_narif, ip_narb0, ip_narb1, forall_const, Nat.reduceSub, Nat.reduceAdd, Nat.reduceLeDiff, Nat.reduceEqDiff, Nat.reduceLT, Nat.reduceMul, Int32.reduceLT, Int32.reduceLE, Int32.reduceToNatClampNeg, i10, i01, it01, it10, eq_self, ip_uh]
      refine ip_step rfl ?_
      simp only [e_ops, e_nil, e_LdI, e_LdL, e_LdA, e_StI, e_StL, e_StA, e_StN, e_Inc, e_I, e_L, e_Nul, e_Ref, e_Fmt, e_Dupint, e_Popint, e_Dupref, e_Popref, e_Dp2, e_BI, e_DI, e_BL, e_DL, e_SL, e_UI, e_IL, e_LI, e_CmpL, e_Get, e_Put, e_AldI, e_AldB, e_AldL, e_AldA, e_AstI, e_AstB, e_AstL, e_AstA, e_AstN, e_Len, e_New, e_NwA, e_Cal, e_CaV, e_isO, e_Max, e_Min, e_Obj, e_Cpy, e_Go, e_If, e_Cm, e_NuN, e_NuR, e_Sw, e_RI, e_RL, e_RV, e_fI, e_fL, e_fA, e_fO, e_fZ, e_clr, ip_clr, List.getElem?_cons_zero, List.getElem?_cons_succ, List.getElem?_nil, List.set_cons_zero, List.set_cons_succ, List.set_nil, Nat.add_one_sub_one, Nat.sub_self, Nat.zero_sub, List.length_cons, List.length_nil, List.length_set, List.take_succ_cons, List.take_zero, List.drop_succ_cons, List.drop_zero, List.reverse_cons, List.reverse_nil, List.nil_append, List.cons_append, List.append_nil, Option.toList_some, Option.toList_none, ip_up_same, ip_upup, if_true, if_false, ite_true, ite_false, true_and, and_true, and_self, true_or, or_true, Nat.zero_add, Nat.add_zero, Nat.le_refl, Nat.zero_le, reduceIte, reduceCtorEq, ne_eq, not_true_eq_false, not_false_eq_true, ip_nari, ip_narif, ip_narb0, ip_narb1, forall_const, Nat.reduceSub, Nat.reduceAdd, Nat.reduceLeDiff, Nat.reduceEqDiff, Nat.reduceLT, Nat.reduceMul, Int32.reduceLT, Int32.reduceLE, Int32.reduceToNatClampNeg, i10, i01, it01, it10, eq_self, ip_uh]
      exact h
  rw [if_neg k3] at h ⊢
  unfold ip_sw
  by_cases k4 : k = 4
  · rw [if_pos k4] at h ⊢
    refine ip_step rfl ?_
    simp only [e_ops, e_nil, e_LdI, e_LdL, e_LdA, e_StI, e_StL, e_StA, e_StN, e_Inc, e_I, e_L, e_Nul, e_Ref, e_Fmt, e_Dupint, e_Popint, e_Dupref, e_Popref, e_Dp2, e_BI, e_DI, e_BL, e_DL, e_SL, e_UI, e_IL, e_LI, e_CmpL, e_Get, e_Put, e_AldI, e_AldB, e_AldL, e_AldA, e_AstI, e_AstB, e_AstL, e_AstA, e_AstN, e_Len, e_New, e_NwA, e_Cal, e_CaV, e_isO, e_Max, e_Min, e_Obj, e_Cpy, e_Go, e_If, e_Cm, e_NuN, e_NuR, e_Sw, e_RI, e_RL, e_RV, e_fI, e_fL, e_fA, e_fO, e_fZ, e_clr, ip_clr, List.getElem?_cons_zero, List.getElem?_cons_succ, List.getElem?_nil, List.set_cons_zero, List.set_cons_succ, List.set_nil, Nat.add_one_sub_one, Nat.sub_self, Nat.zero_sub, List.length_cons, List.length_nil, List.length_set, List.take_succ_cons, List.take_zero, List.drop_succ_cons, List.drop_zero, List.reverse_cons, List.reverse_nil, List.nil_append, List.cons_append, List.append_nil, Option.toList_some, Option.toList_none, ip_up_same, ip_upup, if_true, if_false, ite_true, ite_false, true_and, and_true, and_self, true_or, or_true, Nat.zero_add, Nat.add_zero, Nat.le_refl, Nat.zero_le, reduceIte, reduceCtorEq, ne_eq, not_true_eq_false, not_false_eq_true, ip_nari, ip_narif, ip_narb0, ip_narb1, forall_const, Nat.reduceSub, Nat.reduceAdd, Nat.reduceLeDiff, Nat.reduceEqDiff, Nat.reduceLT, Nat.reduceMul, Int32.reduceLT, Int32.reduceLE, Int32.reduceToNatClampNeg, i10, i01, it01, it10, eq_self, ip_uh, h95, obM]
    refine sp_mright (by omega) hi h8 hA0 ?_
    simp only [e_ops, e_nil, e_LdI, e_LdL, e_LdA, e_StI, e_StL, e_StA, e_StN, e_Inc, e_I, e_L, e_Nul, e_Ref, e_Fmt, e_Dupint, e_Popint, e_Dupref, e_Popref, e_Dp2, e_BI, e_DI, e_BL, e_DL, e_SL, e_UI, e_IL, e_LI, e_CmpL, e_Get, e_Put, e_AldI, e_AldB, e_AldL, e_AldA, e_AstI, e_AstB, e_AstL, e_AstA, e_AstN, e_Len, e_New, e_NwA, e_Cal, e_CaV, e_isO, e_Max, e_Min, e_Obj, e_Cpy, e_Go, e_If, e_Cm, e_NuN, e_NuR, e_Sw, e_RI, e_RL, e_RV, e_fI, e_fL, e_fA, e_fO, e_fZ, e_clr, ip_clr, List.getElem?_cons_zero, List.getElem?_cons_succ, List.getElem?_nil, List.set_cons_zero, List.set_cons_succ, List.set_nil, Nat.add_one_sub_one, Nat.sub_self, Nat.zero_sub, List.length_cons, List.length_nil, List.length_set, List.take_succ_cons, List.take_zero, List.drop_succ_cons, List.drop_zero, List.reverse_cons, List.reverse_nil, List.nil_append, List.cons_append, List.append_nil, Option.toList_some, Option.toList_none, ip_up_same, ip_upup, if_true, if_false, ite_true, ite_false, true_and, and_true, and_self, true_or, or_true, Nat.zero_add, Nat.add_zero, Nat.le_refl, Nat.zero_le, reduceIte, reduceCtorEq, ne_eq, not_true_eq_false, not_false_eq_true, ip_nari, ip_narif, ip_narb0, ip_narb1, forall_const, Nat.reduceSub, Nat.reduceAdd, Nat.reduceLeDiff, Nat.reduceEqDiff, Nat.reduceLT, Nat.reduceMul, Int32.reduceLT, Int32.reduceLE, Int32.reduceToNatClampNeg, i10, i01, it01, it10, eq_self, ip_uh]
    exact h
  rw [if_neg k4] at h ⊢
  unfold ip_sw
  refine ip_step rfl ?_
  simp only [e_ops, e_nil, e_LdI, e_LdL, e_LdA, e_StI, e_StL, e_StA, e_StN, e_Inc, e_I, e_L, e_Nul, e_Ref, e_Fmt, e_Dupint, e_Popint, e_Dupref, e_Popref, e_Dp2, e_BI, e_DI, e_BL, e_DL, e_SL, e_UI, e_IL, e_LI, e_CmpL, e_Get, e_Put, e_AldI, e_AldB, e_AldL, e_AldA, e_AstI, e_AstB, e_AstL, e_AstA, e_AstN, e_Len, e_New, e_NwA, e_Cal, e_CaV, e_isO, e_Max, e_Min, e_Obj, e_Cpy, e_Go, e_If, e_Cm, e_NuN, e_NuR, e_Sw, e_RI, e_RL, e_RV, e_fI, e_fL, e_fA, e_fO, e_fZ, e_clr, ip_clr, List.getElem?_cons_zero, List.getElem?_cons_succ, List.getElem?_nil, List.set_cons_zero, List.set_cons_succ, List.set_nil, Nat.add_one_sub_one, Nat.sub_self, Nat.zero_sub, List.length_cons, List.length_nil, List.length_set, List.take_succ_cons, List.take_zero, List.drop_succ_cons, List.drop_zero, List.reverse_cons, List.reverse_nil, List.nil_append, List.cons_append, List.append_nil, Option.toList_some, Option.toList_none, ip_up_same, ip_upup, if_true, if_false, ite_true, ite_false, true_and, and_true, and_self, true_or, or_true, Nat.zero_add, Nat.add_zero, Nat.le_refl, Nat.zero_le, reduceIte, reduceCtorEq, ne_eq, not_true_eq_false, not_false_eq_true, ip_nari, ip_narif, ip_narb0, ip_narb1, forall_const, Nat.reduceSub, Nat.reduceAdd, Nat.reduceLeDiff, Nat.reduceEqDiff, Nat.reduceLT, Nat.reduceMul, Int32.reduceLT, Int32.reduceLE, Int32.reduceToNatClampNeg, i10, i01, it01, it10, eq_self, ip_uh]
  exact h
