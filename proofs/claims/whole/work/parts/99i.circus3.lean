theorem lp_circ {d : Nat} (hd : 7 ≤ d) {M0 : ip_M} {ak : Int32} {l rc td : Nat} {f g : Nat → Int32} (hT : tpA M0 f g l) {n : Nat} {Φ : ip_P} : ∀ (j : Nat) (R : Rg) (t : St) (M : ip_M), (t.2 = -1 → l ≤ t.1.2.1 + j) → tkG f l t.1 → clP M0 ak l rc td f t R M → (∀ M', clP M0 ak l rc td f (rdAll f l j R t).2 (rdAll f l j R t).1 M' → ip_Ev (T_X6_circus (ip_call tb d)) Φ 4 ([some (.ref 95)], [], M', n, 0, 0)) →
    ip_Ev (T_X6_circus (ip_call tb d)) Φ 1 ([some (.ref 95)], [], M, n, 0, 0) := by
  have hl := hT.1
  intro j
  induction j with
  | zero =>
    intro R t M hj hG hC h
    have h4 := h M hC
    obtain ⟨so, be, en, wd, va, go, fr, hA, hM, hR⟩ := hC
    obtain ⟨⟨y, h95⟩, _⟩ := hA
    by_cases ht : t.2 = -1
    · obtain ⟨rfl, hm⟩ := hM.1 ht
      have t0 : t.1.1 = 0 := Classical.not_not.mp (fun z => by
        have a := hG.2.2.2.2.1 z
        have b := hG.1.2.2
        have c := hj ht
        omega)
      have hs : so = 0 := by rw [hm.1, t0]; rfl
      refine ip_step rfl ?_
      simp only [e_ops, e_nil, e_LdI, e_LdL, e_LdA, e_StI, e_StL, e_StA, e_StN, e_Inc, e_I, e_L, e_Nul, e_Ref, e_Fmt, e_Dupint, e_Popint, e_Dupref, e_Popref, e_Dp2, e_BI, e_DI, e_BL, e_DL, e_SL, e_UI, e_IL, e_LI, e_CmpL, e_Get, e_Put, e_AldI, e_AldB, e_AldL, e_AldA, e_AstI, e_AstB, e_AstL, e_AstA, e_AstN, e_Len, e_New, e_NwA, e_Cal, e_CaV, e_isO, e_Max, e_Min, e_Obj, e_Cpy, e_Go, e_If, e_Cm, e_NuN, e_NuR, e_Sw, e_RI, e_RL, e_RV, e_fI, e_fL, e_fA, e_fO, e_fZ, e_clr, ip_clr, List.getElem?_cons_zero, List.getElem?_cons_succ, List.getElem?_nil, List.set_cons_zero, List.set_cons_succ, List.set_nil, Nat.add_one_sub_one, Nat.sub_self, Nat.zero_sub, List.length_cons, List.length_nil, List.length_set, List.take_succ_cons, List.take_zero, List.drop_succ_cons, List.drop_zero, List.reverse_cons, List.reverse_nil, List.nil_append, List.cons_append, List.append_nil, Option.toList_some, Option.toList_none, ip_up_same, ip_upup, if_true, if_false, ite_true, ite_false, true_and, and_true, and_self, true_or, or_true, Nat.zero_add, Nat.add_zero, Nat.le_refl, Nat.zero_le, reduceIte, reduceCtorEq, ne_eq, not_true_eq_false, not_false_eq_true, ip_nari, ip_narif, ip_narb0, ip_narb1, forall_const, Nat.reduceSub, Nat.reduceAdd, Nat.reduceLeDiff, Nat.reduceEqDiff, Nat.reduceLT, Nat.reduceMul, Int32.reduceLT, Int32.reduceLE, Int32.reduceToNatClampNeg, i10, i01, it01, it10, eq_self, ip_uh, h95, obM]
      simp only [true_implies, false_implies, and_true, true_and]
      refine ip_step rfl ?_
      simp only [e_ops, e_nil, e_LdI, e_LdL, e_LdA, e_StI, e_StL, e_StA, e_StN, e_Inc, e_I, e_L, e_Nul, e_Ref, e_Fmt, e_Dupint, e_Popint, e_Dupref, e_Popref, e_Dp2, e_BI, e_DI, e_BL, e_DL, e_SL, e_UI, e_IL, e_LI, e_CmpL, e_Get, e_Put, e_AldI, e_AldB, e_AldL, e_AldA, e_AstI, e_AstB, e_AstL, e_AstA, e_AstN, e_Len, e_New, e_NwA, e_Cal, e_CaV, e_isO, e_Max, e_Min, e_Obj, e_Cpy, e_Go, e_If, e_Cm, e_NuN, e_NuR, e_Sw, e_RI, e_RL, e_RV, e_fI, e_fL, e_fA, e_fO, e_fZ, e_clr, ip_clr, List.getElem?_cons_zero, List.getElem?_cons_succ, List.getElem?_nil, List.set_cons_zero, List.set_cons_succ, List.set_nil, Nat.add_one_sub_one, Nat.sub_self, Nat.zero_sub, List.length_cons, List.length_nil, List.length_set, List.take_succ_cons, List.take_zero, List.drop_succ_cons, List.drop_zero, List.reverse_cons, List.reverse_nil, List.nil_append, List.cons_append, List.append_nil, Option.toList_some, Option.toList_none, ip_up_same, ip_upup, if_true, if_false, ite_true, ite_false, true_and, and_true, and_self, true_or, or_true, Nat.zero_add, Nat.add_zero, Nat.le_refl, Nat.zero_le, reduceIte, reduceCtorEq, ne_eq, not_true_eq_false, not_false_eq_true, ip_nari, ip_narif, ip_narb0, ip_narb1, forall_const, Nat.reduceSub, Nat.reduceAdd, Nat.reduceLeDiff, Nat.reduceEqDiff, Nat.reduceLT, Nat.reduceMul, Int32.reduceLT, Int32.reduceLE, Int32.reduceToNatClampNeg, i10, i01, it01, it10, eq_self, ip_uh, h95, obM, hs]
      simp only [true_implies, false_implies, and_true, true_and]
      exact h4
    · obtain ⟨rfl, _⟩ := hM.2 ht
      refine ip_step rfl ?_
      simp only [e_ops, e_nil, e_LdI, e_LdL, e_LdA, e_StI, e_StL, e_StA, e_StN, e_Inc, e_I, e_L, e_Nul, e_Ref, e_Fmt, e_Dupint, e_Popint, e_Dupref, e_Popref, e_Dp2, e_BI, e_DI, e_BL, e_DL, e_SL, e_UI, e_IL, e_LI, e_CmpL, e_Get, e_Put, e_AldI, e_AldB, e_AldL, e_AldA, e_AstI, e_AstB, e_AstL, e_AstA, e_AstN, e_Len, e_New, e_NwA, e_Cal, e_CaV, e_isO, e_Max, e_Min, e_Obj, e_Cpy, e_Go, e_If, e_Cm, e_NuN, e_NuR, e_Sw, e_RI, e_RL, e_RV, e_fI, e_fL, e_fA, e_fO, e_fZ, e_clr, ip_clr, List.getElem?_cons_zero, List.getElem?_cons_succ, List.getElem?_nil, List.set_cons_zero, List.set_cons_succ, List.set_nil, Nat.add_one_sub_one, Nat.sub_self, Nat.zero_sub, List.length_cons, List.length_nil, List.length_set, List.take_succ_cons, List.take_zero, List.drop_succ_cons, List.drop_zero, List.reverse_cons, List.reverse_nil, List.nil_append, List.cons_append, List.append_nil, Option.toList_some, Option.toList_none, ip_up_same, ip_upup, if_true, if_false, ite_true, ite_false, true_and, and_true, and_self, true_or, or_true, Nat.zero_add, Nat.add_zero, Nat.le_refl, Nat.zero_le, reduceIte, reduceCtorEq, ne_eq, not_true_eq_false, not_false_eq_true, ip_nari, ip_narif, ip_narb0, ip_narb1, forall_const, Nat.reduceSub, Nat.reduceAdd, Nat.reduceLeDiff, Nat.reduceEqDiff, Nat.reduceLT, Nat.reduceMul, Int32.reduceLT, Int32.reduceLE, Int32.reduceToNatClampNeg, i10, i01, it01, it10, eq_self, ip_uh, h95, obM]
      simp only [true_implies, false_implies, and_true, true_and]
      exact h4
  | succ j ih =>
    intro R t M hj hG hC h
    have hC0 := hC
    obtain ⟨so, be, en, wd, va, go, fr, hA, hM, hR⟩ := hC
    have hA0 := hA
    obtain ⟨⟨y, h95⟩, _⟩ := hA
    unfold rdAll at h
    by_cases ht : t.2 = -1
    · obtain ⟨rfl, hm⟩ := hM.1 ht
      obtain ⟨hR1, ho⟩ := hR ht
      have k3 := hG.1.1
      have hs0 : (so = 0) ↔ t.1.1 = 0 := by
        rw [hm.1]
        exact Iff.of_eq (nIeq (i := t.1.1) (j := 0) (by omega) (by omega))
      refine ip_step rfl ?_
      simp only [e_ops, e_nil, e_LdI, e_LdL, e_LdA, e_StI, e_StL, e_StA, e_StN, e_Inc, e_I, e_L, e_Nul, e_Ref, e_Fmt, e_Dupint, e_Popint, e_Dupref, e_Popref, e_Dp2, e_BI, e_DI, e_BL, e_DL, e_SL, e_UI, e_IL, e_LI, e_CmpL, e_Get, e_Put, e_AldI, e_AldB, e_AldL, e_AldA, e_AstI, e_AstB, e_AstL, e_AstA, e_AstN, e_Len, e_New, e_NwA, e_Cal, e_CaV, e_isO, e_Max, e_Min, e_Obj, e_Cpy, e_Go, e_If, e_Cm, e_NuN, e_NuR, e_Sw, e_RI, e_RL, e_RV, e_fI, e_fL, e_fA, e_fO, e_fZ, e_clr, ip_clr, List.getElem?_cons_zero, List.getElem?_cons_succ, List.getElem?_nil, List.set_cons_zero, List.set_cons_succ, List.set_nil, Nat.add_one_sub_one, Nat.sub_self, Nat.zero_sub, List.length_cons, List.length_nil, List.length_set, List.take_succ_cons, List.take_zero, List.drop_succ_cons, List.drop_zero, List.reverse_cons, List.reverse_nil, List.nil_append, List.cons_append, List.append_nil, Option.toList_some, Option.toList_none, ip_up_same, ip_upup, if_true, if_false, ite_true, ite_false, true_and, and_true, and_self, true_or, or_true, Nat.zero_add, Nat.add_zero, Nat.le_refl, Nat.zero_le, reduceIte, reduceCtorEq, ne_eq, not_true_eq_false, not_false_eq_true, ip_nari, ip_narif, ip_narb0, ip_narb1, forall_const, Nat.reduceSub, Nat.reduceAdd, Nat.reduceLeDiff, Nat.reduceEqDiff, Nat.reduceLT, Nat.reduceMul, Int32.reduceLT, Int32.reduceLE, Int32.reduceToNatClampNeg, i10, i01, it01, it10, eq_self, ip_uh, h95, obM]
      simp only [true_implies, false_implies, and_true, true_and]
      refine ip_step rfl ?_
      simp only [e_ops, e_nil, e_LdI, e_LdL, e_LdA, e_StI, e_StL, e_StA, e_StN, e_Inc, e_I, e_L, e_Nul, e_Ref, e_Fmt, e_Dupint, e_Popint, e_Dupref, e_Popref, e_Dp2, e_BI, e_DI, e_BL, e_DL, e_SL, e_UI, e_IL, e_LI, e_CmpL, e_Get, e_Put, e_AldI, e_AldB, e_AldL, e_AldA, e_AstI, e_AstB, e_AstL, e_AstA, e_AstN, e_Len, e_New, e_NwA, e_Cal, e_CaV, e_isO, e_Max, e_Min, e_Obj, e_Cpy, e_Go, e_If, e_Cm, e_NuN, e_NuR, e_Sw, e_RI, e_RL, e_RV, e_fI, e_fL, e_fA, e_fO, e_fZ, e_clr, ip_clr, List.getElem?_cons_zero, List.getElem?_cons_succ, List.getElem?_nil, List.set_cons_zero, List.set_cons_succ, List.set_nil, Nat.add_one_sub_one, Nat.sub_self, Nat.zero_sub, List.length_cons, List.length_nil, List.length_set, List.take_succ_cons, List.take_zero, List.drop_succ_cons, List.drop_zero, List.reverse_cons, List.reverse_nil, List.nil_append, List.cons_append, List.append_nil, Option.toList_some, Option.toList_none, ip_up_same, ip_upup, if_true, if_false, ite_true, ite_false, true_and, and_true, and_self, true_or, or_true, Nat.zero_add, Nat.add_zero, Nat.le_refl, Nat.zero_le, reduceIte, reduceCtorEq, ne_eq, not_true_eq_false, not_false_eq_true, ip_nari, ip_narif, ip_narb0, ip_narb1, forall_const, Nat.reduceSub, Nat.reduceAdd, Nat.reduceLeDiff, Nat.reduceEqDiff, Nat.reduceLT, Nat.reduceMul, Int32.reduceLT, Int32.reduceLE, Int32.reduceToNatClampNeg, i10, i01, it01, it10, eq_self, ip_uh, h95, obM]
      refine ⟨fun c => ?_, fun c => ?_⟩
      · rw [if_neg (fun z => z.1 (hs0.mp c))] at h
        exact h M hC0
      · rw [if_pos ⟨fun z => c (hs0.mpr z), ht⟩] at h
        obtain ⟨g1, g2⟩ := rdOne_G (R := R) hl hG
        refine ip_step rfl ?_
        simp only [e_ops, e_nil, e_LdI, e_LdL, e_LdA, e_StI, e_StL, e_StA, e_StN, e_Inc, e_I, e_L, e_Nul, e_Ref, e_Fmt, e_Dupint, e_Popint, e_Dupref, e_Popref, e_Dp2, e_BI, e_DI, e_BL, e_DL, e_SL, e_UI, e_IL, e_LI, e_CmpL, e_Get, e_Put, e_AldI, e_AldB, e_AldL, e_AldA, e_AstI, e_AstB, e_AstL, e_AstA, e_AstN, e_Len, e_New, e_NwA, e_Cal, e_CaV, e_isO, e_Max, e_Min, e_Obj, e_Cpy, e_Go, e_If, e_Cm, e_NuN, e_NuR, e_Sw, e_RI, e_RL, e_RV, e_fI, e_fL, e_fA, e_fO, e_fZ, e_clr, ip_clr, List.getElem?_cons_zero, List.getElem?_cons_succ, List.getElem?_nil, List.set_cons_zero, List.set_cons_succ, List.set_nil, Nat.add_one_sub_one, Nat.sub_self, Nat.zero_sub, List.length_cons, List.length_nil, List.length_set, List.take_succ_cons, List.take_zero, List.drop_succ_cons, List.drop_zero, List.reverse_cons, List.reverse_nil, List.nil_append, List.cons_append, List.append_nil, Option.toList_some, Option.toList_none, ip_up_same, ip_upup, if_true, if_false, ite_true, ite_false, true_and, and_true, and_self, true_or, or_true, Nat.zero_add, Nat.add_zero, Nat.le_refl, Nat.zero_le, reduceIte, reduceCtorEq, ne_eq, not_true_eq_false, not_false_eq_true, ip_nari, ip_narif, ip_narb0, ip_narb1, forall_const, Nat.reduceSub, Nat.reduceAdd, Nat.reduceLeDiff, Nat.reduceEqDiff, Nat.reduceLT, Nat.reduceMul, Int32.reduceLT, Int32.reduceLE, Int32.reduceToNatClampNeg, i10, i01, it01, it10, eq_self, ip_uh, h95, obM]
        refine sp_wantClause (by omega) hT hG ht hm hR1 ho hA0 (fun M' hc => ?_)
        simp only [e_ops, e_nil, e_LdI, e_LdL, e_LdA, e_StI, e_StL, e_StA, e_StN, e_Inc, e_I, e_L, e_Nul, e_Ref, e_Fmt, e_Dupint, e_Popint, e_Dupref, e_Popref, e_Dp2, e_BI, e_DI, e_BL, e_DL, e_SL, e_UI, e_IL, e_LI, e_CmpL, e_Get, e_Put, e_AldI, e_AldB, e_AldL, e_AldA, e_AstI, e_AstB, e_AstL, e_AstA, e_AstN, e_Len, e_New, e_NwA, e_Cal, e_CaV, e_isO, e_Max, e_Min, e_Obj, e_Cpy, e_Go, e_If, e_Cm, e_NuN, e_NuR, e_Sw, e_RI, e_RL, e_RV, e_fI, e_fL, e_fA, e_fO, e_fZ, e_clr, ip_clr, List.getElem?_cons_zero, List.getElem?_cons_succ, List.getElem?_nil, List.set_cons_zero, List.set_cons_succ, List.set_nil, Nat.add_one_sub_one, Nat.sub_self, Nat.zero_sub, List.length_cons, List.length_nil, List.length_set, List.take_succ_cons, List.take_zero, List.drop_succ_cons, List.drop_zero, List.reverse_cons, List.reverse_nil, List.nil_append, List.cons_append, List.append_nil, Option.toList_some, Option.toList_none, ip_up_same, ip_upup, if_true, if_false, ite_true, ite_false, true_and, and_true, and_self, true_or, or_true, Nat.zero_add, Nat.add_zero, Nat.le_refl, Nat.zero_le, reduceIte, reduceCtorEq, ne_eq, not_true_eq_false, not_false_eq_true, ip_nari, ip_narif, ip_narb0, ip_narb1, forall_const, Nat.reduceSub, Nat.reduceAdd, Nat.reduceLeDiff, Nat.reduceEqDiff, Nat.reduceLT, Nat.reduceMul, Int32.reduceLT, Int32.reduceLE, Int32.reduceToNatClampNeg, i10, i01, it01, it10, eq_self, ip_uh]
        refine ih _ _ M' (fun z => ?_) g1 hc h
        have := g2 z
        have := hj ht
        omega
    · obtain ⟨rfl, _⟩ := hM.2 ht
      rw [if_neg (fun z => ht z.2)] at h
      refine ip_step rfl ?_
      simp only [e_ops, e_nil, e_LdI, e_LdL, e_LdA, e_StI, e_StL, e_StA, e_StN, e_Inc, e_I, e_L, e_Nul, e_Ref, e_Fmt, e_Dupint, e_Popint, e_Dupref, e_Popref, e_Dp2, e_BI, e_DI, e_BL, e_DL, e_SL, e_UI, e_IL, e_LI, e_CmpL, e_Get, e_Put, e_AldI, e_AldB, e_AldL, e_AldA, e_AstI, e_AstB, e_AstL, e_AstA, e_AstN, e_Len, e_New, e_NwA, e_Cal, e_CaV, e_isO, e_Max, e_Min, e_Obj, e_Cpy, e_Go, e_If, e_Cm, e_NuN, e_NuR, e_Sw, e_RI, e_RL, e_RV, e_fI, e_fL, e_fA, e_fO, e_fZ, e_clr, ip_clr, List.getElem?_cons_zero, List.getElem?_cons_succ, List.getElem?_nil, List.set_cons_zero, List.set_cons_succ, List.set_nil, Nat.add_one_sub_one, Nat.sub_self, Nat.zero_sub, List.length_cons, List.length_nil, List.length_set, List.take_succ_cons, List.take_zero, List.drop_succ_cons, List.drop_zero, List.reverse_cons, List.reverse_nil, List.nil_append, List.cons_append, List.append_nil, Option.toList_some, Option.toList_none, ip_up_same, ip_upup, if_true, if_false, ite_true, ite_false, true_and, and_true, and_self, true_or, or_true, Nat.zero_add, Nat.add_zero, Nat.le_refl, Nat.zero_le, reduceIte, reduceCtorEq, ne_eq, not_true_eq_false, not_false_eq_true, ip_nari, ip_narif, ip_narb0, ip_narb1, forall_const, Nat.reduceSub, Nat.reduceAdd, Nat.reduceLeDiff, Nat.reduceEqDiff, Nat.reduceLT, Nat.reduceMul, Int32.reduceLT, Int32.reduceLE, Int32.reduceToNatClampNeg, i10, i01, it01, it10, eq_self, ip_uh, h95, obM]
      simp only [true_implies, false_implies, and_true, true_and]
      exact h M hC0
theorem rdOne_z {f : Nat → Int32} {l : Nat} {R : Rg} {t : St} : rZ (rdOne f l R t).1 = rZ R := by
  unfold rdOne rdOneA
  dsimp only
  split
  · rfl
  split
  · rfl
  split
  · rfl
  · rfl
theorem rdAll_z {f : Nat → Int32} {l : Nat} : ∀ (j : Nat) (R : Rg) (t : St), rZ (rdAll f l j R t).1 = rZ R := by
  intro j
  induction j with
  | zero => intro R t; rfl
  | succ j ih =>
    intro R t
    unfold rdAll
    split
    · rw [ih, rdOne_z]
    · rfl
theorem m_circus {d : Nat} (hd : 9 ≤ d) {S : Cs} (hl : cTl S ≤ 200) (hB : ∀ i, i < cTl S → okB (cBy S i)) {Rt : Rg} (hN : nrm Rt) {M : ip_M} {n : Nat} {Φ : ip_P} (hS : mdAt M S)
    (hf : ¬ (circP S Rt).2.2 = -1 → ∀ M', mdAt M' (stx S 0) → mFr M M' → Φ (some (.int (-100 - (circP S Rt).2.2))) M' n)
    (hk : (circP S Rt).2.2 = -1 → okR (circP S Rt).1 → ∀ M', mdAt M' (sob (sNow (stx S 0) (circP S Rt).1) (cAk S) 0) → mFr M M' → Φ (some (.int (nI (rW (circP S Rt).1)))) M' n) : ip_call tb d 143 [.ref 95] M n Φ := by
  obtain ⟨⟨⟨a1, a2, a3, a4, a5, a6, a7⟩, h95⟩, ⟨fr, h96, hR⟩, s3, ⟨⟨q97, h97⟩, s99, s102⟩, ⟨g, h100, hg⟩, s6, s7, s8, s9⟩ := hS
  have hT : tpA M (cBy S) g (cTl S) := ⟨hl, h100, hg, hB⟩
  obtain ⟨d, rfl⟩ := ip_d1 (Nat.le_trans (by decide) hd)
  rw [cl_143]
  simp only [ip_loc, ip_ent, List.length_cons, List.length_nil, List.replicate_succ, List.replicate_zero, List.append_nil, List.nil_append, List.cons_append, Nat.zero_add, Nat.reduceAdd, Nat.reduceSub, Nat.reduceLeDiff, true_and, Nat.le_refl]
  refine ip_step rfl ?_
  simp only [e_ops, e_nil, e_LdI, e_LdL, e_LdA, e_StI, e_StL, e_StA, e_StN, e_Inc, e_I, e_L, e_Nul, e_Ref, e_Fmt, e_Dupint, e_Popint, e_Dupref, e_Popref, e_Dp2, e_BI, e_DI, e_BL, e_DL, e_SL, e_UI, e_IL, e_LI, e_CmpL, e_Get, e_Put, e_AldI, e_AldB, e_AldL, e_AldA, e_AstI, e_AstB, e_AstL, e_AstA, e_AstN, e_Len, e_New, e_NwA, e_Cal, e_CaV, e_isO, e_Max, e_Min, e_Obj, e_Cpy, e_Go, e_If, e_Cm, e_NuN, e_NuR, e_Sw, e_RI, e_RL, e_RV, e_fI, e_fL, e_fA, e_fO, e_fZ, e_clr, ip_clr, List.getElem?_cons_zero, List.getElem?_cons_succ, List.getElem?_nil, List.set_cons_zero, List.set_cons_succ, List.set_nil, Nat.add_one_sub_one, Nat.sub_self, Nat.zero_sub, List.length_cons, List.length_nil, List.length_set, List.take_succ_cons, List.take_zero, List.drop_succ_cons, List.drop_zero, List.reverse_cons, List.reverse_nil, List.nil_append, List.cons_append, List.append_nil, Option.toList_some, Option.toList_none, ip_up_same, ip_upup, if_true, if_false, ite_true, ite_false, true_and, and_true, and_self, true_or, or_true, Nat.zero_add, Nat.add_zero, Nat.le_refl, Nat.zero_le, reduceIte, reduceCtorEq, ne_eq, not_true_eq_false, not_false_eq_true, ip_nari, ip_narif, ip_narb0, ip_narb1, forall_const, Nat.reduceSub, Nat.reduceAdd, Nat.reduceLeDiff, Nat.reduceEqDiff, Nat.reduceLT, Nat.reduceMul, Int32.reduceLT, Int32.reduceLE, Int32.reduceToNatClampNeg, i10, i01, it01, it10, eq_self, ip_uh, h95, obM]
  have u97 : ∀ c, ip_up M 95 c 97 = iA 56 q97 := fun c => (ip_up_ne (by omega)).trans h97
  refine sp_begins (by omega) (by omega) (u97 _) (fun M1 e e97 hz hF1 => ?_)
  have k95 : M1 95 = obM (cAk S) (cTl S) (cRc S) (cTd S) (a1, a2, 0, a4, a5, 1, a7) := (hF1 95 (by omega)).trans ip_up_same
  have f1 : fAt M M1 (cAk S) (cTl S) (cRc S) (cTd S) a1 a2 0 a4 a5 1 e := ⟨⟨a7, k95⟩, e97, fun k k1 k2 => (hF1 k k2).trans (ip_up_ne k1)⟩
  simp only [e_ops, e_nil, e_LdI, e_LdL, e_LdA, e_StI, e_StL, e_StA, e_StN, e_Inc, e_I, e_L, e_Nul, e_Ref, e_Fmt, e_Dupint, e_Popint, e_Dupref, e_Popref, e_Dp2, e_BI, e_DI, e_BL, e_DL, e_SL, e_UI, e_IL, e_LI, e_CmpL, e_Get, e_Put, e_AldI, e_AldB, e_AldL, e_AldA, e_AstI, e_AstB, e_AstL, e_AstA, e_AstN, e_Len, e_New, e_NwA, e_Cal, e_CaV, e_isO, e_Max, e_Min, e_Obj, e_Cpy, e_Go, e_If, e_Cm, e_NuN, e_NuR, e_Sw, e_RI, e_RL, e_RV, e_fI, e_fL, e_fA, e_fO, e_fZ, e_clr, ip_clr, List.getElem?_cons_zero, List.getElem?_cons_succ, List.getElem?_nil, List.set_cons_zero, List.set_cons_succ, List.set_nil, Nat.add_one_sub_one, Nat.sub_self, Nat.zero_sub, List.length_cons, List.length_nil, List.length_set, List.take_succ_cons, List.take_zero, List.drop_succ_cons, List.drop_zero, List.reverse_cons, List.reverse_nil, List.nil_append, List.cons_append, List.append_nil, Option.toList_some, Option.toList_none, ip_up_same, ip_upup, if_true, if_false, ite_true, ite_false, true_and, and_true, and_self, true_or, or_true, Nat.zero_add, Nat.add_zero, Nat.le_refl, Nat.zero_le, reduceIte, reduceCtorEq, ne_eq, not_true_eq_false, not_false_eq_true, ip_nari, ip_narif, ip_narb0, ip_narb1, forall_const, Nat.reduceSub, Nat.reduceAdd, Nat.reduceLeDiff, Nat.reduceEqDiff, Nat.reduceLT, Nat.reduceMul, Int32.reduceLT, Int32.reduceLE, Int32.reduceToNatClampNeg, i10, i01, it01, it10, eq_self, ip_uh]
  refine ⟨f1.isO, sp_madv (e := 0) (by omega) (by omega) (f1.tp hT) f1.r (fun M2 s2 b2 e2 w2 v2 hA2 hm2 => ?_)⟩
  have f2 := f1.st hA2
  obtain ⟨z0, z1, z2, z3, z4⟩ := hz
  have hG0 := (tokF_G (f := cBy S) (l := cTl S) (e := 0) (by omega)).1
  have oR : okR (setZ (clearR Rt) (rZ (cNow S))) := by
    obtain ⟨n1, n2, n3, n4, n5, n6⟩ := hN
    refine ⟨by show 0 ≤ 8; omega, is8_0, ⟨0, by show 0 < 2 ^ 0; decide, rfl⟩, ?_, ⟨fst_nrm, n2, n3, n4, n5, n6⟩, fun i hi => absurd hi (by show ¬ i < 0; omega)⟩
    intro k hk
    show ∃ v, v ≤ 99 ∧ fstL k = nI v
    have : k = 0 ∨ k = 1 ∨ k = 2 ∨ k = 3 := by omega
    rcases this with rfl | rfl | rfl | rfl
    · exact ⟨8, by omega, rfl⟩
    · exact ⟨3, by omega, rfl⟩
    · exact ⟨2, by omega, rfl⟩
    · exact ⟨20, by omega, rfl⟩
  have rR : rowZ e (setZ (clearR Rt) (rZ (cNow S))) := by
    refine ⟨fun k hk => ?_, ?_, ?_, ?_, updS, fun i hi => absurd hi (by show ¬ i < 0; omega)⟩
    · rw [updN (by omega)]
      show e k = fstL k
      have : k = 0 ∨ k = 1 ∨ k = 2 ∨ k = 3 := by omega
      rcases this with rfl | rfl | rfl | rfl
      · exact z0
      · exact z1
      · exact z2
      · exact z3
    · rw [updN (by omega)]; exact z4 4 (by omega) (by omega)
    · rw [updN (by omega)]; exact z4 5 (by omega) (by omega)
    · rw [updN (by omega)]; exact z4 6 (by omega) (by omega)
  simp only [e_ops, e_nil, e_LdI, e_LdL, e_LdA, e_StI, e_StL, e_StA, e_StN, e_Inc, e_I, e_L, e_Nul, e_Ref, e_Fmt, e_Dupint, e_Popint, e_Dupref, e_Popref, e_Dp2, e_BI, e_DI, e_BL, e_DL, e_SL, e_UI, e_IL, e_LI, e_CmpL, e_Get, e_Put, e_AldI, e_AldB, e_AldL, e_AldA, e_AstI, e_AstB, e_AstL, e_AstA, e_AstN, e_Len, e_New, e_NwA, e_Cal, e_CaV, e_isO, e_Max, e_Min, e_Obj, e_Cpy, e_Go, e_If, e_Cm, e_NuN, e_NuR, e_Sw, e_RI, e_RL, e_RV, e_fI, e_fL, e_fA, e_fO, e_fZ, e_clr, ip_clr, List.getElem?_cons_zero, List.getElem?_cons_succ, List.getElem?_nil, List.set_cons_zero, List.set_cons_succ, List.set_nil, Nat.add_one_sub_one, Nat.sub_self, Nat.zero_sub, List.length_cons, List.length_nil, List.length_set, List.take_succ_cons, List.take_zero, List.drop_succ_cons, List.drop_zero, List.reverse_cons, List.reverse_nil, List.nil_append, List.cons_append, List.append_nil, Option.toList_some, Option.toList_none, ip_up_same, ip_upup, if_true, if_false, ite_true, ite_false, true_and, and_true, and_self, true_or, or_true, Nat.zero_add, Nat.add_zero, Nat.le_refl, Nat.zero_le, reduceIte, reduceCtorEq, ne_eq, not_true_eq_false, not_false_eq_true, ip_nari, ip_narif, ip_narb0, ip_narb1, forall_const, Nat.reduceSub, Nat.reduceAdd, Nat.reduceLeDiff, Nat.reduceEqDiff, Nat.reduceLT, Nat.reduceMul, Int32.reduceLT, Int32.reduceLE, Int32.reduceToNatClampNeg, i10, i01, it01, it10, eq_self, ip_uh]
  refine lp_circ (by omega) hT 200 (setZ (clearR Rt) (rZ (cNow S))) (tokF (cBy S) (cTl S) 0, -1) M2 (fun _ => by show cTl S ≤ _ + 200; omega) hG0 ⟨_, _, _, _, _, _, _, f2, ⟨fun _ => ⟨rfl, hm2⟩, fun z => absurd rfl z⟩, fun _ => ⟨rR, oR⟩⟩ (fun M3 hC => ?_)
  have hC : clP M (cAk S) (cTl S) (cRc S) (cTd S) (cBy S) (circP S Rt).2 (circP S Rt).1 M3 := hC
  have hzV : rZ (circP S Rt).1 = rZ (cNow S) := rdAll_z 200 _ _
  generalize circP S Rt = V at *
  obtain ⟨so, be, en, wd, va, go, fr3, hA, hM, hR3⟩ := hC
  obtain ⟨⟨y, k95⟩, k97, hF3⟩ := hA
  by_cases hz : V.2.2 = -1
  · obtain ⟨rfl, hm3⟩ := hM.1 hz
    obtain ⟨rZ3, o3⟩ := hR3 hz
    have u96 : M3 96 = iA 56 fr := (hF3 96 (by omega) (by omega)).trans h96
    have e7 := hR.2.2.2.2.1
    refine ip_step rfl ?_
    simp only [e_ops, e_nil, e_LdI, e_LdL, e_LdA, e_StI, e_StL, e_StA, e_StN, e_Inc, e_I, e_L, e_Nul, e_Ref, e_Fmt, e_Dupint, e_Popint, e_Dupref, e_Popref, e_Dp2, e_BI, e_DI, e_BL, e_DL, e_SL, e_UI, e_IL, e_LI, e_CmpL, e_Get, e_Put, e_AldI, e_AldB, e_AldL, e_AldA, e_AstI, e_AstB, e_AstL, e_AstA, e_AstN, e_Len, e_New, e_NwA, e_Cal, e_CaV, e_isO, e_Max, e_Min, e_Obj, e_Cpy, e_Go, e_If, e_Cm, e_NuN, e_NuR, e_Sw, e_RI, e_RL, e_RV, e_fI, e_fL, e_fA, e_fO, e_fZ, e_clr, ip_clr, List.getElem?_cons_zero, List.getElem?_cons_succ, List.getElem?_nil, List.set_cons_zero, List.set_cons_succ, List.set_nil, Nat.add_one_sub_one, Nat.sub_self, Nat.zero_sub, List.length_cons, List.length_nil, List.length_set, List.take_succ_cons, List.take_zero, List.drop_succ_cons, List.drop_zero, List.reverse_cons, List.reverse_nil, List.nil_append, List.cons_append, List.append_nil, Option.toList_some, Option.toList_none, ip_up_same, ip_upup, if_true, if_false, ite_true, ite_false, true_and, and_true, and_self, true_or, or_true, Nat.zero_add, Nat.add_zero, Nat.le_refl, Nat.zero_le, reduceIte, reduceCtorEq, ne_eq, not_true_eq_false, not_false_eq_true, ip_nari, ip_narif, ip_narb0, ip_narb1, forall_const, Nat.reduceSub, Nat.reduceAdd, Nat.reduceLeDiff, Nat.reduceEqDiff, Nat.reduceLT, Nat.reduceMul, Int32.reduceLT, Int32.reduceLE, Int32.reduceToNatClampNeg, i10, i01, it01, it10, eq_self, ip_uh, k95, obM]
    simp only [true_implies, false_implies, and_true, true_and]
    refine ip_step rfl ?_
    simp only [e_ops, e_nil, e_LdI, e_LdL, e_LdA, e_StI, e_StL, e_StA, e_StN, e_Inc, e_I, e_L, e_Nul, e_Ref, e_Fmt, e_Dupint, e_Popint, e_Dupref, e_Popref, e_Dp2, e_BI, e_DI, e_BL, e_DL, e_SL, e_UI, e_IL, e_LI, e_CmpL, e_Get, e_Put, e_AldI, e_AldB, e_AldL, e_AldA, e_AstI, e_AstB, e_AstL, e_AstA, e_AstN, e_Len, e_New, e_NwA, e_Cal, e_CaV, e_isO, e_Max, e_Min, e_Obj, e_Cpy, e_Go, e_If, e_Cm, e_NuN, e_NuR, e_Sw, e_RI, e_RL, e_RV, e_fI, e_fL, e_fA, e_fO, e_fZ, e_clr, ip_clr, List.getElem?_cons_zero, List.getElem?_cons_succ, List.getElem?_nil, List.set_cons_zero, List.set_cons_succ, List.set_nil, Nat.add_one_sub_one, Nat.sub_self, Nat.zero_sub, List.length_cons, List.length_nil, List.length_set, List.take_succ_cons, List.take_zero, List.drop_succ_cons, List.drop_zero, List.reverse_cons, List.reverse_nil, List.nil_append, List.cons_append, List.append_nil, Option.toList_some, Option.toList_none, ip_up_same, ip_upup, if_true, if_false, ite_true, ite_false, true_and, and_true, and_self, true_or, or_true, Nat.zero_add, Nat.add_zero, Nat.le_refl, Nat.zero_le, reduceIte, reduceCtorEq, ne_eq, not_true_eq_false, not_false_eq_true, ip_nari, ip_narif, ip_narb0, ip_narb1, forall_const, Nat.reduceSub, Nat.reduceAdd, Nat.reduceLeDiff, Nat.reduceEqDiff, Nat.reduceLT, Nat.reduceMul, Int32.reduceLT, Int32.reduceLE, Int32.reduceToNatClampNeg, i10, i01, it01, it10, eq_self, ip_uh, k97, iA, u96, mq7, e7]
    have n97 : ip_up (ip_up M3 95 (obM (cAk S) 0 (cRc S) (cTd S) (so, be, en, wd, va, 1, y))) 97 (iA 56 (upd fr3 7 (rZ (cNow S)))) 97 = iA 56 (upd fr3 7 (rZ (cNow S))) := ip_up_same
    have n96 : ip_up (ip_up M3 95 (obM (cAk S) 0 (cRc S) (cTd S) (so, be, en, wd, va, 1, y))) 97 (iA 56 (upd fr3 7 (rZ (cNow S)))) 96 = iA 56 fr := (ip_up_ne (by omega)).trans ((ip_up_ne (by omega)).trans u96)
    refine sp_moveAll (by omega) (by omega) (by omega) n97 n96 (fun M4 e4 m1 m2 m3 => ?_)
    have j95 : M4 95 = obM (cAk S) 0 (cRc S) (cTd S) (so, be, en, wd, va, 1, y) := (m3 95 (by omega)).trans ((ip_up_ne (by omega)).trans ip_up_same)
    have zz : rZ V.1 = rZ (cNow S) := hzV
    have rF : rowR e4 V.1 := by
      refine rowR.of (f := upd fr3 7 (rZ V.1)) rZ3 o3.1 (fun k hk => ?_)
      rw [zz]
      exact m2 k hk
    have e6 := rF.2.2.2.1
    simp only [e_ops, e_nil, e_LdI, e_LdL, e_LdA, e_StI, e_StL, e_StA, e_StN, e_Inc, e_I, e_L, e_Nul, e_Ref, e_Fmt, e_Dupint, e_Popint, e_Dupref, e_Popref, e_Dp2, e_BI, e_DI, e_BL, e_DL, e_SL, e_UI, e_IL, e_LI, e_CmpL, e_Get, e_Put, e_AldI, e_AldB, e_AldL, e_AldA, e_AstI, e_AstB, e_AstL, e_AstA, e_AstN, e_Len, e_New, e_NwA, e_Cal, e_CaV, e_isO, e_Max, e_Min, e_Obj, e_Cpy, e_Go, e_If, e_Cm, e_NuN, e_NuR, e_Sw, e_RI, e_RL, e_RV, e_fI, e_fL, e_fA, e_fO, e_fZ, e_clr, ip_clr, List.getElem?_cons_zero, List.getElem?_cons_succ, List.getElem?_nil, List.set_cons_zero, List.set_cons_succ, List.set_nil, Nat.add_one_sub_one, Nat.sub_self, Nat.zero_sub, List.length_cons, List.length_nil, List.length_set, List.take_succ_cons, List.take_zero, List.drop_succ_cons, List.drop_zero, List.reverse_cons, List.reverse_nil, List.nil_append, List.cons_append, List.append_nil, Option.toList_some, Option.toList_none, ip_up_same, ip_upup, if_true, if_false, ite_true, ite_false, true_and, and_true, and_self, true_or, or_true, Nat.zero_add, Nat.add_zero, Nat.le_refl, Nat.zero_le, reduceIte, reduceCtorEq, ne_eq, not_true_eq_false, not_false_eq_true, ip_nari, ip_narif, ip_narb0, ip_narb1, forall_const, Nat.reduceSub, Nat.reduceAdd, Nat.reduceLeDiff, Nat.reduceEqDiff, Nat.reduceLT, Nat.reduceMul, Int32.reduceLT, Int32.reduceLE, Int32.reduceToNatClampNeg, i10, i01, it01, it10, eq_self, ip_uh, j95, obM, m1, iA, mq6, e6, ip_up_ne (show (96 : Nat) ≠ 95 by omega)]
    have hG : ∀ k, k ≠ 95 → k ≠ 96 → k ≠ 97 → ip_up M4 95 (obM (cAk S) 0 0 (cTd S) (so, be, en, wd, va, 1, y)) k = M k := fun k k1 k2 k3 => (ip_up_ne k1).trans ((m3 k k2).trans ((ip_up_ne k3).trans ((ip_up_ne k1).trans (hF3 k k1 k3))))
    refine hk hz o3 _ ⟨⟨(so, be, en, wd, va, 1, y), ip_up_same⟩, ⟨e4, (ip_up_ne (by omega)).trans m1, rF⟩, s3.of (hG _ (by omega) (by omega) (by omega)), ⟨⟨_, (ip_up_ne (by omega)).trans ((m3 97 (by omega)).trans n97)⟩, ?_, ?_⟩, ⟨g, (hG _ (by omega) (by omega) (by omega)).trans h100, fun i hi => absurd hi (by show ¬ i < 0; omega)⟩, ?_, s7.of (hG _ (by omega) (by omega) (by omega)) (hG _ (by omega) (by omega) (by omega)) (hG _ (by omega) (by omega) (by omega)), s8.of (hG _ (by omega) (by omega) (by omega)) (hG _ (by omega) (by omega) (by omega)) (hG _ (by omega) (by omega) (by omega)), s9.of (hG _ (by omega) (by omega) (by omega))⟩ (fun k hk => hG k (by omega) (by omega) (by omega))
    · obtain ⟨q, hq⟩ := s99
      exact ⟨q, (hG _ (by omega) (by omega) (by omega)).trans hq⟩
    · obtain ⟨q, hq⟩ := s102
      exact ⟨q, (hG _ (by omega) (by omega) (by omega)).trans hq⟩
    · obtain ⟨q, hq, _⟩ := s6
      exact ⟨q, (hG _ (by omega) (by omega) (by omega)).trans hq, fun i hi => absurd hi (by show ¬ i < 3 * 0; omega)⟩
  · obtain ⟨rfl, rfl⟩ := hM.2 hz
    refine ip_step rfl ?_
    simp only [e_ops, e_nil, e_LdI, e_LdL, e_LdA, e_StI, e_StL, e_StA, e_StN, e_Inc, e_I, e_L, e_Nul, e_Ref, e_Fmt, e_Dupint, e_Popint, e_Dupref, e_Popref, e_Dp2, e_BI, e_DI, e_BL, e_DL, e_SL, e_UI, e_IL, e_LI, e_CmpL, e_Get, e_Put, e_AldI, e_AldB, e_AldL, e_AldA, e_AstI, e_AstB, e_AstL, e_AstA, e_AstN, e_Len, e_New, e_NwA, e_Cal, e_CaV, e_isO, e_Max, e_Min, e_Obj, e_Cpy, e_Go, e_If, e_Cm, e_NuN, e_NuR, e_Sw, e_RI, e_RL, e_RV, e_fI, e_fL, e_fA, e_fO, e_fZ, e_clr, ip_clr, List.getElem?_cons_zero, List.getElem?_cons_succ, List.getElem?_nil, List.set_cons_zero, List.set_cons_succ, List.set_nil, Nat.add_one_sub_one, Nat.sub_self, Nat.zero_sub, List.length_cons, List.length_nil, List.length_set, List.take_succ_cons, List.take_zero, List.drop_succ_cons, List.drop_zero, List.reverse_cons, List.reverse_nil, List.nil_append, List.cons_append, List.append_nil, Option.toList_some, Option.toList_none, ip_up_same, ip_upup, if_true, if_false, ite_true, ite_false, true_and, and_true, and_self, true_or, or_true, Nat.zero_add, Nat.add_zero, Nat.le_refl, Nat.zero_le, reduceIte, reduceCtorEq, ne_eq, not_true_eq_false, not_false_eq_true, ip_nari, ip_narif, ip_narb0, ip_narb1, forall_const, Nat.reduceSub, Nat.reduceAdd, Nat.reduceLeDiff, Nat.reduceEqDiff, Nat.reduceLT, Nat.reduceMul, Int32.reduceLT, Int32.reduceLE, Int32.reduceToNatClampNeg, i10, i01, it01, it10, eq_self, ip_uh, k95, obM]
    simp only [true_implies, false_implies, and_true, true_and]
    refine ip_step rfl ?_
    simp only [e_ops, e_nil, e_LdI, e_LdL, e_LdA, e_StI, e_StL, e_StA, e_StN, e_Inc, e_I, e_L, e_Nul, e_Ref, e_Fmt, e_Dupint, e_Popint, e_Dupref, e_Popref, e_Dp2, e_BI, e_DI, e_BL, e_DL, e_SL, e_UI, e_IL, e_LI, e_CmpL, e_Get, e_Put, e_AldI, e_AldB, e_AldL, e_AldA, e_AstI, e_AstB, e_AstL, e_AstA, e_AstN, e_Len, e_New, e_NwA, e_Cal, e_CaV, e_isO, e_Max, e_Min, e_Obj, e_Cpy, e_Go, e_If, e_Cm, e_NuN, e_NuR, e_Sw, e_RI, e_RL, e_RV, e_fI, e_fL, e_fA, e_fO, e_fZ, e_clr, ip_clr, List.getElem?_cons_zero, List.getElem?_cons_succ, List.getElem?_nil, List.set_cons_zero, List.set_cons_succ, List.set_nil, Nat.add_one_sub_one, Nat.sub_self, Nat.zero_sub, List.length_cons, List.length_nil, List.length_set, List.take_succ_cons, List.take_zero, List.drop_succ_cons, List.drop_zero, List.reverse_cons, List.reverse_nil, List.nil_append, List.cons_append, List.append_nil, Option.toList_some, Option.toList_none, ip_up_same, ip_upup, if_true, if_false, ite_true, ite_false, true_and, and_true, and_self, true_or, or_true, Nat.zero_add, Nat.add_zero, Nat.le_refl, Nat.zero_le, reduceIte, reduceCtorEq, ne_eq, not_true_eq_false, not_false_eq_true, ip_nari, ip_narif, ip_narb0, ip_narb1, forall_const, Nat.reduceSub, Nat.reduceAdd, Nat.reduceLeDiff, Nat.reduceEqDiff, Nat.reduceLT, Nat.reduceMul, Int32.reduceLT, Int32.reduceLE, Int32.reduceToNatClampNeg, i10, i01, it01, it10, eq_self, ip_uh]
    have hG : ∀ k, k ≠ 95 → k ≠ 97 → ip_up M3 95 (obM (cAk S) 0 (cRc S) (cTd S) (so, V.2.2, en, wd, va, 0, y)) k = M k := fun k k1 k3 => (ip_up_ne k1).trans (hF3 k k1 k3)
    refine hf hz _ ⟨⟨(so, V.2.2, en, wd, va, 0, y), ip_up_same⟩, ⟨fr, (hG _ (by omega) (by omega)).trans h96, hR⟩, s3.of (hG _ (by omega) (by omega)), ⟨⟨_, (ip_up_ne (by omega)).trans k97⟩, ?_, ?_⟩, ⟨g, (hG _ (by omega) (by omega)).trans h100, fun i hi => absurd hi (by show ¬ i < 0; omega)⟩, s6.of (hG _ (by omega) (by omega)), s7.of (hG _ (by omega) (by omega)) (hG _ (by omega) (by omega)) (hG _ (by omega) (by omega)), s8.of (hG _ (by omega) (by omega)) (hG _ (by omega) (by omega)) (hG _ (by omega) (by omega)), s9.of (hG _ (by omega) (by omega))⟩ (fun k hk => hG k (by omega) (by omega))
    · obtain ⟨q, hq⟩ := s99
      exact ⟨q, (hG _ (by omega) (by omega)).trans hq⟩
    · obtain ⟨q, hq⟩ := s102
      exact ⟨q, (hG _ (by omega) (by omega)).trans hq⟩
