theorem row_lw {R : Rg} {f : Nat → Int32} {k : Nat} {v : Int32} (hk : k < 4) (hR : rowR f R) : rowR (upd f k v) (setLw R (upd (rLw R) k v)) := by
  obtain ⟨r1, r2, r3, r4, r5, r6⟩ := hR
  refine ⟨fun j hj => ?_, ?_, ?_, ?_, ?_, fun j hj => ?_⟩
  · have := r1 j hj
    (dsimp only [setLw, rLw, rFa, rSp, rZ, rW, rKd, rWt, rPl, rYe, rNo, rFl]; unfold upd; (repeat' split) <;> first | rfl | assumption | omega)
  · rw [updN (by omega)]; exact r2
  · rw [updN (by omega)]; exact r3
  · rw [updN (by omega)]; exact r4
  · rw [updN (by omega)]; exact r5
  · rw [updN (by omega), updN (by omega), updN (by omega), updN (by omega), updN (by omega), updN (by omega)]
    exact r6 j hj
theorem row_fa {R : Rg} {f : Nat → Int32} {v : Int32} (hR : rowR f R) : rowR (upd f 5 v) (setFa R v) := by
  obtain ⟨r1, r2, r3, r4, r5, r6⟩ := hR
  refine ⟨fun j hj => ?_, ?_, updS, ?_, ?_, fun j hj => ?_⟩
  · rw [updN (by omega)]; exact r1 j hj
  · rw [updN (by omega)]; exact r2
  · rw [updN (by omega)]; exact r4
  · rw [updN (by omega)]; exact r5
  · rw [updN (by omega), updN (by omega), updN (by omega), updN (by omega), updN (by omega), updN (by omega)]
    exact r6 j hj
theorem row_z {R : Rg} {f : Nat → Int32} {v : Int32} (hR : rowR f R) : rowR (upd f 7 v) (setZ R v) := by
  obtain ⟨r1, r2, r3, r4, r5, r6⟩ := hR
  refine ⟨fun j hj => ?_, ?_, ?_, ?_, updS, fun j hj => ?_⟩
  · rw [updN (by omega)]; exact r1 j hj
  · rw [updN (by omega)]; exact r2
  · rw [updN (by omega)]; exact r3
  · rw [updN (by omega)]; exact r4
  · rw [updN (by omega), updN (by omega), updN (by omega), updN (by omega), updN (by omega), updN (by omega)]
    exact r6 j hj
theorem row_kw {R : Rg} {f : Nat → Int32} {i : Nat} {k w : Int32} (hR : rowR f R) : rowR (upd (upd f (8 + 6 * i + 1) w) (8 + 6 * i) k) (setKW R i k w) := by
  obtain ⟨r1, r2, r3, r4, r5, r6⟩ := hR
  refine ⟨fun j hj => ?_, ?_, ?_, ?_, ?_, fun j hj => ?_⟩
  · rw [updN (by omega), updN (by omega)]; exact r1 j hj
  · rw [updN (by omega), updN (by omega)]; exact r2
  · rw [updN (by omega), updN (by omega)]; exact r3
  · rw [updN (by omega), updN (by omega)]; exact r4
  · rw [updN (by omega), updN (by omega)]; exact r5
  · obtain ⟨q0, q1, q2, q3, q4, q5⟩ := r6 j hj
    refine ⟨?_, ?_, ?_, ?_, ?_, ?_⟩
    · (dsimp only [setKW, rLw, rFa, rSp, rZ, rW, rKd, rWt, rPl, rYe, rNo, rFl]; unfold upd; (repeat' split) <;> first | rfl | assumption | omega)
    · (dsimp only [setKW, rLw, rFa, rSp, rZ, rW, rKd, rWt, rPl, rYe, rNo, rFl]; unfold upd; (repeat' split) <;> first | rfl | assumption | omega)
    · (dsimp only [setKW, rLw, rFa, rSp, rZ, rW, rKd, rWt, rPl, rYe, rNo, rFl]; unfold upd; (repeat' split) <;> first | rfl | assumption | omega)
    · (dsimp only [setKW, rLw, rFa, rSp, rZ, rW, rKd, rWt, rPl, rYe, rNo, rFl]; unfold upd; (repeat' split) <;> first | rfl | assumption | omega)
    · (dsimp only [setKW, rLw, rFa, rSp, rZ, rW, rKd, rWt, rPl, rYe, rNo, rFl]; unfold upd; (repeat' split) <;> first | rfl | assumption | omega)
    · (dsimp only [setKW, rLw, rFa, rSp, rZ, rW, rKd, rWt, rPl, rYe, rNo, rFl]; unfold upd; (repeat' split) <;> first | rfl | assumption | omega)
theorem row_yn {R : Rg} {f : Nat → Int32} {i : Nat} {k w : Int32} (hR : rowR f R) : rowR (upd (upd f (8 + 6 * i + 3) k) (8 + 6 * i + 4) w) (setYN R i k w) := by
  obtain ⟨r1, r2, r3, r4, r5, r6⟩ := hR
  refine ⟨fun j hj => ?_, ?_, ?_, ?_, ?_, fun j hj => ?_⟩
  · rw [updN (by omega), updN (by omega)]; exact r1 j hj
  · rw [updN (by omega), updN (by omega)]; exact r2
  · rw [updN (by omega), updN (by omega)]; exact r3
  · rw [updN (by omega), updN (by omega)]; exact r4
  · rw [updN (by omega), updN (by omega)]; exact r5
  · obtain ⟨q0, q1, q2, q3, q4, q5⟩ := r6 j hj
    refine ⟨?_, ?_, ?_, ?_, ?_, ?_⟩
    · (dsimp only [setYN, rLw, rFa, rSp, rZ, rW, rKd, rWt, rPl, rYe, rNo, rFl]; unfold upd; (repeat' split) <;> first | rfl | assumption | omega)
    · (dsimp only [setYN, rLw, rFa, rSp, rZ, rW, rKd, rWt, rPl, rYe, rNo, rFl]; unfold upd; (repeat' split) <;> first | rfl | assumption | omega)
    · (dsimp only [setYN, rLw, rFa, rSp, rZ, rW, rKd, rWt, rPl, rYe, rNo, rFl]; unfold upd; (repeat' split) <;> first | rfl | assumption | omega)
    · (dsimp only [setYN, rLw, rFa, rSp, rZ, rW, rKd, rWt, rPl, rYe, rNo, rFl]; unfold upd; (repeat' split) <;> first | rfl | assumption | omega)
    · (dsimp only [setYN, rLw, rFa, rSp, rZ, rW, rKd, rWt, rPl, rYe, rNo, rFl]; unfold upd; (repeat' split) <;> first | rfl | assumption | omega)
    · (dsimp only [setYN, rLw, rFa, rSp, rZ, rW, rKd, rWt, rPl, rYe, rNo, rFl]; unfold upd; (repeat' split) <;> first | rfl | assumption | omega)
theorem row_pf {R : Rg} {f : Nat → Int32} {i : Nat} {y : Int32} (ho : okR R) (hi : i < rW R) (hR : rowR f R) : rowR (upd (upd f (8 + 6 * i + 5) 0) (8 + 6 * i + 2) y) (setPF R i y (withB (rFl R) (nI i) 0)) := by
  have h8 := ho.1
  obtain ⟨r1, r2, r3, r4, r5, r6⟩ := hR
  refine ⟨fun j hj => ?_, ?_, ?_, ?_, ?_, fun j hj => ?_⟩
  · rw [updN (by omega), updN (by omega)]; exact r1 j hj
  · rw [updN (by omega), updN (by omega)]; exact r2
  · rw [updN (by omega), updN (by omega)]; exact r3
  · rw [updN (by omega), updN (by omega)]; exact r4
  · rw [updN (by omega), updN (by omega)]; exact r5
  · have hj : j < rW R := hj
    obtain ⟨q0, q1, q2, q3, q4, q5⟩ := r6 j hj
    refine ⟨?_, ?_, ?_, ?_, ?_, ?_⟩
    · (dsimp only [setPF, rLw, rFa, rSp, rZ, rW, rKd, rWt, rPl, rYe, rNo, rFl]; unfold upd; (repeat' split) <;> first | rfl | assumption | omega)
    · (dsimp only [setPF, rLw, rFa, rSp, rZ, rW, rKd, rWt, rPl, rYe, rNo, rFl]; unfold upd; (repeat' split) <;> first | rfl | assumption | omega)
    · (dsimp only [setPF, rLw, rFa, rSp, rZ, rW, rKd, rWt, rPl, rYe, rNo, rFl]; unfold upd; (repeat' split) <;> first | rfl | assumption | omega)
    · (dsimp only [setPF, rLw, rFa, rSp, rZ, rW, rKd, rWt, rPl, rYe, rNo, rFl]; unfold upd; (repeat' split) <;> first | rfl | assumption | omega)
    · (dsimp only [setPF, rLw, rFa, rSp, rZ, rW, rKd, rWt, rPl, rYe, rNo, rFl]; unfold upd; (repeat' split) <;> first | rfl | assumption | omega)
    · show _ = hasB (withB (rFl R) (nI i) 0) (nI j)
      rw [hb_wb ho.fl (by omega) (by omega) (Or.inl rfl)]
      (dsimp only [setPF, rLw, rFa, rSp, rZ, rW, rKd, rWt, rPl, rYe, rNo, rFl]; unfold upd; (repeat' split) <;> first | rfl | assumption | omega)
theorem hb_new {R : Rg} (ho : okR R) (h8 : rW R < 8) : hasB (rFl R) (nI (rW R)) = 0 := by
  obtain ⟨m, hm, e⟩ := ho.2.2.1
  rw [e, hb_n (p2_8 ho.1 hm) h8, bN_new hm]
  rfl
theorem row_add {R : Rg} {f g : Nat → Int32} {x y : Int32} (ho : okR R) (h8 : rW R < 8) (hR : rowR f R) (hg : ∀ j, ¬ (8 + 6 * rW R ≤ j ∧ j < 8 + 6 * rW R + 6) → ¬ j = 6 → g j = f j) (g6 : g 6 = nI (rW R + 1)) (g0 : g (8 + 6 * rW R + 0) = x) (g1 : g (8 + 6 * rW R + 1) = y) (gz : ∀ c, 2 ≤ c → c < 6 → g (8 + 6 * rW R + c) = 0) : rowR g (addR R x y) := by
  obtain ⟨r1, r2, r3, r4, r5, r6⟩ := hR
  refine ⟨fun j hj => ?_, ?_, ?_, g6, ?_, fun j hj => ?_⟩
  · rw [hg _ (by omega) (by omega)]; exact r1 j hj
  · rw [hg _ (by omega) (by omega)]; exact r2
  · rw [hg _ (by omega) (by omega)]; exact r3
  · rw [hg _ (by omega) (by omega)]; exact r5
  · have hj : j < rW R + 1 := hj
    show g (8 + 6 * j + 0) = upd (rKd R) (rW R) x j ∧ g (8 + 6 * j + 1) = upd (rWt R) (rW R) y j ∧ g (8 + 6 * j + 2) = upd (rPl R) (rW R) 0 j ∧ g (8 + 6 * j + 3) = upd (rYe R) (rW R) 0 j ∧ g (8 + 6 * j + 4) = upd (rNo R) (rW R) 0 j ∧ g (8 + 6 * j + 5) = hasB (rFl R) (nI j)
    by_cases ej : j = rW R
    · rw [ej, updS, updS, updS, updS, updS, hb_new ho h8]
      exact ⟨g0, g1, gz 2 (by omega) (by omega), gz 3 (by omega) (by omega), gz 4 (by omega) (by omega), gz 5 (by omega) (by omega)⟩
    · rw [updN ej, updN ej, updN ej, updN ej, updN ej, hg _ (by omega) (by omega), hg _ (by omega) (by omega), hg _ (by omega) (by omega), hg _ (by omega) (by omega), hg _ (by omega) (by omega), hg _ (by omega) (by omega)]
      exact r6 j (by omega)
theorem rowR.of {R : Rg} {f g : Nat → Int32} (hR : rowR f R) (h8 : rW R ≤ 8) (h : ∀ k, k < 56 → g k = f k) : rowR g R := by
  obtain ⟨r1, r2, r3, r4, r5, r6⟩ := hR
  refine ⟨fun j hj => (h _ (by omega)).trans (r1 j hj), (h _ (by omega)).trans r2, (h _ (by omega)).trans r3, (h _ (by omega)).trans r4, (h _ (by omega)).trans r5, fun j hj => ?_⟩
  obtain ⟨q0, q1, q2, q3, q4, q5⟩ := r6 j hj
  exact ⟨(h _ (by omega)).trans q0, (h _ (by omega)).trans q1, (h _ (by omega)).trans q2, (h _ (by omega)).trans q3, (h _ (by omega)).trans q4, (h _ (by omega)).trans q5⟩
theorem mdAt.w {M M' : ip_M} {S : Cs} {R : Rg} {f : Nat → Int32} (h : mdAt M S) (hW : wAt M M' f) (hR : rowR f R) : mdAt M' (sNow S R) := h.now hW.1.2 hR (fun k _ _ hk => hW.2 k hk)
theorem wAt.fr {M M' : ip_M} {f : Nat → Int32} (hW : wAt M M' f) : mFr M M' := fun k hk => hW.2 k (by omega)
-- all of a row into another
theorem lp_moveAll {d : Nat} {a b : Nat} (hab : ¬ a = b) (hb : 64 ≤ b) {g : Nat → Int32} {M0 : ip_M} {n : Nat} {Φ : ip_P} (h : ∀ M' e, M' b = iA 56 e → (∀ k, k < 56 → e k = g k) → (∀ k, k ≠ b → M' k = M0 k) → Φ none M' n) : ∀ (j i : Nat) (M : ip_M) (e : Nat → Int32), i + j = 56 → (∀ k, k < i → e k = g k) → M a = iA 56 g → M b = iA 56 e → (∀ k, k ≠ b → M k = M0 k) →
    ip_Ev (T_X6_moveAll (ip_call tb d)) Φ 1 ([some (.ref a), some (.ref b), some (.int (nI i))], [], M, n, 0, 0) := by
  intro j
  induction j with
  | zero =>
    intro i M e hi he ha hb' hF
    have hlt : (nI i < 56) = (i < 56) := nIlt (i := i) (j := 56) (by omega) (by omega)
    have hni : ¬ i < 56 := by omega
    refine ip_step rfl ?_
    simp only [e_ops, e_nil, e_LdI, e_LdL, e_LdA, e_StI, e_StL, e_StA, e_StN, e_Inc, e_I, e_L, e_Nul, e_Ref, e_Fmt, e_Dupint, e_Popint, e_Dupref, e_Popref, e_Dp2, e_BI, e_DI, e_BL, e_DL, e_SL, e_UI, e_IL, e_LI, e_CmpL, e_Get, e_Put, e_AldI, e_AldB, e_AldL, e_AldA, e_AstI, e_AstB, e_AstL, e_AstA, e_AstN, e_Len, e_New, e_NwA, e_Cal, e_CaV, e_isO, e_Max, e_Min, e_Obj, e_Cpy, e_Go, e_If, e_Cm, e_NuN, e_NuR, e_Sw, e_RI, e_RL, e_RV, e_fI, e_fL, e_fA, e_fO, e_fZ, e_clr, ip_clr, List.getElem?_cons_zero, List.getElem?_cons_succ, List.getElem?_nil, List.set_cons_zero, List.set_cons_succ, List.set_nil, Nat.add_one_sub_one, Nat.sub_self, Nat.zero_sub, List.length_cons, List.length_nil, List.length_set, List.take_succ_cons, List.take_zero, List.drop_succ_cons, List.drop_zero, List.reverse_cons, List.reverse_nil, List.nil_append, List.cons_append, List.append_nil, Option.toList_some, Option.toList_none, ip_up_same, ip_upup, if_true, if_false, ite_true, ite_false, true_and, and_true, and_self, true_or, or_true, Nat.zero_add, Nat.add_zero, Nat.le_refl, Nat.zero_le, reduceIte, reduceCtorEq, ne_eq, not_true_eq_false, not_false_eq_true, ip_nari, ip_narif, ip_narb0, ip_narb1, forall_const, Nat.reduceSub, Nat.reduceAdd, Nat.reduceLeDiff, Nat.reduceEqDiff, Nat.reduceLT, Nat.reduceMul, Int32.reduceLT, Int32.reduceLE, Int32.reduceToNatClampNeg, i10, i01, it01, it10, eq_self, ip_uh, hlt, hni]
    simp only [false_implies, true_and, true_implies]
    refine ip_step rfl ?_
    simp only [e_ops, e_nil, e_LdI, e_LdL, e_LdA, e_StI, e_StL, e_StA, e_StN, e_Inc, e_I, e_L, e_Nul, e_Ref, e_Fmt, e_Dupint, e_Popint, e_Dupref, e_Popref, e_Dp2, e_BI, e_DI, e_BL, e_DL, e_SL, e_UI, e_IL, e_LI, e_CmpL, e_Get, e_Put, e_AldI, e_AldB, e_AldL, e_AldA, e_AstI, e_AstB, e_AstL, e_AstA, e_AstN, e_Len, e_New, e_NwA, e_Cal, e_CaV, e_isO, e_Max, e_Min, e_Obj, e_Cpy, e_Go, e_If, e_Cm, e_NuN, e_NuR, e_Sw, e_RI, e_RL, e_RV, e_fI, e_fL, e_fA, e_fO, e_fZ, e_clr, ip_clr, List.getElem?_cons_zero, List.getElem?_cons_succ, List.getElem?_nil, List.set_cons_zero, List.set_cons_succ, List.set_nil, Nat.add_one_sub_one, Nat.sub_self, Nat.zero_sub, List.length_cons, List.length_nil, List.length_set, List.take_succ_cons, List.take_zero, List.drop_succ_cons, List.drop_zero, List.reverse_cons, List.reverse_nil, List.nil_append, List.cons_append, List.append_nil, Option.toList_some, Option.toList_none, ip_up_same, ip_upup, if_true, if_false, ite_true, ite_false, true_and, and_true, and_self, true_or, or_true, Nat.zero_add, Nat.add_zero, Nat.le_refl, Nat.zero_le, reduceIte, reduceCtorEq, ne_eq, not_true_eq_false, not_false_eq_true, ip_nari, ip_narif, ip_narb0, ip_narb1, forall_const, Nat.reduceSub, Nat.reduceAdd, Nat.reduceLeDiff, Nat.reduceEqDiff, Nat.reduceLT, Nat.reduceMul, Int32.reduceLT, Int32.reduceLE, Int32.reduceToNatClampNeg, i10, i01, it01, it10, eq_self, ip_uh]
    exact h M e hb' (fun k hk => he k (by omega)) hF
  | succ j ih =>
    intro i M e hi he ha hb' hF
    have hlt : (nI i < 56) = (i < 56) := nIlt (i := i) (j := 56) (by omega) (by omega)
    have hni : i < 56 := by omega
    have hc := nIc (i := i) (by omega)
    have hv := nIin (i := i) (N := 56) hni (by omega)
    unfold iA at ha hb'
    refine ip_step rfl ?_
    simp only [e_ops, e_nil, e_LdI, e_LdL, e_LdA, e_StI, e_StL, e_StA, e_StN, e_Inc, e_I, e_L, e_Nul, e_Ref, e_Fmt, e_Dupint, e_Popint, e_Dupref, e_Popref, e_Dp2, e_BI, e_DI, e_BL, e_DL, e_SL, e_UI, e_IL, e_LI, e_CmpL, e_Get, e_Put, e_AldI, e_AldB, e_AldL, e_AldA, e_AstI, e_AstB, e_AstL, e_AstA, e_AstN, e_Len, e_New, e_NwA, e_Cal, e_CaV, e_isO, e_Max, e_Min, e_Obj, e_Cpy, e_Go, e_If, e_Cm, e_NuN, e_NuR, e_Sw, e_RI, e_RL, e_RV, e_fI, e_fL, e_fA, e_fO, e_fZ, e_clr, ip_clr, List.getElem?_cons_zero, List.getElem?_cons_succ, List.getElem?_nil, List.set_cons_zero, List.set_cons_succ, List.set_nil, Nat.add_one_sub_one, Nat.sub_self, Nat.zero_sub, List.length_cons, List.length_nil, List.length_set, List.take_succ_cons, List.take_zero, List.drop_succ_cons, List.drop_zero, List.reverse_cons, List.reverse_nil, List.nil_append, List.cons_append, List.append_nil, Option.toList_some, Option.toList_none, ip_up_same, ip_upup, if_true, if_false, ite_true, ite_false, true_and, and_true, and_self, true_or, or_true, Nat.zero_add, Nat.add_zero, Nat.le_refl, Nat.zero_le, reduceIte, reduceCtorEq, ne_eq, not_true_eq_false, not_false_eq_true, ip_nari, ip_narif, ip_narb0, ip_narb1, forall_const, Nat.reduceSub, Nat.reduceAdd, Nat.reduceLeDiff, Nat.reduceEqDiff, Nat.reduceLT, Nat.reduceMul, Int32.reduceLT, Int32.reduceLE, Int32.reduceToNatClampNeg, i10, i01, it01, it10, eq_self, ip_uh, hlt, hni]
    simp only [false_implies, and_true, true_implies]
    refine ip_step rfl ?_
    simp only [e_ops, e_nil, e_LdI, e_LdL, e_LdA, e_StI, e_StL, e_StA, e_StN, e_Inc, e_I, e_L, e_Nul, e_Ref, e_Fmt, e_Dupint, e_Popint, e_Dupref, e_Popref, e_Dp2, e_BI, e_DI, e_BL, e_DL, e_SL, e_UI, e_IL, e_LI, e_CmpL, e_Get, e_Put, e_AldI, e_AldB, e_AldL, e_AldA, e_AstI, e_AstB, e_AstL, e_AstA, e_AstN, e_Len, e_New, e_NwA, e_Cal, e_CaV, e_isO, e_Max, e_Min, e_Obj, e_Cpy, e_Go, e_If, e_Cm, e_NuN, e_NuR, e_Sw, e_RI, e_RL, e_RV, e_fI, e_fL, e_fA, e_fO, e_fZ, e_clr, ip_clr, List.getElem?_cons_zero, List.getElem?_cons_succ, List.getElem?_nil, List.set_cons_zero, List.set_cons_succ, List.set_nil, Nat.add_one_sub_one, Nat.sub_self, Nat.zero_sub, List.length_cons, List.length_nil, List.length_set, List.take_succ_cons, List.take_zero, List.drop_succ_cons, List.drop_zero, List.reverse_cons, List.reverse_nil, List.nil_append, List.cons_append, List.append_nil, Option.toList_some, Option.toList_none, ip_up_same, ip_upup, if_true, if_false, ite_true, ite_false, true_and, and_true, and_self, true_or, or_true, Nat.zero_add, Nat.add_zero, Nat.le_refl, Nat.zero_le, reduceIte, reduceCtorEq, ne_eq, not_true_eq_false, not_false_eq_true, ip_nari, ip_narif, ip_narb0, ip_narb1, forall_const, Nat.reduceSub, Nat.reduceAdd, Nat.reduceLeDiff, Nat.reduceEqDiff, Nat.reduceLT, Nat.reduceMul, Int32.reduceLT, Int32.reduceLE, Int32.reduceToNatClampNeg, i10, i01, it01, it10, eq_self, ip_uh, ha, hb', hc, hv, hb]
    rw [nI_1]
    refine ih (i + 1) _ (upd e i (g i)) (by omega) (fun k hk => ?_) ((ip_up_ne hab).trans ha) ip_up_same (fun k hk => (ip_up_ne hk).trans (hF k hk))
    by_cases ek : k = i
    · subst ek; exact updS
    · rw [updN ek]; exact he k (by omega)
theorem sp_moveAll {d : Nat} (hd : 1 ≤ d) {a b : Nat} (hab : ¬ a = b) (hb : 64 ≤ b) {g e : Nat → Int32} {M : ip_M} {n : Nat} {Φ : ip_P} (ha : M a = iA 56 g) (hb' : M b = iA 56 e) (h : ∀ M' e, M' b = iA 56 e → (∀ k, k < 56 → e k = g k) → (∀ k, k ≠ b → M' k = M k) → Φ none M' n) : ip_call tb d 122 [.ref a, .ref b] M n Φ := by
  obtain ⟨d, rfl⟩ := ip_d1 (Nat.le_trans (by decide) hd)
  rw [cl_122]
  simp only [ip_loc, ip_ent, List.length_cons, List.length_nil, List.replicate_succ, List.replicate_zero, List.append_nil, List.nil_append, List.cons_append, Nat.zero_add, Nat.reduceAdd, Nat.reduceSub, Nat.reduceLeDiff, true_and, Nat.le_refl]
  refine ip_step rfl ?_
  simp only [e_ops, e_nil, e_LdI, e_LdL, e_LdA, e_StI, e_StL, e_StA, e_StN, e_Inc, e_I, e_L, e_Nul, e_Ref, e_Fmt, e_Dupint, e_Popint, e_Dupref, e_Popref, e_Dp2, e_BI, e_DI, e_BL, e_DL, e_SL, e_UI, e_IL, e_LI, e_CmpL, e_Get, e_Put, e_AldI, e_AldB, e_AldL, e_AldA, e_AstI, e_AstB, e_AstL, e_AstA, e_AstN, e_Len, e_New, e_NwA, e_Cal, e_CaV, e_isO, e_Max, e_Min, e_Obj, e_Cpy, e_Go, e_If, e_Cm, e_NuN, e_NuR, e_Sw, e_RI, e_RL, e_RV, e_fI, e_fL, e_fA, e_fO, e_fZ, e_clr, ip_clr, List.getElem?_cons_zero, List.getElem?_cons_succ, List.getElem?_nil, List.set_cons_zero, List.set_cons_succ, List.set_nil, Nat.add_one_sub_one, Nat.sub_self, Nat.zero_sub, List.length_cons, List.length_nil, List.length_set, List.take_succ_cons, List.take_zero, List.drop_succ_cons, List.drop_zero, List.reverse_cons, List.reverse_nil, List.nil_append, List.cons_append, List.append_nil, Option.toList_some, Option.toList_none, ip_up_same, ip_upup, if_true, if_false, ite_true, ite_false, true_and, and_true, and_self, true_or, or_true, Nat.zero_add, Nat.add_zero, Nat.le_refl, Nat.zero_le, reduceIte, reduceCtorEq, ne_eq, not_true_eq_false, not_false_eq_true, ip_nari, ip_narif, ip_narb0, ip_narb1, forall_const, Nat.reduceSub, Nat.reduceAdd, Nat.reduceLeDiff, Nat.reduceEqDiff, Nat.reduceLT, Nat.reduceMul, Int32.reduceLT, Int32.reduceLE, Int32.reduceToNatClampNeg, i10, i01, it01, it10, eq_self, ip_uh]
  exact lp_moveAll hab hb h 56 0 M e (by omega) (fun k hk => absurd hk (by omega)) ha hb' (fun _ _ => rfl)
theorem lp_begins {d : Nat} {b : Nat} (hb : 64 ≤ b) {M0 : ip_M} {n : Nat} {Φ : ip_P} (h : ∀ M' e, M' b = iA 56 e → (e 0 = 8 ∧ e 1 = 3 ∧ e 2 = 2 ∧ e 3 = 20 ∧ ∀ k, 4 ≤ k → k < 56 → e k = 0) → (∀ k, k ≠ b → M' k = M0 k) → Φ none M' n) : ∀ (j i : Nat) (M : ip_M) (e : Nat → Int32), i + j = 56 → (∀ k, k < i → e k = 0) → M b = iA 56 e → (∀ k, k ≠ b → M k = M0 k) →
    ip_Ev (T_X6_begins (ip_call tb d)) Φ 1 ([some (.ref b), some (.int (nI i))], [], M, n, 0, 0) := by
  intro j
  induction j with
  | zero =>
    intro i M e hi he hb' hF
    have hlt : (nI i < 56) = (i < 56) := nIlt (i := i) (j := 56) (by omega) (by omega)
    have hni : ¬ i < 56 := by omega
    unfold iA at hb'
    refine ip_step rfl ?_
    simp only [e_ops, e_nil, e_LdI, e_LdL, e_LdA, e_StI, e_StL, e_StA, e_StN, e_Inc, e_I, e_L, e_Nul, e_Ref, e_Fmt, e_Dupint, e_Popint, e_Dupref, e_Popref, e_Dp2, e_BI, e_DI, e_BL, e_DL, e_SL, e_UI, e_IL, e_LI, e_CmpL, e_Get, e_Put, e_AldI, e_AldB, e_AldL, e_AldA, e_AstI, e_AstB, e_AstL, e_AstA, e_AstN, e_Len, e_New, e_NwA, e_Cal, e_CaV, e_isO, e_Max, e_Min, e_Obj, e_Cpy, e_Go, e_If, e_Cm, e_NuN, e_NuR, e_Sw, e_RI, e_RL, e_RV, e_fI, e_fL, e_fA, e_fO, e_fZ, e_clr, ip_clr, List.getElem?_cons_zero, List.getElem?_cons_succ, List.getElem?_nil, List.set_cons_zero, List.set_cons_succ, List.set_nil, Nat.add_one_sub_one, Nat.sub_self, Nat.zero_sub, List.length_cons, List.length_nil, List.length_set, List.take_succ_cons, List.take_zero, List.drop_succ_cons, List.drop_zero, List.reverse_cons, List.reverse_nil, List.nil_append, List.cons_append, List.append_nil, Option.toList_some, Option.toList_none, ip_up_same, ip_upup, if_true, if_false, ite_true, ite_false, true_and, and_true, and_self, true_or, or_true, Nat.zero_add, Nat.add_zero, Nat.le_refl, Nat.zero_le, reduceIte, reduceCtorEq, ne_eq, not_true_eq_false, not_false_eq_true, ip_nari, ip_narif, ip_narb0, ip_narb1, forall_const, Nat.reduceSub, Nat.reduceAdd, Nat.reduceLeDiff, Nat.reduceEqDiff, Nat.reduceLT, Nat.reduceMul, Int32.reduceLT, Int32.reduceLE, Int32.reduceToNatClampNeg, i10, i01, it01, it10, eq_self, ip_uh, hlt, hni]
    simp only [false_implies, true_and, true_implies]
    refine ip_step rfl ?_
    simp only [e_ops, e_nil, e_LdI, e_LdL, e_LdA, e_StI, e_StL, e_StA, e_StN, e_Inc, e_I, e_L, e_Nul, e_Ref, e_Fmt, e_Dupint, e_Popint, e_Dupref, e_Popref, e_Dp2, e_BI, e_DI, e_BL, e_DL, e_SL, e_UI, e_IL, e_LI, e_CmpL, e_Get, e_Put, e_AldI, e_AldB, e_AldL, e_AldA, e_AstI, e_AstB, e_AstL, e_AstA, e_AstN, e_Len, e_New, e_NwA, e_Cal, e_CaV, e_isO, e_Max, e_Min, e_Obj, e_Cpy, e_Go, e_If, e_Cm, e_NuN, e_NuR, e_Sw, e_RI, e_RL, e_RV, e_fI, e_fL, e_fA, e_fO, e_fZ, e_clr, ip_clr, List.getElem?_cons_zero, List.getElem?_cons_succ, List.getElem?_nil, List.set_cons_zero, List.set_cons_succ, List.set_nil, Nat.add_one_sub_one, Nat.sub_self, Nat.zero_sub, List.length_cons, List.length_nil, List.length_set, List.take_succ_cons, List.take_zero, List.drop_succ_cons, List.drop_zero, List.reverse_cons, List.reverse_nil, List.nil_append, List.cons_append, List.append_nil, Option.toList_some, Option.toList_none, ip_up_same, ip_upup, if_true, if_false, ite_true, ite_false, true_and, and_true, and_self, true_or, or_true, Nat.zero_add, Nat.add_zero, Nat.le_refl, Nat.zero_le, reduceIte, reduceCtorEq, ne_eq, not_true_eq_false, not_false_eq_true, ip_nari, ip_narif, ip_narb0, ip_narb1, forall_const, Nat.reduceSub, Nat.reduceAdd, Nat.reduceLeDiff, Nat.reduceEqDiff, Nat.reduceLT, Nat.reduceMul, Int32.reduceLT, Int32.reduceLE, Int32.reduceToNatClampNeg, i10, i01, it01, it10, eq_self, ip_uh, hb', hb, mq0, mq1, mq2, mq3]
    refine h _ _ ip_up_same ⟨rfl, rfl, rfl, rfl, fun k h1 h2 => ?_⟩ (fun k hk => ?_)
    · rw [updN (by omega), updN (by omega), updN (by omega), updN (by omega)]
      exact he k (by omega)
    · exact (ip_up_ne hk).trans (hF k hk)
  | succ j ih =>
    intro i M e hi he hb' hF
    have hlt : (nI i < 56) = (i < 56) := nIlt (i := i) (j := 56) (by omega) (by omega)
    have hni : i < 56 := by omega
    have hc := nIc (i := i) (by omega)
    have hv := nIin (i := i) (N := 56) hni (by omega)
    unfold iA at hb'
    refine ip_step rfl ?_
    simp only [e_ops, e_nil, e_LdI, e_LdL, e_LdA, e_StI, e_StL, e_StA, e_StN, e_Inc, e_I, e_L, e_Nul, e_Ref, e_Fmt, e_Dupint, e_Popint, e_Dupref, e_Popref, e_Dp2, e_BI, e_DI, e_BL, e_DL, e_SL, e_UI, e_IL, e_LI, e_CmpL, e_Get, e_Put, e_AldI, e_AldB, e_AldL, e_AldA, e_AstI, e_AstB, e_AstL, e_AstA, e_AstN, e_Len, e_New, e_NwA, e_Cal, e_CaV, e_isO, e_Max, e_Min, e_Obj, e_Cpy, e_Go, e_If, e_Cm, e_NuN, e_NuR, e_Sw, e_RI, e_RL, e_RV, e_fI, e_fL, e_fA, e_fO, e_fZ, e_clr, ip_clr, List.getElem?_cons_zero, List.getElem?_cons_succ, List.getElem?_nil, List.set_cons_zero, List.set_cons_succ, List.set_nil, Nat.add_one_sub_one, Nat.sub_self, Nat.zero_sub, List.length_cons, List.length_nil, List.length_set, List.take_succ_cons, List.take_zero, List.drop_succ_cons, List.drop_zero, List.reverse_cons, List.reverse_nil, List.nil_append, List.cons_append, List.append_nil, Option.toList_some, Option.toList_none, ip_up_same, ip_upup, if_true, if_false, ite_true, ite_false, true_and, and_true, and_self, true_or, or_true, Nat.zero_add, Nat.add_zero, Nat.le_refl, Nat.zero_le, reduceIte, reduceCtorEq, ne_eq, not_true_eq_false, not_false_eq_true, ip_nari, ip_narif, ip_narb0, ip_narb1, forall_const, Nat.reduceSub, Nat.reduceAdd, Nat.reduceLeDiff, Nat.reduceEqDiff, Nat.reduceLT, Nat.reduceMul, Int32.reduceLT, Int32.reduceLE, Int32.reduceToNatClampNeg, i10, i01, it01, it10, eq_self, ip_uh, hlt, hni]
    simp only [false_implies, and_true, true_implies]
    refine ip_step rfl ?_
    simp only [e_ops, e_nil, e_LdI, e_LdL, e_LdA, e_StI, e_StL, e_StA, e_StN, e_Inc, e_I, e_L, e_Nul, e_Ref, e_Fmt, e_Dupint, e_Popint, e_Dupref, e_Popref, e_Dp2, e_BI, e_DI, e_BL, e_DL, e_SL, e_UI, e_IL, e_LI, e_CmpL, e_Get, e_Put, e_AldI, e_AldB, e_AldL, e_AldA, e_AstI, e_AstB, e_AstL, e_AstA, e_AstN, e_Len, e_New, e_NwA, e_Cal, e_CaV, e_isO, e_Max, e_Min, e_Obj, e_Cpy, e_Go, e_If, e_Cm, e_NuN, e_NuR, e_Sw, e_RI, e_RL, e_RV, e_fI, e_fL, e_fA, e_fO, e_fZ, e_clr, ip_clr, List.getElem?_cons_zero, List.getElem?_cons_succ, List.getElem?_nil, List.set_cons_zero, List.set_cons_succ, List.set_nil, Nat.add_one_sub_one, Nat.sub_self, Nat.zero_sub, List.length_cons, List.length_nil, List.length_set, List.take_succ_cons, List.take_zero, List.drop_succ_cons, List.drop_zero, List.reverse_cons, List.reverse_nil, List.nil_append, List.cons_append, List.append_nil, Option.toList_some, Option.toList_none, ip_up_same, ip_upup, if_true, if_false, ite_true, ite_false, true_and, and_true, and_self, true_or, or_true, Nat.zero_add, Nat.add_zero, Nat.le_refl, Nat.zero_le, reduceIte, reduceCtorEq, ne_eq, not_true_eq_false, not_false_eq_true, ip_nari, ip_narif, ip_narb0, ip_narb1, forall_const, Nat.reduceSub, Nat.reduceAdd, Nat.reduceLeDiff, Nat.reduceEqDiff, Nat.reduceLT, Nat.reduceMul, Int32.reduceLT, Int32.reduceLE, Int32.reduceToNatClampNeg, i10, i01, it01, it10, eq_self, ip_uh, hb', hc, hv, hb]
    rw [nI_1]
    refine ih (i + 1) _ (upd e i 0) (by omega) (fun k hk => ?_) ip_up_same (fun k hk => (ip_up_ne hk).trans (hF k hk))
    by_cases ek : k = i
    · subst ek; exact updS
    · rw [updN ek]; exact he k (by omega)
theorem sp_begins {d : Nat} (hd : 1 ≤ d) {b : Nat} (hb : 64 ≤ b) {e : Nat → Int32} {M : ip_M} {n : Nat} {Φ : ip_P} (hb' : M b = iA 56 e) (h : ∀ M' e, M' b = iA 56 e → (e 0 = 8 ∧ e 1 = 3 ∧ e 2 = 2 ∧ e 3 = 20 ∧ ∀ k, 4 ≤ k → k < 56 → e k = 0) → (∀ k, k ≠ b → M' k = M k) → Φ none M' n) : ip_call tb d 119 [.ref b] M n Φ := by
  obtain ⟨d, rfl⟩ := ip_d1 (Nat.le_trans (by decide) hd)
  rw [cl_119]
  simp only [ip_loc, ip_ent, List.length_cons, List.length_nil, List.replicate_succ, List.replicate_zero, List.append_nil, List.nil_append, List.cons_append, Nat.zero_add, Nat.reduceAdd, Nat.reduceSub, Nat.reduceLeDiff, true_and, Nat.le_refl]
  refine ip_step rfl ?_
  simp only [e_ops, e_nil, e_LdI, e_LdL, e_LdA, e_StI, e_StL, e_StA, e_StN, e_Inc, e_I, e_L, e_Nul, e_Ref, e_Fmt, e_Dupint, e_Popint, e_Dupref, e_Popref, e_Dp2, e_BI, e_DI, e_BL, e_DL, e_SL, e_UI, e_IL, e_LI, e_CmpL, e_Get, e_Put, e_AldI, e_AldB, e_AldL, e_AldA, e_AstI, e_AstB, e_AstL, e_AstA, e_AstN, e_Len, e_New, e_NwA, e_Cal, e_CaV, e_isO, e_Max, e_Min, e_Obj, e_Cpy, e_Go, e_If, e_Cm, e_NuN, e_NuR, e_Sw, e_RI, e_RL, e_RV, e_fI, e_fL, e_fA, e_fO, e_fZ, e_clr, ip_clr, List.getElem?_cons_zero, List.getElem?_cons_succ, List.getElem?_nil, List.set_cons_zero, List.set_cons_succ, List.set_nil, Nat.add_one_sub_one, Nat.sub_self, Nat.zero_sub, List.length_cons, List.length_nil, List.length_set, List.take_succ_cons, List.take_zero, List.drop_succ_cons, List.drop_zero, List.reverse_cons, List.reverse_nil, List.nil_append, List.cons_append, List.append_nil, Option.toList_some, Option.toList_none, ip_up_same, ip_upup, if_true, if_false, ite_true, ite_false, true_and, and_true, and_self, true_or, or_true, Nat.zero_add, Nat.add_zero, Nat.le_refl, Nat.zero_le, reduceIte, reduceCtorEq, ne_eq, not_true_eq_false, not_false_eq_true, ip_nari, ip_narif, ip_narb0, ip_narb1, forall_const, Nat.reduceSub, Nat.reduceAdd, Nat.reduceLeDiff, Nat.reduceEqDiff, Nat.reduceLT, Nat.reduceMul, Int32.reduceLT, Int32.reduceLE, Int32.reduceToNatClampNeg, i10, i01, it01, it10, eq_self, ip_uh]
  exact lp_begins hb h 56 0 M e (by omega) (fun k hk => absurd hk (by omega)) hb' (fun _ _ => rfl)
