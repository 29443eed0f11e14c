theorem rq72 {M : ip_M} {R : Rg} (h : rgAt M 72 R) : M 72 = rgO 72 R ∧ M 73 = iA 4 (rLw R) ∧ M 74 = iA 8 (rKd R) ∧ M 75 = iA 8 (rWt R) ∧ M 76 = iA 8 (rPl R) ∧ M 77 = iA 8 (rYe R) ∧ M 78 = iA 8 (rNo R) := h
theorem updS {f : Nat → Int32} {i : Nat} {v : Int32} : upd f i v i = v := if_pos rfl
def setPl (R : Rg) (f : Nat → Int32) : Rg := (rLw R, rFa R, rSp R, rZ R, rW R, rKd R, rWt R, f, rYe R, rNo R, rFl R)
def setYe (R : Rg) (f : Nat → Int32) : Rg := (rLw R, rFa R, rSp R, rZ R, rW R, rKd R, rWt R, rPl R, f, rNo R, rFl R)
def setNo (R : Rg) (f : Nat → Int32) : Rg := (rLw R, rFa R, rSp R, rZ R, rW R, rKd R, rWt R, rPl R, rYe R, f, rFl R)
/-- the text is at t, the ring tried is R, all else stays -/
def rdAt (M0 M : ip_M) (f : Nat → Int32) (l : Nat) (t : St) (R : Rg) : Prop := M 87 = tS l t ∧ M 88 = bA 200 f ∧ exAt M ∧ rgAt M 72 R ∧ ∀ k, (k < 72 ∨ (78 < k ∧ k ≠ 87)) → M k = M0 k
theorem rdAt.t {M0 M : ip_M} {f : Nat → Int32} {l : Nat} {t t' : St} {R : Rg} (h : rdAt M0 M f l t R) : rdAt M0 (ip_up M 87 (tS l t')) f l t' R := by
  obtain ⟨h1, h2, h3, h4, h5⟩ := h
  exact ⟨ip_up_same, (ip_up_ne (by omega)).trans h2, h3.up (by omega), h4.of (fun k q1 q2 => ip_up_ne (by omega)), fun k hk => (ip_up_ne (by omega)).trans (h5 k hk)⟩
theorem rdAt.r {M0 M M' : ip_M} {f : Nat → Int32} {l : Nat} {t : St} {R R' : Rg} (h : rdAt M0 M f l t R) (hR : rgAt M' 72 R') (hF : ∀ k, (k < 72 ∨ 78 < k) → M' k = M k) : rdAt M0 M' f l t R' := by
  obtain ⟨h1, h2, h3, h4, h5⟩ := h
  exact ⟨(hF _ (by omega)).trans h1, (hF _ (by omega)).trans h2, fun k q1 q2 => (hF k (by omega)).trans (h3 k q1 q2), hR, fun k hk => (hF k (by omega)).trans (h5 k hk)⟩
theorem rdAt.wt {M0 M : ip_M} {f g : Nat → Int32} {l : Nat} {t : St} {R : Rg} (h : rdAt M0 M f l t R) : rdAt M0 (ip_up M 75 (iA 8 g)) f l t (setWt R g) := by
  obtain ⟨h0, h1, h2, h3, h4, h5, h6⟩ := rq72 h.2.2.2.1
  exact h.r ⟨(ip_up_ne (by omega)).trans h0, (ip_up_ne (by omega)).trans h1, (ip_up_ne (by omega)).trans h2, ip_up_same, (ip_up_ne (by omega)).trans h4, (ip_up_ne (by omega)).trans h5, (ip_up_ne (by omega)).trans h6⟩ (fun k hk => ip_up_ne (by omega))
theorem rdAt.pl {M0 M : ip_M} {f g : Nat → Int32} {l : Nat} {t : St} {R : Rg} (h : rdAt M0 M f l t R) : rdAt M0 (ip_up M 76 (iA 8 g)) f l t (setPl R g) := by
  obtain ⟨h0, h1, h2, h3, h4, h5, h6⟩ := rq72 h.2.2.2.1
  exact h.r ⟨(ip_up_ne (by omega)).trans h0, (ip_up_ne (by omega)).trans h1, (ip_up_ne (by omega)).trans h2, (ip_up_ne (by omega)).trans h3, ip_up_same, (ip_up_ne (by omega)).trans h5, (ip_up_ne (by omega)).trans h6⟩ (fun k hk => ip_up_ne (by omega))
theorem rdAt.ye {M0 M : ip_M} {f g : Nat → Int32} {l : Nat} {t : St} {R : Rg} (h : rdAt M0 M f l t R) : rdAt M0 (ip_up M 77 (iA 8 g)) f l t (setYe R g) := by
  obtain ⟨h0, h1, h2, h3, h4, h5, h6⟩ := rq72 h.2.2.2.1
  exact h.r ⟨(ip_up_ne (by omega)).trans h0, (ip_up_ne (by omega)).trans h1, (ip_up_ne (by omega)).trans h2, (ip_up_ne (by omega)).trans h3, (ip_up_ne (by omega)).trans h4, ip_up_same, (ip_up_ne (by omega)).trans h6⟩ (fun k hk => ip_up_ne (by omega))
theorem rdAt.no {M0 M : ip_M} {f g : Nat → Int32} {l : Nat} {t : St} {R : Rg} (h : rdAt M0 M f l t R) : rdAt M0 (ip_up M 78 (iA 8 g)) f l t (setNo R g) := by
  obtain ⟨h0, h1, h2, h3, h4, h5, h6⟩ := rq72 h.2.2.2.1
  exact h.r ⟨(ip_up_ne (by omega)).trans h0, (ip_up_ne (by omega)).trans h1, (ip_up_ne (by omega)).trans h2, (ip_up_ne (by omega)).trans h3, (ip_up_ne (by omega)).trans h4, (ip_up_ne (by omega)).trans h5, ip_up_same⟩ (fun k hk => ip_up_ne (by omega))
theorem rdAt.lw {M0 M : ip_M} {f g : Nat → Int32} {l : Nat} {t : St} {R : Rg} (h : rdAt M0 M f l t R) : rdAt M0 (ip_up M 73 (iA 4 g)) f l t (setLw R g) := by
  obtain ⟨h0, h1, h2, h3, h4, h5, h6⟩ := rq72 h.2.2.2.1
  exact h.r ⟨(ip_up_ne (by omega)).trans h0, ip_up_same, (ip_up_ne (by omega)).trans h2, (ip_up_ne (by omega)).trans h3, (ip_up_ne (by omega)).trans h4, (ip_up_ne (by omega)).trans h5, (ip_up_ne (by omega)).trans h6⟩ (fun k hk => ip_up_ne (by omega))
theorem rdAt.fa {M0 M : ip_M} {f : Nat → Int32} {l : Nat} {t : St} {R : Rg} {x : Int32} (h : rdAt M0 M f l t R) : rdAt M0 (ip_up M 72 (rgO 72 (setFa R x))) f l t (setFa R x) := by
  obtain ⟨h0, h1, h2, h3, h4, h5, h6⟩ := rq72 h.2.2.2.1
  exact h.r ⟨ip_up_same, (ip_up_ne (by omega)).trans h1, (ip_up_ne (by omega)).trans h2, (ip_up_ne (by omega)).trans h3, (ip_up_ne (by omega)).trans h4, (ip_up_ne (by omega)).trans h5, (ip_up_ne (by omega)).trans h6⟩ (fun k hk => ip_up_ne (by omega))
def rdWa (f : Nat → Int32) (l : Nat) (t : St) : Int32 × St := rdO f l 10 99 0 10 t
def rdWb (f : Nat → Int32) (l : Nat) (t : St) : Int32 × St := rdO f l 11 20 0 0 (rdWa f l t).2
def rdWc (f : Nat → Int32) (l : Nat) (t : St) : Int32 × St := rdO f l 12 255 0 0 (rdWb f l t).2
def rdWe (f : Nat → Int32) (l : Nat) (t : St) : Int32 × St := rdO f l 13 255 (rdWc f l t).1 0 (rdWc f l t).2
def rdW (f : Nat → Int32) (l : Nat) (R : Rg) (i : Nat) (t : St) : Rg × St := (setNo (setYe (setPl (setWt R (upd (rWt R) i (rdWa f l t).1)) (upd (rPl R) i (rdWb f l t).1)) (upd (rYe R) i (rdWc f l t).1)) (upd (rNo R) i (rdWe f l t).1), (rdWe f l t).2)
theorem sp_readWalker {d : Nat} (hd : 7 ≤ d) {f : Nat → Int32} {l i : Nat} {t : St} {R : Rg} (hi : i < 8) (hl : l ≤ 200) (hT : tkOk l t.1) {M0 M : ip_M} {n : Nat} {Φ : ip_P} (hA : rdAt M0 M f l t R) (h : ∀ M', rdAt M0 M' f l (rdW f l R i t).2 (rdW f l R i t).1 → Φ none M' n) : ip_call tb d 26 [.ref 87, .ref 72, .int (nI i)] M n Φ := by
  have hv := nIin (i := i) (N := 8) hi (by omega)
  have hc9 := nIc (i := i) (by omega)
  obtain ⟨r0, r1, r2, r3, r4, r5, r6⟩ := rq72 hA.2.2.2.1
  have h87 := hA.1
  obtain ⟨d, rfl⟩ := ip_d1 (Nat.le_trans (by decide) hd)
  rw [cl_26]
  simp only [ip_loc, ip_ent, List.length_cons, List.length_nil, List.replicate_succ, List.replicate_zero, List.append_nil, List.nil_append, List.cons_append, Nat.zero_add, Nat.reduceAdd, Nat.reduceSub, Nat.reduceLeDiff, true_and, Nat.le_refl]
  refine ip_step rfl ?_
  simp only [e_ops, e_nil, e_LdI, e_LdL, e_LdA, e_StI, e_StL, e_StA, e_StN, e_Inc, e_I, e_L, e_Nul, e_Ref, e_Fmt, e_Dupint, e_Popint, e_Dupref, e_Popref, e_Dp2, e_BI, e_DI, e_BL, e_DL, e_SL, e_UI, e_IL, e_LI, e_CmpL, e_Get, e_Put, e_AldI, e_AldB, e_AldL, e_AldA, e_AstI, e_AstB, e_AstL, e_AstA, e_AstN, e_Len, e_New, e_NwA, e_Cal, e_CaV, e_isO, e_Max, e_Min, e_Obj, e_Cpy, e_Go, e_If, e_Cm, e_NuN, e_NuR, e_Sw, e_RI, e_RL, e_RV, e_fI, e_fL, e_fA, e_fO, e_fZ, e_clr, ip_clr, List.getElem?_cons_zero, List.getElem?_cons_succ, List.getElem?_nil, List.set_cons_zero, List.set_cons_succ, List.set_nil, Nat.add_one_sub_one, Nat.sub_self, Nat.zero_sub, List.length_cons, List.length_nil, List.length_set, List.take_succ_cons, List.take_zero, List.drop_succ_cons, List.drop_zero, List.reverse_cons, List.reverse_nil, List.nil_append, List.cons_append, List.append_nil, Option.toList_some, Option.toList_none, ip_up_same, ip_upup, if_true, if_false, ite_true, ite_false, true_and, and_true, and_self, true_or, or_true, Nat.zero_add, Nat.add_zero, Nat.le_refl, Nat.zero_le, reduceIte, reduceCtorEq, ne_eq, not_true_eq_false, not_false_eq_true, ip_nari, ip_narif, ip_narb0, ip_narb1, forall_const, Nat.reduceSub, Nat.reduceAdd, Nat.reduceLeDiff, Nat.reduceEqDiff, Nat.reduceLT, Nat.reduceMul, Int32.reduceLT, Int32.reduceLE, Int32.reduceToNatClampNeg, i10, i01, it01, it10, eq_self, ip_uh, h87, tS, txT, txC, r0, rgO]
  refine sp_readOption (k := 10) (by omega) (by omega) hl hT h87 hA.2.1 hA.2.2.1 ?_
  simp only [e_ops, e_nil, e_LdI, e_LdL, e_LdA, e_StI, e_StL, e_StA, e_StN, e_Inc, e_I, e_L, e_Nul, e_Ref, e_Fmt, e_Dupint, e_Popint, e_Dupref, e_Popref, e_Dp2, e_BI, e_DI, e_BL, e_DL, e_SL, e_UI, e_IL, e_LI, e_CmpL, e_Get, e_Put, e_AldI, e_AldB, e_AldL, e_AldA, e_AstI, e_AstB, e_AstL, e_AstA, e_AstN, e_Len, e_New, e_NwA, e_Cal, e_CaV, e_isO, e_Max, e_Min, e_Obj, e_Cpy, e_Go, e_If, e_Cm, e_NuN, e_NuR, e_Sw, e_RI, e_RL, e_RV, e_fI, e_fL, e_fA, e_fO, e_fZ, e_clr, ip_clr, List.getElem?_cons_zero, List.getElem?_cons_succ, List.getElem?_nil, List.set_cons_zero, List.set_cons_succ, List.set_nil, Nat.add_one_sub_one, Nat.sub_self, Nat.zero_sub, List.length_cons, List.length_nil, List.length_set, List.take_succ_cons, List.take_zero, List.drop_succ_cons, List.drop_zero, List.reverse_cons, List.reverse_nil, List.nil_append, List.cons_append, List.append_nil, Option.toList_some, Option.toList_none, ip_up_same, ip_upup, if_true, if_false, ite_true, ite_false, true_and, and_true, and_self, true_or, or_true, Nat.zero_add, Nat.add_zero, Nat.le_refl, Nat.zero_le, reduceIte, reduceCtorEq, ne_eq, not_true_eq_false, not_false_eq_true, ip_nari, ip_narif, ip_narb0, ip_narb1, forall_const, Nat.reduceSub, Nat.reduceAdd, Nat.reduceLeDiff, Nat.reduceEqDiff, Nat.reduceLT, Nat.reduceMul, Int32.reduceLT, Int32.reduceLE, Int32.reduceToNatClampNeg, i10, i01, it01, it10, eq_self, ip_uh, r3, iA, hv, hc9, r0, rgO]
  refine ⟨rfl, ?_⟩
  have hA1 : rdAt M0 (ip_up (ip_up M 87 (tS l (rdWa f l t).2)) 75 (iA 8 (upd (rWt R) i (rdWa f l t).1))) f l (rdWa f l t).2 (setWt R (upd (rWt R) i (rdWa f l t).1)) := hA.t.wt
  have hT1 : tkOk l (rdWa f l t).2.1 := rdO_ok hT
  have aS : ip_up (ip_up M 87 (tS l (rdO f l 10 99 0 10 t).2)) 75 (.inl (.int, 8, .inl (upd (rWt R) i (rdO f l 10 99 0 10 t).1))) = ip_up (ip_up M 87 (tS l (rdWa f l t).2)) 75 (iA 8 (upd (rWt R) i (rdWa f l t).1)) := rfl
  rw [aS]
  generalize ip_up (ip_up M 87 (tS l (rdWa f l t).2)) 75 (iA 8 (upd (rWt R) i (rdWa f l t).1)) = M1 at *
  clear aS r0 r1 r2 r3 r4 r5 r6 h87
  obtain ⟨r0, r1, r2, r3, r4, r5, r6⟩ := rq72 hA1.2.2.2.1
  have h87 := hA1.1
  refine sp_readOption (k := 11) (by omega) (by omega) hl hT1 h87 hA1.2.1 hA1.2.2.1 ?_
  simp only [e_ops, e_nil, e_LdI, e_LdL, e_LdA, e_StI, e_StL, e_StA, e_StN, e_Inc, e_I, e_L, e_Nul, e_Ref, e_Fmt, e_Dupint, e_Popint, e_Dupref, e_Popref, e_Dp2, e_BI, e_DI, e_BL, e_DL, e_SL, e_UI, e_IL, e_LI, e_CmpL, e_Get, e_Put, e_AldI, e_AldB, e_AldL, e_AldA, e_AstI, e_AstB, e_AstL, e_AstA, e_AstN, e_Len, e_New, e_NwA, e_Cal, e_CaV, e_isO, e_Max, e_Min, e_Obj, e_Cpy, e_Go, e_If, e_Cm, e_NuN, e_NuR, e_Sw, e_RI, e_RL, e_RV, e_fI, e_fL, e_fA, e_fO, e_fZ, e_clr, ip_clr, List.getElem?_cons_zero, List.getElem?_cons_succ, List.getElem?_nil, List.set_cons_zero, List.set_cons_succ, List.set_nil, Nat.add_one_sub_one, Nat.sub_self, Nat.zero_sub, List.length_cons, List.length_nil, List.length_set, List.take_succ_cons, List.take_zero, List.drop_succ_cons, List.drop_zero, List.reverse_cons, List.reverse_nil, List.nil_append, List.cons_append, List.append_nil, Option.toList_some, Option.toList_none, ip_up_same, ip_upup, if_true, if_false, ite_true, ite_false, true_and, and_true, and_self, true_or, or_true, Nat.zero_add, Nat.add_zero, Nat.le_refl, Nat.zero_le, reduceIte, reduceCtorEq, ne_eq, not_true_eq_false, not_false_eq_true, ip_nari, ip_narif, ip_narb0, ip_narb1, forall_const, Nat.reduceSub, Nat.reduceAdd, Nat.reduceLeDiff, Nat.reduceEqDiff, Nat.reduceLT, Nat.reduceMul, Int32.reduceLT, Int32.reduceLE, Int32.reduceToNatClampNeg, i10, i01, it01, it10, eq_self, ip_uh, r4, iA, hv, hc9, r0, rgO]
  refine ⟨rfl, ?_⟩
  have hA2 : rdAt M0 (ip_up (ip_up M1 87 (tS l (rdWb f l t).2)) 76 (iA 8 (upd (rPl R) i (rdWb f l t).1))) f l (rdWb f l t).2 (setPl (setWt R (upd (rWt R) i (rdWa f l t).1)) (upd (rPl R) i (rdWb f l t).1)) := hA1.t.pl
  have hT2 : tkOk l (rdWb f l t).2.1 := rdO_ok hT1
  have aS : ip_up (ip_up M1 87 (tS l (rdO f l 11 20 0 0 (rdWa f l t).2).2)) 76 (.inl (.int, 8, .inl (upd (rPl (setWt R (upd (rWt R) i (rdWa f l t).1))) i (rdO f l 11 20 0 0 (rdWa f l t).2).1))) = ip_up (ip_up M1 87 (tS l (rdWb f l t).2)) 76 (iA 8 (upd (rPl R) i (rdWb f l t).1)) := rfl
  rw [aS]
  generalize ip_up (ip_up M1 87 (tS l (rdWb f l t).2)) 76 (iA 8 (upd (rPl R) i (rdWb f l t).1)) = M2 at *
  clear aS r0 r1 r2 r3 r4 r5 r6 h87
  obtain ⟨r0, r1, r2, r3, r4, r5, r6⟩ := rq72 hA2.2.2.2.1
  have h87 := hA2.1
  refine sp_readOption (k := 12) (by omega) (by omega) hl hT2 h87 hA2.2.1 hA2.2.2.1 ?_
  simp only [e_ops, e_nil, e_LdI, e_LdL, e_LdA, e_StI, e_StL, e_StA, e_StN, e_Inc, e_I, e_L, e_Nul, e_Ref, e_Fmt, e_Dupint, e_Popint, e_Dupref, e_Popref, e_Dp2, e_BI, e_DI, e_BL, e_DL, e_SL, e_UI, e_IL, e_LI, e_CmpL, e_Get, e_Put, e_AldI, e_AldB, e_AldL, e_AldA, e_AstI, e_AstB, e_AstL, e_AstA, e_AstN, e_Len, e_New, e_NwA, e_Cal, e_CaV, e_isO, e_Max, e_Min, e_Obj, e_Cpy, e_Go, e_If, e_Cm, e_NuN, e_NuR, e_Sw, e_RI, e_RL, e_RV, e_fI, e_fL, e_fA, e_fO, e_fZ, e_clr, ip_clr, List.getElem?_cons_zero, List.getElem?_cons_succ, List.getElem?_nil, List.set_cons_zero, List.set_cons_succ, List.set_nil, Nat.add_one_sub_one, Nat.sub_self, Nat.zero_sub, List.length_cons, List.length_nil, List.length_set, List.take_succ_cons, List.take_zero, List.drop_succ_cons, List.drop_zero, List.reverse_cons, List.reverse_nil, List.nil_append, List.cons_append, List.append_nil, Option.toList_some, Option.toList_none, ip_up_same, ip_upup, if_true, if_false, ite_true, ite_false, true_and, and_true, and_self, true_or, or_true, Nat.zero_add, Nat.add_zero, Nat.le_refl, Nat.zero_le, reduceIte, reduceCtorEq, ne_eq, not_true_eq_false, not_false_eq_true, ip_nari, ip_narif, ip_narb0, ip_narb1, forall_const, Nat.reduceSub, Nat.reduceAdd, Nat.reduceLeDiff, Nat.reduceEqDiff, Nat.reduceLT, Nat.reduceMul, Int32.reduceLT, Int32.reduceLE, Int32.reduceToNatClampNeg, i10, i01, it01, it10, eq_self, ip_uh, r5, iA, hv, hc9, r0, rgO, updS]
  refine ⟨rfl, ?_⟩
  have hA3 : rdAt M0 (ip_up (ip_up M2 87 (tS l (rdWc f l t).2)) 77 (iA 8 (upd (rYe R) i (rdWc f l t).1))) f l (rdWc f l t).2 (setYe (setPl (setWt R (upd (rWt R) i (rdWa f l t).1)) (upd (rPl R) i (rdWb f l t).1)) (upd (rYe R) i (rdWc f l t).1)) := hA2.t.ye
  have hT3 : tkOk l (rdWc f l t).2.1 := rdO_ok hT2
  have aS : ip_up (ip_up M2 87 (tS l (rdO f l 12 255 0 0 (rdWb f l t).2).2)) 77 (.inl (.int, 8, .inl (upd (rYe (setPl (setWt R (upd (rWt R) i (rdWa f l t).1)) (upd (rPl R) i (rdWb f l t).1))) i (rdO f l 12 255 0 0 (rdWb f l t).2).1))) = ip_up (ip_up M2 87 (tS l (rdWc f l t).2)) 77 (iA 8 (upd (rYe R) i (rdWc f l t).1)) := rfl
  rw [aS]
  generalize ip_up (ip_up M2 87 (tS l (rdWc f l t).2)) 77 (iA 8 (upd (rYe R) i (rdWc f l t).1)) = M3 at *
  clear aS r0 r1 r2 r3 r4 r5 r6 h87
  obtain ⟨r0, r1, r2, r3, r4, r5, r6⟩ := rq72 hA3.2.2.2.1
  replace r5 : M3 77 = iA 8 (upd (rYe R) i (rdWc f l t).1) := r5
  have h87 := hA3.1
  refine sp_readOption (k := 13) (by omega) (by omega) hl hT3 h87 hA3.2.1 hA3.2.2.1 ?_
  simp only [e_ops, e_nil, e_LdI, e_LdL, e_LdA, e_StI, e_StL, e_StA, e_StN, e_Inc, e_I, e_L, e_Nul, e_Ref, e_Fmt, e_Dupint, e_Popint, e_Dupref, e_Popref, e_Dp2, e_BI, e_DI, e_BL, e_DL, e_SL, e_UI, e_IL, e_LI, e_CmpL, e_Get, e_Put, e_AldI, e_AldB, e_AldL, e_AldA, e_AstI, e_AstB, e_AstL, e_AstA, e_AstN, e_Len, e_New, e_NwA, e_Cal, e_CaV, e_isO, e_Max, e_Min, e_Obj, e_Cpy, e_Go, e_If, e_Cm, e_NuN, e_NuR, e_Sw, e_RI, e_RL, e_RV, e_fI, e_fL, e_fA, e_fO, e_fZ, e_clr, ip_clr, List.getElem?_cons_zero, List.getElem?_cons_succ, List.getElem?_nil, List.set_cons_zero, List.set_cons_succ, List.set_nil, Nat.add_one_sub_one, Nat.sub_self, Nat.zero_sub, List.length_cons, List.length_nil, List.length_set, List.take_succ_cons, List.take_zero, List.drop_succ_cons, List.drop_zero, List.reverse_cons, List.reverse_nil, List.nil_append, List.cons_append, List.append_nil, Option.toList_some, Option.toList_none, ip_up_same, ip_upup, if_true, if_false, ite_true, ite_false, true_and, and_true, and_self, true_or, or_true, Nat.zero_add, Nat.add_zero, Nat.le_refl, Nat.zero_le, reduceIte, reduceCtorEq, ne_eq, not_true_eq_false, not_false_eq_true, ip_nari, ip_narif, ip_narb0, ip_narb1, forall_const, Nat.reduceSub, Nat.reduceAdd, Nat.reduceLeDiff, Nat.reduceEqDiff, Nat.reduceLT, Nat.reduceMul, Int32.reduceLT, Int32.reduceLE, Int32.reduceToNatClampNeg, i10, i01, it01, it10, eq_self, ip_uh, r6, iA, hv, hc9]
  exact h _ hA3.t.no
