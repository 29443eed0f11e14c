theorem updN {f : Nat → Int32} {i k : Nat} {v : Int32} (h : ¬ k = i) : upd f i v k = f k := if_neg h
theorem nrm_up {f : Nat → Int32} {i N : Nat} {v : Int32} (hi : i < N) (h : ∀ k, N ≤ k → f k = 0) : ∀ k, N ≤ k → upd f i v k = 0 := fun k hk => (updN (by omega)).trans (h k hk)
theorem addR_nrm {R : Rg} {kd wt : Int32} (hw : rW R < 8) (h : nrm R) : nrm (addR R kd wt) := by
  obtain ⟨h1, h2, h3, h4, h5, h6⟩ := h
  exact ⟨h1, nrm_up hw h2, nrm_up hw h3, nrm_up hw h4, nrm_up hw h5, nrm_up hw h6⟩
theorem rdW_nrm {f : Nat → Int32} {l i : Nat} {R : Rg} {t : St} (hi : i < 8) (h : nrm R) : nrm (rdW f l R i t).1 := by
  obtain ⟨h1, h2, h3, h4, h5, h6⟩ := h
  exact ⟨h1, h2, nrm_up hi h3, nrm_up hi h4, nrm_up hi h5, nrm_up hi h6⟩
theorem rdOne_nrm {f : Nat → Int32} {l : Nat} {R : Rg} {t : St} (h : nrm R) : nrm (rdOne f l R t).1 := by
  show nrm (rdOneA f l R t (whF f t.1 0 6 0) (whF f t.1 6 4 0)).1
  have hlw := whF_lt (f := f) (T := t.1) (a := 6) 4 0
  generalize whF f t.1 0 6 0 = kd at *
  generalize whF f t.1 6 4 0 = lw at *
  unfold rdOneA
  by_cases h1 : ¬ kd = -1 ∧ rW R < 8
  · rw [if_pos h1]; exact rdW_nrm h1.2 (addR_nrm h1.2 h)
  rw [if_neg h1]
  by_cases h2 : ¬ lw = -1
  · rw [if_pos h2]
    obtain ⟨j, hj, rfl⟩ := hlw h2
    rw [nIc (by omega)]
    exact ⟨nrm_up (by omega) h.1, h.2⟩
  rw [if_neg h2]
  by_cases h3 : nmP f t.1 (txB 14)
  · rw [if_pos h3]; exact h
  rw [if_neg h3]
  exact h
theorem rdAll_nrm {f : Nat → Int32} {l : Nat} : ∀ (j : Nat) (R : Rg) (t : St), nrm R → nrm (rdAll f l j R t).1 := by
  intro j
  induction j with
  | zero => intro R t h; exact h
  | succ j ih =>
    intro R t h
    unfold rdAll
    by_cases hc : ¬ t.1.1 = 0 ∧ t.2 = -1
    · rw [if_pos hc]; exact ih _ _ (rdOne_nrm h)
    · rw [if_neg hc]; exact h
theorem rdAll_w {f : Nat → Int32} {l : Nat} : ∀ (j : Nat) (R : Rg) (t : St), rW R ≤ 8 → rW (rdAll f l j R t).1 ≤ 8 := by
  intro j
  induction j with
  | zero => intro R t h; exact h
  | succ j ih =>
    intro R t h
    unfold rdAll
    by_cases hc : ¬ t.1.1 = 0 ∧ t.2 = -1
    · rw [if_pos hc]; exact ih _ _ (rdOne_w h)
    · rw [if_neg hc]; exact h
/-- where it failed is no place, or one of the text -/
def gOk (t : St) : Prop := t.2 = -1 ∨ ∃ s, s ≤ 200 ∧ t.2 = nI s
theorem failF_g {l : Nat} {t : St} (hl : l ≤ 200) (h : tkOk l t.1) (hg : gOk t) : gOk (failF t) := by
  unfold failF
  by_cases e : t.2 = -1
  · rw [if_pos e]; exact Or.inr ⟨t.1.2.1, by have := h.2; omega, rfl⟩
  · rw [if_neg e]; exact hg
theorem rdN_g {f : Nat → Int32} {l : Nat} {mx mk : Int32} {t : St} (hl : l ≤ 200) (h : tkOk l t.1) (hg : gOk t) : gOk (rdN f l mx mk t).2 := by
  unfold rdN
  by_cases e : ¬ tnF f t.1 < 0 ∧ ¬ mx < tnF f t.1 ∧ tnF f t.1 &&& mk = 0
  · rw [if_pos e]; exact hg
  · rw [if_neg e]; exact failF_g hl h hg
theorem rdO_g {f : Nat → Int32} {l k : Nat} {mx mk dv : Int32} {t : St} (hl : l ≤ 200) (h : tkOk l t.1) (hg : gOk t) : gOk (rdO f l k mx mk dv t).2 := by
  unfold rdO
  by_cases e : nmP f t.1 (txB k)
  · rw [if_pos e]; exact rdN_g hl (advF_ok h) hg
  · rw [if_neg e]; exact hg
theorem rdC_g {f : Nat → Int32} {l : Nat} {t : St} (hl : l ≤ 200) (h : tkOk l t.1) (hg : gOk t) : gOk (rdC f l t) := by
  unfold rdC
  by_cases e : t.1.1 = 3 ∧ t.1.2.1 < l ∧ f t.1.2.1 = 59
  · rw [if_pos e]; exact hg
  · rw [if_neg e]; exact failF_g hl h hg
theorem rdW_g {f : Nat → Int32} {l i : Nat} {R : Rg} {t : St} (hl : l ≤ 200) (h : tkOk l t.1) (hg : gOk t) : gOk (rdW f l R i t).2 := rdO_g hl (rdO_ok (rdO_ok (rdO_ok h))) (rdO_g hl (rdO_ok (rdO_ok h)) (rdO_g hl (rdO_ok h) (rdO_g hl h hg)))
theorem rdOneA_g {f : Nat → Int32} {l : Nat} {R : Rg} {t : St} {kd lw : Int32} (hl : l ≤ 200) (h : tkOk l t.1) (hg : gOk t) : gOk (rdOneA f l R t kd lw).2 := by
  unfold rdOneA
  by_cases h1 : ¬ kd = -1 ∧ rW R < 8
  · rw [if_pos h1]; exact rdW_g hl (advF_ok h) hg
  rw [if_neg h1]
  by_cases h2 : ¬ lw = -1
  · rw [if_pos h2]; exact rdN_g hl (advF_ok h) hg
  rw [if_neg h2]
  by_cases h3 : nmP f t.1 (txB 14)
  · rw [if_pos h3]; exact rdN_g hl (advF_ok h) hg
  rw [if_neg h3]
  exact failF_g hl h hg
theorem rdAll_g {f : Nat → Int32} {l : Nat} (hl : l ≤ 200) : ∀ (j : Nat) (R : Rg) (t : St), tkOk l t.1 → gOk t → gOk (rdAll f l j R t).2 := by
  intro j
  induction j with
  | zero => intro R t h hg; exact hg
  | succ j ih =>
    intro R t h hg
    unfold rdAll
    by_cases hc : ¬ t.1.1 = 0 ∧ t.2 = -1
    · rw [if_pos hc]; exact ih _ _ (rdOne_ok h) (rdC_g hl (rdOneA_ok h) (rdOneA_g hl h hg))
    · rw [if_neg hc]; exact hg
def circP (S : Cs) (Rt : Rg) : Rg × St := rdAll (cBy S) (cTl S) 200 (setZ (clearR Rt) (rZ (cNow S))) (tokF (cBy S) (cTl S) 0, -1)
theorem fst_nrm : ∀ k, 4 ≤ k → fstL k = 0 := by
  intro k hk
  unfold fstL
  rw [if_neg (by omega), if_neg (by omega), if_neg (by omega), if_neg (by omega)]
theorem c_circus {d : Nat} (hd : 11 ≤ d) {S : Cs} (hl : cTl S ≤ 200) (hN : nrm (cNow S)) {M : ip_M} {n : Nat} {Φ : ip_P} (hS : clAt M n S)
    (hf : ∀ Rt, nrm Rt → ¬ (circP S Rt).2.2 = -1 → ∀ M', clAt M' n (stx S 0) → kFr M M' → Φ (some (.int (-100 - (circP S Rt).2.2))) M' n)
    (hk : ∀ Rt, nrm Rt → (circP S Rt).2.2 = -1 → ∀ M', clAt M' n (sob (sNow (stx S 0) (circP S Rt).1) (cAk S) 0) → kFr M M' → Φ (some (.int (nI (rW (circP S Rt).1)))) M' n) : ip_call tb d 53 [.ref 64] M n Φ := by
  have h64 := hS.1
  obtain ⟨Rt, t1, t2⟩ := hS.2.2.1
  obtain ⟨e1, e2, e3, e4, h87⟩ := hS.2.2.2.2.2.1
  have h88 := hS.2.2.2.2.2.2.1
  have hX : exAt M := hS.2.2.2.2.2.2.2.2.2.2.2.2.2.2
  have h65 := hS.2.1.1
  have h72 := (rq72 t1).1
  replace hf := hf Rt t2
  replace hk := hk Rt t2
  obtain ⟨d, rfl⟩ := ip_d1 (Nat.le_trans (by decide) hd)
  rw [cl_53]
  simp only [ip_loc, ip_ent, List.length_cons, List.length_nil, List.replicate_succ, List.replicate_zero, List.append_nil, List.nil_append, List.cons_append, Nat.zero_add, Nat.reduceAdd, Nat.reduceSub, Nat.reduceLeDiff, true_and, Nat.le_refl]
  refine ip_step rfl ?_
  simp only [e_ops, e_nil, e_LdI, e_LdL, e_LdA, e_StI, e_StL, e_StA, e_StN, e_Inc, e_I, e_L, e_Nul, e_Ref, e_Fmt, e_Dupint, e_Popint, e_Dupref, e_Popref, e_Dp2, e_BI, e_DI, e_BL, e_DL, e_SL, e_UI, e_IL, e_LI, e_CmpL, e_Get, e_Put, e_AldI, e_AldB, e_AldL, e_AldA, e_AstI, e_AstB, e_AstL, e_AstA, e_AstN, e_Len, e_New, e_NwA, e_Cal, e_CaV, e_isO, e_Max, e_Min, e_Obj, e_Cpy, e_Go, e_If, e_Cm, e_NuN, e_NuR, e_Sw, e_RI, e_RL, e_RV, e_fI, e_fL, e_fA, e_fO, e_fZ, e_clr, ip_clr, List.getElem?_cons_zero, List.getElem?_cons_succ, List.getElem?_nil, List.set_cons_zero, List.set_cons_succ, List.set_nil, Nat.add_one_sub_one, Nat.sub_self, Nat.zero_sub, List.length_cons, List.length_nil, List.length_set, List.take_succ_cons, List.take_zero, List.drop_succ_cons, List.drop_zero, List.reverse_cons, List.reverse_nil, List.nil_append, List.cons_append, List.append_nil, Option.toList_some, Option.toList_none, ip_up_same, ip_upup, if_true, if_false, ite_true, ite_false, true_and, and_true, and_self, true_or, or_true, Nat.zero_add, Nat.add_zero, Nat.le_refl, Nat.zero_le, reduceIte, reduceCtorEq, ne_eq, not_true_eq_false, not_false_eq_true, ip_nari, ip_narif, ip_narb0, ip_narb1, forall_const, Nat.reduceSub, Nat.reduceAdd, Nat.reduceLeDiff, Nat.reduceEqDiff, Nat.reduceLT, Nat.reduceMul, Int32.reduceLT, Int32.reduceLE, Int32.reduceToNatClampNeg, i10, i01, it01, it10, eq_self, ip_uh, h64, obC, h72, rgO]
  refine sp_clear (a := 72) (by omega) (by omega) t2 t1 (hX 1 (by omega) (by omega)) (fun M1 hR1 hF1 => ?_)
  have a64 : M1 64 = obC (cAk S) (cRc S) := (hF1 64 (by omega)).trans h64
  have a65 : M1 65 = rgO 65 (cNow S) := (hF1 65 (by omega)).trans h65
  have a87 : M1 87 = txC (cTl S) e1 e2 e3 e4 := (hF1 87 (by omega)).trans h87
  have a88 : M1 88 = bA 200 (cBy S) := (hF1 88 (by omega)).trans h88
  obtain ⟨q0, q1, q2, q3, q4, q5, q6⟩ := rq72 hR1
  simp only [e_ops, e_nil, e_LdI, e_LdL, e_LdA, e_StI, e_StL, e_StA, e_StN, e_Inc, e_I, e_L, e_Nul, e_Ref, e_Fmt, e_Dupint, e_Popint, e_Dupref, e_Popref, e_Dp2, e_BI, e_DI, e_BL, e_DL, e_SL, e_UI, e_IL, e_LI, e_CmpL, e_Get, e_Put, e_AldI, e_AldB, e_AldL, e_AldA, e_AstI, e_AstB, e_AstL, e_AstA, e_AstN, e_Len, e_New, e_NwA, e_Cal, e_CaV, e_isO, e_Max, e_Min, e_Obj, e_Cpy, e_Go, e_If, e_Cm, e_NuN, e_NuR, e_Sw, e_RI, e_RL, e_RV, e_fI, e_fL, e_fA, e_fO, e_fZ, e_clr, ip_clr, List.getElem?_cons_zero, List.getElem?_cons_succ, List.getElem?_nil, List.set_cons_zero, List.set_cons_succ, List.set_nil, Nat.add_one_sub_one, Nat.sub_self, Nat.zero_sub, List.length_cons, List.length_nil, List.length_set, List.take_succ_cons, List.take_zero, List.drop_succ_cons, List.drop_zero, List.reverse_cons, List.reverse_nil, List.nil_append, List.cons_append, List.append_nil, Option.toList_some, Option.toList_none, ip_up_same, ip_upup, if_true, if_false, ite_true, ite_false, true_and, and_true, and_self, true_or, or_true, Nat.zero_add, Nat.add_zero, Nat.le_refl, Nat.zero_le, reduceIte, reduceCtorEq, ne_eq, not_true_eq_false, not_false_eq_true, ip_nari, ip_narif, ip_narb0, ip_narb1, forall_const, Nat.reduceSub, Nat.reduceAdd, Nat.reduceLeDiff, Nat.reduceEqDiff, Nat.reduceLT, Nat.reduceMul, Int32.reduceLT, Int32.reduceLE, Int32.reduceToNatClampNeg, i10, i01, it01, it10, eq_self, ip_uh, a64, obC, a65, q0, rgO, a87, txC]
  have hM2 : ip_up M1 72 (rgO 72 (setZ (clearR Rt) (rZ (cNow S)))) = ip_up M1 72 (rgO 72 (setZ (clearR Rt) (rZ (cNow S)))) := rfl
  have hR2 : rgAt (ip_up M1 72 (rgO 72 (setZ (clearR Rt) (rZ (cNow S))))) 72 (setZ (clearR Rt) (rZ (cNow S))) := ⟨ip_up_same, (ip_up_ne (by omega)).trans q1, (ip_up_ne (by omega)).trans q2, (ip_up_ne (by omega)).trans q3, (ip_up_ne (by omega)).trans q4, (ip_up_ne (by omega)).trans q5, (ip_up_ne (by omega)).trans q6⟩
  refine sp_readInto (R := setZ (clearR Rt) (rZ (cNow S))) (by omega) (Nat.zero_le _) hl ((ip_up_ne (by omega)).trans a87) ((ip_up_ne (by omega)).trans a88) ?_ hR2 (fun M3 hA3 => ?_)
  · exact fun k z1 z2 => (ip_up_ne (by omega)).trans ((hF1 k (by omega)).trans (hX k z1 z2))
  have hn3 : nrm (circP S Rt).1 := rdAll_nrm _ _ _ ⟨fst_nrm, t2.2⟩
  have hw3 : rW (circP S Rt).1 ≤ 8 := rdAll_w _ _ _ (Nat.zero_le _)
  have hg3 : gOk (circP S Rt).2 := rdAll_g hl _ _ _ (tokF_ok (by omega)) (Or.inl rfl)
  replace hA3 : rdAt _ M3 (cBy S) (cTl S) (circP S Rt).2 (circP S Rt).1 := hA3
  rw [show rdAll (cBy S) (cTl S) 200 (setZ (clearR Rt) (rZ (cNow S))) (tokF (cBy S) (cTl S) 0, -1) = circP S Rt from rfl]
  generalize circP S Rt = P at *
  have hF3 : ∀ k, (k < 72 ∨ (78 < k ∧ k ≠ 87)) → M3 k = M k := fun k z => (hA3.2.2.2.2 k z).trans ((ip_up_ne (by omega)).trans (hF1 k (by omega)))
  have b64 : M3 64 = obC (cAk S) (cRc S) := (hF3 64 (by omega)).trans h64
  have b87 := hA3.1
  simp only [e_ops, e_nil, e_LdI, e_LdL, e_LdA, e_StI, e_StL, e_StA, e_StN, e_Inc, e_I, e_L, e_Nul, e_Ref, e_Fmt, e_Dupint, e_Popint, e_Dupref, e_Popref, e_Dp2, e_BI, e_DI, e_BL, e_DL, e_SL, e_UI, e_IL, e_LI, e_CmpL, e_Get, e_Put, e_AldI, e_AldB, e_AldL, e_AldA, e_AstI, e_AstB, e_AstL, e_AstA, e_AstN, e_Len, e_New, e_NwA, e_Cal, e_CaV, e_isO, e_Max, e_Min, e_Obj, e_Cpy, e_Go, e_If, e_Cm, e_NuN, e_NuR, e_Sw, e_RI, e_RL, e_RV, e_fI, e_fL, e_fA, e_fO, e_fZ, e_clr, ip_clr, List.getElem?_cons_zero, List.getElem?_cons_succ, List.getElem?_nil, List.set_cons_zero, List.set_cons_succ, List.set_nil, Nat.add_one_sub_one, Nat.sub_self, Nat.zero_sub, List.length_cons, List.length_nil, List.length_set, List.take_succ_cons, List.take_zero, List.drop_succ_cons, List.drop_zero, List.reverse_cons, List.reverse_nil, List.nil_append, List.cons_append, List.append_nil, Option.toList_some, Option.toList_none, ip_up_same, ip_upup, if_true, if_false, ite_true, ite_false, true_and, and_true, and_self, true_or, or_true, Nat.zero_add, Nat.add_zero, Nat.le_refl, Nat.zero_le, reduceIte, reduceCtorEq, ne_eq, not_true_eq_false, not_false_eq_true, ip_nari, ip_narif, ip_narb0, ip_narb1, forall_const, Nat.reduceSub, Nat.reduceAdd, Nat.reduceLeDiff, Nat.reduceEqDiff, Nat.reduceLT, Nat.reduceMul, Int32.reduceLT, Int32.reduceLE, Int32.reduceToNatClampNeg, i10, i01, it01, it10, eq_self, ip_uh, b64, obC, b87, tS, txT, txC]
  have hS3 : clAt (ip_up M3 87 (txC 0 (nI P.2.1.1) (nI P.2.1.2.1) (nI P.2.1.2.2) P.2.2)) n (stx S 0) := by
    have := (hS.tried (M' := ip_up M3 87 (M 87)) ⟨P.1, hA3.2.2.2.1.of (fun k z1 z2 => ip_up_ne (by omega)), hn3⟩ (hS.2.2.2.2.1.of ((ip_up_ne (by omega)).trans (hF3 86 (by omega)))) (fun k hk => by
      by_cases e : k = 87
      · subst e; exact ip_up_same
      · exact (ip_up_ne e).trans (hF3 k (by omega)))).tx 0 (nI P.2.1.1) (nI P.2.1.2.1) (nI P.2.1.2.2) P.2.2
    rw [ip_upup] at this
    exact this
  have hR3 : rgAt (ip_up M3 87 (txC 0 (nI P.2.1.1) (nI P.2.1.2.1) (nI P.2.1.2.2) P.2.2)) 72 P.1 := hA3.2.2.2.1.of (fun k z1 z2 => ip_up_ne (by omega))
  have hK3 : kFr M (ip_up M3 87 (txC 0 (nI P.2.1.1) (nI P.2.1.2.1) (nI P.2.1.2.2) P.2.2)) := fun k z => (ip_up_ne (by omega)).trans (hF3 k (by omega))
  rw [show (Sum.inr (3, [Value.ref 88, Value.int 0, Value.int (nI P.2.1.1), Value.int (nI P.2.1.2.1), Value.int (nI P.2.1.2.2), Value.int P.2.2]) : ip_C) = txC 0 (nI P.2.1.1) (nI P.2.1.2.1) (nI P.2.1.2.2) P.2.2 from rfl]
  generalize ip_up M3 87 (txC 0 (nI P.2.1.1) (nI P.2.1.2.1) (nI P.2.1.2.2) P.2.2) = M4 at *
  refine ⟨fun h1 => ?_, fun h1 => ?_⟩
  · have hm : P.2.2 = -1 := by
      cases hg3 with
      | inl e => exact e
      | inr e =>
        obtain ⟨s, hs, e⟩ := e
        rw [e, ← nI_0, nIlt (by omega) (by omega)] at h1
        omega
    have c64 := hS3.1
    have c65 := (rg65 hS3.2.1).1
    have c72 := (rq72 hR3).1
    refine ip_step rfl ?_
    simp only [e_ops, e_nil, e_LdI, e_LdL, e_LdA, e_StI, e_StL, e_StA, e_StN, e_Inc, e_I, e_L, e_Nul, e_Ref, e_Fmt, e_Dupint, e_Popint, e_Dupref, e_Popref, e_Dp2, e_BI, e_DI, e_BL, e_DL, e_SL, e_UI, e_IL, e_LI, e_CmpL, e_Get, e_Put, e_AldI, e_AldB, e_AldL, e_AldA, e_AstI, e_AstB, e_AstL, e_AstA, e_AstN, e_Len, e_New, e_NwA, e_Cal, e_CaV, e_isO, e_Max, e_Min, e_Obj, e_Cpy, e_Go, e_If, e_Cm, e_NuN, e_NuR, e_Sw, e_RI, e_RL, e_RV, e_fI, e_fL, e_fA, e_fO, e_fZ, e_clr, ip_clr, List.getElem?_cons_zero, List.getElem?_cons_succ, List.getElem?_nil, List.set_cons_zero, List.set_cons_succ, List.set_nil, Nat.add_one_sub_one, Nat.sub_self, Nat.zero_sub, List.length_cons, List.length_nil, List.length_set, List.take_succ_cons, List.take_zero, List.drop_succ_cons, List.drop_zero, List.reverse_cons, List.reverse_nil, List.nil_append, List.cons_append, List.append_nil, Option.toList_some, Option.toList_none, ip_up_same, ip_upup, if_true, if_false, ite_true, ite_false, true_and, and_true, and_self, true_or, or_true, Nat.zero_add, Nat.add_zero, Nat.le_refl, Nat.zero_le, reduceIte, reduceCtorEq, ne_eq, not_true_eq_false, not_false_eq_true, ip_nari, ip_narif, ip_narb0, ip_narb1, forall_const, Nat.reduceSub, Nat.reduceAdd, Nat.reduceLeDiff, Nat.reduceEqDiff, Nat.reduceLT, Nat.reduceMul, Int32.reduceLT, Int32.reduceLE, Int32.reduceToNatClampNeg, i10, i01, it01, it10, eq_self, ip_uh, c64, obC, c65, c72, rgO]
    refine sp_copy (a := 65) (b := 72) (by omega) (by omega) (by omega) hn3 hN hR3 hS3.2.1 (fun M5 hR5 hF5 => ?_)
    have hS5 := hS3.now hR5 (fun k z => hF5 k (by omega))
    have d64 := hS5.1
    have d65 := (rg65 hS5.2.1).1
    simp only [e_ops, e_nil, e_LdI, e_LdL, e_LdA, e_StI, e_StL, e_StA, e_StN, e_Inc, e_I, e_L, e_Nul, e_Ref, e_Fmt, e_Dupint, e_Popint, e_Dupref, e_Popref, e_Dp2, e_BI, e_DI, e_BL, e_DL, e_SL, e_UI, e_IL, e_LI, e_CmpL, e_Get, e_Put, e_AldI, e_AldB, e_AldL, e_AldA, e_AstI, e_AstB, e_AstL, e_AstA, e_AstN, e_Len, e_New, e_NwA, e_Cal, e_CaV, e_isO, e_Max, e_Min, e_Obj, e_Cpy, e_Go, e_If, e_Cm, e_NuN, e_NuR, e_Sw, e_RI, e_RL, e_RV, e_fI, e_fL, e_fA, e_fO, e_fZ, e_clr, ip_clr, List.getElem?_cons_zero, List.getElem?_cons_succ, List.getElem?_nil, List.set_cons_zero, List.set_cons_succ, List.set_nil, Nat.add_one_sub_one, Nat.sub_self, Nat.zero_sub, List.length_cons, List.length_nil, List.length_set, List.take_succ_cons, List.take_zero, List.drop_succ_cons, List.drop_zero, List.reverse_cons, List.reverse_nil, List.nil_append, List.cons_append, List.append_nil, Option.toList_some, Option.toList_none, ip_up_same, ip_upup, if_true, if_false, ite_true, ite_false, true_and, and_true, and_self, true_or, or_true, Nat.zero_add, Nat.add_zero, Nat.le_refl, Nat.zero_le, reduceIte, reduceCtorEq, ne_eq, not_true_eq_false, not_false_eq_true, ip_nari, ip_narif, ip_narb0, ip_narb1, forall_const, Nat.reduceSub, Nat.reduceAdd, Nat.reduceLeDiff, Nat.reduceEqDiff, Nat.reduceLT, Nat.reduceMul, Int32.reduceLT, Int32.reduceLE, Int32.reduceToNatClampNeg, i10, i01, it01, it10, eq_self, ip_uh, d64, obC, d65, rgO]
    exact hk hm _ (hS5.ob (cAk S) 0) ((hK3.tr (fun k z => hF5 k (by omega))).up (by omega))
  · have hm : ¬ P.2.2 = -1 := fun e => h1 (by rw [e]; decide)
    refine ip_step rfl ?_
    simp only [e_ops, e_nil, e_LdI, e_LdL, e_LdA, e_StI, e_StL, e_StA, e_StN, e_Inc, e_I, e_L, e_Nul, e_Ref, e_Fmt, e_Dupint, e_Popint, e_Dupref, e_Popref, e_Dp2, e_BI, e_DI, e_BL, e_DL, e_SL, e_UI, e_IL, e_LI, e_CmpL, e_Get, e_Put, e_AldI, e_AldB, e_AldL, e_AldA, e_AstI, e_AstB, e_AstL, e_AstA, e_AstN, e_Len, e_New, e_NwA, e_Cal, e_CaV, e_isO, e_Max, e_Min, e_Obj, e_Cpy, e_Go, e_If, e_Cm, e_NuN, e_NuR, e_Sw, e_RI, e_RL, e_RV, e_fI, e_fL, e_fA, e_fO, e_fZ, e_clr, ip_clr, List.getElem?_cons_zero, List.getElem?_cons_succ, List.getElem?_nil, List.set_cons_zero, List.set_cons_succ, List.set_nil, Nat.add_one_sub_one, Nat.sub_self, Nat.zero_sub, List.length_cons, List.length_nil, List.length_set, List.take_succ_cons, List.take_zero, List.drop_succ_cons, List.drop_zero, List.reverse_cons, List.reverse_nil, List.nil_append, List.cons_append, List.append_nil, Option.toList_some, Option.toList_none, ip_up_same, ip_upup, if_true, if_false, ite_true, ite_false, true_and, and_true, and_self, true_or, or_true, Nat.zero_add, Nat.add_zero, Nat.le_refl, Nat.zero_le, reduceIte, reduceCtorEq, ne_eq, not_true_eq_false, not_false_eq_true, ip_nari, ip_narif, ip_narb0, ip_narb1, forall_const, Nat.reduceSub, Nat.reduceAdd, Nat.reduceLeDiff, Nat.reduceEqDiff, Nat.reduceLT, Nat.reduceMul, Int32.reduceLT, Int32.reduceLE, Int32.reduceToNatClampNeg, i10, i01, it01, it10, eq_self, ip_uh]
    exact hf hm M4 hS3 hK3
