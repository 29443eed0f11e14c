def sShelf (S : Cs) (i : Nat) (v : Int32) (o : Option Nat) : Cs := (cNow S, cKp S, cAk S, cBy S, cTl S, cTr S, cTd S, cRw S, cRc S, cSh S, va_up (cSs S) i o, upd (cSw S) i v, cSt S)
def sSheet (S : Cs) (i : Nat) (o : Option Nat) : Cs := (cNow S, cKp S, cAk S, cBy S, cTl S, cTr S, cTd S, cRw S, cRc S, va_up (cSh S) i o, cSs S, cSw S, cSt S)
def sStrip (S : Cs) (q : Nat) (e : Int32 × Nat × (Nat → Int32)) : Cs := (cNow S, cKp S, cAk S, cBy S, cTl S, cTr S, cTd S, cRw S, cRc S, cSh S, cSs S, cSw S, va_up (cSt S) q e)
theorem clAt.gen {M M' : ip_M} {n n' : Nat} {S S' : Cs} (h : clAt M n S) (e1 : cNow S' = cNow S) (e2 : cKp S' = cKp S) (e3 : cAk S' = cAk S) (e4 : cBy S' = cBy S) (e5 : cTl S' = cTl S) (e6 : cTr S' = cTr S) (e7 : cTd S' = cTd S) (e8 : cRw S' = cRw S) (e9 : cRc S' = cRc S) (h92 : M' 92 = qA 4 (cSh S')) (h93 : M' 93 = qA 4 (cSs S')) (h94 : M' 94 = iA 4 (cSw S')) (hst : stAt M' n' S') (hF : ∀ k, k < 92 → M' k = M k) : clAt M' n' S' := by
  obtain ⟨h1, h2, ⟨Rt, t1, t2⟩, h4, h5, ⟨a', b', c', d', h6⟩, h7, ⟨a2, b2, c2, d2, h8⟩, h9, h10, h11, h12, h13, ⟨s1, s2, s3⟩, hx⟩ := h
  refine ⟨?_, ?_, ⟨Rt, t1.of (fun k q1 q2 => hF k (by omega)), t2⟩, ?_, h5.of (hF 86 (by omega)), ⟨a', b', c', d', ?_⟩, ?_, ⟨a2, b2, c2, d2, ?_⟩, ?_, ?_, h92, h93, h94, hst, fun k q1 q2 => (hF k (by omega)).trans (hx k q1 q2)⟩
  · rw [e3, e9]; exact (hF 64 (by omega)).trans h1
  · rw [e1]; exact h2.of (fun k q1 q2 => hF k (by omega))
  · rw [e2]; exact h4.of (fun k q1 q2 => hF k (by omega))
  · rw [e5]; exact (hF 87 (by omega)).trans h6
  · rw [e4]; exact (hF 88 (by omega)).trans h7
  · rw [e7]; exact (hF 89 (by omega)).trans h8
  · rw [e6]; exact (hF 90 (by omega)).trans h9
  · rw [e8]; exact (hF 91 (by omega)).trans h10
theorem clAt.shelf {M : ip_M} {n : Nat} {S : Cs} (h : clAt M n S) (i : Nat) (v : Int32) (o : Option Nat) (ho : ∀ q, o = some q → live S q) : clAt (ip_up (ip_up M 94 (iA 4 (upd (cSw S) i v))) 93 (qA 4 (va_up (cSs S) i o))) n (sShelf S i v o) := by
  refine h.gen rfl rfl rfl rfl rfl rfl rfl rfl rfl ?_ ip_up_same ?_ ⟨h.2.2.2.2.2.2.2.2.2.2.2.2.2.1.1, h.2.2.2.2.2.2.2.2.2.2.2.2.2.1.2.1, fun q hq => ?_⟩ (fun k hk => (ip_up_ne (by omega)).trans (ip_up_ne (by omega)))
  · exact (ip_up_ne (by omega)).trans ((ip_up_ne (by omega)).trans h.2.2.2.2.2.2.2.2.2.2.1)
  · exact (ip_up_ne (by omega)).trans ip_up_same
  · have hl : live S q := by
      obtain ⟨j, hj, hq⟩ := hq
      rcases hq with hq | hq
      · exact ⟨j, hj, Or.inl hq⟩
      · replace hq : va_up (cSs S) i o j = some q := hq
        unfold va_up at hq
        by_cases hji : j = i
        · rw [if_pos hji] at hq; exact ho q hq
        · rw [if_neg hji] at hq; exact ⟨j, hj, Or.inr hq⟩
    obtain ⟨a1, a2, a3, a4, a5⟩ := h.2.2.2.2.2.2.2.2.2.2.2.2.2.1.2.2 q hl
    exact ⟨a1, a2, a3, (ip_up_ne (by omega)).trans ((ip_up_ne (by omega)).trans a4), (ip_up_ne (by omega)).trans ((ip_up_ne (by omega)).trans a5)⟩
theorem clAt.sheetN {M : ip_M} {n : Nat} {S : Cs} (h : clAt M n S) (i : Nat) : clAt (ip_up M 92 (qA 4 (va_up (cSh S) i none))) n (sSheet S i none) := by
  refine h.gen rfl rfl rfl rfl rfl rfl rfl rfl rfl ip_up_same ?_ ?_ ⟨h.2.2.2.2.2.2.2.2.2.2.2.2.2.1.1, h.2.2.2.2.2.2.2.2.2.2.2.2.2.1.2.1, fun q hq => ?_⟩ (fun k hk => ip_up_ne (by omega))
  · exact (ip_up_ne (by omega)).trans h.2.2.2.2.2.2.2.2.2.2.2.1
  · exact (ip_up_ne (by omega)).trans h.2.2.2.2.2.2.2.2.2.2.2.2.1
  · have hl : live S q := by
      obtain ⟨j, hj, hq⟩ := hq
      rcases hq with hq | hq
      · replace hq : va_up (cSh S) i none j = some q := hq
        unfold va_up at hq
        by_cases hji : j = i
        · rw [if_pos hji] at hq; cases hq
        · rw [if_neg hji] at hq; exact ⟨j, hj, Or.inl hq⟩
      · exact ⟨j, hj, Or.inr hq⟩
    obtain ⟨a1, a2, a3, a4, a5⟩ := h.2.2.2.2.2.2.2.2.2.2.2.2.2.1.2.2 q hl
    exact ⟨a1, a2, a3, (ip_up_ne (by omega)).trans a4, (ip_up_ne (by omega)).trans a5⟩
theorem clAt.strip {M : ip_M} {n q : Nat} {S : Cs} (h : clAt M n S) (hq : live S q) (f : Nat → Int32) : clAt (ip_up M (q + 1) (iA (cSt S q).2.1 f)) n (sStrip S q ((cSt S q).1, (cSt S q).2.1, f)) := by
  obtain ⟨b1, b2, b3, b4, b5⟩ := h.2.2.2.2.2.2.2.2.2.2.2.2.2.1.2.2 q hq
  refine h.gen rfl rfl rfl rfl rfl rfl rfl rfl rfl ?_ ?_ ?_ ⟨h.2.2.2.2.2.2.2.2.2.2.2.2.2.1.1, h.2.2.2.2.2.2.2.2.2.2.2.2.2.1.2.1, fun r hr => ?_⟩ (fun k hk => ip_up_ne (by omega))
  · exact (ip_up_ne (by omega)).trans h.2.2.2.2.2.2.2.2.2.2.1
  · exact (ip_up_ne (by omega)).trans h.2.2.2.2.2.2.2.2.2.2.2.1
  · exact (ip_up_ne (by omega)).trans h.2.2.2.2.2.2.2.2.2.2.2.2.1
  · have hl : live S r := hr
    obtain ⟨a1, a2, a3, a4, a5⟩ := h.2.2.2.2.2.2.2.2.2.2.2.2.2.1.2.2 r hl
    refine ⟨a1, a2, a3, (ip_up_ne (by omega)).trans ?_, ?_⟩
    · rw [a4]
      show _ = Sum.inr (2, [Value.int (va_up (cSt S) q _ r).1, _])
      unfold va_up
      by_cases hrq : r = q
      · rw [if_pos hrq, hrq]
      · rw [if_neg hrq]
    · show _ = iA (va_up (cSt S) q _ r).2.1 (va_up (cSt S) q _ r).2.2
      unfold va_up
      by_cases hrq : r = q
      · rw [if_pos hrq, hrq, ip_up_same]
      · rw [if_neg hrq]
        exact (ip_up_ne (by omega)).trans a5
theorem clAt.sheetS {M M' : ip_M} {n : Nat} {S : Cs} (h : clAt M n S) (i : Nat) (hi : i < 4) (so : Int32) (N : Nat) (f : Nat → Int32) (g1 : M' 92 = qA 4 (va_up (cSh S) i (some n))) (g2 : M' n = .inr (2, [.int so, .ref (n + 1)])) (g3 : M' (n + 1) = iA N f) (hF : ∀ k, k ≠ 92 → k ≠ n → k ≠ n + 1 → M' k = M k) : clAt M' (n + 2) (sStrip (sSheet S i (some n)) n (so, N, f)) := by
  have hn := h.2.2.2.2.2.2.2.2.2.2.2.2.2.1.1
  have hn2 := h.2.2.2.2.2.2.2.2.2.2.2.2.2.1.2.1
  refine h.gen rfl rfl rfl rfl rfl rfl rfl rfl rfl g1 ?_ ?_ ⟨by omega, by omega, fun q hq => ?_⟩ (fun k hk => hF k (by omega) (by omega) (by omega))
  · exact (hF 93 (by omega) (by omega) (by omega)).trans h.2.2.2.2.2.2.2.2.2.2.2.1
  · exact (hF 94 (by omega) (by omega) (by omega)).trans h.2.2.2.2.2.2.2.2.2.2.2.2.1
  · by_cases hqn : q = n
    · subst hqn
      refine ⟨hn2, by omega, hn, ?_, ?_⟩
      · rw [g2]
        show _ = Sum.inr (2, [Value.int (va_up (cSt S) q _ q).1, _])
        unfold va_up
        rw [if_pos rfl]
      · rw [g3]
        show _ = iA (va_up (cSt S) q _ q).2.1 (va_up (cSt S) q _ q).2.2
        unfold va_up
        rw [if_pos rfl]
    · have hl : live S q := by
        obtain ⟨j, hj, hq⟩ := hq
        rcases hq with hq | hq
        · replace hq : va_up (cSh S) i (some n) j = some q := hq
          unfold va_up at hq
          by_cases hji : j = i
          · rw [if_pos hji] at hq; exact absurd (Option.some.inj hq).symm hqn
          · rw [if_neg hji] at hq; exact ⟨j, hj, Or.inl hq⟩
        · exact ⟨j, hj, Or.inr hq⟩
      obtain ⟨a1, a2, a3, a4, a5⟩ := h.2.2.2.2.2.2.2.2.2.2.2.2.2.1.2.2 q hl
      refine ⟨a1, by omega, a3, ?_, ?_⟩
      · rw [hF q (by omega) (by omega) (by omega), a4]
        show _ = Sum.inr (2, [Value.int (va_up (cSt S) n _ q).1, _])
        unfold va_up
        rw [if_neg hqn]
      · rw [hF (q + 1) (by omega) (by omega) (by omega), a5]
        show _ = iA (va_up (cSt S) n _ q).2.1 (va_up (cSt S) n _ q).2.2
        unfold va_up
        rw [if_neg hqn]
theorem sp_stripInit {d : Nat} (hd : 1 ≤ d) {q N : Nat} (hN : N ≤ 40) (hq : 64 ≤ q) {so : Int32} {M : ip_M} {Φ : ip_P} (hM : M q = .inr (2, [.int 0, .null])) (h : Φ none (ip_up (ip_up (ip_up M q (.inr (2, [.int so, .null]))) (q + 1) (iA N (fun _ => 0))) q (.inr (2, [.int so, .ref (q + 1)]))) (q + 1 + 1)) : ip_call tb d 20 [.ref q, .int so, .int (nI N)] M (q + 1) Φ := by
  have hmx : (if (0 : Int32) < nI N then nI N else 0) = nI N := by
    by_cases h0 : N = 0
    · subst h0; decide
    · rw [if_pos]
      rw [← nI_0]
      exact (nI_ltI (by omega) (by omega)).mpr (by omega)
  have hlt : (nI N < 0) = False := eq_false (nI_pos (by omega))
  have hc := nIc (i := N) (by omega)
  have h1000 : N ≤ 1000 := by omega
  have h40 : 0 + N ≤ 40 := by omega
  have n1 : ¬ q = q + 1 := by omega
  obtain ⟨d, rfl⟩ := ip_d1 (Nat.le_trans (by decide) hd)
  rw [cl_20]
  simp only [ip_loc, ip_ent, List.length_cons, List.length_nil, List.replicate_succ, List.replicate_zero, List.append_nil, List.nil_append, List.cons_append, Nat.zero_add, Nat.reduceAdd, Nat.reduceSub, Nat.reduceLeDiff, true_and, Nat.le_refl]
  refine ip_step rfl ?_
  simp only [e_ops, e_nil, e_LdI, e_LdL, e_LdA, e_StI, e_StL, e_StA, e_StN, e_Inc, e_I, e_L, e_Nul, e_Ref, e_Fmt, e_Dupint, e_Popint, e_Dupref, e_Popref, e_Dp2, e_BI, e_DI, e_BL, e_DL, e_SL, e_UI, e_IL, e_LI, e_CmpL, e_Get, e_Put, e_AldI, e_AldB, e_AldL, e_AldA, e_AstI, e_AstB, e_AstL, e_AstA, e_AstN, e_Len, e_New, e_NwA, e_Cal, e_CaV, e_isO, e_Max, e_Min, e_Obj, e_Cpy, e_Go, e_If, e_Cm, e_NuN, e_NuR, e_Sw, e_RI, e_RL, e_RV, e_fI, e_fL, e_fA, e_fO, e_fZ, e_clr, ip_clr, List.getElem?_cons_zero, List.getElem?_cons_succ, List.getElem?_nil, List.set_cons_zero, List.set_cons_succ, List.set_nil, Nat.add_one_sub_one, Nat.sub_self, Nat.zero_sub, List.length_cons, List.length_nil, List.length_set, List.take_succ_cons, List.take_zero, List.drop_succ_cons, List.drop_zero, List.reverse_cons, List.reverse_nil, List.nil_append, List.cons_append, List.append_nil, Option.toList_some, Option.toList_none, ip_up_same, ip_upup, if_true, if_false, ite_true, ite_false, true_and, and_true, and_self, true_or, or_true, Nat.zero_add, Nat.add_zero, Nat.le_refl, Nat.zero_le, reduceIte, reduceCtorEq, ne_eq, not_true_eq_false, not_false_eq_true, ip_nari, ip_narif, ip_narb0, ip_narb1, forall_const, Nat.reduceSub, Nat.reduceAdd, Nat.reduceLeDiff, Nat.reduceEqDiff, Nat.reduceLT, Nat.reduceMul, Int32.reduceLT, Int32.reduceLE, Int32.reduceToNatClampNeg, i10, i01, it01, it10, eq_self, ip_uh, hM, hq, hmx, hlt, hc, h1000, hN, n1]
  exact h
theorem n03 {x : Int32} (h : 0 ≤ x ∧ x ≤ 3) : ∃ i, i < 4 ∧ x = nI i := by
  obtain ⟨i, hi, rfl⟩ := nI_of2 (M := 3) (n := 3) (by decide) (Int32.not_lt.mpr h.1) h.2
  exact ⟨i, by omega, rfl⟩
theorem RX2e : (RX2 = RX2) = True := eq_true rfl
theorem c_sheet {d : Nat} (hd : 3 ≤ d) {x y z : Int32} {S : Cs} {M : ip_M} {n : Nat} {Φ : ip_P} (hS : clAt M n S) (hb : ¬ ((0 ≤ x ∧ x ≤ 3) ∧ (y = -1 ∨ (0 ≤ y ∧ y ≤ 3) ∧ z ≤ 40)) → Φ (some (.int (-1))) M n) (hn : ∀ i, i < 4 → x = nI i → y = -1 → ∀ M', clAt M' n (sSheet S i none) → kFr M M' → Φ (some (.int 1)) M' n) (hm : (0 ≤ x ∧ x ≤ 3) → 0 ≤ y ∧ y ≤ 3 → z ≤ 40 → z < 0 → Φ (some (.int (-14))) M n) (hk : ∀ i N, i < 4 → x = nI i → 0 ≤ y ∧ y ≤ 3 → N ≤ 40 → z = nI N → ∀ M', clAt M' (n + 2) (sStrip (sSheet S i (some n)) n (y, N, fun _ => 0)) → kFr M M' → Φ (some (.int 1)) M' (n + 2)) : ip_call tb d 85 [.ref 64, .int x, .int y, .int z] M n Φ := by
  have h64 := hS.1
  have h92 := hS.2.2.2.2.2.2.2.2.2.2.1
  have hn2 := hS.2.2.2.2.2.2.2.2.2.2.2.2.2.1.2.1
  obtain ⟨d, rfl⟩ := ip_d1 (Nat.le_trans (by decide) hd)
  rw [cl_85]
  simp only [ip_loc, ip_ent, List.length_cons, List.length_nil, List.replicate_succ, List.replicate_zero, List.append_nil, List.nil_append, List.cons_append, Nat.zero_add, Nat.reduceAdd, Nat.reduceSub, Nat.reduceLeDiff, true_and, Nat.le_refl]
  refine ip_step rfl ?_
  simp only [e_ops, e_nil, e_LdI, e_LdL, e_LdA, e_StI, e_StL, e_StA, e_StN, e_Inc, e_I, e_L, e_Nul, e_Ref, e_Fmt, e_Dupint, e_Popint, e_Dupref, e_Popref, e_Dp2, e_BI, e_DI, e_BL, e_DL, e_SL, e_UI, e_IL, e_LI, e_CmpL, e_Get, e_Put, e_AldI, e_AldB, e_AldL, e_AldA, e_AstI, e_AstB, e_AstL, e_AstA, e_AstN, e_Len, e_New, e_NwA, e_Cal, e_CaV, e_isO, e_Max, e_Min, e_Obj, e_Cpy, e_Go, e_If, e_Cm, e_NuN, e_NuR, e_Sw, e_RI, e_RL, e_RV, e_fI, e_fL, e_fA, e_fO, e_fZ, e_clr, ip_clr, List.getElem?_cons_zero, List.getElem?_cons_succ, List.getElem?_nil, List.set_cons_zero, List.set_cons_succ, List.set_nil, Nat.add_one_sub_one, Nat.sub_self, Nat.zero_sub, List.length_cons, List.length_nil, List.length_set, List.take_succ_cons, List.take_zero, List.drop_succ_cons, List.drop_zero, List.reverse_cons, List.reverse_nil, List.nil_append, List.cons_append, List.append_nil, Option.toList_some, Option.toList_none, ip_up_same, ip_upup, if_true, if_false, ite_true, ite_false, true_and, and_true, and_self, true_or, or_true, Nat.zero_add, Nat.add_zero, Nat.le_refl, Nat.zero_le, reduceIte, reduceCtorEq, ne_eq, not_true_eq_false, not_false_eq_true, ip_nari, ip_narif, ip_narb0, ip_narb1, forall_const, Nat.reduceSub, Nat.reduceAdd, Nat.reduceLeDiff, Nat.reduceEqDiff, Nat.reduceLT, Nat.reduceMul, Int32.reduceLT, Int32.reduceLE, Int32.reduceToNatClampNeg, i10, i01, it01, it10, eq_self, ip_uh]
  refine sp_isSheet (by omega) ?_
  simp only [e_ops, e_nil, e_LdI, e_LdL, e_LdA, e_StI, e_StL, e_StA, e_StN, e_Inc, e_I, e_L, e_Nul, e_Ref, e_Fmt, e_Dupint, e_Popint, e_Dupref, e_Popref, e_Dp2, e_BI, e_DI, e_BL, e_DL, e_SL, e_UI, e_IL, e_LI, e_CmpL, e_Get, e_Put, e_AldI, e_AldB, e_AldL, e_AldA, e_AstI, e_AstB, e_AstL, e_AstA, e_AstN, e_Len, e_New, e_NwA, e_Cal, e_CaV, e_isO, e_Max, e_Min, e_Obj, e_Cpy, e_Go, e_If, e_Cm, e_NuN, e_NuR, e_Sw, e_RI, e_RL, e_RV, e_fI, e_fL, e_fA, e_fO, e_fZ, e_clr, ip_clr, List.getElem?_cons_zero, List.getElem?_cons_succ, List.getElem?_nil, List.set_cons_zero, List.set_cons_succ, List.set_nil, Nat.add_one_sub_one, Nat.sub_self, Nat.zero_sub, List.length_cons, List.length_nil, List.length_set, List.take_succ_cons, List.take_zero, List.drop_succ_cons, List.drop_zero, List.reverse_cons, List.reverse_nil, List.nil_append, List.cons_append, List.append_nil, Option.toList_some, Option.toList_none, ip_up_same, ip_upup, if_true, if_false, ite_true, ite_false, true_and, and_true, and_self, true_or, or_true, Nat.zero_add, Nat.add_zero, Nat.le_refl, Nat.zero_le, reduceIte, reduceCtorEq, ne_eq, not_true_eq_false, not_false_eq_true, ip_nari, ip_narif, ip_narb0, ip_narb1, forall_const, Nat.reduceSub, Nat.reduceAdd, Nat.reduceLeDiff, Nat.reduceEqDiff, Nat.reduceLT, Nat.reduceMul, Int32.reduceLT, Int32.reduceLE, Int32.reduceToNatClampNeg, i10, i01, it01, it10, eq_self, ip_uh]
  refine ⟨fun hc => ?_, fun hc => ?_⟩
  · refine ip_step rfl ?_
    simp only [e_ops, e_nil, e_LdI, e_LdL, e_LdA, e_StI, e_StL, e_StA, e_StN, e_Inc, e_I, e_L, e_Nul, e_Ref, e_Fmt, e_Dupint, e_Popint, e_Dupref, e_Popref, e_Dp2, e_BI, e_DI, e_BL, e_DL, e_SL, e_UI, e_IL, e_LI, e_CmpL, e_Get, e_Put, e_AldI, e_AldB, e_AldL, e_AldA, e_AstI, e_AstB, e_AstL, e_AstA, e_AstN, e_Len, e_New, e_NwA, e_Cal, e_CaV, e_isO, e_Max, e_Min, e_Obj, e_Cpy, e_Go, e_If, e_Cm, e_NuN, e_NuR, e_Sw, e_RI, e_RL, e_RV, e_fI, e_fL, e_fA, e_fO, e_fZ, e_clr, ip_clr, List.getElem?_cons_zero, List.getElem?_cons_succ, List.getElem?_nil, List.set_cons_zero, List.set_cons_succ, List.set_nil, Nat.add_one_sub_one, Nat.sub_self, Nat.zero_sub, List.length_cons, List.length_nil, List.length_set, List.take_succ_cons, List.take_zero, List.drop_succ_cons, List.drop_zero, List.reverse_cons, List.reverse_nil, List.nil_append, List.cons_append, List.append_nil, Option.toList_some, Option.toList_none, ip_up_same, ip_upup, if_true, if_false, ite_true, ite_false, true_and, and_true, and_self, true_or, or_true, Nat.zero_add, Nat.add_zero, Nat.le_refl, Nat.zero_le, reduceIte, reduceCtorEq, ne_eq, not_true_eq_false, not_false_eq_true, ip_nari, ip_narif, ip_narb0, ip_narb1, forall_const, Nat.reduceSub, Nat.reduceAdd, Nat.reduceLeDiff, Nat.reduceEqDiff, Nat.reduceLT, Nat.reduceMul, Int32.reduceLT, Int32.reduceLE, Int32.reduceToNatClampNeg, i10, i01, it01, it10, eq_self, ip_uh]
    exact hb (fun q => hc q.1)
  have hc := Classical.not_not.mp hc
  obtain ⟨i, hi, rfl⟩ := n03 hc
  have hv := nIin (i := i) (N := 4) hi (by omega)
  have hc9 := nIc (i := i) (by omega)
  refine ip_step rfl ?_
  simp only [e_ops, e_nil, e_LdI, e_LdL, e_LdA, e_StI, e_StL, e_StA, e_StN, e_Inc, e_I, e_L, e_Nul, e_Ref, e_Fmt, e_Dupint, e_Popint, e_Dupref, e_Popref, e_Dp2, e_BI, e_DI, e_BL, e_DL, e_SL, e_UI, e_IL, e_LI, e_CmpL, e_Get, e_Put, e_AldI, e_AldB, e_AldL, e_AldA, e_AstI, e_AstB, e_AstL, e_AstA, e_AstN, e_Len, e_New, e_NwA, e_Cal, e_CaV, e_isO, e_Max, e_Min, e_Obj, e_Cpy, e_Go, e_If, e_Cm, e_NuN, e_NuR, e_Sw, e_RI, e_RL, e_RV, e_fI, e_fL, e_fA, e_fO, e_fZ, e_clr, ip_clr, List.getElem?_cons_zero, List.getElem?_cons_succ, List.getElem?_nil, List.set_cons_zero, List.set_cons_succ, List.set_nil, Nat.add_one_sub_one, Nat.sub_self, Nat.zero_sub, List.length_cons, List.length_nil, List.length_set, List.take_succ_cons, List.take_zero, List.drop_succ_cons, List.drop_zero, List.reverse_cons, List.reverse_nil, List.nil_append, List.cons_append, List.append_nil, Option.toList_some, Option.toList_none, ip_up_same, ip_upup, if_true, if_false, ite_true, ite_false, true_and, and_true, and_self, true_or, or_true, Nat.zero_add, Nat.add_zero, Nat.le_refl, Nat.zero_le, reduceIte, reduceCtorEq, ne_eq, not_true_eq_false, not_false_eq_true, ip_nari, ip_narif, ip_narb0, ip_narb1, forall_const, Nat.reduceSub, Nat.reduceAdd, Nat.reduceLeDiff, Nat.reduceEqDiff, Nat.reduceLT, Nat.reduceMul, Int32.reduceLT, Int32.reduceLE, Int32.reduceToNatClampNeg, i10, i01, it01, it10, eq_self, ip_uh]
  refine ⟨fun hy => ?_, fun hy => ?_⟩
  · refine ip_step rfl ?_
    simp only [e_ops, e_nil, e_LdI, e_LdL, e_LdA, e_StI, e_StL, e_StA, e_StN, e_Inc, e_I, e_L, e_Nul, e_Ref, e_Fmt, e_Dupint, e_Popint, e_Dupref, e_Popref, e_Dp2, e_BI, e_DI, e_BL, e_DL, e_SL, e_UI, e_IL, e_LI, e_CmpL, e_Get, e_Put, e_AldI, e_AldB, e_AldL, e_AldA, e_AstI, e_AstB, e_AstL, e_AstA, e_AstN, e_Len, e_New, e_NwA, e_Cal, e_CaV, e_isO, e_Max, e_Min, e_Obj, e_Cpy, e_Go, e_If, e_Cm, e_NuN, e_NuR, e_Sw, e_RI, e_RL, e_RV, e_fI, e_fL, e_fA, e_fO, e_fZ, e_clr, ip_clr, List.getElem?_cons_zero, List.getElem?_cons_succ, List.getElem?_nil, List.set_cons_zero, List.set_cons_succ, List.set_nil, Nat.add_one_sub_one, Nat.sub_self, Nat.zero_sub, List.length_cons, List.length_nil, List.length_set, List.take_succ_cons, List.take_zero, List.drop_succ_cons, List.drop_zero, List.reverse_cons, List.reverse_nil, List.nil_append, List.cons_append, List.append_nil, Option.toList_some, Option.toList_none, ip_up_same, ip_upup, if_true, if_false, ite_true, ite_false, true_and, and_true, and_self, true_or, or_true, Nat.zero_add, Nat.add_zero, Nat.le_refl, Nat.zero_le, reduceIte, reduceCtorEq, ne_eq, not_true_eq_false, not_false_eq_true, ip_nari, ip_narif, ip_narb0, ip_narb1, forall_const, Nat.reduceSub, Nat.reduceAdd, Nat.reduceLeDiff, Nat.reduceEqDiff, Nat.reduceLT, Nat.reduceMul, Int32.reduceLT, Int32.reduceLE, Int32.reduceToNatClampNeg, i10, i01, it01, it10, eq_self, ip_uh, h64, obC, h92, qA, hv, hc9, RX2e]
    exact hn i hi rfl hy _ (hS.sheetN i) (kFr.rf.up (by omega))
  refine ip_step rfl ?_
  simp only [e_ops, e_nil, e_LdI, e_LdL, e_LdA, e_StI, e_StL, e_StA, e_StN, e_Inc, e_I, e_L, e_Nul, e_Ref, e_Fmt, e_Dupint, e_Popint, e_Dupref, e_Popref, e_Dp2, e_BI, e_DI, e_BL, e_DL, e_SL, e_UI, e_IL, e_LI, e_CmpL, e_Get, e_Put, e_AldI, e_AldB, e_AldL, e_AldA, e_AstI, e_AstB, e_AstL, e_AstA, e_AstN, e_Len, e_New, e_NwA, e_Cal, e_CaV, e_isO, e_Max, e_Min, e_Obj, e_Cpy, e_Go, e_If, e_Cm, e_NuN, e_NuR, e_Sw, e_RI, e_RL, e_RV, e_fI, e_fL, e_fA, e_fO, e_fZ, e_clr, ip_clr, List.getElem?_cons_zero, List.getElem?_cons_succ, List.getElem?_nil, List.set_cons_zero, List.set_cons_succ, List.set_nil, Nat.add_one_sub_one, Nat.sub_self, Nat.zero_sub, List.length_cons, List.length_nil, List.length_set, List.take_succ_cons, List.take_zero, List.drop_succ_cons, List.drop_zero, List.reverse_cons, List.reverse_nil, List.nil_append, List.cons_append, List.append_nil, Option.toList_some, Option.toList_none, ip_up_same, ip_upup, if_true, if_false, ite_true, ite_false, true_and, and_true, and_self, true_or, or_true, Nat.zero_add, Nat.add_zero, Nat.le_refl, Nat.zero_le, reduceIte, reduceCtorEq, ne_eq, not_true_eq_false, not_false_eq_true, ip_nari, ip_narif, ip_narb0, ip_narb1, forall_const, Nat.reduceSub, Nat.reduceAdd, Nat.reduceLeDiff, Nat.reduceEqDiff, Nat.reduceLT, Nat.reduceMul, Int32.reduceLT, Int32.reduceLE, Int32.reduceToNatClampNeg, i10, i01, it01, it10, eq_self, ip_uh]
  refine sp_isSort (by omega) ?_
  simp only [e_ops, e_nil, e_LdI, e_LdL, e_LdA, e_StI, e_StL, e_StA, e_StN, e_Inc, e_I, e_L, e_Nul, e_Ref, e_Fmt, e_Dupint, e_Popint, e_Dupref, e_Popref, e_Dp2, e_BI, e_DI, e_BL, e_DL, e_SL, e_UI, e_IL, e_LI, e_CmpL, e_Get, e_Put, e_AldI, e_AldB, e_AldL, e_AldA, e_AstI, e_AstB, e_AstL, e_AstA, e_AstN, e_Len, e_New, e_NwA, e_Cal, e_CaV, e_isO, e_Max, e_Min, e_Obj, e_Cpy, e_Go, e_If, e_Cm, e_NuN, e_NuR, e_Sw, e_RI, e_RL, e_RV, e_fI, e_fL, e_fA, e_fO, e_fZ, e_clr, ip_clr, List.getElem?_cons_zero, List.getElem?_cons_succ, List.getElem?_nil, List.set_cons_zero, List.set_cons_succ, List.set_nil, Nat.add_one_sub_one, Nat.sub_self, Nat.zero_sub, List.length_cons, List.length_nil, List.length_set, List.take_succ_cons, List.take_zero, List.drop_succ_cons, List.drop_zero, List.reverse_cons, List.reverse_nil, List.nil_append, List.cons_append, List.append_nil, Option.toList_some, Option.toList_none, ip_up_same, ip_upup, if_true, if_false, ite_true, ite_false, true_and, and_true, and_self, true_or, or_true, Nat.zero_add, Nat.add_zero, Nat.le_refl, Nat.zero_le, reduceIte, reduceCtorEq, ne_eq, not_true_eq_false, not_false_eq_true, ip_nari, ip_narif, ip_narb0, ip_narb1, forall_const, Nat.reduceSub, Nat.reduceAdd, Nat.reduceLeDiff, Nat.reduceEqDiff, Nat.reduceLT, Nat.reduceMul, Int32.reduceLT, Int32.reduceLE, Int32.reduceToNatClampNeg, i10, i01, it01, it10, eq_self, ip_uh]
  refine ⟨fun hc1 => ?_, fun hc1 => ?_⟩
  · refine ip_step rfl ?_
    simp only [e_ops, e_nil, e_LdI, e_LdL, e_LdA, e_StI, e_StL, e_StA, e_StN, e_Inc, e_I, e_L, e_Nul, e_Ref, e_Fmt, e_Dupint, e_Popint, e_Dupref, e_Popref, e_Dp2, e_BI, e_DI, e_BL, e_DL, e_SL, e_UI, e_IL, e_LI, e_CmpL, e_Get, e_Put, e_AldI, e_AldB, e_AldL, e_AldA, e_AstI, e_AstB, e_AstL, e_AstA, e_AstN, e_Len, e_New, e_NwA, e_Cal, e_CaV, e_isO, e_Max, e_Min, e_Obj, e_Cpy, e_Go, e_If, e_Cm, e_NuN, e_NuR, e_Sw, e_RI, e_RL, e_RV, e_fI, e_fL, e_fA, e_fO, e_fZ, e_clr, ip_clr, List.getElem?_cons_zero, List.getElem?_cons_succ, List.getElem?_nil, List.set_cons_zero, List.set_cons_succ, List.set_nil, Nat.add_one_sub_one, Nat.sub_self, Nat.zero_sub, List.length_cons, List.length_nil, List.length_set, List.take_succ_cons, List.take_zero, List.drop_succ_cons, List.drop_zero, List.reverse_cons, List.reverse_nil, List.nil_append, List.cons_append, List.append_nil, Option.toList_some, Option.toList_none, ip_up_same, ip_upup, if_true, if_false, ite_true, ite_false, true_and, and_true, and_self, true_or, or_true, Nat.zero_add, Nat.add_zero, Nat.le_refl, Nat.zero_le, reduceIte, reduceCtorEq, ne_eq, not_true_eq_false, not_false_eq_true, ip_nari, ip_narif, ip_narb0, ip_narb1, forall_const, Nat.reduceSub, Nat.reduceAdd, Nat.reduceLeDiff, Nat.reduceEqDiff, Nat.reduceLT, Nat.reduceMul, Int32.reduceLT, Int32.reduceLE, Int32.reduceToNatClampNeg, i10, i01, it01, it10, eq_self, ip_uh]
    exact hb (fun q => q.2.elim hy (fun z => hc1 z.1))
  have hc1 := Classical.not_not.mp hc1
  refine ip_step rfl ?_
  simp only [e_ops, e_nil, e_LdI, e_LdL, e_LdA, e_StI, e_StL, e_StA, e_StN, e_Inc, e_I, e_L, e_Nul, e_Ref, e_Fmt, e_Dupint, e_Popint, e_Dupref, e_Popref, e_Dp2, e_BI, e_DI, e_BL, e_DL, e_SL, e_UI, e_IL, e_LI, e_CmpL, e_Get, e_Put, e_AldI, e_AldB, e_AldL, e_AldA, e_AstI, e_AstB, e_AstL, e_AstA, e_AstN, e_Len, e_New, e_NwA, e_Cal, e_CaV, e_isO, e_Max, e_Min, e_Obj, e_Cpy, e_Go, e_If, e_Cm, e_NuN, e_NuR, e_Sw, e_RI, e_RL, e_RV, e_fI, e_fL, e_fA, e_fO, e_fZ, e_clr, ip_clr, List.getElem?_cons_zero, List.getElem?_cons_succ, List.getElem?_nil, List.set_cons_zero, List.set_cons_succ, List.set_nil, Nat.add_one_sub_one, Nat.sub_self, Nat.zero_sub, List.length_cons, List.length_nil, List.length_set, List.take_succ_cons, List.take_zero, List.drop_succ_cons, List.drop_zero, List.reverse_cons, List.reverse_nil, List.nil_append, List.cons_append, List.append_nil, Option.toList_some, Option.toList_none, ip_up_same, ip_upup, if_true, if_false, ite_true, ite_false, true_and, and_true, and_self, true_or, or_true, Nat.zero_add, Nat.add_zero, Nat.le_refl, Nat.zero_le, reduceIte, reduceCtorEq, ne_eq, not_true_eq_false, not_false_eq_true, ip_nari, ip_narif, ip_narb0, ip_narb1, forall_const, Nat.reduceSub, Nat.reduceAdd, Nat.reduceLeDiff, Nat.reduceEqDiff, Nat.reduceLT, Nat.reduceMul, Int32.reduceLT, Int32.reduceLE, Int32.reduceToNatClampNeg, i10, i01, it01, it10, eq_self, ip_uh]
  refine ⟨fun hc2 => ?_, fun hc2 => ?_⟩
  · refine ip_step rfl ?_
    simp only [e_ops, e_nil, e_LdI, e_LdL, e_LdA, e_StI, e_StL, e_StA, e_StN, e_Inc, e_I, e_L, e_Nul, e_Ref, e_Fmt, e_Dupint, e_Popint, e_Dupref, e_Popref, e_Dp2, e_BI, e_DI, e_BL, e_DL, e_SL, e_UI, e_IL, e_LI, e_CmpL, e_Get, e_Put, e_AldI, e_AldB, e_AldL, e_AldA, e_AstI, e_AstB, e_AstL, e_AstA, e_AstN, e_Len, e_New, e_NwA, e_Cal, e_CaV, e_isO, e_Max, e_Min, e_Obj, e_Cpy, e_Go, e_If, e_Cm, e_NuN, e_NuR, e_Sw, e_RI, e_RL, e_RV, e_fI, e_fL, e_fA, e_fO, e_fZ, e_clr, ip_clr, List.getElem?_cons_zero, List.getElem?_cons_succ, List.getElem?_nil, List.set_cons_zero, List.set_cons_succ, List.set_nil, Nat.add_one_sub_one, Nat.sub_self, Nat.zero_sub, List.length_cons, List.length_nil, List.length_set, List.take_succ_cons, List.take_zero, List.drop_succ_cons, List.drop_zero, List.reverse_cons, List.reverse_nil, List.nil_append, List.cons_append, List.append_nil, Option.toList_some, Option.toList_none, ip_up_same, ip_upup, if_true, if_false, ite_true, ite_false, true_and, and_true, and_self, true_or, or_true, Nat.zero_add, Nat.add_zero, Nat.le_refl, Nat.zero_le, reduceIte, reduceCtorEq, ne_eq, not_true_eq_false, not_false_eq_true, ip_nari, ip_narif, ip_narb0, ip_narb1, forall_const, Nat.reduceSub, Nat.reduceAdd, Nat.reduceLeDiff, Nat.reduceEqDiff, Nat.reduceLT, Nat.reduceMul, Int32.reduceLT, Int32.reduceLE, Int32.reduceToNatClampNeg, i10, i01, it01, it10, eq_self, ip_uh]
    exact hb (fun q => q.2.elim hy (fun z => (Int32.not_lt.mpr z.2) hc2))
  have hc2 := Int32.not_lt.mp hc2
  refine ip_step rfl ?_
  simp only [e_ops, e_nil, e_LdI, e_LdL, e_LdA, e_StI, e_StL, e_StA, e_StN, e_Inc, e_I, e_L, e_Nul, e_Ref, e_Fmt, e_Dupint, e_Popint, e_Dupref, e_Popref, e_Dp2, e_BI, e_DI, e_BL, e_DL, e_SL, e_UI, e_IL, e_LI, e_CmpL, e_Get, e_Put, e_AldI, e_AldB, e_AldL, e_AldA, e_AstI, e_AstB, e_AstL, e_AstA, e_AstN, e_Len, e_New, e_NwA, e_Cal, e_CaV, e_isO, e_Max, e_Min, e_Obj, e_Cpy, e_Go, e_If, e_Cm, e_NuN, e_NuR, e_Sw, e_RI, e_RL, e_RV, e_fI, e_fL, e_fA, e_fO, e_fZ, e_clr, ip_clr, List.getElem?_cons_zero, List.getElem?_cons_succ, List.getElem?_nil, List.set_cons_zero, List.set_cons_succ, List.set_nil, Nat.add_one_sub_one, Nat.sub_self, Nat.zero_sub, List.length_cons, List.length_nil, List.length_set, List.take_succ_cons, List.take_zero, List.drop_succ_cons, List.drop_zero, List.reverse_cons, List.reverse_nil, List.nil_append, List.cons_append, List.append_nil, Option.toList_some, Option.toList_none, ip_up_same, ip_upup, if_true, if_false, ite_true, ite_false, true_and, and_true, and_self, true_or, or_true, Nat.zero_add, Nat.add_zero, Nat.le_refl, Nat.zero_le, reduceIte, reduceCtorEq, ne_eq, not_true_eq_false, not_false_eq_true, ip_nari, ip_narif, ip_narb0, ip_narb1, forall_const, Nat.reduceSub, Nat.reduceAdd, Nat.reduceLeDiff, Nat.reduceEqDiff, Nat.reduceLT, Nat.reduceMul, Int32.reduceLT, Int32.reduceLE, Int32.reduceToNatClampNeg, i10, i01, it01, it10, eq_self, ip_uh]
  refine ⟨fun hc3 => ?_, fun hc3 => ?_⟩
  · refine ip_step rfl ?_
    simp only [e_ops, e_nil, e_LdI, e_LdL, e_LdA, e_StI, e_StL, e_StA, e_StN, e_Inc, e_I, e_L, e_Nul, e_Ref, e_Fmt, e_Dupint, e_Popint, e_Dupref, e_Popref, e_Dp2, e_BI, e_DI, e_BL, e_DL, e_SL, e_UI, e_IL, e_LI, e_CmpL, e_Get, e_Put, e_AldI, e_AldB, e_AldL, e_AldA, e_AstI, e_AstB, e_AstL, e_AstA, e_AstN, e_Len, e_New, e_NwA, e_Cal, e_CaV, e_isO, e_Max, e_Min, e_Obj, e_Cpy, e_Go, e_If, e_Cm, e_NuN, e_NuR, e_Sw, e_RI, e_RL, e_RV, e_fI, e_fL, e_fA, e_fO, e_fZ, e_clr, ip_clr, List.getElem?_cons_zero, List.getElem?_cons_succ, List.getElem?_nil, List.set_cons_zero, List.set_cons_succ, List.set_nil, Nat.add_one_sub_one, Nat.sub_self, Nat.zero_sub, List.length_cons, List.length_nil, List.length_set, List.take_succ_cons, List.take_zero, List.drop_succ_cons, List.drop_zero, List.reverse_cons, List.reverse_nil, List.nil_append, List.cons_append, List.append_nil, Option.toList_some, Option.toList_none, ip_up_same, ip_upup, if_true, if_false, ite_true, ite_false, true_and, and_true, and_self, true_or, or_true, Nat.zero_add, Nat.add_zero, Nat.le_refl, Nat.zero_le, reduceIte, reduceCtorEq, ne_eq, not_true_eq_false, not_false_eq_true, ip_nari, ip_narif, ip_narb0, ip_narb1, forall_const, Nat.reduceSub, Nat.reduceAdd, Nat.reduceLeDiff, Nat.reduceEqDiff, Nat.reduceLT, Nat.reduceMul, Int32.reduceLT, Int32.reduceLE, Int32.reduceToNatClampNeg, i10, i01, it01, it10, eq_self, ip_uh]
    exact hm hc hc1 hc2 hc3
  obtain ⟨N, hN, rfl⟩ := nI_of2 (M := 40) (n := 40) (by decide) hc3 hc2
  have n1 : ¬ n = 92 := by omega
  have n2 : ¬ 92 = n := by omega
  have n3 : ¬ 64 = n := by omega
  have n4 : ¬ 92 = n + 1 := by omega
  have n5 : ¬ n = n + 1 := by omega
  have g64 : 64 ≤ n := by omega
  refine ip_step rfl ?_
  simp only [e_ops, e_nil, e_LdI, e_LdL, e_LdA, e_StI, e_StL, e_StA, e_StN, e_Inc, e_I, e_L, e_Nul, e_Ref, e_Fmt, e_Dupint, e_Popint, e_Dupref, e_Popref, e_Dp2, e_BI, e_DI, e_BL, e_DL, e_SL, e_UI, e_IL, e_LI, e_CmpL, e_Get, e_Put, e_AldI, e_AldB, e_AldL, e_AldA, e_AstI, e_AstB, e_AstL, e_AstA, e_AstN, e_Len, e_New, e_NwA, e_Cal, e_CaV, e_isO, e_Max, e_Min, e_Obj, e_Cpy, e_Go, e_If, e_Cm, e_NuN, e_NuR, e_Sw, e_RI, e_RL, e_RV, e_fI, e_fL, e_fA, e_fO, e_fZ, e_clr, ip_clr, List.getElem?_cons_zero, List.getElem?_cons_succ, List.getElem?_nil, List.set_cons_zero, List.set_cons_succ, List.set_nil, Nat.add_one_sub_one, Nat.sub_self, Nat.zero_sub, List.length_cons, List.length_nil, List.length_set, List.take_succ_cons, List.take_zero, List.drop_succ_cons, List.drop_zero, List.reverse_cons, List.reverse_nil, List.nil_append, List.cons_append, List.append_nil, Option.toList_some, Option.toList_none, ip_up_same, ip_upup, if_true, if_false, ite_true, ite_false, true_and, and_true, and_self, true_or, or_true, Nat.zero_add, Nat.add_zero, Nat.le_refl, Nat.zero_le, reduceIte, reduceCtorEq, ne_eq, not_true_eq_false, not_false_eq_true, ip_nari, ip_narif, ip_narb0, ip_narb1, forall_const, Nat.reduceSub, Nat.reduceAdd, Nat.reduceLeDiff, Nat.reduceEqDiff, Nat.reduceLT, Nat.reduceMul, Int32.reduceLT, Int32.reduceLE, Int32.reduceToNatClampNeg, i10, i01, it01, it10, eq_self, ip_uh, h64, obC, n3]
  refine sp_stripInit (by omega) hN (by omega) ip_up_same ?_
  simp only [e_ops, e_nil, e_LdI, e_LdL, e_LdA, e_StI, e_StL, e_StA, e_StN, e_Inc, e_I, e_L, e_Nul, e_Ref, e_Fmt, e_Dupint, e_Popint, e_Dupref, e_Popref, e_Dp2, e_BI, e_DI, e_BL, e_DL, e_SL, e_UI, e_IL, e_LI, e_CmpL, e_Get, e_Put, e_AldI, e_AldB, e_AldL, e_AldA, e_AstI, e_AstB, e_AstL, e_AstA, e_AstN, e_Len, e_New, e_NwA, e_Cal, e_CaV, e_isO, e_Max, e_Min, e_Obj, e_Cpy, e_Go, e_If, e_Cm, e_NuN, e_NuR, e_Sw, e_RI, e_RL, e_RV, e_fI, e_fL, e_fA, e_fO, e_fZ, e_clr, ip_clr, List.getElem?_cons_zero, List.getElem?_cons_succ, List.getElem?_nil, List.set_cons_zero, List.set_cons_succ, List.set_nil, Nat.add_one_sub_one, Nat.sub_self, Nat.zero_sub, List.length_cons, List.length_nil, List.length_set, List.take_succ_cons, List.take_zero, List.drop_succ_cons, List.drop_zero, List.reverse_cons, List.reverse_nil, List.nil_append, List.cons_append, List.append_nil, Option.toList_some, Option.toList_none, ip_up_same, ip_upup, if_true, if_false, ite_true, ite_false, true_and, and_true, and_self, true_or, or_true, Nat.zero_add, Nat.add_zero, Nat.le_refl, Nat.zero_le, reduceIte, reduceCtorEq, ne_eq, not_true_eq_false, not_false_eq_true, ip_nari, ip_narif, ip_narb0, ip_narb1, forall_const, Nat.reduceSub, Nat.reduceAdd, Nat.reduceLeDiff, Nat.reduceEqDiff, Nat.reduceLT, Nat.reduceMul, Int32.reduceLT, Int32.reduceLE, Int32.reduceToNatClampNeg, i10, i01, it01, it10, eq_self, ip_uh, h92, qA, hv, hc9, RX2e, n1, n2, n4, n5, g64]
  refine hk i N hi rfl hc1 hN rfl _ (hS.sheetS i hi y N (fun _ => 0) ?_ ?_ ?_ (fun k q1 q2 q3 => ?_)) (fun k hk => ?_)
  · exact ip_up_same
  · rw [ip_up_ne (by omega), ip_up_same]
  · rw [ip_up_ne (by omega), ip_up_ne (by omega), ip_up_same]
  · rw [ip_up_ne (by omega), ip_up_ne (by omega), ip_up_ne (by omega), ip_up_ne (by omega)]
  · rw [ip_up_ne (by omega), ip_up_ne (by omega), ip_up_ne (by omega), ip_up_ne (by omega)]
