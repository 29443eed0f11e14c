theorem and255 (z : Int32) : z &&& 255 = nI (z.toBitVec.toNat % 256) := by
  apply Int32.toBitVec_inj.mp
  apply BitVec.eq_of_toNat_eq
  rw [Int32.toBitVec_and, BitVec.toNat_and]
  show z.toBitVec.toNat &&& 2 ^ 8 - 1 = (BitVec.ofNat 32 (z.toBitVec.toNat % 256)).toNat
  rw [Nat.and_two_pow_sub_one_eq_mod, BitVec.toNat_ofNat]
  have := z.toBitVec.isLt
  omega
theorem loI (z : Int32) : ((z.toBitVec.toNat % 256 : Nat) : Int) = z.toInt % 256 := by
  have h : z.toInt = z.toBitVec.toInt := rfl
  rw [h, BitVec.toInt_eq_toNat_cond]
  have := z.toBitVec.isLt
  split <;> omega
theorem lo_t (z : Int64) : z.toInt32.toInt % 256 = z.toInt % 256 := by
  rw [Int64.toInt_toInt32]
  have h : z.toInt.bmod (2 ^ 32) % 4294967296 = z.toInt % 4294967296 := Int.bmod_emod
  generalize z.toInt.bmod (2 ^ 32) = u at *
  omega
theorem lo_8 (z : Int32) : z.toInt8.toInt32.toInt % 256 = z.toInt % 256 := by
  rw [Int8.toInt_toInt32, Int32.toInt_toInt8]
  exact Int.bmod_emod
theorem by_eq {x : Int64} {k : Nat} (hk : k < 8) {c : Int64} (hc : (c.toBitVec.smod 64).toNat = 8 * k) {e : UInt64} (he : e.toNat % 64 = 8 * k) : ((x >>> c) &&& 255).toInt32 = ((x.toUInt64 >>> e).toInt64.toInt32.toInt8.toInt32) &&& 255 := by
  rw [Int64.toInt32_and, show (255 : Int64).toInt32 = 255 from rfl, and255, and255]
  congr 1
  have a := loI (x >>> c).toInt32
  have b := loI (x.toUInt64 >>> e).toInt64.toInt32.toInt8.toInt32
  rw [lo_t] at a
  rw [lo_8, lo_t] at b
  have h1 : (x >>> c).toInt = x.toBitVec.toInt >>> (8 * k) := by
    show (x >>> c).toBitVec.toInt = _
    rw [Int64.toBitVec_shiftRight, BitVec.toInt_sshiftRight', hc]
  have h2 : (x.toUInt64 >>> e).toInt64.toInt % 256 = ((x.toBitVec.toNat >>> (8 * k) : Nat) : Int) % 256 := by
    show (x.toUInt64 >>> e).toBitVec.toInt % 256 = _
    have e3 : (x.toUInt64 >>> e).toBitVec.toNat = x.toBitVec.toNat >>> (8 * k) := by
      show (x.toUInt64 >>> e).toNat = _
      rw [UInt64.toNat_shiftRight, he]
      rfl
    rw [BitVec.toInt_eq_toNat_cond, e3]
    have : x.toBitVec.toNat >>> (8 * k) < 2 ^ 64 := by
      rw [← e3]; exact (x.toUInt64 >>> e).toBitVec.isLt
    split <;> omega
  rw [h1, Int.shiftRight_eq_div_pow, BitVec.toInt_eq_toNat_cond] at a
  rw [h2, Nat.shiftRight_eq_div_pow] at b
  have hx := x.toBitVec.isLt
  generalize x.toBitVec.toNat = N at *
  have : k = 0 ∨ k = 1 ∨ k = 2 ∨ k = 3 ∨ k = 4 ∨ k = 5 ∨ k = 6 ∨ k = 7 := by omega
  generalize (x >>> c).toInt32.toBitVec.toNat = u at *
  generalize (x.toUInt64 >>> e).toInt64.toInt32.toInt8.toInt32.toBitVec.toNat = v at *
  rcases this with rfl | rfl | rfl | rfl | rfl | rfl | rfl | rfl
  · split at a <;> simp only [Nat.reduceMul, Nat.reducePow, Int.reducePow] at a b <;> omega
  · split at a <;> simp only [Nat.reduceMul, Nat.reducePow, Int.reducePow] at a b <;> omega
  · split at a <;> simp only [Nat.reduceMul, Nat.reducePow, Int.reducePow] at a b <;> omega
  · split at a <;> simp only [Nat.reduceMul, Nat.reducePow, Int.reducePow] at a b <;> omega
  · split at a <;> simp only [Nat.reduceMul, Nat.reducePow, Int.reducePow] at a b <;> omega
  · split at a <;> simp only [Nat.reduceMul, Nat.reducePow, Int.reducePow] at a b <;> omega
  · split at a <;> simp only [Nat.reduceMul, Nat.reducePow, Int.reducePow] at a b <;> omega
  · split at a <;> simp only [Nat.reduceMul, Nat.reducePow, Int.reducePow] at a b <;> omega
theorem by_c : ∀ k, k < 8 → (((8 * nI k).toInt64 &&& 63).toBitVec.smod 64).toNat = 8 * k := by decide
theorem by_e : ∀ k, k < 8 → ((8 * nI k).toInt64.toUInt64 &&& Int64.toUInt64 63).toNat % 64 = 8 * k := by decide
theorem nar_b (y : Int32) : vp_nar .byte y = y.toInt8.toInt32 := rfl
theorem byt_eq {x : Int64} {k : Nat} (hk : k < 8) : ((x >>> ((8 * nI k).toInt64 &&& 63)) &&& 255).toInt32 = byt x (nI k) &&& 255 := by
  rw [by_eq hk (by_c k hk) (by_e k hk)]
  unfold byt
  rw [nar_b, Int8.toInt8_toInt32]
theorem m_feedEnd {S : Cs} {x : Int64} {m : Nat} {M M' : ip_M} {g : Nat → Int32} {xx : Mx} (hS : mdAt M S) (h95 : M' 95 = obM (cAk S) (cTl S + m) (cRc S) (cTd S) xx) (h100 : M' 100 = iA 200 g) (hg : ∀ i, i < cTl S + m → g i = fdL (cBy S) x (cTl S) m i &&& 255) (hF : ∀ k, k ≠ 95 → k ≠ 100 → M' k = M k) : mdAt M' (sFeed S x m) := by
  obtain ⟨s1, s2, s3, s4, s5, s6, s7, s8, s9⟩ := hS
  exact ⟨⟨xx, h95⟩, s2.of (hF _ (by omega) (by omega)), s3.of (hF _ (by omega) (by omega)), s4.of (hF _ (by omega) (by omega)) (hF _ (by omega) (by omega)) (hF _ (by omega) (by omega)), ⟨g, h100, hg⟩, s6.of (hF _ (by omega) (by omega)), s7.of (hF _ (by omega) (by omega)) (hF _ (by omega) (by omega)) (hF _ (by omega) (by omega)), s8.of (hF _ (by omega) (by omega)) (hF _ (by omega) (by omega)) (hF _ (by omega) (by omega)), s9.of (hF _ (by omega) (by omega))⟩
theorem lp_mfeed {d : Nat} {S : Cs} {x : Int64} {m : Nat} (hm : m ≤ 8) (hl : cTl S + m ≤ 200) {M0 : ip_M} (hS : mdAt M0 S) {xx : Mx} {n : Nat} {Φ : ip_P} (hk : ∀ M', mdAt M' (sFeed S x m) → mFr M0 M' → Φ (some (.int (nI (cTl S + m)))) M' n) : ∀ (j k : Nat) (M : ip_M) (g : Nat → Int32), k + j = m → M 95 = obM (cAk S) (cTl S + k) (cRc S) (cTd S) xx → M 100 = iA 200 g → (∀ i, i < cTl S + k → g i = fdL (cBy S) x (cTl S) k i &&& 255) → (∀ q, q ≠ 95 → q ≠ 100 → M q = M0 q) →
    ip_Ev (T_X6_feed (ip_call tb d)) Φ 5 ([some (.ref 95), some (.long x), none, some (.int (nI m)), some (.int (nI k))], [], M, n, 0, 0) := by
  intro j
  induction j with
  | zero =>
    intro k M g hj h95 h100 hg hF
    have hkm : k = m := by omega
    subst hkm
    have hlt := nIlt (i := k) (j := k) (by omega) (by omega)
    have hni : ¬ k < k := by omega
    refine ip_step rfl ?_
    simp only [e_ops, e_nil, e_LdI, e_LdL, e_LdA, e_StI, e_StL, e_StA, e_StN, e_Inc, e_I, e_L, e_Nul, e_Ref, e_Fmt, e_Dupint, e_Popint, e_Dupref, e_Popref, e_Dp2, e_BI, e_DI, e_BL, e_DL, e_SL, e_UI, e_IL, e_LI, e_CmpL, e_Get, e_Put, e_AldI, e_AldB, e_AldL, e_AldA, e_AstI, e_AstB, e_AstL, e_AstA, e_AstN, e_Len, e_New, e_NwA, e_Cal, e_CaV, e_isO, e_Max, e_Min, e_Obj, e_Cpy, e_Go, e_If, e_Cm, e_NuN, e_NuR, e_Sw, e_RI, e_RL, e_RV, e_fI, e_fL, e_fA, e_fO, e_fZ, e_clr, ip_clr, List.getElem?_cons_zero, List.getElem?_cons_succ, List.getElem?_nil, List.set_cons_zero, List.set_cons_succ, List.set_nil, Nat.add_one_sub_one, Nat.sub_self, Nat.zero_sub, List.length_cons, List.length_nil, List.length_set, List.take_succ_cons, List.take_zero, List.drop_succ_cons, List.drop_zero, List.reverse_cons, List.reverse_nil, List.nil_append, List.cons_append, List.append_nil, Option.toList_some, Option.toList_none, ip_up_same, ip_upup, if_true, if_false, ite_true, ite_false, true_and, and_true, and_self, true_or, or_true, Nat.zero_add, Nat.add_zero, Nat.le_refl, Nat.zero_le, reduceIte, reduceCtorEq, ne_eq, not_true_eq_false, not_false_eq_true, ip_nari, ip_narif, ip_narb0, ip_narb1, forall_const, Nat.reduceSub, Nat.reduceAdd, Nat.reduceLeDiff, Nat.reduceEqDiff, Nat.reduceLT, Nat.reduceMul, Int32.reduceLT, Int32.reduceLE, Int32.reduceToNatClampNeg, i10, i01, it01, it10, eq_self, ip_uh, hlt, hni]
    simp only [true_implies, false_implies, and_true, true_and]
    refine ip_step rfl ?_
    simp only [e_ops, e_nil, e_LdI, e_LdL, e_LdA, e_StI, e_StL, e_StA, e_StN, e_Inc, e_I, e_L, e_Nul, e_Ref, e_Fmt, e_Dupint, e_Popint, e_Dupref, e_Popref, e_Dp2, e_BI, e_DI, e_BL, e_DL, e_SL, e_UI, e_IL, e_LI, e_CmpL, e_Get, e_Put, e_AldI, e_AldB, e_AldL, e_AldA, e_AstI, e_AstB, e_AstL, e_AstA, e_AstN, e_Len, e_New, e_NwA, e_Cal, e_CaV, e_isO, e_Max, e_Min, e_Obj, e_Cpy, e_Go, e_If, e_Cm, e_NuN, e_NuR, e_Sw, e_RI, e_RL, e_RV, e_fI, e_fL, e_fA, e_fO, e_fZ, e_clr, ip_clr, List.getElem?_cons_zero, List.getElem?_cons_succ, List.getElem?_nil, List.set_cons_zero, List.set_cons_succ, List.set_nil, Nat.add_one_sub_one, Nat.sub_self, Nat.zero_sub, List.length_cons, List.length_nil, List.length_set, List.take_succ_cons, List.take_zero, List.drop_succ_cons, List.drop_zero, List.reverse_cons, List.reverse_nil, List.nil_append, List.cons_append, List.append_nil, Option.toList_some, Option.toList_none, ip_up_same, ip_upup, if_true, if_false, ite_true, ite_false, true_and, and_true, and_self, true_or, or_true, Nat.zero_add, Nat.add_zero, Nat.le_refl, Nat.zero_le, reduceIte, reduceCtorEq, ne_eq, not_true_eq_false, not_false_eq_true, ip_nari, ip_narif, ip_narb0, ip_narb1, forall_const, Nat.reduceSub, Nat.reduceAdd, Nat.reduceLeDiff, Nat.reduceEqDiff, Nat.reduceLT, Nat.reduceMul, Int32.reduceLT, Int32.reduceLE, Int32.reduceToNatClampNeg, i10, i01, it01, it10, eq_self, ip_uh, h95, obM]
    exact hk M (m_feedEnd hS h95 h100 hg hF) (fun q hq => hF q (by omega) (by omega))
  | succ j ih =>
    intro k M g hj h95 h100 hg hF
    have hlt := nIlt (i := k) (j := m) (by omega) (by omega)
    have hni : k < m := by omega
    have hv := nIin (i := cTl S + k) (N := 200) (by omega) (by omega)
    have hc := nIc (i := cTl S + k) (by omega)
    have hb := byt_eq (x := x) (k := k) (by omega)
    have q95 : ∀ c, ip_up M 100 c 95 = M 95 := fun c => ip_up_ne (by omega)
    refine ip_step rfl ?_
    simp only [e_ops, e_nil, e_LdI, e_LdL, e_LdA, e_StI, e_StL, e_StA, e_StN, e_Inc, e_I, e_L, e_Nul, e_Ref, e_Fmt, e_Dupint, e_Popint, e_Dupref, e_Popref, e_Dp2, e_BI, e_DI, e_BL, e_DL, e_SL, e_UI, e_IL, e_LI, e_CmpL, e_Get, e_Put, e_AldI, e_AldB, e_AldL, e_AldA, e_AstI, e_AstB, e_AstL, e_AstA, e_AstN, e_Len, e_New, e_NwA, e_Cal, e_CaV, e_isO, e_Max, e_Min, e_Obj, e_Cpy, e_Go, e_If, e_Cm, e_NuN, e_NuR, e_Sw, e_RI, e_RL, e_RV, e_fI, e_fL, e_fA, e_fO, e_fZ, e_clr, ip_clr, List.getElem?_cons_zero, List.getElem?_cons_succ, List.getElem?_nil, List.set_cons_zero, List.set_cons_succ, List.set_nil, Nat.add_one_sub_one, Nat.sub_self, Nat.zero_sub, List.length_cons, List.length_nil, List.length_set, List.take_succ_cons, List.take_zero, List.drop_succ_cons, List.drop_zero, List.reverse_cons, List.reverse_nil, List.nil_append, List.cons_append, List.append_nil, Option.toList_some, Option.toList_none, ip_up_same, ip_upup, if_true, if_false, ite_true, ite_false, true_and, and_true, and_self, true_or, or_true, Nat.zero_add, Nat.add_zero, Nat.le_refl, Nat.zero_le, reduceIte, reduceCtorEq, ne_eq, not_true_eq_false, not_false_eq_true, ip_nari, ip_narif, ip_narb0, ip_narb1, forall_const, Nat.reduceSub, Nat.reduceAdd, Nat.reduceLeDiff, Nat.reduceEqDiff, Nat.reduceLT, Nat.reduceMul, Int32.reduceLT, Int32.reduceLE, Int32.reduceToNatClampNeg, i10, i01, it01, it10, eq_self, ip_uh, hlt, hni]
    simp only [true_implies, false_implies, and_true, true_and]
    refine ip_step rfl ?_
    simp only [e_ops, e_nil, e_LdI, e_LdL, e_LdA, e_StI, e_StL, e_StA, e_StN, e_Inc, e_I, e_L, e_Nul, e_Ref, e_Fmt, e_Dupint, e_Popint, e_Dupref, e_Popref, e_Dp2, e_BI, e_DI, e_BL, e_DL, e_SL, e_UI, e_IL, e_LI, e_CmpL, e_Get, e_Put, e_AldI, e_AldB, e_AldL, e_AldA, e_AstI, e_AstB, e_AstL, e_AstA, e_AstN, e_Len, e_New, e_NwA, e_Cal, e_CaV, e_isO, e_Max, e_Min, e_Obj, e_Cpy, e_Go, e_If, e_Cm, e_NuN, e_NuR, e_Sw, e_RI, e_RL, e_RV, e_fI, e_fL, e_fA, e_fO, e_fZ, e_clr, ip_clr, List.getElem?_cons_zero, List.getElem?_cons_succ, List.getElem?_nil, List.set_cons_zero, List.set_cons_succ, List.set_nil, Nat.add_one_sub_one, Nat.sub_self, Nat.zero_sub, List.length_cons, List.length_nil, List.length_set, List.take_succ_cons, List.take_zero, List.drop_succ_cons, List.drop_zero, List.reverse_cons, List.reverse_nil, List.nil_append, List.cons_append, List.append_nil, Option.toList_some, Option.toList_none, ip_up_same, ip_upup, if_true, if_false, ite_true, ite_false, true_and, and_true, and_self, true_or, or_true, Nat.zero_add, Nat.add_zero, Nat.le_refl, Nat.zero_le, reduceIte, reduceCtorEq, ne_eq, not_true_eq_false, not_false_eq_true, ip_nari, ip_narif, ip_narb0, ip_narb1, forall_const, Nat.reduceSub, Nat.reduceAdd, Nat.reduceLeDiff, Nat.reduceEqDiff, Nat.reduceLT, Nat.reduceMul, Int32.reduceLT, Int32.reduceLE, Int32.reduceToNatClampNeg, i10, i01, it01, it10, eq_self, ip_uh, h95, obM, h100, iA, hv, hc, q95]
    rw [nI_1, nI_1, hb]
    refine ih (k + 1) _ (upd g (cTl S + k) (byt x (nI k) &&& 255)) (by omega) ip_up_same ((ip_up_ne (by omega)).trans ip_up_same) (fun i hi => ?_) (fun q q1 q2 => (ip_up_ne q1).trans ((ip_up_ne q2).trans (hF q q1 q2)))
    show _ = upd (fdL (cBy S) x (cTl S) k) (cTl S + k) (byt x (nI k)) i &&& 255
    by_cases e : i = cTl S + k
    · subst e; rw [updS, updS]
    · rw [updN e, updN e]; exact hg i (by omega)
theorem n18 {y : Int32} (h : 1 ≤ y ∧ y ≤ 8) : ∃ m, 1 ≤ m ∧ m ≤ 8 ∧ y = nI m := by
  obtain ⟨m, hm, rfl⟩ := nI_of1 (x := y) (N := 8) (by omega) (Int32.le_trans (by decide) h.1) h.2
  have : nI 1 ≤ nI m := h.1
  rw [nI_leI (by omega) (by omega)] at this
  exact ⟨m, this, hm, rfl⟩
theorem m_feed {d : Nat} (hd : 2 ≤ d) {x : Int64} {y : Int32} {S : Cs} (hl : cTl S ≤ 200) {M : ip_M} {n : Nat} {Φ : ip_P} (hS : mdAt M S) (hb : ¬ (1 ≤ y ∧ y ≤ 8) → Φ (some (.int (-1))) M n) (hf : ∀ m, 1 ≤ m → m ≤ 8 → y = nI m → 200 < cTl S + m → Φ (some (.int (-2))) M n) (hk : ∀ m, 1 ≤ m → m ≤ 8 → y = nI m → cTl S + m ≤ 200 → ∀ M', mdAt M' (sFeed S x m) → mFr M M' → Φ (some (.int (nI (cTl S + m)))) M' n) : ip_call tb d 128 [.ref 95, .long x, .int y] M n Φ := by
  have hS0 := hS
  obtain ⟨⟨xx, h95⟩, _, _, _, ⟨g, h100, hg⟩, _⟩ := hS
  obtain ⟨d, rfl⟩ := ip_d1 (Nat.le_trans (by decide) hd)
  rw [cl_128]
  simp only [ip_loc, ip_ent, List.length_cons, List.length_nil, List.replicate_succ, List.replicate_zero, List.append_nil, List.nil_append, List.cons_append, Nat.zero_add, Nat.reduceAdd, Nat.reduceSub, Nat.reduceLeDiff, true_and, Nat.le_refl]
  refine ip_step rfl ?_
  simp only [e_ops, e_nil, e_LdI, e_LdL, e_LdA, e_StI, e_StL, e_StA, e_StN, e_Inc, e_I, e_L, e_Nul, e_Ref, e_Fmt, e_Dupint, e_Popint, e_Dupref, e_Popref, e_Dp2, e_BI, e_DI, e_BL, e_DL, e_SL, e_UI, e_IL, e_LI, e_CmpL, e_Get, e_Put, e_AldI, e_AldB, e_AldL, e_AldA, e_AstI, e_AstB, e_AstL, e_AstA, e_AstN, e_Len, e_New, e_NwA, e_Cal, e_CaV, e_isO, e_Max, e_Min, e_Obj, e_Cpy, e_Go, e_If, e_Cm, e_NuN, e_NuR, e_Sw, e_RI, e_RL, e_RV, e_fI, e_fL, e_fA, e_fO, e_fZ, e_clr, ip_clr, List.getElem?_cons_zero, List.getElem?_cons_succ, List.getElem?_nil, List.set_cons_zero, List.set_cons_succ, List.set_nil, Nat.add_one_sub_one, Nat.sub_self, Nat.zero_sub, List.length_cons, List.length_nil, List.length_set, List.take_succ_cons, List.take_zero, List.drop_succ_cons, List.drop_zero, List.reverse_cons, List.reverse_nil, List.nil_append, List.cons_append, List.append_nil, Option.toList_some, Option.toList_none, ip_up_same, ip_upup, if_true, if_false, ite_true, ite_false, true_and, and_true, and_self, true_or, or_true, Nat.zero_add, Nat.add_zero, Nat.le_refl, Nat.zero_le, reduceIte, reduceCtorEq, ne_eq, not_true_eq_false, not_false_eq_true, ip_nari, ip_narif, ip_narb0, ip_narb1, forall_const, Nat.reduceSub, Nat.reduceAdd, Nat.reduceLeDiff, Nat.reduceEqDiff, Nat.reduceLT, Nat.reduceMul, Int32.reduceLT, Int32.reduceLE, Int32.reduceToNatClampNeg, i10, i01, it01, it10, eq_self, ip_uh]
  refine sp_in (by omega) ?_
  simp only [e_ops, e_nil, e_LdI, e_LdL, e_LdA, e_StI, e_StL, e_StA, e_StN, e_Inc, e_I, e_L, e_Nul, e_Ref, e_Fmt, e_Dupint, e_Popint, e_Dupref, e_Popref, e_Dp2, e_BI, e_DI, e_BL, e_DL, e_SL, e_UI, e_IL, e_LI, e_CmpL, e_Get, e_Put, e_AldI, e_AldB, e_AldL, e_AldA, e_AstI, e_AstB, e_AstL, e_AstA, e_AstN, e_Len, e_New, e_NwA, e_Cal, e_CaV, e_isO, e_Max, e_Min, e_Obj, e_Cpy, e_Go, e_If, e_Cm, e_NuN, e_NuR, e_Sw, e_RI, e_RL, e_RV, e_fI, e_fL, e_fA, e_fO, e_fZ, e_clr, ip_clr, List.getElem?_cons_zero, List.getElem?_cons_succ, List.getElem?_nil, List.set_cons_zero, List.set_cons_succ, List.set_nil, Nat.add_one_sub_one, Nat.sub_self, Nat.zero_sub, List.length_cons, List.length_nil, List.length_set, List.take_succ_cons, List.take_zero, List.drop_succ_cons, List.drop_zero, List.reverse_cons, List.reverse_nil, List.nil_append, List.cons_append, List.append_nil, Option.toList_some, Option.toList_none, ip_up_same, ip_upup, if_true, if_false, ite_true, ite_false, true_and, and_true, and_self, true_or, or_true, Nat.zero_add, Nat.add_zero, Nat.le_refl, Nat.zero_le, reduceIte, reduceCtorEq, ne_eq, not_true_eq_false, not_false_eq_true, ip_nari, ip_narif, ip_narb0, ip_narb1, forall_const, Nat.reduceSub, Nat.reduceAdd, Nat.reduceLeDiff, Nat.reduceEqDiff, Nat.reduceLT, Nat.reduceMul, Int32.reduceLT, Int32.reduceLE, Int32.reduceToNatClampNeg, i10, i01, it01, it10, eq_self, ip_uh]
  refine ⟨fun hc => ?_, fun hc => ?_⟩
  · refine ip_step rfl ?_
    simp only [e_ops, e_nil, e_LdI, e_LdL, e_LdA, e_StI, e_StL, e_StA, e_StN, e_Inc, e_I, e_L, e_Nul, e_Ref, e_Fmt, e_Dupint, e_Popint, e_Dupref, e_Popref, e_Dp2, e_BI, e_DI, e_BL, e_DL, e_SL, e_UI, e_IL, e_LI, e_CmpL, e_Get, e_Put, e_AldI, e_AldB, e_AldL, e_AldA, e_AstI, e_AstB, e_AstL, e_AstA, e_AstN, e_Len, e_New, e_NwA, e_Cal, e_CaV, e_isO, e_Max, e_Min, e_Obj, e_Cpy, e_Go, e_If, e_Cm, e_NuN, e_NuR, e_Sw, e_RI, e_RL, e_RV, e_fI, e_fL, e_fA, e_fO, e_fZ, e_clr, ip_clr, List.getElem?_cons_zero, List.getElem?_cons_succ, List.getElem?_nil, List.set_cons_zero, List.set_cons_succ, List.set_nil, Nat.add_one_sub_one, Nat.sub_self, Nat.zero_sub, List.length_cons, List.length_nil, List.length_set, List.take_succ_cons, List.take_zero, List.drop_succ_cons, List.drop_zero, List.reverse_cons, List.reverse_nil, List.nil_append, List.cons_append, List.append_nil, Option.toList_some, Option.toList_none, ip_up_same, ip_upup, if_true, if_false, ite_true, ite_false, true_and, and_true, and_self, true_or, or_true, Nat.zero_add, Nat.add_zero, Nat.le_refl, Nat.zero_le, reduceIte, reduceCtorEq, ne_eq, not_true_eq_false, not_false_eq_true, ip_nari, ip_narif, ip_narb0, ip_narb1, forall_const, Nat.reduceSub, Nat.reduceAdd, Nat.reduceLeDiff, Nat.reduceEqDiff, Nat.reduceLT, Nat.reduceMul, Int32.reduceLT, Int32.reduceLE, Int32.reduceToNatClampNeg, i10, i01, it01, it10, eq_self, ip_uh]
    exact hb hc
  have hc := Classical.not_not.mp hc
  obtain ⟨m, hm1, hm, rfl⟩ := n18 hc
  have hlt : (200 < nI (cTl S + m)) = (200 < cTl S + m) := nIlt (i := 200) (j := cTl S + m) (by omega) (by omega)
  have ha := nI_add (cTl S) m
  refine ip_step rfl ?_
  simp only [e_ops, e_nil, e_LdI, e_LdL, e_LdA, e_StI, e_StL, e_StA, e_StN, e_Inc, e_I, e_L, e_Nul, e_Ref, e_Fmt, e_Dupint, e_Popint, e_Dupref, e_Popref, e_Dp2, e_BI, e_DI, e_BL, e_DL, e_SL, e_UI, e_IL, e_LI, e_CmpL, e_Get, e_Put, e_AldI, e_AldB, e_AldL, e_AldA, e_AstI, e_AstB, e_AstL, e_AstA, e_AstN, e_Len, e_New, e_NwA, e_Cal, e_CaV, e_isO, e_Max, e_Min, e_Obj, e_Cpy, e_Go, e_If, e_Cm, e_NuN, e_NuR, e_Sw, e_RI, e_RL, e_RV, e_fI, e_fL, e_fA, e_fO, e_fZ, e_clr, ip_clr, List.getElem?_cons_zero, List.getElem?_cons_succ, List.getElem?_nil, List.set_cons_zero, List.set_cons_succ, List.set_nil, Nat.add_one_sub_one, Nat.sub_self, Nat.zero_sub, List.length_cons, List.length_nil, List.length_set, List.take_succ_cons, List.take_zero, List.drop_succ_cons, List.drop_zero, List.reverse_cons, List.reverse_nil, List.nil_append, List.cons_append, List.append_nil, Option.toList_some, Option.toList_none, ip_up_same, ip_upup, if_true, if_false, ite_true, ite_false, true_and, and_true, and_self, true_or, or_true, Nat.zero_add, Nat.add_zero, Nat.le_refl, Nat.zero_le, reduceIte, reduceCtorEq, ne_eq, not_true_eq_false, not_false_eq_true, ip_nari, ip_narif, ip_narb0, ip_narb1, forall_const, Nat.reduceSub, Nat.reduceAdd, Nat.reduceLeDiff, Nat.reduceEqDiff, Nat.reduceLT, Nat.reduceMul, Int32.reduceLT, Int32.reduceLE, Int32.reduceToNatClampNeg, i10, i01, it01, it10, eq_self, ip_uh, h95, obM, ha, hlt]
  refine ⟨fun hc2 => ?_, fun hc2 => ?_⟩
  · refine ip_step rfl ?_
    simp only [e_ops, e_nil, e_LdI, e_LdL, e_LdA, e_StI, e_StL, e_StA, e_StN, e_Inc, e_I, e_L, e_Nul, e_Ref, e_Fmt, e_Dupint, e_Popint, e_Dupref, e_Popref, e_Dp2, e_BI, e_DI, e_BL, e_DL, e_SL, e_UI, e_IL, e_LI, e_CmpL, e_Get, e_Put, e_AldI, e_AldB, e_AldL, e_AldA, e_AstI, e_AstB, e_AstL, e_AstA, e_AstN, e_Len, e_New, e_NwA, e_Cal, e_CaV, e_isO, e_Max, e_Min, e_Obj, e_Cpy, e_Go, e_If, e_Cm, e_NuN, e_NuR, e_Sw, e_RI, e_RL, e_RV, e_fI, e_fL, e_fA, e_fO, e_fZ, e_clr, ip_clr, List.getElem?_cons_zero, List.getElem?_cons_succ, List.getElem?_nil, List.set_cons_zero, List.set_cons_succ, List.set_nil, Nat.add_one_sub_one, Nat.sub_self, Nat.zero_sub, List.length_cons, List.length_nil, List.length_set, List.take_succ_cons, List.take_zero, List.drop_succ_cons, List.drop_zero, List.reverse_cons, List.reverse_nil, List.nil_append, List.cons_append, List.append_nil, Option.toList_some, Option.toList_none, ip_up_same, ip_upup, if_true, if_false, ite_true, ite_false, true_and, and_true, and_self, true_or, or_true, Nat.zero_add, Nat.add_zero, Nat.le_refl, Nat.zero_le, reduceIte, reduceCtorEq, ne_eq, not_true_eq_false, not_false_eq_true, ip_nari, ip_narif, ip_narb0, ip_narb1, forall_const, Nat.reduceSub, Nat.reduceAdd, Nat.reduceLeDiff, Nat.reduceEqDiff, Nat.reduceLT, Nat.reduceMul, Int32.reduceLT, Int32.reduceLE, Int32.reduceToNatClampNeg, i10, i01, it01, it10, eq_self, ip_uh]
    exact hf m hm1 hm rfl hc2
  refine ip_step rfl ?_
  simp only [e_ops, e_nil, e_LdI, e_LdL, e_LdA, e_StI, e_StL, e_StA, e_StN, e_Inc, e_I, e_L, e_Nul, e_Ref, e_Fmt, e_Dupint, e_Popint, e_Dupref, e_Popref, e_Dp2, e_BI, e_DI, e_BL, e_DL, e_SL, e_UI, e_IL, e_LI, e_CmpL, e_Get, e_Put, e_AldI, e_AldB, e_AldL, e_AldA, e_AstI, e_AstB, e_AstL, e_AstA, e_AstN, e_Len, e_New, e_NwA, e_Cal, e_CaV, e_isO, e_Max, e_Min, e_Obj, e_Cpy, e_Go, e_If, e_Cm, e_NuN, e_NuR, e_Sw, e_RI, e_RL, e_RV, e_fI, e_fL, e_fA, e_fO, e_fZ, e_clr, ip_clr, List.getElem?_cons_zero, List.getElem?_cons_succ, List.getElem?_nil, List.set_cons_zero, List.set_cons_succ, List.set_nil, Nat.add_one_sub_one, Nat.sub_self, Nat.zero_sub, List.length_cons, List.length_nil, List.length_set, List.take_succ_cons, List.take_zero, List.drop_succ_cons, List.drop_zero, List.reverse_cons, List.reverse_nil, List.nil_append, List.cons_append, List.append_nil, Option.toList_some, Option.toList_none, ip_up_same, ip_upup, if_true, if_false, ite_true, ite_false, true_and, and_true, and_self, true_or, or_true, Nat.zero_add, Nat.add_zero, Nat.le_refl, Nat.zero_le, reduceIte, reduceCtorEq, ne_eq, not_true_eq_false, not_false_eq_true, ip_nari, ip_narif, ip_narb0, ip_narb1, forall_const, Nat.reduceSub, Nat.reduceAdd, Nat.reduceLeDiff, Nat.reduceEqDiff, Nat.reduceLT, Nat.reduceMul, Int32.reduceLT, Int32.reduceLE, Int32.reduceToNatClampNeg, i10, i01, it01, it10, eq_self, ip_uh]
  exact lp_mfeed hm (by omega) hS0 (fun M' h1 h2 => hk m hm1 hm rfl (by omega) M' h1 h2) m 0 M g (by omega) h95 h100 hg (fun _ _ _ => rfl)
