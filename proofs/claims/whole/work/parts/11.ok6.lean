/-- what is asked of a method that is called: np parameters -/
def ip_mt (e : ip_En) (np : Nat) : Prop := (e.1.cls ≠ "java/lang/invoke/MethodHandle" ∧ e.1.cls ≠ "java/lang/invoke/VarHandle") ∧ (parseMethodDescriptor e.1.desc).map (fun d => d.parameters.length) = some np ∧ ip_cw e ∈ ip_Ts ∧ Cond.initialized e.1.cls ∈ ip_Ts ∧ e.2.2.1 ≤ 45
theorem ip_mt.par {e : ip_En} {np : Nat} (h : ip_mt e np) : ∀ sig, parseMethodDescriptor e.1.desc = some sig → np = sig.parameters.length := by
  intro sig hs
  have h2 := h.2.1
  rw [hs] at h2
  exact (Option.some.inj h2).symm
theorem ip_wcall {p : Program} {l : Launch} {e : Env} {R : Room} {s : State} {m : MethodId} {args : Array Value} {below : List Frame} {meth : Method} {c : Code} {H : Heap} {locs : List Loc} {cells slots mc ms : Nat} {Q : State → Prop} {G : ip_Gl} {Φ : ip_P} {pc : Nat} {ls : Array Slot} {st0 rest : List Value} {a : Array Value} (hr : va_Run p l e R s m args below meth c H locs cells slots mc ms (F0 m pc ls st0) rest (ip_Qc G Φ a) (ip_A G.2.1)) (hS : va_S (ip_A G.2.1) s.heap H locs)
    (kk : ∀ (v : Option Value) (M : ip_M) (n : Nat) (H1 : Heap) (locs1 : List Loc), Φ v M n → ip_Rep G M n H1 → va_S (ip_A G.2.1) s.heap H1 locs1 → W p l e R s m args below meth c H1 locs1 (cells + mc) (slots + ms) Q (F0 m (pc + 3) ls ((v.map (ip_v G.2.1 G.2.2.1)).toList ++ rest))) : W p l e R s m args below meth c H locs cells slots Q (F0 m pc ls st0) := by
  intro T hT X
  obtain ⟨v, st₀, t, T', L, h0, X', hL, e1, e2, ⟨v', M, n, hv, hp, hRep, hz, hk⟩, st⟩ := hr T hT X
  cases hv
  rw [h0] at hz hk
  obtain ⟨t2, a1, b1⟩ := kk v' M n T'.heap (locs ++ L) hp (by rw [e1]; exact hRep)
    ⟨Nat.le_trans hS.1 (by rw [e1]; exact hz), fun q h1 h2 => by rw [e1, hk q (Nat.lt_of_lt_of_le h1 hS.1) h2]; exact hS.2.1 q h1 h2, fun q hq => by
      rcases List.mem_append.mp hq with h | h
      · exact hS.2.2 q h
      · exact hL q h⟩ T' rfl X'
  exact ⟨t2, st t2 a1, b1⟩
theorem ip_blind {G : ip_Gl} {vs : List Value} {M : ip_M} {n : Nat} : FrameBlind (ip_Pc G vs M n) := by
  intro a U g mk h
  obtain ⟨h1, h2, h3, h4⟩ := h
  exact ⟨h1, h2, va_K.moved (u := U) (U := U.calling g mk a) (Vm.Alike.refl U.vm) h3, h4.move (U := U.calling g mk a) (H := U.heap) (locs := []) va_S.rf rfl (State.WarmedH.refl U)⟩
theorem ip_pre {x : ip_Cx} {G : ip_Gl} {tab : Nat → Option ip_En} {nL d cap cas : Nat} {own : String} {cc : ByteArray} (X : ip_X x G tab nL d cap cas own cc) {vs : List Value} {M : ip_M} {n : Nat} {H : Heap} {locs : List Loc} (hR : ip_Rep G M n H) (hS : va_S (ip_A G.2.1) x.2.2.2.2.1.heap H locs) : ∀ U : State, U.heap = H → x.2.2.2.2.1.WarmedH U.vm → ip_Pc G vs M n (vs.map (ip_v G.2.1 G.2.2.1)).toArray U :=
  fun U hU hW => ⟨rfl, by rw [hU]; exact hR, va_K.moved hW.alike X.2.2.2.2.2.1, X.2.2.2.2.2.2.1.move hS hU hW⟩
theorem ip_words {x : ip_Cx} {G : ip_Gl} {tab : Nat → Option ip_En} {nL d cap cas : Nat} {own : String} {cc : ByteArray} (X : ip_X x G tab nL d cap cas own cc) {e : ip_En} (he : ip_cw e ∈ ip_Ts) : ∀ w ∈ (ip_cw e :: ip_Ts), ∀ (a' : Array Value) (U : State), x.2.2.2.2.1.WarmedH U.vm → w.before a' U = true := by
  intro w hw a' U hW
  have hin : w ∈ ip_Ts := by
    rcases List.mem_cons.mp hw with rfl | h
    · exact he
    · exact h
  exact word_at hW (good_of_word (ip_Ts_good hin)) (X.2.2.2.2.1 w hin)
theorem ip_ret_map (G : ip_Gl) (v : Option Value) (r : List Value) : (v.map (ip_v G.2.1 G.2.2.1)).toList ++ r.map (ip_v G.2.1 G.2.2.1) = (v.toList ++ r).map (ip_v G.2.1 G.2.2.1) := by cases v <;> rfl
theorem ip_split {z : Nat} {ex : Nat → Nat} {st : List Value} {na : Nat} : st.map (ip_v z ex) = ((st.take na).reverse.map (ip_v z ex)).reverse ++ (st.drop na).map (ip_v z ex) := by
  rw [← List.map_reverse, List.reverse_reverse, ← List.map_append, List.take_append_drop]
theorem ip_splitV {z : Nat} {ex : Nat → Nat} {st : List Value} {j b : Nat} (h : st[j]? = some (.ref b)) : st.map (ip_v z ex) = ((st.take j).reverse.map (ip_v z ex)).reverse ++ .ref (ip_ad z ex b) :: (st.drop (j + 1)).map (ip_v z ex) := by
  have h1 : st = st.take j ++ (.ref b :: st.drop (j + 1)) := by
    have h2 : st.drop j = .ref b :: st.drop (j + 1) := by
      obtain ⟨hj, he⟩ := List.getElem?_eq_some_iff.mp h
      rw [List.drop_eq_getElem_cons hj, he]
    rw [← h2, List.take_append_drop]
  conv => lhs; rw [h1]
  rw [List.map_append, ← List.map_reverse, List.reverse_reverse]
  rfl
theorem ip_takeV {st : List Value} {j b : Nat} (h : st[j]? = some (.ref b)) : (st.take (j + 1)).reverse = .ref b :: (st.take j).reverse := by
  rw [List.take_succ, h]
  simp
theorem ok_calS {x : ip_Cx} {G : ip_Gl} {tab : Nat → Option ip_En} {nL d cap cas : Nat} {own : String} {cc : ByteArray} {pc : Nat} (X : ip_X x G tab nL d cap cas own cc) {k na mc ms i np : Nat} {e : ip_En} (ht : tab k = some e) (hm : ip_mt e np) (hmc : e.2.2.2.2.1 = mc) (hms : e.2.2.2.2.2.1 = ms) (hnp : na = np) (hw : Cond.methodLink own i e.1 ∈ ip_Ts) (hst : Cond.static e.1 ∈ ip_Ts) (hd : decode cc pc = .ok (.invokestatic i, 3)) : ip_ok x G nL pc (pc + 3) (oCal (ip_call tab d) cap cas k na mc ms) := by
  rintro ⟨L, st, M, n, cu, su⟩ K hK h H locs ls hR hS hl
  replace hR : ip_Rep G M n H := hR
  replace hl : ip_Loc G nL ls L := hl
  unfold oCal at h
  dsimp only at h
  subst hmc hms hnp
  obtain ⟨⟨hr4, hna, hcu, hsu⟩, h⟩ := h
  have hcs := ip_cats G.2.1 G.2.2.1 (st.drop na)
  have hlo := X.2.2.2.2.2.2.2.2.2.2.2.2.2.1
  have hfr := X.2.2.2.2.2.2.2.2.2.2.2.2.1
  have hM := X.2.2.2.2.2.2.2.2.2.2.2.2.2.2 k e ht _ M n _ h
  refine ip_wcall (G := G) (rest := (st.drop na).map (ip_v G.2.1 G.2.2.1)) (va_runS (Ts := ip_Ts) (As := (st.take na).reverse.map (ip_v G.2.1 G.2.2.1)) ⟨X.1, X.2.1, X.2.2.1, X.2.2.2.1, X.2.2.2.2.1⟩ hM ⟨⟨rfl, rfl, (by show d + 1 + 1 ≤ _; omega), (by show 8 + (e.2.2.1 + 11) + (64 * d + 128) ≤ _; have := hm.2.2.2.2; omega), ip_words X hm.2.2.1, List.mem_cons_self, X.2.2.2.2.1 _ hm.2.2.1, X.2.2.2.2.1 _ hm.2.2.2.1, hm.1, hm.par, X.2.2.2.2.1 _ hw⟩, X.2.2.2.2.1 _ hst⟩ ⟨ip_blind, ip_pre X hR hS⟩ rfl (by simp; omega) hl.1 ip_split (by show 2 * 0 + _ ≤ 8; omega) hd ⟨by rw [X.2.2.2.2.2.2.2.2.2.2.1]; exact hcu, by rw [X.2.2.2.2.2.2.2.2.2.2.2.1]; exact hsu⟩) hS (fun v M1 n1 H1 locs1 hp hR1 hS1 => ?_)
  rw [ip_ret_map]
  exact hK _ hp H1 locs1 ls hR1 hS1 hl
theorem ok_calSN {x : ip_Cx} {G : ip_Gl} {tab : Nat → Option ip_En} {nL d cap cas : Nat} {own : String} {cc : ByteArray} {pc : Nat} (X : ip_X x G tab nL d cap cas own cc) {k na mc ms i np : Nat} {e : ip_En} (ht : tab k = some e) (hm : ip_mt e np) (hmc : e.2.2.2.2.1 = mc) (hms : e.2.2.2.2.2.1 = ms) (hnp : na = np) (hw : (own, i, e.1) ∈ ip_nesM) (hst : Cond.static e.1 ∈ ip_Ts) (hd : decode cc pc = .ok (.invokestatic i, 3)) : ip_ok x G nL pc (pc + 3) (oCal (ip_call tab d) cap cas k na mc ms) := by
  rintro ⟨L, st, M, n, cu, su⟩ K hK h H locs ls hR hS hl
  replace hR : ip_Rep G M n H := hR
  replace hl : ip_Loc G nL ls L := hl
  unfold oCal at h
  dsimp only at h
  subst hmc hms hnp
  obtain ⟨⟨hr4, hna, hcu, hsu⟩, h⟩ := h
  have hcs := ip_cats G.2.1 G.2.2.1 (st.drop na)
  have hlo := X.2.2.2.2.2.2.2.2.2.2.2.2.2.1
  have hfr := X.2.2.2.2.2.2.2.2.2.2.2.2.1
  have hM := X.2.2.2.2.2.2.2.2.2.2.2.2.2.2 k e ht _ M n _ h
  refine ip_wcall (G := G) (rest := (st.drop na).map (ip_v G.2.1 G.2.2.1)) (va_runSN (Ts := ip_Ts) (As := (st.take na).reverse.map (ip_v G.2.1 G.2.2.1)) ⟨X.1, X.2.1, X.2.2.1, X.2.2.2.1, X.2.2.2.2.1⟩ hM ⟨⟨⟨rfl, rfl, (by show d + 1 + 1 ≤ _; omega), (by show 8 + (e.2.2.1 + 11) + (64 * d + 128) ≤ _; have := hm.2.2.2.2; omega), ip_words X hm.2.2.1, List.mem_cons_self⟩, X.2.2.2.2.1 _ hm.2.2.1, X.2.2.2.2.1 _ hm.2.2.2.1, hm.1, hm.par, va_Nw.use rfl (X.2.2.2.2.2.2.1.2.2.2.2.1 _ hw)⟩, X.2.2.2.2.1 _ hst, trivial⟩ ⟨ip_blind, ip_pre X hR hS⟩ rfl (by simp; omega) hl.1 ip_split (by show 2 * 0 + _ ≤ 8; omega) hd ⟨by rw [X.2.2.2.2.2.2.2.2.2.2.1]; exact hcu, by rw [X.2.2.2.2.2.2.2.2.2.2.2.1]; exact hsu⟩) hS (fun v M1 n1 H1 locs1 hp hR1 hS1 => ?_)
  rw [ip_ret_map]
  exact hK _ hp H1 locs1 ls hR1 hS1 hl
theorem ip_recv {x : ip_Cx} {G : ip_Gl} {tab : Nat → Option ip_En} {nL d cap cas : Nat} {own : String} {cc : ByteArray} (X : ip_X x G tab nL d cap cas own cc) {M : ip_M} {n : Nat} {H : Heap} {locs : List Loc} {b ci : Nat} {C : String} {fs : List Value} (hR : ip_Rep G M n H) (hS : va_S (ip_A G.2.1) x.2.2.2.2.1.heap H locs) (hC : (∃ T N, vwCl[ci]? = some (C, T, N)) ∨ (ci = 7 ∧ C = "java/lang/String")) (hM : M b = .inr (ci, fs)) : ∃ cell : Cell, H[ip_ad G.2.1 G.2.2.1 b]? = some cell ∧ cell.vm.isStatics = false ∧ x.2.2.2.2.1.vm.findClass C = some cell.cls := by
  rcases hC with ⟨T, N, hc⟩ | ⟨rfl, rfl⟩
  · obtain ⟨h1, h2, he⟩ := ip_cellO hR X.2.2.2.2.2.2.2.1 hM hc
    exact va_recv X.2.2.2.2.2.1 hR.2.2.2.2 hc he
  · have ha : b < 64 := by
      apply Nat.not_le.mp
      intro h1
      have h2 : b < n := hR.lt (by rw [hM]; intro q; unfold ip_none at q; cases q)
      obtain ⟨q, hq, -⟩ := hR.2.2.2.2 (b - 64) _ (by rw [ip_ws_at h1 h2, hM])
      simp [vwCl] at hq
    obtain ⟨w, -, e1, -, -⟩ := X.2.2.2.2.2.2.1.2.1 b fs ha (by rw [← hR.1 b ha]; exact hM)
    obtain ⟨cell, g1, g2, g3, -⟩ := e1.kept hS.2.1
    rw [ip_ad_ex ha]
    exact ⟨cell, g1, g2, g3⟩
theorem ip_isO_ref {M : ip_M} {ci : Nat} {v : Option Value} (h : ip_isO M ci v) : ∃ b fs, v = some (.ref b) ∧ M b = .inr (ci, fs) := by
  unfold ip_isO at h
  split at h
  · split at h
    · rename_i hM
      subst h
      exact ⟨_, _, rfl, hM⟩
    · exact h.elim
  · exact h.elim
theorem ok_calV {x : ip_Cx} {G : ip_Gl} {tab : Nat → Option ip_En} {nL d cap cas : Nat} {own : String} {cc : ByteArray} {pc : Nat} (X : ip_X x G tab nL d cap cas own cc) {k na mc ms i np : Nat} {e : ip_En} (ht : tab k = some e) (hm : ip_mt e np) (hmc : e.2.2.2.2.1 = mc) (hms : e.2.2.2.2.2.1 = ms) (hnp : na = np + 1) (hw : Cond.methodLink own i e.1 ∈ ip_Ts) (hst : Cond.instanceMethod e.1 ∈ ip_Ts) {ci : Nat} (hC : (∃ T N, vwCl[ci]? = some (e.1.cls, T, N)) ∨ (ci = 7 ∧ e.1.cls = "java/lang/String")) (hse : Cond.selects e.1.cls e.1 e.1 ∈ ip_Ts) (hd : decode cc pc = .ok (.invokevirtual i, 3)) : ip_ok x G nL pc (pc + 3) (oCaV (ip_call tab d) cap cas ci k na mc ms) := by
  rintro ⟨L, st, M, n, cu, su⟩ K hK h H locs ls hR hS hl
  replace hR : ip_Rep G M n H := hR
  replace hl : ip_Loc G nL ls L := hl
  unfold oCaV oCal at h
  dsimp only at h
  subst hmc hms hnp
  obtain ⟨hO, h⟩ := h
  obtain ⟨b, fs, hb, hMb⟩ := ip_isO_ref hO
  replace hb : st[np]? = some (.ref b) := hb
  obtain ⟨⟨hr4, hna, hcu, hsu⟩, h⟩ := h
  have hcs := ip_cats G.2.1 G.2.2.1 (st.drop (np + 1))
  have hlo := X.2.2.2.2.2.2.2.2.2.2.2.2.2.1
  have hfr := X.2.2.2.2.2.2.2.2.2.2.2.2.1
  have hM := X.2.2.2.2.2.2.2.2.2.2.2.2.2.2 k _ ht _ M n _ h
  refine ip_wcall (G := G) (rest := (st.drop (np + 1)).map (ip_v G.2.1 G.2.2.1)) (va_runV (Ts := ip_Ts) (b := ip_ad G.2.1 G.2.2.1 b) (As := (st.take np).reverse.map (ip_v G.2.1 G.2.2.1)) ⟨X.1, X.2.1, X.2.2.1, X.2.2.2.1, X.2.2.2.2.1⟩ hM ⟨⟨rfl, rfl, (by show d + 1 + 1 ≤ _; omega), (by show 8 + (e.2.2.1 + 11) + (64 * d + 128) ≤ _; have := hm.2.2.2.2; omega), ip_words X hm.2.2.1, List.mem_cons_self, X.2.2.2.2.1 _ hm.2.2.1, X.2.2.2.2.1 _ hm.2.2.2.1, hm.1, hm.par, X.2.2.2.2.1 _ hw⟩, X.2.2.2.2.1 _ hst, X.2.2.2.2.1 _ hse⟩ ⟨ip_blind, ip_recv X hR hS hC hMb, fun U hU hW => by have h9 := ip_pre X (vs := (st.take (np + 1)).reverse) hR hS U hU hW; rw [ip_takeV hb] at h9 ⊢; exact h9⟩ rfl (by simp; omega) hl.1 (ip_splitV hb) (by show 2 * 0 + _ ≤ 8; omega) hd ⟨by rw [X.2.2.2.2.2.2.2.2.2.2.1]; exact hcu, by rw [X.2.2.2.2.2.2.2.2.2.2.2.1]; exact hsu⟩) hS (fun v M1 n1 H1 locs1 hp hR1 hS1 => ?_)
  rw [ip_ret_map]
  exact hK _ hp H1 locs1 ls hR1 hS1 hl
theorem ok_calI {x : ip_Cx} {G : ip_Gl} {tab : Nat → Option ip_En} {nL d cap cas : Nat} {own : String} {cc : ByteArray} {pc : Nat} (X : ip_X x G tab nL d cap cas own cc) {k na mc ms i np : Nat} {e : ip_En} (ht : tab k = some e) (hm : ip_mt e np) (hmc : e.2.2.2.2.1 = mc) (hms : e.2.2.2.2.2.1 = ms) (hnp : na = np + 1) (hw : Cond.methodLink own i e.1 ∈ ip_Ts) (hst : Cond.instanceMethod e.1 ∈ ip_Ts) {ci : Nat} (hret : e.2.2.2.1 = none) (hnm : e.1.name = "<init>") (hd : decode cc pc = .ok (.invokespecial i, 3)) : ip_ok x G nL pc (pc + 3) (oCaV (ip_call tab d) cap cas ci k na mc ms) := by
  rintro ⟨L, st, M, n, cu, su⟩ K hK h H locs ls hR hS hl
  replace hR : ip_Rep G M n H := hR
  replace hl : ip_Loc G nL ls L := hl
  unfold oCaV oCal at h
  dsimp only at h
  subst hmc hms hnp
  obtain ⟨y, bytes, maxL, ret, mc, ms, T⟩ := e
  dsimp only at hret
  subst hret
  obtain ⟨hO, h⟩ := h
  obtain ⟨b, fs, hb, hMb⟩ := ip_isO_ref hO
  replace hb : st[np]? = some (.ref b) := hb
  obtain ⟨⟨hr4, hna, hcu, hsu⟩, h⟩ := h
  have hcs := ip_cats G.2.1 G.2.2.1 (st.drop (np + 1))
  have hlo := X.2.2.2.2.2.2.2.2.2.2.2.2.2.1
  have hfr := X.2.2.2.2.2.2.2.2.2.2.2.2.1
  have hM := X.2.2.2.2.2.2.2.2.2.2.2.2.2.2 k _ ht _ M n _ h
  refine ip_wcall (G := G) (rest := (st.drop (np + 1)).map (ip_v G.2.1 G.2.2.1)) (va_runI (Ts := ip_Ts) (b := ip_ad G.2.1 G.2.2.1 b) (As := (st.take np).reverse.map (ip_v G.2.1 G.2.2.1)) ⟨X.1, X.2.1, X.2.2.1, X.2.2.2.1, X.2.2.2.2.1⟩ hM ⟨⟨rfl, rfl, (by show d + 1 + 1 ≤ _; omega), (by show 8 + (maxL + 11) + (64 * d + 128) ≤ _; have : maxL ≤ 45 := hm.2.2.2.2; omega), ip_words X hm.2.2.1, List.mem_cons_self, X.2.2.2.2.1 _ hm.2.2.1, X.2.2.2.2.1 _ hm.2.2.2.1, hm.1, hm.par, X.2.2.2.2.1 _ hw⟩, hnm, X.2.2.2.2.1 _ hst⟩ ⟨ip_blind, fun U hU hW => by have h9 := ip_pre X (vs := (st.take (np + 1)).reverse) hR hS U hU hW; rw [ip_takeV hb] at h9 ⊢; exact h9⟩ rfl (by simp; omega) hl.1 (ip_splitV hb) (by show 2 * 0 + _ ≤ 8; omega) hd ⟨by rw [X.2.2.2.2.2.2.2.2.2.2.1]; exact hcu, by rw [X.2.2.2.2.2.2.2.2.2.2.2.1]; exact hsu⟩) hS (fun v M1 n1 H1 locs1 hp hR1 hS1 => ?_)
  rw [ip_ret_map]
  exact hK _ hp H1 locs1 ls hR1 hS1 hl
theorem ok_calIN {x : ip_Cx} {G : ip_Gl} {tab : Nat → Option ip_En} {nL d cap cas : Nat} {own : String} {cc : ByteArray} {pc : Nat} (X : ip_X x G tab nL d cap cas own cc) {k na mc ms i np : Nat} {e : ip_En} (ht : tab k = some e) (hm : ip_mt e np) (hmc : e.2.2.2.2.1 = mc) (hms : e.2.2.2.2.2.1 = ms) (hnp : na = np + 1) (hw : (own, i, e.1) ∈ ip_nesM) (hst : Cond.instanceMethod e.1 ∈ ip_Ts) {ci : Nat} (hret : e.2.2.2.1 = none) (hnm : e.1.name = "<init>") (hd : decode cc pc = .ok (.invokespecial i, 3)) : ip_ok x G nL pc (pc + 3) (oCaV (ip_call tab d) cap cas ci k na mc ms) := by
  rintro ⟨L, st, M, n, cu, su⟩ K hK h H locs ls hR hS hl
  replace hR : ip_Rep G M n H := hR
  replace hl : ip_Loc G nL ls L := hl
  unfold oCaV oCal at h
  dsimp only at h
  subst hmc hms hnp
  obtain ⟨y, bytes, maxL, ret, mc, ms, T⟩ := e
  dsimp only at hret
  subst hret
  obtain ⟨hO, h⟩ := h
  obtain ⟨b, fs, hb, hMb⟩ := ip_isO_ref hO
  replace hb : st[np]? = some (.ref b) := hb
  obtain ⟨⟨hr4, hna, hcu, hsu⟩, h⟩ := h
  have hcs := ip_cats G.2.1 G.2.2.1 (st.drop (np + 1))
  have hlo := X.2.2.2.2.2.2.2.2.2.2.2.2.2.1
  have hfr := X.2.2.2.2.2.2.2.2.2.2.2.2.1
  have hM := X.2.2.2.2.2.2.2.2.2.2.2.2.2.2 k _ ht _ M n _ h
  refine ip_wcall (G := G) (rest := (st.drop (np + 1)).map (ip_v G.2.1 G.2.2.1)) (va_runIN (Ts := ip_Ts) (b := ip_ad G.2.1 G.2.2.1 b) (As := (st.take np).reverse.map (ip_v G.2.1 G.2.2.1)) ⟨X.1, X.2.1, X.2.2.1, X.2.2.2.1, X.2.2.2.2.1⟩ hM ⟨⟨⟨rfl, rfl, (by show d + 1 + 1 ≤ _; omega), (by show 8 + (maxL + 11) + (64 * d + 128) ≤ _; have : maxL ≤ 45 := hm.2.2.2.2; omega), ip_words X hm.2.2.1, List.mem_cons_self⟩, X.2.2.2.2.1 _ hm.2.2.1, X.2.2.2.2.1 _ hm.2.2.2.1, hm.1, hm.par, va_Nw.use rfl (X.2.2.2.2.2.2.1.2.2.2.2.1 _ hw)⟩, hnm, X.2.2.2.2.1 _ hst⟩ ⟨ip_blind, fun U hU hW => by have h9 := ip_pre X (vs := (st.take (np + 1)).reverse) hR hS U hU hW; rw [ip_takeV hb] at h9 ⊢; exact h9⟩ rfl (by simp; omega) hl.1 (ip_splitV hb) (by show 2 * 0 + _ ≤ 8; omega) hd ⟨by rw [X.2.2.2.2.2.2.2.2.2.2.1]; exact hcu, by rw [X.2.2.2.2.2.2.2.2.2.2.2.1]; exact hsu⟩) hS (fun v M1 n1 H1 locs1 hp hR1 hS1 => ?_)
  rw [ip_ret_map]
  exact hK _ hp H1 locs1 ls hR1 hS1 hl
