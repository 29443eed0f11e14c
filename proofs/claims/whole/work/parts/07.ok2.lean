theorem ok_ildn {x : ip_Cx} {G : ip_Gl} {tab : Nat → Option ip_En} {nL d cap cas : Nat} {own : String} {cc : ByteArray} {pc : Nat} (X : ip_X x G tab nL d cap cas own cc) {k : Fin 4} {i : Nat} (hi : (k : Nat) = i) (hd : decode cc pc = .ok (.iload_n k, 1)) : ip_ok x G nL pc (pc + 1) (oLdI i) := by
  rintro ⟨L, st, M, n, cu, su⟩ K hK h H locs ls hR hS hl
  unfold oLdI at h
  dsimp only at h
  split at h
  · rename_i v hv
    exact lv_iload_n X.1 X.2.1 hd hi (hl.2.2.2 _ _ hv) (hK _ h H locs ls hR hS hl)
  · exact h.elim
theorem ok_ild {x : ip_Cx} {G : ip_Gl} {tab : Nat → Option ip_En} {nL d cap cas : Nat} {own : String} {cc : ByteArray} {pc : Nat} (X : ip_X x G tab nL d cap cas own cc) {i : Nat} (hd : decode cc pc = .ok (.iload i, 2)) : ip_ok x G nL pc (pc + 2) (oLdI i) := by
  rintro ⟨L, st, M, n, cu, su⟩ K hK h H locs ls hR hS hl
  unfold oLdI at h
  dsimp only at h
  split at h
  · rename_i v hv
    exact lv_iload X.1 X.2.1 hd (hl.2.2.2 _ _ hv) (hK _ h H locs ls hR hS hl)
  · exact h.elim
theorem ok_lldn {x : ip_Cx} {G : ip_Gl} {tab : Nat → Option ip_En} {nL d cap cas : Nat} {own : String} {cc : ByteArray} {pc : Nat} (X : ip_X x G tab nL d cap cas own cc) {k : Fin 4} {i : Nat} (hi : (k : Nat) = i) (hd : decode cc pc = .ok (.lload_n k, 1)) : ip_ok x G nL pc (pc + 1) (oLdL i) := by
  rintro ⟨L, st, M, n, cu, su⟩ K hK h H locs ls hR hS hl
  unfold oLdL at h
  dsimp only at h
  split at h
  · rename_i v hv
    exact lv_lload_n X.1 X.2.1 hd hi (hl.2.2.2 _ _ hv) (hK _ h H locs ls hR hS hl)
  · exact h.elim
theorem ok_lld {x : ip_Cx} {G : ip_Gl} {tab : Nat → Option ip_En} {nL d cap cas : Nat} {own : String} {cc : ByteArray} {pc : Nat} (X : ip_X x G tab nL d cap cas own cc) {i : Nat} (hd : decode cc pc = .ok (.lload i, 2)) : ip_ok x G nL pc (pc + 2) (oLdL i) := by
  rintro ⟨L, st, M, n, cu, su⟩ K hK h H locs ls hR hS hl
  unfold oLdL at h
  dsimp only at h
  split at h
  · rename_i v hv
    exact lv_lload X.1 X.2.1 hd (hl.2.2.2 _ _ hv) (hK _ h H locs ls hR hS hl)
  · exact h.elim
theorem ok_aldn {x : ip_Cx} {G : ip_Gl} {tab : Nat → Option ip_En} {nL d cap cas : Nat} {own : String} {cc : ByteArray} {pc : Nat} (X : ip_X x G tab nL d cap cas own cc) {k : Fin 4} {i : Nat} (hi : (k : Nat) = i) (hd : decode cc pc = .ok (.aload_n k, 1)) : ip_ok x G nL pc (pc + 1) (oLdA i) := by
  rintro ⟨L, st, M, n, cu, su⟩ K hK h H locs ls hR hS hl
  unfold oLdA at h
  dsimp only at h
  split at h
  · rename_i v hv
    exact lv_aload_n X.1 X.2.1 hd hi (hl.2.2.2 _ _ hv) (hK _ h H locs ls hR hS hl)
  · rename_i hv
    exact lv_aload_nN X.1 X.2.1 hd hi (hl.2.2.2 _ _ hv) (hK _ h H locs ls hR hS hl)
  · exact h.elim
theorem ok_ald {x : ip_Cx} {G : ip_Gl} {tab : Nat → Option ip_En} {nL d cap cas : Nat} {own : String} {cc : ByteArray} {pc : Nat} (X : ip_X x G tab nL d cap cas own cc) {i : Nat} (hd : decode cc pc = .ok (.aload i, 2)) : ip_ok x G nL pc (pc + 2) (oLdA i) := by
  rintro ⟨L, st, M, n, cu, su⟩ K hK h H locs ls hR hS hl
  unfold oLdA at h
  dsimp only at h
  split at h
  · rename_i v hv
    exact lv_aload X.1 X.2.1 hd (hl.2.2.2 _ _ hv) (hK _ h H locs ls hR hS hl)
  · rename_i hv
    exact lv_aloadN X.1 X.2.1 hd (hl.2.2.2 _ _ hv) (hK _ h H locs ls hR hS hl)
  · exact h.elim
theorem ok_istn {x : ip_Cx} {G : ip_Gl} {tab : Nat → Option ip_En} {nL d cap cas : Nat} {own : String} {cc : ByteArray} {pc : Nat} (X : ip_X x G tab nL d cap cas own cc) {k : Fin 4} {i : Nat} (hi : (k : Nat) = i) (hn : i < nL) (hd : decode cc pc = .ok (.istore_n k, 1)) : ip_ok x G nL pc (pc + 1) (oStI i) := by
  rintro ⟨L, st, M, n, cu, su⟩ K hK h H locs ls hR hS hl
  unfold oStI at h
  dsimp only at h
  split at h
  · exact lv_istore_n X.1 X.2.1 hd hi hl.has hn rfl (fun ls' hl' => hK _ h H locs ls' hR hS (hl.st1 hl'))
  · exact h.elim
theorem ok_ist {x : ip_Cx} {G : ip_Gl} {tab : Nat → Option ip_En} {nL d cap cas : Nat} {own : String} {cc : ByteArray} {pc : Nat} (X : ip_X x G tab nL d cap cas own cc) {i : Nat} (hn : i < nL) (hd : decode cc pc = .ok (.istore i, 2)) : ip_ok x G nL pc (pc + 2) (oStI i) := by
  rintro ⟨L, st, M, n, cu, su⟩ K hK h H locs ls hR hS hl
  unfold oStI at h
  dsimp only at h
  split at h
  · exact lv_istore X.1 X.2.1 hd hl.has hn rfl (fun ls' hl' => hK _ h H locs ls' hR hS (hl.st1 hl'))
  · exact h.elim
theorem ok_lstn {x : ip_Cx} {G : ip_Gl} {tab : Nat → Option ip_En} {nL d cap cas : Nat} {own : String} {cc : ByteArray} {pc : Nat} (X : ip_X x G tab nL d cap cas own cc) {k : Fin 4} {i : Nat} (hi : (k : Nat) = i) (hn : i + 1 < nL) (hd : decode cc pc = .ok (.lstore_n k, 1)) : ip_ok x G nL pc (pc + 1) (oStL i) := by
  rintro ⟨L, st, M, n, cu, su⟩ K hK h H locs ls hR hS hl
  unfold oStL at h
  dsimp only at h
  split at h
  · exact lv_lstore_n X.1 X.2.1 hd hi hl.has hn rfl (fun ls' hl' => hK _ h H locs ls' hR hS (hl.st2 hl'))
  · exact h.elim
theorem ok_lst {x : ip_Cx} {G : ip_Gl} {tab : Nat → Option ip_En} {nL d cap cas : Nat} {own : String} {cc : ByteArray} {pc : Nat} (X : ip_X x G tab nL d cap cas own cc) {i : Nat} (hn : i + 1 < nL) (hd : decode cc pc = .ok (.lstore i, 2)) : ip_ok x G nL pc (pc + 2) (oStL i) := by
  rintro ⟨L, st, M, n, cu, su⟩ K hK h H locs ls hR hS hl
  unfold oStL at h
  dsimp only at h
  split at h
  · exact lv_lstore X.1 X.2.1 hd hl.has hn rfl (fun ls' hl' => hK _ h H locs ls' hR hS (hl.st2 hl'))
  · exact h.elim
theorem ok_astn {x : ip_Cx} {G : ip_Gl} {tab : Nat → Option ip_En} {nL d cap cas : Nat} {own : String} {cc : ByteArray} {pc : Nat} (X : ip_X x G tab nL d cap cas own cc) {k : Fin 4} {i : Nat} (hi : (k : Nat) = i) (hn : i < nL) (hd : decode cc pc = .ok (.astore_n k, 1)) : ip_ok x G nL pc (pc + 1) (oStA i) := by
  rintro ⟨L, st, M, n, cu, su⟩ K hK h H locs ls hR hS hl
  unfold oStA at h
  dsimp only at h
  split at h
  · exact lv_astore_n X.1 X.2.1 hd hi hl.has hn rfl (fun ls' hl' => hK _ h H locs ls' hR hS (hl.st1 hl'))
  · exact lv_astore_nN X.1 X.2.1 hd hi hl.has hn rfl (fun ls' hl' => hK _ h H locs ls' hR hS (hl.st1 (v := .null) hl'))
  · exact h.elim
theorem ok_ast {x : ip_Cx} {G : ip_Gl} {tab : Nat → Option ip_En} {nL d cap cas : Nat} {own : String} {cc : ByteArray} {pc : Nat} (X : ip_X x G tab nL d cap cas own cc) {i : Nat} (hn : i < nL) (hd : decode cc pc = .ok (.astore i, 2)) : ip_ok x G nL pc (pc + 2) (oStA i) := by
  rintro ⟨L, st, M, n, cu, su⟩ K hK h H locs ls hR hS hl
  unfold oStA at h
  dsimp only at h
  split at h
  · exact lv_astore X.1 X.2.1 hd hl.has hn rfl (fun ls' hl' => hK _ h H locs ls' hR hS (hl.st1 hl'))
  · exact lv_astoreN X.1 X.2.1 hd hl.has hn rfl (fun ls' hl' => hK _ h H locs ls' hR hS (hl.st1 (v := .null) hl'))
  · exact h.elim
theorem ok_inc {x : ip_Cx} {G : ip_Gl} {tab : Nat → Option ip_En} {nL d cap cas : Nat} {own : String} {cc : ByteArray} {pc : Nat} (X : ip_X x G tab nL d cap cas own cc) {i : Nat} {k : Int} {v : Int32} (hv : Int32.ofInt k = v) (hd : decode cc pc = .ok (.iinc i k, 3)) : ip_ok x G nL pc (pc + 3) (oInc i v) := by
  rintro ⟨L, st, M, n, cu, su⟩ K hK h H locs ls hR hS hl
  unfold oInc at h
  dsimp only at h
  split at h
  · rename_i y hy
    obtain ⟨q, hq⟩ := List.getElem?_of_mem (ip_as_mem (z := G.2.1) (ex := G.2.2.1).mpr ⟨.int y, hy, rfl⟩ : (i, ip_v G.2.1 G.2.2.1 (.int y)) ∈ ip_as G.2.1 G.2.2.1 L)
    have hn : i < nL := by rw [← hl.2.2.1]; exact (List.getElem?_eq_some_iff.mp hy).1
    exact lv_iinc X.1 X.2.1 hd hl.has hq (by rw [hv]) hn rfl (fun ls' hl' => hK _ h H locs ls' hR hS (hl.st1 (v := .int (y + v)) hl'))
  · exact h.elim
theorem ok_ic {x : ip_Cx} {G : ip_Gl} {tab : Nat → Option ip_En} {nL d cap cas : Nat} {own : String} {cc : ByteArray} {pc : Nat} (X : ip_X x G tab nL d cap cas own cc) {k : Int} {v : Int32} (hv : Int32.ofInt k = v) (hd : decode cc pc = .ok (.iconst k, 1)) : ip_ok x G nL pc (pc + 1) (oI v) := by
  rintro ⟨L, st, M, n, cu, su⟩ K hK h H locs ls hR hS hl
  unfold oI at h
  dsimp only at h
  exact lv_iconst X.1 X.2.1 hd hv (hK _ h H locs ls hR hS hl)
theorem ok_bi {x : ip_Cx} {G : ip_Gl} {tab : Nat → Option ip_En} {nL d cap cas : Nat} {own : String} {cc : ByteArray} {pc : Nat} (X : ip_X x G tab nL d cap cas own cc) {k : Int} {v : Int32} (hv : (Int8.ofInt k).toInt32 = v) (hd : decode cc pc = .ok (.bipush k, 2)) : ip_ok x G nL pc (pc + 2) (oI v) := by
  rintro ⟨L, st, M, n, cu, su⟩ K hK h H locs ls hR hS hl
  unfold oI at h
  dsimp only at h
  exact lv_bipush X.1 X.2.1 hd hv (hK _ h H locs ls hR hS hl)
theorem ok_si {x : ip_Cx} {G : ip_Gl} {tab : Nat → Option ip_En} {nL d cap cas : Nat} {own : String} {cc : ByteArray} {pc : Nat} (X : ip_X x G tab nL d cap cas own cc) {k : Int} {v : Int32} (hv : (Int16.ofInt k).toInt32 = v) (hd : decode cc pc = .ok (.sipush k, 3)) : ip_ok x G nL pc (pc + 3) (oI v) := by
  rintro ⟨L, st, M, n, cu, su⟩ K hK h H locs ls hR hS hl
  unfold oI at h
  dsimp only at h
  exact lv_sipush X.1 X.2.1 hd hv (hK _ h H locs ls hR hS hl)
theorem ok_lc {x : ip_Cx} {G : ip_Gl} {tab : Nat → Option ip_En} {nL d cap cas : Nat} {own : String} {cc : ByteArray} {pc : Nat} (X : ip_X x G tab nL d cap cas own cc) {k : Fin 2} {v : Int64} (hv : Int64.ofNat (k : Nat) = v) (hd : decode cc pc = .ok (.lconst k, 1)) : ip_ok x G nL pc (pc + 1) (oL v) := by
  rintro ⟨L, st, M, n, cu, su⟩ K hK h H locs ls hR hS hl
  unfold oL at h
  dsimp only at h
  exact lv_lconst X.1 X.2.1 hd hv (hK _ h H locs ls hR hS hl)
theorem ok_ldc {x : ip_Cx} {G : ip_Gl} {tab : Nat → Option ip_En} {nL d cap cas : Nat} {own : String} {cc : ByteArray} {pc : Nat} (X : ip_X x G tab nL d cap cas own cc) {i : Nat} {v : Int32} (hw : Cond.constant own i v ∈ ip_Ts) (hd : decode cc pc = .ok (.ldc i, 2)) : ip_ok x G nL pc (pc + 2) (oI v) := by
  rintro ⟨L, st, M, n, cu, su⟩ K hK h H locs ls hR hS hl
  unfold oI at h
  dsimp only at h
  exact lv_ldc X.1 X.2.1 X.2.2.2.1 (X.2.2.2.2.1 _ hw) hd (hK _ h H locs ls hR hS hl)
theorem ok_ldcw {x : ip_Cx} {G : ip_Gl} {tab : Nat → Option ip_En} {nL d cap cas : Nat} {own : String} {cc : ByteArray} {pc : Nat} (X : ip_X x G tab nL d cap cas own cc) {i : Nat} {v : Int32} (hw : Cond.constant own i v ∈ ip_Ts) (hd : decode cc pc = .ok (.ldc_w i, 3)) : ip_ok x G nL pc (pc + 3) (oI v) := by
  rintro ⟨L, st, M, n, cu, su⟩ K hK h H locs ls hR hS hl
  unfold oI at h
  dsimp only at h
  exact lv_ldcw X.1 X.2.1 X.2.2.2.1 (X.2.2.2.2.1 _ hw) hd (hK _ h H locs ls hR hS hl)
theorem ok_ldc2 {x : ip_Cx} {G : ip_Gl} {tab : Nat → Option ip_En} {nL d cap cas : Nat} {own : String} {cc : ByteArray} {pc : Nat} (X : ip_X x G tab nL d cap cas own cc) {i : Nat} {v : Int64} (hw : Cond.constantLong own i v ∈ ip_Ts) (hd : decode cc pc = .ok (.ldc2_w i, 3)) : ip_ok x G nL pc (pc + 3) (oL v) := by
  rintro ⟨L, st, M, n, cu, su⟩ K hK h H locs ls hR hS hl
  unfold oL at h
  dsimp only at h
  exact lv_ldc2 X.1 X.2.1 X.2.2.2.1 (X.2.2.2.2.1 _ hw) hd (hK _ h H locs ls hR hS hl)
theorem ok_nul {x : ip_Cx} {G : ip_Gl} {tab : Nat → Option ip_En} {nL d cap cas : Nat} {own : String} {cc : ByteArray} {pc : Nat} (X : ip_X x G tab nL d cap cas own cc)  (hd : decode cc pc = .ok (.aconst_null, 1)) : ip_ok x G nL pc (pc + 1) oNul := by
  rintro ⟨L, st, M, n, cu, su⟩ K hK h H locs ls hR hS hl
  unfold oNul at h
  dsimp only at h
  exact lv_null X.1 X.2.1 hd (hK _ h H locs ls hR hS hl)
theorem ok_dup {x : ip_Cx} {G : ip_Gl} {tab : Nat → Option ip_En} {nL d cap cas : Nat} {own : String} {cc : ByteArray} {pc : Nat} (X : ip_X x G tab nL d cap cas own cc)  (hd : decode cc pc = .ok (.dup, 1)) : ip_ok x G nL pc (pc + 1) oDup := by
  rintro ⟨L, st, M, n, cu, su⟩ K hK h H locs ls hR hS hl
  unfold oDup at h
  dsimp only at h
  split at h
  · exact lv_dup X.1 X.2.1 hd (ip_v_cat1 h.1) (hK _ h.2 H locs ls hR hS hl)
  · exact h.elim
theorem ok_pop {x : ip_Cx} {G : ip_Gl} {tab : Nat → Option ip_En} {nL d cap cas : Nat} {own : String} {cc : ByteArray} {pc : Nat} (X : ip_X x G tab nL d cap cas own cc)  (hd : decode cc pc = .ok (.pop, 1)) : ip_ok x G nL pc (pc + 1) oPop := by
  rintro ⟨L, st, M, n, cu, su⟩ K hK h H locs ls hR hS hl
  unfold oPop at h
  dsimp only at h
  split at h
  · exact lv_pop X.1 X.2.1 hd (ip_v_cat1 h.1) (hK _ h.2 H locs ls hR hS hl)
  · exact h.elim
theorem ok_dp2 {x : ip_Cx} {G : ip_Gl} {tab : Nat → Option ip_En} {nL d cap cas : Nat} {own : String} {cc : ByteArray} {pc : Nat} (X : ip_X x G tab nL d cap cas own cc)  (hd : decode cc pc = .ok (.dup2, 1)) : ip_ok x G nL pc (pc + 1) oDp2 := by
  rintro ⟨L, st, M, n, cu, su⟩ K hK h H locs ls hR hS hl
  unfold oDp2 at h
  dsimp only at h
  split at h
  · exact lv_dup2_11 X.1 X.2.1 hd (ip_v_cat1 h.1.1) (ip_v_cat1 h.1.2) (hK _ h.2 H locs ls hR hS hl)
  · exact h.elim
theorem ok_iadd {x : ip_Cx} {G : ip_Gl} {tab : Nat → Option ip_En} {nL d cap cas : Nat} {own : String} {cc : ByteArray} {pc : Nat} (X : ip_X x G tab nL d cap cas own cc)  (hd : decode cc pc = .ok (.iadd, 1)) : ip_ok x G nL pc (pc + 1) (oBI (fun a b => a + b)) := by
  rintro ⟨L, st, M, n, cu, su⟩ K hK h H locs ls hR hS hl
  unfold oBI at h
  dsimp only at h
  split at h
  · exact lv_iadd X.1 X.2.1 hd (hK _ h H locs ls hR hS hl)
  · exact h.elim
theorem ok_isub {x : ip_Cx} {G : ip_Gl} {tab : Nat → Option ip_En} {nL d cap cas : Nat} {own : String} {cc : ByteArray} {pc : Nat} (X : ip_X x G tab nL d cap cas own cc)  (hd : decode cc pc = .ok (.isub, 1)) : ip_ok x G nL pc (pc + 1) (oBI (fun a b => a - b)) := by
  rintro ⟨L, st, M, n, cu, su⟩ K hK h H locs ls hR hS hl
  unfold oBI at h
  dsimp only at h
  split at h
  · exact lv_isub X.1 X.2.1 hd (hK _ h H locs ls hR hS hl)
  · exact h.elim
theorem ok_imul {x : ip_Cx} {G : ip_Gl} {tab : Nat → Option ip_En} {nL d cap cas : Nat} {own : String} {cc : ByteArray} {pc : Nat} (X : ip_X x G tab nL d cap cas own cc)  (hd : decode cc pc = .ok (.imul, 1)) : ip_ok x G nL pc (pc + 1) (oBI (fun a b => a * b)) := by
  rintro ⟨L, st, M, n, cu, su⟩ K hK h H locs ls hR hS hl
  unfold oBI at h
  dsimp only at h
  split at h
  · exact lv_imul X.1 X.2.1 hd (hK _ h H locs ls hR hS hl)
  · exact h.elim
theorem ok_iand {x : ip_Cx} {G : ip_Gl} {tab : Nat → Option ip_En} {nL d cap cas : Nat} {own : String} {cc : ByteArray} {pc : Nat} (X : ip_X x G tab nL d cap cas own cc)  (hd : decode cc pc = .ok (.iand, 1)) : ip_ok x G nL pc (pc + 1) (oBI (fun a b => a &&& b)) := by
  rintro ⟨L, st, M, n, cu, su⟩ K hK h H locs ls hR hS hl
  unfold oBI at h
  dsimp only at h
  split at h
  · exact lv_iand X.1 X.2.1 hd (hK _ h H locs ls hR hS hl)
  · exact h.elim
theorem ok_ior {x : ip_Cx} {G : ip_Gl} {tab : Nat → Option ip_En} {nL d cap cas : Nat} {own : String} {cc : ByteArray} {pc : Nat} (X : ip_X x G tab nL d cap cas own cc)  (hd : decode cc pc = .ok (.ior, 1)) : ip_ok x G nL pc (pc + 1) (oBI (fun a b => a ||| b)) := by
  rintro ⟨L, st, M, n, cu, su⟩ K hK h H locs ls hR hS hl
  unfold oBI at h
  dsimp only at h
  split at h
  · exact lv_ior X.1 X.2.1 hd (hK _ h H locs ls hR hS hl)
  · exact h.elim
theorem ok_ixor {x : ip_Cx} {G : ip_Gl} {tab : Nat → Option ip_En} {nL d cap cas : Nat} {own : String} {cc : ByteArray} {pc : Nat} (X : ip_X x G tab nL d cap cas own cc)  (hd : decode cc pc = .ok (.ixor, 1)) : ip_ok x G nL pc (pc + 1) (oBI (fun a b => a ^^^ b)) := by
  rintro ⟨L, st, M, n, cu, su⟩ K hK h H locs ls hR hS hl
  unfold oBI at h
  dsimp only at h
  split at h
  · exact lv_ixor X.1 X.2.1 hd (hK _ h H locs ls hR hS hl)
  · exact h.elim
theorem ok_ishl {x : ip_Cx} {G : ip_Gl} {tab : Nat → Option ip_En} {nL d cap cas : Nat} {own : String} {cc : ByteArray} {pc : Nat} (X : ip_X x G tab nL d cap cas own cc)  (hd : decode cc pc = .ok (.ishl, 1)) : ip_ok x G nL pc (pc + 1) (oBI (fun a b => a <<< (b &&& 31))) := by
  rintro ⟨L, st, M, n, cu, su⟩ K hK h H locs ls hR hS hl
  unfold oBI at h
  dsimp only at h
  split at h
  · exact lv_ishl X.1 X.2.1 hd (hK _ h H locs ls hR hS hl)
  · exact h.elim
theorem ok_ishr {x : ip_Cx} {G : ip_Gl} {tab : Nat → Option ip_En} {nL d cap cas : Nat} {own : String} {cc : ByteArray} {pc : Nat} (X : ip_X x G tab nL d cap cas own cc)  (hd : decode cc pc = .ok (.ishr, 1)) : ip_ok x G nL pc (pc + 1) (oBI (fun a b => a >>> (b &&& 31))) := by
  rintro ⟨L, st, M, n, cu, su⟩ K hK h H locs ls hR hS hl
  unfold oBI at h
  dsimp only at h
  split at h
  · exact lv_ishr X.1 X.2.1 hd (hK _ h H locs ls hR hS hl)
  · exact h.elim
theorem ok_iushr {x : ip_Cx} {G : ip_Gl} {tab : Nat → Option ip_En} {nL d cap cas : Nat} {own : String} {cc : ByteArray} {pc : Nat} (X : ip_X x G tab nL d cap cas own cc)  (hd : decode cc pc = .ok (.iushr, 1)) : ip_ok x G nL pc (pc + 1) (oBI (fun a b => (a.toUInt32 >>> (b.toUInt32 &&& Int32.toUInt32 31)).toInt32)) := by
  rintro ⟨L, st, M, n, cu, su⟩ K hK h H locs ls hR hS hl
  unfold oBI at h
  dsimp only at h
  split at h
  · exact lv_iushr X.1 X.2.1 hd rfl (hK _ h H locs ls hR hS hl)
  · exact h.elim
theorem ok_idiv {x : ip_Cx} {G : ip_Gl} {tab : Nat → Option ip_En} {nL d cap cas : Nat} {own : String} {cc : ByteArray} {pc : Nat} (X : ip_X x G tab nL d cap cas own cc)  (hd : decode cc pc = .ok (.idiv, 1)) : ip_ok x G nL pc (pc + 1) (oDI (fun a b => a / b)) := by
  rintro ⟨L, st, M, n, cu, su⟩ K hK h H locs ls hR hS hl
  unfold oDI at h
  dsimp only at h
  split at h
  · exact lv_idiv X.1 X.2.1 hd h.1 (hK _ h.2 H locs ls hR hS hl)
  · exact h.elim
theorem ok_irem {x : ip_Cx} {G : ip_Gl} {tab : Nat → Option ip_En} {nL d cap cas : Nat} {own : String} {cc : ByteArray} {pc : Nat} (X : ip_X x G tab nL d cap cas own cc)  (hd : decode cc pc = .ok (.irem, 1)) : ip_ok x G nL pc (pc + 1) (oDI (fun a b => a - a / b * b)) := by
  rintro ⟨L, st, M, n, cu, su⟩ K hK h H locs ls hR hS hl
  unfold oDI at h
  dsimp only at h
  split at h
  · exact lv_irem X.1 X.2.1 hd h.1 (hK _ h.2 H locs ls hR hS hl)
  · exact h.elim
theorem ok_ineg {x : ip_Cx} {G : ip_Gl} {tab : Nat → Option ip_En} {nL d cap cas : Nat} {own : String} {cc : ByteArray} {pc : Nat} (X : ip_X x G tab nL d cap cas own cc)  (hd : decode cc pc = .ok (.ineg, 1)) : ip_ok x G nL pc (pc + 1) (oUI (fun a => -a)) := by
  rintro ⟨L, st, M, n, cu, su⟩ K hK h H locs ls hR hS hl
  unfold oUI at h
  dsimp only at h
  split at h
  · exact lv_ineg X.1 X.2.1 hd (hK _ h H locs ls hR hS hl)
  · exact h.elim
theorem ok_i2b {x : ip_Cx} {G : ip_Gl} {tab : Nat → Option ip_En} {nL d cap cas : Nat} {own : String} {cc : ByteArray} {pc : Nat} (X : ip_X x G tab nL d cap cas own cc)  (hd : decode cc pc = .ok (.i2b, 1)) : ip_ok x G nL pc (pc + 1) (oUI (fun a => a.toInt8.toInt32)) := by
  rintro ⟨L, st, M, n, cu, su⟩ K hK h H locs ls hR hS hl
  unfold oUI at h
  dsimp only at h
  split at h
  · exact lv_i2b X.1 X.2.1 hd rfl (hK _ h H locs ls hR hS hl)
  · exact h.elim
theorem ok_i2s {x : ip_Cx} {G : ip_Gl} {tab : Nat → Option ip_En} {nL d cap cas : Nat} {own : String} {cc : ByteArray} {pc : Nat} (X : ip_X x G tab nL d cap cas own cc)  (hd : decode cc pc = .ok (.i2s, 1)) : ip_ok x G nL pc (pc + 1) (oUI (fun a => a.toInt16.toInt32)) := by
  rintro ⟨L, st, M, n, cu, su⟩ K hK h H locs ls hR hS hl
  unfold oUI at h
  dsimp only at h
  split at h
  · exact lv_i2s X.1 X.2.1 hd rfl (hK _ h H locs ls hR hS hl)
  · exact h.elim
theorem ok_i2c {x : ip_Cx} {G : ip_Gl} {tab : Nat → Option ip_En} {nL d cap cas : Nat} {own : String} {cc : ByteArray} {pc : Nat} (X : ip_X x G tab nL d cap cas own cc)  (hd : decode cc pc = .ok (.i2c, 1)) : ip_ok x G nL pc (pc + 1) (oUI (fun a => (a.toUInt32 % 65536).toInt32)) := by
  rintro ⟨L, st, M, n, cu, su⟩ K hK h H locs ls hR hS hl
  unfold oUI at h
  dsimp only at h
  split at h
  · exact lv_i2c X.1 X.2.1 hd rfl (hK _ h H locs ls hR hS hl)
  · exact h.elim
theorem ok_ladd {x : ip_Cx} {G : ip_Gl} {tab : Nat → Option ip_En} {nL d cap cas : Nat} {own : String} {cc : ByteArray} {pc : Nat} (X : ip_X x G tab nL d cap cas own cc)  (hd : decode cc pc = .ok (.ladd, 1)) : ip_ok x G nL pc (pc + 1) (oBL (fun a b => a + b)) := by
  rintro ⟨L, st, M, n, cu, su⟩ K hK h H locs ls hR hS hl
  unfold oBL at h
  dsimp only at h
  split at h
  · exact lv_ladd X.1 X.2.1 hd (hK _ h H locs ls hR hS hl)
  · exact h.elim
theorem ok_lsub {x : ip_Cx} {G : ip_Gl} {tab : Nat → Option ip_En} {nL d cap cas : Nat} {own : String} {cc : ByteArray} {pc : Nat} (X : ip_X x G tab nL d cap cas own cc)  (hd : decode cc pc = .ok (.lsub, 1)) : ip_ok x G nL pc (pc + 1) (oBL (fun a b => a - b)) := by
  rintro ⟨L, st, M, n, cu, su⟩ K hK h H locs ls hR hS hl
  unfold oBL at h
  dsimp only at h
  split at h
  · exact lv_lsub X.1 X.2.1 hd (hK _ h H locs ls hR hS hl)
  · exact h.elim
theorem ok_lmul {x : ip_Cx} {G : ip_Gl} {tab : Nat → Option ip_En} {nL d cap cas : Nat} {own : String} {cc : ByteArray} {pc : Nat} (X : ip_X x G tab nL d cap cas own cc)  (hd : decode cc pc = .ok (.lmul, 1)) : ip_ok x G nL pc (pc + 1) (oBL (fun a b => a * b)) := by
  rintro ⟨L, st, M, n, cu, su⟩ K hK h H locs ls hR hS hl
  unfold oBL at h
  dsimp only at h
  split at h
  · exact lv_lmul X.1 X.2.1 hd (hK _ h H locs ls hR hS hl)
  · exact h.elim
theorem ok_land {x : ip_Cx} {G : ip_Gl} {tab : Nat → Option ip_En} {nL d cap cas : Nat} {own : String} {cc : ByteArray} {pc : Nat} (X : ip_X x G tab nL d cap cas own cc)  (hd : decode cc pc = .ok (.land, 1)) : ip_ok x G nL pc (pc + 1) (oBL (fun a b => a &&& b)) := by
  rintro ⟨L, st, M, n, cu, su⟩ K hK h H locs ls hR hS hl
  unfold oBL at h
  dsimp only at h
  split at h
  · exact lv_land X.1 X.2.1 hd (hK _ h H locs ls hR hS hl)
  · exact h.elim
theorem ok_lor {x : ip_Cx} {G : ip_Gl} {tab : Nat → Option ip_En} {nL d cap cas : Nat} {own : String} {cc : ByteArray} {pc : Nat} (X : ip_X x G tab nL d cap cas own cc)  (hd : decode cc pc = .ok (.lor, 1)) : ip_ok x G nL pc (pc + 1) (oBL (fun a b => a ||| b)) := by
  rintro ⟨L, st, M, n, cu, su⟩ K hK h H locs ls hR hS hl
  unfold oBL at h
  dsimp only at h
  split at h
  · exact lv_lor X.1 X.2.1 hd (hK _ h H locs ls hR hS hl)
  · exact h.elim
theorem ok_ldiv {x : ip_Cx} {G : ip_Gl} {tab : Nat → Option ip_En} {nL d cap cas : Nat} {own : String} {cc : ByteArray} {pc : Nat} (X : ip_X x G tab nL d cap cas own cc)  (hd : decode cc pc = .ok (.ldiv, 1)) : ip_ok x G nL pc (pc + 1) (oDL (fun a b => a / b)) := by
  rintro ⟨L, st, M, n, cu, su⟩ K hK h H locs ls hR hS hl
  unfold oDL at h
  dsimp only at h
  split at h
  · exact lv_ldiv X.1 X.2.1 hd h.1 (hK _ h.2 H locs ls hR hS hl)
  · exact h.elim
theorem ok_lrem {x : ip_Cx} {G : ip_Gl} {tab : Nat → Option ip_En} {nL d cap cas : Nat} {own : String} {cc : ByteArray} {pc : Nat} (X : ip_X x G tab nL d cap cas own cc)  (hd : decode cc pc = .ok (.lrem, 1)) : ip_ok x G nL pc (pc + 1) (oDL (fun a b => a - a / b * b)) := by
  rintro ⟨L, st, M, n, cu, su⟩ K hK h H locs ls hR hS hl
  unfold oDL at h
  dsimp only at h
  split at h
  · exact lv_lrem X.1 X.2.1 hd h.1 (hK _ h.2 H locs ls hR hS hl)
  · exact h.elim
theorem ok_lushr {x : ip_Cx} {G : ip_Gl} {tab : Nat → Option ip_En} {nL d cap cas : Nat} {own : String} {cc : ByteArray} {pc : Nat} (X : ip_X x G tab nL d cap cas own cc)  (hd : decode cc pc = .ok (.lushr, 1)) : ip_ok x G nL pc (pc + 1) (oSL (fun a b => (a.toUInt64 >>> (b.toInt64.toUInt64 &&& Int64.toUInt64 63)).toInt64)) := by
  rintro ⟨L, st, M, n, cu, su⟩ K hK h H locs ls hR hS hl
  unfold oSL at h
  dsimp only at h
  split at h
  · exact lv_lushr X.1 X.2.1 hd rfl (hK _ h H locs ls hR hS hl)
  · exact h.elim
theorem ok_lshl {x : ip_Cx} {G : ip_Gl} {tab : Nat → Option ip_En} {nL d cap cas : Nat} {own : String} {cc : ByteArray} {pc : Nat} (X : ip_X x G tab nL d cap cas own cc)  (hd : decode cc pc = .ok (.lshl, 1)) : ip_ok x G nL pc (pc + 1) (oSL (fun a b => a <<< (b.toInt64 &&& 63))) := by
  rintro ⟨L, st, M, n, cu, su⟩ K hK h H locs ls hR hS hl
  unfold oSL at h
  dsimp only at h
  split at h
  · exact lv_lshl X.1 X.2.1 hd rfl (hK _ h H locs ls hR hS hl)
  · exact h.elim
theorem ok_lshr {x : ip_Cx} {G : ip_Gl} {tab : Nat → Option ip_En} {nL d cap cas : Nat} {own : String} {cc : ByteArray} {pc : Nat} (X : ip_X x G tab nL d cap cas own cc)  (hd : decode cc pc = .ok (.lshr, 1)) : ip_ok x G nL pc (pc + 1) (oSL (fun a b => a >>> (b.toInt64 &&& 63))) := by
  rintro ⟨L, st, M, n, cu, su⟩ K hK h H locs ls hR hS hl
  unfold oSL at h
  dsimp only at h
  split at h
  · exact lv_lshr X.1 X.2.1 hd rfl (hK _ h H locs ls hR hS hl)
  · exact h.elim
theorem ok_i2l {x : ip_Cx} {G : ip_Gl} {tab : Nat → Option ip_En} {nL d cap cas : Nat} {own : String} {cc : ByteArray} {pc : Nat} (X : ip_X x G tab nL d cap cas own cc)  (hd : decode cc pc = .ok (.i2l, 1)) : ip_ok x G nL pc (pc + 1) oIL := by
  rintro ⟨L, st, M, n, cu, su⟩ K hK h H locs ls hR hS hl
  unfold oIL at h
  dsimp only at h
  split at h
  · exact lv_i2l X.1 X.2.1 hd rfl (hK _ h H locs ls hR hS hl)
  · exact h.elim
theorem ok_l2i {x : ip_Cx} {G : ip_Gl} {tab : Nat → Option ip_En} {nL d cap cas : Nat} {own : String} {cc : ByteArray} {pc : Nat} (X : ip_X x G tab nL d cap cas own cc)  (hd : decode cc pc = .ok (.l2i, 1)) : ip_ok x G nL pc (pc + 1) oLI := by
  rintro ⟨L, st, M, n, cu, su⟩ K hK h H locs ls hR hS hl
  unfold oLI at h
  dsimp only at h
  split at h
  · exact lv_l2i X.1 X.2.1 hd rfl (hK _ h H locs ls hR hS hl)
  · exact h.elim
theorem ok_lcmp {x : ip_Cx} {G : ip_Gl} {tab : Nat → Option ip_En} {nL d cap cas : Nat} {own : String} {cc : ByteArray} {pc : Nat} (X : ip_X x G tab nL d cap cas own cc)  (hd : decode cc pc = .ok (.lcmp, 1)) : ip_ok x G nL pc (pc + 1) oCmpL := by
  rintro ⟨L, st, M, n, cu, su⟩ K hK h H locs ls hR hS hl
  unfold oCmpL at h
  dsimp only at h
  split at h
  · exact W.lcmp X.1 X.2.1 hd (hK _ h H locs ls hR hS hl)
  · exact h.elim
theorem ok_go {x : ip_Cx} {G : ip_Gl} {tab : Nat → Option ip_En} {nL d cap cas : Nat} {own : String} {cc : ByteArray} {pc : Nat} (X : ip_X x G tab nL d cap cas own cc) {pcs : Nat → Nat} {off : Int} {i : Nat} (ht : (pc : Int) + off = (pcs i : Int)) (hd : decode cc pc = .ok (.goto off, 3)) : ip_okT x G nL pc pcs (tGo i) := by
  rintro ⟨L, st, M, n, cu, su⟩ S Φ hK hE h H locs ls hR hS hl
  unfold tGo at h
  exact lv_goto X.1 X.2.1 hd ht (hK _ _ h H locs ls hR hS hl)
theorem ok_ifeq {x : ip_Cx} {G : ip_Gl} {tab : Nat → Option ip_En} {nL d cap cas : Nat} {own : String} {cc : ByteArray} {pc : Nat} (X : ip_X x G tab nL d cap cas own cc) {pcs : Nat → Nat} {off : Int} {i j : Nat} (ht : (pc : Int) + off = (pcs i : Int)) (hj : pcs j = pc + 3) (hd : decode cc pc = .ok (.ifCond .eq off, 3)) : ip_okT x G nL pc pcs (tIf (fun a => a = 0) i j) := by
  rintro ⟨L, st, M, n, cu, su⟩ S Φ hK hE h H locs ls hR hS hl
  unfold tIf at h
  dsimp only at h
  split at h
  · exact lv_if_eq X.1 X.2.1 hd ht (fun q => hK _ _ (h.1 q) H locs ls hR hS hl) (fun q => by rw [← hj]; exact hK _ _ (h.2 q) H locs ls hR hS hl)
  · exact h.elim
theorem ok_ifne {x : ip_Cx} {G : ip_Gl} {tab : Nat → Option ip_En} {nL d cap cas : Nat} {own : String} {cc : ByteArray} {pc : Nat} (X : ip_X x G tab nL d cap cas own cc) {pcs : Nat → Nat} {off : Int} {i j : Nat} (ht : (pc : Int) + off = (pcs i : Int)) (hj : pcs j = pc + 3) (hd : decode cc pc = .ok (.ifCond .ne off, 3)) : ip_okT x G nL pc pcs (tIf (fun a => a = 0) j i) := by
  rintro ⟨L, st, M, n, cu, su⟩ S Φ hK hE h H locs ls hR hS hl
  unfold tIf at h
  dsimp only at h
  split at h
  · exact lv_if_ne X.1 X.2.1 hd ht (fun q => hK _ _ (h.2 q) H locs ls hR hS hl) (fun q => by rw [← hj]; exact hK _ _ (h.1 q) H locs ls hR hS hl)
  · exact h.elim
theorem ok_iflt {x : ip_Cx} {G : ip_Gl} {tab : Nat → Option ip_En} {nL d cap cas : Nat} {own : String} {cc : ByteArray} {pc : Nat} (X : ip_X x G tab nL d cap cas own cc) {pcs : Nat → Nat} {off : Int} {i j : Nat} (ht : (pc : Int) + off = (pcs i : Int)) (hj : pcs j = pc + 3) (hd : decode cc pc = .ok (.ifCond .lt off, 3)) : ip_okT x G nL pc pcs (tIf (fun a => a < 0) i j) := by
  rintro ⟨L, st, M, n, cu, su⟩ S Φ hK hE h H locs ls hR hS hl
  unfold tIf at h
  dsimp only at h
  split at h
  · exact lv_if_lt X.1 X.2.1 hd ht (fun q => hK _ _ (h.1 q) H locs ls hR hS hl) (fun q => by rw [← hj]; exact hK _ _ (h.2 q) H locs ls hR hS hl)
  · exact h.elim
theorem ok_ifge {x : ip_Cx} {G : ip_Gl} {tab : Nat → Option ip_En} {nL d cap cas : Nat} {own : String} {cc : ByteArray} {pc : Nat} (X : ip_X x G tab nL d cap cas own cc) {pcs : Nat → Nat} {off : Int} {i j : Nat} (ht : (pc : Int) + off = (pcs i : Int)) (hj : pcs j = pc + 3) (hd : decode cc pc = .ok (.ifCond .ge off, 3)) : ip_okT x G nL pc pcs (tIf (fun a => a < 0) j i) := by
  rintro ⟨L, st, M, n, cu, su⟩ S Φ hK hE h H locs ls hR hS hl
  unfold tIf at h
  dsimp only at h
  split at h
  · exact lv_if_ge X.1 X.2.1 hd ht (fun q => hK _ _ (h.2 (Int32.not_lt.mpr q)) H locs ls hR hS hl) (fun q => by rw [← hj]; exact hK _ _ (h.1 (Int32.not_le.mp q)) H locs ls hR hS hl)
  · exact h.elim
theorem ok_ifgt {x : ip_Cx} {G : ip_Gl} {tab : Nat → Option ip_En} {nL d cap cas : Nat} {own : String} {cc : ByteArray} {pc : Nat} (X : ip_X x G tab nL d cap cas own cc) {pcs : Nat → Nat} {off : Int} {i j : Nat} (ht : (pc : Int) + off = (pcs i : Int)) (hj : pcs j = pc + 3) (hd : decode cc pc = .ok (.ifCond .gt off, 3)) : ip_okT x G nL pc pcs (tIf (fun a => 0 < a) i j) := by
  rintro ⟨L, st, M, n, cu, su⟩ S Φ hK hE h H locs ls hR hS hl
  unfold tIf at h
  dsimp only at h
  split at h
  · exact lv_if_gt X.1 X.2.1 hd ht (fun q => hK _ _ (h.1 q) H locs ls hR hS hl) (fun q => by rw [← hj]; exact hK _ _ (h.2 q) H locs ls hR hS hl)
  · exact h.elim
theorem ok_ifle {x : ip_Cx} {G : ip_Gl} {tab : Nat → Option ip_En} {nL d cap cas : Nat} {own : String} {cc : ByteArray} {pc : Nat} (X : ip_X x G tab nL d cap cas own cc) {pcs : Nat → Nat} {off : Int} {i j : Nat} (ht : (pc : Int) + off = (pcs i : Int)) (hj : pcs j = pc + 3) (hd : decode cc pc = .ok (.ifCond .le off, 3)) : ip_okT x G nL pc pcs (tIf (fun a => 0 < a) j i) := by
  rintro ⟨L, st, M, n, cu, su⟩ S Φ hK hE h H locs ls hR hS hl
  unfold tIf at h
  dsimp only at h
  split at h
  · exact lv_if_le X.1 X.2.1 hd ht (fun q => hK _ _ (h.2 (Int32.not_lt.mpr q)) H locs ls hR hS hl) (fun q => by rw [← hj]; exact hK _ _ (h.1 (Int32.not_le.mp q)) H locs ls hR hS hl)
  · exact h.elim
theorem ok_cmeq {x : ip_Cx} {G : ip_Gl} {tab : Nat → Option ip_En} {nL d cap cas : Nat} {own : String} {cc : ByteArray} {pc : Nat} (X : ip_X x G tab nL d cap cas own cc) {pcs : Nat → Nat} {off : Int} {i j : Nat} (ht : (pc : Int) + off = (pcs i : Int)) (hj : pcs j = pc + 3) (hd : decode cc pc = .ok (.if_icmp .eq off, 3)) : ip_okT x G nL pc pcs (tCm (fun a b => a = b) i j) := by
  rintro ⟨L, st, M, n, cu, su⟩ S Φ hK hE h H locs ls hR hS hl
  unfold tCm at h
  dsimp only at h
  split at h
  · exact lv_icmp_eq X.1 X.2.1 hd ht (fun q => hK _ _ (h.1 q) H locs ls hR hS hl) (fun q => by rw [← hj]; exact hK _ _ (h.2 q) H locs ls hR hS hl)
  · exact h.elim
theorem ok_cmne {x : ip_Cx} {G : ip_Gl} {tab : Nat → Option ip_En} {nL d cap cas : Nat} {own : String} {cc : ByteArray} {pc : Nat} (X : ip_X x G tab nL d cap cas own cc) {pcs : Nat → Nat} {off : Int} {i j : Nat} (ht : (pc : Int) + off = (pcs i : Int)) (hj : pcs j = pc + 3) (hd : decode cc pc = .ok (.if_icmp .ne off, 3)) : ip_okT x G nL pc pcs (tCm (fun a b => a = b) j i) := by
  rintro ⟨L, st, M, n, cu, su⟩ S Φ hK hE h H locs ls hR hS hl
  unfold tCm at h
  dsimp only at h
  split at h
  · exact lv_icmp_ne X.1 X.2.1 hd ht (fun q => hK _ _ (h.2 q) H locs ls hR hS hl) (fun q => by rw [← hj]; exact hK _ _ (h.1 q) H locs ls hR hS hl)
  · exact h.elim
theorem ok_cmlt {x : ip_Cx} {G : ip_Gl} {tab : Nat → Option ip_En} {nL d cap cas : Nat} {own : String} {cc : ByteArray} {pc : Nat} (X : ip_X x G tab nL d cap cas own cc) {pcs : Nat → Nat} {off : Int} {i j : Nat} (ht : (pc : Int) + off = (pcs i : Int)) (hj : pcs j = pc + 3) (hd : decode cc pc = .ok (.if_icmp .lt off, 3)) : ip_okT x G nL pc pcs (tCm (fun a b => a < b) i j) := by
  rintro ⟨L, st, M, n, cu, su⟩ S Φ hK hE h H locs ls hR hS hl
  unfold tCm at h
  dsimp only at h
  split at h
  · exact lv_icmp_lt X.1 X.2.1 hd ht (fun q => hK _ _ (h.1 q) H locs ls hR hS hl) (fun q => by rw [← hj]; exact hK _ _ (h.2 q) H locs ls hR hS hl)
  · exact h.elim
theorem ok_cmge {x : ip_Cx} {G : ip_Gl} {tab : Nat → Option ip_En} {nL d cap cas : Nat} {own : String} {cc : ByteArray} {pc : Nat} (X : ip_X x G tab nL d cap cas own cc) {pcs : Nat → Nat} {off : Int} {i j : Nat} (ht : (pc : Int) + off = (pcs i : Int)) (hj : pcs j = pc + 3) (hd : decode cc pc = .ok (.if_icmp .ge off, 3)) : ip_okT x G nL pc pcs (tCm (fun a b => a < b) j i) := by
  rintro ⟨L, st, M, n, cu, su⟩ S Φ hK hE h H locs ls hR hS hl
  unfold tCm at h
  dsimp only at h
  split at h
  · exact lv_icmp_ge X.1 X.2.1 hd ht (fun q => hK _ _ (h.2 (Int32.not_lt.mpr q)) H locs ls hR hS hl) (fun q => by rw [← hj]; exact hK _ _ (h.1 (Int32.not_le.mp q)) H locs ls hR hS hl)
  · exact h.elim
theorem ok_cmgt {x : ip_Cx} {G : ip_Gl} {tab : Nat → Option ip_En} {nL d cap cas : Nat} {own : String} {cc : ByteArray} {pc : Nat} (X : ip_X x G tab nL d cap cas own cc) {pcs : Nat → Nat} {off : Int} {i j : Nat} (ht : (pc : Int) + off = (pcs i : Int)) (hj : pcs j = pc + 3) (hd : decode cc pc = .ok (.if_icmp .gt off, 3)) : ip_okT x G nL pc pcs (tCm (fun a b => b < a) i j) := by
  rintro ⟨L, st, M, n, cu, su⟩ S Φ hK hE h H locs ls hR hS hl
  unfold tCm at h
  dsimp only at h
  split at h
  · exact lv_icmp_gt X.1 X.2.1 hd ht (fun q => hK _ _ (h.1 q) H locs ls hR hS hl) (fun q => by rw [← hj]; exact hK _ _ (h.2 q) H locs ls hR hS hl)
  · exact h.elim
theorem ok_cmle {x : ip_Cx} {G : ip_Gl} {tab : Nat → Option ip_En} {nL d cap cas : Nat} {own : String} {cc : ByteArray} {pc : Nat} (X : ip_X x G tab nL d cap cas own cc) {pcs : Nat → Nat} {off : Int} {i j : Nat} (ht : (pc : Int) + off = (pcs i : Int)) (hj : pcs j = pc + 3) (hd : decode cc pc = .ok (.if_icmp .le off, 3)) : ip_okT x G nL pc pcs (tCm (fun a b => b < a) j i) := by
  rintro ⟨L, st, M, n, cu, su⟩ S Φ hK hE h H locs ls hR hS hl
  unfold tCm at h
  dsimp only at h
  split at h
  · exact lv_icmp_le X.1 X.2.1 hd ht (fun q => hK _ _ (h.2 (Int32.not_lt.mpr q)) H locs ls hR hS hl) (fun q => by rw [← hj]; exact hK _ _ (h.1 (Int32.not_le.mp q)) H locs ls hR hS hl)
  · exact h.elim
theorem ok_ifnu {x : ip_Cx} {G : ip_Gl} {tab : Nat → Option ip_En} {nL d cap cas : Nat} {own : String} {cc : ByteArray} {pc : Nat} (X : ip_X x G tab nL d cap cas own cc) {pcs : Nat → Nat} {off : Int} {i j : Nat} (ht : (pc : Int) + off = (pcs i : Int)) (hj : pcs j = pc + 3) (hd : decode cc pc = .ok (.ifnull off, 3)) : ip_okT x G nL pc pcs (tNu i j) := by
  rintro ⟨L, st, M, n, cu, su⟩ S Φ hK hE h H locs ls hR hS hl
  unfold tNu at h
  dsimp only at h
  split at h
  · exact lv_ifnullN X.1 X.2.1 hd ht (hK _ _ h H locs ls hR hS hl)
  · exact lv_ifnull X.1 X.2.1 hd (by rw [← hj]; exact hK _ _ h H locs ls hR hS hl)
  · exact h.elim
theorem ok_ifnn {x : ip_Cx} {G : ip_Gl} {tab : Nat → Option ip_En} {nL d cap cas : Nat} {own : String} {cc : ByteArray} {pc : Nat} (X : ip_X x G tab nL d cap cas own cc) {pcs : Nat → Nat} {off : Int} {i j : Nat} (ht : (pc : Int) + off = (pcs i : Int)) (hj : pcs j = pc + 3) (hd : decode cc pc = .ok (.ifnonnull off, 3)) : ip_okT x G nL pc pcs (tNu j i) := by
  rintro ⟨L, st, M, n, cu, su⟩ S Φ hK hE h H locs ls hR hS hl
  unfold tNu at h
  dsimp only at h
  split at h
  · exact lv_ifnonnullN X.1 X.2.1 hd (by rw [← hj]; exact hK _ _ h H locs ls hR hS hl)
  · exact lv_ifnonnull X.1 X.2.1 hd ht (hK _ _ h H locs ls hR hS hl)
  · exact h.elim
theorem ok_fall {x : ip_Cx} {G : ip_Gl} {nL pc : Nat} {pcs : Nat → Nat} {i : Nat} (hj : pcs i = pc) : ip_okT x G nL pc pcs (tGo i) := by
  rintro f S Φ hK hE h
  rw [← hj]
  exact hK _ _ h
theorem ok_ret {x : ip_Cx} {G : ip_Gl} {tab : Nat → Option ip_En} {nL d cap cas : Nat} {own : String} {cc : ByteArray} {pc : Nat} (X : ip_X x G tab nL d cap cas own cc) {pcs : Nat → Nat} {ty : FieldType} (hr : x.2.2.2.2.2.2.2.2.1.sig.returnType = some ty) (hd : decode cc pc = .ok (.ireturn, 1)) : ip_okT x G nL pc pcs (tRI ty cap cas) := by
  rintro ⟨L, st, M, n, cu, su⟩ S Φ hK hE h H locs ls hR hS hl
  unfold tRI at h
  dsimp only at h
  split at h
  · obtain ⟨⟨hn, hc, hs⟩, hp⟩ := h
    have hQ : x.2.2.2.2.2.2.2.2.2.2 = _ := hE
    show W _ _ _ _ _ _ _ _ _ _ _ _ _ _ _ _
    rw [hQ]
    refine W.widen (k := x.2.2.2.1.cells) (n := x.2.2.2.1.slots) (by rw [X.2.2.2.2.2.2.2.2.2.2.1]; exact hc) (by rw [X.2.2.2.2.2.2.2.2.2.2.2.1]; exact hs) ?_
    exact W.zret X.1 X.2.1 hr hn (fun t ht hW => ⟨some (.int _), M, n, rfl, hp, by rw [ht]; exact hR, hS.F ht⟩) hS.2.2 hd X.2.2.2.2.2.2.2.2.2.1
  · exact h.elim
theorem ok_lret {x : ip_Cx} {G : ip_Gl} {tab : Nat → Option ip_En} {nL d cap cas : Nat} {own : String} {cc : ByteArray} {pc : Nat} (X : ip_X x G tab nL d cap cas own cc) {pcs : Nat → Nat} (hr : x.2.2.2.2.2.2.2.2.1.sig.returnType = some .long) (hd : decode cc pc = .ok (.lreturn, 1)) : ip_okT x G nL pc pcs (tRL cap cas) := by
  rintro ⟨L, st, M, n, cu, su⟩ S Φ hK hE h H locs ls hR hS hl
  unfold tRL at h
  dsimp only at h
  split at h
  · obtain ⟨⟨hc, hs⟩, hp⟩ := h
    have hQ : x.2.2.2.2.2.2.2.2.2.2 = _ := hE
    show W _ _ _ _ _ _ _ _ _ _ _ _ _ _ _ _
    rw [hQ]
    refine W.widen (k := x.2.2.2.1.cells) (n := x.2.2.2.1.slots) (by rw [X.2.2.2.2.2.2.2.2.2.2.1]; exact hc) (by rw [X.2.2.2.2.2.2.2.2.2.2.2.1]; exact hs) ?_
    exact W.lret X.1 X.2.1 hr (fun t ht hW => ⟨some (.long _), M, n, rfl, hp, by rw [ht]; exact hR, hS.F ht⟩) hS.2.2 hd X.2.2.2.2.2.2.2.2.2.1
  · exact h.elim
theorem ok_vret {x : ip_Cx} {G : ip_Gl} {tab : Nat → Option ip_En} {nL d cap cas : Nat} {own : String} {cc : ByteArray} {pc : Nat} (X : ip_X x G tab nL d cap cas own cc) {pcs : Nat → Nat} (hr : x.2.2.2.2.2.2.2.2.1.sig.returnType = none) (hd : decode cc pc = .ok (.return_, 1)) : ip_okT x G nL pc pcs (tRV cap cas) := by
  rintro ⟨L, st, M, n, cu, su⟩ S Φ hK hE h H locs ls hR hS hl
  unfold tRV at h
  dsimp only at h
  split at h
  · obtain ⟨⟨hc, hs⟩, hp⟩ := h
    have hQ : x.2.2.2.2.2.2.2.2.2.2 = _ := hE
    show W _ _ _ _ _ _ _ _ _ _ _ _ _ _ _ _
    rw [hQ]
    refine W.widen (k := x.2.2.2.1.cells) (n := x.2.2.2.1.slots) (by rw [X.2.2.2.2.2.2.2.2.2.2.1]; exact hc) (by rw [X.2.2.2.2.2.2.2.2.2.2.2.1]; exact hs) ?_
    exact W.vret X.1 X.2.1 hr (fun t ht hW => ⟨none, M, n, rfl, hp, by rw [ht]; exact hR, hS.F ht⟩) hS.2.2 hd X.2.2.2.2.2.2.2.2.2.1
  · exact h.elim
def ip_lkOk (pc : Nat) (pcs : Nat → Nat) : List (Int × Int) → List (Int32 × Nat) → Bool
  | [], [] => true
  | (a, o) :: r, (k, t) :: l => decide (k.toInt = a) && decide ((pc : Int) + o = (pcs t : Int)) && ip_lkOk pc pcs r l
  | _, _ => false
theorem ip_lk {pc : Nat} {pcs : Nat → Nat} {df : Int} {d : Nat} (hdf : (pc : Int) + df = (pcs d : Int)) (x : Int32) : ∀ (ps : List (Int × Int)) (l : List (Int32 × Nat)), ip_lkOk pc pcs ps l = true → (pc : Int) + Op.lookupswitch.offset ps df x.toInt = (pcs (ip_sw l d x) : Int)
  | [], [], _ => hdf
  | (a, o) :: r, (k, t) :: l, h => by
    simp only [ip_lkOk, Bool.and_eq_true, decide_eq_true_eq] at h
    obtain ⟨⟨h1, h2⟩, h3⟩ := h
    rw [Op.lookupswitch.offset_cons, ip_sw]
    by_cases hx : x = k
    · rw [if_pos (by rw [hx, h1]), if_pos hx]
      exact h2
    · rw [if_neg (fun q => hx (Int32.toInt_inj.mp (by rw [h1]; exact q.symm))), if_neg hx]
      exact ip_lk hdf x r l h3
  | [], _ :: _, h => by cases h
  | _ :: _, [], h => by cases h
def ip_tbOk (pc : Nat) (pcs : Nat → Nat) : Int → List Int → List (Int32 × Nat) → Bool
  | _, [], [] => true
  | lo, o :: r, (k, t) :: l => decide (k.toInt = lo) && decide ((pc : Int) + o = (pcs t : Int)) && ip_tbOk pc pcs (lo + 1) r l
  | _, _, _ => false
theorem ip_tb_out {pc : Nat} {pcs : Nat → Nat} {d : Nat} (x : Int32) : ∀ (lo : Int) (os : List Int) (l : List (Int32 × Nat)), ip_tbOk pc pcs lo os l = true → (x.toInt < lo ∨ lo + os.length ≤ x.toInt) → ip_sw l d x = d
  | _, [], [], _, _ => rfl
  | lo, o :: r, (k, t) :: l, h, hx => by
    simp only [ip_tbOk, Bool.and_eq_true, decide_eq_true_eq] at h
    obtain ⟨⟨h1, h2⟩, h3⟩ := h
    rw [ip_sw, if_neg (fun q => by subst q; rw [h1] at hx; simp only [List.length_cons] at hx; omega)]
    refine ip_tb_out x (lo + 1) r l h3 ?_
    simp only [List.length_cons] at hx
    omega
  | _, [], _ :: _, h, _ => by cases h
  | _, _ :: _, [], h, _ => by cases h
theorem ip_tb_in {pc : Nat} {pcs : Nat → Nat} {d : Nat} (x : Int32) : ∀ (lo : Int) (os : List Int) (l : List (Int32 × Nat)), ip_tbOk pc pcs lo os l = true → lo ≤ x.toInt → x.toInt < lo + os.length → ∃ o, os[(x.toInt - lo).toNat]? = some o ∧ (pc : Int) + o = (pcs (ip_sw l d x) : Int)
  | lo, [], [], _, h1, h2 => by simp at h2; omega
  | lo, o :: r, (k, t) :: l, h, hlo, hhi => by
    simp only [ip_tbOk, Bool.and_eq_true, decide_eq_true_eq] at h
    obtain ⟨⟨h1, h2⟩, h3⟩ := h
    by_cases hx : x = k
    · refine ⟨o, ?_, ?_⟩
      · rw [hx, h1, Int.sub_self]
        rfl
      · rw [ip_sw, if_pos hx]
        exact h2
    · have hne : ¬ x.toInt = lo := fun q => hx (Int32.toInt_inj.mp (by rw [h1]; exact q))
      simp only [List.length_cons] at hhi
      obtain ⟨o', a1, a2⟩ := ip_tb_in (d := d) x (lo + 1) r l h3 (by omega) (by omega)
      refine ⟨o', ?_, ?_⟩
      · rw [show (x.toInt - lo).toNat = (x.toInt - (lo + 1)).toNat + 1 by omega, List.getElem?_cons_succ]
        exact a1
      · rw [ip_sw, if_neg hx]
        exact a2
  | _, [], _ :: _, h, _, _ => by cases h
  | _, _ :: _, [], h, _, _ => by cases h
theorem ok_lsw {x : ip_Cx} {G : ip_Gl} {tab : Nat → Option ip_En} {nL d cap cas : Nat} {own : String} {cc : ByteArray} {pc : Nat} (X : ip_X x G tab nL d cap cas own cc) {pcs : Nat → Nat} {len : Nat} {df : Int} {ps : Array (Int × Int)} {l : List (Int32 × Nat)} {i : Nat} (hp : (ps.toList.zip (ps.toList.drop 1)).all (fun (a, next) => a.1 < next.1) = true) (hk : ip_lkOk pc pcs ps.toList l = true) (ht : (pc : Int) + df = (pcs i : Int)) (hd : decode cc pc = .ok (.lookupswitch df ps, len)) : ip_okT x G nL pc pcs (tSw l i) := by
  rintro ⟨L, st, M, n, cu, su⟩ S Φ hK hE h H locs ls hR hS hl
  unfold tSw at h
  dsimp only at h
  split at h
  · exact lv_lookup X.1 X.2.1 hd hp rfl (ip_lk ht _ _ _ hk) (hK _ _ h H locs ls hR hS hl)
  · exact h.elim
theorem ok_tsw {x : ip_Cx} {G : ip_Gl} {tab : Nat → Option ip_En} {nL d cap cas : Nat} {own : String} {cc : ByteArray} {pc : Nat} (X : ip_X x G tab nL d cap cas own cc) {pcs : Nat → Nat} {len : Nat} {df lo hi : Int} {os : Array Int} {l : List (Int32 × Nat)} {i : Nat} (hh : hi + 1 = lo + os.toList.length) (hk : ip_tbOk pc pcs lo os.toList l = true) (ht : (pc : Int) + df = (pcs i : Int)) (hd : decode cc pc = .ok (.tableswitch df lo hi os, len)) : ip_okT x G nL pc pcs (tSw l i) := by
  rintro ⟨L, st, M, n, cu, su⟩ S Φ hK hE h H locs ls hR hS hl
  unfold tSw at h
  dsimp only at h
  split at h
  · rename_i y r
    by_cases hy : y.toInt < lo ∨ hi < y.toInt
    · rw [ip_tb_out y lo os.toList l hk (by omega)] at h
      exact lv_tableOut X.1 X.2.1 hd hy ht (hK _ _ h H locs ls hR hS hl)
    · obtain ⟨o, h1, h2⟩ := ip_tb_in (d := i) y lo os.toList l hk (by omega) (by omega)
      exact lv_tableIn X.1 X.2.1 hd (by omega) (by omega) (by rw [← Array.getElem?_toList]; exact h1) h2 (hK _ _ h H locs ls hR hS hl)
  · exact h.elim
