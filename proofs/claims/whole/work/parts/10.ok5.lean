theorem ip_cats (z : Nat) (ex : Nat → Nat) : ∀ r : List Value, ((r.map (ip_v z ex)).map fun v => v.category).sum ≤ 2 * r.length
  | [] => by simp
  | v :: r => by
    have ih := ip_cats z ex r
    have h1 : (ip_v z ex v).category ≤ 2 := by cases v <;> simp [ip_v, Value.category]
    simp only [List.map_cons, List.sum_cons, List.length_cons]
    omega
theorem ip_wcpy {p : Program} {l : Launch} {e : Env} {R : Room} {s : State} {m : MethodId} {args : Array Value} {below : List Frame} {meth : Method} {c : Code} {H : Heap} {locs : List Loc} {cells slots : Nat} {Q : State → Prop} {cc : ByteArray} {pc : Nat} {ls : Array Slot} {rest : List Value} (hexec : p.tables.exec = Jvm.exec) (hb : c.code = cc) (hml : c.maxLocals = ls.size) {own : String} {index : Nat} (hown : s.vm.findClass own = some m.cls) (hlink : (Cond.methodLink own index arraycopyName).before args s = true) (hnat : (Cond.native arraycopyName).before args s = true) (hstat : (Cond.static arraycopyName).before args s = true) (hini : (Cond.initialized "java/lang/System").before args s = true)
    {b0 n0 a n1 : Nat} {f g : Nat → Int32} {scr : Cell} {c1 : ClassId} (hc0 : H[b0]? = some scr) (hs2 : s.isArrayOf scr .int) (hs3 : scr.vm ≠ .unknown) (hs4 : n0 ≤ scr.slots.size) (hs5 : ∀ j : Nat, j < n0 → scr.slots[j]? = some (.int (f j))) (hc1 : H[a]? = some (vp_cell c1 (n1, .inl g))) (hA1 : ArrOfT s c1 .int)
    {sp dp n : Int32} (h1 : ¬ sp < 0) (h2 : ¬ dp < 0) (h3 : ¬ n < 0) (h4 : sp.toNatClampNeg + n.toNatClampNeg ≤ n0) (h5 : dp.toNatClampNeg + n.toNatClampNeg ≤ n1)
    (hframes : 1 ≤ R.frames) (hlocals : (rest.map fun v => v.category).sum + (nativeFrameWords "java/lang/System" "arraycopy" 5 + 11) ≤ R.locals) (hdg : decode cc pc = .ok (.invokestatic index, 3))
    (kk : ∀ (H1 : Heap) (locs1 : List Loc), H1[a]? = some (vp_cell c1 (n1, .inl (va_cpy f g sp.toNatClampNeg dp.toNatClampNeg n.toNatClampNeg))) → H1.size = H.size → (∀ q, q ≠ a → H1[q]? = H[q]?) → (∀ l ∈ locs1, l ∈ locs ∨ l.base = a) → W p l e R s m args below meth c H1 locs1 cells slots Q (F0 m (pc + 3) ls rest)) : W p l e R s m args below meth c H locs cells slots Q (F0 m pc ls (.int n :: .int dp :: .ref a :: .int sp :: .ref b0 :: rest)) := by
  have nn : ∀ z : Int32, ¬ z < 0 → z.toInt = (z.toNatClampNeg : Int) := by
    intro z hz
    have hz0 : (0 : Int) ≤ z.toInt := by
      have := Int32.not_lt.mp hz
      simpa using Int32.le_iff_toInt_le.mp this
    show z.toInt = ((z.toInt.toNat : Nat) : Int)
    omega
  intro T hT X
  obtain ⟨hs6, k0, hk0, cm0, hkk0⟩ := hs2
  obtain ⟨-, k1, hk1, cm1, hkk1⟩ := hA1 n1 (fun j => .int (g j))
  obtain ⟨vm', X', step⟩ := X.arraycopy hexec hown hlink hnat hstat hini (src := b0) (dst := a) (cs := scr) (cd := vp_cell c1 (n1, .inl g)) (srcPos := sp) (destPos := dp) (n := n) (by rw [hT]; exact hc0) (by rw [hT]; exact hc1)
    hs6 (fun _ h => by cases h) hs3 (fun h => by cases h) hk0 hk1 hkk0 hkk1 (by simp [refKind]) h1 h2 h3
    (by rw [nn sp h1, nn n h3]; omega)
    (by rw [nn dp h2, nn n h3]; show ¬ _ > ((arrV c1 n1 (fun j => .int (g j))).slots.size : Int); rw [arrV_size]; omega)
    (fun vm₁ _ i hi => by
      have e : scr.slots.getD (sp.toNatClampNeg + i) .null = .int (f (sp.toNatClampNeg + i)) := by
        rw [Array.getD_eq_getD_getElem?, hs5 _ (by omega)]
        rfl
      refine ⟨?_, ?_⟩
      · rw [e]
        rfl
      · rw [e]
        exact trivial)
    (g := F0 m pc ls (.int n :: .int dp :: .ref a :: .int sp :: .ref b0 :: rest)) rfl (by rw [hml]) (rest := rest) rfl (by rw [hb]; exact hdg) hframes (by show 2 * 0 + _ + _ ≤ _; omega)
  have e1 : copied scr (vp_cell c1 (n1, .inl g)) sp dp n = vp_cell c1 (n1, .inl (va_cpy f g sp.toNatClampNeg dp.toNatClampNeg n.toNatClampNeg)) := va_copiedX (fun z => .int z) scr c1 f g hs5 h4
  rw [e1] at X' step
  have hl : a < H.size := (Array.getElem?_eq_some_iff.mp hc1).1
  have hheap : ((T.setVm vm').setCell a (vp_cell c1 (n1, .inl (va_cpy f g sp.toNatClampNeg dp.toNatClampNeg n.toNatClampNeg)))).heap = H.setIfInBounds a (vp_cell c1 (n1, .inl (va_cpy f g sp.toNatClampNeg dp.toNatClampNeg n.toNatClampNeg))) := by rw [← hT]; rfl
  obtain ⟨t, a1, b1⟩ := kk _ _ (by simp [Array.getElem?_setIfInBounds, hl]) (by simp) (fun q hq => by simp [Array.getElem?_setIfInBounds, Ne.symm hq]) (fun q hq => by
      rcases List.mem_append.mp hq with h | h
      · exact Or.inl h
      · obtain ⟨z, -, hz⟩ := List.mem_map.mp h
        rw [← hz]
        exact Or.inr rfl) _ hheap X'
  exact ⟨t, step t a1, b1⟩
theorem ok_cpy {x : ip_Cx} {G : ip_Gl} {tab : Nat → Option ip_En} {nL d cap cas : Nat} {own : String} {cc : ByteArray} {pc : Nat} (X : ip_X x G tab nL d cap cas own cc) {i : Nat} (hw : Cond.methodLink own i arraycopyName ∈ ip_Ts) (hw1 : Cond.native arraycopyName ∈ ip_Ts) (hw2 : Cond.static arraycopyName ∈ ip_Ts) (hw3 : Cond.initialized "java/lang/System" ∈ ip_Ts) (hd : decode cc pc = .ok (.invokestatic i, 3)) : ip_ok x G nL pc (pc + 3) oCpy := by
  rintro ⟨L, st, M, n, cu, su⟩ K hK h H locs ls hR hS hl
  replace hR : ip_Rep G M n H := hR
  replace hl : ip_Loc G nL ls L := hl
  unfold oCpy at h
  dsimp only at h
  split at h
  · rename_i k dp a sp b r
    split at h
    · rename_i n0 g n1 g1 hB hA
      obtain ⟨⟨h64, q1, q2, q3, q4, q5, q6⟩, h⟩ := h
      have hlt := ip_cellA hR hA
      have he : (ip_ws G.2.1 G.2.2.1 G.2.2.2.1 M n)[a - 64]? = some (ip_ad G.2.1 G.2.2.1 a, .inl (G.2.2.2.1 .int, n1, .inl g1)) := by rw [ip_ws_at h64 hlt, hA]; rfl
      have hArr := (X.2.2.2.2.2.1.2 0 _ rfl).1
      obtain ⟨scr, s1, s2, s3, s4, s5⟩ : ∃ scr : Cell, H[ip_ad G.2.1 G.2.2.1 b]? = some scr ∧ x.2.2.2.2.1.isArrayOf scr .int ∧ scr.vm ≠ .unknown ∧ n0 ≤ scr.slots.size ∧ ∀ j : Nat, j < n0 → scr.slots[j]? = some (.int (g j)) := by
        by_cases hb : b < 64
        · obtain ⟨cell, t1, t2, t3, t4, t5, t6, t7⟩ := (X.2.2.2.2.2.2.1.1 b .int n0 g hb (by rw [← hR.1 b hb]; exact hB)).kept hS.2.1
          rw [ip_ad_ex hb]
          exact ⟨cell, t1, t2, t3, t4, t6⟩
        · have hbe := hR.2.2.2.2 (b - 64) _ (ip_ws_at (z := G.2.1) (ex := G.2.2.1) (kA := G.2.2.2.1) (M := M) (Nat.not_lt.mp hb) (ip_cellA hR hB))
          rw [hB] at hbe
          exact ⟨vp_cell (G.2.2.2.1 .int) (n0, .inl g), hbe, hArr n0 (fun j => .int (g j)), (fun q => by cases q), (by rw [vp_cell_i, arrV_size]; exact Nat.le_refl _), fun j hj => by rw [vp_cell_i, arrV_read _ _ hj]⟩
      have hcs := ip_cats G.2.1 G.2.2.1 r
      have hlo := X.2.2.2.2.2.2.2.2.2.2.2.2.2.1
      have hfr := X.2.2.2.2.2.2.2.2.2.2.2.2.1
      refine ip_wcpy X.1 X.2.1 (by rw [X.2.2.1]; exact hl.1.symm) X.2.2.2.1 (X.2.2.2.2.1 _ hw) (X.2.2.2.2.1 _ hw1) (X.2.2.2.2.1 _ hw2) (X.2.2.2.2.1 _ hw3) s1 s2 s3 s4 s5 (hR.2.2.2.2 (a - 64) _ he) hArr q1 q2 q3 q4 q5 (by omega) ?_ hd (fun H1 locs1 e1 e2 e3 e4 => ?_)
      · have hnf : nativeFrameWords "java/lang/System" "arraycopy" 5 ≤ 64 := by decide
        omega
      · refine hK _ h H1 _ ls (hR.set h64 hlt e2 (hR.2.2.2.2.set ip_D he e1 e3)) ⟨by rw [e2]; exact hS.1, fun q g1 g2 => ?_, fun q hq => ?_⟩ hl
        · rw [e3 q (fun e => g2 (by rw [e]; exact ip_ad_in h64))]
          exact hS.2.1 q g1 g2
        · rcases e4 q hq with h | h
          · exact hS.2.2 q h
          · rw [h]; exact ip_ad_in h64
    · exact h.elim
  · exact h.elim
theorem ip_v_dflt {z : Nat} {ex : Nat → Nat} (t : FieldType) : ip_v z ex (defaultValue t) = defaultValue t := by cases t <;> rfl
theorem ip_v_new {G : ip_Gl} {M : ip_M} {n : Nat} {H : Heap} (hR : ip_Rep G M n H) : ip_v G.2.1 G.2.2.1 (.ref n) = .ref H.size := by
  show Value.ref (ip_ad _ _ n) = _
  rw [ip_ad_new hR.2.2.1, hR.2.2.2.1]
theorem ok_new {x : ip_Cx} {G : ip_Gl} {tab : Nat → Option ip_En} {nL d cap cas : Nat} {own : String} {cc : ByteArray} {pc : Nat} (X : ip_X x G tab nL d cap cas own cc) {ci i N : Nat} {C : String} {T : u_T} {fs : List Value} {ty : Nat → FieldType} (hc : vwCl[ci]? = some (C, T, N)) (hin : ∀ w ∈ u_ws C T N, w ∈ ip_Ts) (hty : ∀ k, k < N → parseFieldDescriptor (T k).2.2.1 = some (ty k)) (hfs : fs = (List.range N).map (fun j => defaultValue (ty j))) (hw : Cond.classLink own i C ∈ ip_Ts) (hw1 : Cond.instantiable C N ∈ ip_Ts) (hw2 : Cond.initialized C ∈ ip_Ts) (hd : decode cc pc = .ok (.new i, 3)) : ip_ok x G nL pc (pc + 3) (oNew cap cas ci fs) := by
  rintro ⟨L, st, M, n, cu, su⟩ K hK h H locs ls hR hS hl
  replace hR : ip_Rep G M n H := hR
  replace hl : ip_Loc G nL ls L := hl
  unfold oNew at h
  dsimp only at h
  obtain ⟨⟨hcu, hsu⟩, h⟩ := h
  have hlen : fs.length = N := by rw [hfs]; simp
  have hKn := X.2.2.2.2.2.1.1 ci _ hc
  have hP := hR.2.2.2.2
  refine W.newcK X.1 X.2.1 X.2.2.2.1 (X.2.2.2.2.1 _ hw) (X.2.2.2.2.1 _ hw1) (X.2.2.2.2.1 _ hw2) rfl hd (by rw [X.2.2.2.2.2.2.2.2.2.2.1]; exact hcu) (by rw [X.2.2.2.2.2.2.2.2.2.2.2.1, ← hlen]; exact hsu) hKn.2.1 rfl fun H1 kC hkC e1 z1 o1 => ?_
  have hk : ∀ (k : Nat) (y : Nat × va_E), (ip_ws G.2.1 G.2.2.1 G.2.2.2.1 M n)[k]? = some y → H1[y.1]? = H[y.1]? := fun k y hy => o1 y.1 ((hP k y hy).lt)
  have hmap : fs.map (ip_v G.2.1 G.2.2.1) = fs := by
    rw [hfs, List.map_map]
    apply List.map_congr_left
    intro j _
    exact ip_v_dflt _
  have hR1 : ip_Rep G (ip_up M n (.inr (ci, fs))) (n + 1) H1 := by
    refine hR.push z1 ((hP.kept hk).app (fun k y hy => ?_))
    have hz : k < 1 := (List.getElem?_eq_some_iff.mp hy).1
    rw [show k = 0 by omega] at hy
    cases hy
    refine ⟨_, hc, (u_born ty X.2.2.2.2.1 hin hKn hkC e1 hty).to (fun j hj => ?_)⟩
    rw [hmap, hfs]
    simp [vp_V, hj]
  have hW := hK _ h H1 locs ls hR1 ⟨Nat.le_trans hS.1 (by omega), fun y h1 h2 => (o1 y (Nat.lt_of_lt_of_le h1 hS.1)).trans (hS.2.1 y h1 h2), hS.2.2⟩ hl
  rw [hlen] at hW
  refine W.eq (g2 := F0 x.2.2.2.2.2.1 (pc + 3) ls (ip_v G.2.1 G.2.2.1 (.ref n) :: st.map (ip_v G.2.1 G.2.2.1))) ?_ hW
  rw [ip_v_new hR]
theorem ok_nwI {x : ip_Cx} {G : ip_Gl} {tab : Nat → Option ip_En} {nL d cap cas : Nat} {own : String} {cc : ByteArray} {pc : Nat} (X : ip_X x G tab nL d cap cas own cc) (hw : Cond.arrayClass .int ∈ ip_Ts) (hd : decode cc pc = .ok (.newarray .int, 2)) : ip_ok x G nL pc (pc + 2) (oNwA cap cas .int (fun N => (N, .inl (fun _ => 0)))) := by
  rintro ⟨L, st, M, n, cu, su⟩ K hK h H locs ls hR hS hl
  replace hR : ip_Rep G M n H := hR
  replace hl : ip_Loc G nL ls L := hl
  unfold oNwA at h
  dsimp only at h
  split at h
  · rename_i k r
    obtain ⟨⟨h0, h1, hcu, hsu⟩, h⟩ := h
    have hP := hR.2.2.2.2
    refine va_newaK (atype := .int) X.1 X.2.1 (X.2.2.2.2.1 _ hw) rfl hd rfl h0 rfl (Nat.le_trans (Nat.mul_le_mul_right _ h1) (by decide)) (by rw [X.2.2.2.2.2.2.2.2.2.2.1]; exact hcu) (by rw [X.2.2.2.2.2.2.2.2.2.2.2.1]; exact hsu) rfl fun H1 cA e1 z1 o1 hAr hNm => ?_
    have hcA : cA = G.2.2.2.1 .int := by
      have h2 : x.2.2.2.2.1.vm.findClass _ = some _ := (X.2.2.2.2.2.1.2 0 _ rfl).2
      exact Option.some.inj (hNm.symm.trans h2)
    subst hcA
    have hk : ∀ (k : Nat) (y : Nat × va_E), (ip_ws G.2.1 G.2.2.1 G.2.2.2.1 M n)[k]? = some y → H1[y.1]? = H[y.1]? := fun k y hy => o1 y.1 ((hP k y hy).lt)
    have hR1 : ip_Rep G (ip_up M n (.inl (.int, (fun N => (N, .inl (fun _ => 0))) k.toNatClampNeg))) (n + 1) H1 := by
      refine hR.push z1 ((hP.kept hk).app (fun j y hy => ?_))
      have hz : j < 1 := (List.getElem?_eq_some_iff.mp hy).1
      rw [show j = 0 by omega] at hy
      cases hy
      exact e1
    have hW := hK _ h H1 locs ls hR1 ⟨Nat.le_trans hS.1 (by omega), fun y h1 h2 => (o1 y (Nat.lt_of_lt_of_le h1 hS.1)).trans (hS.2.1 y h1 h2), hS.2.2⟩ hl
    refine W.eq (g2 := F0 x.2.2.2.2.2.1 (pc + 2) ls (ip_v G.2.1 G.2.2.1 (.ref n) :: r.map (ip_v G.2.1 G.2.2.1))) ?_ hW
    rw [ip_v_new hR]
  · exact h.elim
theorem ok_nwB {x : ip_Cx} {G : ip_Gl} {tab : Nat → Option ip_En} {nL d cap cas : Nat} {own : String} {cc : ByteArray} {pc : Nat} (X : ip_X x G tab nL d cap cas own cc) (hw : Cond.arrayClass .byte ∈ ip_Ts) (hd : decode cc pc = .ok (.newarray .byte, 2)) : ip_ok x G nL pc (pc + 2) (oNwA cap cas .byte (fun N => (N, .inl (fun _ => 0)))) := by
  rintro ⟨L, st, M, n, cu, su⟩ K hK h H locs ls hR hS hl
  replace hR : ip_Rep G M n H := hR
  replace hl : ip_Loc G nL ls L := hl
  unfold oNwA at h
  dsimp only at h
  split at h
  · rename_i k r
    obtain ⟨⟨h0, h1, hcu, hsu⟩, h⟩ := h
    have hP := hR.2.2.2.2
    refine va_newaK (atype := .byte) X.1 X.2.1 (X.2.2.2.2.1 _ hw) rfl hd rfl h0 rfl (Nat.le_trans (Nat.mul_le_mul_right _ h1) (by decide)) (by rw [X.2.2.2.2.2.2.2.2.2.2.1]; exact hcu) (by rw [X.2.2.2.2.2.2.2.2.2.2.2.1]; exact hsu) rfl fun H1 cA e1 z1 o1 hAr hNm => ?_
    have hcA : cA = G.2.2.2.1 .byte := by
      have h2 : x.2.2.2.2.1.vm.findClass _ = some _ := (X.2.2.2.2.2.1.2 1 _ rfl).2
      exact Option.some.inj (hNm.symm.trans h2)
    subst hcA
    have hk : ∀ (k : Nat) (y : Nat × va_E), (ip_ws G.2.1 G.2.2.1 G.2.2.2.1 M n)[k]? = some y → H1[y.1]? = H[y.1]? := fun k y hy => o1 y.1 ((hP k y hy).lt)
    have hR1 : ip_Rep G (ip_up M n (.inl (.byte, (fun N => (N, .inl (fun _ => 0))) k.toNatClampNeg))) (n + 1) H1 := by
      refine hR.push z1 ((hP.kept hk).app (fun j y hy => ?_))
      have hz : j < 1 := (List.getElem?_eq_some_iff.mp hy).1
      rw [show j = 0 by omega] at hy
      cases hy
      exact e1
    have hW := hK _ h H1 locs ls hR1 ⟨Nat.le_trans hS.1 (by omega), fun y h1 h2 => (o1 y (Nat.lt_of_lt_of_le h1 hS.1)).trans (hS.2.1 y h1 h2), hS.2.2⟩ hl
    refine W.eq (g2 := F0 x.2.2.2.2.2.1 (pc + 2) ls (ip_v G.2.1 G.2.2.1 (.ref n) :: r.map (ip_v G.2.1 G.2.2.1))) ?_ hW
    rw [ip_v_new hR]
  · exact h.elim
theorem ok_nwL {x : ip_Cx} {G : ip_Gl} {tab : Nat → Option ip_En} {nL d cap cas : Nat} {own : String} {cc : ByteArray} {pc : Nat} (X : ip_X x G tab nL d cap cas own cc) (hw : Cond.arrayClass .long ∈ ip_Ts) (hd : decode cc pc = .ok (.newarray .long, 2)) : ip_ok x G nL pc (pc + 2) (oNwA cap cas .long (fun N => (N, .inr (.inl (fun _ => 0))))) := by
  rintro ⟨L, st, M, n, cu, su⟩ K hK h H locs ls hR hS hl
  replace hR : ip_Rep G M n H := hR
  replace hl : ip_Loc G nL ls L := hl
  unfold oNwA at h
  dsimp only at h
  split at h
  · rename_i k r
    obtain ⟨⟨h0, h1, hcu, hsu⟩, h⟩ := h
    have hP := hR.2.2.2.2
    refine va_newaK (atype := .long) X.1 X.2.1 (X.2.2.2.2.1 _ hw) rfl hd rfl h0 rfl (Nat.le_trans (Nat.mul_le_mul_right _ h1) (by decide)) (by rw [X.2.2.2.2.2.2.2.2.2.2.1]; exact hcu) (by rw [X.2.2.2.2.2.2.2.2.2.2.2.1]; exact hsu) rfl fun H1 cA e1 z1 o1 hAr hNm => ?_
    have hcA : cA = G.2.2.2.1 .long := by
      have h2 : x.2.2.2.2.1.vm.findClass _ = some _ := (X.2.2.2.2.2.1.2 2 _ rfl).2
      exact Option.some.inj (hNm.symm.trans h2)
    subst hcA
    have hk : ∀ (k : Nat) (y : Nat × va_E), (ip_ws G.2.1 G.2.2.1 G.2.2.2.1 M n)[k]? = some y → H1[y.1]? = H[y.1]? := fun k y hy => o1 y.1 ((hP k y hy).lt)
    have hR1 : ip_Rep G (ip_up M n (.inl (.long, (fun N => (N, .inr (.inl (fun _ => 0)))) k.toNatClampNeg))) (n + 1) H1 := by
      refine hR.push z1 ((hP.kept hk).app (fun j y hy => ?_))
      have hz : j < 1 := (List.getElem?_eq_some_iff.mp hy).1
      rw [show j = 0 by omega] at hy
      cases hy
      exact e1
    have hW := hK _ h H1 locs ls hR1 ⟨Nat.le_trans hS.1 (by omega), fun y h1 h2 => (o1 y (Nat.lt_of_lt_of_le h1 hS.1)).trans (hS.2.1 y h1 h2), hS.2.2⟩ hl
    refine W.eq (g2 := F0 x.2.2.2.2.2.1 (pc + 2) ls (ip_v G.2.1 G.2.2.1 (.ref n) :: r.map (ip_v G.2.1 G.2.2.1))) ?_ hW
    rw [ip_v_new hR]
  · exact h.elim
theorem ok_nwQ {x : ip_Cx} {G : ip_Gl} {tab : Nat → Option ip_En} {nL d cap cas : Nat} {own : String} {cc : ByteArray} {pc : Nat} (X : ip_X x G tab nL d cap cas own cc) {i : Nat} (hw : Cond.classLink own i RX2 ∈ ip_Ts) (hd : decode cc pc = .ok (.anewarray i, 3)) : ip_ok x G nL pc (pc + 3) (oNwA cap cas (.object RX2) (fun N => (N, .inr (.inr (.inr (.inr (fun _ => none))))))) := by
  rintro ⟨L, st, M, n, cu, su⟩ K hK h H locs ls hR hS hl
  replace hR : ip_Rep G M n H := hR
  replace hl : ip_Loc G nL ls L := hl
  unfold oNwA at h
  dsimp only at h
  split at h
  · rename_i k r
    obtain ⟨⟨h0, h1, hcu, hsu⟩, h⟩ := h
    have hP := hR.2.2.2.2
    refine W.anew X.1 X.2.1 X.2.2.2.1 (X.2.2.2.2.1 _ hw) (va_AO.use X.2.2.2.2.2.2.1.2.2.2.2.2.2.2) rfl hd rfl h0 (Nat.le_trans (Nat.mul_le_mul_right _ h1) (by decide)) (by rw [X.2.2.2.2.2.2.2.2.2.2.1]; exact hcu) (by rw [X.2.2.2.2.2.2.2.2.2.2.2.1]; exact hsu) fun cA kA comp f1 f2 f3 f4 => ?_
    generalize hH1 : H.push ({ cls := cA, slots := Array.replicate k.toNatClampNeg .null, vm := .none } : Cell) = H1
    have z1 : H1.size = H.size + 1 := by rw [← hH1, Array.size_push]
    have e1 : H1[H.size]? = some (arrV cA k.toNatClampNeg (fun _ => .null)) := by rw [← hH1, Array.getElem?_push_size, ← arrV_new]
    have o1 : ∀ q : Nat, q < H.size → H1[q]? = H[q]? := fun q hq => by rw [← hH1, Array.getElem?_push, if_neg (Nat.ne_of_lt hq)]
    have hcA : cA = G.2.2.2.1 (.object RX2) := by
      obtain ⟨_, _, -, -, -, h2⟩ := (X.2.2.2.2.2.1.2 3 _ rfl).2
      exact Option.some.inj (f1.symm.trans h2)
    subst hcA
    have hk : ∀ (k : Nat) (y : Nat × va_E), (ip_ws G.2.1 G.2.2.1 G.2.2.2.1 M n)[k]? = some y → H1[y.1]? = H[y.1]? := fun k y hy => o1 y.1 ((hP k y hy).lt)
    have hR1 : ip_Rep G (ip_up M n (.inl (.object RX2, k.toNatClampNeg, .inr (.inr (.inr (.inr (fun _ => none))))))) (n + 1) H1 := by
      refine hR.push z1 ((hP.kept hk).app (fun j y hy => ?_))
      have hz : j < 1 := (List.getElem?_eq_some_iff.mp hy).1
      rw [show j = 0 by omega] at hy
      cases hy
      exact e1
    have hW := hK _ h H1 locs ls hR1 ⟨Nat.le_trans hS.1 (by omega), fun y h1 h2 => (o1 y (Nat.lt_of_lt_of_le h1 hS.1)).trans (hS.2.1 y h1 h2), hS.2.2⟩ hl
    refine W.eq (g2 := F0 x.2.2.2.2.2.1 (pc + 3) ls (ip_v G.2.1 G.2.2.1 (.ref n) :: r.map (ip_v G.2.1 G.2.2.1))) ?_ hW
    rw [ip_v_new hR]
  · exact h.elim
theorem ok_max {x : ip_Cx} {G : ip_Gl} {tab : Nat → Option ip_En} {nL d cap cas : Nat} {own : String} {cc : ByteArray} {pc : Nat} (X : ip_X x G tab nL d cap cas own cc) {i : Nat} (hw : Cond.methodLink own i Lib.Math.max.name ∈ ip_Ts) (hw1 : Cond.static Lib.Math.max.name ∈ ip_Ts) (hw2 : Cond.initialized "java/lang/Math" ∈ ip_Ts) (hw3 : Cond.code Lib.Math.max.name Lib.Math.max.code 2 (some .int) ∈ ip_Ts) (hd : decode cc pc = .ok (.invokestatic i, 3)) : ip_ok x G nL pc (pc + 3) (oMax cap cas) := by
  rintro ⟨L, st, M, n, cu, su⟩ K hK h H locs ls hR hS hl
  replace hR : ip_Rep G M n H := hR
  replace hl : ip_Loc G nL ls L := hl
  unfold oMax at h
  dsimp only at h
  split at h
  · rename_i b a r
    obtain ⟨⟨h1, h2, h3⟩, h⟩ := h
    have hcs := ip_cats G.2.1 G.2.2.1 r
    have hlo := X.2.2.2.2.2.2.2.2.2.2.2.2.2.1
    have hfr := X.2.2.2.2.2.2.2.2.2.2.2.2.1
    exact va_mmax X.1 X.2.1 (by rw [X.2.2.1]; exact hl.1.symm) X.2.2.2.1 (X.2.2.2.2.1 _ hw) (X.2.2.2.2.1 _ hw1) (X.2.2.2.2.1 _ hw2) (X.2.2.2.2.1 _ hw3) (by omega) (by omega) (by rw [X.2.2.2.2.2.2.2.2.2.2.1]; exact h2) (by rw [X.2.2.2.2.2.2.2.2.2.2.2.1]; exact h3) hd (hK _ h H locs ls hR hS hl)
  · exact h.elim
theorem ok_min {x : ip_Cx} {G : ip_Gl} {tab : Nat → Option ip_En} {nL d cap cas : Nat} {own : String} {cc : ByteArray} {pc : Nat} (X : ip_X x G tab nL d cap cas own cc) {i : Nat} (hw : Cond.methodLink own i Lib.Math.min.name ∈ ip_Ts) (hw1 : Cond.static Lib.Math.min.name ∈ ip_Ts) (hw2 : Cond.initialized "java/lang/Math" ∈ ip_Ts) (hw3 : Cond.code Lib.Math.min.name Lib.Math.min.code 2 (some .int) ∈ ip_Ts) (hd : decode cc pc = .ok (.invokestatic i, 3)) : ip_ok x G nL pc (pc + 3) (oMin cap cas) := by
  rintro ⟨L, st, M, n, cu, su⟩ K hK h H locs ls hR hS hl
  replace hR : ip_Rep G M n H := hR
  replace hl : ip_Loc G nL ls L := hl
  unfold oMin at h
  dsimp only at h
  split at h
  · rename_i b a r
    obtain ⟨⟨h1, h2, h3⟩, h⟩ := h
    have hcs := ip_cats G.2.1 G.2.2.1 r
    have hlo := X.2.2.2.2.2.2.2.2.2.2.2.2.2.1
    have hfr := X.2.2.2.2.2.2.2.2.2.2.2.2.1
    exact va_mmin X.1 X.2.1 (by rw [X.2.2.1]; exact hl.1.symm) X.2.2.2.1 (X.2.2.2.2.1 _ hw) (X.2.2.2.2.1 _ hw1) (X.2.2.2.2.1 _ hw2) (X.2.2.2.2.1 _ hw3) (by omega) (by omega) (by rw [X.2.2.2.2.2.2.2.2.2.2.1]; exact h2) (by rw [X.2.2.2.2.2.2.2.2.2.2.2.1]; exact h3) hd (hK _ h H locs ls hR hS hl)
  · exact h.elim
theorem ok_obj {x : ip_Cx} {G : ip_Gl} {tab : Nat → Option ip_En} {nL d cap cas : Nat} {own : String} {cc : ByteArray} {pc : Nat} (X : ip_X x G tab nL d cap cas own cc) {i : Nat} (hw : Cond.methodLink own i Lib.objectInit ∈ ip_Ts) (hw1 : Cond.instanceMethod Lib.objectInit ∈ ip_Ts) (hw2 : Cond.code Lib.objectInit ⟨#[0xb1]⟩ 1 none ∈ ip_Ts) (hd : decode cc pc = .ok (.invokespecial i, 3)) : ip_ok x G nL pc (pc + 3) oObj := by
  rintro ⟨L, st, M, n, cu, su⟩ K hK h H locs ls hR hS hl
  replace hR : ip_Rep G M n H := hR
  replace hl : ip_Loc G nL ls L := hl
  unfold oObj at h
  dsimp only at h
  split at h
  · rename_i a r
    obtain ⟨h1, h⟩ := h
    have hcs := ip_cats G.2.1 G.2.2.1 r
    have hlo := X.2.2.2.2.2.2.2.2.2.2.2.2.2.1
    have hfr := X.2.2.2.2.2.2.2.2.2.2.2.2.1
    exact W.objInit X.1 X.2.1 X.2.2.2.1 (X.2.2.2.2.1 _ hw) (X.2.2.2.2.1 _ hw1) (X.2.2.2.2.1 _ hw2) rfl (by rw [X.2.2.1]; exact hl.1) rfl hd (by omega) (by show 2 * 0 + _ + 12 ≤ _; omega) (hK _ h H locs ls hR hS hl)
  · exact h.elim
theorem ok_gst {x : ip_Cx} {G : ip_Gl} {tab : Nat → Option ip_En} {nL d cap cas : Nat} {own : String} {cc : ByteArray} {pc : Nat} (X : ip_X x G tab nL d cap cas own cc) {i : Nat} {q : String × String × String × Value} {k : Nat} (hq : q ∈ ip_stat) (hk : q.2.2.2 = .ref k) (hw : Cond.fieldLink own i q.1 q.2.1 q.2.2.1 ∈ ip_Ts) (hd : decode cc pc = .ok (.getstatic i, 3)) : ip_ok x G nL pc (pc + 3) (oRef k) := by
  rintro ⟨L, st, M, n, cu, su⟩ K hK h H locs ls hR hS hl
  replace hR : ip_Rep G M n H := hR
  replace hl : ip_Loc G nL ls L := hl
  unfold oRef at h
  have hZ := X.2.2.2.2.2.2.1.2.2.1 q hq
  rw [hk] at hZ
  exact va_gets X.1 X.2.1 hZ hS X.2.2.2.1 (X.2.2.2.2.1 _ hw) (fun _ q => q) hd (hK _ h H locs ls hR hS hl)
theorem ok_gsi {x : ip_Cx} {G : ip_Gl} {tab : Nat → Option ip_En} {nL d cap cas : Nat} {own : String} {cc : ByteArray} {pc : Nat} (X : ip_X x G tab nL d cap cas own cc) {i : Nat} {q : String × String × String × Value} {k : Int32} (hq : q ∈ ip_stat) (hk : q.2.2.2 = .int k) (hw : Cond.fieldLink own i q.1 q.2.1 q.2.2.1 ∈ ip_Ts) (hd : decode cc pc = .ok (.getstatic i, 3)) : ip_ok x G nL pc (pc + 3) (oI k) := by
  rintro ⟨L, st, M, n, cu, su⟩ K hK h H locs ls hR hS hl
  replace hR : ip_Rep G M n H := hR
  replace hl : ip_Loc G nL ls L := hl
  unfold oI at h
  have hZ := X.2.2.2.2.2.2.1.2.2.1 q hq
  rw [hk] at hZ
  exact va_gets X.1 X.2.1 hZ hS X.2.2.2.1 (X.2.2.2.2.1 _ hw) (fun _ q => q) hd (hK _ h H locs ls hR hS hl)
theorem ok_gsN {x : ip_Cx} {G : ip_Gl} {tab : Nat → Option ip_En} {nL d cap cas : Nat} {own : String} {cc : ByteArray} {pc : Nat} (X : ip_X x G tab nL d cap cas own cc) {i : Nat} {q : String × String × String × Value} {k : Nat} (hq : q ∈ ip_stat) (hk : q.2.2.2 = .ref k) (hr : q.1 = RX5) (hw : (own, i, q.2.1, q.2.2.1) ∈ ip_nesF) (hd : decode cc pc = .ok (.getstatic i, 3)) : ip_ok x G nL pc (pc + 3) (oRef k) := by
  rintro ⟨L, st, M, n, cu, su⟩ K hK h H locs ls hR hS hl
  replace hR : ip_Rep G M n H := hR
  replace hl : ip_Loc G nL ls L := hl
  unfold oRef at h
  have hZ := X.2.2.2.2.2.2.1.2.2.1 q hq
  rw [hk] at hZ
  exact va_getsN X.1 X.2.1 hZ hS X.2.2.2.1 (va_Nw.use rfl (X.2.2.2.2.2.2.1.2.2.2.2.2.1 _ hw)) (fun y hy => by rw [hr] at hy; exact hy) hd (hK _ h H locs ls hR hS hl)
theorem ok_fmt {x : ip_Cx} {G : ip_Gl} {tab : Nat → Option ip_En} {nL d cap cas : Nat} {own : String} {cc : ByteArray} {pc : Nat} (X : ip_X x G tab nL d cap cas own cc) {i : Nat} (hw : Cond.fieldLink own i RJ3 "SIOOBE_FORMATTER" "Ljava/util/function/BiFunction;" ∈ ip_Ts) (hd : decode cc pc = .ok (.getstatic i, 3)) : ip_ok x G nL pc (pc + 3) oFmt := by
  rintro ⟨L, st, M, n, cu, su⟩ K hK h H locs ls hR hS hl
  replace hR : ip_Rep G M n H := hR
  replace hl : ip_Loc G nL ls L := hl
  unfold oFmt at h
  rcases X.2.2.2.2.2.2.1.2.2.2.1 with hZ | hZ
  · exact va_gets X.1 X.2.1 hZ hS X.2.2.2.1 (X.2.2.2.2.1 _ hw) (fun _ q => q) hd (hK _ h.1 H locs ls hR hS hl)
  · exact va_gets X.1 X.2.1 hZ hS X.2.2.2.1 (X.2.2.2.2.1 _ hw) (fun _ q => q) hd (hK _ h.2 H locs ls hR hS hl)
theorem ok_str {x : ip_Cx} {G : ip_Gl} {tab : Nat → Option ip_En} {nL d cap cas : Nat} {own : String} {cc : ByteArray} {pc : Nat} (X : ip_X x G tab nL d cap cas own cc) {i k : Nat} {tx : String} (ho : own = RX3) (hk : k < 64) (hq : (i, tx, k) ∈ ip_strs) (hd : decode cc pc = .ok (.ldc i, 2)) : ip_ok x G nL pc (pc + 2) (oRef k) := by
  rintro ⟨L, st, M, n, cu, su⟩ K hK h H locs ls hR hS hl
  replace hR : ip_Rep G M n H := hR
  replace hl : ip_Loc G nL ls L := hl
  unfold oRef at h
  have hW := hK _ h H locs ls hR hS hl
  have hZ := X.2.2.2.2.2.2.1.2.2.2.2.2.2.1 _ hq
  refine va_ldcS X.1 X.2.1 X.2.2.2.1 (by rw [ho]; exact hZ) hd ?_
  refine W.eq (g2 := F0 x.2.2.2.2.2.1 (pc + 2) ls (ip_v G.2.1 G.2.2.1 (.ref k) :: st.map (ip_v G.2.1 G.2.2.1))) ?_ hW
  show F0 _ _ _ (_ :: _) = F0 _ _ _ (.ref (ip_ad G.2.1 G.2.2.1 k) :: _)
  rw [ip_ad_ex hk]
