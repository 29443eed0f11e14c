theorem ip_cellA {G : ip_Gl} {M : ip_M} {n : Nat} {H : Heap} (hR : ip_Rep G M n H) {a : Nat} {y : FieldType × vp_A} (e : M a = .inl y) : a < n := hR.lt (by rw [e]; exact ip_inl_ne)
theorem ip_ad_ex {z : Nat} {ex : Nat → Nat} {a : Nat} (h : a < 64) : ip_ad z ex a = ex a := by simp [ip_ad, h]
theorem ok_iald {x : ip_Cx} {G : ip_Gl} {tab : Nat → Option ip_En} {nL d cap cas : Nat} {own : String} {cc : ByteArray} {pc : Nat} (X : ip_X x G tab nL d cap cas own cc) (hd : decode cc pc = .ok (.iaload, 1)) : ip_ok x G nL pc (pc + 1) oAldI := by
  rintro ⟨L, st, M, n, cu, su⟩ K hK h H locs ls hR hS hl
  replace hR : ip_Rep G M n H := hR
  replace hl : ip_Loc G nL ls L := hl
  unfold oAldI at h
  dsimp only at h
  split at h
  · rename_i i a r
    split at h
    · rename_i N g hM
      obtain ⟨hv, h⟩ := h
      by_cases ha : a < 64
      · have hT := X.2.2.2.2.2.2.1.1 a .int N g ha (by rw [← hR.1 a ha]; exact hM)
        have hg : W x.1 x.2.1 x.2.2.1 x.2.2.2.1 x.2.2.2.2.1 x.2.2.2.2.2.1 x.2.2.2.2.2.2.1 x.2.2.2.2.2.2.2.1 x.2.2.2.2.2.2.2.2.1 x.2.2.2.2.2.2.2.2.2.1 H locs cu su x.2.2.2.2.2.2.2.2.2.2 (F0 x.2.2.2.2.2.1 pc ls (.int i :: .ref (G.2.2.1 a) :: r.map (ip_v G.2.1 G.2.2.1))) := va_ti X.1 X.2.1 hT hS hv rfl hd (hK _ h H locs ls hR hS hl)
        show W _ _ _ _ _ _ _ _ _ _ _ _ _ _ _ (F0 _ _ _ (.int i :: .ref (ip_ad G.2.1 G.2.2.1 a) :: _))
        rw [ip_ad_ex ha]
        exact hg
      · exact va_iald X.1 X.2.1 X.2.2.2.2.2.1 hR.2.2.2.2 (a - 64) 0 (cA := G.2.2.2.1 .int) (n := N) (f := g) (by rw [ip_ws_at (Nat.not_lt.mp ha) (ip_cellA hR hM), hM]; rfl) rfl hv hd (hK _ h H locs ls hR hS hl)
    · exact h.elim
  · exact h.elim
theorem ok_bald {x : ip_Cx} {G : ip_Gl} {tab : Nat → Option ip_En} {nL d cap cas : Nat} {own : String} {cc : ByteArray} {pc : Nat} (X : ip_X x G tab nL d cap cas own cc) (hd : decode cc pc = .ok (.baload, 1)) : ip_ok x G nL pc (pc + 1) oAldB := by
  rintro ⟨L, st, M, n, cu, su⟩ K hK h H locs ls hR hS hl
  replace hR : ip_Rep G M n H := hR
  replace hl : ip_Loc G nL ls L := hl
  unfold oAldB at h
  dsimp only at h
  split at h
  · rename_i i a r
    split at h
    · rename_i N g hM
      obtain ⟨hv, h⟩ := h
      by_cases ha : a < 64
      · have hT := X.2.2.2.2.2.2.1.1 a .byte N g ha (by rw [← hR.1 a ha]; exact hM)
        have hg : W x.1 x.2.1 x.2.2.1 x.2.2.2.1 x.2.2.2.2.1 x.2.2.2.2.2.1 x.2.2.2.2.2.2.1 x.2.2.2.2.2.2.2.1 x.2.2.2.2.2.2.2.2.1 x.2.2.2.2.2.2.2.2.2.1 H locs cu su x.2.2.2.2.2.2.2.2.2.2 (F0 x.2.2.2.2.2.1 pc ls (.int i :: .ref (G.2.2.1 a) :: r.map (ip_v G.2.1 G.2.2.1))) := va_tb X.1 X.2.1 hT hS hv rfl hd (hK _ h H locs ls hR hS hl)
        show W _ _ _ _ _ _ _ _ _ _ _ _ _ _ _ (F0 _ _ _ (.int i :: .ref (ip_ad G.2.1 G.2.2.1 a) :: _))
        rw [ip_ad_ex ha]
        exact hg
      · exact va_bald X.1 X.2.1 X.2.2.2.2.2.1 hR.2.2.2.2 (a - 64) 1 (cA := G.2.2.2.1 .byte) (n := N) (f := g) (by rw [ip_ws_at (Nat.not_lt.mp ha) (ip_cellA hR hM), hM]; rfl) rfl hv hd (hK _ h H locs ls hR hS hl)
    · exact h.elim
  · exact h.elim
theorem ok_lald {x : ip_Cx} {G : ip_Gl} {tab : Nat → Option ip_En} {nL d cap cas : Nat} {own : String} {cc : ByteArray} {pc : Nat} (X : ip_X x G tab nL d cap cas own cc) (hd : decode cc pc = .ok (.laload, 1)) : ip_ok x G nL pc (pc + 1) oAldL := by
  rintro ⟨L, st, M, n, cu, su⟩ K hK h H locs ls hR hS hl
  replace hR : ip_Rep G M n H := hR
  replace hl : ip_Loc G nL ls L := hl
  unfold oAldL at h
  dsimp only at h
  split at h
  · rename_i i a r
    split at h
    · rename_i N g hM
      obtain ⟨⟨h64, hv⟩, h⟩ := h
      exact va_lald X.1 X.2.1 X.2.2.2.2.2.1 hR.2.2.2.2 (a - 64) 2 (cA := G.2.2.2.1 .long) (n := N) (f := g) (by rw [ip_ws_at h64 (ip_cellA hR hM), hM]; rfl) rfl hv hd (hK _ h H locs ls hR hS hl)
    · exact h.elim
  · exact h.elim
theorem ip_rf_v {z : Nat} {ex : Nat → Nat} {r : Option Nat} : ip_v z ex (va_rf r) = va_rf (r.map (ip_ad z ex)) := by cases r <;> rfl
theorem ok_aald {x : ip_Cx} {G : ip_Gl} {tab : Nat → Option ip_En} {nL d cap cas : Nat} {own : String} {cc : ByteArray} {pc : Nat} (X : ip_X x G tab nL d cap cas own cc) (hd : decode cc pc = .ok (.aaload, 1)) : ip_ok x G nL pc (pc + 1) (oAldA) := by
  rintro ⟨L, st, M, n, cu, su⟩ K hK h H locs ls hR hS hl
  replace hR : ip_Rep G M n H := hR
  replace hl : ip_Loc G nL ls L := hl
  unfold oAldA at h
  dsimp only at h
  split at h
  · rename_i i a r
    split at h
    · rename_i C N g hM
      obtain ⟨⟨h64, hC, hv⟩, h⟩ := h
      subst hC
      refine va_aldq X.1 X.2.1 X.2.2.2.2.2.1 hR.2.2.2.2 (a - 64) 3 (cA := G.2.2.2.1 (.object RX2)) (C := RX2) (n := N) (f := fun i => (g i).map (ip_ad G.2.1 G.2.2.1)) (by rw [ip_ws_at h64 (ip_cellA hR hM), hM]; rfl) rfl hv hd ?_
      rw [← ip_rf_v]
      exact hK _ h H locs ls hR hS hl
    · exact h.elim
  · exact h.elim
theorem ok_len {x : ip_Cx} {G : ip_Gl} {tab : Nat → Option ip_En} {nL d cap cas : Nat} {own : String} {cc : ByteArray} {pc : Nat} (X : ip_X x G tab nL d cap cas own cc) (hd : decode cc pc = .ok (.arraylength, 1)) : ip_ok x G nL pc (pc + 1) oLen := by
  rintro ⟨L, st, M, n, cu, su⟩ K hK h H locs ls hR hS hl
  replace hR : ip_Rep G M n H := hR
  replace hl : ip_Loc G nL ls L := hl
  unfold oLen at h
  dsimp only at h
  split at h
  · rename_i a r
    split at h
    · rename_i ty N g hM
      obtain ⟨hty, h⟩ := h
      by_cases ha : a < 64
      · have hEX : G.2.2.2.2 a = .inl (ty, N, g) := by rw [← hR.1 a ha]; exact hM
        rcases X.2.2.2.2.2.2.2.1 a ha with ⟨ty', N', g', e⟩ | ⟨fs, e⟩ | e
        · rw [e] at hEX
          cases hEX
          have hT := X.2.2.2.2.2.2.1.1 a ty N g' ha e
          have hg : W x.1 x.2.1 x.2.2.1 x.2.2.2.1 x.2.2.2.2.1 x.2.2.2.2.2.1 x.2.2.2.2.2.2.1 x.2.2.2.2.2.2.2.1 x.2.2.2.2.2.2.2.2.1 x.2.2.2.2.2.2.2.2.2.1 H locs cu su x.2.2.2.2.2.2.2.2.2.2 (F0 x.2.2.2.2.2.1 pc ls (.ref (G.2.2.1 a) :: r.map (ip_v G.2.1 G.2.2.1))) := va_tlen X.1 X.2.1 hT hS rfl hd (hK _ h H locs ls hR hS hl)
          show W _ _ _ _ _ _ _ _ _ _ _ _ _ _ _ (F0 _ _ _ (.ref (ip_ad G.2.1 G.2.2.1 a) :: _))
          rw [ip_ad_ex ha]
          exact hg
        · rw [e] at hEX; cases hEX
        · rw [e] at hEX; unfold ip_none at hEX; cases hEX
      · have hlt := ip_cellA hR hM
        have hwA := ip_ws_at (z := G.2.1) (ex := G.2.2.1) (kA := G.2.2.2.1) (M := M) (Nat.not_lt.mp ha) hlt
        rw [hM] at hwA
        obtain ⟨t0, ht0⟩ : ∃ t0, (ip_tys G.2.2.2.1)[t0]? = some (G.2.2.2.1 ty, ty) := by
          rcases hty with rfl | rfl | rfl | rfl
          · exact ⟨0, rfl⟩
          · exact ⟨1, rfl⟩
          · exact ⟨2, rfl⟩
          · exact ⟨3, rfl⟩
        rcases g with g | g | g | g | g
        · exact va_alen X.1 X.2.1 X.2.2.2.2.2.1 hR.2.2.2.2 (a - 64) t0 (cA := G.2.2.2.1 ty) hwA ht0 rfl hd (hK _ h H locs ls hR hS hl)
        · exact va_alen X.1 X.2.1 X.2.2.2.2.2.1 hR.2.2.2.2 (a - 64) t0 (cA := G.2.2.2.1 ty) hwA ht0 rfl hd (hK _ h H locs ls hR hS hl)
        · exact va_alen X.1 X.2.1 X.2.2.2.2.2.1 hR.2.2.2.2 (a - 64) t0 (cA := G.2.2.2.1 ty) hwA ht0 rfl hd (hK _ h H locs ls hR hS hl)
        · exact va_alen X.1 X.2.1 X.2.2.2.2.2.1 hR.2.2.2.2 (a - 64) t0 (cA := G.2.2.2.1 ty) hwA ht0 rfl hd (hK _ h H locs ls hR hS hl)
        · exact va_alen X.1 X.2.1 X.2.2.2.2.2.1 hR.2.2.2.2 (a - 64) t0 (cA := G.2.2.2.1 ty) hwA ht0 rfl hd (hK _ h H locs ls hR hS hl)
    · exact h.elim
  · exact h.elim
theorem ok_iast {x : ip_Cx} {G : ip_Gl} {tab : Nat → Option ip_En} {nL d cap cas : Nat} {own : String} {cc : ByteArray} {pc : Nat} (X : ip_X x G tab nL d cap cas own cc) (hd : decode cc pc = .ok (.iastore, 1)) : ip_ok x G nL pc (pc + 1) oAstI := by
  rintro ⟨L, st, M, n, cu, su⟩ K hK h H locs ls hR hS hl
  replace hR : ip_Rep G M n H := hR
  replace hl : ip_Loc G nL ls L := hl
  unfold oAstI at h
  dsimp only at h
  split at h
  · rename_i y i a r
    split at h
    · rename_i N g hM
      obtain ⟨⟨h64, hv⟩, h⟩ := h
      have hlt := ip_cellA hR hM
      have he : (ip_ws G.2.1 G.2.2.1 G.2.2.2.1 M n)[a - 64]? = some (ip_ad G.2.1 G.2.2.1 a, .inl (G.2.2.2.1 .int, N, .inl g)) := by rw [ip_ws_at h64 hlt, hM]; rfl
      refine W.iast X.1 X.2.1 (hR.2.2.2.2 (a - 64) _ he) ((X.2.2.2.2.2.1.2 0 _ rfl).1 N (fun j => .int (g j))) (fun q => by cases q) (by show ¬ (i < 0 ∨ (arrV _ _ _).slots.size ≤ _); rw [arrV_size]; exact hv) rfl rfl hd fun H1 e1 e2 e3 => ?_
      refine hK _ h H1 _ ls (hR.set h64 hlt e2 (hR.2.2.2.2.set ip_D he ?_ e3)) (hS.put e2 e3 (ip_ad_in h64)) hl
      show H1[_]? = some (vp_cell _ _)
      rw [e1]
      rw [vp_cell_i, vp_cell_i, arrV_store]
      congr 2
      funext q
      by_cases hq : q = i.toNatClampNeg
      · subst hq
        simp [updV, upd]
        try rfl
      · simp [updV, upd, hq]
    · exact h.elim
  · exact h.elim
theorem ok_bast {x : ip_Cx} {G : ip_Gl} {tab : Nat → Option ip_En} {nL d cap cas : Nat} {own : String} {cc : ByteArray} {pc : Nat} (X : ip_X x G tab nL d cap cas own cc) (hd : decode cc pc = .ok (.bastore, 1)) : ip_ok x G nL pc (pc + 1) oAstB := by
  rintro ⟨L, st, M, n, cu, su⟩ K hK h H locs ls hR hS hl
  replace hR : ip_Rep G M n H := hR
  replace hl : ip_Loc G nL ls L := hl
  unfold oAstB at h
  dsimp only at h
  split at h
  · rename_i y i a r
    split at h
    · rename_i N g hM
      obtain ⟨⟨h64, hv⟩, h⟩ := h
      have hlt := ip_cellA hR hM
      have he : (ip_ws G.2.1 G.2.2.1 G.2.2.2.1 M n)[a - 64]? = some (ip_ad G.2.1 G.2.2.1 a, .inl (G.2.2.2.1 .byte, N, .inl g)) := by rw [ip_ws_at h64 hlt, hM]; rfl
      refine W.bast X.1 X.2.1 (hR.2.2.2.2 (a - 64) _ he) ((X.2.2.2.2.2.1.2 1 _ rfl).1 N (fun j => .int (g j))) (fun q => by cases q) (by show ¬ (i < 0 ∨ (arrV _ _ _).slots.size ≤ _); rw [arrV_size]; exact hv) rfl rfl hd fun H1 e1 e2 e3 => ?_
      refine hK _ h H1 _ ls (hR.set h64 hlt e2 (hR.2.2.2.2.set ip_D he ?_ e3)) (hS.put e2 e3 (ip_ad_in h64)) hl
      show H1[_]? = some (vp_cell _ _)
      rw [e1]
      rw [vp_cell_i, vp_cell_i, arrV_store]
      congr 2
      funext q
      by_cases hq : q = i.toNatClampNeg
      · subst hq
        simp [updV, upd, vp_nar]
        try rfl
      · simp [updV, upd, vp_nar, hq]
    · exact h.elim
  · exact h.elim
theorem ok_last {x : ip_Cx} {G : ip_Gl} {tab : Nat → Option ip_En} {nL d cap cas : Nat} {own : String} {cc : ByteArray} {pc : Nat} (X : ip_X x G tab nL d cap cas own cc) (hd : decode cc pc = .ok (.lastore, 1)) : ip_ok x G nL pc (pc + 1) oAstL := by
  rintro ⟨L, st, M, n, cu, su⟩ K hK h H locs ls hR hS hl
  replace hR : ip_Rep G M n H := hR
  replace hl : ip_Loc G nL ls L := hl
  unfold oAstL at h
  dsimp only at h
  split at h
  · rename_i y i a r
    split at h
    · rename_i N g hM
      obtain ⟨⟨h64, hv⟩, h⟩ := h
      have hlt := ip_cellA hR hM
      have he : (ip_ws G.2.1 G.2.2.1 G.2.2.2.1 M n)[a - 64]? = some (ip_ad G.2.1 G.2.2.1 a, .inl (G.2.2.2.1 .long, N, .inr (.inl g))) := by rw [ip_ws_at h64 hlt, hM]; rfl
      refine W.last X.1 X.2.1 (hR.2.2.2.2 (a - 64) _ he) ((X.2.2.2.2.2.1.2 2 _ rfl).1 N (fun j => .long (g j))) (fun q => by cases q) (by show ¬ (i < 0 ∨ (arrV _ _ _).slots.size ≤ _); rw [arrV_size]; exact hv) rfl rfl hd fun H1 e1 e2 e3 => ?_
      refine hK _ h H1 _ ls (hR.set h64 hlt e2 (hR.2.2.2.2.set ip_D he ?_ e3)) (hS.put e2 e3 (ip_ad_in h64)) hl
      show H1[_]? = some (vp_cell _ _)
      rw [e1]
      rw [vp_cell_l, vp_cell_l, arrV_store]
      congr 2
      funext q
      by_cases hq : q = i.toNatClampNeg
      · subst hq
        simp [updV, vp_updL]
        try rfl
      · simp [updV, vp_updL, hq]
    · exact h.elim
  · exact h.elim
theorem ok_aast {x : ip_Cx} {G : ip_Gl} {tab : Nat → Option ip_En} {nL d cap cas : Nat} {own : String} {cc : ByteArray} {pc : Nat} (X : ip_X x G tab nL d cap cas own cc) (hd : decode cc pc = .ok (.aastore, 1)) : ip_ok x G nL pc (pc + 1) oAstA := by
  rintro ⟨L, st, M, n, cu, su⟩ K hK h H locs ls hR hS hl
  replace hR : ip_Rep G M n H := hR
  replace hl : ip_Loc G nL ls L := hl
  unfold oAstA at h
  dsimp only at h
  split at h
  · rename_i v i a r
    split at h
    · rename_i C N g c fs hM hV
      obtain ⟨⟨h64, hv64, hv, hC, hc⟩, h⟩ := h
      subst hC
      subst hc
      have hlt := ip_cellA hR hM
      have he : (ip_ws G.2.1 G.2.2.1 G.2.2.2.1 M n)[a - 64]? = some (ip_ad G.2.1 G.2.2.1 a, .inl (G.2.2.2.1 (.object RX2), N, .inr (.inr (.inr (.inr (fun i => (g i).map (ip_ad G.2.1 G.2.2.1))))))) := by rw [ip_ws_at h64 hlt, hM]; rfl
      have hc2 : vwCl[2]? = some (RX2, TX2, 2) := rfl
      obtain ⟨-, hvlt, hve⟩ := ip_cellO hR X.2.2.2.2.2.2.2.1 hV hc2
      have hin : i.toNatClampNeg < N := Nat.not_le.mp fun q => hv (Or.inr q)
      have h0 : ¬ i < 0 := fun q => hv (Or.inl q)
      obtain ⟨r', hr', cellV, g1, g2, g3, -⟩ := hR.2.2.2.2 (v - 64) _ hve
      have hcls := (X.2.2.2.2.2.1.1 2 _ hc2).2
      obtain ⟨kA, comp, k1, k2, k3, -⟩ := (X.2.2.2.2.2.1.2 3 _ rfl).2
      have hcomp : comp = G.1.1 2 := Option.some.inj (k3.symm.trans hcls.1)
      subst hcomp
      obtain ⟨kC, hkC, -⟩ := hcls.2
      refine W.aast X.1 X.2.1 (hR.2.2.2.2 (a - 64) _ he) (fun q h => by cases h) (fun h => by cases h) k1 k2 rfl hkC ⟨h0, by show _ < (arrV _ _ _).slots.size; rw [arrV_size]; exact hin⟩ g1 (fun q h => by rw [g3] at h; cases h) (by rw [g2]; exact hkC) (by rw [g2]; exact va_assign hcls) rfl rfl hd fun H1 e1 e2 e3 => ?_
      refine hK _ h H1 _ ls (hR.set h64 hlt e2 (hR.2.2.2.2.set ip_D he ?_ e3)) (hS.put e2 e3 (ip_ad_in h64)) hl
      show H1[_]? = some (vp_cell _ _)
      rw [e1]
      rw [vp_cell_q, vp_cell_q, arrV_store]
      congr 2
      funext q
      by_cases hq : q = i.toNatClampNeg
      · subst hq
        simp [updV, va_up, va_rf]
      · simp [updV, va_up, hq]
    · exact h.elim
  · rename_i i a r
    split at h
    · rename_i C N g hM
      obtain ⟨⟨h64, hC, hv⟩, h⟩ := h
      subst hC
      have hlt := ip_cellA hR hM
      have he : (ip_ws G.2.1 G.2.2.1 G.2.2.2.1 M n)[a - 64]? = some (ip_ad G.2.1 G.2.2.1 a, .inl (G.2.2.2.1 (.object RX2), N, .inr (.inr (.inr (.inr (fun i => (g i).map (ip_ad G.2.1 G.2.2.1))))))) := by rw [ip_ws_at h64 hlt, hM]; rfl
      refine va_WaastN (C := RX2) X.1 X.2.1 (hR.2.2.2.2 (a - 64) _ he) ((X.2.2.2.2.2.1.2 3 _ rfl).1 N (fun j => va_rf ((g j).map (ip_ad G.2.1 G.2.2.1)))) (fun h => by cases h) (by show ¬ (i < 0 ∨ (arrV _ _ _).slots.size ≤ _); rw [arrV_size]; exact hv) rfl rfl hd fun H1 e1 e2 e3 => ?_
      refine hK _ h H1 _ ls (hR.set h64 hlt e2 (hR.2.2.2.2.set ip_D he ?_ e3)) (hS.put e2 e3 (ip_ad_in h64)) hl
      show H1[_]? = some (vp_cell _ _)
      rw [e1]
      rw [vp_cell_q, vp_cell_q, arrV_store]
      congr 2
      funext q
      by_cases hq : q = i.toNatClampNeg
      · subst hq
        simp [updV, va_up, va_rf]
      · simp [updV, va_up, hq]
    · exact h.elim
  · exact h.elim
theorem ip_copied {c0 c1 : ClassId} {n0 n1 : Nat} {f g : Nat → Int32} {sp dp k : Int32} (h : sp.toNatClampNeg + k.toNatClampNeg ≤ n0) : copied (vp_cell c0 (n0, .inl f)) (vp_cell c1 (n1, .inl g)) sp dp k = vp_cell c1 (n1, .inl (va_cpy f g sp.toNatClampNeg dp.toNatClampNeg k.toNatClampNeg)) := va_copied (fun z => .int z) c0 c1 f g h
