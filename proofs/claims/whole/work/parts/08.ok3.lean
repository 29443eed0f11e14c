theorem ip_own {EX : ip_M} (h : ip_EXok EX) {a ci : Nat} {fs : List Value} {q : vw_C} (ha : a < 64) (e : EX a = .inr (ci, fs)) (hc : vwCl[ci]? = some q) : False := by
  rcases h a ha with ⟨ty, n, g, h⟩ | ⟨fs', h⟩ | h
  · rw [h] at e; cases e
  · rw [h] at e
    cases e
    simp [vwCl] at hc
  · rw [h] at e
    unfold ip_none at e
    cases e
    simp [vwCl] at hc
theorem ip_cellO {G : ip_Gl} {M : ip_M} {n : Nat} {H : Heap} (hR : ip_Rep G M n H) (hX : ip_EXok G.2.2.2.2) {a ci : Nat} {fs : List Value} {q : vw_C} (e : M a = .inr (ci, fs)) (hc : vwCl[ci]? = some q) : 64 ≤ a ∧ a < n ∧ (ip_ws G.2.1 G.2.2.1 G.2.2.2.1 M n)[a - 64]? = some (ip_ad G.2.1 G.2.2.1 a, .inr (ci, fs.map (ip_v G.2.1 G.2.2.1))) := by
  have h1 : 64 ≤ a := Nat.not_lt.mp fun hlt => ip_own hX hlt (by rw [← hR.1 a hlt]; exact e) hc
  have h2 : a < n := hR.lt (by
    rw [e]
    intro h
    unfold ip_none at h
    cases h
    simp [vwCl] at hc)
  refine ⟨h1, h2, ?_⟩
  rw [ip_ws_at h1 h2, e]
  rfl
theorem ip_inl_ne {y : FieldType × vp_A} : (Sum.inl y : ip_C) ≠ ip_none := fun h => by unfold ip_none at h; cases h
theorem ok_get {x : ip_Cx} {G : ip_Gl} {tab : Nat → Option ip_En} {nL d cap cas : Nat} {own : String} {cc : ByteArray} {pc : Nat} (X : ip_X x G tab nL d cap cas own cc) {ci k i N : Nat} {C : String} {T : u_T} (hc : vwCl[ci]? = some (C, T, N)) (hk : k < N) (hin : ∀ w ∈ u_ws C T N, w ∈ ip_Ts) (hw : Cond.fieldLink own i (T k).1 (T k).2.1 (T k).2.2.1 ∈ ip_Ts) (hd : decode cc pc = .ok (.getfield i, 3)) : ip_ok x G nL pc (pc + 3) (oGet ci k) := by
  rintro ⟨L, st, M, n, cu, su⟩ K hK h H locs ls hR hS hl
  replace hR : ip_Rep G M n H := hR
  replace hl : ip_Loc G nL ls L := hl
  unfold oGet at h
  dsimp only at h
  split at h
  · rename_i a r
    split at h
    · rename_i c fs hM
      obtain ⟨rfl, h⟩ := h
      split at h
      · rename_i v hv
        obtain ⟨h1, h2, he⟩ := ip_cellO hR X.2.2.2.2.2.2.2.1 hM hc
        exact va_get X.1 X.2.1 X.2.2.2.2.1 hin X.2.2.2.1 X.2.2.2.2.2.1 hR.2.2.2.2 (a - 64) he hc k hk (X.2.2.2.2.1 _ hw) (fun _ q => q) (v := ip_v G.2.1 G.2.2.1 v) (by rw [List.getElem?_map, hv]; rfl) hd (hK _ h H locs ls hR hS hl)
      · exact h.elim
    · exact h.elim
  · exact h.elim
/-- a text's own fields: 0 value, 1 coder -/
theorem ok_getS {x : ip_Cx} {G : ip_Gl} {tab : Nat → Option ip_En} {nL d cap cas : Nat} {own : String} {cc : ByteArray} {pc : Nat} (X : ip_X x G tab nL d cap cas own cc) {k i : Nat} {nm ds : String} (hk : (k = 0 ∧ nm = "value" ∧ ds = "[B") ∨ (k = 1 ∧ nm = "coder" ∧ ds = "B")) (hw : Cond.fieldLink own i "java/lang/String" nm ds ∈ ip_Ts) (hd : decode cc pc = .ok (.getfield i, 3)) : ip_ok x G nL pc (pc + 3) (oGet 7 k) := by
  rintro ⟨L, st, M, n, cu, su⟩ K hK h H locs ls hR hS hl
  replace hR : ip_Rep G M n H := hR
  replace hl : ip_Loc G nL ls L := hl
  unfold oGet at h
  dsimp only at h
  split at h
  · rename_i a r
    split at h
    · rename_i c fs hM
      obtain ⟨rfl, h⟩ := h
      split at h
      · rename_i v hv
        have ha : a < 64 := by
          apply Nat.not_le.mp
          intro h1
          have h2 : a < n := hR.lt (by rw [hM]; intro q; unfold ip_none at q; cases q)
          obtain ⟨q, hq, -⟩ := hR.2.2.2.2 (a - 64) _ (by rw [ip_ws_at h1 h2, hM])
          simp [vwCl] at hq
        obtain ⟨w, rfl, e1, e2, e3⟩ := X.2.2.2.2.2.2.1.2.1 a fs ha (by rw [← hR.1 a ha]; exact hM)
        have hg : W x.1 x.2.1 x.2.2.1 x.2.2.2.1 x.2.2.2.2.1 x.2.2.2.2.2.1 x.2.2.2.2.2.2.1 x.2.2.2.2.2.2.2.1 x.2.2.2.2.2.2.2.2.1 x.2.2.2.2.2.2.2.2.2.1 H locs cu su x.2.2.2.2.2.2.2.2.2.2 (F0 x.2.2.2.2.2.1 pc ls (.ref (G.2.2.1 a) :: r.map (ip_v G.2.1 G.2.2.1))) := by
          rcases hk with ⟨rfl, rfl, rfl⟩ | ⟨rfl, rfl, rfl⟩
          · simp at hv
            subst hv
            exact vk_getf X.1 X.2.1 e3 hS X.2.2.2.1 (X.2.2.2.2.1 _ hw) (fun _ q => q) hd (hK _ h H locs ls hR hS hl)
          · simp at hv
            subst hv
            exact vk_getf X.1 X.2.1 e2 hS X.2.2.2.1 (X.2.2.2.2.1 _ hw) (fun _ q => q) hd (hK _ h H locs ls hR hS hl)
        have ee : ip_v G.2.1 G.2.2.1 (.ref a) = .ref (G.2.2.1 a) := by simp [ip_v, ip_ad, ha]
        show W _ _ _ _ _ _ _ _ _ _ _ _ _ _ _ (F0 _ _ _ (ip_v G.2.1 G.2.2.1 (.ref a) :: _))
        rw [ee]
        exact hg
      · exact h.elim
    · exact h.elim
  · exact h.elim
theorem ip_fit_ok {ty : FieldType} {v : Value} (z : Nat) (ex : Nat → Nat) (h : ip_fit ty v) : narrow ty (ip_v z ex v) = ip_v z ex v ∧ fits ty (ip_v z ex v) = true := by
  unfold ip_fit at h
  split at h
  · exact ⟨rfl, rfl⟩
  · exact ⟨rfl, rfl⟩
  · rcases h with rfl | rfl
    · show narrow .boolean (.int 0) = .int 0 ∧ fits .boolean (.int 0) = true
      exact ⟨by decide, by decide⟩
    · show narrow .boolean (.int 1) = .int 1 ∧ fits .boolean (.int 1) = true
      exact ⟨by decide, by decide⟩
  · exact ⟨rfl, rfl⟩
  · exact ⟨rfl, rfl⟩
  · exact ⟨rfl, rfl⟩
  · exact ⟨rfl, rfl⟩
  · exact h.elim
theorem ip_ad_in {G : ip_Gl} {a : Nat} (h : 64 ≤ a) : ip_A G.2.1 (ip_ad G.2.1 G.2.2.1 a) := by
  show G.2.1 ≤ _
  rw [ip_ad_new h]
  omega
theorem ok_put {x : ip_Cx} {G : ip_Gl} {tab : Nat → Option ip_En} {nL d cap cas : Nat} {own : String} {cc : ByteArray} {pc : Nat} (X : ip_X x G tab nL d cap cas own cc) {ci k i N : Nat} {C : String} {T : u_T} {ty : FieldType} {ty0 : Nat → FieldType} (hc : vwCl[ci]? = some (C, T, N)) (hk : k < N) (hin : ∀ w ∈ u_ws C T N, w ∈ ip_Ts) (hty : ∀ k, k < N → parseFieldDescriptor (T k).2.2.1 = some (ty0 k)) (hnm : ∀ a, a < N → ∀ b, b < N → a ≠ b → (T a).2.1 ≠ (T b).2.1) (hte : ty0 k = ty)
    (hfin : (T k).2.2.2 = false ∨ ((T k).2.2.2 = true ∧ x.2.2.2.2.2.2.2.2.1.name = "<init>" ∧ (T k).1 = own)) (hw : Cond.fieldLink own i (T k).1 (T k).2.1 (T k).2.2.1 ∈ ip_Ts) (hd : decode cc pc = .ok (.putfield i, 3)) : ip_ok x G nL pc (pc + 3) (oPut ci k ty) := by
  rintro ⟨L, st, M, n, cu, su⟩ K hK h H locs ls hR hS hl
  replace hR : ip_Rep G M n H := hR
  replace hl : ip_Loc G nL ls L := hl
  unfold oPut at h
  dsimp only at h
  split at h
  · rename_i v a r
    split at h
    · rename_i c fs hM
      obtain ⟨⟨rfl, h64, hlen, hf⟩, h⟩ := h
      obtain ⟨-, h2, he⟩ := ip_cellO hR X.2.2.2.2.2.2.2.1 hM hc
      have hts := X.2.2.2.2.1
      have hKK := X.2.2.2.2.2.1
      have hP := hR.2.2.2.2
      have hd1 : parseFieldDescriptor (T k).2.2.1 = some ty := by rw [hty k hk, hte]
      obtain ⟨hn, hfit⟩ := ip_fit_ok G.2.1 G.2.2.1 hf
      have hap := va_apart (own := own) hts hin ty0 hty hnm hKK hc
      obtain ⟨q, g1, cell, q1, q2, q3, q4⟩ := hP (a - 64) _ he
      have hr : q = (C, T, N) := Option.some.inj (g1.symm.trans hc)
      subst hr
      obtain ⟨hSl, hfc, kC, hkC, hkind⟩ := hKK.1 c _ hc
      obtain ⟨cf, kf, fi, f, hi, hsl⟩ := hSl k hk
      have hlay := hts _ (hin _ (u_in_lay hk))
      unfold u_lay at hlay
      have hst := (u_facts hfc hkC (u_lays hts hin hk) hi).1
      have fin : ∀ H' : Heap, H'[ip_ad G.2.1 G.2.2.1 a]? = some (cell.setSlot f.slot (ip_v G.2.1 G.2.2.1 v)) → H'.size = H.size → (∀ q, q ≠ ip_ad G.2.1 G.2.2.1 a → H'[q]? = H[q]?) → W x.1 x.2.1 x.2.2.1 x.2.2.2.1 x.2.2.2.2.1 x.2.2.2.2.2.1 x.2.2.2.2.2.2.1 x.2.2.2.2.2.2.2.1 x.2.2.2.2.2.2.2.2.1 x.2.2.2.2.2.2.2.2.2.1 H' (locs ++ [⟨ip_ad G.2.1 G.2.2.1 a, f.slot⟩]) cu su x.2.2.2.2.2.2.2.2.2.2 (F0 x.2.2.2.2.2.1 (pc + 3) ls (r.map (ip_v G.2.1 G.2.2.1))) := by
        intro H' e1 e2 e3
        rw [hsl] at e1
        have hp2 := hP.set (H1 := H') (e := .inr (c, (fs.map (ip_v G.2.1 G.2.2.1)).set k (ip_v G.2.1 G.2.2.1 v))) ip_D he ⟨_, hc, t_OB.to (V := updV (vp_V (fs.map (ip_v G.2.1 G.2.2.1))) k (ip_v G.2.1 G.2.2.1 v)) ⟨_, e1, q2, q3, t_set q4 hap hk _⟩ (fun j _ => vp_updV_set (by rw [List.length_map]; exact hlen) _ j)⟩ e3
        refine hK _ h H' _ ls (hR.set h64 h2 e2 ?_) (hS.put e2 e3 (ip_ad_in h64)) hl
        show va_P G.1 vwCl ((ip_ws _ _ _ M n).set (a - 64) (_, .inr (c, (fs.set k v).map (ip_v G.2.1 G.2.2.1)))) H'
        rw [List.map_set]
        exact hp2
      rcases hfin with hfin | ⟨hfin, hin2, hdecl⟩
      · rw [if_neg (by rw [hfin]; decide)] at hlay
        have h6 := u_store hfc hkC hkind hlay hi hd1 hn hfit
        exact W.putK X.1 X.2.1 (f := f) ⟨X.2.2.2.1, hts _ hw, ⟨_, _, _, hi⟩, hst⟩ (by rw [q2]; exact h6) q1 q3 (by rw [hsl]; exact k2_hasslot (q4 k hk)) rfl rfl hd fin
      · rw [if_pos hfin] at hlay
        have hcf : x.2.2.2.2.2.1.cls = cf := by
          obtain ⟨_, _, c', _, _, _, -, -, hf', -, -, -, hown2, -⟩ := Cond.laysFinal_spec hlay
          have e1 : c' = cf := by have := hi.symm.trans hf'; simp at this; exact this.1.symm
          rw [hdecl] at hown2
          rw [← e1]; exact Option.some.inj (X.2.2.2.1.symm.trans hown2)
        have h6 := u_fits hfc hkC hkind (Or.inr hlay) hi hd1 hn hfit
        exact W.putFinK X.1 X.2.1 X.2.2.2.1 (hts _ hw) hi hst hcf hin2 (by rw [q2]; exact h6) q1 q3 (by rw [hsl]; exact k2_hasslot (q4 k hk)) rfl rfl hd fin
    · exact h.elim
  · exact h.elim
