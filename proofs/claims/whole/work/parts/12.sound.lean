/-- a method's rows are right, whoever calls it -/
def ip_MOk (tab : Nat → Option ip_En) (e : ip_En) (pcs : Nat → Nat) : Prop :=
  ∀ (x : ip_Cx) (G : ip_Gl) (d : Nat), ip_X x G tab e.2.2.1 d e.2.2.2.2.1 e.2.2.2.2.2.1 e.1.cls e.2.1 → x.2.2.2.2.2.2.2.2.1.sig.returnType = e.2.2.2.1 → x.2.2.2.2.2.2.2.2.1.name = e.1.name → ip_okL x G e.2.2.1 pcs 0 (e.2.2.2.2.2.2 (ip_call tab d))
def ip_TOk (tab : Nat → Option ip_En) : Prop := ∀ (k : Nat) (e : ip_En), tab k = some e → plainName e.1.cls = true ∧ ∃ pcs, pcs 0 = 0 ∧ ip_MOk tab e pcs
theorem ip_sound {tab : Nat → Option ip_En} (hT : ip_TOk tab) (l : Launch) {G : ip_Gl} (hEX : ip_EXok G.2.2.2.2) : ∀ d, ip_Snd l G tab d := by
  intro d
  induction d with
  | zero =>
    intro k e ht vs M n Φ h
    exact h.elim
  | succ d ih =>
    intro k e ht vs M n Φ h
    unfold ip_call at h
    rw [ht] at h
    obtain ⟨hlen, hEv⟩ := h
    obtain ⟨hpl, pcs, hp0, hok⟩ := hT k e ht
    refine Met.ofW (cc := e.2.1) (maxL := e.2.2.1) (ret := e.2.2.2.1) hpl rfl ?_
    intro p en s m args below meth c s₁ B hml hv
    obtain ⟨rfl, hRep, hK, hExt⟩ := hv
    have hts := atoms_spec (ws := ip_cw e :: ip_Ts) B.pre
    have X : ip_X (p, l, en, ip_rm (d + 1) e.2.2.2.2.1 e.2.2.2.2.2.1, s, m, (vs.map (ip_v G.2.1 G.2.2.1)).toArray, below, meth, c, MQ below (ip_Qc G Φ) (vs.map (ip_v G.2.1 G.2.2.1)).toArray s e.2.2.2.2.1 e.2.2.2.2.2.1 (ip_A G.2.1)) G tab e.2.2.1 d e.2.2.2.2.1 e.2.2.2.2.2.1 e.1.cls e.2.1 :=
      ⟨B.exec, B.bytes, hml, findClass_of_methodNamed B.named, fun w hw => hts w (List.mem_cons_of_mem _ hw), hK, hExt, hEX, by rw [hRep.2.2.2.1]; omega, B.notSynchronized, rfl, rfl, by show d + 2 ≤ d + 1 + 1; omega, by show 64 * d + 192 ≤ 64 * (d + 1) + 128; omega, ih⟩
    have hL := hok _ G d X B.returns (name_of_methodNamed B.named B.method).1
    have hW := ip_Ev.sound (Φ := Φ) hL rfl hEv
    rw [hp0] at hW
    rw [lg_entry_eq]
    exact hW s.heap [] _ hRep va_S.rf (ip_Loc.entry hlen)
