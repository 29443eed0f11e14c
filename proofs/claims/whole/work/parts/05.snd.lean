abbrev ip_Cx : Type := Program × Launch × Env × Room × State × MethodId × Array Value × List Frame × Method × Code × (State → Prop)
abbrev ip_Gl : Type := va_G × Nat × (Nat → Nat) × (FieldType → ClassId) × ip_M
abbrev ip_En : Type := MethodName × ByteArray × Nat × Option FieldType × Nat × Nat × (ip_Cl → List ip_B)
/-- the cells that are ours: from z on -/
def ip_A (z : Nat) : Nat → Prop := fun q => z ≤ q
def ip_ad (z : Nat) (ex : Nat → Nat) (k : Nat) : Nat := if k < 64 then ex k else z + (k - 64)
def ip_v (z : Nat) (ex : Nat → Nat) : Value → Value
  | .ref k => .ref (ip_ad z ex k)
  | v => v
def ip_E (z : Nat) (ex : Nat → Nat) (kA : FieldType → ClassId) : ip_C → va_E
  | .inl (ty, n, .inr (.inr (.inr (.inr f)))) => .inl (kA ty, n, .inr (.inr (.inr (.inr (fun i => (f i).map (ip_ad z ex))))))
  | .inl (ty, n, .inr (.inr (.inr (.inl f)))) => .inl (kA ty, n, .inr (.inr (.inr (.inl f))))
  | .inl (ty, n, .inr (.inr (.inl f))) => .inl (kA ty, n, .inr (.inr (.inl f)))
  | .inl (ty, n, .inr (.inl f)) => .inl (kA ty, n, .inr (.inl f))
  | .inl (ty, n, .inl f) => .inl (kA ty, n, .inl f)
  | .inr (ci, fs) => .inr (ci, fs.map (ip_v z ex))
def ip_ws (z : Nat) (ex : Nat → Nat) (kA : FieldType → ClassId) (M : ip_M) (n : Nat) : va_W := (List.range (n - 64)).map (fun i => (z + i, ip_E z ex kA (M (64 + i))))
def ip_none : ip_C := .inr (99, [])
def ip_Rep (G : ip_Gl) (M : ip_M) (n : Nat) (H : Heap) : Prop :=
  (∀ k, k < 64 → M k = G.2.2.2.2 k) ∧ (∀ k, n ≤ k → M k = ip_none) ∧ 64 ≤ n ∧ H.size = G.2.1 + (n - 64) ∧ va_P G.1 vwCl (ip_ws G.2.1 G.2.2.1 G.2.2.2.1 M n) H
def ip_Loc (G : ip_Gl) (nL : Nat) (ls : Array Slot) (L : List (Option Value)) : Prop :=
  ls.size = nL ∧ lv_wf ls ∧ L.length = nL ∧ ∀ (i : Nat) (v : Value), L[i]? = some (some v) → ls[i]? = some (.val (ip_v G.2.1 G.2.2.1 v))
abbrev ip_tys (kA : FieldType → ClassId) : List (ClassId × FieldType) := [(kA .int, .int), (kA .byte, .byte), (kA .long, .long), (kA (.object RX2), .object RX2)]
def ip_stat : List (String × String × String × Value) := [(RX5, "FIRST_LAWS", "[I", .ref 1), (RX5, "HIGHEST_LAWS", "[I", .ref 2), (RX5, "KIND_ABOVE", "[I", .ref 3), (RX5, "BODIES", "[I", .ref 4), (RJ0, "COMPACT_STRINGS", "Z", .int 1)]
def ip_nesM : List (String × Nat × MethodName) := [(RX5, 28, yX4_init), (RX5, 35, yX3_init), (RX5, 42, yX0_init), (RX4, 49, yX5_hasBit), (RX1, 64, yX5_rightOf), (RX1, 82, yX5_withBit), (RX1, 94, yX5_hasBit), (RX0, 43, yX5_within)]
def ip_nesF : List (String × Nat × String × String) := [(RX1, 37, "FIRST_LAWS", "[I"), (RX3, 59, "HIGHEST_LAWS", "[I"), (RX0, 40, "BODIES", "[I")]
def ip_strs : List (Nat × String × Nat) := [(124, "walker", 5), (126, "clown", 6), (128, "child", 7), (130, "jester", 8), (132, "saint", 9), (134, "thinker", 10), (136, "plank", 11), (138, "but", 12), (140, "wit", 13), (142, "doubt", 14), (83, "weight", 15), (91, "at", 16), (96, "says", 17), (101, "denies", 18), (65, "fact", 19)]
/-- what was there before: tables, texts, statics, and the nest's words -/
def ip_Ext (G : ip_Gl) (U : State) : Prop :=
  (∀ (k : Nat) (ty : FieldType) (n : Nat) (g : Nat → Int32), k < 64 → G.2.2.2.2 k = .inl (ty, n, .inl g) → va_T ty (G.2.2.1 k) n (fun j => .int (g j)) (ip_A G.2.1) U U.heap) ∧
  (∀ (k : Nat) (fs : List Value), k < 64 → G.2.2.2.2 k = .inr (7, fs) → ∃ v, fs = [.ref v, .int 0] ∧ va_O "java/lang/String" (G.2.2.1 k) (ip_A G.2.1) U U.heap ∧ va_OF "java/lang/String" "coder" "B" (.int 0) (G.2.2.1 k) (ip_A G.2.1) U U.heap ∧ va_OF "java/lang/String" "value" "[B" (.ref (ip_ad G.2.1 G.2.2.1 v)) (G.2.2.1 k) (ip_A G.2.1) U U.heap) ∧
  (∀ q ∈ ip_stat, va_Z q.1 q.2.1 q.2.2.1 (ip_v G.2.1 G.2.2.1 q.2.2.2) (ip_A G.2.1) U U.heap) ∧
  (va_Z RJ3 "SIOOBE_FORMATTER" "Ljava/util/function/BiFunction;" .null (ip_A G.2.1) U U.heap ∨ va_Z RJ3 "SIOOBE_FORMATTER" "Ljava/util/function/BiFunction;" (.ref (G.2.2.1 60)) (ip_A G.2.1) U U.heap) ∧
  (∀ q ∈ ip_nesM, va_Nw (.methodLinkNest q.1 q.2.1 q.2.2 RX5) U) ∧ (∀ q ∈ ip_nesF, va_Nw (.fieldLinkNest q.1 q.2.1 RX5 q.2.2.1 q.2.2.2 RX5) U) ∧
  (∀ q ∈ ip_strs, vk_R RX3 q.1 q.2.1 (G.2.2.1 q.2.2) U) ∧ va_AO RX2 U
/-- the outer numbers: arrays of ints, texts, or nothing -/
def ip_EXok (EX : ip_M) : Prop := ∀ k, k < 64 → (∃ ty n g, EX k = .inl (ty, n, .inl g)) ∨ (∃ fs, EX k = .inr (7, fs)) ∨ EX k = ip_none
theorem ip_Ext.move {G : ip_Gl} {s U : State} {H : Heap} {locs : List Loc} (h : ip_Ext G s) (hS : va_S (ip_A G.2.1) s.heap H locs) (hU : U.heap = H) (hW : s.WarmedH U.vm) : ip_Ext G U := by
  obtain ⟨h1, h2, h3, h4, h5, h6, h7, h8⟩ := h
  subst hU
  refine ⟨fun k ty n g hk e => ((h1 k ty n g hk e).moved hW.alike).kept hS.2.1, fun k fs hk e => ?_, fun q hq => ((h3 q hq).moved hW.alike).kept hS.2.1, ?_, fun q hq => (h5 q hq).warmM hW, fun q hq => (h6 q hq).warmF hW, fun q hq => (h7 q hq).warm hW, h8.moved hW.alike⟩
  · obtain ⟨v, a1, a2, a3, a4⟩ := h2 k fs hk e
    exact ⟨v, a1, (a2.moved hW.alike).kept hS.2.1, (a3.moved hW.alike).kept hS.2.1, (a4.moved hW.alike).kept hS.2.1⟩
  · rcases h4 with h | h
    · exact Or.inl ((h.moved hW.alike).kept hS.2.1)
    · exact Or.inr ((h.moved hW.alike).kept hS.2.1)
def ip_call (tab : Nat → Option ip_En) : Nat → ip_Cl
  | 0 => fun _ _ _ _ _ => False
  | d + 1 => fun k vs M n Φ => match tab k with
    | some e => (ip_loc vs).length ≤ e.2.2.1 ∧ ip_Ev (e.2.2.2.2.2.2 (ip_call tab d)) Φ 0 (ip_ent e.2.2.1 vs, [], M, n, 0, 0)
    | none => False
def ip_rm (d mc ms : Nat) : Room := { frames := d + 1, cells := mc, slots := ms, locals := 64 * d + 128 }
def ip_cw (e : ip_En) : Cond := Cond.code e.1 e.2.1 e.2.2.1 e.2.2.2.1
def ip_Pc (G : ip_Gl) (vs : List Value) (M : ip_M) (n : Nat) : Array Value → State → Prop :=
  va_Pc (vs.map (ip_v G.2.1 G.2.2.1)) (fun U => ip_Rep G M n U.heap ∧ va_K G.1 vwCl (ip_tys G.2.2.2.1) U ∧ ip_Ext G U)
def ip_Qc (G : ip_Gl) (Φ : ip_P) : Array Value → State → Outcome → State → Prop := fun _ st o t =>
  ∃ (v : Option Value) (M : ip_M) (n : Nat), o = .returned (v.map (ip_v G.2.1 G.2.2.1)) ∧ Φ v M n ∧ ip_Rep G M n t.heap ∧ va_F (ip_A G.2.1) st t
def ip_Snd (l : Launch) (G : ip_Gl) (tab : Nat → Option ip_En) (d : Nat) : Prop :=
  ∀ (k : Nat) (e : ip_En), tab k = some e → ∀ (vs : List Value) (M : ip_M) (n : Nat) (Φ : ip_P), ip_call tab d k vs M n Φ →
    Met l e.1 (ip_cw e :: ip_Ts) (ip_rm d e.2.2.2.2.1 e.2.2.2.2.2.1) (ip_Pc G vs M n) (ip_Qc G Φ) e.2.2.2.2.1 e.2.2.2.2.2.1 (ip_A G.2.1)
/-- what holds all along a method's body -/
def ip_X (x : ip_Cx) (G : ip_Gl) (tab : Nat → Option ip_En) (nL d cap cas : Nat) (own : String) (cc : ByteArray) : Prop :=
  x.1.tables.exec = Jvm.exec ∧ x.2.2.2.2.2.2.2.2.2.1.code = cc ∧ x.2.2.2.2.2.2.2.2.2.1.maxLocals = nL ∧ x.2.2.2.2.1.vm.findClass own = some x.2.2.2.2.2.1.cls ∧
  (∀ w ∈ ip_Ts, w.before x.2.2.2.2.2.2.1 x.2.2.2.2.1 = true) ∧ va_K G.1 vwCl (ip_tys G.2.2.2.1) x.2.2.2.2.1 ∧ ip_Ext G x.2.2.2.2.1 ∧ ip_EXok G.2.2.2.2 ∧ G.2.1 ≤ x.2.2.2.2.1.heap.size ∧ x.2.2.2.2.2.2.2.2.1.locks = false ∧
  x.2.2.2.1.cells = cap ∧ x.2.2.2.1.slots = cas ∧ d + 2 ≤ x.2.2.2.1.frames ∧ 64 * d + 192 ≤ x.2.2.2.1.locals ∧ ip_Snd x.2.1 G tab d
def ip_W (x : ip_Cx) (G : ip_Gl) (nL pc : Nat) (f : ip_F) : Prop :=
  ∀ (H : Heap) (locs : List Loc) (ls : Array Slot), ip_Rep G f.2.2.1 f.2.2.2.1 H → va_S (ip_A G.2.1) x.2.2.2.2.1.heap H locs → ip_Loc G nL ls f.1 →
    W x.1 x.2.1 x.2.2.1 x.2.2.2.1 x.2.2.2.2.1 x.2.2.2.2.2.1 x.2.2.2.2.2.2.1 x.2.2.2.2.2.2.2.1 x.2.2.2.2.2.2.2.2.1 x.2.2.2.2.2.2.2.2.2.1 H locs f.2.2.2.2.1 f.2.2.2.2.2 x.2.2.2.2.2.2.2.2.2.2 (F0 x.2.2.2.2.2.1 pc ls (f.2.1.map (ip_v G.2.1 G.2.2.1)))
def ip_ok (x : ip_Cx) (G : ip_Gl) (nL pc pc' : Nat) (o : ip_Op) : Prop := ∀ (f : ip_F) (K : ip_F → Prop), (∀ f', K f' → ip_W x G nL pc' f') → o f K → ip_W x G nL pc f
def ip_okS (x : ip_Cx) (G : ip_Gl) (nL pc pc' : Nat) (os : List ip_Op) : Prop := ∀ (f : ip_F) (K : ip_F → Prop), (∀ f', K f' → ip_W x G nL pc' f') → ip_ops os f K → ip_W x G nL pc f
theorem okN {x : ip_Cx} {G : ip_Gl} {nL pc : Nat} : ip_okS x G nL pc pc [] := fun _ _ hK h => hK _ h
theorem okC {x : ip_Cx} {G : ip_Gl} {nL pc pc1 pc2 : Nat} {o : ip_Op} {os : List ip_Op} (h1 : ip_ok x G nL pc pc1 o) (h2 : ip_okS x G nL pc1 pc2 os) : ip_okS x G nL pc pc2 (o :: os) := fun f K hK h => h1 f _ (fun f' hf => h2 f' K hK hf) h
/-- what the method's end must say -/
def ip_End (x : ip_Cx) (G : ip_Gl) (Φ : ip_P) (mc ms : Nat) : Prop := x.2.2.2.2.2.2.2.2.2.2 = MQ x.2.2.2.2.2.2.2.1 (ip_Qc G Φ) x.2.2.2.2.2.2.1 x.2.2.2.2.1 mc ms (ip_A G.2.1)
def ip_okT (x : ip_Cx) (G : ip_Gl) (nL pc : Nat) (pcs : Nat → Nat) (t : ip_Tm) : Prop := ∀ (f : ip_F) (S : Nat → ip_F → Prop) (Φ : ip_P), (∀ i f', S i f' → ip_W x G nL (pcs i) f') → ip_End x G Φ x.2.2.2.1.cells x.2.2.2.1.slots → t f S Φ → ip_W x G nL pc f
def ip_okB (x : ip_Cx) (G : ip_Gl) (nL : Nat) (pcs : Nat → Nat) (pc : Nat) (b : ip_B) : Prop := ∃ pc', ip_okS x G nL pc pc' b.1 ∧ ip_okT x G nL pc' pcs b.2
def ip_okL (x : ip_Cx) (G : ip_Gl) (nL : Nat) (pcs : Nat → Nat) : Nat → List ip_B → Prop
  | _, [] => True
  | i, b :: bs => ip_okB x G nL pcs (pcs i) b ∧ ip_okL x G nL pcs (i + 1) bs
theorem ip_okL.at {x : ip_Cx} {G : ip_Gl} {nL : Nat} {pcs : Nat → Nat} : ∀ (bs : List ip_B) (i : Nat), ip_okL x G nL pcs i bs → ∀ (j : Nat) (b : ip_B), bs[j]? = some b → ip_okB x G nL pcs (pcs (i + j)) b
  | [], _, _, j, b, h => by simp at h
  | a :: bs, i, ⟨h1, h2⟩, 0, b, h => by
    simp at h
    subst h
    exact h1
  | a :: bs, i, ⟨h1, h2⟩, j + 1, b, h => by
    rw [List.getElem?_cons_succ] at h
    have := ip_okL.at bs (i + 1) h2 j b h
    rwa [show i + 1 + j = i + (j + 1) by omega] at this
theorem ip_Ev.sound {x : ip_Cx} {G : ip_Gl} {nL : Nat} {pcs : Nat → Nat} {T : List ip_B} {Φ : ip_P} (hT : ip_okL x G nL pcs 0 T) (hE : ip_End x G Φ x.2.2.2.1.cells x.2.2.2.1.slots) {i : Nat} {f : ip_F} (h : ip_Ev T Φ i f) : ip_W x G nL (pcs i) f := by
  refine h (fun i f => ip_W x G nL (pcs i) f) ?_
  intro i f S hS hb
  unfold ip_blk at hb
  cases hTi : T[i]? with
  | none => rw [hTi] at hb; exact hb.elim
  | some b =>
    rw [hTi] at hb
    obtain ⟨pc', h1, h2⟩ := ip_okL.at T 0 hT i b hTi
    rw [Nat.zero_add] at h1
    exact h1 f _ (fun f' hf => h2 f' S Φ hS hE hf) hb
