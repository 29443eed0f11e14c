def st_ex (b t1 t2 t3 t4 : Nat) (ad : Nat → Nat × Nat) (f6 : Nat) (k : Nat) : Nat := if k = 0 then b else if k = 1 then t1 else if k = 2 then t2 else if k = 3 then t3 else if k = 4 then t4 else if k < 20 then (ad (k - 5)).1 else if k < 35 then (ad (k - 20)).2 else f6
def st_EX (c0 : ip_C) (k : Nat) : ip_C := if k = 0 then c0 else EXs k
theorem st_cases {k : Nat} : k = 0 ∨ k = 1 ∨ k = 2 ∨ k = 3 ∨ k = 4 ∨ (∃ i, i < 15 ∧ k = 5 + i) ∨ (∃ i, i < 15 ∧ k = 20 + i) ∨ 35 ≤ k := by
  by_cases h : k < 5
  · omega
  · by_cases h2 : k < 20
    · exact Or.inr (Or.inr (Or.inr (Or.inr (Or.inr (Or.inl ⟨k - 5, by omega, by omega⟩)))))
    · by_cases h3 : k < 35
      · exact Or.inr (Or.inr (Or.inr (Or.inr (Or.inr (Or.inr (Or.inl ⟨k - 20, by omega, by omega⟩))))))
      · omega
theorem st_X5 {c0 : ip_C} {i : Nat} (h : i < 15) : st_EX c0 (5 + i) = .inr (7, [.ref (20 + i), .int 0]) := by
  unfold st_EX EXs
  rw [if_neg (by omega), if_neg (by omega), if_neg (by omega), if_neg (by omega), if_neg (by omega), if_pos (by omega), show 5 + i + 15 = 20 + i by omega]
theorem st_X20 {c0 : ip_C} {i : Nat} (h : i < 15) : st_EX c0 (20 + i) = bA (txB i).length (fun j => (txB i).getD j 0) := by
  unfold st_EX EXs
  rw [if_neg (by omega), if_neg (by omega), if_neg (by omega), if_neg (by omega), if_neg (by omega), if_neg (by omega), if_pos (by omega), show 20 + i - 20 = i by omega]
theorem st_X35 {c0 : ip_C} {k : Nat} (h : 35 ≤ k) : st_EX c0 k = ip_none := by
  unfold st_EX EXs
  rw [if_neg (by omega), if_neg (by omega), if_neg (by omega), if_neg (by omega), if_neg (by omega), if_neg (by omega), if_neg (by omega)]
theorem st_x5 {b t1 t2 t3 t4 f6 i : Nat} {ad : Nat → Nat × Nat} (h : i < 15) : st_ex b t1 t2 t3 t4 ad f6 (5 + i) = (ad i).1 := by
  unfold st_ex
  rw [if_neg (by omega), if_neg (by omega), if_neg (by omega), if_neg (by omega), if_neg (by omega), if_pos (by omega), show 5 + i - 5 = i by omega]
theorem st_x20 {b t1 t2 t3 t4 f6 i : Nat} {ad : Nat → Nat × Nat} (h : i < 15) : st_ex b t1 t2 t3 t4 ad f6 (20 + i) = (ad i).2 := by
  unfold st_ex
  rw [if_neg (by omega), if_neg (by omega), if_neg (by omega), if_neg (by omega), if_neg (by omega), if_neg (by omega), if_pos (by omega), show 20 + i - 20 = i by omega]
theorem st_EXok {L : Nat} {xs : Nat → Int32} : ip_EXok (st_EX (iA L xs)) := by
  intro k hk
  rcases st_cases (k := k) with rfl | rfl | rfl | rfl | rfl | ⟨i, hi, rfl⟩ | ⟨i, hi, rfl⟩ | h
  · exact Or.inl ⟨_, _, _, rfl⟩
  · exact Or.inl ⟨_, _, _, rfl⟩
  · exact Or.inl ⟨_, _, _, rfl⟩
  · exact Or.inl ⟨_, _, _, rfl⟩
  · exact Or.inl ⟨_, _, _, rfl⟩
  · exact Or.inr (Or.inl ⟨_, st_X5 hi⟩)
  · exact Or.inl ⟨_, _, _, st_X20 hi⟩
  · exact Or.inr (Or.inr (st_X35 h))
theorem st_cls {args : Array Value} {s : State} (hts : ∀ w ∈ ip_Ts, w.before args s = true) : ∃ D : Nat → ClassId × (Nat → Nat), ∀ (k : Nat) (q : vw_C), vwCl[k]? = some q → u_Kn s q.1 q.2.1 q.2.2 (D k).1 (D k).2 := by
  have h0 : ∀ k : Nat, ∃ r : ClassId × (Nat → Nat), ∀ (q : vw_C), vwCl[k]? = some q → u_Kn s q.1 q.2.1 q.2.2 r.1 r.2 := fun k => by
    match k with
    | 0 => exact (u_known hts iw_X0 (hts _ tw_170)).elim (fun c h => h.elim (fun i h => ⟨(c, i), fun q hq => by cases hq; exact h⟩))
    | 1 => exact (u_known hts iw_X1 (hts _ tw_24)).elim (fun c h => h.elim (fun i h => ⟨(c, i), fun q hq => by cases hq; exact h⟩))
    | 2 => exact (u_known hts iw_X2 (hts _ tw_691)).elim (fun c h => h.elim (fun i h => ⟨(c, i), fun q hq => by cases hq; exact h⟩))
    | 3 => exact (u_known hts iw_X3 (hts _ tw_143)).elim (fun c h => h.elim (fun i h => ⟨(c, i), fun q hq => by cases hq; exact h⟩))
    | 4 => exact (u_known hts iw_X4 (hts _ tw_98)).elim (fun c h => h.elim (fun i h => ⟨(c, i), fun q hq => by cases hq; exact h⟩))
    | 5 => exact (u_known hts iw_X5 (hts _ tw_16)).elim (fun c h => h.elim (fun i h => ⟨(c, i), fun q hq => by cases hq; exact h⟩))
    | 6 => exact (u_known hts iw_X6 (hts _ tw_787)).elim (fun c h => h.elim (fun i h => ⟨(c, i), fun q hq => by cases hq; exact h⟩))
    | k + 7 => exact ⟨(0, fun _ => 0), fun q hq => absurd hq (by intro z; simp [vwCl] at z)⟩
  exact Classical.axiomOfChoice h0
theorem st_one {args : Array Value} {s : State} {ty : FieldType} (h : (Cond.arrayClass ty).before args s = true) : ∃ cA, ArrOfT s cA ty ∧ s.vm.findClass ("[" ++ ty.toString) = some cA := by
  obtain ⟨c, k, comp, h1, h2, h3⟩ := Cond.arrayClass_spec (args := args) (first := s) (o := none) (s := s) (idx := []) h
  exact ⟨c, fun n z => ⟨fun k h => (by cases h), k, h2, comp, h3⟩, h1⟩
theorem st_arr {args : Array Value} {s : State} (hts : ∀ w ∈ ip_Ts, w.before args s = true) (hao : va_AO RX2 s) : ∃ kA : FieldType → ClassId, ∀ (k : Nat) (q : ClassId × FieldType), (ip_tys kA)[k]? = some q → ArrOfT s q.1 q.2 ∧ va_RA s q.1 q.2 := by
  obtain ⟨cI, a1, a2⟩ := st_one (hts _ tw_96)
  obtain ⟨cB, b1, b2⟩ := st_one (hts _ tw_168)
  obtain ⟨cL, c1, c2⟩ := st_one (hts _ tw_880)
  obtain ⟨comp, c, k0, h1, h2, h3, h4, h5⟩ := Cond.arrayOver_spec (args := #[]) (first := s) (o := none) (s := s) (idx := []) hao
  refine ⟨fun ty => match ty with | .int => cI | .byte => cB | .long => cL | _ => c, fun k q hq => ?_⟩
  match k, hq with
  | 0, hq => cases hq; exact ⟨a1, a2⟩
  | 1, hq => cases hq; exact ⟨b1, b2⟩
  | 2, hq => cases hq; exact ⟨c1, c2⟩
  | 3, hq => cases hq; exact ⟨fun n z => ⟨fun k h => (by cases h), k0, h3, comp, h4⟩, k0, comp, h3, h4, h1, h5⟩
  | k + 4, hq => exact absurd hq (by intro z; simp [ip_tys] at z)
abbrev st_G (D : Nat → ClassId × (Nat → Nat)) (z : Nat) (ex : Nat → Nat) (kA : FieldType → ClassId) (c0 : ip_C) : ip_Gl := ((fun k => (D k).1, fun k => (D k).2), z, ex, kA, st_EX c0)
theorem st_rep {D : Nat → ClassId × (Nat → Nat)} {ex : Nat → Nat} {kA : FieldType → ClassId} {c0 : ip_C} {H : Heap} : ip_Rep (st_G D H.size ex kA c0) (st_EX c0) 64 H :=
  ⟨fun _ _ => rfl, fun k hk => st_X35 (by omega), Nat.le_refl _, rfl, fun k q h => absurd h (by intro z; cases z)⟩
theorem st_ext {s : State} {b L t1 t2 t3 t4 f6 : Nat} {xs : Nat → Int32} {D : Nat → ClassId × (Nat → Nat)} {kA : FieldType → ClassId} {ad : Nat → Nat × Nat} (hts : ∀ w ∈ lw_tbl, w.before #[Value.ref b] s = true) (hgv : st_C.before #[Value.ref b] s = true) (hL : L ≤ 2560) (hX : va_X b L xs s s.heap) (hbl : b < s.heap.size)
    (had : ∀ i, i < 15 → st_P #[Value.ref b] s (ip_A s.heap.size) i (ad i))
    (e1 : (Term.static "TruthRope" "FIRST_LAWS" "[I").eval #[Value.ref b] s none [] s = some (.ref t1)) (T1 : va_T .int t1 4 (fun j => .int (fstL j)) (ip_A s.heap.size) s s.heap)
    (e2 : (Term.static "TruthRope" "HIGHEST_LAWS" "[I").eval #[Value.ref b] s none [] s = some (.ref t2)) (T2 : va_T .int t2 4 (fun j => .int (hiL j)) (ip_A s.heap.size) s s.heap)
    (e3 : (Term.static "TruthRope" "KIND_ABOVE" "[I").eval #[Value.ref b] s none [] s = some (.ref t3)) (T3 : va_T .int t3 6 (fun j => .int (kaL j)) (ip_A s.heap.size) s s.heap)
    (e4 : (Term.static "TruthRope" "BODIES" "[I").eval #[Value.ref b] s none [] s = some (.ref t4)) (T4 : va_T .int t4 24 (fun j => .int (boL j)) (ip_A s.heap.size) s s.heap)
    (h6 : va_Z "jdk/internal/util/Preconditions" "SIOOBE_FORMATTER" "Ljava/util/function/BiFunction;" .null (ip_A s.heap.size) s s.heap ∨ va_Z "jdk/internal/util/Preconditions" "SIOOBE_FORMATTER" "Ljava/util/function/BiFunction;" (.ref f6) (ip_A s.heap.size) s s.heap) : ip_Ext (st_G D s.heap.size (st_ex b t1 t2 t3 t4 ad f6) kA (iA L xs)) s := by
  have hA : ∀ a : Nat, a < s.heap.size → ¬ ip_A s.heap.size a := fun a ha h => Nat.not_lt.mpr h ha
  refine ⟨?_, ?_, ?_, ?_, st_nm hts, st_nf hts, ?_, st_ao hts⟩
  · intro k ty n g hk e
    replace e : st_EX (iA L xs) k = .inl (ty, n, .inl g) := e
    rcases st_cases (k := k) with rfl | rfl | rfl | rfl | rfl | ⟨i, hi, rfl⟩ | ⟨i, hi, rfl⟩ | h
    · cases e
      obtain ⟨scr, h1, h2, h3, h4, h5⟩ := hX
      exact ⟨scr, h1, h2, h3, by rw [h4]; exact Nat.le_refl _, by rw [h4], h5, hA _ hbl⟩
    · cases e; exact T1
    · cases e; exact T2
    · cases e; exact T3
    · cases e; exact T4
    · rw [st_X5 hi] at e; cases e
    · rw [st_X20 hi] at e
      cases e
      show va_T .byte (st_ex b t1 t2 t3 t4 ad f6 (20 + i)) _ _ _ _ _
      rw [st_x20 hi]
      exact (had i hi).2.2.2.2
    · rw [st_X35 h] at e; cases e
  · intro k fs hk e
    replace e : st_EX (iA L xs) k = .inr (7, fs) := e
    rcases st_cases (k := k) with rfl | rfl | rfl | rfl | rfl | ⟨i, hi, rfl⟩ | ⟨i, hi, rfl⟩ | h
    · cases e
    · cases e
    · cases e
    · cases e
    · cases e
    · rw [st_X5 hi] at e
      cases e
      refine ⟨20 + i, rfl, ?_⟩
      show va_O _ (st_ex b t1 t2 t3 t4 ad f6 (5 + i)) _ _ _ ∧ va_OF _ _ _ _ (st_ex b t1 t2 t3 t4 ad f6 (5 + i)) _ _ _ ∧ va_OF _ _ _ (.ref (if 20 + i < 64 then st_ex b t1 t2 t3 t4 ad f6 (20 + i) else _)) (st_ex b t1 t2 t3 t4 ad f6 (5 + i)) _ _ _
      rw [if_pos (by omega), st_x5 hi, st_x20 hi]
      exact ⟨(had i hi).2.1, (had i hi).2.2.1, (had i hi).2.2.2.1⟩
    · rw [st_X20 hi] at e; cases e
    · rw [st_X35 h] at e; cases e
  · refine List.forall_mem_cons.mpr ⟨st_z1 hts e1 hA, ?_⟩
    refine List.forall_mem_cons.mpr ⟨st_z2 hts e2 hA, ?_⟩
    refine List.forall_mem_cons.mpr ⟨st_z3 hts e3 hA, ?_⟩
    refine List.forall_mem_cons.mpr ⟨st_z4 hts e4 hA, ?_⟩
    refine List.forall_mem_cons.mpr ⟨st_cs hts hgv hA, ?_⟩
    exact fun _ h => absurd h List.not_mem_nil
  · exact h6
  · exact st_rs (ad := st_ex b t1 t2 t3 t4 ad f6) hts (fun i hi => by rw [st_x5 hi]; exact (had i hi).1)
