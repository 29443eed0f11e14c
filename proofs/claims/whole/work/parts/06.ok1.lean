theorem ip_up_same {M : ip_M} {k : Nat} {e : ip_C} : ip_up M k e k = e := if_pos rfl
theorem ip_up_ne {M : ip_M} {j k : Nat} {e : ip_C} (h : j ≠ k) : ip_up M k e j = M j := if_neg h
theorem ip_ws_len {z : Nat} {ex : Nat → Nat} {kA : FieldType → ClassId} {M : ip_M} {n : Nat} : (ip_ws z ex kA M n).length = n - 64 := by simp [ip_ws]
theorem ip_ws_get {z : Nat} {ex : Nat → Nat} {kA : FieldType → ClassId} {M : ip_M} {n i : Nat} (h : i < n - 64) : (ip_ws z ex kA M n)[i]? = some (z + i, ip_E z ex kA (M (64 + i))) := by
  simp [ip_ws, h]
theorem ip_ws_at {z : Nat} {ex : Nat → Nat} {kA : FieldType → ClassId} {M : ip_M} {n a : Nat} (h1 : 64 ≤ a) (h2 : a < n) : (ip_ws z ex kA M n)[a - 64]? = some (ip_ad z ex a, ip_E z ex kA (M a)) := by
  rw [ip_ws_get (by omega), show 64 + (a - 64) = a by omega]
  simp [ip_ad, Nat.not_lt.mpr h1]
theorem ip_ws_none {z : Nat} {ex : Nat → Nat} {kA : FieldType → ClassId} {M : ip_M} {n i : Nat} (h : ¬ i < n - 64) : (ip_ws z ex kA M n)[i]? = none := by
  rw [List.getElem?_eq_none_iff, ip_ws_len]; omega
theorem ip_ws_set {z : Nat} {ex : Nat → Nat} {kA : FieldType → ClassId} {M : ip_M} {n a : Nat} {e : ip_C} (h1 : 64 ≤ a) (h2 : a < n) : (ip_ws z ex kA M n).set (a - 64) (ip_ad z ex a, ip_E z ex kA e) = ip_ws z ex kA (ip_up M a e) n := by
  apply List.ext_getElem?
  intro i
  by_cases hi : i < n - 64
  · by_cases hia : i = a - 64
    · subst hia
      rw [List.getElem?_set_self (by rw [ip_ws_len]; exact hi), ip_ws_at h1 h2, ip_up_same]
    · rw [List.getElem?_set_ne (Ne.symm hia), ip_ws_get hi, ip_ws_get hi, ip_up_ne (by omega)]
  · rw [ip_ws_none hi, List.getElem?_eq_none_iff, List.length_set, ip_ws_len]; omega
theorem ip_ws_push {z : Nat} {ex : Nat → Nat} {kA : FieldType → ClassId} {M : ip_M} {n : Nat} {e : ip_C} (h1 : 64 ≤ n) : ip_ws z ex kA M n ++ [(z + (n - 64), ip_E z ex kA e)] = ip_ws z ex kA (ip_up M n e) (n + 1) := by
  apply List.ext_getElem?
  intro i
  by_cases hi : i < n - 64
  · rw [List.getElem?_append_left (by rw [ip_ws_len]; exact hi), ip_ws_get hi, ip_ws_get (by omega), ip_up_ne (by omega)]
  · rw [List.getElem?_append_right (by rw [ip_ws_len]; omega), ip_ws_len]
    by_cases hj : i = n - 64
    · subst hj
      rw [Nat.sub_self, ip_ws_get (by omega), show 64 + (n - 64) = n by omega, ip_up_same]
      rfl
    · rw [ip_ws_none (by omega), List.getElem?_eq_none_iff]
      simp
      omega
theorem ip_D {z : Nat} {ex : Nat → Nat} {kA : FieldType → ClassId} {M : ip_M} {n : Nat} : va_D (ip_A z) (ip_ws z ex kA M n) := by
  have key : ∀ (i : Nat) (q : Nat × va_E), (ip_ws z ex kA M n)[i]? = some q → q.1 = z + i := by
    intro i q h
    by_cases hi : i < n - 64
    · rw [ip_ws_get hi] at h
      cases h
      rfl
    · rw [ip_ws_none hi] at h
      cases h
  refine ⟨fun i j p q h1 h2 h3 => ?_, fun k q h => ?_⟩
  · have := key i p h1
    have := key j q h2
    omega
  · show z ≤ q.1
    rw [key k q h]
    omega
theorem ip_Rep.lt {G : ip_Gl} {M : ip_M} {n : Nat} {H : Heap} (h : ip_Rep G M n H) {a : Nat} (hM : M a ≠ ip_none) : a < n := Nat.not_le.mp fun q => hM (h.2.1 a q)
theorem ip_Rep.set {G : ip_Gl} {M : ip_M} {n : Nat} {H H1 : Heap} (h : ip_Rep G M n H) {a : Nat} {e : ip_C} (h1 : 64 ≤ a) (h2 : a < n) (hz : H1.size = H.size) (hP : va_P G.1 vwCl ((ip_ws G.2.1 G.2.2.1 G.2.2.2.1 M n).set (a - 64) (ip_ad G.2.1 G.2.2.1 a, ip_E G.2.1 G.2.2.1 G.2.2.2.1 e)) H1) : ip_Rep G (ip_up M a e) n H1 := by
  refine ⟨fun k hk => ?_, fun k hk => ?_, h.2.2.1, hz.trans h.2.2.2.1, ?_⟩
  · rw [ip_up_ne (by omega)]; exact h.1 k hk
  · rw [ip_up_ne (by omega)]; exact h.2.1 k hk
  · rw [ip_ws_set h1 h2] at hP; exact hP
theorem ip_Rep.push {G : ip_Gl} {M : ip_M} {n : Nat} {H H1 : Heap} (h : ip_Rep G M n H) {e : ip_C} (hz : H1.size = H.size + 1) (hP : va_P G.1 vwCl (ip_ws G.2.1 G.2.2.1 G.2.2.2.1 M n ++ [(H.size, ip_E G.2.1 G.2.2.1 G.2.2.2.1 e)]) H1) : ip_Rep G (ip_up M n e) (n + 1) H1 := by
  obtain ⟨a1, a2, a3, a4, -⟩ := h
  refine ⟨fun k hk => ?_, fun k hk => ?_, by omega, by omega, ?_⟩
  · rw [ip_up_ne (by omega)]; exact a1 k hk
  · rw [ip_up_ne (by omega)]; exact a2 k (by omega)
  · rw [a4, ip_ws_push a3] at hP; exact hP
theorem ip_ad_new {z : Nat} {ex : Nat → Nat} {n : Nat} (h : 64 ≤ n) : ip_ad z ex n = z + (n - 64) := by simp [ip_ad, Nat.not_lt.mpr h]
theorem ip_v_cat {z : Nat} {ex : Nat → Nat} {v : Value} : (ip_v z ex v).category = v.category := by cases v <;> rfl
theorem ip_v_cat1 {z : Nat} {ex : Nat → Nat} {v : Value} (h : ip_c1 v = true) : (ip_v z ex v).category = 1 := by cases v <;> first | rfl | cases h
-- locals
def ip_as (z : Nat) (ex : Nat → Nat) (L : List (Option Value)) : List (Nat × Value) := (List.range L.length).filterMap (fun i => match L[i]? with
  | some (some v) => some (i, ip_v z ex v)
  | _ => none)
theorem ip_as_mem {z : Nat} {ex : Nat → Nat} {L : List (Option Value)} {q : Nat × Value} : q ∈ ip_as z ex L ↔ ∃ v, L[q.1]? = some (some v) ∧ q.2 = ip_v z ex v := by
  unfold ip_as
  rw [List.mem_filterMap]
  constructor
  · rintro ⟨i, hi, h⟩
    split at h
    · rename_i v hv
      cases h
      exact ⟨v, hv, rfl⟩
    · cases h
  · rintro ⟨v, hv, h⟩
    refine ⟨q.1, ?_, ?_⟩
    · rw [List.mem_range]
      exact (List.getElem?_eq_some_iff.mp hv).1
    · rw [hv]
      show some (q.1, ip_v z ex v) = some q
      rw [← h]
theorem ip_Loc.has {G : ip_Gl} {nL : Nat} {ls : Array Slot} {L : List (Option Value)} (h : ip_Loc G nL ls L) : lv_has ls nL (ip_as G.2.1 G.2.2.1 L) := by
  refine ⟨h.1, h.2.1, fun q hq => ?_⟩
  obtain ⟨v, hv, e⟩ := ip_as_mem.mp hq
  rw [e]
  exact h.2.2.2 q.1 v hv
theorem ip_clr_len {L : List (Option Value)} {i : Nat} : (ip_clr L i).length = L.length := by
  unfold ip_clr
  split <;> simp
theorem ip_clr_at {L : List (Option Value)} {i j : Nat} {v : Value} (h : (ip_clr L i)[j]? = some (some v)) : L[j]? = some (some v) ∧ (j = i → v.category = 1) := by
  unfold ip_clr at h
  split at h
  · by_cases hj : j = i
    · subst hj
      rw [List.getElem?_set] at h
      simp at h
    · rw [List.getElem?_set_ne (Ne.symm hj)] at h
      exact ⟨h, fun e => absurd e hj⟩
  · by_cases hj : j = i
    · subst hj
      rw [List.getElem?_set] at h
      simp at h
    · rw [List.getElem?_set_ne (Ne.symm hj)] at h
      exact ⟨h, fun e => absurd e hj⟩
  · rename_i h1 h2
    refine ⟨h, fun e => ?_⟩
    subst e
    cases v with
    | long x => exact absurd h (h1 x)
    | double x => exact absurd h (h2 x)
    | _ => rfl
theorem ip_Loc.st1 {G : ip_Gl} {nL : Nat} {ls ls' : Array Slot} {L : List (Option Value)} {i : Nat} {v : Value} (h : ip_Loc G nL ls L) (h' : lv_has ls' nL ((i, ip_v G.2.1 G.2.2.1 v) :: (ip_as G.2.1 G.2.2.1 L).filter (fun q => !(q.1 == i) && !(q.1 + 1 == i && q.2.category == 2)))) : ip_Loc G nL ls' (ip_st1 L i v) := by
  refine ⟨h'.1, h'.2.1, by rw [ip_st1, List.length_set, ip_clr_len]; exact h.2.2.1, fun j w hw => ?_⟩
  unfold ip_st1 at hw
  by_cases hj : j = i
  · subst hj
    rw [List.getElem?_set] at hw
    simp at hw
    obtain ⟨-, rfl⟩ := hw
    exact h'.2.2 _ List.mem_cons_self
  · rw [List.getElem?_set_ne (Ne.symm hj)] at hw
    obtain ⟨h1, h2⟩ := ip_clr_at hw
    refine h'.2.2 (j, ip_v G.2.1 G.2.2.1 w) (List.mem_cons_of_mem _ (List.mem_filter.mpr ⟨ip_as_mem.mpr ⟨w, h1, rfl⟩, ?_⟩))
    simp only [Bool.and_eq_true, Bool.not_eq_true', beq_eq_false_iff_ne, ne_eq, Bool.and_eq_false_iff]
    refine ⟨hj, ?_⟩
    by_cases hk : j + 1 = i
    · right
      rw [ip_v_cat, h2 (by omega)]
      decide
    · exact Or.inl hk
theorem ip_Loc.st2 {G : ip_Gl} {nL : Nat} {ls ls' : Array Slot} {L : List (Option Value)} {i : Nat} {v : Value} (h : ip_Loc G nL ls L) (h' : lv_has ls' nL ((i, ip_v G.2.1 G.2.2.1 v) :: (ip_as G.2.1 G.2.2.1 L).filter (fun q => !(q.1 == i) && (!(q.1 == i + 1) && !(q.1 + 1 == i && q.2.category == 2))))) : ip_Loc G nL ls' (ip_st2 L i v) := by
  refine ⟨h'.1, h'.2.1, by rw [ip_st2, List.length_set, List.length_set, ip_clr_len]; exact h.2.2.1, fun j w hw => ?_⟩
  unfold ip_st2 at hw
  by_cases hj1 : j = i + 1
  · subst hj1
    rw [List.getElem?_set] at hw
    simp at hw
  rw [List.getElem?_set_ne (Ne.symm hj1)] at hw
  by_cases hj : j = i
  · subst hj
    rw [List.getElem?_set] at hw
    simp at hw
    obtain ⟨-, rfl⟩ := hw
    exact h'.2.2 _ List.mem_cons_self
  · rw [List.getElem?_set_ne (Ne.symm hj)] at hw
    obtain ⟨h1, h2⟩ := ip_clr_at hw
    refine h'.2.2 (j, ip_v G.2.1 G.2.2.1 w) (List.mem_cons_of_mem _ (List.mem_filter.mpr ⟨ip_as_mem.mpr ⟨w, h1, rfl⟩, ?_⟩))
    simp only [Bool.and_eq_true, Bool.not_eq_true', beq_eq_false_iff_ne, ne_eq, Bool.and_eq_false_iff]
    refine ⟨hj, hj1, ?_⟩
    by_cases hk : j + 1 = i
    · right
      rw [ip_v_cat, h2 (by omega)]
      decide
    · exact Or.inl hk
theorem ip_loc_len (z : Nat) (ex : Nat → Nat) : ∀ vs : List Value, (lg_sl (vs.map (ip_v z ex))).length = (ip_loc vs).length
  | [] => rfl
  | v :: vs => by
    have ih := ip_loc_len z ex vs
    have e : ∀ u : Value, (lg_sl (u :: vs.map (ip_v z ex))).length = (if u.category = 2 then [Slot.val u, Slot.second] else [Slot.val u]).length + (lg_sl (vs.map (ip_v z ex))).length := by
      intro u
      rw [← List.length_append]
      rfl
    rw [List.map_cons, e, ih]
    cases v <;> (simp only [ip_loc, ip_v, Value.category, List.length_cons]; simp; try omega)
theorem ip_loc_at (z : Nat) (ex : Nat → Nat) : ∀ (vs : List Value) (k i : Nat) (v : Value), (ip_loc vs)[i]? = some (some v) → (k + i, ip_v z ex v) ∈ lv_args k (vs.map (ip_v z ex))
  | [], k, i, v, h => by simp [ip_loc] at h
  | w :: vs, k, 0, v, h => by
    cases w <;> (simp [ip_loc] at h; subst h; exact List.mem_cons_self)
  | w :: vs, k, i + 1, v, h => by
    have one : ∀ u : Value, u.category = 1 → (ip_loc vs)[i]? = some (some v) → (k + (i + 1), ip_v z ex v) ∈ lv_args k ((u :: vs.map (ip_v z ex))) := by
      intro u hu hh
      have ih := ip_loc_at z ex vs (k + 1) i v hh
      rw [show k + 1 + i = k + (i + 1) by omega] at ih
      refine List.mem_cons_of_mem _ ?_
      rw [if_neg (by rw [hu]; decide)]
      exact ih
    have two : ∀ u : Value, u.category = 2 → (none :: ip_loc vs)[i]? = some (some v) → (k + (i + 1), ip_v z ex v) ∈ lv_args k ((u :: vs.map (ip_v z ex))) := by
      intro u hu hh
      cases i with
      | zero => simp at hh
      | succ i =>
        rw [List.getElem?_cons_succ] at hh
        have ih := ip_loc_at z ex vs (k + 2) i v hh
        rw [show k + 2 + i = k + (i + 1 + 1) by omega] at ih
        refine List.mem_cons_of_mem _ ?_
        rw [if_pos hu]
        exact ih
    cases w with
    | int x => exact one _ rfl h
    | long x => exact two _ rfl h
    | float x => exact one _ rfl h
    | double x => exact two _ rfl h
    | null => exact one _ rfl h
    | ref x => exact one _ rfl h
    | retAddr x => exact one _ rfl h
theorem ip_Loc.entry {G : ip_Gl} {nL : Nat} {vs : List Value} (h : (ip_loc vs).length ≤ nL) : ip_Loc G nL ((lg_sl (vs.map (ip_v G.2.1 G.2.2.1)) ++ List.replicate (nL - (lg_sl (vs.map (ip_v G.2.1 G.2.2.1))).length) Slot.unset).toArray) (ip_ent nL vs) := by
  have hl := lv_entry (vs.map (ip_v G.2.1 G.2.2.1)) (n := nL) (by rw [ip_loc_len]; exact h)
  refine ⟨hl.1, hl.2.1, by simp [ip_ent]; omega, fun i v hv => ?_⟩
  unfold ip_ent at hv
  by_cases hi : i < (ip_loc vs).length
  · rw [List.getElem?_append_left hi] at hv
    have := ip_loc_at G.2.1 G.2.2.1 vs 0 i v hv
    rw [Nat.zero_add] at this
    exact hl.2.2 _ this
  · rw [List.getElem?_append_right (by omega), List.getElem?_replicate] at hv
    split at hv <;> simp at hv
