-- the end of all
theorem bN_tb (x i : Nat) : bN x i = 1 ↔ x.testBit i = true := by
  unfold bN
  rw [Nat.testBit_eq_decide_div_mod_eq, decide_eq_true_iff]
theorem bN_or (x y i : Nat) : bN (x ||| y) i = 1 ↔ bN x i = 1 ∨ bN y i = 1 := by
  rw [bN_tb, bN_tb, bN_tb, Nat.testBit_or, Bool.or_eq_true]
def fuB : Bool := (List.range 9).all fun w => (List.range (2 ^ w)).all fun x => (Nat.beq x (2 ^ w - 1)) == (List.range w).all fun i => Nat.beq (bN x i) 1
theorem fuB_t : fuB = true := by decide +kernel
theorem fu_n {w x : Nat} (hw : w ≤ 8) (hx : x < 2 ^ w) : x = 2 ^ w - 1 ↔ ∀ i, i < w → bN x i = 1 := by
  have h := fuB_t
  unfold fuB at h
  have h := eq_of_beq (List.all_eq_true.mp (List.all_eq_true.mp h w (List.mem_range.mpr (by omega))) x (List.mem_range.mpr hx))
  have a : Nat.beq x (2 ^ w - 1) = true ↔ x = 2 ^ w - 1 := by rw [Nat.beq_eq]
  have b : ((List.range w).all fun i => Nat.beq (bN x i) 1) = true ↔ ∀ i, i < w → bN x i = 1 := by
    rw [List.all_eq_true]
    exact ⟨fun h i hi => by have := h i (List.mem_range.mpr hi); rwa [Nat.beq_eq] at this, fun h i hi => by rw [Nat.beq_eq]; exact h i (List.mem_range.mp hi)⟩
  rw [← a, ← b, h]
theorem ac_at {R : Rg} : ∀ w, w ≤ 8 → ∀ i, i < w → hasB (acL R w) (nI i) = if rPl R i = 20 then 1 else 0
  | 0, _, i, hi => absurd hi (by omega)
  | w + 1, hw, i, hi => by
    have ih := ac_at (R := R) w (by omega)
    have ht : i01P (if rPl R w = 20 then (1 : Int32) else 0) := by
      by_cases c : rPl R w = 20
      · rw [if_pos c]; exact Or.inr rfl
      · rw [if_neg c]; exact Or.inl rfl
    show hasB (withB (acL R w) (nI w) _) (nI i) = _
    rw [hb_wb (acL_8 (by omega)) (by omega) (by omega) ht]
    by_cases e : i = w
    · rw [if_pos e, e]
    · rw [if_neg e]
      exact ih i (by omega)
abbrev nr (q : Int32 × Int32) : Prop := q.2 = 0 ∧ ¬ q.1 = 20
def qv (R : Rg) (i : Nat) : Int32 × Int32 := (rPl R i, hasB (rFl R) (nI i))
abbrev allD (R : Rg) : Prop := acL R (rW R) ||| rFl R = nI (2 ^ rW R) - 1
theorem allD_iff {R : Rg} (ho : okR R) : allD R ↔ ∀ i, i < rW R → ¬ nr (qv R i) := by
  have h8 := ho.1
  obtain ⟨a, ha, ea⟩ := acL_n (R := R) (rW R) h8
  obtain ⟨m, hm, em⟩ := ho.2.2.1
  have hp : 2 ^ rW R ≤ 256 := Nat.pow_le_pow_right (n := 2) (j := 8) (by omega) h8
  have hp1 : 0 < 2 ^ rW R := Nat.pow_pos (by omega)
  have hx := Nat.or_lt_two_pow ha hm
  have e1 : nI (2 ^ rW R) - 1 = nI (2 ^ rW R - 1) := by
    have := nI_pred (2 ^ rW R - 1)
    rwa [show 2 ^ rW R - 1 + 1 = 2 ^ rW R by omega] at this
  unfold allD
  rw [ea, em, nI_or, e1, nI_eq (by omega) (by omega), fu_n h8 hx]
  have key : ∀ i, i < rW R → (bN (a ||| m) i = 1 ↔ ¬ nr (qv R i)) := by
    intro i hi
    have k1 := ac_at (R := R) (rW R) h8 i hi
    rw [ea, hb_n (by omega) (by omega)] at k1
    have k2 : hasB (rFl R) (nI i) = nI (bN m i) := by rw [em, hb_n (by omega) (by omega)]
    have b1 := bN_lt a i
    have b2 := bN_lt m i
    rw [bN_or]
    unfold nr qv
    show _ ↔ ¬ (hasB (rFl R) (nI i) = 0 ∧ ¬ rPl R i = 20)
    rw [k2, ← nI_0, nI_eq (by omega) (by omega)]
    by_cases c : rPl R i = 20
    · rw [if_pos c, show (1 : Int32) = nI 1 from rfl, nI_eq (by omega) (by omega)] at k1
      exact ⟨fun _ z => z.2 c, fun _ => Or.inl k1⟩
    · rw [if_neg c, ← nI_0, nI_eq (by omega) (by omega)] at k1
      constructor
      · rintro (z | z) ⟨z1, _⟩
        · omega
        · omega
      · intro z
        refine Or.inr ?_
        have : ¬ bN m i = 0 := fun y => z ⟨y, c⟩
        omega
  exact ⟨fun h i hi => (key i hi).mp (h i hi), fun h i hi => (key i hi).mpr (h i hi)⟩
theorem qv_step {R : Rg} {i j : Nat} (ho : okR R) (hi : i < rW R) (hj : j < rW R) : qv (trStep R i) j = if j = i then tq R i else qv R j := by
  have h8 := ho.1
  unfold qv
  show (upd (rPl R) i (tq R i).1 j, hasB (withB (rFl R) (nI i) (tq R i).2) (nI j)) = _
  rw [hb_wb ho.fl (i := i) (j := j) (by omega) (by omega) tq01]
  by_cases e : j = i
  · rw [if_pos e, if_pos e, e, updS]
  · rw [if_neg e, if_neg e, updN e]
theorem qv_trF {R : Rg} (ho : okR R) {j : Nat} (hj : j < rW R) : ∀ i, i ≤ rW R → qv (trF R i) j = if j < i then tq R j else qv R j
  | 0, _ => by rw [if_neg (by omega)]; rfl
  | i + 1, hi => by
    have ih := qv_trF ho hj i (by omega)
    obtain ⟨w0, w1, w2, w3, w4, w5, w6, w7, w8⟩ := trF_w R i
    show qv (trStep (trF R i) i) j = _
    rw [qv_step (ok_trF ho i (by omega)) (by rw [w0]; omega) (by rw [w0]; omega)]
    by_cases e : j = i
    · rw [if_pos e, if_pos (by omega)]
      rw [if_neg (by omega)] at ih
      subst e
      have ih2 : (rPl (trF R j) j, hasB (rFl (trF R j)) (nI j)) = (rPl R j, hasB (rFl R) (nI j)) := ih
      unfold tq
      rw [w1, w2, w3, w5, w6, w7, w8, ih2]
    · rw [if_neg e, ih]
      by_cases c : j < i
      · rw [if_pos c, if_pos (by omega)]
      · rw [if_neg c, if_neg (by omega)]
theorem qv_tread {R : Rg} (ho : okR R) {j : Nat} (hj : j < rW R) : qv (treadR R) j = tq R j := by
  have := qv_trF ho hj (rW R) (Nat.le_refl _)
  rw [if_pos hj] at this
  exact this
theorem itR_k (R : Rg) : ∀ c, rLw (itR R c) = rLw R ∧ rFa (itR R c) = rFa R ∧ rKd (itR R c) = rKd R ∧ rWt (itR R c) = rWt R ∧ rYe (itR R c) = rYe R ∧ rNo (itR R c) = rNo R
  | 0 => ⟨rfl, rfl, rfl, rfl, rfl, rfl⟩
  | c + 1 => itR_k R c
theorem qv_it {R : Rg} (ho : okR R) {i : Nat} (hi : i < rW R) (c : Nat) : qv (itR R (c + 1)) i = stepW (rLw R 0) (rLw R 1) (rLw R 2) (rKd R i) (rWt R i) (rt R i (rFa R)) (wr R i (rFa R)) (rSp (itR R c)) (qv (itR R c) i) := by
  obtain ⟨k1, k2, k3, k4, k5, k6⟩ := itR_k R c
  show qv (treadR (itR R c)) i = _
  rw [qv_tread (ok_itR ho c) (by rw [itR_w]; exact hi)]
  unfold tq
  rw [k1, k2, k3, k4, k5, k6]
  rfl
theorem rest_on {R : Rg} (ho : okR R) {i : Nat} (hi : i < rW R) {c : Nat} (h : ¬ nr (qv (itR R c) i)) : ∀ e, ¬ nr (qv (itR R (c + e)) i)
  | 0 => h
  | e + 1 => by
    have ih := rest_on ho hi h e
    show ¬ nr (qv (itR R (c + e + 1)) i)
    rw [qv_it ho hi, stepW_r ih]
    exact ih
theorem rs_spec {R : Rg} (ho : okR R) {i : Nat} (hi : i < rW R) : ∀ (j c : Nat), c + j = 60 → ∃ e s, rsW (rLw R 0) (rLw R 1) (rLw R 2) (rKd R i) (rWt R i) (rt R i (rFa R)) (wr R i (rFa R)) j c (rSp (itR R c)) (qv (itR R c) i) = (e, s, qv (itR R e) i) ∧ c ≤ e ∧ e ≤ 60 ∧ (∀ x, c ≤ x → x < e → nr (qv (itR R x) i)) ∧ (e < 60 → ¬ nr (qv (itR R e) i)) := by
  intro j
  induction j with
  | zero =>
    intro c hc
    exact ⟨c, _, rfl, by omega, by omega, fun x h1 h2 => absurd h1 (by omega), fun h => absurd h (by omega)⟩
  | succ j ih =>
    intro c hc
    unfold rsW
    by_cases h : nr (qv (itR R c) i)
    · rw [if_pos h, ← qv_it ho hi]
      obtain ⟨e, s, h1, h2, h3, h4, h5⟩ := ih (c + 1) (by omega)
      refine ⟨e, s, h1, by omega, h3, fun x x1 x2 => ?_, h5⟩
      by_cases ex : x = c
      · rw [ex]; exact h
      · exact h4 x (by omega) x2
    · rw [if_neg h]
      exact ⟨c, _, rfl, by omega, by omega, fun x h1 h2 => absurd h1 (by omega), fun _ => h⟩
/-- when each comes to rest, if it does -/
theorem rsT_spec {R : Rg} (ho : okR R) {i : Nat} (hi : i < rW R) : (rsT R i).1 ≤ 60 ∧ ∀ x, x ≤ 60 → (¬ nr (qv (itR R x) i) ↔ ¬ nr (rsT R i).2.2 ∧ (rsT R i).1 ≤ x) := by
  obtain ⟨e, s, h1, h2, h3, h4, h5⟩ := rs_spec ho hi 60 0 (by omega)
  have h1 : rsT R i = (e, s, qv (itR R e) i) := h1
  rw [h1]
  refine ⟨h3, fun x hx => ⟨fun h => ?_, fun h => ?_⟩⟩
  · have hex : e ≤ x := Nat.not_lt.mp (fun z => h (h4 x (by omega) z))
    refine ⟨?_, hex⟩
    by_cases c : e < 60
    · exact h5 c
    · have : e = x := by omega
      rw [this]; exact h
  · have := rest_on ho hi h.1 (x - e)
    rwa [show e + (x - e) = x by have := h.2; omega] at this
noncomputable def enM (R : Rg) : Nat → Nat → Nat
  | 0, c => c
  | j + 1, c => if acL (itR R c) (rW (itR R c)) ||| rFl (itR R c) = nI (2 ^ rW (itR R c)) - 1 then c else enM R j (c + 1)
theorem enM_at {R : Rg} {L : Nat} (hL : allD (itR R L)) : ∀ (j c : Nat), c ≤ L → L < c + j → (∀ e, c ≤ e → e < L → ¬ allD (itR R e)) → enM R j c = L
  | 0, c, h1, h2, _ => by omega
  | j + 1, c, h1, h2, h => by
    unfold enM
    by_cases e : c = L
    · subst e
      exact if_pos hL
    · rw [if_neg (h c (by omega) (by omega))]
      exact enM_at hL j (c + 1) (by omega) (by omega) (fun x x1 x2 => h x (by omega) x2)
theorem enM_no {R : Rg} : ∀ (j c : Nat), (∀ e, c ≤ e → e < c + j → ¬ allD (itR R e)) → enM R j c = c + j
  | 0, c, _ => rfl
  | j + 1, c, h => by
    unfold enM
    rw [if_neg (h c (by omega) (by omega)), enM_no j (c + 1) (fun x x1 x2 => h x (by omega) (by omega))]
    omega
theorem enF_spec {R : Rg} (ho : okR R) : ∀ (j i l : Nat), i + j = rW R → l ≤ 60 → ((∃ x, i ≤ x ∧ x < rW R ∧ nr (rsT R x).2.2) ∧ enF R j i (nI l) = -3) ∨ ((∀ x, i ≤ x → x < rW R → ¬ nr (rsT R x).2.2) ∧ ∃ L, enF R j i (nI l) = nI L ∧ l ≤ L ∧ L ≤ 60 ∧ (∀ x, i ≤ x → x < rW R → (rsT R x).1 ≤ L) ∧ (L = l ∨ ∃ x, i ≤ x ∧ x < rW R ∧ (rsT R x).1 = L)) := by
  intro j
  induction j with
  | zero =>
    intro i l hi hl
    exact Or.inr ⟨fun x h1 h2 => absurd h1 (by omega), l, rfl, by omega, hl, fun x h1 h2 => absurd h1 (by omega), Or.inl rfl⟩
  | succ j ih =>
    intro i l hi hl
    unfold enF
    by_cases hn : nr (rsT R i).2.2
    · rw [if_pos hn]
      exact Or.inl ⟨⟨i, by omega, by omega, hn⟩, rfl⟩
    rw [if_neg hn]
    have hr := (rsT_spec ho (i := i) (by omega)).1
    have em : (if nI l < nI (rsT R i).1 then nI (rsT R i).1 else nI l) = nI (if l < (rsT R i).1 then (rsT R i).1 else l) := by
      have e := nIlt (i := l) (j := (rsT R i).1) (by omega) (by omega)
      by_cases c : l < (rsT R i).1
      · rw [if_pos c, if_pos (e.mpr c)]
      · rw [if_neg c, if_neg (fun z => c (e.mp z))]
    rw [em]
    have hl' : (if l < (rsT R i).1 then (rsT R i).1 else l) ≤ 60 := by
      by_cases c : l < (rsT R i).1
      · rw [if_pos c]; exact hr
      · rw [if_neg c]; exact hl
    have hl2 : l ≤ (if l < (rsT R i).1 then (rsT R i).1 else l) ∧ (rsT R i).1 ≤ (if l < (rsT R i).1 then (rsT R i).1 else l) ∧ ((if l < (rsT R i).1 then (rsT R i).1 else l) = l ∨ (if l < (rsT R i).1 then (rsT R i).1 else l) = (rsT R i).1) := by
      by_cases c : l < (rsT R i).1
      · rw [if_pos c]; exact ⟨by omega, by omega, Or.inr rfl⟩
      · rw [if_neg c]; exact ⟨by omega, by omega, Or.inl rfl⟩
    rcases ih (i + 1) _ (by omega) hl' with ⟨⟨x, x1, x2, x3⟩, h⟩ | ⟨ha, L, h1, h2, h3, h4, h5⟩
    · exact Or.inl ⟨⟨x, by omega, x2, x3⟩, h⟩
    · refine Or.inr ⟨fun x x1 x2 => ?_, L, h1, by omega, h3, fun x x1 x2 => ?_, ?_⟩
      · by_cases e : x = i
        · rw [e]; exact hn
        · exact ha x (by omega) x2
      · by_cases e : x = i
        · rw [e]; omega
        · exact h4 x (by omega) x2
      · rcases h5 with h5 | ⟨x, x1, x2, x3⟩
        · rcases hl2.2.2 with c | c
          · exact Or.inl (by omega)
          · exact Or.inr ⟨i, by omega, by omega, by omega⟩
        · exact Or.inr ⟨x, by omega, x2, x3⟩
theorem en_eq {R : Rg} (ho : okR R) : n60F (enM R 61 0) = enF R (rW R) 0 0 := by
  have hall : ∀ x, x ≤ 60 → (allD (itR R x) ↔ ∀ i, i < rW R → ¬ nr (rsT R i).2.2 ∧ (rsT R i).1 ≤ x) := by
    intro x hx
    rw [allD_iff (ok_itR ho x), itR_w]
    exact ⟨fun h i hi => ((rsT_spec ho hi).2 x hx).mp (h i hi), fun h i hi => ((rsT_spec ho hi).2 x hx).mpr (h i hi)⟩
  rcases enF_spec ho (rW R) 0 0 (by omega) (by omega) with ⟨⟨x, x1, x2, x3⟩, h⟩ | ⟨ha, L, h1, h2, h3, h4, h5⟩
  · have h : enF R (rW R) 0 0 = -3 := h
    rw [h, enM_no 61 0 (fun e e1 e2 hA => (((hall e (by omega)).mp hA) x x2).1 x3)]
    rfl
  · have h1 : enF R (rW R) 0 0 = nI L := h1
    rw [h1, enM_at (L := L) ((hall L h3).mpr (fun i hi => ⟨ha i (by omega) hi, h4 i (by omega) hi⟩)) 61 0 (by omega) (by omega) (fun e e1 e2 hA => ?_)]
    · unfold n60F
      rw [if_neg (by omega)]
    · have hA := (hall e (by omega)).mp hA
      rcases h5 with h5 | ⟨x, x1, x2, x3⟩
      · omega
      · have := (hA x x2).2
        omega
