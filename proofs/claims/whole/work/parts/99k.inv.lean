def okS (S : Cs) : Prop := okR (cNow S) ∧ okR (cKp S) ∧ cTl S ≤ 200 ∧ (∀ i, i < cTl S → okB (cBy S i)) ∧ cTd S ≤ 30 ∧ cRc S ≤ 10 ∧ (∀ q, live S q → (cSt S q).2.1 ≤ 40) ∧ ∀ i j q, i < 4 → j < 4 → cSh S i = some q → cSh S j = some q → i = j
def Inv (c0 : ip_C) (M : ip_M) (n : Nat) : Prop := ∃ S, clAt M n S ∧ mdAt M S ∧ okS S ∧ M 0 = c0
def bx {α : Type} (mk : α → Value) (c0 : ip_C) (d kx km : Nat) (as : List Value) (M : ip_M) (n : Nat) : Prop := ∀ Φ : ip_P, (∀ (a : α) (M1 : ip_M) (n1 : Nat), ip_isO M1 6 (some (.ref 95)) → (∀ Ψ : ip_P, (∀ M2, Inv c0 M2 n1 → Ψ (some (mk a)) M2 n1) → ip_call tb d km (.ref 95 :: as) M1 n1 Ψ) → M1 0 = c0 → Φ (some (mk a)) M1 n1) → ip_call tb d kx (.ref 64 :: as) M n Φ
theorem bfin {α : Type} {mk : α → Value} {c0 : ip_C} {M : ip_M} {S : Cs} (hm : mdAt M S) (h0 : M 0 = c0) {d km : Nat} {as : List Value} {Φ : ip_P} (h : ∀ (a : α) (M1 : ip_M) (n1 : Nat), ip_isO M1 6 (some (.ref 95)) → (∀ Ψ : ip_P, (∀ M2, Inv c0 M2 n1 → Ψ (some (mk a)) M2 n1) → ip_call tb d km (.ref 95 :: as) M1 n1 Ψ) → M1 0 = c0 → Φ (some (mk a)) M1 n1) {a : α} {M1 : ip_M} {n1 : Nat} {S' : Cs} (hc : clAt M1 n1 S') (hF : kFr M M1) (hm' : ∀ Ψ : ip_P, (∀ M2, mdAt M2 S' → mFr M1 M2 → okS S' → Ψ (some (mk a)) M2 n1) → ip_call tb d km (.ref 95 :: as) M1 n1 Ψ) : Φ (some (mk a)) M1 n1 := by
  refine h a M1 n1 ?_ (fun Ψ g => hm' Ψ (fun M2 a1 a2 a3 => g M2 ⟨S', hc.m a2, a1, a3, (a2 0 (by omega)).trans ((hF 0 (by omega)).trans h0)⟩)) ((hF 0 (by omega)).trans h0)
  obtain ⟨x, h95⟩ := (hm.k hF).1
  show (match M1 95 with | .inr (c, _) => c = 6 | _ => False)
  rw [h95]
  rfl
theorem okS.now {S : Cs} {R : Rg} (h : okS S) (hR : okR R) : okS (sNow S R) := ⟨hR, h.2⟩
theorem ok_addR {R : Rg} {x y : Int32} (ho : okR R) (h8 : rW R < 8) (hx : ∃ k, k < 6 ∧ x = nI k) : okR (addR R x y) := by
  obtain ⟨o1, o2, ⟨m, hm, em⟩, o4, ⟨n1, n2, n3, n4, n5, n6⟩, o6⟩ := ho
  refine ⟨by show rW R + 1 ≤ 8; omega, o2, ⟨m, Nat.lt_of_lt_of_le hm (Nat.pow_le_pow_right (by omega) (by show rW R ≤ rW R + 1; omega)), em⟩, o4, ⟨n1, nrm_up h8 n2, nrm_up h8 n3, nrm_up h8 n4, nrm_up h8 n5, nrm_up h8 n6⟩, fun i hi => ?_⟩
  have hi : i < rW R + 1 := hi
  show (∃ k, k < 6 ∧ upd (rKd R) (rW R) x i = nI k) ∧ (∃ p, p ≤ 20 ∧ upd (rPl R) (rW R) 0 i = nI p) ∧ is8 (upd (rYe R) (rW R) 0 i) ∧ is8 (upd (rNo R) (rW R) 0 i) ∧ upd (rYe R) (rW R) 0 i &&& upd (rNo R) (rW R) 0 i = 0
  by_cases ei : i = rW R
  · rw [ei, updS, updS, updS, updS]
    exact ⟨hx, ⟨0, by omega, rfl⟩, is8_0, is8_0, rfl⟩
  · rw [updN ei, updN ei, updN ei, updN ei]
    exact o6 i (by omega)
theorem ok_setKW {R : Rg} {j : Nat} {x y : Int32} (ho : okR R) (hj : j < rW R) (hx : ∃ k, k < 6 ∧ x = nI k) : okR (setKW R j x y) := by
  obtain ⟨o1, o2, o3, o4, ⟨n1, n2, n3, n4, n5, n6⟩, o6⟩ := ho
  refine ⟨o1, o2, o3, o4, ⟨n1, nrm_up (by omega) n2, nrm_up (by omega) n3, n4, n5, n6⟩, fun i hi => ?_⟩
  obtain ⟨a, b⟩ := o6 i hi
  refine ⟨?_, b⟩
  show ∃ k, k < 6 ∧ upd (rKd R) j x i = nI k
  by_cases ei : i = j
  · rw [ei, updS]; exact hx
  · rw [updN ei]; exact a
theorem ok_setYN {R : Rg} {j : Nat} {x y : Int32} (ho : okR R) (hj : j < rW R) (hx : is8 x) (hy : is8 y) (hz : x &&& y = 0) : okR (setYN R j x y) := by
  obtain ⟨o1, o2, o3, o4, ⟨n1, n2, n3, n4, n5, n6⟩, o6⟩ := ho
  refine ⟨o1, o2, o3, o4, ⟨n1, n2, n3, n4, nrm_up (by omega) n5, nrm_up (by omega) n6⟩, fun i hi => ?_⟩
  obtain ⟨a, b, c⟩ := o6 i hi
  refine ⟨a, b, ?_⟩
  show is8 (upd (rYe R) j x i) ∧ is8 (upd (rNo R) j y i) ∧ upd (rYe R) j x i &&& upd (rNo R) j y i = 0
  by_cases ei : i = j
  · rw [ei, updS, updS]; exact ⟨hx, hy, hz⟩
  · rw [updN ei, updN ei]; exact c
theorem ok_setPF {R : Rg} {j : Nat} {y : Int32} (ho : okR R) (hj : j < rW R) (hy : pl20 y) : okR (setPF R j y (withB (rFl R) (nI j) 0)) := by
  obtain ⟨o1, o2, ⟨m, hm, em⟩, o4, ⟨n1, n2, n3, n4, n5, n6⟩, o6⟩ := ho
  refine ⟨o1, o2, ⟨wbN m j 0, wbl_n o1 hm hj (by omega), ?_⟩, o4, ⟨n1, n2, n3, nrm_up (by omega) n4, n5, n6⟩, fun i hi => ?_⟩
  · show withB (rFl R) (nI j) 0 = _
    rw [em, show (0 : Int32) = nI 0 from rfl, wb_n (p2_8 o1 hm) (by omega) (by omega)]
  · obtain ⟨a, b, c⟩ := o6 i hi
    refine ⟨a, ?_, c⟩
    show pl20 (upd (rPl R) j y i)
    by_cases ei : i = j
    · rw [ei, updS]; exact hy
    · rw [updN ei]; exact b
theorem mdL_n {wt it : Nat → Int32} {p i : Nat} : ∀ m, p + m ≤ 8 → (∀ k, 8 ≤ k → wt k = 0) → ∀ k, 8 ≤ k → mdL wt it p i m k = 0
  | 0, _, h, k, hk => h k hk
  | m + 1, hm, h, k, hk => by
    show upd (mdL wt it p i m) (p + m) _ k = 0
    rw [updN (by omega)]
    exact mdL_n m (by omega) h k hk
theorem ok_setWt {R : Rg} {f : Nat → Int32} (ho : okR R) (hf : ∀ k, 8 ≤ k → f k = 0) : okR (setWt R f) := by
  obtain ⟨o1, o2, o3, o4, ⟨n1, n2, n3, n4, n5, n6⟩, o6⟩ := ho
  exact ⟨o1, o2, o3, o4, ⟨n1, n2, hf, n4, n5, n6⟩, o6⟩
theorem fd_ok {f : Nat → Int32} {x : Int64} {l : Nat} (h : ∀ i, i < l → okB (f i)) : ∀ m i, i < l + m → okB (fdL f x l m i)
  | 0, i, hi => h i hi
  | m + 1, i, hi => by
    show okB (upd (fdL f x l m) (l + m) (byt x (nI m)) i)
    by_cases e : i = l + m
    · rw [e, updS]
      unfold byt
      rw [nar_b]
      generalize Int32.toInt8 _ = z
      unfold okB
      rw [Int8.toInt_toInt32]
      have a := z.le_toInt
      have b := z.toInt_lt
      omega
    · rw [updN e]
      exact fd_ok h m i (by omega)
theorem okS_none {S : Cs} {i : Nat} (h : okS S) : okS (sSheet S i none) := by
  obtain ⟨o1, o2, o3, o4, o5, o6, o7, o8⟩ := h
  refine ⟨o1, o2, o3, o4, o5, o6, fun q hq => ?_, fun a b q ha hb e1 e2 => ?_⟩
  · obtain ⟨j, hj, e | e⟩ := hq
    · replace e : va_up (cSh S) i none j = some q := e
      by_cases ej : j = i
      · rw [ej, va_up_self] at e; exact absurd e (by intro z; cases z)
      · rw [va_up_ne _ _ ej] at e; exact o7 q ⟨j, hj, Or.inl e⟩
    · exact o7 q ⟨j, hj, Or.inr e⟩
  · replace e1 : va_up (cSh S) i none a = some q := e1
    replace e2 : va_up (cSh S) i none b = some q := e2
    by_cases ea : a = i
    · rw [ea, va_up_self] at e1; exact absurd e1 (by intro z; cases z)
    by_cases eb : b = i
    · rw [eb, va_up_self] at e2; exact absurd e2 (by intro z; cases z)
    rw [va_up_ne _ _ ea] at e1
    rw [va_up_ne _ _ eb] at e2
    exact o8 a b q ha hb e1 e2
theorem okS_strip {S : Cs} {i n N : Nat} {y : Int32} (hN : N ≤ 40) (hn : ¬ live S n) (h : okS S) : okS (sStrip (sSheet S i (some n)) n (y, N, fun _ => 0)) := by
  obtain ⟨o1, o2, o3, o4, o5, o6, o7, o8⟩ := h
  have key : ∀ q, live S q → (va_up (cSt S) n (y, N, fun _ => (0 : Int32)) q).2.1 ≤ 40 := fun q hq => by
    have hne : q ≠ n := fun e => hn (by rw [← e]; exact hq)
    rw [va_up_ne _ _ hne]; exact o7 q hq
  refine ⟨o1, o2, o3, o4, o5, o6, fun q hq => ?_, fun a b q ha hb e1 e2 => ?_⟩
  · show (va_up (cSt S) n (y, N, fun _ => (0 : Int32)) q).2.1 ≤ 40
    obtain ⟨j, hj, e | e⟩ := hq
    · replace e : va_up (cSh S) i (some n) j = some q := e
      by_cases ej : j = i
      · rw [ej, va_up_self] at e
        cases e
        rw [va_up_self]
        exact hN
      · rw [va_up_ne _ _ ej] at e; exact key q ⟨j, hj, Or.inl e⟩
    · exact key q ⟨j, hj, Or.inr e⟩
  · replace e1 : va_up (cSh S) i (some n) a = some q := e1
    replace e2 : va_up (cSh S) i (some n) b = some q := e2
    by_cases ea : a = i
    · by_cases eb : b = i
      · omega
      · rw [ea, va_up_self] at e1
        cases e1
        rw [va_up_ne _ _ eb] at e2
        exact absurd ⟨b, hb, Or.inl e2⟩ hn
    · rw [va_up_ne _ _ ea] at e1
      by_cases eb : b = i
      · rw [eb, va_up_self] at e2
        cases e2
        exact absurd ⟨a, ha, Or.inl e1⟩ hn
      · rw [va_up_ne _ _ eb] at e2
        exact o8 a b q ha hb e1 e2
theorem okS_put {S : Cs} {q : Nat} {g : Nat → Int32} (h : okS S) : okS (sStrip S q ((cSt S q).1, (cSt S q).2.1, g)) := by
  obtain ⟨o1, o2, o3, o4, o5, o6, o7, o8⟩ := h
  refine ⟨o1, o2, o3, o4, o5, o6, fun q' hq' => ?_, o8⟩
  show (va_up (cSt S) q _ q').2.1 ≤ 40
  by_cases e : q' = q
  · rw [e, va_up_self]; exact o7 q (e ▸ hq')
  · rw [va_up_ne _ _ e]; exact o7 q' hq'
theorem okS_shelf {S : Cs} {i : Nat} {v : Int32} {o : Option Nat} (ho : ∀ q, o = some q → live S q) (h : okS S) : okS (sShelf S i v o) := by
  obtain ⟨o1, o2, o3, o4, o5, o6, o7, o8⟩ := h
  refine ⟨o1, o2, o3, o4, o5, o6, fun q hq => ?_, o8⟩
  obtain ⟨j, hj, e | e⟩ := hq
  · exact o7 q ⟨j, hj, Or.inl e⟩
  · replace e : va_up (cSs S) i o j = some q := e
    by_cases ej : j = i
    · rw [ej, va_up_self] at e; exact o7 q (ho q e)
    · rw [va_up_ne _ _ ej] at e; exact o7 q ⟨j, hj, Or.inr e⟩
