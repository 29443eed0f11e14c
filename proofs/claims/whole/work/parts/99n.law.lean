theorem okR0 : okR R0 := by
  refine ⟨by show 0 ≤ 8; omega, is8_0, ⟨0, by show 0 < 2 ^ 0; decide, rfl⟩, ?_, R0_nrm, fun i hi => absurd hi (by show ¬ i < 0; omega)⟩
  intro k hk
  match k, hk with
  | 0, _ => exact ⟨8, by omega, rfl⟩
  | 1, _ => exact ⟨3, by omega, rfl⟩
  | 2, _ => exact ⟨2, by omega, rfl⟩
  | 3, _ => exact ⟨20, by omega, rfl⟩
theorem okS0 : okS S0 := by
  refine ⟨okR0, okR0, Nat.zero_le _, fun i hi => absurd hi (Nat.not_lt_zero _), Nat.zero_le _, Nat.zero_le _, fun q hq => ?_, fun i j q _ _ e _ => ?_⟩
  · obtain ⟨i, _, e | e⟩ := hq
    · exact absurd e (by intro z; cases z)
    · exact absurd e (by intro z; cases z)
  · exact absurd e (by intro z; cases z)
def lwL (i : Nat) : List (Option Value) := [some (.ref 0), some (.ref 64), some (.ref 95), some (.int (nI i))]
def lwA (c0 : ip_C) (i : Nat) (E : List ip_Op) (as : List Value) : Prop := ∀ (st : List Value) (M : ip_M) (n cu su : Nat) (K : ip_F → Prop), M 0 = c0 → K (lwL i, as.reverse ++ st, M, n, cu, su) → ip_ops E (lwL i, st, M, n, cu, su) K
theorem lwA0 {c0 : ip_C} {i : Nat} : lwA c0 i [] [] := fun st M n cu su K _ h => h
theorem lwA_app {c0 : ip_C} {i : Nat} {E F : List ip_Op} {as bs : List Value} (h1 : lwA c0 i E as) (h2 : lwA c0 i F bs) : lwA c0 i (E ++ F) (as ++ bs) := by
  intro st M n cu su K h0 h
  refine ip_ops_app _ _ _ (h1 st M n cu su _ h0 (h2 _ M n cu su K h0 ?_))
  rw [List.reverse_append, List.append_assoc] at h
  exact h
abbrev eI (c : Int32) : List ip_Op := [oLdA 0, oLdI 3, oI c, oBI (fun a b => a + b), oAldI]
theorem lwA_E {len i c : Nat} {s : Nat → Int32} {x : Int32} (hx : x = nI c) (hl : len ≤ 2560) (hc : i + c < len) : lwA (iA len s) i (eI x) [.int (s (i + c))] := by
  intro st M n cu su K h0 h
  show (match M 0 with | .inl (.int, N, .inl g) => vp_in (nI i + x) N ∧ K (lwL i, .int (g (nI i + x).toNatClampNeg) :: st, M, n, cu, su) | _ => False)
  rw [h0, hx, nI_add]
  show vp_in (nI (i + c)) len ∧ K (lwL i, .int (s (nI (i + c)).toNatClampNeg) :: st, M, n, cu, su)
  rw [nI_clamp (by omega)]
  exact ⟨vp_in_nI hc (by omega), h⟩
theorem lwC {call : ip_Cl} {cap cas ci k na mc ms : Nat} {L : List (Option Value)} {M : ip_M} {n cu su q : Nat} {K : ip_F → Prop} {as rest : List Value} (hna : na = as.length + 1) (hO : ip_isO M ci (some (.ref q))) (hr : rest.length ≤ 4) (hc : cu + mc ≤ cap) (hs : su + ms ≤ cas) (h : call k (.ref q :: as) M n (fun v M' n' => K (L, v.toList ++ rest, M', n', cu + mc, su + ms))) : oCaV call cap cas ci k na mc ms (L, as.reverse ++ .ref q :: rest, M, n, cu, su) K := by
  subst hna
  have e1 : (as.reverse ++ Value.ref q :: rest)[as.length + 1 - 1]? = some (.ref q) := by
    rw [Nat.add_sub_cancel, List.getElem?_append_right (by rw [List.length_reverse]; exact Nat.le_refl _), List.length_reverse, Nat.sub_self]; rfl
  have e2 : (as.reverse ++ Value.ref q :: rest) = (as.reverse ++ [Value.ref q]) ++ rest := by rw [List.append_assoc]; rfl
  have hl : (as.reverse ++ [Value.ref q]).length = as.length + 1 := by rw [List.length_append, List.length_reverse]; rfl
  have e3 : (as.reverse ++ Value.ref q :: rest).drop (as.length + 1) = rest := by rw [e2]; exact List.drop_left' hl
  have e4 : (as.reverse ++ Value.ref q :: rest).take (as.length + 1) = as.reverse ++ [Value.ref q] := by rw [e2]; exact List.take_left' hl
  rw [e_CaV, e1, e3, e4, List.reverse_append, List.reverse_reverse]
  exact ⟨hO, ⟨hr, by rw [e2, List.length_append, hl]; omega, hc, hs⟩, h⟩
theorem Inv.o5 {c0 : ip_C} {M : ip_M} {n : Nat} (h : Inv c0 M n) : ip_isO M 5 (some (.ref 64)) := by
  obtain ⟨S, hS, _⟩ := h
  rw [e_isO, hS.1]
  rfl
theorem lw_step {α : Type} {mk : α → Value} {c0 : ip_C} {d kx km na mc ms i : Nat} {as : List Value} {M : ip_M} {n cu su : Nat} {K : ip_F → Prop} {E os : List ip_Op} (hna : na = as.length + 1) (hE : lwA c0 i E as) (hI : Inv c0 M n) (hb : bx mk c0 d kx km as M n) (hc : cu + mc ≤ 600000) (hs : su + ms ≤ 7302250) (h : ∀ a M2 n2, Inv c0 M2 n2 → ip_ops os (lwL i, [mk a, mk a], M2, n2, cu + mc, su + ms) K) : ip_ops (oLdA 1 :: (E ++ (oCaV (ip_call tb d) 600000 7302250 5 kx na mc ms :: oLdA 2 :: (E ++ (oCaV (ip_call tb d) 600000 7302250 6 km na 0 0 :: os))))) (lwL i, [], M, n, cu, su) K := by
  have h0 : M 0 = c0 := by
    obtain ⟨S, _, _, _, e⟩ := hI
    exact e
  refine (show ip_ops (E ++ (oCaV (ip_call tb d) 600000 7302250 5 kx na mc ms :: oLdA 2 :: (E ++ (oCaV (ip_call tb d) 600000 7302250 6 km na 0 0 :: os)))) (lwL i, [.ref 64], M, n, cu, su) K from ?_)
  refine ip_ops_app _ _ _ (hE _ M n cu su _ h0 ?_)
  refine (show oCaV (ip_call tb d) 600000 7302250 5 kx na mc ms (lwL i, as.reverse ++ [.ref 64], M, n, cu, su) (fun f => ip_ops (oLdA 2 :: (E ++ (oCaV (ip_call tb d) 600000 7302250 6 km na 0 0 :: os))) f K) from ?_)
  refine lwC hna hI.o5 (Nat.zero_le _) hc hs (hb _ (fun a M1 n1 hO hm h1 => ?_))
  refine (show ip_ops (E ++ (oCaV (ip_call tb d) 600000 7302250 6 km na 0 0 :: os)) (lwL i, [.ref 95, mk a], M1, n1, cu + mc, su + ms) K from ?_)
  refine ip_ops_app _ _ _ (hE _ M1 n1 _ _ _ h1 ?_)
  refine (show oCaV (ip_call tb d) 600000 7302250 6 km na 0 0 (lwL i, as.reverse ++ .ref 95 :: [mk a], M1, n1, cu + mc, su + ms) (fun f => ip_ops os f K) from ?_)
  refine lwC hna hO (by show 1 ≤ 4; omega) hc hs (hm _ (fun M2 g => h a M2 n1 g))
def lcase (d len : Nat) (s : Nat → Int32) (Φ : ip_P) (j : Nat) : Prop := ∀ (i : Nat) (M : ip_M) (n cu su : Nat), i + 5 ≤ len → len ≤ 2560 → cu ≤ 5000 → su ≤ 50000 → Inv (iA len s) M n → (∀ M2 n2 cu2 su2, Inv (iA len s) M2 n2 → cu2 ≤ cu + 2 → su2 ≤ su + 42 → ip_Ev (T_L_law (ip_call tb d)) Φ 89 (lwL i, [], M2, n2, cu2, su2)) → ip_Ev (T_L_law (ip_call tb d)) Φ j (lwL i, [], M, n, cu, su)
theorem lwA_F {len i : Nat} {s : Nat → Int32} (hl : len ≤ 2560) (hc : i + 5 ≤ len) : lwA (iA len s) i (eI 1 ++ ([oIL, oI (32), oSL (fun a b => a <<< (b.toInt64 &&& 63))] ++ (eI 2 ++ ([oIL, oL (4294967295), oBL (fun a b => a &&& b), oBL (fun a b => a ||| b)] ++ eI 3)))) [.long (((s (i + 1)).toInt64 <<< ((32 : Int32).toInt64 &&& 63)) ||| ((s (i + 2)).toInt64 &&& 4294967295)), .int (s (i + 3))] := by
  intro st M n cu su K h0 h
  refine ip_ops_app _ _ _ (lwA_E (c := 1) rfl hl (by omega) _ _ _ _ _ _ h0 ?_)
  refine ip_ops_app _ _ _ ?_
  refine (show ip_ops (eI 2 ++ ([oIL, oL (4294967295), oBL (fun a b => a &&& b), oBL (fun a b => a ||| b)] ++ eI 3)) (lwL i, .long ((s (i + 1)).toInt64 <<< ((32 : Int32).toInt64 &&& 63)) :: st, M, n, cu, su) K from ?_)
  refine ip_ops_app _ _ _ (lwA_E (c := 2) rfl hl (by omega) _ _ _ _ _ _ h0 ?_)
  refine ip_ops_app _ _ _ ?_
  refine (show ip_ops (eI 3) (lwL i, .long (((s (i + 1)).toInt64 <<< ((32 : Int32).toInt64 &&& 63)) ||| ((s (i + 2)).toInt64 &&& 4294967295)) :: st, M, n, cu, su) K from ?_)
  exact lwA_E (c := 3) rfl hl (by omega) _ _ _ _ _ _ h0 h
theorem lc_0 {d len : Nat} (hd : 100 ≤ d) {s : Nat → Int32} {Φ : ip_P} : lcase d len s Φ 3 := by
  intro i M n cu su hi hl hcu hsu hI h
  refine ip_step rfl ?_
  refine lw_step (mc := 0) (ms := 0) rfl (lwA_F hl hi) hI (b_feed hd hI) (by omega) (by omega) (fun a M2 n2 h2 => ?_)
  exact ⟨fun _ => h M2 n2 _ _ h2 (by omega) (by omega), fun c => absurd rfl c⟩
theorem lc_1 {d len : Nat} (hd : 100 ≤ d) {s : Nat → Int32} {Φ : ip_P} : lcase d len s Φ 5 := by
  intro i M n cu su hi hl hcu hsu hI h
  refine ip_step rfl ?_
  refine lw_step (mc := 0) (ms := 0) rfl lwA0 hI (b_circus hd hI) (by omega) (by omega) (fun a M2 n2 h2 => ?_)
  exact ⟨fun _ => h M2 n2 _ _ h2 (by omega) (by omega), fun c => absurd rfl c⟩
theorem lc_2 {d len : Nat} (hd : 100 ≤ d) {s : Nat → Int32} {Φ : ip_P} : lcase d len s Φ 7 := by
  intro i M n cu su hi hl hcu hsu hI h
  refine ip_step rfl ?_
  refine lw_step (mc := 0) (ms := 0) rfl (lwA_app (lwA_E (c := 1) rfl hl (by omega)) (lwA_E (c := 2) rfl hl (by omega))) hI (b_set hd hI) (by omega) (by omega) (fun a M2 n2 h2 => ?_)
  exact ⟨fun _ => h M2 n2 _ _ h2 (by omega) (by omega), fun c => absurd rfl c⟩
theorem lc_3 {d len : Nat} (hd : 100 ≤ d) {s : Nat → Int32} {Φ : ip_P} : lcase d len s Φ 9 := by
  intro i M n cu su hi hl hcu hsu hI h
  refine ip_step rfl ?_
  refine lw_step (mc := 0) (ms := 0) rfl (lwA_E (c := 1) rfl hl (by omega)) hI (b_lawOf hd hI) (by omega) (by omega) (fun a M2 n2 h2 => ?_)
  exact ⟨fun _ => h M2 n2 _ _ h2 (by omega) (by omega), fun c => absurd rfl c⟩
theorem lc_4 {d len : Nat} (hd : 100 ≤ d) {s : Nat → Int32} {Φ : ip_P} : lcase d len s Φ 11 := by
  intro i M n cu su hi hl hcu hsu hI h
  refine ip_step rfl ?_
  refine lw_step (mc := 0) (ms := 0) rfl (lwA_app (lwA_E (c := 1) rfl hl (by omega)) (lwA_E (c := 2) rfl hl (by omega))) hI (b_fact hd hI) (by omega) (by omega) (fun a M2 n2 h2 => ?_)
  exact ⟨fun _ => h M2 n2 _ _ h2 (by omega) (by omega), fun c => absurd rfl c⟩
theorem lc_5 {d len : Nat} (hd : 100 ≤ d) {s : Nat → Int32} {Φ : ip_P} : lcase d len s Φ 13 := by
  intro i M n cu su hi hl hcu hsu hI h
  refine ip_step rfl ?_
  refine lw_step (mc := 0) (ms := 0) rfl (lwA_app (lwA_E (c := 1) rfl hl (by omega)) (lwA_E (c := 2) rfl hl (by omega))) hI (b_walker hd hI) (by omega) (by omega) (fun a M2 n2 h2 => ?_)
  exact ⟨fun _ => h M2 n2 _ _ h2 (by omega) (by omega), fun c => absurd rfl c⟩
theorem lc_6 {d len : Nat} (hd : 100 ≤ d) {s : Nat → Int32} {Φ : ip_P} : lcase d len s Φ 15 := by
  intro i M n cu su hi hl hcu hsu hI h
  refine ip_step rfl ?_
  refine lw_step (mc := 0) (ms := 0) rfl (lwA_app (lwA_E (c := 1) rfl hl (by omega)) (lwA_E (c := 2) rfl hl (by omega))) hI (b_of hd hI) (by omega) (by omega) (fun a M2 n2 h2 => ?_)
  exact ⟨fun _ => h M2 n2 _ _ h2 (by omega) (by omega), fun c => absurd rfl c⟩
theorem lc_7 {d len : Nat} (hd : 100 ≤ d) {s : Nat → Int32} {Φ : ip_P} : lcase d len s Φ 17 := by
  intro i M n cu su hi hl hcu hsu hI h
  refine ip_step rfl ?_
  refine lw_step (mc := 0) (ms := 0) rfl (lwA_app (lwA_E (c := 1) rfl hl (by omega)) (lwA_E (c := 2) rfl hl (by omega))) hI (b_does hd hI) (by omega) (by omega) (fun a M2 n2 h2 => ?_)
  exact ⟨fun _ => h M2 n2 _ _ h2 (by omega) (by omega), fun c => absurd rfl c⟩
theorem lc_8 {d len : Nat} (hd : 100 ≤ d) {s : Nat → Int32} {Φ : ip_P} : lcase d len s Φ 19 := by
  intro i M n cu su hi hl hcu hsu hI h
  refine ip_step rfl ?_
  refine lw_step (mc := 0) (ms := 0) rfl (lwA_app (lwA_E (c := 1) rfl hl (by omega)) (lwA_app (lwA_E (c := 2) rfl hl (by omega)) (lwA_E (c := 3) rfl hl (by omega)))) hI (b_mind hd hI) (by omega) (by omega) (fun a M2 n2 h2 => ?_)
  exact ⟨fun _ => h M2 n2 _ _ h2 (by omega) (by omega), fun c => absurd rfl c⟩
theorem lc_9 {d len : Nat} (hd : 100 ≤ d) {s : Nat → Int32} {Φ : ip_P} : lcase d len s Φ 21 := by
  intro i M n cu su hi hl hcu hsu hI h
  refine ip_step rfl ?_
  refine lw_step (mc := 0) (ms := 0) rfl (lwA_app (lwA_E (c := 1) rfl hl (by omega)) (lwA_app (lwA_E (c := 2) rfl hl (by omega)) (lwA_E (c := 3) rfl hl (by omega)))) hI (b_say hd hI) (by omega) (by omega) (fun a M2 n2 h2 => ?_)
  exact ⟨fun _ => h M2 n2 _ _ h2 (by omega) (by omega), fun c => absurd rfl c⟩
theorem lc_10 {d len : Nat} (hd : 100 ≤ d) {s : Nat → Int32} {Φ : ip_P} : lcase d len s Φ 23 := by
  intro i M n cu su hi hl hcu hsu hI h
  refine ip_step rfl ?_
  refine lw_step (mc := 0) (ms := 0) rfl (lwA_app (lwA_E (c := 1) rfl hl (by omega)) (lwA_E (c := 2) rfl hl (by omega))) hI (b_stand hd hI) (by omega) (by omega) (fun a M2 n2 h2 => ?_)
  exact ⟨fun _ => h M2 n2 _ _ h2 (by omega) (by omega), fun c => absurd rfl c⟩
theorem lc_11 {d len : Nat} (hd : 100 ≤ d) {s : Nat → Int32} {Φ : ip_P} : lcase d len s Φ 25 := by
  intro i M n cu su hi hl hcu hsu hI h
  refine ip_step rfl ?_
  refine lw_step (mc := 0) (ms := 0) rfl (lwA_E (c := 1) rfl hl (by omega)) hI (b_steps hd hI) (by omega) (by omega) (fun a M2 n2 h2 => ?_)
  exact ⟨fun _ => h M2 n2 _ _ h2 (by omega) (by omega), fun c => absurd rfl c⟩
theorem lc_12 {d len : Nat} (hd : 100 ≤ d) {s : Nat → Int32} {Φ : ip_P} : lcase d len s Φ 27 := by
  intro i M n cu su hi hl hcu hsu hI h
  refine ip_step rfl ?_
  refine lw_step (mc := 0) (ms := 0) rfl (lwA_E (c := 1) rfl hl (by omega)) hI (b_seed hd hI) (by omega) (by omega) (fun a M2 n2 h2 => ?_)
  exact ⟨fun _ => h M2 n2 _ _ h2 (by omega) (by omega), fun c => absurd rfl c⟩
theorem lc_13 {d len : Nat} (hd : 100 ≤ d) {s : Nat → Int32} {Φ : ip_P} : lcase d len s Φ 29 := by
  intro i M n cu su hi hl hcu hsu hI h
  refine ip_step rfl ?_
  refine lw_step (mc := 0) (ms := 0) rfl lwA0 hI (b_step hd hI) (by omega) (by omega) (fun a M2 n2 h2 => ?_)
  exact ⟨fun _ => h M2 n2 _ _ h2 (by omega) (by omega), fun c => absurd rfl c⟩
theorem lc_14 {d len : Nat} (hd : 100 ≤ d) {s : Nat → Int32} {Φ : ip_P} : lcase d len s Φ 31 := by
  intro i M n cu su hi hl hcu hsu hI h
  refine ip_step rfl ?_
  refine lw_step (mc := 0) (ms := 0) rfl (lwA_E (c := 1) rfl hl (by omega)) hI (b_luck hd hI) (by omega) (by omega) (fun a M2 n2 h2 => ?_)
  exact ⟨fun _ => h M2 n2 _ _ h2 (by omega) (by omega), fun c => absurd rfl c⟩
theorem lc_15 {d len : Nat} (hd : 100 ≤ d) {s : Nat → Int32} {Φ : ip_P} : lcase d len s Φ 33 := by
  intro i M n cu su hi hl hcu hsu hI h
  refine ip_step rfl ?_
  refine lw_step (mc := 0) (ms := 0) rfl (lwA_E (c := 1) rfl hl (by omega)) hI (b_state hd hI) (by omega) (by omega) (fun a M2 n2 h2 => ?_)
  exact ⟨fun _ => h M2 n2 _ _ h2 (by omega) (by omega), fun c => absurd rfl c⟩
theorem lc_16 {d len : Nat} (hd : 100 ≤ d) {s : Nat → Int32} {Φ : ip_P} : lcase d len s Φ 35 := by
  intro i M n cu su hi hl hcu hsu hI h
  refine ip_step rfl ?_
  refine lw_step (mc := 0) (ms := 0) rfl (lwA_app (lwA_E (c := 1) rfl hl (by omega)) (lwA_E (c := 2) rfl hl (by omega))) hI (b_reaches hd hI) (by omega) (by omega) (fun a M2 n2 h2 => ?_)
  exact ⟨fun _ => h M2 n2 _ _ h2 (by omega) (by omega), fun c => absurd rfl c⟩
theorem lc_17 {d len : Nat} (hd : 100 ≤ d) {s : Nat → Int32} {Φ : ip_P} : lcase d len s Φ 37 := by
  intro i M n cu su hi hl hcu hsu hI h
  refine ip_step rfl ?_
  refine lw_step (mc := 0) (ms := 0) rfl (lwA_E (c := 1) rfl hl (by omega)) hI (b_over hd hI) (by omega) (by omega) (fun a M2 n2 h2 => ?_)
  exact ⟨fun _ => h M2 n2 _ _ h2 (by omega) (by omega), fun c => absurd rfl c⟩
theorem lc_18 {d len : Nat} (hd : 100 ≤ d) {s : Nat → Int32} {Φ : ip_P} : lcase d len s Φ 39 := by
  intro i M n cu su hi hl hcu hsu hI h
  refine ip_step rfl ?_
  refine lw_step (mc := 0) (ms := 0) rfl (lwA_E (c := 1) rfl hl (by omega)) hI (b_falls hd hI) (by omega) (by omega) (fun a M2 n2 h2 => ?_)
  exact ⟨fun _ => h M2 n2 _ _ h2 (by omega) (by omega), fun c => absurd rfl c⟩
theorem lc_19 {d len : Nat} (hd : 100 ≤ d) {s : Nat → Int32} {Φ : ip_P} : lcase d len s Φ 41 := by
  intro i M n cu su hi hl hcu hsu hI h
  refine ip_step rfl ?_
  refine lw_step (mc := 0) (ms := 0) rfl lwA0 hI (b_end hd hI) (by omega) (by omega) (fun a M2 n2 h2 => ?_)
  exact ⟨fun _ => h M2 n2 _ _ h2 (by omega) (by omega), fun c => absurd rfl c⟩
theorem lc_20 {d len : Nat} (hd : 100 ≤ d) {s : Nat → Int32} {Φ : ip_P} : lcase d len s Φ 43 := by
  intro i M n cu su hi hl hcu hsu hI h
  refine ip_step rfl ?_
  refine lw_step (mc := 0) (ms := 0) rfl (lwA_app (lwA_E (c := 1) rfl hl (by omega)) (lwA_E (c := 2) rfl hl (by omega))) hI (b_sayFor hd hI) (by omega) (by omega) (fun a M2 n2 h2 => ?_)
  exact ⟨fun _ => h M2 n2 _ _ h2 (by omega) (by omega), fun c => absurd rfl c⟩
theorem lc_21 {d len : Nat} (hd : 100 ≤ d) {s : Nat → Int32} {Φ : ip_P} : lcase d len s Φ 45 := by
  intro i M n cu su hi hl hcu hsu hI h
  refine ip_step rfl ?_
  refine lw_step (mc := 0) (ms := 0) rfl (lwA_app (lwA_E (c := 1) rfl hl (by omega)) (lwA_E (c := 2) rfl hl (by omega))) hI (b_kindFor hd hI) (by omega) (by omega) (fun a M2 n2 h2 => ?_)
  exact ⟨fun _ => h M2 n2 _ _ h2 (by omega) (by omega), fun c => absurd rfl c⟩
theorem lc_22 {d len : Nat} (hd : 100 ≤ d) {s : Nat → Int32} {Φ : ip_P} : lcase d len s Φ 47 := by
  intro i M n cu su hi hl hcu hsu hI h
  refine ip_step rfl ?_
  refine lw_step (mc := 0) (ms := 0) rfl (lwA_app (lwA_E (c := 1) rfl hl (by omega)) (lwA_E (c := 2) rfl hl (by omega))) hI (b_turnedFor hd hI) (by omega) (by omega) (fun a M2 n2 h2 => ?_)
  exact ⟨fun _ => h M2 n2 _ _ h2 (by omega) (by omega), fun c => absurd rfl c⟩
theorem lc_23 {d len : Nat} (hd : 100 ≤ d) {s : Nat → Int32} {Φ : ip_P} : lcase d len s Φ 49 := by
  intro i M n cu su hi hl hcu hsu hI h
  refine ip_step rfl ?_
  refine lw_step (mc := 0) (ms := 0) rfl (lwA_app (lwA_E (c := 1) rfl hl (by omega)) (lwA_E (c := 2) rfl hl (by omega))) hI (b_loadFor hd hI) (by omega) (by omega) (fun a M2 n2 h2 => ?_)
  exact ⟨fun _ => h M2 n2 _ _ h2 (by omega) (by omega), fun c => absurd rfl c⟩
theorem lc_24 {d len : Nat} (hd : 100 ≤ d) {s : Nat → Int32} {Φ : ip_P} : lcase d len s Φ 51 := by
  intro i M n cu su hi hl hcu hsu hI h
  refine ip_step rfl ?_
  refine lw_step (mc := 0) (ms := 0) rfl (lwA_app (lwA_E (c := 1) rfl hl (by omega)) (lwA_app (lwA_E (c := 2) rfl hl (by omega)) (lwA_E (c := 3) rfl hl (by omega)))) hI (b_both hd hI) (by omega) (by omega) (fun a M2 n2 h2 => ?_)
  exact ⟨fun _ => h M2 n2 _ _ h2 (by omega) (by omega), fun c => absurd rfl c⟩
theorem lc_25 {d len : Nat} (hd : 100 ≤ d) {s : Nat → Int32} {Φ : ip_P} : lcase d len s Φ 53 := by
  intro i M n cu su hi hl hcu hsu hI h
  refine ip_step rfl ?_
  refine lw_step (mc := 0) (ms := 0) rfl (lwA_app (lwA_E (c := 1) rfl hl (by omega)) (lwA_app (lwA_E (c := 2) rfl hl (by omega)) (lwA_E (c := 3) rfl hl (by omega)))) hI (b_fits hd hI) (by omega) (by omega) (fun a M2 n2 h2 => ?_)
  exact ⟨fun _ => h M2 n2 _ _ h2 (by omega) (by omega), fun c => absurd rfl c⟩
theorem lc_26 {d len : Nat} (hd : 100 ≤ d) {s : Nat → Int32} {Φ : ip_P} : lcase d len s Φ 55 := by
  intro i M n cu su hi hl hcu hsu hI h
  refine ip_step rfl ?_
  refine lw_step (mc := 0) (ms := 0) rfl (lwA_app (lwA_E (c := 1) rfl hl (by omega)) (lwA_app (lwA_E (c := 2) rfl hl (by omega)) (lwA_E (c := 3) rfl hl (by omega)))) hI (b_odds hd hI) (by omega) (by omega) (fun a M2 n2 h2 => ?_)
  refine (show (lg_cmp a a = 0 → _) ∧ (¬ lg_cmp a a = 0 → _) from ?_)
  exact ⟨fun _ => h M2 n2 _ _ h2 (by omega) (by omega), fun c => absurd (lg_eq.mpr rfl) c⟩
theorem lc_27 {d len : Nat} (hd : 100 ≤ d) {s : Nat → Int32} {Φ : ip_P} : lcase d len s Φ 57 := by
  intro i M n cu su hi hl hcu hsu hI h
  refine ip_step rfl ?_
  refine lw_step (mc := 0) (ms := 0) rfl (lwA_app (lwA_E (c := 1) rfl hl (by omega)) (lwA_E (c := 2) rfl hl (by omega))) hI (b_hope hd hI) (by omega) (by omega) (fun a M2 n2 h2 => ?_)
  refine (show (lg_cmp a a = 0 → _) ∧ (¬ lg_cmp a a = 0 → _) from ?_)
  exact ⟨fun _ => h M2 n2 _ _ h2 (by omega) (by omega), fun c => absurd (lg_eq.mpr rfl) c⟩
theorem lc_28 {d len : Nat} (hd : 100 ≤ d) {s : Nat → Int32} {Φ : ip_P} : lcase d len s Φ 59 := by
  intro i M n cu su hi hl hcu hsu hI h
  refine ip_step rfl ?_
  refine lw_step (mc := 0) (ms := 0) rfl (lwA_app (lwA_E (c := 1) rfl hl (by omega)) (lwA_E (c := 2) rfl hl (by omega))) hI (b_prove hd hI) (by omega) (by omega) (fun a M2 n2 h2 => ?_)
  exact ⟨fun _ => h M2 n2 _ _ h2 (by omega) (by omega), fun c => absurd rfl c⟩
theorem lc_29 {d len : Nat} (hd : 100 ≤ d) {s : Nat → Int32} {Φ : ip_P} : lcase d len s Φ 61 := by
  intro i M n cu su hi hl hcu hsu hI h
  refine ip_step rfl ?_
  refine lw_step (mc := 0) (ms := 0) rfl (lwA_app (lwA_E (c := 1) rfl hl (by omega)) (lwA_E (c := 2) rfl hl (by omega))) hI (b_row hd hI) (by omega) (by omega) (fun a M2 n2 h2 => ?_)
  exact ⟨fun _ => h M2 n2 _ _ h2 (by omega) (by omega), fun c => absurd rfl c⟩
theorem lc_30 {d len : Nat} (hd : 100 ≤ d) {s : Nat → Int32} {Φ : ip_P} : lcase d len s Φ 63 := by
  intro i M n cu su hi hl hcu hsu hI h
  refine ip_step rfl ?_
  refine lw_step (mc := 0) (ms := 0) rfl (lwA_app (lwA_E (c := 1) rfl hl (by omega)) (lwA_app (lwA_E (c := 2) rfl hl (by omega)) (lwA_E (c := 3) rfl hl (by omega)))) hI (b_alterRow hd hI) (by omega) (by omega) (fun a M2 n2 h2 => ?_)
  exact ⟨fun _ => h M2 n2 _ _ h2 (by omega) (by omega), fun c => absurd rfl c⟩
theorem lc_31 {d len : Nat} (hd : 100 ≤ d) {s : Nat → Int32} {Φ : ip_P} : lcase d len s Φ 65 := by
  intro i M n cu su hi hl hcu hsu hI h
  refine ip_step rfl ?_
  refine lw_step (mc := 0) (ms := 0) rfl (lwA_E (c := 1) rfl hl (by omega)) hI (b_judge hd hI) (by omega) (by omega) (fun a M2 n2 h2 => ?_)
  exact ⟨fun _ => h M2 n2 _ _ h2 (by omega) (by omega), fun c => absurd rfl c⟩
theorem lc_32 {d len : Nat} (hd : 100 ≤ d) {s : Nat → Int32} {Φ : ip_P} : lcase d len s Φ 67 := by
  intro i M n cu su hi hl hcu hsu hI h
  refine ip_step rfl ?_
  refine lw_step (mc := 0) (ms := 0) rfl (lwA_app (lwA_E (c := 1) rfl hl (by omega)) (lwA_app (lwA_E (c := 2) rfl hl (by omega)) (lwA_app (lwA_E (c := 3) rfl hl (by omega)) (lwA_E (c := 4) rfl hl (by omega))))) hI (b_minds hd hI) (by omega) (by omega) (fun a M2 n2 h2 => ?_)
  exact ⟨fun _ => h M2 n2 _ _ h2 (by omega) (by omega), fun c => absurd rfl c⟩
theorem lc_33 {d len : Nat} (hd : 100 ≤ d) {s : Nat → Int32} {Φ : ip_P} : lcase d len s Φ 69 := by
  intro i M n cu su hi hl hcu hsu hI h
  refine ip_step rfl ?_
  refine lw_step (mc := 2) (ms := 42) rfl (lwA_app (lwA_E (c := 1) rfl hl (by omega)) (lwA_app (lwA_E (c := 2) rfl hl (by omega)) (lwA_E (c := 3) rfl hl (by omega)))) hI (b_sheet hd hI) (by omega) (by omega) (fun a M2 n2 h2 => ?_)
  exact ⟨fun _ => h M2 n2 _ _ h2 (by omega) (by omega), fun c => absurd rfl c⟩
theorem lc_34 {d len : Nat} (hd : 100 ≤ d) {s : Nat → Int32} {Φ : ip_P} : lcase d len s Φ 71 := by
  intro i M n cu su hi hl hcu hsu hI h
  refine ip_step rfl ?_
  refine lw_step (mc := 0) (ms := 0) rfl (lwA_app (lwA_E (c := 1) rfl hl (by omega)) (lwA_app (lwA_E (c := 2) rfl hl (by omega)) (lwA_E (c := 3) rfl hl (by omega)))) hI (b_put hd hI) (by omega) (by omega) (fun a M2 n2 h2 => ?_)
  exact ⟨fun _ => h M2 n2 _ _ h2 (by omega) (by omega), fun c => absurd rfl c⟩
theorem lc_35 {d len : Nat} (hd : 100 ≤ d) {s : Nat → Int32} {Φ : ip_P} : lcase d len s Φ 73 := by
  intro i M n cu su hi hl hcu hsu hI h
  refine ip_step rfl ?_
  refine lw_step (mc := 0) (ms := 0) rfl (lwA_app (lwA_E (c := 1) rfl hl (by omega)) (lwA_app (lwA_E (c := 2) rfl hl (by omega)) (lwA_E (c := 3) rfl hl (by omega)))) hI (b_item hd hI) (by omega) (by omega) (fun a M2 n2 h2 => ?_)
  exact ⟨fun _ => h M2 n2 _ _ h2 (by omega) (by omega), fun c => absurd rfl c⟩
theorem lc_36 {d len : Nat} (hd : 100 ≤ d) {s : Nat → Int32} {Φ : ip_P} : lcase d len s Φ 75 := by
  intro i M n cu su hi hl hcu hsu hI h
  refine ip_step rfl ?_
  refine lw_step (mc := 0) (ms := 0) rfl (lwA_app (lwA_E (c := 1) rfl hl (by omega)) (lwA_app (lwA_E (c := 2) rfl hl (by omega)) (lwA_E (c := 3) rfl hl (by omega)))) hI (b_shelf hd hI) (by omega) (by omega) (fun a M2 n2 h2 => ?_)
  exact ⟨fun _ => h M2 n2 _ _ h2 (by omega) (by omega), fun c => absurd rfl c⟩
theorem lc_37 {d len : Nat} (hd : 100 ≤ d) {s : Nat → Int32} {Φ : ip_P} : lcase d len s Φ 77 := by
  intro i M n cu su hi hl hcu hsu hI h
  refine ip_step rfl ?_
  refine lw_step (mc := 0) (ms := 0) rfl (lwA_app (lwA_E (c := 1) rfl hl (by omega)) (lwA_E (c := 2) rfl hl (by omega))) hI (b_taken hd hI) (by omega) (by omega) (fun a M2 n2 h2 => ?_)
  exact ⟨fun _ => h M2 n2 _ _ h2 (by omega) (by omega), fun c => absurd rfl c⟩
theorem lc_38 {d len : Nat} (hd : 100 ≤ d) {s : Nat → Int32} {Φ : ip_P} : lcase d len s Φ 79 := by
  intro i M n cu su hi hl hcu hsu hI h
  refine ip_step rfl ?_
  refine lw_step (mc := 0) (ms := 0) rfl (lwA_app (lwA_E (c := 1) rfl hl (by omega)) (lwA_app (lwA_E (c := 2) rfl hl (by omega)) (lwA_E (c := 3) rfl hl (by omega)))) hI (b_act hd hI) (by omega) (by omega) (fun a M2 n2 h2 => ?_)
  exact ⟨fun _ => h M2 n2 _ _ h2 (by omega) (by omega), fun c => absurd rfl c⟩
theorem lc_39 {d len : Nat} (hd : 100 ≤ d) {s : Nat → Int32} {Φ : ip_P} : lcase d len s Φ 81 := by
  intro i M n cu su hi hl hcu hsu hI h
  refine ip_step rfl ?_
  refine lw_step (mc := 0) (ms := 0) rfl (lwA_E (c := 1) rfl hl (by omega)) hI (b_trace hd hI) (by omega) (by omega) (fun a M2 n2 h2 => ?_)
  exact ⟨fun _ => h M2 n2 _ _ h2 (by omega) (by omega), fun c => absurd rfl c⟩
theorem lc_40 {d len : Nat} (hd : 100 ≤ d) {s : Nat → Int32} {Φ : ip_P} : lcase d len s Φ 83 := by
  intro i M n cu su hi hl hcu hsu hI h
  refine ip_step rfl ?_
  refine lw_step (mc := 0) (ms := 0) rfl (lwA_E (c := 1) rfl hl (by omega)) hI (b_many hd hI) (by omega) (by omega) (fun a M2 n2 h2 => ?_)
  exact ⟨fun _ => h M2 n2 _ _ h2 (by omega) (by omega), fun c => absurd rfl c⟩
theorem lc_41 {d len : Nat} (hd : 100 ≤ d) {s : Nat → Int32} {Φ : ip_P} : lcase d len s Φ 85 := by
  intro i M n cu su hi hl hcu hsu hI h
  refine ip_step rfl ?_
  refine lw_step (mc := 0) (ms := 0) rfl lwA0 hI (b_keep hd hI) (by omega) (by omega) (fun a M2 n2 h2 => ?_)
  exact ⟨fun _ => h M2 n2 _ _ h2 (by omega) (by omega), fun c => absurd rfl c⟩
theorem lc_42 {d len : Nat} (hd : 100 ≤ d) {s : Nat → Int32} {Φ : ip_P} : lcase d len s Φ 87 := by
  intro i M n cu su hi hl hcu hsu hI h
  refine ip_step rfl ?_
  refine lw_step (mc := 0) (ms := 0) rfl lwA0 hI (b_again hd hI) (by omega) (by omega) (fun a M2 n2 h2 => ?_)
  exact ⟨fun _ => h M2 n2 _ _ h2 (by omega) (by omega), fun c => absurd rfl c⟩
