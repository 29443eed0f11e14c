theorem sw_all {P : Nat → Prop} {d : Nat} {x : Int32} (hd : P d) : ∀ (l : List (Int32 × Nat)), (∀ q ∈ l, P q.2) → P (ip_sw l d x)
  | [], _ => hd
  | (k, t) :: l, h => by
    show P (if x = k then t else ip_sw l d x)
    by_cases e : x = k
    · rw [if_pos e]; exact h (k, t) List.mem_cons_self
    · rw [if_neg e]; exact sw_all hd l (fun q hq => h q (List.mem_cons_of_mem _ hq))
theorem lw_end {len i : Nat} (hl : len ≤ 2560) (hi : i ≤ 3000) (h : ¬ (Int32.ofNat len - 5 < nI i)) : i + 5 ≤ len := by
  by_cases h5 : 5 ≤ len
  · obtain ⟨m, rfl⟩ : ∃ m, len = m + 5 := ⟨len - 5, by omega⟩
    rw [show Int32.ofNat (m + 5) = nI m + nI 5 from (nI_add m 5).symm, show (5 : Int32) = nI 5 from rfl, Int32.add_sub_cancel, nI_ltI (by omega) (by omega)] at h
    omega
  · refine absurd ?_ h
    rw [Int32.lt_iff_toInt_lt]
    have e2 : (nI i).toInt = i := by show (Int32.ofNat i).toInt = i; rw [Int32.toInt_ofNat_of_lt (by omega)]
    rw [e2]
    have : (Int32.ofNat len - 5).toInt < 0 := by
      match len, h5 with
      | 0, _ => decide
      | 1, _ => decide
      | 2, _ => decide
      | 3, _ => decide
      | 4, _ => decide
      | k + 5, h5 => omega
    omega
theorem lw_loop {d len : Nat} (hd : 100 ≤ d) (hl : len ≤ 2560) {s : Nat → Int32} {Φ : ip_P} (hΦ : ∀ M n, Φ (some (.int 1)) M n) : ∀ (m i : Nat) (M : ip_M) (n cu su : Nat), len ≤ i + 5 * m → i ≤ len + 5 → cu ≤ 46 + i → su ≤ 1193 + 9 * i → Inv (iA len s) M n → ip_Ev (T_L_law (ip_call tb d)) Φ 1 (lwL i, [], M, n, cu, su)
  | m, i, M, n, cu, su, hm, hi, hcu, hsu, hI => by
    have h0 : M 0 = iA len s := by
      obtain ⟨S, _, _, _, e⟩ := hI
      exact e
    refine ip_step rfl ?_
    refine (show (match M 0 with | .inl (ty, N, g) => (ty = .int ∨ ty = .byte ∨ ty = .long ∨ ty = .object RX2) ∧ ((Int32.ofNat N - 5 < nI i → ip_Ev (T_L_law (ip_call tb d)) Φ 90 (lwL i, [], M, n, cu, su)) ∧ (¬ (Int32.ofNat N - 5 < nI i) → ip_Ev (T_L_law (ip_call tb d)) Φ 2 (lwL i, [], M, n, cu, su))) | _ => False) from ?_)
    rw [h0]
    refine ⟨Or.inl rfl, fun _ => ?_, fun c => ?_⟩
    · refine ip_step rfl ?_
      exact ⟨⟨by decide, by show cu ≤ 600000; omega, by show su ≤ 7302250; omega⟩, hΦ _ _⟩
    · have h5 := lw_end hl (by omega) c
      match m, hm with
      | 0, hm => exact absurd hm (by omega)
      | m + 1, hm =>
      refine ip_step rfl ?_
      refine (show (match M 0 with | .inl (.int, N, .inl g) => vp_in (nI i) N ∧ ip_Ev (T_L_law (ip_call tb d)) Φ (ip_sw _ 89 (g (nI i).toNatClampNeg &&& 63)) (lwL i, [], M, n, cu, su) | _ => False) from ?_)
      rw [h0]
      refine ⟨vp_in_nI (by omega) (by omega), ?_⟩
      have nx : ∀ M2 n2 cu2 su2, Inv (iA len s) M2 n2 → cu2 ≤ cu + 2 → su2 ≤ su + 42 → ip_Ev (T_L_law (ip_call tb d)) Φ 89 (lwL i, [], M2, n2, cu2, su2) := fun M2 n2 cu2 su2 h2 a b => by
        refine ip_step rfl ?_
        refine (show ip_Ev (T_L_law (ip_call tb d)) Φ 1 ([some (.ref 0), some (.ref 64), some (.ref 95), some (.int (nI i + 5))], [], M2, n2, cu2, su2) from ?_)
        rw [show nI i + 5 = nI (i + 5) from nI_add i 5]
        exact lw_loop hd hl hΦ m (i + 5) M2 n2 cu2 su2 (by omega) (by omega) (by omega) (by omega) h2
      refine sw_all (P := fun j => ip_Ev (T_L_law (ip_call tb d)) Φ j (lwL i, [], M, n, cu, su)) (nx M n cu su hI (by omega) (by omega)) _ ?_
      refine List.forall_mem_cons.mpr ⟨lc_0 hd i M n cu su h5 hl (by omega) (by omega) hI nx, ?_⟩
      refine List.forall_mem_cons.mpr ⟨lc_1 hd i M n cu su h5 hl (by omega) (by omega) hI nx, ?_⟩
      refine List.forall_mem_cons.mpr ⟨lc_2 hd i M n cu su h5 hl (by omega) (by omega) hI nx, ?_⟩
      refine List.forall_mem_cons.mpr ⟨lc_3 hd i M n cu su h5 hl (by omega) (by omega) hI nx, ?_⟩
      refine List.forall_mem_cons.mpr ⟨lc_4 hd i M n cu su h5 hl (by omega) (by omega) hI nx, ?_⟩
      refine List.forall_mem_cons.mpr ⟨lc_5 hd i M n cu su h5 hl (by omega) (by omega) hI nx, ?_⟩
      refine List.forall_mem_cons.mpr ⟨lc_6 hd i M n cu su h5 hl (by omega) (by omega) hI nx, ?_⟩
      refine List.forall_mem_cons.mpr ⟨lc_7 hd i M n cu su h5 hl (by omega) (by omega) hI nx, ?_⟩
      refine List.forall_mem_cons.mpr ⟨lc_8 hd i M n cu su h5 hl (by omega) (by omega) hI nx, ?_⟩
      refine List.forall_mem_cons.mpr ⟨lc_9 hd i M n cu su h5 hl (by omega) (by omega) hI nx, ?_⟩
      refine List.forall_mem_cons.mpr ⟨lc_10 hd i M n cu su h5 hl (by omega) (by omega) hI nx, ?_⟩
      refine List.forall_mem_cons.mpr ⟨lc_11 hd i M n cu su h5 hl (by omega) (by omega) hI nx, ?_⟩
      refine List.forall_mem_cons.mpr ⟨lc_12 hd i M n cu su h5 hl (by omega) (by omega) hI nx, ?_⟩
      refine List.forall_mem_cons.mpr ⟨lc_13 hd i M n cu su h5 hl (by omega) (by omega) hI nx, ?_⟩
      refine List.forall_mem_cons.mpr ⟨lc_14 hd i M n cu su h5 hl (by omega) (by omega) hI nx, ?_⟩
      refine List.forall_mem_cons.mpr ⟨lc_15 hd i M n cu su h5 hl (by omega) (by omega) hI nx, ?_⟩
      refine List.forall_mem_cons.mpr ⟨lc_16 hd i M n cu su h5 hl (by omega) (by omega) hI nx, ?_⟩
      refine List.forall_mem_cons.mpr ⟨lc_17 hd i M n cu su h5 hl (by omega) (by omega) hI nx, ?_⟩
      refine List.forall_mem_cons.mpr ⟨lc_18 hd i M n cu su h5 hl (by omega) (by omega) hI nx, ?_⟩
      refine List.forall_mem_cons.mpr ⟨lc_19 hd i M n cu su h5 hl (by omega) (by omega) hI nx, ?_⟩
      refine List.forall_mem_cons.mpr ⟨lc_20 hd i M n cu su h5 hl (by omega) (by omega) hI nx, ?_⟩
      refine List.forall_mem_cons.mpr ⟨lc_21 hd i M n cu su h5 hl (by omega) (by omega) hI nx, ?_⟩
      refine List.forall_mem_cons.mpr ⟨lc_22 hd i M n cu su h5 hl (by omega) (by omega) hI nx, ?_⟩
      refine List.forall_mem_cons.mpr ⟨lc_23 hd i M n cu su h5 hl (by omega) (by omega) hI nx, ?_⟩
      refine List.forall_mem_cons.mpr ⟨lc_24 hd i M n cu su h5 hl (by omega) (by omega) hI nx, ?_⟩
      refine List.forall_mem_cons.mpr ⟨lc_25 hd i M n cu su h5 hl (by omega) (by omega) hI nx, ?_⟩
      refine List.forall_mem_cons.mpr ⟨lc_26 hd i M n cu su h5 hl (by omega) (by omega) hI nx, ?_⟩
      refine List.forall_mem_cons.mpr ⟨lc_27 hd i M n cu su h5 hl (by omega) (by omega) hI nx, ?_⟩
      refine List.forall_mem_cons.mpr ⟨lc_28 hd i M n cu su h5 hl (by omega) (by omega) hI nx, ?_⟩
      refine List.forall_mem_cons.mpr ⟨lc_29 hd i M n cu su h5 hl (by omega) (by omega) hI nx, ?_⟩
      refine List.forall_mem_cons.mpr ⟨lc_30 hd i M n cu su h5 hl (by omega) (by omega) hI nx, ?_⟩
      refine List.forall_mem_cons.mpr ⟨lc_31 hd i M n cu su h5 hl (by omega) (by omega) hI nx, ?_⟩
      refine List.forall_mem_cons.mpr ⟨lc_32 hd i M n cu su h5 hl (by omega) (by omega) hI nx, ?_⟩
      refine List.forall_mem_cons.mpr ⟨lc_33 hd i M n cu su h5 hl (by omega) (by omega) hI nx, ?_⟩
      refine List.forall_mem_cons.mpr ⟨lc_34 hd i M n cu su h5 hl (by omega) (by omega) hI nx, ?_⟩
      refine List.forall_mem_cons.mpr ⟨lc_35 hd i M n cu su h5 hl (by omega) (by omega) hI nx, ?_⟩
      refine List.forall_mem_cons.mpr ⟨lc_36 hd i M n cu su h5 hl (by omega) (by omega) hI nx, ?_⟩
      refine List.forall_mem_cons.mpr ⟨lc_37 hd i M n cu su h5 hl (by omega) (by omega) hI nx, ?_⟩
      refine List.forall_mem_cons.mpr ⟨lc_38 hd i M n cu su h5 hl (by omega) (by omega) hI nx, ?_⟩
      refine List.forall_mem_cons.mpr ⟨lc_39 hd i M n cu su h5 hl (by omega) (by omega) hI nx, ?_⟩
      refine List.forall_mem_cons.mpr ⟨lc_40 hd i M n cu su h5 hl (by omega) (by omega) hI nx, ?_⟩
      refine List.forall_mem_cons.mpr ⟨lc_41 hd i M n cu su h5 hl (by omega) (by omega) hI nx, ?_⟩
      refine List.forall_mem_cons.mpr ⟨lc_42 hd i M n cu su h5 hl (by omega) (by omega) hI nx, ?_⟩
      exact fun _ h => absurd h List.not_mem_nil
theorem lw_law {d len : Nat} (hd : 100 ≤ d) (hl : len ≤ 2560) {s : Nat → Int32} {Φ : ip_P} (hΦ : ∀ M n, Φ (some (.int 1)) M n) {M : ip_M} (h0 : M 0 = iA len s) (hX : exAt M) : ip_Ev (T_L_law (ip_call tb d)) Φ 0 (ip_ent 4 [.ref 0], [], M, 64, 0, 0) := by
  refine ip_step rfl ?_
  refine (show (0 + 1 ≤ 600000 ∧ 0 + 12 ≤ 7302250) ∧ true = true ∧ ip_ops [oCaV (ip_call tb d) 600000 7302250 5 51 1 30 459, oStA 1, oNew 600000 7302250 6 [.null, .null, .null, .null, .int 0, .null, .int 0, .int 0, .int 0, .int 0, .long 0, .int 0, .int 0, .null, .null, .int 0, .null, .null, .null, .null, .null, .null, .int 0, .int 0, .int 0, .null, .int 0, .int 0], oDup, oCaV (ip_call tb d) 600000 7302250 6 118 1 14 694, oStA 2, oI (0), oStI 3] (ip_ent 4 [.ref 0], [.ref 64, .ref 64], ip_up M 64 (.inr (5, [.null, .null, .null, .int 0, .null, .null, .null, .null, .int 0, .null, .null, .null])), 65, 0 + 1, 0 + 12) _ from ?_)
  refine ⟨⟨by omega, by omega⟩, rfl, ?_⟩
  have g64 : ip_up M 64 (.inr (5, [.null, .null, .null, .int 0, .null, .null, .null, .null, .int 0, .null, .null, .null])) 64 = .inr (5, [.null, .null, .null, .int 0, .null, .null, .null, .null, .int 0, .null, .null, .null]) := if_pos rfl
  have gX : ∀ k, k < 64 → ip_up M 64 (.inr (5, [.null, .null, .null, .int 0, .null, .null, .null, .null, .int 0, .null, .null, .null])) k = M k := fun k hk => if_neg (by omega)
  generalize ip_up M 64 (.inr (5, [.null, .null, .null, .int 0, .null, .null, .null, .null, .int 0, .null, .null, .null])) = N at g64 gX
  refine lwC (as := []) (rest := [.ref 64]) rfl (by rw [e_isO, g64]) (by show 1 ≤ 4; omega) (by omega) (by omega) (c_init (by omega) g64 (fun k hk hz => (gX k hk).trans (hX k hk hz)) (fun N1 hc hF => ?_))
  refine (show (31 + 1 ≤ 600000 ∧ 471 + 28 ≤ 7302250) ∧ true = true ∧ ip_ops [oCaV (ip_call tb d) 600000 7302250 6 118 1 14 694, oStA 2, oI (0), oStI 3] ([some (.ref 0), some (.ref 64), none, none], [.ref 95, .ref 95], ip_up N1 95 (.inr (6, [.null, .null, .null, .null, .int 0, .null, .int 0, .int 0, .int 0, .int 0, .long 0, .int 0, .int 0, .null, .null, .int 0, .null, .null, .null, .null, .null, .null, .int 0, .int 0, .int 0, .null, .int 0, .int 0])), 96, 31 + 1, 471 + 28) _ from ?_)
  refine ⟨⟨by omega, by omega⟩, rfl, ?_⟩
  have g95 : ip_up N1 95 (.inr (6, [.null, .null, .null, .null, .int 0, .null, .int 0, .int 0, .int 0, .int 0, .long 0, .int 0, .int 0, .null, .null, .int 0, .null, .null, .null, .null, .null, .null, .int 0, .int 0, .int 0, .null, .int 0, .int 0])) 95 = .inr (6, [.null, .null, .null, .null, .int 0, .null, .int 0, .int 0, .int 0, .int 0, .long 0, .int 0, .int 0, .null, .null, .int 0, .null, .null, .null, .null, .null, .null, .int 0, .int 0, .int 0, .null, .int 0, .int 0]) := if_pos rfl
  have gY : ∀ k, k < 95 → ip_up N1 95 (.inr (6, [.null, .null, .null, .null, .int 0, .null, .int 0, .int 0, .int 0, .int 0, .long 0, .int 0, .int 0, .null, .null, .int 0, .null, .null, .null, .null, .null, .null, .int 0, .int 0, .int 0, .null, .int 0, .int 0])) k = N1 k := fun k hk => if_neg (by omega)
  generalize ip_up N1 95 (.inr (6, [.null, .null, .null, .null, .int 0, .null, .int 0, .int 0, .int 0, .int 0, .long 0, .int 0, .int 0, .null, .null, .int 0, .null, .null, .null, .null, .null, .null, .int 0, .int 0, .int 0, .null, .int 0, .int 0])) = N2 at g95 gY
  refine lwC (as := []) (rest := [.ref 95]) rfl (by rw [e_isO, g95]) (by show 1 ≤ 4; omega) (by omega) (by omega) (m_init (by omega) g95 (fun N3 hm hG => ?_))
  refine (show ip_Ev (T_L_law (ip_call tb d)) Φ 1 (lwL 0, [], N3, 110, 46, 1193) from ?_)
  have hlow : ∀ k, k < 64 → N3 k = M k := fun k hk => (hG k (by omega)).trans ((gY k (by omega)).trans ((hF k hk).trans (gX k hk)))
  exact lw_loop hd hl hΦ len 0 N3 110 46 1193 (by omega) (by omega) (by omega) (by omega) ⟨S0, hc.cl (fun k hk hz => (hlow k hk).trans (hX k hk hz)) (fun k hk hk2 => (hG k hk2).trans (gY k hk2)), hm, okS0, (hlow 0 (by omega)).trans h0⟩
