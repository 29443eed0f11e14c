theorem b_feed {c0 : ip_C} {M : ip_M} {n d : Nat} (hd : 100 ≤ d) (hI : Inv c0 M n) {x : Int64} {y : Int32} : bx Value.int c0 d 52 128 [.long x, .int y] M n := by
  intro Φ h
  obtain ⟨S, hS, hm, ok, h0⟩ := hI
  have oN := ok.1
  have h8 := oN.1
  exact c_feed (by omega) ok.2.2.1 hS (fun c => bfin hm h0 h hS kFr.rf (fun Ψ g => m_feed (by omega) ok.2.2.1 hm (fun _ => g M hm mFr.rf ok) (fun m a b e _ => absurd ⟨by rw [e]; exact nI_le (a := 1) a (by omega), by rw [e]; exact nI_le (b := 8) b (by omega)⟩ c) (fun m a b e _ => absurd ⟨by rw [e]; exact nI_le (a := 1) a (by omega), by rw [e]; exact nI_le (b := 8) b (by omega)⟩ c))) (fun m a b e l => bfin hm h0 h hS kFr.rf (fun Ψ g => m_feed (by omega) ok.2.2.1 hm (fun c => absurd ⟨by rw [e]; exact nI_le (a := 1) a (by omega), by rw [e]; exact nI_le (b := 8) b (by omega)⟩ c) (fun _ _ _ _ _ => g M hm mFr.rf ok) (fun m2 a2 b2 e2 l2 => by rw [e, nI_eq (by omega) (by omega)] at e2; omega))) (fun m a b e l M1 hc hF => bfin hm h0 h hc hF (fun Ψ g => m_feed (by omega) ok.2.2.1 (hm.k hF) (fun c => absurd ⟨by rw [e]; exact nI_le (a := 1) a (by omega), by rw [e]; exact nI_le (b := 8) b (by omega)⟩ c) (fun m2 a2 b2 e2 l2 => by rw [e, nI_eq (by omega) (by omega)] at e2; omega) (fun m2 a2 b2 e2 l2 M2 g1 g2 => by rw [e, nI_eq (by omega) (by omega)] at e2; subst e2; exact g M2 g1 g2 ⟨ok.1, ok.2.1, l, fd_ok ok.2.2.2.1 m, ok.2.2.2.2⟩)))
theorem b_circus {c0 : ip_C} {M : ip_M} {n d : Nat} (hd : 100 ≤ d) (hI : Inv c0 M n) : bx Value.int c0 d 53 143 [] M n := by
  intro Φ h
  obtain ⟨S, hS, hm, ok, h0⟩ := hI
  have oN := ok.1
  have h8 := oN.1
  exact c_circus (by omega) ok.2.2.1 oN.2.2.2.2.1 hS (fun Rt hN c M1 hc hF => bfin hm h0 h hc hF (fun Ψ g => m_circus (by omega) ok.2.2.1 ok.2.2.2.1 hN (hm.k hF) (fun _ M2 g1 g2 => g M2 g1 g2 ⟨ok.1, ok.2.1, Nat.zero_le _, fun i hi => absurd hi (Nat.not_lt_zero i), ok.2.2.2.2⟩) (fun z => absurd z c))) (fun Rt hN c M1 hc hF => bfin hm h0 h hc hF (fun Ψ g => m_circus (by omega) ok.2.2.1 ok.2.2.2.1 hN (hm.k hF) (fun z => absurd c z) (fun _ oR M2 g1 g2 => g M2 g1 g2 ⟨oR, ok.2.1, Nat.zero_le _, fun i hi => absurd hi (Nat.not_lt_zero i), ok.2.2.2.2.1, Nat.zero_le _, ok.2.2.2.2.2.2⟩)))
theorem b_set {c0 : ip_C} {M : ip_M} {n d : Nat} (hd : 100 ≤ d) (hI : Inv c0 M n) {x y : Int32} : bx Value.int c0 d 54 145 [.int x, .int y] M n := by
  intro Φ h
  obtain ⟨S, hS, hm, ok, h0⟩ := hI
  have oN := ok.1
  have h8 := oN.1
  exact c_set (by omega) hS (fun c => bfin hm h0 h hS kFr.rf (fun Ψ g => m_set (by omega) hm (fun _ => g M hm mFr.rf ok) (fun z => absurd z c))) (fun c M1 hc hF => bfin hm h0 h hc hF (fun Ψ g => m_set (by omega) (hm.k hF) (fun z => absurd c z) (fun _ M2 g1 g2 => g M2 g1 g2 (ok.now (by obtain ⟨⟨c1, c2⟩, c3, c4⟩ := c; obtain ⟨i, hi, rfl⟩ := n03 ⟨c1, c2⟩; have hc9 := nIc (i := i) (by omega); rw [hc9] at c4 ⊢; obtain ⟨m, hm9, em⟩ := nI_of1 (N := 99) (by omega) c3 (Int32.le_trans c4 (hiL_99 i hi)); exact ok_setLw hi ⟨m, hm9, em⟩ oN)))))
theorem b_fact {c0 : ip_C} {M : ip_M} {n d : Nat} (hd : 100 ≤ d) (hI : Inv c0 M n) {x y : Int32} : bx Value.int c0 d 56 147 [.int x, .int y] M n := by
  intro Φ h
  obtain ⟨S, hS, hm, ok, h0⟩ := hI
  have oN := ok.1
  have h8 := oN.1
  exact c_fact (by omega) hS (fun c => bfin hm h0 h hS kFr.rf (fun Ψ g => m_fact (by omega) oN hm (fun _ => g M hm mFr.rf ok) (fun z => absurd z c))) (fun c M1 hc hF => bfin hm h0 h hc hF (fun Ψ g => m_fact (by omega) oN (hm.k hF) (fun z => absurd c z) (fun _ M2 g1 g2 => g M2 g1 g2 (ok.now (by obtain ⟨i, hi, rfl⟩ := n07 c.1; obtain ⟨t, ht, rfl⟩ := n01 c.2; have e : (if nI t = 1 then (1 : Int32) else 0) = nI t := (show ∀ t, t < 2 → (if nI t = 1 then (1 : Int32) else 0) = nI t by decide) t ht; rw [e]; exact ok_setFa oN (oN.2.1.wb hi ht))))))
theorem b_lawOf {c0 : ip_C} {M : ip_M} {n d : Nat} (hd : 100 ≤ d) (hI : Inv c0 M n) {x : Int32} : bx Value.int c0 d 55 146 [.int x] M n := by
  intro Φ h
  obtain ⟨S, hS, hm, ok, h0⟩ := hI
  have oN := ok.1
  have h8 := oN.1
  exact c_lawOf (by omega) hS (fun c => bfin hm h0 h hS kFr.rf (fun Ψ g => m_lawOf (by omega) hm (fun _ => g M hm mFr.rf ok) (fun z => absurd z c))) (fun c => bfin hm h0 h hS kFr.rf (fun Ψ g => m_lawOf (by omega) hm (fun z => absurd c z) (fun _ => g M hm mFr.rf ok)))
theorem b_walker {c0 : ip_C} {M : ip_M} {n d : Nat} (hd : 100 ≤ d) (hI : Inv c0 M n) {x y : Int32} : bx Value.int c0 d 57 149 [.int x, .int y] M n := by
  intro Φ h
  obtain ⟨S, hS, hm, ok, h0⟩ := hI
  have oN := ok.1
  have h8 := oN.1
  exact c_walker (by omega) h8 hS (fun c => bfin hm h0 h hS kFr.rf (fun Ψ g => m_walker (by omega) oN hm (fun _ => g M hm mFr.rf ok) (fun z => absurd z c) (fun z => absurd z c))) (fun c w => bfin hm h0 h hS kFr.rf (fun Ψ g => m_walker (by omega) oN hm (fun z => absurd c z) (fun _ _ => g M hm mFr.rf ok) (fun _ z => absurd z (by omega)))) (fun c w M1 hc hF => bfin hm h0 h hc hF (fun Ψ g => m_walker (by omega) oN (hm.k hF) (fun z => absurd c z) (fun _ z => absurd z (by omega)) (fun _ _ M2 g1 g2 => g M2 g1 g2 (ok.now (ok_addR oN w (n05 c.1))))))
theorem b_of {c0 : ip_C} {M : ip_M} {n d : Nat} (hd : 100 ≤ d) (hI : Inv c0 M n) {x y : Int32} : bx Value.int c0 d 58 150 [.int x, .int y] M n := by
  intro Φ h
  obtain ⟨S, hS, hm, ok, h0⟩ := hI
  have oN := ok.1
  have h8 := oN.1
  exact c_of (by omega) h8 hS (fun c => bfin hm h0 h hS kFr.rf (fun Ψ g => m_of (by omega) oN hm (fun _ => g M hm mFr.rf ok) (fun i hi e q => absurd ⟨e ▸ isW.of h8 hi, q⟩ c))) (fun i hi e q => bfin hm h0 h hS kFr.rf (fun Ψ g => m_of (by omega) oN hm (fun c => absurd ⟨e ▸ isW.of h8 hi, q⟩ c) (fun i2 hi2 e2 _ => by rw [e, nI_eq (by omega) (by omega)] at e2; subst e2; exact g M hm mFr.rf ok)))
theorem b_does {c0 : ip_C} {M : ip_M} {n d : Nat} (hd : 100 ≤ d) (hI : Inv c0 M n) {x y : Int32} : bx Value.int c0 d 59 155 [.int x, .int y] M n := by
  intro Φ h
  obtain ⟨S, hS, hm, ok, h0⟩ := hI
  have oN := ok.1
  have h8 := oN.1
  exact c_does (by omega) h8 hS (fun c M1 hc hF => bfin hm h0 h hc hF (fun Ψ g => m_does (by omega) oN (hm.k hF) (fun _ => g M1 (hm.k hF) mFr.rf ok) (fun i hi e q => absurd ⟨e ▸ isW.of h8 hi, q⟩ c))) (fun i hi e q M1 hc hF => bfin hm h0 h hc hF (fun Ψ g => m_does (by omega) oN (hm.k hF) (fun c => absurd ⟨e ▸ isW.of h8 hi, q⟩ c) (fun i2 hi2 e2 _ => by rw [e, nI_eq (by omega) (by omega)] at e2; subst e2; exact g M1 (hm.k hF) mFr.rf ok)))
theorem b_mind {c0 : ip_C} {M : ip_M} {n d : Nat} (hd : 100 ≤ d) (hI : Inv c0 M n) {x y z : Int32} : bx Value.int c0 d 60 156 [.int x, .int y, .int z] M n := by
  intro Φ h
  obtain ⟨S, hS, hm, ok, h0⟩ := hI
  have oN := ok.1
  have h8 := oN.1
  exact c_mind (by omega) h8 hS (fun c => bfin hm h0 h hS kFr.rf (fun Ψ g => m_mind (by omega) oN hm (fun _ => g M hm mFr.rf ok) (fun i hi e q => absurd ⟨e ▸ isW.of h8 hi, q⟩ c))) (fun i hi e q M1 hc hF => bfin hm h0 h hc hF (fun Ψ g => m_mind (by omega) oN (hm.k hF) (fun c => absurd ⟨e ▸ isW.of h8 hi, q⟩ c) (fun i2 hi2 e2 _ M2 g1 g2 => by rw [e, nI_eq (by omega) (by omega)] at e2; subst e2; exact g M2 g1 g2 (ok.now (ok_setKW oN hi (n05 q.1))))))
theorem b_say {c0 : ip_C} {M : ip_M} {n d : Nat} (hd : 100 ≤ d) (hI : Inv c0 M n) {x y z : Int32} : bx Value.int c0 d 61 157 [.int x, .int y, .int z] M n := by
  intro Φ h
  obtain ⟨S, hS, hm, ok, h0⟩ := hI
  have oN := ok.1
  have h8 := oN.1
  exact c_say (by omega) h8 hS (fun c => bfin hm h0 h hS kFr.rf (fun Ψ g => m_say (by omega) oN hm (fun _ => g M hm mFr.rf ok) (fun i hi e q => absurd ⟨e ▸ isW.of h8 hi, q⟩ c))) (fun i hi e q M1 hc hF => bfin hm h0 h hc hF (fun Ψ g => m_say (by omega) oN (hm.k hF) (fun c => absurd ⟨e ▸ isW.of h8 hi, q⟩ c) (fun i2 hi2 e2 _ M2 g1 g2 => by rw [e, nI_eq (by omega) (by omega)] at e2; subst e2; exact g M2 g1 g2 (ok.now (ok_setYN oN hi (is8_of q.1) (is8_of q.2.1) q.2.2)))))
theorem b_stand {c0 : ip_C} {M : ip_M} {n d : Nat} (hd : 100 ≤ d) (hI : Inv c0 M n) {x y : Int32} : bx Value.int c0 d 62 158 [.int x, .int y] M n := by
  intro Φ h
  obtain ⟨S, hS, hm, ok, h0⟩ := hI
  have oN := ok.1
  have h8 := oN.1
  exact c_stand (by omega) h8 hS (fun c => bfin hm h0 h hS kFr.rf (fun Ψ g => m_stand (by omega) oN hm (fun _ => g M hm mFr.rf ok) (fun i hi e q => absurd ⟨e ▸ isW.of h8 hi, q⟩ c))) (fun i hi e q M1 hc hF => bfin hm h0 h hc hF (fun Ψ g => m_stand (by omega) oN (hm.k hF) (fun c => absurd ⟨e ▸ isW.of h8 hi, q⟩ c) (fun i2 hi2 e2 _ M2 g1 g2 => by rw [e, nI_eq (by omega) (by omega)] at e2; subst e2; exact g M2 g1 g2 (ok.now (ok_setPF oN hi (pl20_of q.1 q.2))))))
theorem b_steps {c0 : ip_C} {M : ip_M} {n d : Nat} (hd : 100 ≤ d) (hI : Inv c0 M n) {x : Int32} : bx Value.int c0 d 63 165 [.int x] M n := by
  intro Φ h
  obtain ⟨S, hS, hm, ok, h0⟩ := hI
  have oN := ok.1
  have h8 := oN.1
  exact c_steps (by omega) h8 hS (fun c => bfin hm h0 h hS kFr.rf (fun Ψ g => m_steps (by omega) oN hm (fun _ => g M hm mFr.rf ok) (fun m a b e => absurd ⟨by rw [e]; exact nI_le (a := 1) a (by omega), by rw [e]; exact nI_le (b := 60) b (by omega)⟩ c))) (fun m a b e M1 hc hF => bfin hm h0 h hc hF (fun Ψ g => m_steps (by omega) oN (hm.k hF) (fun c => absurd ⟨by rw [e]; exact nI_le (a := 1) a (by omega), by rw [e]; exact nI_le (b := 60) b (by omega)⟩ c) (fun m2 a2 b2 e2 M2 g1 g2 => by rw [e, nI_eq (by omega) (by omega)] at e2; subst e2; exact g M2 g1 g2 (ok.now (ok_itR oN m)))))
theorem b_seed {c0 : ip_C} {M : ip_M} {n d : Nat} (hd : 100 ≤ d) (hI : Inv c0 M n) {x : Int32} : bx Value.int c0 d 64 167 [.int x] M n := by
  intro Φ h
  obtain ⟨S, hS, hm, ok, h0⟩ := hI
  have oN := ok.1
  have h8 := oN.1
  exact c_seed (by omega) hS (fun M1 hc hF => bfin hm h0 h hc hF (fun Ψ g => m_seed (by omega) (hm.k hF) (fun M2 g1 g2 => g M2 g1 g2 (ok.now (ok_setZ oN)))))
theorem b_step {c0 : ip_C} {M : ip_M} {n d : Nat} (hd : 100 ≤ d) (hI : Inv c0 M n) : bx Value.int c0 d 65 169 [] M n := by
  intro Φ h
  obtain ⟨S, hS, hm, ok, h0⟩ := hI
  have oN := ok.1
  have h8 := oN.1
  exact c_step (by omega) h8 hS (fun M1 hc hF => bfin hm h0 h hc hF (fun Ψ g => m_step (by omega) oN (hm.k hF) (fun M2 g1 g2 => g M2 g1 g2 (ok.now (ok_drawR oN)))))
theorem b_luck {c0 : ip_C} {M : ip_M} {n d : Nat} (hd : 100 ≤ d) (hI : Inv c0 M n) {x : Int32} : bx Value.int c0 d 66 170 [.int x] M n := by
  intro Φ h
  obtain ⟨S, hS, hm, ok, h0⟩ := hI
  have oN := ok.1
  have h8 := oN.1
  exact c_luck (by omega) h8 oN.2.2.2.2.1 hS (fun c => bfin hm h0 h hS kFr.rf (fun Ψ g => m_luck (by omega) oN hm (fun _ => g M hm mFr.rf ok) (fun m a b e => absurd ⟨by rw [e]; exact nI_le (a := 1) a (by omega), by rw [e]; exact nI_le (b := 30) b (by omega)⟩ c))) (fun m a b e M1 hc hF => bfin hm h0 h hc hF (fun Ψ g => m_luck (by omega) oN (hm.k hF) (fun c => absurd ⟨by rw [e]; exact nI_le (a := 1) a (by omega), by rw [e]; exact nI_le (b := 30) b (by omega)⟩ c) (fun m2 a2 b2 e2 M2 g1 g2 => by rw [e, nI_eq (by omega) (by omega)] at e2; subst e2; exact g M2 g1 g2 ok)))
theorem b_state {c0 : ip_C} {M : ip_M} {n d : Nat} (hd : 100 ≤ d) (hI : Inv c0 M n) {x : Int32} : bx Value.int c0 d 67 176 [.int x] M n := by
  intro Φ h
  obtain ⟨S, hS, hm, ok, h0⟩ := hI
  have oN := ok.1
  have h8 := oN.1
  exact c_state (by omega) h8 hS (fun c => bfin hm h0 h hS kFr.rf (fun Ψ g => m_state (by omega) oN hm (fun _ => g M hm mFr.rf ok) (fun z => absurd z c))) (fun c => bfin hm h0 h hS kFr.rf (fun Ψ g => m_state (by omega) oN hm (fun z => absurd c z) (fun _ => g M hm mFr.rf ok)))
theorem b_many {c0 : ip_C} {M : ip_M} {n d : Nat} (hd : 100 ≤ d) (hI : Inv c0 M n) {x : Int32} : bx Value.int c0 d 92 224 [.int x] M n := by
  intro Φ h
  obtain ⟨S, hS, hm, ok, h0⟩ := hI
  have oN := ok.1
  have h8 := oN.1
  exact c_many (by omega) h8 hS (fun c => bfin hm h0 h hS kFr.rf (fun Ψ g => m_many (by omega) oN hm (fun _ => g M hm mFr.rf ok) (fun z => absurd z c))) (fun c => bfin hm h0 h hS kFr.rf (fun Ψ g => m_many (by omega) oN hm (fun z => absurd c z) (fun _ => g M hm mFr.rf ok)))
theorem b_reaches {c0 : ip_C} {M : ip_M} {n d : Nat} (hd : 100 ≤ d) (hI : Inv c0 M n) {x y : Int32} : bx Value.int c0 d 68 179 [.int x, .int y] M n := by
  intro Φ h
  obtain ⟨S, hS, hm, ok, h0⟩ := hI
  have oN := ok.1
  have h8 := oN.1
  exact c_reaches (by omega) h8 hS (fun c => bfin hm h0 h hS kFr.rf (fun Ψ g => m_reaches (by omega) oN hm (fun _ => g M hm mFr.rf ok) (fun i m hi e b e2 => absurd ⟨e ▸ isW.of h8 hi, by rw [e2]; exact nI_pos (by omega) |> Int32.not_lt.mp, by rw [e2]; exact nI_le (b := 60) b (by omega)⟩ c))) (fun i m hi e b e2 M1 hc hF => bfin hm h0 h hc hF (fun Ψ g => m_reaches (by omega) oN (hm.k hF) (fun c => absurd ⟨e ▸ isW.of h8 hi, by rw [e2]; exact nI_pos (by omega) |> Int32.not_lt.mp, by rw [e2]; exact nI_le (b := 60) b (by omega)⟩ c) (fun i2 m2 hi2 e3 b2 e4 M2 g1 g2 => by rw [e, nI_eq (by omega) (by omega)] at e3; rw [e2, nI_eq (by omega) (by omega)] at e4; subst e3; subst e4; exact g M2 g1 g2 ok)))
theorem b_over {c0 : ip_C} {M : ip_M} {n d : Nat} (hd : 100 ≤ d) (hI : Inv c0 M n) {x : Int32} : bx Value.int c0 d 69 180 [.int x] M n := by
  intro Φ h
  obtain ⟨S, hS, hm, ok, h0⟩ := hI
  have oN := ok.1
  have h8 := oN.1
  exact c_over (by omega) h8 hS (fun c => bfin hm h0 h hS kFr.rf (fun Ψ g => m_over (by omega) oN hm (fun _ => g M hm mFr.rf ok) (fun i hi e => absurd (e ▸ isW.of h8 hi) c))) (fun i hi e M1 hc hF => bfin hm h0 h hc hF (fun Ψ g => m_over (by omega) oN (hm.k hF) (fun c => absurd (e ▸ isW.of h8 hi) c) (fun i2 hi2 e2 M2 g1 g2 => by rw [e, nI_eq (by omega) (by omega)] at e2; subst e2; exact g M2 g1 g2 ok)))
theorem b_falls {c0 : ip_C} {M : ip_M} {n d : Nat} (hd : 100 ≤ d) (hI : Inv c0 M n) {x : Int32} : bx Value.int c0 d 70 181 [.int x] M n := by
  intro Φ h
  obtain ⟨S, hS, hm, ok, h0⟩ := hI
  have oN := ok.1
  have h8 := oN.1
  exact c_falls (by omega) h8 hS (fun c => bfin hm h0 h hS kFr.rf (fun Ψ g => m_falls (by omega) oN hm (fun _ => g M hm mFr.rf ok) (fun i hi e => absurd (e ▸ isW.of h8 hi) c))) (fun i hi e M1 hc hF => bfin hm h0 h hc hF (fun Ψ g => m_falls (by omega) oN (hm.k hF) (fun c => absurd (e ▸ isW.of h8 hi) c) (fun i2 hi2 e2 M2 g1 g2 => by rw [e, nI_eq (by omega) (by omega)] at e2; subst e2; exact g M2 g1 g2 ok)))
theorem b_end {c0 : ip_C} {M : ip_M} {n d : Nat} (hd : 100 ≤ d) (hI : Inv c0 M n) : bx Value.int c0 d 71 182 [] M n := by
  intro Φ h
  obtain ⟨S, hS, hm, ok, h0⟩ := hI
  have oN := ok.1
  have h8 := oN.1
  exact c_end (by omega) h8 hS (fun M1 hc hF => bfin hm h0 h hc hF (fun Ψ g => m_end (by omega) oN (hm.k hF) (fun M2 g1 g2 => g M2 g1 g2 ok)))
theorem b_sayFor {c0 : ip_C} {M : ip_M} {n d : Nat} (hd : 100 ≤ d) (hI : Inv c0 M n) {x y : Int32} : bx Value.int c0 d 72 184 [.int x, .int y] M n := by
  intro Φ h
  obtain ⟨S, hS, hm, ok, h0⟩ := hI
  have oN := ok.1
  have h8 := oN.1
  exact c_sayFor (by omega) h8 hS (fun c => bfin hm h0 h hS kFr.rf (fun Ψ g => m_sayFor (by omega) oN hm (fun _ => g M hm mFr.rf ok) (fun i m hi e a b e2 => absurd ⟨e ▸ isW.of h8 hi, by rw [e2]; exact nI_le (a := 1) a (by omega), by rw [e2]; exact nI_le (b := 30) b (by omega)⟩ c))) (fun i m hi e a b e2 M1 hc hF => bfin hm h0 h hc hF (fun Ψ g => m_sayFor (by omega) oN (hm.k hF) (fun c => absurd ⟨e ▸ isW.of h8 hi, by rw [e2]; exact nI_le (a := 1) a (by omega), by rw [e2]; exact nI_le (b := 30) b (by omega)⟩ c) (fun i2 m2 hi2 e3 a2 b2 e4 M2 g1 g2 => by rw [e, nI_eq (by omega) (by omega)] at e3; rw [e2, nI_eq (by omega) (by omega)] at e4; subst e3; subst e4; exact g M2 g1 g2 ok)))
theorem b_kindFor {c0 : ip_C} {M : ip_M} {n d : Nat} (hd : 100 ≤ d) (hI : Inv c0 M n) {x y : Int32} : bx Value.int c0 d 73 185 [.int x, .int y] M n := by
  intro Φ h
  obtain ⟨S, hS, hm, ok, h0⟩ := hI
  have oN := ok.1
  have h8 := oN.1
  exact c_kindFor (by omega) h8 hS (fun c => bfin hm h0 h hS kFr.rf (fun Ψ g => m_kindFor (by omega) oN hm (fun _ => g M hm mFr.rf ok) (fun i m hi e a b e2 => absurd ⟨e ▸ isW.of h8 hi, by rw [e2]; exact nI_le (a := 1) a (by omega), by rw [e2]; exact nI_le (b := 30) b (by omega)⟩ c))) (fun i m hi e a b e2 M1 hc hF => bfin hm h0 h hc hF (fun Ψ g => m_kindFor (by omega) oN (hm.k hF) (fun c => absurd ⟨e ▸ isW.of h8 hi, by rw [e2]; exact nI_le (a := 1) a (by omega), by rw [e2]; exact nI_le (b := 30) b (by omega)⟩ c) (fun i2 m2 hi2 e3 a2 b2 e4 M2 g1 g2 => by rw [e, nI_eq (by omega) (by omega)] at e3; rw [e2, nI_eq (by omega) (by omega)] at e4; subst e3; subst e4; exact g M2 g1 g2 ok)))
theorem b_turnedFor {c0 : ip_C} {M : ip_M} {n d : Nat} (hd : 100 ≤ d) (hI : Inv c0 M n) {x y : Int32} : bx Value.int c0 d 74 186 [.int x, .int y] M n := by
  intro Φ h
  obtain ⟨S, hS, hm, ok, h0⟩ := hI
  have oN := ok.1
  have h8 := oN.1
  exact c_turnedFor (by omega) h8 hS (fun c => bfin hm h0 h hS kFr.rf (fun Ψ g => m_turnedFor (by omega) oN hm (fun _ => g M hm mFr.rf ok) (fun i m hi e a b e2 => absurd ⟨e ▸ isW.of h8 hi, by rw [e2]; exact nI_le (a := 1) a (by omega), by rw [e2]; exact nI_le (b := 30) b (by omega)⟩ c))) (fun i m hi e a b e2 M1 hc hF => bfin hm h0 h hc hF (fun Ψ g => m_turnedFor (by omega) oN (hm.k hF) (fun c => absurd ⟨e ▸ isW.of h8 hi, by rw [e2]; exact nI_le (a := 1) a (by omega), by rw [e2]; exact nI_le (b := 30) b (by omega)⟩ c) (fun i2 m2 hi2 e3 a2 b2 e4 M2 g1 g2 => by rw [e, nI_eq (by omega) (by omega)] at e3; rw [e2, nI_eq (by omega) (by omega)] at e4; subst e3; subst e4; exact g M2 g1 g2 ok)))
theorem b_loadFor {c0 : ip_C} {M : ip_M} {n d : Nat} (hd : 100 ≤ d) (hI : Inv c0 M n) {x y : Int32} : bx Value.int c0 d 75 187 [.int x, .int y] M n := by
  intro Φ h
  obtain ⟨S, hS, hm, ok, h0⟩ := hI
  have oN := ok.1
  have h8 := oN.1
  exact c_loadFor (by omega) h8 hS (fun c => bfin hm h0 h hS kFr.rf (fun Ψ g => m_loadFor (by omega) oN hm (fun _ => g M hm mFr.rf ok) (fun i m hi e a b e2 => absurd ⟨e ▸ isW.of h8 hi, by rw [e2]; exact nI_le (a := 1) a (by omega), by rw [e2]; exact nI_le (b := 30) b (by omega)⟩ c))) (fun i m hi e a b e2 M1 hc hF => bfin hm h0 h hc hF (fun Ψ g => m_loadFor (by omega) oN (hm.k hF) (fun c => absurd ⟨e ▸ isW.of h8 hi, by rw [e2]; exact nI_le (a := 1) a (by omega), by rw [e2]; exact nI_le (b := 30) b (by omega)⟩ c) (fun i2 m2 hi2 e3 a2 b2 e4 M2 g1 g2 => by rw [e, nI_eq (by omega) (by omega)] at e3; rw [e2, nI_eq (by omega) (by omega)] at e4; subst e3; subst e4; exact g M2 g1 g2 ok)))
theorem b_both {c0 : ip_C} {M : ip_M} {n d : Nat} (hd : 100 ≤ d) (hI : Inv c0 M n) {x y z : Int32} : bx Value.int c0 d 76 188 [.int x, .int y, .int z] M n := by
  intro Φ h
  obtain ⟨S, hS, hm, ok, h0⟩ := hI
  have oN := ok.1
  have h8 := oN.1
  exact c_both (by omega) h8 hS (fun c => bfin hm h0 h hS kFr.rf (fun Ψ g => m_both (by omega) oN hm (fun _ => g M hm mFr.rf ok) (fun i j hi e hj e2 q1 q2 => absurd ⟨e ▸ isW.of h8 hi, e2 ▸ isW.of h8 hj, q1, q2⟩ c))) (fun i j hi e hj e2 q1 q2 => bfin hm h0 h hS kFr.rf (fun Ψ g => m_both (by omega) oN hm (fun c => absurd ⟨e ▸ isW.of h8 hi, e2 ▸ isW.of h8 hj, q1, q2⟩ c) (fun i2 j2 hi2 e3 hj2 e4 _ _ => by rw [e, nI_eq (by omega) (by omega)] at e3; rw [e2, nI_eq (by omega) (by omega)] at e4; subst e3; subst e4; exact g M hm mFr.rf ok)))
