def exY (F k r : Nat) : Nat := ((2 ^ r - 1) &&& F) ||| ((2 ^ k - 2 ^ r) &&& co F)
def exN (F k r : Nat) : Nat := ((2 ^ r - 1) &&& co F) ||| ((2 ^ k - 2 ^ r) &&& F)
def exB : Bool := (List.range 256).all fun F => (List.range 9).all fun k => (List.range (k + 1)).all fun r => Nat.blt (exY F k r) 256 && Nat.blt (exN F k r) 256 && Nat.beq (exY F k r &&& exN F k r) 0 && Nat.beq (pcN 8 (exY F k r) + pcN 8 (exN F k r)) k && Nat.beq (rhN F (exY F k r) (exN F k r)) r
theorem exB_t : exB = true := by decide +kernel
theorem ex_n {F k r : Nat} (hF : F < 256) (hk : k ≤ 8) (hr : r ≤ k) : ∃ y n, y < 256 ∧ n < 256 ∧ y &&& n = 0 ∧ pcN 8 y + pcN 8 n = k ∧ rhN F y n = r := by
  have h := exB_t
  unfold exB at h
  have h := List.all_eq_true.mp (List.all_eq_true.mp (List.all_eq_true.mp h F (List.mem_range.mpr hF)) k (List.mem_range.mpr (by omega))) r (List.mem_range.mpr (by omega))
  simp only [Bool.and_eq_true, Nat.beq_eq] at h
  exact ⟨_, _, Nat.blt_eq.mp h.1.1.1.1, Nat.blt_eq.mp h.1.1.1.2, h.1.1.2, h.1.2, h.2⟩
def z9B : Bool := (List.range 512).all fun m => (Nat.beq m 0) == (List.range 9).all fun i => Nat.beq (bN m i) 0
theorem z9B_t : z9B = true := by decide +kernel
theorem z9 {x : Int32} (hx : is9 x) : x = 0 ↔ ∀ r, r < 9 → hasB x (nI r) = 0 := by
  obtain ⟨m, hm, rfl⟩ := hx
  have h := z9B_t
  unfold z9B at h
  have h := eq_of_beq (List.all_eq_true.mp h m (List.mem_range.mpr hm))
  have a : Nat.beq m 0 = true ↔ m = 0 := by rw [Nat.beq_eq]
  have b : ((List.range 9).all fun i => Nat.beq (bN m i) 0) = true ↔ ∀ i, i < 9 → bN m i = 0 := by
    rw [List.all_eq_true]
    exact ⟨fun h i hi => by have := h i (List.mem_range.mpr hi); rwa [Nat.beq_eq] at this, fun h i hi => by rw [Nat.beq_eq]; exact h i (List.mem_range.mp hi)⟩
  rw [← nI_0, nI_eq (by omega) (by omega), ← a, h, b]
  constructor
  · intro h r hr
    rw [(n9 hm hr).1, h r hr]
  · intro h r hr
    have := h r hr
    have hb := bN_lt m r
    rw [(n9 hm hr).1, nI_eq (by omega) (by omega)] at this
    exact this
theorem cr01 {R : Rg} {p m : Nat} {r w : Int32} : i01P (crT R p m r w) := by
  unfold crT
  split
  · exact Or.inr rfl
  · exact Or.inl rfl
theorem cr_at {R : Rg} {p m k : Nat} : ∀ j, j ≤ 9 → is9 (crL R p m k j) ∧ (∀ r, r < j → hasB (crL R p m k j) (nI r) = crT R p m (nI r) (nI k - nI r)) ∧ ∀ r, j ≤ r → r < 9 → hasB (crL R p m k j) (nI r) = 0
  | 0, _ => ⟨⟨0, by omega, rfl⟩, fun r hr => absurd hr (by omega), fun r _ hr => (show ∀ r, r < 9 → hasB 0 (nI r) = 0 by decide) r hr⟩
  | j + 1, hj => by
    obtain ⟨i1, i2, i3⟩ := cr_at (R := R) (p := p) (m := m) (k := k) j (by omega)
    have hg : i01P (crT R p m (nI j) (nI k - nI j)) := cr01
    refine ⟨(hb_wb9 i1 (i := j) (j := j) (by omega) (by omega) hg).1, fun r hr => ?_, fun r h1 h2 => ?_⟩
    · show hasB (withB (crL R p m k j) (nI j) _) (nI r) = _
      rw [(hb_wb9 i1 (i := j) (j := r) (by omega) (by omega) hg).2]
      by_cases e : r = j
      · rw [if_pos e, e]
      · rw [if_neg e]; exact i2 r (by omega)
    · show hasB (withB (crL R p m k j) (nI j) _) (nI r) = _
      rw [(hb_wb9 i1 (i := j) (j := r) (by omega) (by omega) hg).2, if_neg (by omega)]
      exact i3 r (by omega) h2
def sC (R : Rg) (p m k r : Nat) : Prop := ¬ crT R p m (nI r) (nI k - nI r) = 0
def szN (y n : Nat) : Nat := pcN 8 y + pcN 8 n
def sV (R : Rg) (p m F y n : Nat) : Prop := y < 256 ∧ n < 256 ∧ y &&& n = 0 ∧ sC R p m (szN y n) (rhN F y n)
theorem sz_8 {y n : Nat} (h : y &&& n = 0) : szN y n ≤ 8 := by
  unfold szN
  rw [← pcN_or 8 y n h]
  exact pcN_le 8 _
theorem rh_le {F y n : Nat} : rhN F y n ≤ szN y n := by
  have h1 := pcN_and 8 y F
  have h2 := pcN_and 8 n (co F)
  unfold rhN szN
  omega
def sB (R : Rg) (p m F : Nat) (res : Int32) : Prop := ((∀ y n, ¬ sV R p m F y n) ∧ res = -3) ∨ ∃ y n, sV R p m F y n ∧ res = nI (256 * y + n) ∧ ∀ y' n', sV R p m F y' n' → szN y n ≤ szN y' n' ∧ (szN y' n' = szN y n → 256 * y + n ≤ 256 * y' + n')
theorem sB_u {R : Rg} {p m F : Nat} {a b : Int32} (ha : sB R p m F a) (hb : sB R p m F b) : a = b := by
  rcases ha with ⟨h1, h2⟩ | ⟨y, n, h1, h2, h3⟩
  · rcases hb with ⟨_, g2⟩ | ⟨y', n', g1, _, _⟩
    · rw [h2, g2]
    · exact absurd g1 (h1 y' n')
  · rcases hb with ⟨g1, _⟩ | ⟨y', n', g1, g2, g3⟩
    · exact absurd h1 (g1 y n)
    · have a1 := h3 y' n' g1
      have b1 := g3 y n h1
      have e : szN y n = szN y' n' := by omega
      have a2 := a1.2 e.symm
      have b2 := b1.2 e
      rw [h2, g2]
      congr 1
      omega
theorem ln_spec {F y k : Nat} {mk : Int32} (hF : F < 256) (hy : y < 256) (hk : k ≤ 8) : ∀ (j i : Nat), i + j = 256 → (∃ n, i ≤ n ∧ n < 256 ∧ y &&& n = 0 ∧ szN y n = k ∧ ¬ hasB mk (nI (rhN F y n)) = 0) → ∃ n, n < 256 ∧ y &&& n = 0 ∧ szN y n = k ∧ ¬ hasB mk (nI (rhN F y n)) = 0 ∧ lnF (nI F) (nI y) (nI k) mk j i = nI n ∧ ∀ n', i ≤ n' → n' < 256 → y &&& n' = 0 → szN y n' = k → ¬ hasB mk (nI (rhN F y n')) = 0 → n ≤ n' := by
  have l0 := pcN_le 8 y
  intro j
  induction j with
  | zero =>
    rintro i hi ⟨n, h1, h2, _⟩
    omega
  | succ j ih =>
    intro i hi hex
    have hi8 : i < 256 := by omega
    have li := pcN_le 8 i
    have la : y &&& i < 256 := Nat.lt_of_le_of_lt Nat.and_le_left hy
    have cond : ((nI y &&& nI i = 0 ∧ bc (nI i) = nI k - bc (nI y)) ∧ ¬ hasB mk (rightF (nI y) (nI i) (nI F)) = 0) ↔ y &&& i = 0 ∧ szN y i = k ∧ ¬ hasB mk (nI (rhN F y i)) = 0 := by
      rw [rh_n hF hy hi8, nI_and, bc_pc hi8, bc_pc hy, ← nI_0, nI_eq (by omega) (by omega)]
      have e : nI (pcN 8 i) = nI k - nI (pcN 8 y) ↔ szN y i = k := by
        rw [← Int32.toInt_inj, subI (by omega) (by omega), nI_toInt (by omega)]
        unfold szN
        omega
      rw [e]
      exact ⟨fun h => ⟨h.1.1, h.1.2, h.2⟩, fun h => ⟨⟨h.1, h.2.1⟩, h.2.2⟩⟩
    unfold lnF
    by_cases c : (nI y &&& nI i = 0 ∧ bc (nI i) = nI k - bc (nI y)) ∧ ¬ hasB mk (rightF (nI y) (nI i) (nI F)) = 0
    · obtain ⟨c1, c2, c3⟩ := cond.mp c
      rw [if_pos c]
      exact ⟨i, hi8, c1, c2, c3, rfl, fun n' h _ _ _ _ => h⟩
    · rw [if_neg c]
      obtain ⟨n, h1, h2, h3, h4, h5⟩ := hex
      have hn : n ≠ i := fun e => c (cond.mpr (e ▸ ⟨h3, h4, h5⟩))
      obtain ⟨n0, a1, a2, a3, a4, a5, a6⟩ := ih (i + 1) (by omega) ⟨n, by omega, h2, h3, h4, h5⟩
      refine ⟨n0, a1, a2, a3, a4, a5, fun n' b1 b2 b3 b4 b5 => ?_⟩
      by_cases e : n' = i
      · exact absurd (cond.mpr (e ▸ ⟨b3, b4, b5⟩)) c
      · exact a6 n' (by omega) b2 b3 b4 b5
theorem ls_spec {F k : Nat} {mk : Int32} (hF : F < 256) (hk : k ≤ 8) : ∀ (j i : Nat), i + j = 256 → (∃ y n, i ≤ y ∧ y < 256 ∧ n < 256 ∧ y &&& n = 0 ∧ szN y n = k ∧ ¬ hasB mk (nI (rhN F y n)) = 0) → ∃ y n, y < 256 ∧ n < 256 ∧ y &&& n = 0 ∧ szN y n = k ∧ ¬ hasB mk (nI (rhN F y n)) = 0 ∧ lsF (nI F) mk k j i = nI (256 * y + n) ∧ ∀ y' n', i ≤ y' → y' < 256 → n' < 256 → y' &&& n' = 0 → szN y' n' = k → ¬ hasB mk (nI (rhN F y' n')) = 0 → 256 * y + n ≤ 256 * y' + n' := by
  intro j
  induction j with
  | zero =>
    rintro i hi ⟨y, n, h1, h2, _⟩
    omega
  | succ j ih =>
    intro i hi hex
    have hi8 : i < 256 := by omega
    have hmb := mb_iff (mk := mk) hF hi8 hk
    unfold lsF
    by_cases c : mbY (nI F) (nI i) mk k = 0
    · rw [if_pos c]
      obtain ⟨y, n, h1, h2, h3, h4, h5, h6⟩ := hex
      have hy : y ≠ i := fun e => (hmb.mpr ⟨n, h3, e ▸ h4, e ▸ h5, e ▸ h6⟩) c
      obtain ⟨y0, n0, a1, a2, a3, a4, a5, a6, a7⟩ := ih (i + 1) (by omega) ⟨y, n, by omega, h2, h3, h4, h5, h6⟩
      refine ⟨y0, n0, a1, a2, a3, a4, a5, a6, fun y' n' b1 b2 b3 b4 b5 b6 => ?_⟩
      by_cases e : y' = i
      · exact absurd c (hmb.mpr ⟨n', b3, e ▸ b4, e ▸ b5, e ▸ b6⟩)
      · exact a7 y' n' (by omega) b2 b3 b4 b5 b6
    · rw [if_neg c]
      obtain ⟨n, h1, h2, h3, h4⟩ := hmb.mp c
      obtain ⟨n0, a1, a2, a3, a4, a5, a6⟩ := ln_spec (mk := mk) hF hi8 hk 256 0 (by omega) ⟨n, by omega, h1, h2, h3, h4⟩
      refine ⟨i, n0, hi8, a1, a2, a3, a4, ?_, fun y' n' b1 b2 b3 b4 b5 b6 => ?_⟩
      · rw [a5, show (256 : Int32) = nI 256 from rfl, nI_mul, nI_add, Nat.mul_comm]
      · by_cases e : y' = i
        · subst e
          have := a6 n' (by omega) b3 b4 b5 b6
          omega
        · omega
theorem sf_spec {R : Rg} {p m F : Nat} (hF : F < 256) (eF : rFa R = nI F) : ∀ (j k : Nat), k + j = 9 → (∀ y n, sV R p m F y n → k ≤ szN y n) → sB R p m F (sfF R p m j k) := by
  intro j
  induction j with
  | zero =>
    intro k hk hV
    refine Or.inl ⟨fun y n h => ?_, rfl⟩
    have := hV y n h
    have := sz_8 h.2.2.1
    omega
  | succ j ih =>
    intro k hk hV
    obtain ⟨c1, c2, c3⟩ := cr_at (R := R) (p := p) (m := m) (k := k) (k + 1) (by omega)
    have bit : ∀ y n, szN y n = k → (¬ hasB (crL R p m k (k + 1)) (nI (rhN F y n)) = 0 ↔ sC R p m k (rhN F y n)) := by
      intro y n e
      have := rh_le (F := F) (y := y) (n := n)
      rw [c2 _ (by omega)]
      rfl
    unfold sfF
    by_cases c : crL R p m k (k + 1) = 0
    · rw [if_pos c]
      refine ih (k + 1) (by omega) (fun y n h => ?_)
      have h1 := hV y n h
      by_cases e : szN y n = k
      · have hb := (z9 c1).mp c (rhN F y n) (by have := rh_le (F := F) (y := y) (n := n); omega)
        obtain ⟨_, _, _, h4⟩ := h
        rw [e] at h4
        exact absurd hb ((bit y n e).mpr h4)
      · omega
    · rw [if_neg c, eF]
      have hr : ∃ r, r < 9 ∧ ¬ hasB (crL R p m k (k + 1)) (nI r) = 0 := Classical.not_not.mp (fun z => c ((z9 c1).mpr (fun r hr => Classical.not_not.mp (fun w => z ⟨r, hr, w⟩))))
      obtain ⟨r, hr9, hrb⟩ := hr
      have hrk : r ≤ k := Nat.not_lt.mp (fun z => hrb (c3 r (by omega) hr9))
      obtain ⟨y, n, e1, e2, e3, e4, e5⟩ := ex_n (k := k) (r := r) hF (by omega) hrk
      obtain ⟨y0, n0, a1, a2, a3, a4, a5, a6, a7⟩ := ls_spec (mk := crL R p m k (k + 1)) hF (by omega) 256 0 (by omega) ⟨y, n, by omega, e1, e2, e3, e4, by rw [e5]; exact hrb⟩
      refine Or.inr ⟨y0, n0, ⟨a1, a2, a3, by rw [a4]; exact (bit y0 n0 a4).mp a5⟩, a6, fun y' n' h' => ?_⟩
      have h1 := hV y' n' h'
      refine ⟨by omega, fun e => ?_⟩
      obtain ⟨b1, b2, b3, b4⟩ := h'
      have e : szN y' n' = k := by omega
      rw [e] at b4
      exact a7 y' n' (by omega) b1 b2 b3 e ((bit y' n' e).mpr b4)
