def co (x : Nat) : Nat := 255 ^^^ x
def rhN (F y n : Nat) : Nat := pcN 8 (y &&& F) + pcN 8 (n &&& co F)
def coB : Bool := (List.range 256).all fun x => Nat.beq (x &&& co x) 0 && Nat.beq (x ||| co x) 255 && Nat.blt (co x) 256 && Nat.beq (x &&& 255) x && ((255 : Int32) &&& (nI x ^^^ -1) == nI (co x))
theorem coB_t : coB = true := by decide +kernel
theorem co_n {x : Nat} (hx : x < 256) : x &&& co x = 0 ∧ x ||| co x = 255 ∧ co x < 256 ∧ x &&& 255 = x ∧ (255 : Int32) &&& (nI x ^^^ -1) = nI (co x) := by
  have h := coB_t
  unfold coB at h
  have h := List.all_eq_true.mp h x (List.mem_range.mpr hx)
  simp only [Bool.and_eq_true, Nat.beq_eq] at h
  obtain ⟨⟨⟨⟨h1, h2⟩, h3⟩, h4⟩, h5⟩ := h
  exact ⟨h1, h2, Nat.blt_eq.mp h3, h4, eq_of_beq h5⟩
theorem and_dis {n F : Nat} (hF : F < 256) : (n &&& F) &&& (n &&& co F) = 0 := by
  have e : (n &&& F) &&& (n &&& co F) = (n &&& n) &&& (F &&& co F) := by ac_rfl
  rw [e, (co_n hF).1, Nat.and_zero]
theorem and_spl {n F : Nat} (hn : n < 256) (hF : F < 256) : (n &&& F) ||| (n &&& co F) = n := by
  rw [← Nat.and_or_distrib_left, (co_n hF).2.1, (co_n hn).2.2.2.1]
theorem pc_spl {n F : Nat} (hn : n < 256) (hF : F < 256) : pcN 8 n = pcN 8 (n &&& F) + pcN 8 (n &&& co F) := by
  have := pcN_or 8 _ _ (and_dis (n := n) hF)
  rwa [and_spl hn hF] at this
theorem sub_co {y n : Nat} (hy : y < 256) (hn : n < 256) (h : y &&& n = 0) : n &&& co y = n := by
  have := and_spl hn hy
  rwa [Nat.and_comm n y, h, Nat.zero_or] at this
theorem nand_n {n F : Nat} (hn : n < 256) (hF : F < 256) : nI n &&& (nI F ^^^ -1) = nI (n &&& co F) := by
  have e : nI n = nI n &&& 255 := by
    rw [show (255 : Int32) = nI 255 from rfl, nI_and, (co_n hn).2.2.2.1]
  rw [e, Int32.and_assoc, (co_n hF).2.2.2.2, nI_and]
theorem rh_n {F y n : Nat} (hF : F < 256) (hy : y < 256) (hn : n < 256) : rightF (nI y) (nI n) (nI F) = nI (rhN F y n) := by
  unfold rightF rhN
  have l1 : y &&& F < 256 := Nat.lt_of_le_of_lt Nat.and_le_left hy
  have l2 : n &&& co F < 256 := Nat.lt_of_le_of_lt Nat.and_le_left hn
  rw [nand_n hn hF, nI_and, bc_pc l1, bc_pc l2, nI_add]
theorem mbA_n {F y : Nat} (hF : F < 256) (hy : y < 256) : mbA (nI F) (nI y) = nI (pcN 8 (co y &&& F)) := by
  unfold mbA
  have l1 : co y &&& F < 256 := Nat.lt_of_le_of_lt Nat.and_le_right hF
  rw [(co_n hy).2.2.2.2, nI_and, bc_pc l1]
theorem mbB_n {F y : Nat} (hF : F < 256) (hy : y < 256) : mbB (nI F) (nI y) = nI (pcN 8 (co y &&& co F)) := by
  unfold mbB
  have l0 := (co_n hy).2.2.1
  have l1 : co y &&& co F < 256 := Nat.lt_of_le_of_lt Nat.and_le_left l0
  rw [(co_n hy).2.2.2.2, nand_n l0 hF, bc_pc l1]
def subN : Nat → Nat → Nat → Nat
  | 0, _, _ => 0
  | f + 1, x, j => if x % 2 = 1 ∧ 0 < j then 1 + 2 * subN f (x / 2) (j - 1) else 2 * subN f (x / 2) j
def subB : Bool := (List.range 256).all fun x => (List.range (pcN 8 x + 1)).all fun j => Nat.beq (subN 8 x j &&& x) (subN 8 x j) && Nat.beq (pcN 8 (subN 8 x j)) j && Nat.blt (subN 8 x j) 256
theorem subB_t : subB = true := by decide +kernel
theorem sub_n {x j : Nat} (hx : x < 256) (hj : j ≤ pcN 8 x) : ∃ s, s < 256 ∧ s &&& x = s ∧ pcN 8 s = j := by
  have h := subB_t
  unfold subB at h
  have h := List.all_eq_true.mp (List.all_eq_true.mp h x (List.mem_range.mpr hx)) j (List.mem_range.mpr (by omega))
  simp only [Bool.and_eq_true, Nat.beq_eq] at h
  exact ⟨_, Nat.blt_eq.mp h.2, h.1.1, h.1.2⟩
theorem pc_sub {a b : Nat} (h : a &&& b = a) : pcN 8 a ≤ pcN 8 b := by
  have := pcN_and 8 b a
  rwa [Nat.and_comm, h] at this
/-- what one may deny beside what it says -/
theorem no_iff {F y k : Nat} {B : Nat → Prop} (hF : F < 256) (hy : y < 256) (hk : pcN 8 y ≤ k) : (∃ n, n < 256 ∧ y &&& n = 0 ∧ pcN 8 y + pcN 8 n = k ∧ B (rhN F y n)) ↔ ∃ x, k - pcN 8 y - pcN 8 (co y &&& F) ≤ x ∧ x ≤ min (pcN 8 (co y &&& co F)) (k - pcN 8 y) ∧ B (pcN 8 (y &&& F) + x) := by
  have lc := (co_n hy).2.2.1
  constructor
  · rintro ⟨n, hn, hd, hp, hB⟩
    refine ⟨pcN 8 (n &&& co F), ?_, ?_, hB⟩
    · have h1 := pc_spl hn hF
      have h2 : pcN 8 (n &&& F) ≤ pcN 8 (co y &&& F) := by
        apply pc_sub
        have e : (n &&& F) &&& (co y &&& F) = (n &&& co y) &&& (F &&& F) := by ac_rfl
        rw [e, sub_co hy hn hd, Nat.and_self]
      omega
    · have h1 := pc_spl hn hF
      have h2 : pcN 8 (n &&& co F) ≤ pcN 8 (co y &&& co F) := by
        apply pc_sub
        have e : (n &&& co F) &&& (co y &&& co F) = (n &&& co y) &&& (co F &&& co F) := by ac_rfl
        rw [e, sub_co hy hn hd, Nat.and_self]
      omega
  · rintro ⟨x, h1, h2, hB⟩
    have l1 : co y &&& F < 256 := Nat.lt_of_le_of_lt Nat.and_le_left lc
    have l2 : co y &&& co F < 256 := Nat.lt_of_le_of_lt Nat.and_le_left lc
    obtain ⟨u, hu, u1, u2⟩ := sub_n l2 (j := x) (by omega)
    obtain ⟨v, hv, v1, v2⟩ := sub_n l1 (j := k - pcN 8 y - x) (by omega)
    have z0 := (co_n hF).1
    have y0 := (co_n hy).1
    have uF : u &&& F = 0 := by
      rw [← u1]
      have e : u &&& (co y &&& co F) &&& F = u &&& co y &&& (F &&& co F) := by ac_rfl
      rw [e, z0, Nat.and_zero]
    have vF : v &&& co F = 0 := by
      rw [← v1]
      have e : v &&& (co y &&& F) &&& co F = v &&& co y &&& (F &&& co F) := by ac_rfl
      rw [e, z0, Nat.and_zero]
    have uc : u &&& co F = u := by
      have := and_spl hu hF
      rwa [uF, Nat.zero_or] at this
    have uv : u &&& v = 0 := by
      rw [← uc]
      have e : u &&& co F &&& v = u &&& (v &&& co F) := by ac_rfl
      rw [e, vF, Nat.and_zero]
    have yu : y &&& u = 0 := by
      rw [← u1]
      have e : y &&& (u &&& (co y &&& co F)) = u &&& co F &&& (y &&& co y) := by ac_rfl
      rw [e, y0, Nat.and_zero]
    have yv : y &&& v = 0 := by
      rw [← v1]
      have e : y &&& (v &&& (co y &&& F)) = v &&& F &&& (y &&& co y) := by ac_rfl
      rw [e, y0, Nat.and_zero]
    refine ⟨u ||| v, Nat.or_lt_two_pow (n := 8) hu hv, ?_, ?_, ?_⟩
    · rw [Nat.and_or_distrib_left, yu, yv]; rfl
    · rw [pcN_or 8 u v uv, u2, v2]; omega
    · unfold rhN
      rw [Nat.and_or_distrib_right, uc, vF, Nat.or_zero, u2]
      exact hB
theorem subI {a b : Nat} (ha : a ≤ 1000) (hb : b ≤ 1000) : (nI a - nI b).toInt = (a : Int) - b := by
  rw [Int32.toInt_sub, nI_toInt (by omega), nI_toInt (by omega), Int.bmod_eq_of_le (by omega) (by omega)]
theorem mbF_iff {mk : Int32} {ρ U : Nat} (hU : U ≤ 63) : ∀ (j v : Nat), v + j = 65 → (¬ mbF mk (nI ρ) (nI U) j v = 0 ↔ ∃ x, v ≤ x ∧ x ≤ U ∧ ¬ hasB mk (nI (ρ + x)) = 0) := by
  intro j
  induction j with
  | zero =>
    intro v hv
    refine ⟨fun h => absurd rfl h, ?_⟩
    rintro ⟨x, x1, x2, _⟩
    omega
  | succ j ih =>
    intro v hv
    unfold mbF
    have e := nIlt (i := U) (j := v) (by omega) (by omega)
    by_cases h : U < v
    · rw [if_pos (e.mpr h)]
      refine ⟨fun h => absurd rfl h, ?_⟩
      rintro ⟨x, x1, x2, _⟩
      omega
    rw [if_neg (fun z => h (e.mp z)), nI_add]
    by_cases hq : hasB mk (nI (ρ + v)) = 0
    · rw [if_pos hq, ih (v + 1) (by omega)]
      constructor
      · rintro ⟨x, x1, x2, x3⟩
        exact ⟨x, by omega, x2, x3⟩
      · rintro ⟨x, x1, x2, x3⟩
        by_cases ex : x = v
        · rw [ex] at x3; exact absurd hq x3
        · exact ⟨x, by omega, x2, x3⟩
    · rw [if_neg hq]
      exact ⟨fun _ => ⟨v, by omega, by omega, hq⟩, fun _ => by decide⟩
theorem mb_iff {F y k : Nat} {mk : Int32} (hF : F < 256) (hy : y < 256) (hk : k ≤ 8) : ¬ mbY (nI F) (nI y) mk k = 0 ↔ ∃ n, n < 256 ∧ y &&& n = 0 ∧ pcN 8 y + pcN 8 n = k ∧ ¬ hasB mk (nI (rhN F y n)) = 0 := by
  have l0 := pcN_le 8 y
  have la := pcN_le 8 (co y &&& F)
  have lb := pcN_le 8 (co y &&& co F)
  have l1 : y &&& F < 256 := Nat.lt_of_le_of_lt Nat.and_le_left hy
  unfold mbY mbU mbV
  rw [mbA_n hF hy, mbB_n hF hy, bc_pc hy, nI_and, bc_pc l1]
  by_cases hp : pcN 8 y ≤ k
  · rw [no_iff (B := fun r => ¬ hasB mk (nI r) = 0) hF hy hp]
    generalize pcN 8 (co y &&& F) = a at *
    generalize pcN 8 (co y &&& co F) = b at *
    rw [nI_sub hp]
    have eU : (if nI b < nI (k - pcN 8 y) then nI b else nI (k - pcN 8 y)) = nI (min b (k - pcN 8 y)) := by
      have e := nIlt (i := b) (j := k - pcN 8 y) (by omega) (by omega)
      by_cases c : b < k - pcN 8 y
      · rw [if_pos (e.mpr c), Nat.min_eq_left (by omega)]
      · rw [if_neg (fun z => c (e.mp z)), Nat.min_eq_right (by omega)]
    have eV : (if 0 < nI (k - pcN 8 y) - nI a then nI (k - pcN 8 y) - nI a else 0) = nI (k - pcN 8 y - a) := by
      by_cases c : a ≤ k - pcN 8 y
      · rw [nI_sub c]
        by_cases c2 : k - pcN 8 y - a = 0
        · rw [c2]; rfl
        · have e : (0 < nI (k - pcN 8 y - a)) = (0 < k - pcN 8 y - a) := nIlt (i := 0) (j := k - pcN 8 y - a) (by omega) (by omega)
          rw [if_pos (e.mpr (by omega))]
      · rw [if_neg, show k - pcN 8 y - a = 0 by omega]
        · rfl
        · rw [Int32.lt_iff_toInt_lt, subI (by omega) (by omega), t0]
          omega
    rw [eU, eV, nIc (by omega), mbF_iff (by omega) _ _ (by omega)]
  · have hn : (nI k - nI (pcN 8 y)).toInt = (k : Int) - pcN 8 y := subI (by omega) (by omega)
    have e1 : ¬ nI (pcN 8 (co y &&& co F)) < nI k - nI (pcN 8 y) := by
      rw [Int32.lt_iff_toInt_lt, hn, nI_toInt (by omega)]
      omega
    have e2 : ¬ 0 < nI k - nI (pcN 8 y) - nI (pcN 8 (co y &&& F)) := by
      rw [Int32.lt_iff_toInt_lt, Int32.toInt_sub, hn, nI_toInt (by omega), t0, Int.bmod_eq_of_le (by omega) (by omega)]
      omega
    have e3 : nI k - nI (pcN 8 y) < nI 0 := by
      rw [Int32.lt_iff_toInt_lt, hn, nI_toInt (by omega)]
      omega
    rw [if_neg e1, if_neg e2]
    constructor
    · intro h
      refine absurd ?_ h
      show mbF mk _ _ 65 0 = 0
      unfold mbF
      rw [if_pos e3]
    · rintro ⟨n, _, _, h, _⟩
      omega
