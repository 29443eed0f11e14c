-- sets of eight, as numbers
def bN (m i : Nat) : Nat := m / 2 ^ i % 2
def wbN (m i t : Nat) : Nat := m - bN m i * 2 ^ i + t * 2 ^ i
def pcN : Nat → Nat → Nat
  | 0, _ => 0
  | f + 1, x => x % 2 + pcN f (x / 2)
theorem b256 {P : Nat → Prop} (h : ∀ a, a < 16 → ∀ b, b < 16 → P (16 * a + b)) (i : Nat) (hi : i < 256) : P i := by
  have := h (i / 16) (by omega) (i % 16) (by omega)
  rwa [show 16 * (i / 16) + i % 16 = i by omega] at this
theorem pcN_le : ∀ f x, pcN f x ≤ f
  | 0, _ => Nat.le_refl _
  | f + 1, x => by
    have := pcN_le f (x / 2)
    show x % 2 + pcN f (x / 2) ≤ f + 1
    omega
theorem pcN_or : ∀ (f a b : Nat), a &&& b = 0 → pcN f (a ||| b) = pcN f a + pcN f b
  | 0, _, _, _ => rfl
  | f + 1, a, b, h => by
    have h1 : (a / 2) &&& (b / 2) = 0 := by rw [← Nat.and_div_two, h]
    have ih := pcN_or f (a / 2) (b / 2) h1
    have h2 : ¬ (a % 2 = 1 ∧ b % 2 = 1) := by
      rw [← Nat.and_mod_two_eq_one, h]
      omega
    have h3 := Nat.or_mod_two_eq_one (a := a) (b := b)
    show (a ||| b) % 2 + pcN f ((a ||| b) / 2) = (a % 2 + pcN f (a / 2)) + (b % 2 + pcN f (b / 2))
    rw [Nat.or_div_two, ih]
    by_cases ha : a % 2 = 1
    · have : (a ||| b) % 2 = 1 := h3.mpr (Or.inl ha)
      omega
    · by_cases hb : b % 2 = 1
      · have : (a ||| b) % 2 = 1 := h3.mpr (Or.inr hb)
        omega
      · have : ¬ (a ||| b) % 2 = 1 := fun z => (h3.mp z).elim ha hb
        omega
theorem bc_16 : ∀ a, a < 16 → ∀ b, b < 16 → bc (nI (16 * a + b)) = nI (pcN 8 (16 * a + b)) := by decide +kernel
theorem bc_pc {i : Nat} (h : i < 256) : bc (nI i) = nI (pcN 8 i) := b256 (P := fun i => bc (nI i) = nI (pcN 8 i)) bc_16 i h
theorem nI_and (a b : Nat) : nI a &&& nI b = nI (a &&& b) := by
  apply Int32.toBitVec_inj.mp
  rw [Int32.toBitVec_and]
  exact BitVec.ofNat_and.symm
theorem nI_or (a b : Nat) : nI a ||| nI b = nI (a ||| b) := by
  apply Int32.toBitVec_inj.mp
  rw [Int32.toBitVec_or]
  exact BitVec.ofNat_or.symm
theorem is8.or {x y : Int32} (h : is8 x) (h' : is8 y) : is8 (x ||| y) := by
  obtain ⟨i, hi, rfl⟩ := h
  obtain ⟨j, hj, rfl⟩ := h'
  exact ⟨i ||| j, Nat.or_lt_two_pow (n := 8) hi hj, nI_or i j⟩
theorem is8.bc {x : Int32} (h : is8 x) : ∃ j, j ≤ 8 ∧ bc x = nI j := by
  obtain ⟨i, hi, rfl⟩ := h
  exact ⟨_, pcN_le 8 i, bc_pc hi⟩
theorem bc_or {x y : Int32} (h : is8 x) (h' : is8 y) (hd : x &&& y = 0) : bc (x ||| y) = bc x + bc y := by
  obtain ⟨i, hi, rfl⟩ := h
  obtain ⟨j, hj, rfl⟩ := h'
  have hl : i &&& j < 2 ^ 8 := Nat.and_lt_two_pow i (n := 8) hj
  have hz : i &&& j = 0 := by
    rw [nI_and, ← nI_0, nI_eq (by omega) (by omega)] at hd
    exact hd
  rw [nI_or, bc_pc (Nat.or_lt_two_pow (n := 8) hi hj), bc_pc hi, bc_pc hj, pcN_or 8 i j hz, nI_add]
theorem hb_16 : ∀ a, a < 16 → ∀ b, b < 16 → ∀ i, i < 8 → hasB (nI (16 * a + b)) (nI i) = nI (bN (16 * a + b) i) := by decide +kernel
theorem hb_n {m i : Nat} (hm : m < 256) (hi : i < 8) : hasB (nI m) (nI i) = nI (bN m i) := b256 (P := fun m => ∀ i, i < 8 → hasB (nI m) (nI i) = nI (bN m i)) hb_16 m hm i hi
theorem sh_16 : ∀ a, a < 16 → ∀ b, b < 16 → ∀ i, i < 8 → (nI (16 * a + b) >>> (nI i &&& 31)) &&& 1 = nI (bN (16 * a + b) i) := by decide +kernel
theorem sh_n {m i : Nat} (hm : m < 256) (hi : i < 8) : (nI m >>> (nI i &&& 31)) &&& 1 = nI (bN m i) := b256 (P := fun m => ∀ i, i < 8 → (nI m >>> (nI i &&& 31)) &&& 1 = nI (bN m i)) sh_16 m hm i hi
theorem wb_16 : ∀ a, a < 16 → ∀ b, b < 16 → ∀ i, i < 8 → ∀ t, t < 2 → withB (nI (16 * a + b)) (nI i) (nI t) = nI (wbN (16 * a + b) i t) := by decide +kernel
theorem wb_n {m i t : Nat} (hm : m < 256) (hi : i < 8) (ht : t < 2) : withB (nI m) (nI i) (nI t) = nI (wbN m i t) := b256 (P := fun m => ∀ i, i < 8 → ∀ t, t < 2 → withB (nI m) (nI i) (nI t) = nI (wbN m i t)) wb_16 m hm i hi t ht
theorem wbb_16 : ∀ a, a < 16 → ∀ b, b < 16 → ∀ i, i < 8 → ∀ j, j < 8 → ∀ t, t < 2 → bN (wbN (16 * a + b) i t) j = if j = i then t else bN (16 * a + b) j := by decide +kernel
theorem wbb_n {m i j t : Nat} (hm : m < 256) (hi : i < 8) (hj : j < 8) (ht : t < 2) : bN (wbN m i t) j = if j = i then t else bN m j := b256 (P := fun m => ∀ i, i < 8 → ∀ j, j < 8 → ∀ t, t < 2 → bN (wbN m i t) j = if j = i then t else bN m j) wbb_16 m hm i hi j hj t ht
def wblB : Bool := (List.range 9).all fun w => (List.range (2 ^ w)).all fun m => (List.range w).all fun i => Nat.blt (wbN m i 0) (2 ^ w) && Nat.blt (wbN m i 1) (2 ^ w)
theorem wblB_t : wblB = true := by decide +kernel
theorem wbl_n {m w i t : Nat} (hw : w ≤ 8) (hm : m < 2 ^ w) (hi : i < w) (ht : t < 2) : wbN m i t < 2 ^ w := by
  have h := wblB_t
  unfold wblB at h
  have h := List.all_eq_true.mp (List.all_eq_true.mp (List.all_eq_true.mp h w (List.mem_range.mpr (by omega))) m (List.mem_range.mpr hm)) i (List.mem_range.mpr hi)
  rw [Bool.and_eq_true] at h
  have : t = 0 ∨ t = 1 := by omega
  rcases this with rfl | rfl
  · exact Nat.blt_eq.mp h.1
  · exact Nat.blt_eq.mp h.2
theorem bN_lt (m i : Nat) : bN m i < 2 := Nat.mod_lt _ (by omega)
theorem p2_8 {m w : Nat} (hw : w ≤ 8) (hm : m < 2 ^ w) : m < 256 := Nat.lt_of_lt_of_le hm (Nat.pow_le_pow_right (n := 2) (by omega) hw)
/-- a new one has not fallen -/
theorem bN_new {m w : Nat} (hm : m < 2 ^ w) : bN m w = 0 := by
  unfold bN
  rw [Nat.div_eq_of_lt hm]
theorem is8_0 : is8 0 := ⟨0, by omega, rfl⟩
theorem is8_of {x : Int32} (h : 0 ≤ x ∧ x ≤ 255) : is8 x := by
  obtain ⟨i, hi, rfl⟩ := nI_of1 (N := 255) (by omega) h.1 h.2
  exact ⟨i, by omega, rfl⟩
theorem xr_16 : ∀ a, a < 16 → ∀ b, b < 16 → ∀ i, i < 8 → nI (16 * a + b) ^^^ (1 <<< (nI i &&& 31)) = nI ((16 * a + b) ^^^ 2 ^ i) ∧ (16 * a + b) ^^^ 2 ^ i < 256 := by decide +kernel
theorem is8.flip {x : Int32} (h : is8 x) {i : Nat} (hi : i < 8) : is8 (x ^^^ (1 <<< (nI i &&& 31))) := by
  obtain ⟨m, hm, rfl⟩ := h
  obtain ⟨h1, h2⟩ := b256 (P := fun m => ∀ i, i < 8 → nI m ^^^ (1 <<< (nI i &&& 31)) = nI (m ^^^ 2 ^ i) ∧ m ^^^ 2 ^ i < 256) xr_16 m hm i hi
  exact ⟨_, h2, h1⟩
theorem is8.wb {x : Int32} (h : is8 x) {i t : Nat} (hi : i < 8) (ht : t < 2) : is8 (withB x (nI i) (nI t)) := by
  obtain ⟨m, hm, rfl⟩ := h
  exact ⟨_, wbl_n (w := 8) (by omega) hm hi ht, wb_n hm hi ht⟩
-- circuses as they can be
def okW (R : Rg) (i : Nat) : Prop := (∃ k, k < 6 ∧ rKd R i = nI k) ∧ (∃ p, p ≤ 20 ∧ rPl R i = nI p) ∧ is8 (rYe R i) ∧ is8 (rNo R i) ∧ rYe R i &&& rNo R i = 0
def okR (R : Rg) : Prop := rW R ≤ 8 ∧ is8 (rFa R) ∧ (∃ m, m < 2 ^ rW R ∧ rFl R = nI m) ∧ (∀ k, k < 4 → ∃ v, v ≤ 99 ∧ rLw R k = nI v) ∧ nrm R ∧ ∀ i, i < rW R → okW R i
theorem right_n {y m f : Int32} (h : is8 y) (h' : is8 m) : ∃ j, j ≤ 16 ∧ rightF y m f = nI j := by
  obtain ⟨a, ha, ea⟩ := (h.and (y := f)).bc
  obtain ⟨b, hb, eb⟩ := (h'.and (y := f ^^^ (-1))).bc
  refine ⟨a + b, by omega, ?_⟩
  unfold rightF
  rw [ea, eb, nI_add]
theorem str_n {k s r : Int32} (hr : ∃ j, j ≤ 16 ∧ r = nI j) : ∃ j, j ≤ 17 ∧ stridesF k s r = nI j := by
  unfold stridesF
  by_cases h1 : k = 1
  · rw [if_pos h1]; exact ⟨2, by omega, rfl⟩
  rw [if_neg h1]
  by_cases h2 : k = 2
  · rw [if_pos h2]; exact ⟨1, by omega, rfl⟩
  rw [if_neg h2]
  by_cases h3 : k = 3
  · rw [if_pos h3]
    by_cases h5 : s &&& 1 = 0
    · rw [if_pos h5]; exact ⟨3, by omega, rfl⟩
    · rw [if_neg h5]; exact ⟨2, by omega, rfl⟩
  rw [if_neg h3]
  by_cases h4 : k = 4
  · rw [if_pos h4]
    obtain ⟨j, hj, rfl⟩ := hr
    exact ⟨1 + j, by omega, (nI_add 1 j)⟩
  rw [if_neg h4]
  exact ⟨1, by omega, rfl⟩
def pl20 (x : Int32) : Prop := ∃ p, p ≤ 20 ∧ x = nI p
def i01P (x : Int32) : Prop := x = 0 ∨ x = 1
theorem pl_nn {x y : Int32} (h : pl20 x) (h' : ∃ j, j ≤ 17 ∧ y = nI j) : ¬ x + y < 0 := by
  obtain ⟨p, hp, rfl⟩ := h
  obtain ⟨j, hj, rfl⟩ := h'
  rw [nI_add]
  exact nI_pos (by omega)
theorem stepW_pl {p b w k wt r wr s : Int32} {q : Int32 × Int32} (hr : ∃ j, j ≤ 16 ∧ r = nI j) (hq : pl20 q.1) : pl20 (stepW p b w k wt r wr s q).1 := by
  unfold stepW
  by_cases h1 : q.2 = 0 ∧ ¬ q.1 = 20
  · rw [if_pos h1]
    by_cases h2 : bearsF p b w k q.1 r wr < wt
    · rw [if_pos h2]; exact hq
    rw [if_neg h2]
    show pl20 (if q.1 + stridesF k s r < 20 then q.1 + stridesF k s r else 20)
    by_cases h3 : q.1 + stridesF k s r < 20
    · rw [if_pos h3]
      obtain ⟨i, hi, e1⟩ := hq
      obtain ⟨j, hj, e2⟩ := str_n (k := k) (s := s) hr
      rw [e1, e2, nI_add] at h3 ⊢
      refine ⟨i + j, ?_, rfl⟩
      have : nI (i + j) < nI 20 := h3
      rw [nI_ltI (by omega) (by omega)] at this
      omega
    · rw [if_neg h3]; exact ⟨20, by omega, rfl⟩
  · rw [if_neg h1]; exact hq
theorem stepW_fl {p b w k wt r wr s : Int32} {q : Int32 × Int32} (hq : i01P q.2) : i01P (stepW p b w k wt r wr s q).2 := by
  unfold stepW
  by_cases h1 : q.2 = 0 ∧ ¬ q.1 = 20
  · rw [if_pos h1]
    by_cases h2 : bearsF p b w k q.1 r wr < wt
    · rw [if_pos h2]; exact Or.inr rfl
    rw [if_neg h2]
    exact hq
  · rw [if_neg h1]; exact hq
theorem hb01 {s b : Int32} : i01P (hasB s b) := by
  unfold hasB
  by_cases h : (s >>> (b &&& 31)) &&& 1 = 1
  · rw [if_pos h]; exact Or.inr rfl
  · rw [if_neg h]; exact Or.inl rfl
theorem i01n {x : Int32} (h : i01P x) : ∃ t, t < 2 ∧ x = nI t := h.elim (fun h => ⟨0, by omega, h⟩) (fun h => ⟨1, by omega, h⟩)
theorem okR.ys {R : Rg} {f : Nat → Int32} {i : Nat} (h : okR R) (hR : rowR f R) (hi : i < rW R) : ys8 f i := by
  obtain ⟨_, _, h3, h4, _⟩ := h.2.2.2.2.2 i hi
  obtain ⟨_, _, _, r3, r4, _⟩ := hR.2.2.2.2.2 i hi
  exact ⟨by rw [r3]; exact h3, by rw [r4]; exact h4⟩
theorem row_mR {R : Rg} {f : Nat → Int32} {i : Nat} (hR : rowR f R) (hi : i < rW R) : mR f i = rt R i (rFa R) := by
  obtain ⟨_, _, _, r3, r4, _⟩ := hR.2.2.2.2.2 i hi
  unfold mR
  rw [r3, r4, hR.2.2.1]
theorem row_mD {R : Rg} {f : Nat → Int32} {i : Nat} (h : okR R) (hR : rowR f R) (hi : i < rW R) : mD f i = bc (rYe R i ||| rNo R i) := by
  obtain ⟨_, _, h3, h4, h5⟩ := h.2.2.2.2.2 i hi
  obtain ⟨_, _, _, r3, r4, _⟩ := hR.2.2.2.2.2 i hi
  unfold mD
  rw [r3, r4, bc_or h3 h4 h5]
theorem row_W {R : Rg} {f : Nat → Int32} {i : Nat} (h : okR R) (hR : rowR f R) (hi : i < rW R) : mD f i - mR f i = wr R i (rFa R) := by
  rw [row_mD h hR hi, row_mR hR hi]
theorem row_mW {R : Rg} {f : Nat → Int32} {i : Nat} (h : okR R) (hR : rowR f R) (hi : i < rW R) : mW f i = tq R i := by
  have e := row_W h hR hi
  obtain ⟨r0, r1, r2, r3, r4, r5⟩ := hR.2.2.2.2.2 i hi
  unfold mW tq
  rw [e, row_mR hR hi, hR.1 0 (by omega), hR.1 1 (by omega), hR.1 2 (by omega), r0, r1, r2, r5, hR.2.1]
theorem okR.rt {R : Rg} {i : Nat} (h : okR R) (hi : i < rW R) {x : Int32} : ∃ j, j ≤ 16 ∧ rt R i x = nI j := by
  obtain ⟨_, _, h3, h4, _⟩ := h.2.2.2.2.2 i hi
  exact right_n h3 h4
theorem row_st {R : Rg} {f : Nat → Int32} {i : Nat} (h : okR R) (hR : rowR f R) (hi : i < rW R) : stOk f i := by
  obtain ⟨r0, r1, r2, r3, r4, r5⟩ := hR.2.2.2.2.2 i hi
  refine ⟨h.ys hR hi, by rw [r5]; exact hb01, ?_⟩
  unfold mS
  rw [row_mR hR hi, r2]
  exact pl_nn (h.2.2.2.2.2 i hi).2.1 (str_n (h.rt hi))
