theorem upd_cm {f : Nat → Int32} {a b : Nat} {x y : Int32} (h : ¬ a = b) : upd (upd f a x) b y = upd (upd f b y) a x := by
  funext k
  unfold upd
  by_cases e1 : k = b
  · by_cases e2 : k = a
    · omega
    · rw [if_pos e1, if_neg e2, if_pos e1]
  · rw [if_neg e1]
    by_cases e2 : k = a
    · rw [if_pos e2, if_pos e2]
    · rw [if_neg e2, if_neg e2, if_neg e1]
/-- a row that holds the ring but for what is drawn -/
def rowZ (f : Nat → Int32) (R : Rg) : Prop := rowR (upd f 7 (rZ R)) R
def fAt (M0 M : ip_M) (ak : Int32) (l rc td : Nat) (so be en : Int32) (wd : Int64) (va go : Int32) (fr : Nat → Int32) : Prop := (∃ y, M 95 = obM ak l rc td (so, be, en, wd, va, go, y)) ∧ M 97 = iA 56 fr ∧ ∀ k, k ≠ 95 → k ≠ 97 → M k = M0 k
theorem fAt.r {M0 M : ip_M} {ak : Int32} {l rc td : Nat} {so be en : Int32} {wd : Int64} {va go : Int32} {fr : Nat → Int32} (h : fAt M0 M ak l rc td so be en wd va go fr) : rAt M M ak l rc td so be en wd va go := ⟨h.1, fun _ _ => rfl⟩
theorem fAt.st {M0 M M' : ip_M} {ak : Int32} {l rc td : Nat} {so be en so' be' en' : Int32} {wd wd' : Int64} {va go va' go' : Int32} {fr : Nat → Int32} (h : fAt M0 M ak l rc td so be en wd va go fr) (hA : rAt M M' ak l rc td so' be' en' wd' va' go') : fAt M0 M' ak l rc td so' be' en' wd' va' go' fr := ⟨hA.1, (hA.2 97 (by omega)).trans h.2.1, fun k k1 k2 => (hA.2 k k1).trans (h.2.2 k k1 k2)⟩
theorem fAt.fr {M0 M : ip_M} {ak : Int32} {l rc td : Nat} {so be en : Int32} {wd : Int64} {va go : Int32} {fr fr' : Nat → Int32} (h : fAt M0 M ak l rc td so be en wd va go fr) : fAt M0 (ip_up M 97 (iA 56 fr')) ak l rc td so be en wd va go fr' := by
  obtain ⟨⟨y, h1⟩, h2, h3⟩ := h
  exact ⟨⟨y, (ip_up_ne (by omega)).trans h1⟩, ip_up_same, fun k k1 k2 => (ip_up_ne k2).trans (h3 k k1 k2)⟩
theorem fAt.tp {M0 M : ip_M} {ak : Int32} {l rc td : Nat} {so be en : Int32} {wd : Int64} {va go : Int32} {fr f g : Nat → Int32} {l' : Nat} (h : fAt M0 M ak l rc td so be en wd va go fr) (hT : tpA M0 f g l') : tpA M f g l' := ⟨hT.1, (h.2.2 100 (by omega) (by omega)).trans hT.2.1, hT.2.2⟩
theorem fAt.isO {M0 M : ip_M} {ak : Int32} {l rc td : Nat} {so be en : Int32} {wd : Int64} {va go : Int32} {fr : Nat → Int32} (h : fAt M0 M ak l rc td so be en wd va go fr) : (match M 95 with | .inr (c, _) => c = 6 | _ => False) := h.r.isO
theorem rdO_t {f : Nat → Int32} {l k : Nat} {mx mk dv : Int32} {t : St} (h : (rdO f l k mx mk dv t).2.2 = -1) : t.2 = -1 := Classical.not_not.mp (fun z => z ((rdO_f z).symm.trans h))
theorem rdN_t {f : Nat → Int32} {l : Nat} {mx mk : Int32} {t : St} (h : (rdN f l mx mk t).2.2 = -1) : t.2 = -1 := Classical.not_not.mp (fun z => z ((rdN_f z).symm.trans h))
theorem rdC_t {f : Nat → Int32} {l : Nat} {t : St} (h : (rdC f l t).2 = -1) : t.2 = -1 := Classical.not_not.mp (fun z => z ((rdC_f z).symm.trans h))
theorem failF_n {f : Nat → Int32} {l : Nat} {t : St} (hl : l ≤ 200) (hG : tkG f l t.1) : ¬ (failF t).2 = -1 := by
  by_cases h : t.2 = -1
  · rw [failF_0 h]
    obtain ⟨⟨_, k2, k3⟩, _⟩ := hG
    exact n1 (by omega)
  · rw [failF_f h]; exact h
theorem rdN_v {f : Nat → Int32} {l : Nat} {mx mk : Int32} {t : St} (hl : l ≤ 200) (hG : tkG f l t.1) (h : (rdN f l mx mk t).2.2 = -1) : 0 ≤ (rdN f l mx mk t).1 ∧ (rdN f l mx mk t).1 ≤ mx ∧ (rdN f l mx mk t).1 &&& mk = 0 ∧ (rdN f l mx mk t).2 = advF f l t := by
  unfold rdN at h ⊢
  by_cases c : ¬ tnF f t.1 < 0 ∧ ¬ mx < tnF f t.1 ∧ tnF f t.1 &&& mk = 0
  · rw [if_pos c]
    exact ⟨Int32.not_lt.mp c.1, Int32.not_lt.mp c.2.1, c.2.2, rfl⟩
  · rw [if_neg c] at h
    exact absurd h (failF_n hl hG)
theorem rdO_v {f : Nat → Int32} {l k : Nat} {mx mk dv : Int32} {t : St} (hl : l ≤ 200) (hG : tkG f l t.1) (h : (rdO f l k mx mk dv t).2.2 = -1) : (rdO f l k mx mk dv t).1 = dv ∨ (0 ≤ (rdO f l k mx mk dv t).1 ∧ (rdO f l k mx mk dv t).1 ≤ mx ∧ (rdO f l k mx mk dv t).1 &&& mk = 0) := by
  unfold rdO at h ⊢
  by_cases c : nmP f t.1 (txB k)
  · rw [if_pos c] at h ⊢
    obtain ⟨a, b, e, _⟩ := rdN_v hl (advF_G hG) h
    exact Or.inr ⟨a, b, e⟩
  · rw [if_neg c]
    exact Or.inl rfl
theorem adv_mono {f : Nat → Int32} {l : Nat} {t : St} (hG : tkG f l t.1) : t.1.2.1 ≤ (advF f l t).1.2.1 := Nat.le_trans hG.1.2.1 (tokF_G hG.1.2.2).2
theorem rdN_mono {f : Nat → Int32} {l : Nat} {mx mk : Int32} {t : St} (hG : tkG f l t.1) : t.1.2.1 ≤ (rdN f l mx mk t).2.1.2.1 := by
  unfold rdN
  split
  · exact adv_mono hG
  · unfold failF; split <;> exact Nat.le_refl _
theorem rdO_mono {f : Nat → Int32} {l k : Nat} {mx mk dv : Int32} {t : St} (hG : tkG f l t.1) : t.1.2.1 ≤ (rdO f l k mx mk dv t).2.1.2.1 := by
  unfold rdO
  split
  · exact Nat.le_trans (adv_mono hG) (rdN_mono (advF_G hG))
  · exact Nat.le_refl _
theorem rdC_mono {f : Nat → Int32} {l : Nat} {t : St} (hl : l ≤ 200) (hG : tkG f l t.1) (h : (rdC f l t).2 = -1) : t.1.2.1 < (rdC f l t).1.2.1 := by
  unfold rdC at h ⊢
  by_cases c : t.1.1 = 3 ∧ t.1.2.1 < l ∧ f t.1.2.1 = 59
  · rw [if_pos c]
    have h1 := hG.2.2.2.2.1 (by omega)
    exact Nat.lt_of_lt_of_le h1 (tokF_G hG.1.2.2).2
  · rw [if_neg c] at h
    exact absurd h (failF_n hl hG)
theorem rdW_G {f : Nat → Int32} {l i : Nat} {R : Rg} {t : St} (hG : tkG f l t.1) : tkG f l (rdW f l R i t).2.1 := rdO_G (rdO_G (rdO_G (rdO_G hG)))
theorem rdW_mono {f : Nat → Int32} {l i : Nat} {R : Rg} {t : St} (hG : tkG f l t.1) : t.1.2.1 ≤ (rdW f l R i t).2.1.2.1 := Nat.le_trans (rdO_mono hG) (Nat.le_trans (rdO_mono (rdO_G hG)) (Nat.le_trans (rdO_mono (rdO_G (rdO_G hG))) (rdO_mono (rdO_G (rdO_G (rdO_G hG))))))
theorem rdA_G {f : Nat → Int32} {l : Nat} {R : Rg} {t : St} {kd lw : Int32} (hG : tkG f l t.1) : tkG f l (rdOneA f l R t kd lw).2.1 ∧ t.1.2.1 ≤ (rdOneA f l R t kd lw).2.1.2.1 := by
  unfold rdOneA
  split
  · exact ⟨rdW_G (advF_G hG), Nat.le_trans (adv_mono hG) (rdW_mono (advF_G hG))⟩
  split
  · exact ⟨rdN_G (advF_G hG), Nat.le_trans (adv_mono hG) (rdN_mono (advF_G hG))⟩
  split
  · exact ⟨rdN_G (advF_G hG), Nat.le_trans (adv_mono hG) (rdN_mono (advF_G hG))⟩
  · refine ⟨failF_G hG, ?_⟩
    unfold failF
    split <;> exact Nat.le_refl _
theorem rdOne_G {f : Nat → Int32} {l : Nat} {R : Rg} {t : St} (hl : l ≤ 200) (hG : tkG f l t.1) : tkG f l (rdOne f l R t).2.1 ∧ ((rdOne f l R t).2.2 = -1 → t.1.2.1 < (rdOne f l R t).2.1.2.1) :=
  ⟨rdC_G (rdA_G hG).1, fun h => Nat.lt_of_le_of_lt (rdA_G hG).2 (rdC_mono hl (rdA_G hG).1 h)⟩
theorem wdC_u : ∀ i, i < 15 → ∀ j, j < 15 → wdC i = wdC j → i = j := by decide
theorem wdC_l : ∀ i, i < 15 → wdC i < 7625597484988 := by decide
theorem nm_u {f : Nat → Int32} {l : Nat} {T : Tk} {i j : Nat} (hi : i < 15) (hj : j < 15) (hG : tkG f l T) (hB : ∀ i, i < l → okB (f i)) (h1 : nmP f T (txB i)) (h2 : nmP f T (txB j)) : i = j := by
  obtain ⟨⟨k1, k2, k3⟩, g1, _⟩ := hG
  have c := h1.1
  have hL : ∀ x, x < T.2.2 - T.2.1 → isLt (f (T.2.1 + x)) ∧ okB (f (T.2.1 + x)) := fun x hx => ⟨g1 c _ (by omega) (by omega), hB _ (by omega)⟩
  have a := (wd_iff hi c k2 hL).mpr h1
  have b := (wd_iff hj c k2 hL).mpr h2
  exact wdC_u i hi j hj (lN_ij (wdC_l i hi) (wdC_l j hj) (a.symm.trans b))
theorem whF_at {f : Nat → Int32} {T : Tk} {a : Nat} : ∀ (m i : Nat), (whF f T a m i = -1 ∧ ∀ x, i ≤ x → x < i + m → ¬ nmP f T (txB (a + x))) ∨ ∃ j, i ≤ j ∧ j < i + m ∧ whF f T a m i = nI j ∧ nmP f T (txB (a + j))
  | 0, i => Or.inl ⟨rfl, fun x h1 h2 => absurd h1 (by omega)⟩
  | m + 1, i => by
    unfold whF
    by_cases c : nmP f T (txB (a + i))
    · rw [if_pos c]
      exact Or.inr ⟨i, by omega, by omega, rfl, c⟩
    · rw [if_neg c]
      rcases whF_at m (i + 1) with ⟨h1, h2⟩ | ⟨j, h1, h2, h3, h4⟩
      · refine Or.inl ⟨h1, fun x x1 x2 => ?_⟩
        by_cases e : x = i
        · rw [e]; exact c
        · exact h2 x (by omega) (by omega)
      · exact Or.inr ⟨j, by omega, by omega, h3, h4⟩
theorem row_new {R : Rg} {f g : Nat → Int32} {x a b c e : Int32} (ho : okR R) (h8 : rW R < 8) (hR : rowR f R) (hg : ∀ j, ¬ (8 + 6 * rW R ≤ j ∧ j < 8 + 6 * rW R + 6) → ¬ j = 6 → g j = f j) (g6 : g 6 = nI (rW R + 1)) (g0 : g (8 + 6 * rW R + 0) = x) (g1 : g (8 + 6 * rW R + 1) = a) (g2 : g (8 + 6 * rW R + 2) = b) (g3 : g (8 + 6 * rW R + 3) = c) (g4 : g (8 + 6 * rW R + 4) = e) (g5 : g (8 + 6 * rW R + 5) = 0) : rowR g (setNo (setYe (setPl (setWt (addR R x 10) (upd (rWt (addR R x 10)) (rW R) a)) (upd (rPl (addR R x 10)) (rW R) b)) (upd (rYe (addR R x 10)) (rW R) c)) (upd (rNo (addR R x 10)) (rW R) e)) := by
  obtain ⟨r1, r2, r3, r4, r5, r6⟩ := hR
  refine ⟨fun j hj => ?_, ?_, ?_, g6, ?_, fun j hj => ?_⟩
  · rw [hg _ (by omega) (by omega)]; exact r1 j hj
  · rw [hg _ (by omega) (by omega)]; exact r2
  · rw [hg _ (by omega) (by omega)]; exact r3
  · rw [hg _ (by omega) (by omega)]; exact r5
  · have hj : j < rW R + 1 := hj
    show g (8 + 6 * j + 0) = upd (rKd R) (rW R) x j ∧ g (8 + 6 * j + 1) = upd (upd (rWt R) (rW R) 10) (rW R) a j ∧ g (8 + 6 * j + 2) = upd (upd (rPl R) (rW R) 0) (rW R) b j ∧ g (8 + 6 * j + 3) = upd (upd (rYe R) (rW R) 0) (rW R) c j ∧ g (8 + 6 * j + 4) = upd (upd (rNo R) (rW R) 0) (rW R) e j ∧ g (8 + 6 * j + 5) = hasB (rFl R) (nI j)
    by_cases ej : j = rW R
    · rw [ej, updS, updS, updS, updS, updS, hb_new ho h8]
      exact ⟨g0, g1, g2, g3, g4, g5⟩
    · rw [updN ej, updN ej, updN ej, updN ej, updN ej, updN ej, updN ej, updN ej, updN ej, hg _ (by omega) (by omega), hg _ (by omega) (by omega), hg _ (by omega) (by omega), hg _ (by omega) (by omega), hg _ (by omega) (by omega), hg _ (by omega) (by omega)]
      exact r6 j (by omega)
theorem ok_rdW {R : Rg} {x a b c e : Int32} (ho : okR R) (h8 : rW R < 8) (hx : ∃ k, k < 6 ∧ x = nI k) (hb : pl20 b) (hc : is8 c) (he : is8 e) (hce : c &&& e = 0) : okR (setNo (setYe (setPl (setWt (addR R x 10) (upd (rWt (addR R x 10)) (rW R) a)) (upd (rPl (addR R x 10)) (rW R) b)) (upd (rYe (addR R x 10)) (rW R) c)) (upd (rNo (addR R x 10)) (rW R) e)) := by
  obtain ⟨o1, o2, ⟨m, hm, em⟩, o4, ⟨n1, n2, n3, n4, n5, n6⟩, o6⟩ := ho
  refine ⟨by show rW R + 1 ≤ 8; omega, o2, ⟨m, Nat.lt_of_lt_of_le hm (Nat.pow_le_pow_right (by omega) (by show rW R ≤ rW R + 1; omega)), em⟩, o4, ⟨n1, nrm_up h8 n2, nrm_up h8 (nrm_up h8 n3), nrm_up h8 (nrm_up h8 n4), nrm_up h8 (nrm_up h8 n5), nrm_up h8 (nrm_up h8 n6)⟩, fun i hi => ?_⟩
  have hi : i < rW R + 1 := hi
  show (∃ k, k < 6 ∧ upd (rKd R) (rW R) x i = nI k) ∧ (∃ p, p ≤ 20 ∧ upd (upd (rPl R) (rW R) 0) (rW R) b i = nI p) ∧ is8 (upd (upd (rYe R) (rW R) 0) (rW R) c i) ∧ is8 (upd (upd (rNo R) (rW R) 0) (rW R) e i) ∧ upd (upd (rYe R) (rW R) 0) (rW R) c i &&& upd (upd (rNo R) (rW R) 0) (rW R) e i = 0
  by_cases ei : i = rW R
  · rw [ei, updS, updS, updS, updS]
    exact ⟨hx, hb, hc, he, hce⟩
  · rw [updN ei, updN ei, updN ei, updN ei, updN ei, updN ei, updN ei]
    exact o6 i (by omega)
