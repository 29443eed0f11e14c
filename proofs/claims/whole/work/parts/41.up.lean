def sob (S : Cs) (ak : Int32) (rc : Nat) : Cs := (cNow S, cKp S, ak, cBy S, cTl S, cTr S, cTd S, cRw S, rc, cSh S, cSs S, cSw S, cSt S)
theorem clAt.ob {M : ip_M} {n : Nat} {S : Cs} (h : clAt M n S) (ak : Int32) (rc : Nat) : clAt (ip_up M 64 (obC ak rc)) n (sob S ak rc) := by
  obtain ⟨h1, h2, ⟨Rt, t1, t2⟩, h4, h5, ⟨a', b', c', d', h6⟩, h7, ⟨a2, b2, c2, d2, h8⟩, h9, h10, h11, h12, h13, ⟨s1, s2, s3⟩, hx⟩ := h
  refine ⟨ip_up_same, h2.up (by omega), ⟨Rt, t1.up (by omega), t2⟩, h4.up (by omega), h5.of (ip_up_ne (by omega)), ⟨a', b', c', d', (ip_up_ne (by omega)).trans h6⟩, (ip_up_ne (by omega)).trans h7, ⟨a2, b2, c2, d2, (ip_up_ne (by omega)).trans h8⟩, (ip_up_ne (by omega)).trans h9, (ip_up_ne (by omega)).trans h10, (ip_up_ne (by omega)).trans h11, (ip_up_ne (by omega)).trans h12, (ip_up_ne (by omega)).trans h13, ⟨s1, s2, fun q hq => ?_⟩, fun k q1 q2 => (ip_up_ne (by omega)).trans (hx k q1 q2)⟩
  obtain ⟨a1, a2, a3, a4, a5⟩ := s3 q hq
  exact ⟨a1, a2, a3, (ip_up_ne (by omega)).trans a4, (ip_up_ne (by omega)).trans a5⟩
def stx (S : Cs) (tl : Nat) : Cs := (cNow S, cKp S, cAk S, cBy S, tl, cTr S, cTd S, cRw S, cRc S, cSh S, cSs S, cSw S, cSt S)
theorem clAt.tx {M : ip_M} {n : Nat} {S : Cs} (h : clAt M n S) (tl : Nat) (a b c d : Int32) : clAt (ip_up M 87 (txC tl a b c d)) n (stx S tl) := by
  obtain ⟨h1, h2, ⟨Rt, t1, t2⟩, h4, h5, ⟨a', b', c', d', h6⟩, h7, ⟨a2, b2, c2, d2, h8⟩, h9, h10, h11, h12, h13, ⟨s1, s2, s3⟩, hx⟩ := h
  refine ⟨(ip_up_ne (by omega)).trans h1, h2.up (by omega), ⟨Rt, t1.up (by omega), t2⟩, h4.up (by omega), h5.of (ip_up_ne (by omega)), ⟨_, _, _, _, ip_up_same⟩, (ip_up_ne (by omega)).trans h7, ⟨a2, b2, c2, d2, (ip_up_ne (by omega)).trans h8⟩, (ip_up_ne (by omega)).trans h9, (ip_up_ne (by omega)).trans h10, (ip_up_ne (by omega)).trans h11, (ip_up_ne (by omega)).trans h12, (ip_up_ne (by omega)).trans h13, ⟨s1, s2, fun q hq => ?_⟩, fun k q1 q2 => (ip_up_ne (by omega)).trans (hx k q1 q2)⟩
  obtain ⟨a1, a2, a3, a4, a5⟩ := s3 q hq
  exact ⟨a1, a2, a3, (ip_up_ne (by omega)).trans a4, (ip_up_ne (by omega)).trans a5⟩
def sby (S : Cs) (f : Nat → Int32) : Cs := (cNow S, cKp S, cAk S, f, cTl S, cTr S, cTd S, cRw S, cRc S, cSh S, cSs S, cSw S, cSt S)
theorem clAt.by {M : ip_M} {n : Nat} {S : Cs} (h : clAt M n S) (f : Nat → Int32) : clAt (ip_up M 88 (bA 200 f)) n (sby S f) := by
  obtain ⟨h1, h2, ⟨Rt, t1, t2⟩, h4, h5, ⟨a', b', c', d', h6⟩, h7, ⟨a2, b2, c2, d2, h8⟩, h9, h10, h11, h12, h13, ⟨s1, s2, s3⟩, hx⟩ := h
  refine ⟨(ip_up_ne (by omega)).trans h1, h2.up (by omega), ⟨Rt, t1.up (by omega), t2⟩, h4.up (by omega), h5.of (ip_up_ne (by omega)), ⟨a', b', c', d', (ip_up_ne (by omega)).trans h6⟩, ip_up_same, ⟨a2, b2, c2, d2, (ip_up_ne (by omega)).trans h8⟩, (ip_up_ne (by omega)).trans h9, (ip_up_ne (by omega)).trans h10, (ip_up_ne (by omega)).trans h11, (ip_up_ne (by omega)).trans h12, (ip_up_ne (by omega)).trans h13, ⟨s1, s2, fun q hq => ?_⟩, fun k q1 q2 => (ip_up_ne (by omega)).trans (hx k q1 q2)⟩
  obtain ⟨a1, a2, a3, a4, a5⟩ := s3 q hq
  exact ⟨a1, a2, a3, (ip_up_ne (by omega)).trans a4, (ip_up_ne (by omega)).trans a5⟩
def sde (S : Cs) (td : Nat) : Cs := (cNow S, cKp S, cAk S, cBy S, cTl S, cTr S, td, cRw S, cRc S, cSh S, cSs S, cSw S, cSt S)
theorem clAt.de {M : ip_M} {n : Nat} {S : Cs} (h : clAt M n S) (td : Nat) (a b c d : Int32) : clAt (ip_up M 89 (deC td a b c d)) n (sde S td) := by
  obtain ⟨h1, h2, ⟨Rt, t1, t2⟩, h4, h5, ⟨a', b', c', d', h6⟩, h7, ⟨a2, b2, c2, d2, h8⟩, h9, h10, h11, h12, h13, ⟨s1, s2, s3⟩, hx⟩ := h
  refine ⟨(ip_up_ne (by omega)).trans h1, h2.up (by omega), ⟨Rt, t1.up (by omega), t2⟩, h4.up (by omega), h5.of (ip_up_ne (by omega)), ⟨a', b', c', d', (ip_up_ne (by omega)).trans h6⟩, (ip_up_ne (by omega)).trans h7, ⟨_, _, _, _, ip_up_same⟩, (ip_up_ne (by omega)).trans h9, (ip_up_ne (by omega)).trans h10, (ip_up_ne (by omega)).trans h11, (ip_up_ne (by omega)).trans h12, (ip_up_ne (by omega)).trans h13, ⟨s1, s2, fun q hq => ?_⟩, fun k q1 q2 => (ip_up_ne (by omega)).trans (hx k q1 q2)⟩
  obtain ⟨a1, a2, a3, a4, a5⟩ := s3 q hq
  exact ⟨a1, a2, a3, (ip_up_ne (by omega)).trans a4, (ip_up_ne (by omega)).trans a5⟩
def str (S : Cs) (f : Nat → Int32) : Cs := (cNow S, cKp S, cAk S, cBy S, cTl S, f, cTd S, cRw S, cRc S, cSh S, cSs S, cSw S, cSt S)
theorem clAt.tr {M : ip_M} {n : Nat} {S : Cs} (h : clAt M n S) (f : Nat → Int32) : clAt (ip_up M 90 (iA 30 f)) n (str S f) := by
  obtain ⟨h1, h2, ⟨Rt, t1, t2⟩, h4, h5, ⟨a', b', c', d', h6⟩, h7, ⟨a2, b2, c2, d2, h8⟩, h9, h10, h11, h12, h13, ⟨s1, s2, s3⟩, hx⟩ := h
  refine ⟨(ip_up_ne (by omega)).trans h1, h2.up (by omega), ⟨Rt, t1.up (by omega), t2⟩, h4.up (by omega), h5.of (ip_up_ne (by omega)), ⟨a', b', c', d', (ip_up_ne (by omega)).trans h6⟩, (ip_up_ne (by omega)).trans h7, ⟨a2, b2, c2, d2, (ip_up_ne (by omega)).trans h8⟩, ip_up_same, (ip_up_ne (by omega)).trans h10, (ip_up_ne (by omega)).trans h11, (ip_up_ne (by omega)).trans h12, (ip_up_ne (by omega)).trans h13, ⟨s1, s2, fun q hq => ?_⟩, fun k q1 q2 => (ip_up_ne (by omega)).trans (hx k q1 q2)⟩
  obtain ⟨a1, a2, a3, a4, a5⟩ := s3 q hq
  exact ⟨a1, a2, a3, (ip_up_ne (by omega)).trans a4, (ip_up_ne (by omega)).trans a5⟩
def srw (S : Cs) (f : Nat → Int32) : Cs := (cNow S, cKp S, cAk S, cBy S, cTl S, cTr S, cTd S, f, cRc S, cSh S, cSs S, cSw S, cSt S)
theorem clAt.rw {M : ip_M} {n : Nat} {S : Cs} (h : clAt M n S) (f : Nat → Int32) : clAt (ip_up M 91 (iA 30 f)) n (srw S f) := by
  obtain ⟨h1, h2, ⟨Rt, t1, t2⟩, h4, h5, ⟨a', b', c', d', h6⟩, h7, ⟨a2, b2, c2, d2, h8⟩, h9, h10, h11, h12, h13, ⟨s1, s2, s3⟩, hx⟩ := h
  refine ⟨(ip_up_ne (by omega)).trans h1, h2.up (by omega), ⟨Rt, t1.up (by omega), t2⟩, h4.up (by omega), h5.of (ip_up_ne (by omega)), ⟨a', b', c', d', (ip_up_ne (by omega)).trans h6⟩, (ip_up_ne (by omega)).trans h7, ⟨a2, b2, c2, d2, (ip_up_ne (by omega)).trans h8⟩, (ip_up_ne (by omega)).trans h9, ip_up_same, (ip_up_ne (by omega)).trans h11, (ip_up_ne (by omega)).trans h12, (ip_up_ne (by omega)).trans h13, ⟨s1, s2, fun q hq => ?_⟩, fun k q1 q2 => (ip_up_ne (by omega)).trans (hx k q1 q2)⟩
  obtain ⟨a1, a2, a3, a4, a5⟩ := s3 q hq
  exact ⟨a1, a2, a3, (ip_up_ne (by omega)).trans a4, (ip_up_ne (by omega)).trans a5⟩
def ssw (S : Cs) (f : Nat → Int32) : Cs := (cNow S, cKp S, cAk S, cBy S, cTl S, cTr S, cTd S, cRw S, cRc S, cSh S, cSs S, f, cSt S)
theorem clAt.sw {M : ip_M} {n : Nat} {S : Cs} (h : clAt M n S) (f : Nat → Int32) : clAt (ip_up M 94 (iA 4 f)) n (ssw S f) := by
  obtain ⟨h1, h2, ⟨Rt, t1, t2⟩, h4, h5, ⟨a', b', c', d', h6⟩, h7, ⟨a2, b2, c2, d2, h8⟩, h9, h10, h11, h12, h13, ⟨s1, s2, s3⟩, hx⟩ := h
  refine ⟨(ip_up_ne (by omega)).trans h1, h2.up (by omega), ⟨Rt, t1.up (by omega), t2⟩, h4.up (by omega), h5.of (ip_up_ne (by omega)), ⟨a', b', c', d', (ip_up_ne (by omega)).trans h6⟩, (ip_up_ne (by omega)).trans h7, ⟨a2, b2, c2, d2, (ip_up_ne (by omega)).trans h8⟩, (ip_up_ne (by omega)).trans h9, (ip_up_ne (by omega)).trans h10, (ip_up_ne (by omega)).trans h11, (ip_up_ne (by omega)).trans h12, ip_up_same, ⟨s1, s2, fun q hq => ?_⟩, fun k q1 q2 => (ip_up_ne (by omega)).trans (hx k q1 q2)⟩
  obtain ⟨a1, a2, a3, a4, a5⟩ := s3 q hq
  exact ⟨a1, a2, a3, (ip_up_ne (by omega)).trans a4, (ip_up_ne (by omega)).trans a5⟩
