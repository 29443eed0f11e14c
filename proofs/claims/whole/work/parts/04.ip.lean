/-! ip_: a small machine over numbered cells. A cell: an array (type, length, contents), or an object (number of its kind in vwCl, fields). References are the cells' numbers: below 64 those that were there before, from 64 on those that are made, in their order. -/
abbrev ip_C : Type := (FieldType × vp_A) ⊕ (Nat × List Value)
abbrev ip_M : Type := Nat → ip_C
/-- locals, stack, cells, first free number, cells used, slots used -/
abbrev ip_F : Type := List (Option Value) × List Value × ip_M × Nat × Nat × Nat
abbrev ip_P : Type := Option Value → ip_M → Nat → Prop
abbrev ip_Op : Type := ip_F → (ip_F → Prop) → Prop
abbrev ip_Tm : Type := ip_F → (Nat → ip_F → Prop) → ip_P → Prop
abbrev ip_B : Type := List ip_Op × ip_Tm
abbrev ip_Cl : Type := Nat → List Value → ip_M → Nat → ip_P → Prop
def ip_up (M : ip_M) (k : Nat) (e : ip_C) : ip_M := fun j => if j = k then e else M j
def ip_ops : List ip_Op → ip_F → (ip_F → Prop) → Prop
  | [], f, K => K f
  | o :: os, f, K => o f (fun f' => ip_ops os f' K)
def ip_blk (T : List ip_B) (R : Nat → ip_F → Prop) (Φ : ip_P) (i : Nat) (f : ip_F) : Prop :=
  match T[i]? with
  | some b => ip_ops b.1 f (fun f' => b.2 f' R Φ)
  | none => False
def ip_Ev (T : List ip_B) (Φ : ip_P) (i : Nat) (f : ip_F) : Prop :=
  ∀ R : Nat → ip_F → Prop, (∀ (i : Nat) (f : ip_F) (S : Nat → ip_F → Prop), (∀ j g, S j g → R j g) → ip_blk T S Φ i f → R i f) → R i f
theorem ip_Ev.step {T : List ip_B} {Φ : ip_P} {i : Nat} {f : ip_F} (h : ip_blk T (ip_Ev T Φ) Φ i f) : ip_Ev T Φ i f := fun R hR => hR i f (ip_Ev T Φ) (fun _ _ hg => hg R hR) h
/-- the arguments as locals: a long takes two places -/
def ip_loc : List Value → List (Option Value)
  | [] => []
  | .long x :: vs => some (.long x) :: none :: ip_loc vs
  | .double x :: vs => some (.double x) :: none :: ip_loc vs
  | .int x :: vs => some (.int x) :: ip_loc vs
  | .float x :: vs => some (.float x) :: ip_loc vs
  | .null :: vs => some .null :: ip_loc vs
  | .ref x :: vs => some (.ref x) :: ip_loc vs
  | .retAddr x :: vs => some (.retAddr x) :: ip_loc vs
def ip_ent (nL : Nat) (vs : List Value) : List (Option Value) := ip_loc vs ++ List.replicate (nL - (ip_loc vs).length) none
def ip_clr (L : List (Option Value)) (i : Nat) : List (Option Value) := match L[i]? with
  | some (some (.long _)) => L.set i none
  | some (some (.double _)) => L.set i none
  | _ => L
def ip_st1 (L : List (Option Value)) (i : Nat) (v : Value) : List (Option Value) := (ip_clr L (i - 1)).set i (some v)
def ip_st2 (L : List (Option Value)) (i : Nat) (v : Value) : List (Option Value) := ((ip_clr L (i - 1)).set i (some v)).set (i + 1) none
-- locals
def oLdI (k : Nat) : ip_Op := fun f K => match f.1[k]? with
  | some (some (.int x)) => K (f.1, .int x :: f.2.1, f.2.2)
  | _ => False
def oLdL (k : Nat) : ip_Op := fun f K => match f.1[k]? with
  | some (some (.long x)) => K (f.1, .long x :: f.2.1, f.2.2)
  | _ => False
def oLdA (k : Nat) : ip_Op := fun f K => match f.1[k]? with
  | some (some (.ref x)) => K (f.1, .ref x :: f.2.1, f.2.2)
  | some (some .null) => K (f.1, .null :: f.2.1, f.2.2)
  | _ => False
def oStI (k : Nat) : ip_Op := fun f K => match f.2.1 with
  | .int x :: r => K (ip_st1 f.1 k (.int x), r, f.2.2)
  | _ => False
def oStL (k : Nat) : ip_Op := fun f K => match f.2.1 with
  | .long x :: r => K (ip_st2 f.1 k (.long x), r, f.2.2)
  | _ => False
def oStA (k : Nat) : ip_Op := fun f K => match f.2.1 with
  | .ref x :: r => K (ip_st1 f.1 k (.ref x), r, f.2.2)
  | .null :: r => K (ip_st1 f.1 k .null, r, f.2.2)
  | _ => False
def oInc (k : Nat) (n : Int32) : ip_Op := fun f K => match f.1[k]? with
  | some (some (.int x)) => K (ip_st1 f.1 k (.int (x + n)), f.2.1, f.2.2)
  | _ => False
-- constants, stack
def oI (v : Int32) : ip_Op := fun f K => K (f.1, .int v :: f.2.1, f.2.2)
def oL (v : Int64) : ip_Op := fun f K => K (f.1, .long v :: f.2.1, f.2.2)
def oNul : ip_Op := fun f K => K (f.1, .null :: f.2.1, f.2.2)
def oRef (k : Nat) : ip_Op := fun f K => K (f.1, .ref k :: f.2.1, f.2.2)
def oFmt : ip_Op := fun f K => K (f.1, .null :: f.2.1, f.2.2) ∧ K (f.1, .ref 60 :: f.2.1, f.2.2)
def ip_c1 (v : Value) : Bool := match v with
  | .long _ => false
  | .double _ => false
  | _ => true
def oDup : ip_Op := fun f K => match f.2.1 with
  | a :: r => ip_c1 a = true ∧ K (f.1, a :: a :: r, f.2.2)
  | _ => False
def oPop : ip_Op := fun f K => match f.2.1 with
  | a :: r => ip_c1 a = true ∧ K (f.1, r, f.2.2)
  | _ => False
def oDp2 : ip_Op := fun f K => match f.2.1 with
  | a :: b :: r => (ip_c1 a = true ∧ ip_c1 b = true) ∧ K (f.1, a :: b :: a :: b :: r, f.2.2)
  | _ => False
-- numbers
def oBI (g : Int32 → Int32 → Int32) : ip_Op := fun f K => match f.2.1 with
  | .int y :: .int x :: r => K (f.1, .int (g x y) :: r, f.2.2)
  | _ => False
def oDI (g : Int32 → Int32 → Int32) : ip_Op := fun f K => match f.2.1 with
  | .int y :: .int x :: r => (¬ y = 0) ∧ K (f.1, .int (g x y) :: r, f.2.2)
  | _ => False
def oBL (g : Int64 → Int64 → Int64) : ip_Op := fun f K => match f.2.1 with
  | .long y :: .long x :: r => K (f.1, .long (g x y) :: r, f.2.2)
  | _ => False
def oDL (g : Int64 → Int64 → Int64) : ip_Op := fun f K => match f.2.1 with
  | .long y :: .long x :: r => (¬ y = 0) ∧ K (f.1, .long (g x y) :: r, f.2.2)
  | _ => False
def oSL (g : Int64 → Int32 → Int64) : ip_Op := fun f K => match f.2.1 with
  | .int y :: .long x :: r => K (f.1, .long (g x y) :: r, f.2.2)
  | _ => False
def oUI (g : Int32 → Int32) : ip_Op := fun f K => match f.2.1 with
  | .int x :: r => K (f.1, .int (g x) :: r, f.2.2)
  | _ => False
def oIL : ip_Op := fun f K => match f.2.1 with
  | .int x :: r => K (f.1, .long x.toInt64 :: r, f.2.2)
  | _ => False
def oLI : ip_Op := fun f K => match f.2.1 with
  | .long x :: r => K (f.1, .int x.toInt32 :: r, f.2.2)
  | _ => False
def oCmpL : ip_Op := fun f K => match f.2.1 with
  | .long y :: .long x :: r => K (f.1, .int (lg_cmp x y) :: r, f.2.2)
  | _ => False
-- fields and arrays
def oGet (ci k : Nat) : ip_Op := fun f K => match f.2.1 with
  | .ref a :: r => (match f.2.2.1 a with
    | .inr (c, fs) => c = ci ∧ (match fs[k]? with
      | some v => K (f.1, v :: r, f.2.2)
      | none => False)
    | _ => False)
  | _ => False
/-- the value may stand in a field of this type -/
def ip_fit (ty : FieldType) (v : Value) : Prop := match ty, v with
  | .int, .int _ => True
  | .long, .long _ => True
  | .boolean, .int x => x = 0 ∨ x = 1
  | .array _, .ref _ => True
  | .object _, .ref _ => True
  | .array _, .null => True
  | .object _, .null => True
  | _, _ => False
def oPut (ci k : Nat) (ty : FieldType) : ip_Op := fun f K => match f.2.1 with
  | v :: .ref a :: r => (match f.2.2.1 a with
    | .inr (c, fs) => (c = ci ∧ 64 ≤ a ∧ k < fs.length ∧ ip_fit ty v) ∧ K (f.1, r, ip_up f.2.2.1 a (.inr (c, fs.set k v)), f.2.2.2)
    | _ => False)
  | _ => False
def oAldI : ip_Op := fun f K => match f.2.1 with
  | .int i :: .ref a :: r => (match f.2.2.1 a with
    | .inl (.int, n, .inl g) => vp_in i n ∧ K (f.1, .int (g i.toNatClampNeg) :: r, f.2.2)
    | _ => False)
  | _ => False
def oAldB : ip_Op := fun f K => match f.2.1 with
  | .int i :: .ref a :: r => (match f.2.2.1 a with
    | .inl (.byte, n, .inl g) => vp_in i n ∧ K (f.1, .int (g i.toNatClampNeg) :: r, f.2.2)
    | _ => False)
  | _ => False
def oAldL : ip_Op := fun f K => match f.2.1 with
  | .int i :: .ref a :: r => (match f.2.2.1 a with
    | .inl (.long, n, .inr (.inl g)) => (64 ≤ a ∧ vp_in i n) ∧ K (f.1, .long (g i.toNatClampNeg) :: r, f.2.2)
    | _ => False)
  | _ => False
def oAldA : ip_Op := fun f K => match f.2.1 with
  | .int i :: .ref a :: r => (match f.2.2.1 a with
    | .inl (.object C, n, .inr (.inr (.inr (.inr g)))) => (64 ≤ a ∧ C = RX2 ∧ vp_in i n) ∧ K (f.1, va_rf (g i.toNatClampNeg) :: r, f.2.2)
    | _ => False)
  | _ => False
def oAstI : ip_Op := fun f K => match f.2.1 with
  | .int x :: .int i :: .ref a :: r => (match f.2.2.1 a with
    | .inl (.int, n, .inl g) => (64 ≤ a ∧ vp_in i n) ∧ K (f.1, r, ip_up f.2.2.1 a (.inl (.int, n, .inl (upd g i.toNatClampNeg x))), f.2.2.2)
    | _ => False)
  | _ => False
def oAstB : ip_Op := fun f K => match f.2.1 with
  | .int x :: .int i :: .ref a :: r => (match f.2.2.1 a with
    | .inl (.byte, n, .inl g) => (64 ≤ a ∧ vp_in i n) ∧ K (f.1, r, ip_up f.2.2.1 a (.inl (.byte, n, .inl (upd g i.toNatClampNeg (vp_nar .byte x)))), f.2.2.2)
    | _ => False)
  | _ => False
def oAstL : ip_Op := fun f K => match f.2.1 with
  | .long x :: .int i :: .ref a :: r => (match f.2.2.1 a with
    | .inl (.long, n, .inr (.inl g)) => (64 ≤ a ∧ vp_in i n) ∧ K (f.1, r, ip_up f.2.2.1 a (.inl (.long, n, .inr (.inl (vp_updL g i.toNatClampNeg x)))), f.2.2.2)
    | _ => False)
  | _ => False
/-- a strip, or nothing, into a row of strips -/
def oAstA : ip_Op := fun f K => match f.2.1 with
  | .ref v :: .int i :: .ref a :: r => (match f.2.2.1 a, f.2.2.1 v with
    | .inl (.object C, n, .inr (.inr (.inr (.inr g)))), .inr (c, _) => (64 ≤ a ∧ 64 ≤ v ∧ vp_in i n ∧ C = RX2 ∧ c = 2) ∧ K (f.1, r, ip_up f.2.2.1 a (.inl (.object C, n, .inr (.inr (.inr (.inr (va_up g i.toNatClampNeg (some v))))))), f.2.2.2)
    | _, _ => False)
  | .null :: .int i :: .ref a :: r => (match f.2.2.1 a with
    | .inl (.object C, n, .inr (.inr (.inr (.inr g)))) => (64 ≤ a ∧ C = RX2 ∧ vp_in i n) ∧ K (f.1, r, ip_up f.2.2.1 a (.inl (.object C, n, .inr (.inr (.inr (.inr (va_up g i.toNatClampNeg none)))))), f.2.2.2)
    | _ => False)
  | _ => False
def oLen : ip_Op := fun f K => match f.2.1 with
  | .ref a :: r => (match f.2.2.1 a with
    | .inl (ty, n, g) => (ty = .int ∨ ty = .byte ∨ ty = .long ∨ ty = .object RX2) ∧ K (f.1, .int (Int32.ofNat n) :: r, f.2.2)
    | _ => False)
  | _ => False
-- what is made
def oNew (cap cas ci : Nat) (fs : List Value) : ip_Op := fun f K => (f.2.2.2.2.1 + 1 ≤ cap ∧ f.2.2.2.2.2 + fs.length ≤ cas) ∧
  K (f.1, .ref f.2.2.2.1 :: f.2.1, ip_up f.2.2.1 f.2.2.2.1 (.inr (ci, fs)), f.2.2.2.1 + 1, f.2.2.2.2.1 + 1, f.2.2.2.2.2 + fs.length)
def oNwA (cap cas : Nat) (ty : FieldType) (a0 : Nat → vp_A) : ip_Op := fun f K => match f.2.1 with
  | .int n :: r => ((¬ n < 0) ∧ n.toNatClampNeg ≤ 1000 ∧ f.2.2.2.2.1 + 1 ≤ cap ∧ f.2.2.2.2.2 + n.toNatClampNeg ≤ cas) ∧
    K (f.1, .ref f.2.2.2.1 :: r, ip_up f.2.2.1 f.2.2.2.1 (.inl (ty, a0 n.toNatClampNeg)), f.2.2.2.1 + 1, f.2.2.2.2.1 + 1, f.2.2.2.2.2 + n.toNatClampNeg)
  | _ => False
-- calls
def oCal (call : ip_Cl) (cap cas k na mc ms : Nat) : ip_Op := fun f K =>
  ((f.2.1.drop na).length ≤ 4 ∧ na ≤ f.2.1.length ∧ f.2.2.2.2.1 + mc ≤ cap ∧ f.2.2.2.2.2 + ms ≤ cas) ∧
  call k (f.2.1.take na).reverse f.2.2.1 f.2.2.2.1 (fun v M n => K (f.1, v.toList ++ f.2.1.drop na, M, n, f.2.2.2.2.1 + mc, f.2.2.2.2.2 + ms))
/-- the receiver is an object of that kind -/
def ip_isO (M : ip_M) (ci : Nat) (v : Option Value) : Prop := match v with
  | some (.ref b) => (match M b with
    | .inr (c, _) => c = ci
    | _ => False)
  | _ => False
def oCaV (call : ip_Cl) (cap cas ci k na mc ms : Nat) : ip_Op := fun f K => ip_isO f.2.2.1 ci (f.2.1[na - 1]?) ∧ oCal call cap cas k na mc ms f K
def oMax (cap cas : Nat) : ip_Op := fun f K => match f.2.1 with
  | .int y :: .int x :: r => (r.length ≤ 4 ∧ f.2.2.2.2.1 ≤ cap ∧ f.2.2.2.2.2 ≤ cas) ∧ K (f.1, .int (if x < y then y else x) :: r, f.2.2)
  | _ => False
def oMin (cap cas : Nat) : ip_Op := fun f K => match f.2.1 with
  | .int y :: .int x :: r => (r.length ≤ 4 ∧ f.2.2.2.2.1 ≤ cap ∧ f.2.2.2.2.2 ≤ cas) ∧ K (f.1, .int (if y < x then y else x) :: r, f.2.2)
  | _ => False
def oObj : ip_Op := fun f K => match f.2.1 with
  | .ref _ :: r => r.length ≤ 4 ∧ K (f.1, r, f.2.2)
  | _ => False
/-- arraycopy of ints -/
def oCpy : ip_Op := fun f K => match f.2.1 with
  | .int n :: .int dp :: .ref a :: .int sp :: .ref b :: r => (match f.2.2.1 b, f.2.2.1 a with
    | .inl (.int, n0, .inl g), .inl (.int, n1, .inl h) => (64 ≤ a ∧ (¬ sp < 0) ∧ (¬ dp < 0) ∧ (¬ n < 0) ∧ sp.toNatClampNeg + n.toNatClampNeg ≤ n0 ∧ dp.toNatClampNeg + n.toNatClampNeg ≤ n1 ∧ r.length ≤ 4) ∧
      K (f.1, r, ip_up f.2.2.1 a (.inl (.int, n1, .inl (va_cpy g h sp.toNatClampNeg dp.toNatClampNeg n.toNatClampNeg))), f.2.2.2)
    | _, _ => False)
  | _ => False
-- ends of blocks
def tGo (i : Nat) : ip_Tm := fun f R _ => R i f
def tIf (c : Int32 → Prop) (i j : Nat) : ip_Tm := fun f R _ => match f.2.1 with
  | .int x :: r => (c x → R i (f.1, r, f.2.2)) ∧ (¬ c x → R j (f.1, r, f.2.2))
  | _ => False
def tCm (c : Int32 → Int32 → Prop) (i j : Nat) : ip_Tm := fun f R _ => match f.2.1 with
  | .int y :: .int x :: r => (c x y → R i (f.1, r, f.2.2)) ∧ (¬ c x y → R j (f.1, r, f.2.2))
  | _ => False
/-- i with nothing, j with something -/
def tNu (i j : Nat) : ip_Tm := fun f R _ => match f.2.1 with
  | .null :: r => R i (f.1, r, f.2.2)
  | .ref _ :: r => R j (f.1, r, f.2.2)
  | _ => False
def ip_sw : List (Int32 × Nat) → Nat → Int32 → Nat
  | [], d, _ => d
  | (k, t) :: l, d, x => if x = k then t else ip_sw l d x
def tSw (l : List (Int32 × Nat)) (d : Nat) : ip_Tm := fun f R _ => match f.2.1 with
  | .int x :: r => R (ip_sw l d x) (f.1, r, f.2.2)
  | _ => False
def tRI (ty : FieldType) (mc ms : Nat) : ip_Tm := fun f _ Φ => match f.2.1 with
  | [.int x] => (narrow ty (.int x) = .int x ∧ f.2.2.2.2.1 ≤ mc ∧ f.2.2.2.2.2 ≤ ms) ∧ Φ (some (.int x)) f.2.2.1 f.2.2.2.1
  | _ => False
def tRL (mc ms : Nat) : ip_Tm := fun f _ Φ => match f.2.1 with
  | [.long x] => (f.2.2.2.2.1 ≤ mc ∧ f.2.2.2.2.2 ≤ ms) ∧ Φ (some (.long x)) f.2.2.1 f.2.2.2.1
  | _ => False
def tRV (mc ms : Nat) : ip_Tm := fun f _ Φ => match f.2.1 with
  | [] => (f.2.2.2.2.1 ≤ mc ∧ f.2.2.2.2.2 ≤ ms) ∧ Φ none f.2.2.1 f.2.2.2.1
  | _ => False
