/-! THE PURE MACHINE: cells by their places, ints apart from shapes; one step, a branch, a call, an end. -/
abbrev xS : Type := (FieldType × Nat) ⊕ (Nat × List Value)
abbrev xH : Type := List xS × (Nat → Nat → Int32) × (Nat → Nat → Int64)
abbrev xF : Type := Nat × List (Option Value) × List Value
abbrev xO : Type := Option Value ⊕ Nat
abbrev xL : Type := Nat × Nat × Nat × Nat × Int
abbrev xC : Type := List (Nat × Instr × Nat)
def xup (f : Nat → Nat → Int32) (k i : Nat) (v : Int32) : Nat → Nat → Int32 := fun a b => if a = k ∧ b = i then v else f a b
def xupL (f : Nat → Nat → Int64) (k i : Nat) (v : Int64) : Nat → Nat → Int64 := fun a b => if a = k ∧ b = i then v else f a b
def xcpy (f : Nat → Nat → Int32) (a sp b dp n : Nat) : Nat → Nat → Int32 := fun k i => if k = b ∧ dp ≤ i ∧ i < dp + n then f a (sp + (i - dp)) else f k i
def xzer (f : Nat → Nat → Int32) (k : Nat) : Nat → Nat → Int32 := fun a b => if a = k then 0 else f a b
def xzerL (f : Nat → Nat → Int64) (k : Nat) : Nat → Nat → Int64 := fun a b => if a = k then 0 else f a b
def xlen (sh : List xS) (a : Nat) : Nat := match sh[a]? with
  | some (.inl q) => q.2
  | _ => 0
def xrf (sh : List xS) (o k : Nat) : Nat := match sh[o]? with
  | some (.inr q) => (match q.2[k]? with
    | some (.ref r) => r
    | _ => 0)
  | _ => 0
def xsr (sh : List xS) (o k q : Nat) : List xS := match sh[o]? with
  | some (.inr z) => sh.set o (.inr (z.1, z.2.set k (.ref q)))
  | _ => sh
/-- a row of this type -/
def xA (sh : List xS) (a : Nat) (ty : FieldType) : Prop := sh[a]? = some (.inl (ty, xlen sh a))
/-- a row that may be written -/
def xW (sh : List xS) (a : Nat) (ty : FieldType) : Prop := sh[a]? = some (.inl (ty, xlen sh a)) ∧ 4 ≤ a
def xOb (sh : List xS) (o ci : Nat) : Prop := ∃ rs, sh[o]? = some (.inr (ci, rs))
def xRf (sh : List xS) (o ci k : Nat) : Prop := ∃ rs, sh[o]? = some (.inr (ci, rs)) ∧ rs[k]? = some (.ref (xrf sh o k))
def xld (L : List (Option Value)) (i : Nat) : Option Value := match L[i]? with
  | some (some v) => some v
  | _ => none
def xnl (L : List (Option Value)) (i : Nat) : Bool := match L[i]?, i with
  | none, _ => false
  | some _, 0 => true
  | some _, j + 1 => (match L[j]? with
    | some (some (.int _)) => true
    | some (some (.ref _)) => true
    | some none => true
    | _ => false)
def xtg (pc : Nat) (off : Int) : Option Nat := match (pc : Int) + off with
  | .ofNat t => some t
  | .negSucc _ => none
def xsw (dflt lo hi : Int) (offs : Array Int) (x : Int) : Int := if x < lo ∨ hi < x then dflt else offs.toList.getD (x - lo).toNat dflt
def xAll : List Prop → Prop
  | [] => True
  | [p] => p
  | p :: q :: r => p ∧ xAll (q :: r)
/-- a class's fields at its making -/
abbrev xD : Type := Nat → List Value
/-- one instruction that neither branches, calls nor ends: what must hold, what comes -/
def xE (lk : Nat → Option xL) (df : xD) (ctor : Bool) (i : Instr) (len pc : Nat) (L : List (Option Value)) (st : List Value) (h : xH) : Option (List Prop × xF × xH) :=
  match i, len with
  | .iconst n, 1 => some ([], (pc + 1, L, .int (Int32.ofInt n) :: st), h)
  | .bipush n, 2 => some ([], (pc + 2, L, .int (Int8.ofInt n).toInt32 :: st), h)
  | .sipush n, 3 => some ([], (pc + 3, L, .int (Int16.ofInt n).toInt32 :: st), h)
  | .ldc k, 2 => (match lk k with
    | some (4, _, _, _, v) => some ([], (pc + 2, L, .int (Int32.ofInt v) :: st), h)
    | _ => none)
  | .ldc_w k, 3 => (match lk k with
    | some (4, _, _, _, v) => some ([], (pc + 3, L, .int (Int32.ofInt v) :: st), h)
    | _ => none)
  | .ldc2_w k, 3 => (match lk k with
    | some (5, _, _, _, v) => some ([], (pc + 3, L, .long (Int64.ofInt v) :: st), h)
    | _ => none)
  | .iload_n k, 1 => (match xld L k.val with
    | some (.int x) => some ([], (pc + 1, L, .int x :: st), h)
    | _ => none)
  | .iload k, 2 => (match xld L k with
    | some (.int x) => some ([], (pc + 2, L, .int x :: st), h)
    | _ => none)
  | .lload_n k, 1 => (match xld L k.val with
    | some (.long x) => some ([], (pc + 1, L, .long x :: st), h)
    | _ => none)
  | .aload_n k, 1 => (match xld L k.val with
    | some (.ref x) => some ([], (pc + 1, L, .ref x :: st), h)
    | _ => none)
  | .aload k, 2 => (match xld L k with
    | some (.ref x) => some ([], (pc + 2, L, .ref x :: st), h)
    | _ => none)
  | .istore_n k, 1 => (match st, xnl L k.val with
    | .int x :: r, true => some ([], (pc + 1, L.set k.val (some (.int x)), r), h)
    | _, _ => none)
  | .istore k, 2 => (match st, xnl L k with
    | .int x :: r, true => some ([], (pc + 2, L.set k (some (.int x)), r), h)
    | _, _ => none)
  | .astore_n k, 1 => (match st, xnl L k.val with
    | .ref x :: r, true => some ([], (pc + 1, L.set k.val (some (.ref x)), r), h)
    | _, _ => none)
  | .astore k, 2 => (match st, xnl L k with
    | .ref x :: r, true => some ([], (pc + 2, L.set k (some (.ref x)), r), h)
    | _, _ => none)
  | .iinc k n, 3 => (match xld L k, xnl L k with
    | some (.int x), true => some ([], (pc + 3, L.set k (some (.int (x + Int32.ofInt n))), st), h)
    | _, _ => none)
  | .iadd, 1 => (match st with
    | .int y :: .int x :: r => some ([], (pc + 1, L, .int (x + y) :: r), h)
    | _ => none)
  | .isub, 1 => (match st with
    | .int y :: .int x :: r => some ([], (pc + 1, L, .int (x - y) :: r), h)
    | _ => none)
  | .imul, 1 => (match st with
    | .int y :: .int x :: r => some ([], (pc + 1, L, .int (x * y) :: r), h)
    | _ => none)
  | .idiv, 1 => (match st with
    | .int y :: .int x :: r => some ([¬ y = 0], (pc + 1, L, .int (x / y) :: r), h)
    | _ => none)
  | .irem, 1 => (match st with
    | .int y :: .int x :: r => some ([¬ y = 0], (pc + 1, L, .int (x - x / y * y) :: r), h)
    | _ => none)
  | .ineg, 1 => (match st with
    | .int x :: r => some ([], (pc + 1, L, .int (-x) :: r), h)
    | _ => none)
  | .iand, 1 => (match st with
    | .int y :: .int x :: r => some ([], (pc + 1, L, .int (x &&& y) :: r), h)
    | _ => none)
  | .ior, 1 => (match st with
    | .int y :: .int x :: r => some ([], (pc + 1, L, .int (x ||| y) :: r), h)
    | _ => none)
  | .ixor, 1 => (match st with
    | .int y :: .int x :: r => some ([], (pc + 1, L, .int (x ^^^ y) :: r), h)
    | _ => none)
  | .ishl, 1 => (match st with
    | .int y :: .int x :: r => some ([], (pc + 1, L, .int (x <<< (y &&& 31)) :: r), h)
    | _ => none)
  | .ishr, 1 => (match st with
    | .int y :: .int x :: r => some ([], (pc + 1, L, .int (x >>> (y &&& 31)) :: r), h)
    | _ => none)
  | .iushr, 1 => (match st with
    | .int y :: .int x :: r => some ([], (pc + 1, L, .int ((x.toUInt32 >>> (y.toUInt32 &&& Int32.toUInt32 31)).toInt32) :: r), h)
    | _ => none)
  | .i2l, 1 => (match st with
    | .int x :: r => some ([], (pc + 1, L, .long x.toInt64 :: r), h)
    | _ => none)
  | .l2i, 1 => (match st with
    | .long x :: r => some ([], (pc + 1, L, .int x.toInt32 :: r), h)
    | _ => none)
  | .i2b, 1 => (match st with
    | .int x :: r => some ([], (pc + 1, L, .int x.toInt8.toInt32 :: r), h)
    | _ => none)
  | .land, 1 => (match st with
    | .long y :: .long x :: r => some ([], (pc + 1, L, .long (x &&& y) :: r), h)
    | _ => none)
  | .lor, 1 => (match st with
    | .long y :: .long x :: r => some ([], (pc + 1, L, .long (x ||| y) :: r), h)
    | _ => none)
  | .lshl, 1 => (match st with
    | .int y :: .long x :: r => some ([], (pc + 1, L, .long (x <<< (y.toInt64 &&& 63)) :: r), h)
    | _ => none)
  | .lshr, 1 => (match st with
    | .int y :: .long x :: r => some ([], (pc + 1, L, .long (x >>> (y.toInt64 &&& 63)) :: r), h)
    | _ => none)
  | .lushr, 1 => (match st with
    | .int y :: .long x :: r => some ([], (pc + 1, L, .long ((x.toUInt64 >>> (y.toInt64.toUInt64 &&& Int64.toUInt64 63)).toInt64) :: r), h)
    | _ => none)
  | .lcmp, 1 => (match st with
    | .long y :: .long x :: r => some ([], (pc + 1, L, .int (lg_cmp x y) :: r), h)
    | _ => none)
  | .dup, 1 => (match st with
    | .int x :: r => some ([], (pc + 1, L, .int x :: .int x :: r), h)
    | .ref x :: r => some ([], (pc + 1, L, .ref x :: .ref x :: r), h)
    | _ => none)
  | .dup2, 1 => (match st with
    | .int y :: .ref x :: r => some ([], (pc + 1, L, .int y :: .ref x :: .int y :: .ref x :: r), h)
    | _ => none)
  | .dup_x2, 1 => (match st with
    | .int z :: .int y :: .ref x :: r => some ([], (pc + 1, L, .int z :: .int y :: .ref x :: .int z :: r), h)
    | _ => none)
  | .pop, 1 => (match st with
    | .int _ :: r => some ([], (pc + 1, L, r), h)
    | .ref _ :: r => some ([], (pc + 1, L, r), h)
    | _ => none)
  | .goto off, 3 => (match xtg pc off with
    | some t => some ([], (t, L, st), h)
    | none => none)
  | .tableswitch d lo hi offs, _ => (match st with
    | .int x :: r => some ([x.toInt < lo ∨ hi < x.toInt ∨ (x.toInt - lo).toNat < offs.size, 0 ≤ (pc : Int) + xsw d lo hi offs x.toInt], (((pc : Int) + xsw d lo hi offs x.toInt).toNat, L, r), h)
    | _ => none)
  | .getfield k, 3 => (match lk k, st with
    | some (1, ci, sl, 1, _), .ref o :: r => some ([xRf h.1 o ci sl], (pc + 3, L, .ref (xrf h.1 o sl) :: r), h)
    | some (1, ci, sl, _, _), .ref o :: r => some ([xOb h.1 o ci], (pc + 3, L, .int (h.2.1 o sl) :: r), h)
    | _, _ => none)
  | .putfield k, 3 => (match lk k, st with
    | some (1, ci, sl, 0, _), .int x :: .ref o :: r => some ([xOb h.1 o ci], (pc + 3, L, r), (h.1, xup h.2.1 o sl x, h.2.2))
    | some (1, ci, sl, 2, _), .int x :: .ref o :: r => some ([xOb h.1 o ci, x = 0 ∨ x = 1], (pc + 3, L, r), (h.1, xup h.2.1 o sl x, h.2.2))
    | some (1, ci, sl, 1, 1), .ref q :: .ref o :: r => (match ctor with
      | true => some ([xOb h.1 o ci, sl < (df ci).length], (pc + 3, L, r), (xsr h.1 o sl q, h.2.1, h.2.2))
      | false => none)
    | _, _ => none)
  | .getstatic k, 3 => (match lk k with
    | some (2, a, _, _, _) => some ([], (pc + 3, L, .ref a :: st), h)
    | _ => none)
  | .iaload, 1 => (match st with
    | .int j :: .ref a :: r => some ([xA h.1 a .int, vp_in j (xlen h.1 a)], (pc + 1, L, .int (h.2.1 a j.toNatClampNeg) :: r), h)
    | _ => none)
  | .iastore, 1 => (match st with
    | .int x :: .int j :: .ref a :: r => some ([xW h.1 a .int, vp_in j (xlen h.1 a)], (pc + 1, L, r), (h.1, xup h.2.1 a j.toNatClampNeg x, h.2.2))
    | _ => none)
  | .baload, 1 => (match st with
    | .int j :: .ref a :: r => some ([xA h.1 a .boolean, vp_in j (xlen h.1 a)], (pc + 1, L, .int (h.2.1 a j.toNatClampNeg) :: r), h)
    | _ => none)
  | .bastore, 1 => (match st with
    | .int x :: .int j :: .ref a :: r => some ([xW h.1 a .boolean, vp_in j (xlen h.1 a), x = 0 ∨ x = 1], (pc + 1, L, r), (h.1, xup h.2.1 a j.toNatClampNeg x, h.2.2))
    | _ => none)
  | .laload, 1 => (match st with
    | .int j :: .ref a :: r => some ([xA h.1 a .long, vp_in j (xlen h.1 a)], (pc + 1, L, .long (h.2.2 a j.toNatClampNeg) :: r), h)
    | _ => none)
  | .lastore, 1 => (match st with
    | .long x :: .int j :: .ref a :: r => some ([xW h.1 a .long, vp_in j (xlen h.1 a)], (pc + 1, L, r), (h.1, h.2.1, xupL h.2.2 a j.toNatClampNeg x))
    | _ => none)
  | .arraylength, 1 => (match st with
    | .ref a :: r => some ([xA h.1 a .int], (pc + 1, L, .int (nI (xlen h.1 a)) :: r), h)
    | _ => none)
  | .new k, 3 => (match lk k with
    | some (6, ci, _, _, _) => some ([], (pc + 3, L, .ref h.1.length :: st), (h.1 ++ [.inr (ci, df ci)], xzer h.2.1 h.1.length, xzerL h.2.2 h.1.length))
    | _ => none)
  | .newarray t, 2 => (match st with
    | .int n :: r => some ([¬ n < 0, n.toNatClampNeg ≤ 65536, newarray.typeOf t = .int ∨ newarray.typeOf t = .boolean ∨ newarray.typeOf t = .long], (pc + 2, L, .ref h.1.length :: r), (h.1 ++ [.inl (newarray.typeOf t, n.toNatClampNeg)], xzer h.2.1 h.1.length, xzerL h.2.2 h.1.length))
    | _ => none)
  | .invokespecial k, 3 => (match lk k, st with
    | some (9, _, _, _, _), .ref _ :: r => some ([(r.map fun v => v.category).sum ≤ 8], (pc + 3, L, r), h)
    | _, _ => none)
  | .invokestatic k, 3 => (match lk k, st with
    | some (10, _, _, _, _), .int y :: .int x :: r => some ([(r.map fun v => v.category).sum ≤ 8], (pc + 3, L, .int (if y < x then y else x) :: r), h)
    | some (11, _, _, _, _), .int y :: .int x :: r => some ([(r.map fun v => v.category).sum ≤ 8], (pc + 3, L, .int (if x < y then y else x) :: r), h)
    | some (12, _, _, _, _), .int x :: r => some ([(r.map fun v => v.category).sum ≤ 8], (pc + 3, L, .int (if 0 ≤ x then x else 0 - x) :: r), h)
    | some (13, _, _, _, _), .int n :: .int dp :: .ref b :: .int sp :: .ref a :: r => some ([(r.map fun v => v.category).sum ≤ 8, xW h.1 a .int, xW h.1 b .int, ¬ sp < 0, ¬ dp < 0, ¬ n < 0, sp.toNatClampNeg + n.toNatClampNeg ≤ xlen h.1 a, dp.toNatClampNeg + n.toNatClampNeg ≤ xlen h.1 b, a ≠ b], (pc + 3, L, r), (h.1, xcpy h.2.1 a sp.toNatClampNeg b dp.toNatClampNeg n.toNatClampNeg, h.2.2))
    | _, _ => none)
  | _, _ => none
/-- a branch: on what, where to, what stays on the stack -/
def xB (i : Instr) (len pc : Nat) (st : List Value) : Option (Prop × Nat × List Value) :=
  match i, len, st with
  | .ifCond .eq off, 3, .int x :: r => (xtg pc off).map fun t => (x = 0, t, r)
  | .ifCond .ne off, 3, .int x :: r => (xtg pc off).map fun t => (¬ x = 0, t, r)
  | .ifCond .lt off, 3, .int x :: r => (xtg pc off).map fun t => (x < 0, t, r)
  | .ifCond .ge off, 3, .int x :: r => (xtg pc off).map fun t => (0 ≤ x, t, r)
  | .ifCond .gt off, 3, .int x :: r => (xtg pc off).map fun t => (0 < x, t, r)
  | .ifCond .le off, 3, .int x :: r => (xtg pc off).map fun t => (x ≤ 0, t, r)
  | .if_icmp .eq off, 3, .int y :: .int x :: r => (xtg pc off).map fun t => (x = y, t, r)
  | .if_icmp .ne off, 3, .int y :: .int x :: r => (xtg pc off).map fun t => (¬ x = y, t, r)
  | .if_icmp .lt off, 3, .int y :: .int x :: r => (xtg pc off).map fun t => (x < y, t, r)
  | .if_icmp .ge off, 3, .int y :: .int x :: r => (xtg pc off).map fun t => (y ≤ x, t, r)
  | .if_icmp .gt off, 3, .int y :: .int x :: r => (xtg pc off).map fun t => (y < x, t, r)
  | .if_icmp .le off, 3, .int y :: .int x :: r => (xtg pc off).map fun t => (x ≤ y, t, r)
  | _, _, _ => none
/-- a call: of which method, with how many values; 0 static, 1 static of a nest mate, 2 virtual (on which class), 4 a constructor, 5 a nest mate's -/
def xK (lk : Nat → Option xL) (i : Instr) : Option (Nat × Nat) :=
  match i with
  | .invokestatic k => (match lk k with
    | some (3, mid, n, 0, _) => some (mid, n)
    | some (3, mid, n, 1, _) => some (mid, n)
    | _ => none)
  | .invokevirtual k => (match lk k with
    | some (3, mid, n, 2, _) => some (mid, n)
    | _ => none)
  | .invokespecial k => (match lk k with
    | some (3, mid, n, 4, _) => some (mid, n)
    | some (3, mid, n, 5, _) => some (mid, n)
    | _ => none)
  | _ => none
/-- the object of a call -/
def xrc (lk : Nat → Option xL) (i : Instr) (as : List Value) (sh : List xS) : Prop :=
  match i with
  | .invokevirtual k => (match lk k with
    | some (_, _, _, _, ci) => ∃ o r, as = .ref o :: r ∧ xOb sh o ci.toNat
    | none => False)
  | .invokespecial _ => ∃ o r, as = .ref o :: r
  | _ => True
/-- an end; the method's kind of answer: 0 none, 1 int, 2 boolean, 3 reference -/
def xQ (rk : Nat) (i : Instr) (st : List Value) : Option (List Prop × Option Value) :=
  match i, rk, st with
  | .return_, 0, [] => some ([], none)
  | .ireturn, 1, [.int x] => some ([], some (.int x))
  | .ireturn, 2, [.int x] => some ([x = 0 ∨ x = 1], some (.int x))
  | .areturn, 3, [.ref x] => some ([], some (.ref x))
  | _, _, _ => none
/-- a method: its class (for the links), its code, its locals, its kind of answer, whether it makes an object, its handler (from, to, where, class; a second one for the same stretch: its class and place stand in the same number, above the first three digits) -/
abbrev xM : Type := Nat × xC × Nat × Nat × Bool × Option (Nat × Nat × Nat × Nat)
def xcd (c : xC) (pc : Nat) : Option (Instr × Nat) := c.lookup pc
def xent : List Value → List (Option Value)
  | [] => []
  | .long x :: r => some (.long x) :: none :: xent r
  | .double x :: r => some (.double x) :: none :: xent r
  | v :: r => some v :: xent r
/-- 'throw new X("..")' begins here: which class -/
def xTh (lk : Nat → Option xL) (cd : xC) (pc : Nat) (i : Instr) : Option Nat :=
  match i, xcd cd (pc + 3), xcd cd (pc + 4), xcd cd (pc + 6), xcd cd (pc + 9) with
  | .new k, some (.dup, 1), some (.ldc a, 2), some (.invokespecial c, 3), some (.athrow, 1) => (match lk k, lk a, lk c with
    | some (7, e, _, _, _), some (8, _, _, _, _), some (14, e', _, _, _) => if e = e' then some e else none
    | _, _, _ => none)
  | _, _, _, _, _ => none
/-- the class of a thrown object -/
def xcl (sh : List xS) (x : Nat) : Option Nat := match sh[x]? with
  | some (.inr (c, _)) => some c
  | _ => none
/-- a run of one method in so many steps, over what its calls do -/
def xR (lk : Nat → Nat → Option xL) (df : xD) (C : Nat → List Value → xH → xO → xH → Prop) (M : xM) : Nat → xF → xH → xO → xH → Prop
  | 0, _, _, _, _ => False
  | k + 1, f, h, o, h' =>
    ∃ i len, xcd M.2.1 f.1 = some (i, len) ∧
    ((∃ ps f1 h1, xE (lk M.1) df M.2.2.2.2.1 i len f.1 f.2.1 f.2.2 h = some (ps, f1, h1) ∧ xAll ps ∧ xR lk df C M k f1 h1 o h') ∨
     (∃ b t r, xB i len f.1 f.2.2 = some (b, t, r) ∧ (b → xR lk df C M k (t, f.2.1, r) h o h') ∧ (¬ b → xR lk df C M k (f.1 + 3, f.2.1, r) h o h')) ∨
     (∃ mid n, xK (lk M.1) i = some (mid, n) ∧ len = 3 ∧ n ≤ f.2.2.length ∧ ((f.2.2.drop n).map fun v => v.category).sum ≤ 8 ∧ xrc (lk M.1) i (f.2.2.take n).reverse h.1 ∧
        ((∃ v h1, C mid (f.2.2.take n).reverse h (.inl v) h1 ∧ xR lk df C M k (f.1 + 3, f.2.1, v.toList ++ f.2.2.drop n) h1 o h') ∨
         (∃ x h1, C mid (f.2.2.take n).reverse h (.inr x) h1 ∧ M.2.2.2.2.2 = none ∧ o = .inr x ∧ h' = h1) ∨
         (∃ x h1 a b t c, C mid (f.2.2.take n).reverse h (.inr x) h1 ∧ M.2.2.2.2.2 = some (a, b, t, c) ∧ a ≤ f.1 ∧ f.1 < b ∧ xcl h1.1 x = some (c % 1000) ∧ xR lk df C M k (t, f.2.1, [.ref x]) h1 o h') ∨
         (∃ x h1 a b t c, C mid (f.2.2.take n).reverse h (.inr x) h1 ∧ M.2.2.2.2.2 = some (a, b, t, c) ∧ a ≤ f.1 ∧ f.1 < b ∧ 1000 ≤ c ∧ xcl h1.1 x = some (c / 1000 % 1000) ∧ xR lk df C M k (c / 1000000, f.2.1, [.ref x]) h1 o h'))) ∨
     (∃ ps v, xQ M.2.2.2.1 i f.2.2 = some (ps, v) ∧ len = 1 ∧ xAll ps ∧ o = .inl v ∧ h' = h) ∨
     (∃ e, xTh (lk M.1) M.2.1 f.1 i = some e ∧ len = 3 ∧ M.2.2.2.2.2 = none ∧ (f.2.2.map fun v => v.category).sum ≤ 8 ∧ o = .inr h.1.length ∧ h' = (h.1 ++ [.inr (e, [])], h.2)))
/-- a method's run, calls nested so deep -/
def xV (lk : Nat → Nat → Option xL) (df : xD) (mt : Nat → Option xM) : Nat → Nat → List Value → xH → xO → xH → Prop
  | 0, _, _, _, _, _ => False
  | d + 1, mid, as, h, o, h' => ∃ M, mt mid = some M ∧ (xent as).length ≤ M.2.2.1 ∧ ∃ k, xR lk df (xV lk df mt d) M k (0, xent as ++ List.replicate (M.2.2.1 - (xent as).length) none, []) h o h'
