/-! the small machine: its steps -/
/-- a cell: an array (its elements' type, its length, what it holds), or an object (its class, its fields) -/
abbrev mC : Type := (FieldType × vp_A) ⊕ (Nat × List Value)
/-- the heap: how many cells, how many exceptions, how many slots were made; the cells -/
abbrev mH : Type := (Nat × Nat × Nat) × (Nat → mC)
abbrev mL : Type := List (Option Value)
/-- the script -/
abbrev mX : Type := Nat × (Nat → Int32)
abbrev mO : Type := Option Value ⊕ Nat
abbrev mS : Type := Nat × mL × List Value × mH
abbrev mA : Type := mS ⊕ ((Nat × List Value × List Value) ⊕ (mO × mH))
def mRO : Nat := 1000000
def mCap : Nat := 601024
def mSap : Nat := 7293034
def mup (f : Nat → mC) (k : Nat) (x : mC) : Nat → mC := fun j => if j = k then x else f j
def mTens (k : Nat) : Int64 := mTENS.getD k 0
/-- the cells that were there before: the script, the powers of ten, the literals with their bytes -/
def mro (X : mX) (i : Nat) : Option mC :=
  bif Nat.beq i 0 then some (.inl (.int, X.1, .inl X.2))
  else bif Nat.beq i 1 then some (.inl (.long, 19, .inr (.inl mTens)))
  else bif Nat.blt i 3 then none
  else bif Nat.blt ((i - 3) / 2) mSB.length then
    (bif Nat.beq ((i - 3) % 2) 0 then some (.inr (14, [.ref (mRO + i + 1), .int 0]))
     else some (.inl (.byte, (mSB.getD ((i - 3) / 2) []).length, .inl (fun k => (mSB.getD ((i - 3) / 2) []).getD k 0))))
  else none
def mget (X : mX) (h : mH) (a : Nat) : Option mC := if a < mRO then (if a < h.1.1 then some (h.2 a) else none) else mro X (a - mRO)
def mlg : mL → Nat → Option Value
  | [], _ => none
  | x :: _, 0 => x
  | _ :: r, i + 1 => mlg r i
/-- a long whose second half is overwritten is gone -/
def mkl (ls : mL) : Nat → mL
  | 0 => ls
  | j + 1 => match mlg ls j with
    | some v => if v.category = 2 then ls.set j none else ls
    | none => ls
def mst1 (ls : mL) (i : Nat) (v : Value) : Option mL := if i < ls.length then some ((mkl ls i).set i (some v)) else none
def mst2 (ls : mL) (i : Nat) (v : Value) : Option mL := if i + 1 < ls.length then some (((mkl ls i).set i (some v)).set (i + 1) none) else none
def mgo (pc : Nat) (ls : mL) (st : List Value) (h : mH) : Option mA := some (.inl (pc, ls, st, h))
def mildI (i w pc : Nat) (ls : mL) (st : List Value) (h : mH) : Option mA := match mlg ls i with
  | some (.int x) => mgo (pc + w) ls (.int x :: st) h
  | _ => none
def mildL (i w pc : Nat) (ls : mL) (st : List Value) (h : mH) : Option mA := match mlg ls i with
  | some (.long x) => mgo (pc + w) ls (.long x :: st) h
  | _ => none
def mildA (i w pc : Nat) (ls : mL) (st : List Value) (h : mH) : Option mA := match mlg ls i with
  | some (.ref x) => mgo (pc + w) ls (.ref x :: st) h
  | _ => none
def mistI (i w pc : Nat) (ls : mL) (st : List Value) (h : mH) : Option mA := match st with
  | .int x :: r => match mst1 ls i (.int x) with
    | some ls' => mgo (pc + w) ls' r h
    | none => none
  | _ => none
def mistL (i w pc : Nat) (ls : mL) (st : List Value) (h : mH) : Option mA := match st with
  | .long x :: r => match mst2 ls i (.long x) with
    | some ls' => mgo (pc + w) ls' r h
    | none => none
  | _ => none
def mistA (i w pc : Nat) (ls : mL) (st : List Value) (h : mH) : Option mA := match st with
  | .ref x :: r => match mst1 ls i (.ref x) with
    | some ls' => mgo (pc + w) ls' r h
    | none => none
  | _ => none
def m1i (f : Int32 → Value) (pc : Nat) (ls : mL) (st : List Value) (h : mH) : Option mA := match st with
  | .int x :: r => mgo (pc + 1) ls (f x :: r) h
  | _ => none
def m1l (f : Int64 → Value) (pc : Nat) (ls : mL) (st : List Value) (h : mH) : Option mA := match st with
  | .long x :: r => mgo (pc + 1) ls (f x :: r) h
  | _ => none
def m2i (f : Int32 → Int32 → Value) (pc : Nat) (ls : mL) (st : List Value) (h : mH) : Option mA := match st with
  | .int y :: .int x :: r => mgo (pc + 1) ls (f x y :: r) h
  | _ => none
def m2l (f : Int64 → Int64 → Value) (pc : Nat) (ls : mL) (st : List Value) (h : mH) : Option mA := match st with
  | .long y :: .long x :: r => mgo (pc + 1) ls (f x y :: r) h
  | _ => none
def m2j (f : Int64 → Int32 → Value) (pc : Nat) (ls : mL) (st : List Value) (h : mH) : Option mA := match st with
  | .int y :: .long x :: r => mgo (pc + 1) ls (f x y :: r) h
  | _ => none
def mdvi (f : Int32 → Int32 → Value) (pc : Nat) (ls : mL) (st : List Value) (h : mH) : Option mA := match st with
  | .int y :: .int x :: r => if y = 0 then none else mgo (pc + 1) ls (f x y :: r) h
  | _ => none
def mdvl (f : Int64 → Int64 → Value) (pc : Nat) (ls : mL) (st : List Value) (h : mH) : Option mA := match st with
  | .long y :: .long x :: r => if y = 0 then none else mgo (pc + 1) ls (f x y :: r) h
  | _ => none
def mtgt (pc : Nat) (off : Int) : Option Nat := match (pc : Int) + off with
  | .ofNat t => some t
  | .negSucc _ => none
def mjmp (pc : Nat) (off : Int) (ls : mL) (st : List Value) (h : mH) : Option mA := match mtgt pc off with
  | some t => mgo t ls st h
  | none => none
def mif1 (f : Int32 → Bool) (off : Int) (pc : Nat) (ls : mL) (st : List Value) (h : mH) : Option mA := match st with
  | .int x :: r => match mtgt pc off with
    | some t => bif f x then mgo t ls r h else mgo (pc + 3) ls r h
    | none => none
  | _ => none
def mif2 (f : Int32 → Int32 → Bool) (off : Int) (pc : Nat) (ls : mL) (st : List Value) (h : mH) : Option mA := match st with
  | .int y :: .int x :: r => match mtgt pc off with
    | some t => bif f x y then mgo t ls r h else mgo (pc + 3) ls r h
    | none => none
  | _ => none
/-- a value that a field or an answer of this type may hold as it is -/
def mfit : FieldType → Value → Bool
  | .int, .int _ => true
  | .long, .long _ => true
  | .boolean, .int x => decide (x &&& 1 = x)
  | .byte, .int x => decide (x.toInt8.toInt32 = x)
  | .char, .int x => decide (x.toUInt32.toUInt16.toUInt32.toInt32 = x)
  | .object _, .ref a => decide (a < mRO)
  | .array _, .ref a => decide (a < mRO)
  | _, _ => false
def mdef : FieldType → Value
  | .long => .long 0
  | .object _ => .null
  | .array _ => .null
  | _ => .int 0
def mnewo (ci pc : Nat) (ls : mL) (st : List Value) (h : mH) : Option mA :=
  if h.1.2.1 = 0 ∧ h.1.1 + 1 ≤ mCap ∧ h.1.2.2 + mNF ci ≤ mSap ∧ ci < 14 then
    mgo (pc + 3) ls (.ref h.1.1 :: st) ((h.1.1 + 1, 0, h.1.2.2 + mNF ci), mup h.2 h.1.1 (.inr (ci, (List.range (mNF ci)).map (fun k => mdef (mTyT ci k)))))
  else none
def mnewa (ty : FieldType) (a0 : (Nat → Int32) ⊕ (Nat → Int64) ⊕ (Nat → UInt32) ⊕ (Nat → UInt64) ⊕ (Nat → Option Nat)) (pc : Nat) (ls : mL) (st : List Value) (h : mH) : Option mA := match st with
  | .int n :: r =>
    if h.1.2.1 = 0 ∧ h.1.1 + 1 ≤ mCap ∧ h.1.2.2 + n.toNatClampNeg ≤ mSap ∧ ¬ n < 0 ∧ n.toNatClampNeg ≤ 60000 then
      mgo (pc + 2) ls (.ref h.1.1 :: r) ((h.1.1 + 1, 0, h.1.2.2 + n.toNatClampNeg), mup h.2 h.1.1 (.inl (ty, n.toNatClampNeg, a0)))
    else none
  | _ => none
def mgetf (X : mX) (ci k pc : Nat) (ls : mL) (st : List Value) (h : mH) : Option mA := match st with
  | .ref a :: r => match mget X h a with
    | some (.inr (cj, fs)) => if cj = ci then (match fs[k]? with
      | some v => mgo (pc + 3) ls (v :: r) h
      | none => none) else none
    | _ => none
  | _ => none
def mputf (ini : Bool) (o ci k pc : Nat) (ls : mL) (st : List Value) (h : mH) : Option mA := match st with
  | v :: .ref a :: r => if a < mRO ∧ a < h.1.1 then (match h.2 a with
    | .inr (cj, fs) =>
      if cj = ci ∧ k < fs.length ∧ mfit (mTyT ci k) v = true ∧ ((mTT ci k).2.2.2 = false ∨ (ini = true ∧ o = ci)) then
        mgo (pc + 3) ls r (h.1, mup h.2 a (.inr (ci, fs.set k v)))
      else none
    | _ => none) else none
  | _ => none
def mald (X : mX) (ty : FieldType) (pc : Nat) (ls : mL) (st : List Value) (h : mH) : Option mA := match st with
  | .int i :: .ref a :: r => match mget X h a with
    | some (.inl (ty', n, .inl f)) => if ty' = ty ∧ ¬ (i < 0 ∨ n ≤ i.toNatClampNeg) then mgo (pc + 1) ls (.int (f i.toNatClampNeg) :: r) h else none
    | _ => none
  | _ => none
def mlald (X : mX) (pc : Nat) (ls : mL) (st : List Value) (h : mH) : Option mA := match st with
  | .int i :: .ref a :: r => match mget X h a with
    | some (.inl (ty', n, .inr (.inl f))) => if ty' = .long ∧ ¬ (i < 0 ∨ n ≤ i.toNatClampNeg) then mgo (pc + 1) ls (.long (f i.toNatClampNeg) :: r) h else none
    | _ => none
  | _ => none
def mast (ty : FieldType) (pc : Nat) (ls : mL) (st : List Value) (h : mH) : Option mA := match st with
  | .int x :: .int i :: .ref a :: r => if a < mRO ∧ a < h.1.1 then (match h.2 a with
    | .inl (ty', n, .inl f) => if ty' = ty ∧ ¬ (i < 0 ∨ n ≤ i.toNatClampNeg) then mgo (pc + 1) ls r (h.1, mup h.2 a (.inl (ty, n, .inl (upd f i.toNatClampNeg (vp_nar ty x))))) else none
    | _ => none) else none
  | _ => none
def mlast (pc : Nat) (ls : mL) (st : List Value) (h : mH) : Option mA := match st with
  | .long x :: .int i :: .ref a :: r => if a < mRO ∧ a < h.1.1 then (match h.2 a with
    | .inl (ty', n, .inr (.inl f)) => if ty' = .long ∧ ¬ (i < 0 ∨ n ≤ i.toNatClampNeg) then mgo (pc + 1) ls r (h.1, mup h.2 a (.inl (.long, n, .inr (.inl (vp_updL f i.toNatClampNeg x))))) else none
    | _ => none) else none
  | _ => none
def malen (X : mX) (pc : Nat) (ls : mL) (st : List Value) (h : mH) : Option mA := match st with
  | .ref a :: r => match mget X h a with
    | some (.inl (ty, n, _)) => if ty = .int ∨ ty = .byte ∨ ty = .long then mgo (pc + 1) ls (.int (Int32.ofNat n) :: r) h else none
    | _ => none
  | _ => none
def mldc (o i w pc : Nat) (ls : mL) (st : List Value) (h : mH) : Option mA := match mlk o i with
  | (3, _, _, v) => mgo (pc + w) ls (.int (Int32.ofInt v) :: st) h
  | (5, j, _, _) => mgo (pc + w) ls (.ref (mRO + 3 + 2 * j) :: st) h
  | _ => none
def mgets (o i pc : Nat) (ls : mL) (st : List Value) (h : mH) : Option mA := match mlk o i with
  | (6, 0, _, _) => mgo (pc + 3) ls (.ref (mRO + 1) :: st) h
  | (6, 1, _, _) => mgo (pc + 3) ls (.int 1 :: st) h
  | (6, 2, _, _) => mgo (pc + 3) ls (.ref (mRO + 2) :: st) h
  | _ => none
/-- a call: the method's number, its arguments, what is left on the stack -/
def mcall (k n : Nat) (st : List Value) : Option mA :=
  if n ≤ st.length ∧ ((st.drop n).map fun v => v.category).sum ≤ 8 then some (.inr (.inl (k, (st.take n).reverse, st.drop n))) else none
/-- a call on an object: it is of the class that has the method -/
def mcallV (X : mX) (k n : Nat) (st : List Value) (h : mH) : Option mA := match st[n - 1]? with
  | some (.ref a) => (match mget X h a, mtab k with
    | some (.inr (ci, _)), some M' => if ci = M'.2.1 ∧ 1 ≤ n ∧ mSK k = false ∧ mIN k = false then mcall k n st else none
    | _, _ => none)
  | _ => none
/-- System.arraycopy of bytes -/
def mcopy (pc : Nat) (ls : mL) (st : List Value) (h : mH) : Option mA := match st with
  | .int n :: .int dp :: .ref a1 :: .int sp :: .ref a0 :: r =>
    if (a0 < mRO ∧ a0 < h.1.1) ∧ (a1 < mRO ∧ a1 < h.1.1) ∧ (r.map fun v => v.category).sum ≤ 8 then (match h.2 a0, h.2 a1 with
      | .inl (.byte, n0, .inl f), .inl (.byte, n1, .inl g) =>
        if ¬ sp < 0 ∧ ¬ dp < 0 ∧ ¬ n < 0 ∧ sp.toNatClampNeg + n.toNatClampNeg ≤ n0 ∧ dp.toNatClampNeg + n.toNatClampNeg ≤ n1 then
          mgo (pc + 3) ls r (h.1, mup h.2 a1 (.inl (.byte, n1, .inl (va_cpy f g sp.toNatClampNeg dp.toNatClampNeg n.toNatClampNeg))))
        else none
      | _, _ => none) else none
  | _ => none
/-- a static call -/
def mcallS (k n : Nat) (st : List Value) : Option mA := if mSK k = true then mcall k n st else none
/-- a constructor's call -/
def mcallI (k n : Nat) (st : List Value) : Option mA := match st[n - 1]? with
  | some (.ref a) => if a < mRO ∧ 1 ≤ n ∧ mIN k = true then mcall k n st else none
  | _ => none
def mfin (o : mO) (h : mH) : Option mA := some (.inr (.inr (o, h)))
/-- new E; dup; ldc text; E(text); athrow -/
def mthrow (M : mM) (x pc : Nat) (st : List Value) (h : mH) : Option mA := match st, M.1 (pc + 3), M.1 (pc + 4), M.1 (pc + 6), M.1 (pc + 9) with
  | [], some .dup, some (.ldc j), some (.invokespecial ic), some .athrow =>
    if (mlk M.2.1 j).1 = 5 ∧ mlk M.2.1 ic = (8, x, 0, 0) ∧ M.2.2.2.2.2.2.2 = [] ∧ x < 4 ∧ h.1.1 + h.1.2.1 + 1 ≤ mCap ∧ h.1.2.2 + 6 ≤ mSap then
      mfin (.inr x) ((h.1.1, h.1.2.1 + 1, h.1.2.2 + 6), h.2)
    else none
  | _, _, _, _, _ => none
def mact (X : mX) (M : mM) (i : Instr) (pc : Nat) (ls : mL) (st : List Value) (h : mH) : Option mA := match i with
  | .iconst n => mgo (pc + 1) ls (.int (Int32.ofInt n) :: st) h
  | .bipush n => mgo (pc + 2) ls (.int (Int8.ofInt n).toInt32 :: st) h
  | .sipush n => mgo (pc + 3) ls (.int (Int16.ofInt n).toInt32 :: st) h
  | .lconst n => mgo (pc + 1) ls (.long (Int64.ofNat (n : Nat)) :: st) h
  | .ldc j => mldc M.2.1 j 2 pc ls st h
  | .ldc_w j => mldc M.2.1 j 3 pc ls st h
  | .ldc2_w j => match mlk M.2.1 j with
    | (4, _, _, v) => mgo (pc + 3) ls (.long (Int64.ofInt v) :: st) h
    | _ => none
  | .iload j => mildI j 2 pc ls st h
  | .iload_n j => mildI j 1 pc ls st h
  | .lload j => mildL j 2 pc ls st h
  | .lload_n j => mildL j 1 pc ls st h
  | .aload j => mildA j 2 pc ls st h
  | .aload_n j => mildA j 1 pc ls st h
  | .istore j => mistI j 2 pc ls st h
  | .istore_n j => mistI j 1 pc ls st h
  | .lstore j => mistL j 2 pc ls st h
  | .lstore_n j => mistL j 1 pc ls st h
  | .astore j => mistA j 2 pc ls st h
  | .astore_n j => mistA j 1 pc ls st h
  | .iinc j n => match mlg ls j with
    | some (.int x) => (match mst1 ls j (.int (x + Int32.ofInt n)) with
      | some ls' => mgo (pc + 3) ls' st h
      | none => none)
    | _ => none
  | .iadd => m2i (fun x y => .int (x + y)) pc ls st h
  | .isub => m2i (fun x y => .int (x - y)) pc ls st h
  | .imul => m2i (fun x y => .int (x * y)) pc ls st h
  | .iand => m2i (fun x y => .int (x &&& y)) pc ls st h
  | .ior => m2i (fun x y => .int (x ||| y)) pc ls st h
  | .ixor => m2i (fun x y => .int (x ^^^ y)) pc ls st h
  | .idiv => mdvi (fun x y => .int (x / y)) pc ls st h
  | .irem => mdvi (fun x y => .int (x - x / y * y)) pc ls st h
  | .ineg => m1i (fun x => .int (-x)) pc ls st h
  | .ishl => m2i (fun x y => .int (x <<< (y &&& 31))) pc ls st h
  | .ishr => m2i (fun x y => .int (x >>> (y &&& 31))) pc ls st h
  | .iushr => m2i (fun x y => .int (x.toUInt32 >>> (y.toUInt32 &&& Int32.toUInt32 31)).toInt32) pc ls st h
  | .ladd => m2l (fun x y => .long (x + y)) pc ls st h
  | .lsub => m2l (fun x y => .long (x - y)) pc ls st h
  | .lmul => m2l (fun x y => .long (x * y)) pc ls st h
  | .land => m2l (fun x y => .long (x &&& y)) pc ls st h
  | .lor => m2l (fun x y => .long (x ||| y)) pc ls st h
  | .lxor => m2l (fun x y => .long (x ^^^ y)) pc ls st h
  | .ldiv => mdvl (fun x y => .long (x / y)) pc ls st h
  | .lrem => mdvl (fun x y => .long (x - x / y * y)) pc ls st h
  | .lneg => m1l (fun x => .long (-x)) pc ls st h
  | .lshl => m2j (fun x y => .long (x <<< (y.toInt64 &&& 63))) pc ls st h
  | .lshr => m2j (fun x y => .long (x >>> (y.toInt64 &&& 63))) pc ls st h
  | .lushr => m2j (fun x y => .long (x.toUInt64 >>> (y.toInt64.toUInt64 &&& Int64.toUInt64 63)).toInt64) pc ls st h
  | .i2l => m1i (fun x => .long x.toInt64) pc ls st h
  | .l2i => m1l (fun x => .int x.toInt32) pc ls st h
  | .i2b => m1i (fun x => .int x.toInt8.toInt32) pc ls st h
  | .i2s => m1i (fun x => .int x.toInt16.toInt32) pc ls st h
  | .i2c => m1i (fun x => .int (x.toUInt32 % 65536).toInt32) pc ls st h
  | .lcmp => m2l (fun x y => .int (lg_cmp x y)) pc ls st h
  | .dup => match st with
    | v :: r => if v.category = 1 then mgo (pc + 1) ls (v :: v :: r) h else none
    | _ => none
  | .pop => match st with
    | v :: r => if v.category = 1 then mgo (pc + 1) ls r h else none
    | _ => none
  | .dup_x1 => match st with
    | v :: w :: r => if v.category = 1 ∧ w.category = 1 then mgo (pc + 1) ls (v :: w :: v :: r) h else none
    | _ => none
  | .dup2 => match st with
    | v :: w :: r => if v.category = 1 ∧ w.category = 1 then mgo (pc + 1) ls (v :: w :: v :: w :: r) h else none
    | _ => none
  | .ifCond c off => (match c with
    | .eq => mif1 (fun x => decide (x = 0)) off pc ls st h
    | .ne => mif1 (fun x => decide (¬ x = 0)) off pc ls st h
    | .lt => mif1 (fun x => decide (x < 0)) off pc ls st h
    | .ge => mif1 (fun x => decide (x ≥ 0)) off pc ls st h
    | .gt => mif1 (fun x => decide (x > 0)) off pc ls st h
    | .le => mif1 (fun x => decide (x ≤ 0)) off pc ls st h)
  | .if_icmp c off => (match c with
    | .eq => mif2 (fun x y => decide (x = y)) off pc ls st h
    | .ne => mif2 (fun x y => decide (¬ x = y)) off pc ls st h
    | .lt => mif2 (fun x y => decide (x < y)) off pc ls st h
    | .ge => mif2 (fun x y => decide (x ≥ y)) off pc ls st h
    | .gt => mif2 (fun x y => decide (x > y)) off pc ls st h
    | .le => mif2 (fun x y => decide (x ≤ y)) off pc ls st h)
  | .goto off => mjmp pc off ls st h
  | .tableswitch dflt lo hi offs => (match st with
    | .int x :: r => if x.toInt < lo ∨ hi < x.toInt then mjmp pc dflt ls r h else (match offs[(x.toInt - lo).toNat]? with
      | some off => mjmp pc off ls r h
      | none => none)
    | _ => none)
  | .lookupswitch dflt ps => (match st with
    | .int x :: r => if (ps.toList.zip (ps.toList.drop 1)).all (fun (a, next) => a.1 < next.1) = true then mjmp pc (Op.lookupswitch.offset ps.toList dflt x.toInt) ls r h else none
    | _ => none)
  | .getfield j => match mlk M.2.1 j with
    | (0, ci, k, _) => mgetf X ci k pc ls st h
    | _ => none
  | .putfield j => match mlk M.2.1 j with
    | (0, ci, k, _) => mputf (M.2.2.2.2.1.name == "<init>") M.2.1 ci k pc ls st h
    | _ => none
  | .getstatic j => mgets M.2.1 j pc ls st h
  | .new j => match mlk M.2.1 j with
    | (2, ci, _, _) => mnewo ci pc ls st h
    | (7, x, _, _) => mthrow M x pc st h
    | _ => none
  | .newarray t => (match t with
    | .int => mnewa .int (.inl fun _ => 0) pc ls st h
    | .byte => mnewa .byte (.inl fun _ => 0) pc ls st h
    | .long => mnewa .long (.inr (.inl fun _ => 0)) pc ls st h
    | _ => none)
  | .iaload => mald X .int pc ls st h
  | .baload => mald X .byte pc ls st h
  | .laload => mlald X pc ls st h
  | .iastore => mast .int pc ls st h
  | .bastore => mast .byte pc ls st h
  | .lastore => mlast pc ls st h
  | .arraylength => malen X pc ls st h
  | .invokestatic j => match mlk M.2.1 j with
    | (1, k, n, _) => mcallS k n st
    | (11, _, _, _) => mcopy pc ls st h
    | _ => none
  | .invokevirtual j => match mlk M.2.1 j with
    | (1, k, n, _) => mcallV X k n st h
    | _ => none
  | .invokespecial j => match mlk M.2.1 j with
    | (1, k, n, _) => mcallI k n st
    | (10, k, n, _) => mcallI k n st
    | (9, _, _, _) => (match st with
      | .ref a :: r => if a < mRO ∧ (r.map fun v => v.category).sum ≤ 8 then mgo (pc + 3) ls r h else none
      | _ => none)
    | _ => none
  | .ireturn => (match st, M.2.2.2.1 with
    | [.int v], some ty => if mfit ty (.int v) = true then mfin (.inl (some (.int v))) h else none
    | _, _ => none)
  | .lreturn => (match st, M.2.2.2.1 with
    | [.long v], some .long => mfin (.inl (some (.long v))) h
    | _, _ => none)
  | .areturn => (match st, M.2.2.2.1 with
    | [.ref v], some (.object _) => mfin (.inl (some (.ref v))) h
    | _, _ => none)
  | .return_ => (match st, M.2.2.2.1 with
    | [], none => mfin (.inl none) h
    | _, _ => none)
  | _ => none
/-- the locals at a method's entry -/
def mla : List Value → mL
  | [] => []
  | v :: vs => if v.category = 2 then some v :: none :: mla vs else some v :: mla vs
def ment (n : Nat) (as : List Value) : mL := mla as ++ List.replicate (n - (mla as).length) none
/-- the handler: where it goes on behind its astore, which local is lost -/
def mcat (M : mM) (pc x : Nat) : List (Nat × Nat × Nat × Nat) → Option (Nat × Nat)
  | [] => none
  | (a, b, t, c) :: r =>
    if a ≤ pc ∧ pc < b then
      (match mlk M.2.1 c with
       | (7, y, _, _) => if y = x then (match M.1 t with
           | some (.astore j) => some (t + 2, j)
           | some (.astore_n j) => some (t + 1, j)
           | _ => none) else mcat M pc x r
       | _ => none)
    else mcat M pc x r
def mls0 (ls : mL) (i : Nat) : mL := (mkl ls i).set i none
def mex (X : mX) : Nat → Nat → mM → Nat → mL → List Value → mH → Option (mO × mH)
  | 0, _, _, _, _, _, _ => none
  | n + 1, d, M, pc, ls, st, h => match M.1 pc with
    | none => none
    | some i => match mact X M i pc ls st h with
      | none => none
      | some (.inl (pc', ls', st', h')) => mex X n d M pc' ls' st' h'
      | some (.inr (.inr r)) => some r
      | some (.inr (.inl (k, as, rest))) => match d with
        | 0 => none
        | d' + 1 => match mtab k with
          | none => none
          | some M' => if ¬ (mla as).length ≤ M'.2.2.1 then none else match mex X n d' M' 0 (ment M'.2.2.1 as) [] h with
            | none => none
            | some (.inl v, h') => mex X n (d' + 1) M (pc + 3) ls (v.toList ++ rest) h'
            | some (.inr x, h') => match mcat M pc x M.2.2.2.2.2.2.2 with
              | none => none
              | some (t, j) => if j < ls.length then mex X n (d' + 1) M t (mls0 ls j) [] h' else none
