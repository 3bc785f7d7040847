/-! the flat state: fields and elements by address; rules over it; printed by wip/gen/gen7.py -/
/-- ints and bytes by address and place; longs by address and place; how many exceptions -/
abbrev zS : Type := (Nat → Nat → Int32) × (Nat → Nat → Int64) × Nat
def zi (z : Int) : Int32 := Int32.ofInt z
def zl (z : Int) : Int64 := Int64.ofInt z
def zrem (x y : Int32) : Int32 := x - x / y * y
def zremL (x y : Int64) : Int64 := x - x / y * y
def zshl (x y : Int32) : Int32 := x <<< (y &&& 31)
def zshr (x y : Int32) : Int32 := x >>> (y &&& 31)
def zushr (x y : Int32) : Int32 := (x.toUInt32 >>> (y.toUInt32 &&& Int32.toUInt32 31)).toInt32
def zshlL (x : Int64) (y : Int32) : Int64 := x <<< (y.toInt64 &&& 63)
def zshrL (x : Int64) (y : Int32) : Int64 := x >>> (y.toInt64 &&& 63)
def zushrL (x : Int64) (y : Int32) : Int64 := (x.toUInt64 >>> (y.toInt64.toUInt64 &&& Int64.toUInt64 63)).toInt64
def zI2L (x : Int32) : Int64 := x.toInt64
def zL2I (x : Int64) : Int32 := x.toInt32
def zI2B (x : Int32) : Int32 := x.toInt8.toInt32
def zI2S (x : Int32) : Int32 := x.toInt16.toInt32
def zI2C (x : Int32) : Int32 := (x.toUInt32 % 65536).toInt32
def setI (s : zS) (a k : Nat) (v : Int32) : zS := (fun a' k' => bif Nat.beq a' a && Nat.beq k' k then v else s.1 a' k', s.2)
def setJ (s : zS) (a k : Nat) (v : Int64) : zS := (s.1, fun a' k' => bif Nat.beq a' a && Nat.beq k' k then v else s.2.1 a' k', s.2.2)
def setB (s : zS) (a i : Nat) (v : Int32) : zS := (fun a' => bif Nat.beq a' a then upd (s.1 a) i v else s.1 a', s.2)
def setK (s : zS) (a i : Nat) (v : Int64) : zS := (s.1, fun a' => bif Nat.beq a' a then vp_updL (s.2.1 a) i v else s.2.1 a', s.2.2)
def setA (s : zS) (a : Nat) (f : Nat → Int32) : zS := (fun a' => bif Nat.beq a' a then f else s.1 a', s.2)
def thr (s : zS) : zS := (s.1, s.2.1, s.2.2 + 1)
def zF : Nat := 1000000
abbrev zLine (a : Nat) : Prop := a = 1 ∨ a = 3 ∨ a = 5
abbrev zMdec (a : Nat) : Prop := a = 32 ∨ a = 34 ∨ a = 36
def zLen (a : Nat) : Nat := bif Nat.beq a 1 then 800 else bif Nat.beq a 3 then 400 else 6000
abbrev mIx (i : Int32) (n : Nat) : Prop := ¬ (i < 0 ∨ n ≤ i.toNatClampNeg)
abbrev mBit (v : Int32) : Prop := v &&& 1 = v
abbrev mCp (sp dp n : Int32) (n0 n1 : Nat) : Prop := ¬ sp < 0 ∧ ¬ dp < 0 ∧ ¬ n < 0 ∧ sp.toNatClampNeg + n.toNatClampNeg ≤ n0 ∧ dp.toNatClampNeg + n.toNatClampNeg ≤ n1
def zcell (a : Nat) (i : Nat → Int32) (j : Nat → Int64) : mC := bif Nat.blt a 42 then (bif Nat.blt a 21 then (bif Nat.blt a 10 then (bif Nat.blt a 5 then (bif Nat.blt a 2 then (bif Nat.blt a 1 then (bif Nat.beq a 0 then (.inr (0, [.ref 1, .ref 3, .ref 5, .ref 7, .ref 8, .ref 12, .ref 21, .int (i 7), .int (i 8), .int (i 9)])) else (.inr (99, []))) else (bif Nat.beq a 1 then (.inr (1, [.ref 2, .int (i 1)])) else (.inr (99, [])))) else (bif Nat.blt a 3 then (bif Nat.beq a 2 then (.inl (.byte, 800, .inl i)) else (.inr (99, []))) else (bif Nat.blt a 4 then (bif Nat.beq a 3 then (.inr (1, [.ref 4, .int (i 1)])) else (.inr (99, []))) else (bif Nat.beq a 4 then (.inl (.byte, 400, .inl i)) else (.inr (99, [])))))) else (bif Nat.blt a 7 then (bif Nat.blt a 6 then (bif Nat.beq a 5 then (.inr (1, [.ref 6, .int (i 1)])) else (.inr (99, []))) else (bif Nat.beq a 6 then (.inl (.byte, 6000, .inl i)) else (.inr (99, [])))) else (bif Nat.blt a 8 then (bif Nat.beq a 7 then (.inr (3, [.int (i 0), .int (i 1), .int (i 2), .int (i 3), .int (i 4), .int (i 5), .int (i 6), .int (i 7), .int (i 8)])) else (.inr (99, []))) else (bif Nat.blt a 9 then (bif Nat.beq a 8 then (.inr (2, [.ref 9, .ref 10, .ref 11, .int (i 3)])) else (.inr (99, []))) else (bif Nat.beq a 9 then (.inl (.int, 24, .inl i)) else (.inr (99, []))))))) else (bif Nat.blt a 15 then (bif Nat.blt a 12 then (bif Nat.blt a 11 then (bif Nat.beq a 10 then (.inl (.long, 24, .inr (.inl j))) else (.inr (99, []))) else (bif Nat.beq a 11 then (.inl (.byte, 4800, .inl i)) else (.inr (99, [])))) else (bif Nat.blt a 13 then (bif Nat.beq a 12 then (.inr (4, [.ref 7, .ref 8, .ref 5, .ref 13, .ref 15, .ref 20, .int (i 6), .int (i 7), .int (i 8), .long (j 9)])) else (.inr (99, []))) else (bif Nat.blt a 14 then (bif Nat.beq a 13 then (.inr (5, [.ref 14, .int (i 1), .int (i 2), .int (i 3)])) else (.inr (99, []))) else (bif Nat.beq a 14 then (.inl (.byte, 1600, .inl i)) else (.inr (99, [])))))) else (bif Nat.blt a 18 then (bif Nat.blt a 16 then (bif Nat.beq a 15 then (.inr (7, [.ref 16, .ref 19, .int (i 2), .int (i 3), .int (i 4), .long (j 5), .int (i 6), .int (i 7)])) else (.inr (99, []))) else (bif Nat.blt a 17 then (bif Nat.beq a 16 then (.inr (8, [.ref 17, .int (i 1), .ref 18, .int (i 3), .int (i 4)])) else (.inr (99, []))) else (bif Nat.beq a 17 then (.inl (.long, 96, .inr (.inl j))) else (.inr (99, []))))) else (bif Nat.blt a 19 then (bif Nat.beq a 18 then (.inl (.byte, 864, .inl i)) else (.inr (99, []))) else (bif Nat.blt a 20 then (bif Nat.beq a 19 then (.inr (9, [.long (j 0), .int (i 1), .long (j 2), .int (i 3), .long (j 4), .int (i 5), .int (i 6), .int (i 7)])) else (.inr (99, []))) else (bif Nat.beq a 20 then (.inr (6, [.long (j 0), .int (i 1), .long (j 2), .int (i 3), .int (i 4), .int (i 5), .int (i 6)])) else (.inr (99, [])))))))) else (bif Nat.blt a 31 then (bif Nat.blt a 26 then (bif Nat.blt a 23 then (bif Nat.blt a 22 then (bif Nat.beq a 21 then (.inr (10, [.ref 1, .ref 22, .int (i 2), .int (i 3), .int (i 4), .int (i 5), .int (i 6), .int (i 7), .int (i 8), .int (i 9), .long (j 10)])) else (.inr (99, []))) else (bif Nat.beq a 22 then (.inr (11, [.ref 23, .int (i 1), .int (i 2), .int (i 3)])) else (.inr (99, [])))) else (bif Nat.blt a 24 then (bif Nat.beq a 23 then (.inl (.long, 128, .inr (.inl j))) else (.inr (99, []))) else (bif Nat.blt a 25 then (bif Nat.beq a 24 then (.inr (12, [.ref 25, .ref 26, .ref 27, .ref 28, .int (i 4), .int (i 5), .int (i 6), .int (i 7), .int (i 8), .int (i 9), .ref 29, .ref 30, .ref 31, .int (i 13), .int (i 14), .int (i 15), .int (i 16), .int (i 17), .int (i 18), .int (i 19), .int (i 20), .int (i 21), .int (i 22), .ref 32, .ref 34, .ref 36, .ref 38, .int (i 27), .int (i 28), .ref 39, .int (i 30), .int (i 31), .ref 40, .int (i 33), .int (i 34), .int (i 35), .int (i 36), .int (i 37), .int (i 38), .int (i 39), .int (i 40)])) else (.inr (99, []))) else (bif Nat.beq a 25 then (.inl (.byte, 800, .inl i)) else (.inr (99, [])))))) else (bif Nat.blt a 28 then (bif Nat.blt a 27 then (bif Nat.beq a 26 then (.inl (.byte, 400, .inl i)) else (.inr (99, []))) else (bif Nat.beq a 27 then (.inl (.byte, 10000, .inl i)) else (.inr (99, [])))) else (bif Nat.blt a 29 then (bif Nat.beq a 28 then (.inl (.byte, 4800, .inl i)) else (.inr (99, []))) else (bif Nat.blt a 30 then (bif Nat.beq a 29 then (.inl (.int, 24, .inl i)) else (.inr (99, []))) else (bif Nat.beq a 30 then (.inl (.int, 24, .inl i)) else (.inr (99, []))))))) else (bif Nat.blt a 36 then (bif Nat.blt a 33 then (bif Nat.blt a 32 then (bif Nat.beq a 31 then (.inl (.long, 24, .inr (.inl j))) else (.inr (99, []))) else (bif Nat.beq a 32 then (.inr (13, [.ref 33, .int (i 1), .int (i 2)])) else (.inr (99, [])))) else (bif Nat.blt a 34 then (bif Nat.beq a 33 then (.inl (.int, 465, .inl i)) else (.inr (99, []))) else (bif Nat.blt a 35 then (bif Nat.beq a 34 then (.inr (13, [.ref 35, .int (i 1), .int (i 2)])) else (.inr (99, []))) else (bif Nat.beq a 35 then (.inl (.int, 465, .inl i)) else (.inr (99, [])))))) else (bif Nat.blt a 39 then (bif Nat.blt a 37 then (bif Nat.beq a 36 then (.inr (13, [.ref 37, .int (i 1), .int (i 2)])) else (.inr (99, []))) else (bif Nat.blt a 38 then (bif Nat.beq a 37 then (.inl (.int, 465, .inl i)) else (.inr (99, []))) else (bif Nat.beq a 38 then (.inl (.byte, 2400, .inl i)) else (.inr (99, []))))) else (bif Nat.blt a 40 then (bif Nat.beq a 39 then (.inl (.byte, 12000, .inl i)) else (.inr (99, []))) else (bif Nat.blt a 41 then (bif Nat.beq a 40 then (.inl (.byte, 6000, .inl i)) else (.inr (99, []))) else (bif Nat.beq a 41 then (.inl (.long, 1, .inr (.inl j))) else (.inr (99, []))))))))) else .inr (99, [])
def mkc (s : zS) (a : Nat) : mC := zcell a (s.1 a) (s.2.1 a)
def zSL : Nat := 52740
def mk (s : zS) : mH := ((42, s.2.2, zSL + 6 * s.2.2), mkc s)
theorem mkc_ge (s : zS) (a : Nat) (h : 42 ≤ a) : mkc s a = .inr (99, []) := by
  unfold mkc zcell
  have e : Nat.blt a 42 = false := by
    cases q : Nat.blt a 42 with
    | false => rfl
    | true => exact absurd (Nat.blt_eq.mp q) (by omega)
  rw [e]
  rfl
theorem beq_ne {a b : Nat} (h : a ≠ b) : Nat.beq a b = false := by
  cases q : Nat.beq a b with
  | false => rfl
  | true => exact absurd (Nat.eq_of_beq_eq_true q) h
theorem mup_mkc {s s' : zS} {a : Nat} {c : mC} (hc : mkc s' a = c) (h1 : ∀ j, j ≠ a → s'.1 j = s.1 j) (h2 : ∀ j, j ≠ a → s'.2.1 j = s.2.1 j) : mup (mkc s) a c = mkc s' := by
  funext j
  show (if j = a then c else mkc s j) = mkc s' j
  by_cases hj : j = a
  · rw [if_pos hj, hj, hc]
  · rw [if_neg hj]
    unfold mkc
    rw [h1 j hj, h2 j hj]
theorem mkI {s : zS} {a k : Nat} {v : Int32} {c : mC} (hc : mkc (setI s a k v) a = c) : mup (mkc s) a c = mkc (setI s a k v) := by
  refine mup_mkc hc (fun j hj => ?_) (fun j hj => rfl)
  funext k'
  show (bif Nat.beq j a && Nat.beq k' k then v else s.1 j k') = _
  rw [beq_ne hj]
  rfl
theorem mkJ {s : zS} {a k : Nat} {v : Int64} {c : mC} (hc : mkc (setJ s a k v) a = c) : mup (mkc s) a c = mkc (setJ s a k v) := by
  refine mup_mkc hc (fun j hj => rfl) (fun j hj => ?_)
  funext k'
  show (bif Nat.beq j a && Nat.beq k' k then v else s.2.1 j k') = _
  rw [beq_ne hj]
  rfl
theorem mkB {s : zS} {a i : Nat} {v : Int32} {c : mC} (hc : mkc (setB s a i v) a = c) : mup (mkc s) a c = mkc (setB s a i v) := by
  refine mup_mkc hc (fun j hj => ?_) (fun j hj => rfl)
  show (bif Nat.beq j a then upd (s.1 a) i v else s.1 j) = _
  rw [beq_ne hj]
  rfl
theorem mkK {s : zS} {a i : Nat} {v : Int64} {c : mC} (hc : mkc (setK s a i v) a = c) : mup (mkc s) a c = mkc (setK s a i v) := by
  refine mup_mkc hc (fun j hj => rfl) (fun j hj => ?_)
  show (bif Nat.beq j a then vp_updL (s.2.1 a) i v else s.2.1 j) = _
  rw [beq_ne hj]
  rfl
theorem mkA {s : zS} {a : Nat} {f : Nat → Int32} {c : mC} (hc : mkc (setA s a f) a = c) : mup (mkc s) a c = mkc (setA s a f) := by
  refine mup_mkc hc (fun j hj => ?_) (fun j hj => rfl)
  show (bif Nat.beq j a then f else s.1 j) = _
  rw [beq_ne hj]
  rfl
theorem zi_of_toInt {x : Int32} {k : Int} (h : x.toInt = k) : x = zi k := by
  rw [← h]
  exact (Int32.ofInt_toInt x).symm
theorem putf_eq {X : mX} {M : mM} {j ci k pc : Nat} {z : Int} {ls : mL} {st : List Value} {h : mH} {r : Option mA} (hl : mlk M.2.1 j = (0, ci, k, z)) (hp : mputf (M.2.2.2.2.1.name == "<init>") M.2.1 ci k pc ls st h = r) : mact X M (.putfield j) pc ls st h = r := by
  have e : mact X M (.putfield j) pc ls st h = (match mlk M.2.1 j with
    | (0, ci, k, _) => mputf (M.2.2.2.2.1.name == "<init>") M.2.1 ci k pc ls st h
    | _ => none) := rfl
  rw [e, hl]
  exact hp
theorem put_0_7 {X : mX} {M : mM} {j : Nat} {z : Int} {pc : Nat} {ls : mL} {st : List Value} {s : zS} {v : Int32} (hb : mBit v) (hl : mlk M.2.1 j = (0, 0, 7, z)) : mact X M (.putfield j) pc ls (.int v :: .ref 0 :: st) (mk s) = some (.inl (pc + 3, ls, st, mk (setI s 0 7 v))) := by
  refine putf_eq hl ?_
  generalize (M.2.2.2.2.1.name == "<init>") = ini
  generalize M.2.1 = o
  have e : mputf ini o 0 7 pc ls (.int v :: .ref 0 :: st) (mk s) = if (0 : Nat) = 0 ∧ 7 < 10 ∧ mfit (mTyT 0 7) (.int v) = true ∧ ((mTT 0 7).2.2.2 = false ∨ (ini = true ∧ o = 0)) then some (.inl (pc + 3, ls, st, ((mk s).1, mup (mkc s) 0 _))) else none := rfl
  rw [e, if_pos ⟨rfl, by decide, decide_eq_true hb, Or.inl rfl⟩]
  exact congrArg (fun q => some (Sum.inl (pc + 3, ls, st, ((mk s).1, q)))) (mkI rfl)
theorem put_0_8 {X : mX} {M : mM} {j : Nat} {z : Int} {pc : Nat} {ls : mL} {st : List Value} {s : zS} {v : Int32} (hl : mlk M.2.1 j = (0, 0, 8, z)) : mact X M (.putfield j) pc ls (.int v :: .ref 0 :: st) (mk s) = some (.inl (pc + 3, ls, st, mk (setI s 0 8 v))) := by
  refine putf_eq hl ?_
  generalize (M.2.2.2.2.1.name == "<init>") = ini
  generalize M.2.1 = o
  have e : mputf ini o 0 8 pc ls (.int v :: .ref 0 :: st) (mk s) = if (0 : Nat) = 0 ∧ 8 < 10 ∧ mfit (mTyT 0 8) (.int v) = true ∧ ((mTT 0 8).2.2.2 = false ∨ (ini = true ∧ o = 0)) then some (.inl (pc + 3, ls, st, ((mk s).1, mup (mkc s) 0 _))) else none := rfl
  rw [e, if_pos ⟨rfl, by decide, rfl, Or.inl rfl⟩]
  exact congrArg (fun q => some (Sum.inl (pc + 3, ls, st, ((mk s).1, q)))) (mkI rfl)
theorem put_0_9 {X : mX} {M : mM} {j : Nat} {z : Int} {pc : Nat} {ls : mL} {st : List Value} {s : zS} {v : Int32} (hl : mlk M.2.1 j = (0, 0, 9, z)) : mact X M (.putfield j) pc ls (.int v :: .ref 0 :: st) (mk s) = some (.inl (pc + 3, ls, st, mk (setI s 0 9 v))) := by
  refine putf_eq hl ?_
  generalize (M.2.2.2.2.1.name == "<init>") = ini
  generalize M.2.1 = o
  have e : mputf ini o 0 9 pc ls (.int v :: .ref 0 :: st) (mk s) = if (0 : Nat) = 0 ∧ 9 < 10 ∧ mfit (mTyT 0 9) (.int v) = true ∧ ((mTT 0 9).2.2.2 = false ∨ (ini = true ∧ o = 0)) then some (.inl (pc + 3, ls, st, ((mk s).1, mup (mkc s) 0 _))) else none := rfl
  rw [e, if_pos ⟨rfl, by decide, rfl, Or.inl rfl⟩]
  exact congrArg (fun q => some (Sum.inl (pc + 3, ls, st, ((mk s).1, q)))) (mkI rfl)
theorem put_1_1 {X : mX} {M : mM} {j : Nat} {z : Int} {pc : Nat} {ls : mL} {st : List Value} {s : zS} {v : Int32} {aa : Nat} (ha : zLine aa) (hl : mlk M.2.1 j = (0, 1, 1, z)) : mact X M (.putfield j) pc ls (.int v :: .ref aa :: st) (mk s) = some (.inl (pc + 3, ls, st, mk (setI s aa 1 v))) := by
  refine putf_eq hl ?_
  generalize (M.2.2.2.2.1.name == "<init>") = ini
  generalize M.2.1 = o
  rcases ha with rfl | rfl | rfl
  · have e : mputf ini o 1 1 pc ls (.int v :: .ref 1 :: st) (mk s) = if (1 : Nat) = 1 ∧ 1 < 2 ∧ mfit (mTyT 1 1) (.int v) = true ∧ ((mTT 1 1).2.2.2 = false ∨ (ini = true ∧ o = 1)) then some (.inl (pc + 3, ls, st, ((mk s).1, mup (mkc s) 1 _))) else none := rfl
    rw [e, if_pos ⟨rfl, by decide, rfl, Or.inl rfl⟩]
    exact congrArg (fun q => some (Sum.inl (pc + 3, ls, st, ((mk s).1, q)))) (mkI rfl)
  · have e : mputf ini o 1 1 pc ls (.int v :: .ref 3 :: st) (mk s) = if (1 : Nat) = 1 ∧ 1 < 2 ∧ mfit (mTyT 1 1) (.int v) = true ∧ ((mTT 1 1).2.2.2 = false ∨ (ini = true ∧ o = 1)) then some (.inl (pc + 3, ls, st, ((mk s).1, mup (mkc s) 3 _))) else none := rfl
    rw [e, if_pos ⟨rfl, by decide, rfl, Or.inl rfl⟩]
    exact congrArg (fun q => some (Sum.inl (pc + 3, ls, st, ((mk s).1, q)))) (mkI rfl)
  · have e : mputf ini o 1 1 pc ls (.int v :: .ref 5 :: st) (mk s) = if (1 : Nat) = 1 ∧ 1 < 2 ∧ mfit (mTyT 1 1) (.int v) = true ∧ ((mTT 1 1).2.2.2 = false ∨ (ini = true ∧ o = 1)) then some (.inl (pc + 3, ls, st, ((mk s).1, mup (mkc s) 5 _))) else none := rfl
    rw [e, if_pos ⟨rfl, by decide, rfl, Or.inl rfl⟩]
    exact congrArg (fun q => some (Sum.inl (pc + 3, ls, st, ((mk s).1, q)))) (mkI rfl)
theorem put_2_3 {X : mX} {M : mM} {j : Nat} {z : Int} {pc : Nat} {ls : mL} {st : List Value} {s : zS} {v : Int32} (hl : mlk M.2.1 j = (0, 2, 3, z)) : mact X M (.putfield j) pc ls (.int v :: .ref 8 :: st) (mk s) = some (.inl (pc + 3, ls, st, mk (setI s 8 3 v))) := by
  refine putf_eq hl ?_
  generalize (M.2.2.2.2.1.name == "<init>") = ini
  generalize M.2.1 = o
  have e : mputf ini o 2 3 pc ls (.int v :: .ref 8 :: st) (mk s) = if (2 : Nat) = 2 ∧ 3 < 4 ∧ mfit (mTyT 2 3) (.int v) = true ∧ ((mTT 2 3).2.2.2 = false ∨ (ini = true ∧ o = 2)) then some (.inl (pc + 3, ls, st, ((mk s).1, mup (mkc s) 8 _))) else none := rfl
  rw [e, if_pos ⟨rfl, by decide, rfl, Or.inl rfl⟩]
  exact congrArg (fun q => some (Sum.inl (pc + 3, ls, st, ((mk s).1, q)))) (mkI rfl)
theorem put_3_0 {X : mX} {M : mM} {j : Nat} {z : Int} {pc : Nat} {ls : mL} {st : List Value} {s : zS} {v : Int32} (hl : mlk M.2.1 j = (0, 3, 0, z)) : mact X M (.putfield j) pc ls (.int v :: .ref 7 :: st) (mk s) = some (.inl (pc + 3, ls, st, mk (setI s 7 0 v))) := by
  refine putf_eq hl ?_
  generalize (M.2.2.2.2.1.name == "<init>") = ini
  generalize M.2.1 = o
  have e : mputf ini o 3 0 pc ls (.int v :: .ref 7 :: st) (mk s) = if (3 : Nat) = 3 ∧ 0 < 9 ∧ mfit (mTyT 3 0) (.int v) = true ∧ ((mTT 3 0).2.2.2 = false ∨ (ini = true ∧ o = 3)) then some (.inl (pc + 3, ls, st, ((mk s).1, mup (mkc s) 7 _))) else none := rfl
  rw [e, if_pos ⟨rfl, by decide, rfl, Or.inl rfl⟩]
  exact congrArg (fun q => some (Sum.inl (pc + 3, ls, st, ((mk s).1, q)))) (mkI rfl)
theorem put_3_1 {X : mX} {M : mM} {j : Nat} {z : Int} {pc : Nat} {ls : mL} {st : List Value} {s : zS} {v : Int32} (hl : mlk M.2.1 j = (0, 3, 1, z)) : mact X M (.putfield j) pc ls (.int v :: .ref 7 :: st) (mk s) = some (.inl (pc + 3, ls, st, mk (setI s 7 1 v))) := by
  refine putf_eq hl ?_
  generalize (M.2.2.2.2.1.name == "<init>") = ini
  generalize M.2.1 = o
  have e : mputf ini o 3 1 pc ls (.int v :: .ref 7 :: st) (mk s) = if (3 : Nat) = 3 ∧ 1 < 9 ∧ mfit (mTyT 3 1) (.int v) = true ∧ ((mTT 3 1).2.2.2 = false ∨ (ini = true ∧ o = 3)) then some (.inl (pc + 3, ls, st, ((mk s).1, mup (mkc s) 7 _))) else none := rfl
  rw [e, if_pos ⟨rfl, by decide, rfl, Or.inl rfl⟩]
  exact congrArg (fun q => some (Sum.inl (pc + 3, ls, st, ((mk s).1, q)))) (mkI rfl)
theorem put_3_2 {X : mX} {M : mM} {j : Nat} {z : Int} {pc : Nat} {ls : mL} {st : List Value} {s : zS} {v : Int32} (hl : mlk M.2.1 j = (0, 3, 2, z)) : mact X M (.putfield j) pc ls (.int v :: .ref 7 :: st) (mk s) = some (.inl (pc + 3, ls, st, mk (setI s 7 2 v))) := by
  refine putf_eq hl ?_
  generalize (M.2.2.2.2.1.name == "<init>") = ini
  generalize M.2.1 = o
  have e : mputf ini o 3 2 pc ls (.int v :: .ref 7 :: st) (mk s) = if (3 : Nat) = 3 ∧ 2 < 9 ∧ mfit (mTyT 3 2) (.int v) = true ∧ ((mTT 3 2).2.2.2 = false ∨ (ini = true ∧ o = 3)) then some (.inl (pc + 3, ls, st, ((mk s).1, mup (mkc s) 7 _))) else none := rfl
  rw [e, if_pos ⟨rfl, by decide, rfl, Or.inl rfl⟩]
  exact congrArg (fun q => some (Sum.inl (pc + 3, ls, st, ((mk s).1, q)))) (mkI rfl)
theorem put_3_3 {X : mX} {M : mM} {j : Nat} {z : Int} {pc : Nat} {ls : mL} {st : List Value} {s : zS} {v : Int32} (hb : mBit v) (hl : mlk M.2.1 j = (0, 3, 3, z)) : mact X M (.putfield j) pc ls (.int v :: .ref 7 :: st) (mk s) = some (.inl (pc + 3, ls, st, mk (setI s 7 3 v))) := by
  refine putf_eq hl ?_
  generalize (M.2.2.2.2.1.name == "<init>") = ini
  generalize M.2.1 = o
  have e : mputf ini o 3 3 pc ls (.int v :: .ref 7 :: st) (mk s) = if (3 : Nat) = 3 ∧ 3 < 9 ∧ mfit (mTyT 3 3) (.int v) = true ∧ ((mTT 3 3).2.2.2 = false ∨ (ini = true ∧ o = 3)) then some (.inl (pc + 3, ls, st, ((mk s).1, mup (mkc s) 7 _))) else none := rfl
  rw [e, if_pos ⟨rfl, by decide, decide_eq_true hb, Or.inl rfl⟩]
  exact congrArg (fun q => some (Sum.inl (pc + 3, ls, st, ((mk s).1, q)))) (mkI rfl)
theorem put_3_4 {X : mX} {M : mM} {j : Nat} {z : Int} {pc : Nat} {ls : mL} {st : List Value} {s : zS} {v : Int32} (hl : mlk M.2.1 j = (0, 3, 4, z)) : mact X M (.putfield j) pc ls (.int v :: .ref 7 :: st) (mk s) = some (.inl (pc + 3, ls, st, mk (setI s 7 4 v))) := by
  refine putf_eq hl ?_
  generalize (M.2.2.2.2.1.name == "<init>") = ini
  generalize M.2.1 = o
  have e : mputf ini o 3 4 pc ls (.int v :: .ref 7 :: st) (mk s) = if (3 : Nat) = 3 ∧ 4 < 9 ∧ mfit (mTyT 3 4) (.int v) = true ∧ ((mTT 3 4).2.2.2 = false ∨ (ini = true ∧ o = 3)) then some (.inl (pc + 3, ls, st, ((mk s).1, mup (mkc s) 7 _))) else none := rfl
  rw [e, if_pos ⟨rfl, by decide, rfl, Or.inl rfl⟩]
  exact congrArg (fun q => some (Sum.inl (pc + 3, ls, st, ((mk s).1, q)))) (mkI rfl)
theorem put_3_5 {X : mX} {M : mM} {j : Nat} {z : Int} {pc : Nat} {ls : mL} {st : List Value} {s : zS} {v : Int32} (hl : mlk M.2.1 j = (0, 3, 5, z)) : mact X M (.putfield j) pc ls (.int v :: .ref 7 :: st) (mk s) = some (.inl (pc + 3, ls, st, mk (setI s 7 5 v))) := by
  refine putf_eq hl ?_
  generalize (M.2.2.2.2.1.name == "<init>") = ini
  generalize M.2.1 = o
  have e : mputf ini o 3 5 pc ls (.int v :: .ref 7 :: st) (mk s) = if (3 : Nat) = 3 ∧ 5 < 9 ∧ mfit (mTyT 3 5) (.int v) = true ∧ ((mTT 3 5).2.2.2 = false ∨ (ini = true ∧ o = 3)) then some (.inl (pc + 3, ls, st, ((mk s).1, mup (mkc s) 7 _))) else none := rfl
  rw [e, if_pos ⟨rfl, by decide, rfl, Or.inl rfl⟩]
  exact congrArg (fun q => some (Sum.inl (pc + 3, ls, st, ((mk s).1, q)))) (mkI rfl)
theorem put_3_6 {X : mX} {M : mM} {j : Nat} {z : Int} {pc : Nat} {ls : mL} {st : List Value} {s : zS} {v : Int32} (hl : mlk M.2.1 j = (0, 3, 6, z)) : mact X M (.putfield j) pc ls (.int v :: .ref 7 :: st) (mk s) = some (.inl (pc + 3, ls, st, mk (setI s 7 6 v))) := by
  refine putf_eq hl ?_
  generalize (M.2.2.2.2.1.name == "<init>") = ini
  generalize M.2.1 = o
  have e : mputf ini o 3 6 pc ls (.int v :: .ref 7 :: st) (mk s) = if (3 : Nat) = 3 ∧ 6 < 9 ∧ mfit (mTyT 3 6) (.int v) = true ∧ ((mTT 3 6).2.2.2 = false ∨ (ini = true ∧ o = 3)) then some (.inl (pc + 3, ls, st, ((mk s).1, mup (mkc s) 7 _))) else none := rfl
  rw [e, if_pos ⟨rfl, by decide, rfl, Or.inl rfl⟩]
  exact congrArg (fun q => some (Sum.inl (pc + 3, ls, st, ((mk s).1, q)))) (mkI rfl)
theorem put_3_7 {X : mX} {M : mM} {j : Nat} {z : Int} {pc : Nat} {ls : mL} {st : List Value} {s : zS} {v : Int32} (hl : mlk M.2.1 j = (0, 3, 7, z)) : mact X M (.putfield j) pc ls (.int v :: .ref 7 :: st) (mk s) = some (.inl (pc + 3, ls, st, mk (setI s 7 7 v))) := by
  refine putf_eq hl ?_
  generalize (M.2.2.2.2.1.name == "<init>") = ini
  generalize M.2.1 = o
  have e : mputf ini o 3 7 pc ls (.int v :: .ref 7 :: st) (mk s) = if (3 : Nat) = 3 ∧ 7 < 9 ∧ mfit (mTyT 3 7) (.int v) = true ∧ ((mTT 3 7).2.2.2 = false ∨ (ini = true ∧ o = 3)) then some (.inl (pc + 3, ls, st, ((mk s).1, mup (mkc s) 7 _))) else none := rfl
  rw [e, if_pos ⟨rfl, by decide, rfl, Or.inl rfl⟩]
  exact congrArg (fun q => some (Sum.inl (pc + 3, ls, st, ((mk s).1, q)))) (mkI rfl)
theorem put_3_8 {X : mX} {M : mM} {j : Nat} {z : Int} {pc : Nat} {ls : mL} {st : List Value} {s : zS} {v : Int32} (hb : mBit v) (hl : mlk M.2.1 j = (0, 3, 8, z)) : mact X M (.putfield j) pc ls (.int v :: .ref 7 :: st) (mk s) = some (.inl (pc + 3, ls, st, mk (setI s 7 8 v))) := by
  refine putf_eq hl ?_
  generalize (M.2.2.2.2.1.name == "<init>") = ini
  generalize M.2.1 = o
  have e : mputf ini o 3 8 pc ls (.int v :: .ref 7 :: st) (mk s) = if (3 : Nat) = 3 ∧ 8 < 9 ∧ mfit (mTyT 3 8) (.int v) = true ∧ ((mTT 3 8).2.2.2 = false ∨ (ini = true ∧ o = 3)) then some (.inl (pc + 3, ls, st, ((mk s).1, mup (mkc s) 7 _))) else none := rfl
  rw [e, if_pos ⟨rfl, by decide, decide_eq_true hb, Or.inl rfl⟩]
  exact congrArg (fun q => some (Sum.inl (pc + 3, ls, st, ((mk s).1, q)))) (mkI rfl)
theorem put_4_6 {X : mX} {M : mM} {j : Nat} {z : Int} {pc : Nat} {ls : mL} {st : List Value} {s : zS} {v : Int32} (hl : mlk M.2.1 j = (0, 4, 6, z)) : mact X M (.putfield j) pc ls (.int v :: .ref 12 :: st) (mk s) = some (.inl (pc + 3, ls, st, mk (setI s 12 6 v))) := by
  refine putf_eq hl ?_
  generalize (M.2.2.2.2.1.name == "<init>") = ini
  generalize M.2.1 = o
  have e : mputf ini o 4 6 pc ls (.int v :: .ref 12 :: st) (mk s) = if (4 : Nat) = 4 ∧ 6 < 10 ∧ mfit (mTyT 4 6) (.int v) = true ∧ ((mTT 4 6).2.2.2 = false ∨ (ini = true ∧ o = 4)) then some (.inl (pc + 3, ls, st, ((mk s).1, mup (mkc s) 12 _))) else none := rfl
  rw [e, if_pos ⟨rfl, by decide, rfl, Or.inl rfl⟩]
  exact congrArg (fun q => some (Sum.inl (pc + 3, ls, st, ((mk s).1, q)))) (mkI rfl)
theorem put_4_7 {X : mX} {M : mM} {j : Nat} {z : Int} {pc : Nat} {ls : mL} {st : List Value} {s : zS} {v : Int32} (hl : mlk M.2.1 j = (0, 4, 7, z)) : mact X M (.putfield j) pc ls (.int v :: .ref 12 :: st) (mk s) = some (.inl (pc + 3, ls, st, mk (setI s 12 7 v))) := by
  refine putf_eq hl ?_
  generalize (M.2.2.2.2.1.name == "<init>") = ini
  generalize M.2.1 = o
  have e : mputf ini o 4 7 pc ls (.int v :: .ref 12 :: st) (mk s) = if (4 : Nat) = 4 ∧ 7 < 10 ∧ mfit (mTyT 4 7) (.int v) = true ∧ ((mTT 4 7).2.2.2 = false ∨ (ini = true ∧ o = 4)) then some (.inl (pc + 3, ls, st, ((mk s).1, mup (mkc s) 12 _))) else none := rfl
  rw [e, if_pos ⟨rfl, by decide, rfl, Or.inl rfl⟩]
  exact congrArg (fun q => some (Sum.inl (pc + 3, ls, st, ((mk s).1, q)))) (mkI rfl)
theorem put_4_8 {X : mX} {M : mM} {j : Nat} {z : Int} {pc : Nat} {ls : mL} {st : List Value} {s : zS} {v : Int32} (hl : mlk M.2.1 j = (0, 4, 8, z)) : mact X M (.putfield j) pc ls (.int v :: .ref 12 :: st) (mk s) = some (.inl (pc + 3, ls, st, mk (setI s 12 8 v))) := by
  refine putf_eq hl ?_
  generalize (M.2.2.2.2.1.name == "<init>") = ini
  generalize M.2.1 = o
  have e : mputf ini o 4 8 pc ls (.int v :: .ref 12 :: st) (mk s) = if (4 : Nat) = 4 ∧ 8 < 10 ∧ mfit (mTyT 4 8) (.int v) = true ∧ ((mTT 4 8).2.2.2 = false ∨ (ini = true ∧ o = 4)) then some (.inl (pc + 3, ls, st, ((mk s).1, mup (mkc s) 12 _))) else none := rfl
  rw [e, if_pos ⟨rfl, by decide, rfl, Or.inl rfl⟩]
  exact congrArg (fun q => some (Sum.inl (pc + 3, ls, st, ((mk s).1, q)))) (mkI rfl)
theorem put_4_9 {X : mX} {M : mM} {j : Nat} {z : Int} {pc : Nat} {ls : mL} {st : List Value} {s : zS} {v : Int64} (hl : mlk M.2.1 j = (0, 4, 9, z)) : mact X M (.putfield j) pc ls (.long v :: .ref 12 :: st) (mk s) = some (.inl (pc + 3, ls, st, mk (setJ s 12 9 v))) := by
  refine putf_eq hl ?_
  generalize (M.2.2.2.2.1.name == "<init>") = ini
  generalize M.2.1 = o
  have e : mputf ini o 4 9 pc ls (.long v :: .ref 12 :: st) (mk s) = if (4 : Nat) = 4 ∧ 9 < 10 ∧ mfit (mTyT 4 9) (.long v) = true ∧ ((mTT 4 9).2.2.2 = false ∨ (ini = true ∧ o = 4)) then some (.inl (pc + 3, ls, st, ((mk s).1, mup (mkc s) 12 _))) else none := rfl
  rw [e, if_pos ⟨rfl, by decide, rfl, Or.inl rfl⟩]
  exact congrArg (fun q => some (Sum.inl (pc + 3, ls, st, ((mk s).1, q)))) (mkJ rfl)
theorem put_5_1 {X : mX} {M : mM} {j : Nat} {z : Int} {pc : Nat} {ls : mL} {st : List Value} {s : zS} {v : Int32} (hl : mlk M.2.1 j = (0, 5, 1, z)) : mact X M (.putfield j) pc ls (.int v :: .ref 13 :: st) (mk s) = some (.inl (pc + 3, ls, st, mk (setI s 13 1 v))) := by
  refine putf_eq hl ?_
  generalize (M.2.2.2.2.1.name == "<init>") = ini
  generalize M.2.1 = o
  have e : mputf ini o 5 1 pc ls (.int v :: .ref 13 :: st) (mk s) = if (5 : Nat) = 5 ∧ 1 < 4 ∧ mfit (mTyT 5 1) (.int v) = true ∧ ((mTT 5 1).2.2.2 = false ∨ (ini = true ∧ o = 5)) then some (.inl (pc + 3, ls, st, ((mk s).1, mup (mkc s) 13 _))) else none := rfl
  rw [e, if_pos ⟨rfl, by decide, rfl, Or.inl rfl⟩]
  exact congrArg (fun q => some (Sum.inl (pc + 3, ls, st, ((mk s).1, q)))) (mkI rfl)
theorem put_5_2 {X : mX} {M : mM} {j : Nat} {z : Int} {pc : Nat} {ls : mL} {st : List Value} {s : zS} {v : Int32} (hl : mlk M.2.1 j = (0, 5, 2, z)) : mact X M (.putfield j) pc ls (.int v :: .ref 13 :: st) (mk s) = some (.inl (pc + 3, ls, st, mk (setI s 13 2 v))) := by
  refine putf_eq hl ?_
  generalize (M.2.2.2.2.1.name == "<init>") = ini
  generalize M.2.1 = o
  have e : mputf ini o 5 2 pc ls (.int v :: .ref 13 :: st) (mk s) = if (5 : Nat) = 5 ∧ 2 < 4 ∧ mfit (mTyT 5 2) (.int v) = true ∧ ((mTT 5 2).2.2.2 = false ∨ (ini = true ∧ o = 5)) then some (.inl (pc + 3, ls, st, ((mk s).1, mup (mkc s) 13 _))) else none := rfl
  rw [e, if_pos ⟨rfl, by decide, rfl, Or.inl rfl⟩]
  exact congrArg (fun q => some (Sum.inl (pc + 3, ls, st, ((mk s).1, q)))) (mkI rfl)
theorem put_5_3 {X : mX} {M : mM} {j : Nat} {z : Int} {pc : Nat} {ls : mL} {st : List Value} {s : zS} {v : Int32} (hl : mlk M.2.1 j = (0, 5, 3, z)) : mact X M (.putfield j) pc ls (.int v :: .ref 13 :: st) (mk s) = some (.inl (pc + 3, ls, st, mk (setI s 13 3 v))) := by
  refine putf_eq hl ?_
  generalize (M.2.2.2.2.1.name == "<init>") = ini
  generalize M.2.1 = o
  have e : mputf ini o 5 3 pc ls (.int v :: .ref 13 :: st) (mk s) = if (5 : Nat) = 5 ∧ 3 < 4 ∧ mfit (mTyT 5 3) (.int v) = true ∧ ((mTT 5 3).2.2.2 = false ∨ (ini = true ∧ o = 5)) then some (.inl (pc + 3, ls, st, ((mk s).1, mup (mkc s) 13 _))) else none := rfl
  rw [e, if_pos ⟨rfl, by decide, rfl, Or.inl rfl⟩]
  exact congrArg (fun q => some (Sum.inl (pc + 3, ls, st, ((mk s).1, q)))) (mkI rfl)
theorem put_6_0 {X : mX} {M : mM} {j : Nat} {z : Int} {pc : Nat} {ls : mL} {st : List Value} {s : zS} {v : Int64} (hl : mlk M.2.1 j = (0, 6, 0, z)) : mact X M (.putfield j) pc ls (.long v :: .ref 20 :: st) (mk s) = some (.inl (pc + 3, ls, st, mk (setJ s 20 0 v))) := by
  refine putf_eq hl ?_
  generalize (M.2.2.2.2.1.name == "<init>") = ini
  generalize M.2.1 = o
  have e : mputf ini o 6 0 pc ls (.long v :: .ref 20 :: st) (mk s) = if (6 : Nat) = 6 ∧ 0 < 7 ∧ mfit (mTyT 6 0) (.long v) = true ∧ ((mTT 6 0).2.2.2 = false ∨ (ini = true ∧ o = 6)) then some (.inl (pc + 3, ls, st, ((mk s).1, mup (mkc s) 20 _))) else none := rfl
  rw [e, if_pos ⟨rfl, by decide, rfl, Or.inl rfl⟩]
  exact congrArg (fun q => some (Sum.inl (pc + 3, ls, st, ((mk s).1, q)))) (mkJ rfl)
theorem put_6_1 {X : mX} {M : mM} {j : Nat} {z : Int} {pc : Nat} {ls : mL} {st : List Value} {s : zS} {v : Int32} (hl : mlk M.2.1 j = (0, 6, 1, z)) : mact X M (.putfield j) pc ls (.int v :: .ref 20 :: st) (mk s) = some (.inl (pc + 3, ls, st, mk (setI s 20 1 v))) := by
  refine putf_eq hl ?_
  generalize (M.2.2.2.2.1.name == "<init>") = ini
  generalize M.2.1 = o
  have e : mputf ini o 6 1 pc ls (.int v :: .ref 20 :: st) (mk s) = if (6 : Nat) = 6 ∧ 1 < 7 ∧ mfit (mTyT 6 1) (.int v) = true ∧ ((mTT 6 1).2.2.2 = false ∨ (ini = true ∧ o = 6)) then some (.inl (pc + 3, ls, st, ((mk s).1, mup (mkc s) 20 _))) else none := rfl
  rw [e, if_pos ⟨rfl, by decide, rfl, Or.inl rfl⟩]
  exact congrArg (fun q => some (Sum.inl (pc + 3, ls, st, ((mk s).1, q)))) (mkI rfl)
theorem put_6_2 {X : mX} {M : mM} {j : Nat} {z : Int} {pc : Nat} {ls : mL} {st : List Value} {s : zS} {v : Int64} (hl : mlk M.2.1 j = (0, 6, 2, z)) : mact X M (.putfield j) pc ls (.long v :: .ref 20 :: st) (mk s) = some (.inl (pc + 3, ls, st, mk (setJ s 20 2 v))) := by
  refine putf_eq hl ?_
  generalize (M.2.2.2.2.1.name == "<init>") = ini
  generalize M.2.1 = o
  have e : mputf ini o 6 2 pc ls (.long v :: .ref 20 :: st) (mk s) = if (6 : Nat) = 6 ∧ 2 < 7 ∧ mfit (mTyT 6 2) (.long v) = true ∧ ((mTT 6 2).2.2.2 = false ∨ (ini = true ∧ o = 6)) then some (.inl (pc + 3, ls, st, ((mk s).1, mup (mkc s) 20 _))) else none := rfl
  rw [e, if_pos ⟨rfl, by decide, rfl, Or.inl rfl⟩]
  exact congrArg (fun q => some (Sum.inl (pc + 3, ls, st, ((mk s).1, q)))) (mkJ rfl)
theorem put_6_3 {X : mX} {M : mM} {j : Nat} {z : Int} {pc : Nat} {ls : mL} {st : List Value} {s : zS} {v : Int32} (hl : mlk M.2.1 j = (0, 6, 3, z)) : mact X M (.putfield j) pc ls (.int v :: .ref 20 :: st) (mk s) = some (.inl (pc + 3, ls, st, mk (setI s 20 3 v))) := by
  refine putf_eq hl ?_
  generalize (M.2.2.2.2.1.name == "<init>") = ini
  generalize M.2.1 = o
  have e : mputf ini o 6 3 pc ls (.int v :: .ref 20 :: st) (mk s) = if (6 : Nat) = 6 ∧ 3 < 7 ∧ mfit (mTyT 6 3) (.int v) = true ∧ ((mTT 6 3).2.2.2 = false ∨ (ini = true ∧ o = 6)) then some (.inl (pc + 3, ls, st, ((mk s).1, mup (mkc s) 20 _))) else none := rfl
  rw [e, if_pos ⟨rfl, by decide, rfl, Or.inl rfl⟩]
  exact congrArg (fun q => some (Sum.inl (pc + 3, ls, st, ((mk s).1, q)))) (mkI rfl)
theorem put_6_4 {X : mX} {M : mM} {j : Nat} {z : Int} {pc : Nat} {ls : mL} {st : List Value} {s : zS} {v : Int32} (hl : mlk M.2.1 j = (0, 6, 4, z)) : mact X M (.putfield j) pc ls (.int v :: .ref 20 :: st) (mk s) = some (.inl (pc + 3, ls, st, mk (setI s 20 4 v))) := by
  refine putf_eq hl ?_
  generalize (M.2.2.2.2.1.name == "<init>") = ini
  generalize M.2.1 = o
  have e : mputf ini o 6 4 pc ls (.int v :: .ref 20 :: st) (mk s) = if (6 : Nat) = 6 ∧ 4 < 7 ∧ mfit (mTyT 6 4) (.int v) = true ∧ ((mTT 6 4).2.2.2 = false ∨ (ini = true ∧ o = 6)) then some (.inl (pc + 3, ls, st, ((mk s).1, mup (mkc s) 20 _))) else none := rfl
  rw [e, if_pos ⟨rfl, by decide, rfl, Or.inl rfl⟩]
  exact congrArg (fun q => some (Sum.inl (pc + 3, ls, st, ((mk s).1, q)))) (mkI rfl)
theorem put_6_5 {X : mX} {M : mM} {j : Nat} {z : Int} {pc : Nat} {ls : mL} {st : List Value} {s : zS} {v : Int32} (hl : mlk M.2.1 j = (0, 6, 5, z)) : mact X M (.putfield j) pc ls (.int v :: .ref 20 :: st) (mk s) = some (.inl (pc + 3, ls, st, mk (setI s 20 5 v))) := by
  refine putf_eq hl ?_
  generalize (M.2.2.2.2.1.name == "<init>") = ini
  generalize M.2.1 = o
  have e : mputf ini o 6 5 pc ls (.int v :: .ref 20 :: st) (mk s) = if (6 : Nat) = 6 ∧ 5 < 7 ∧ mfit (mTyT 6 5) (.int v) = true ∧ ((mTT 6 5).2.2.2 = false ∨ (ini = true ∧ o = 6)) then some (.inl (pc + 3, ls, st, ((mk s).1, mup (mkc s) 20 _))) else none := rfl
  rw [e, if_pos ⟨rfl, by decide, rfl, Or.inl rfl⟩]
  exact congrArg (fun q => some (Sum.inl (pc + 3, ls, st, ((mk s).1, q)))) (mkI rfl)
theorem put_6_6 {X : mX} {M : mM} {j : Nat} {z : Int} {pc : Nat} {ls : mL} {st : List Value} {s : zS} {v : Int32} (hl : mlk M.2.1 j = (0, 6, 6, z)) : mact X M (.putfield j) pc ls (.int v :: .ref 20 :: st) (mk s) = some (.inl (pc + 3, ls, st, mk (setI s 20 6 v))) := by
  refine putf_eq hl ?_
  generalize (M.2.2.2.2.1.name == "<init>") = ini
  generalize M.2.1 = o
  have e : mputf ini o 6 6 pc ls (.int v :: .ref 20 :: st) (mk s) = if (6 : Nat) = 6 ∧ 6 < 7 ∧ mfit (mTyT 6 6) (.int v) = true ∧ ((mTT 6 6).2.2.2 = false ∨ (ini = true ∧ o = 6)) then some (.inl (pc + 3, ls, st, ((mk s).1, mup (mkc s) 20 _))) else none := rfl
  rw [e, if_pos ⟨rfl, by decide, rfl, Or.inl rfl⟩]
  exact congrArg (fun q => some (Sum.inl (pc + 3, ls, st, ((mk s).1, q)))) (mkI rfl)
theorem put_7_2 {X : mX} {M : mM} {j : Nat} {z : Int} {pc : Nat} {ls : mL} {st : List Value} {s : zS} {v : Int32} (hb : mBit v) (hl : mlk M.2.1 j = (0, 7, 2, z)) : mact X M (.putfield j) pc ls (.int v :: .ref 15 :: st) (mk s) = some (.inl (pc + 3, ls, st, mk (setI s 15 2 v))) := by
  refine putf_eq hl ?_
  generalize (M.2.2.2.2.1.name == "<init>") = ini
  generalize M.2.1 = o
  have e : mputf ini o 7 2 pc ls (.int v :: .ref 15 :: st) (mk s) = if (7 : Nat) = 7 ∧ 2 < 8 ∧ mfit (mTyT 7 2) (.int v) = true ∧ ((mTT 7 2).2.2.2 = false ∨ (ini = true ∧ o = 7)) then some (.inl (pc + 3, ls, st, ((mk s).1, mup (mkc s) 15 _))) else none := rfl
  rw [e, if_pos ⟨rfl, by decide, decide_eq_true hb, Or.inl rfl⟩]
  exact congrArg (fun q => some (Sum.inl (pc + 3, ls, st, ((mk s).1, q)))) (mkI rfl)
theorem put_7_3 {X : mX} {M : mM} {j : Nat} {z : Int} {pc : Nat} {ls : mL} {st : List Value} {s : zS} {v : Int32} (hb : mBit v) (hl : mlk M.2.1 j = (0, 7, 3, z)) : mact X M (.putfield j) pc ls (.int v :: .ref 15 :: st) (mk s) = some (.inl (pc + 3, ls, st, mk (setI s 15 3 v))) := by
  refine putf_eq hl ?_
  generalize (M.2.2.2.2.1.name == "<init>") = ini
  generalize M.2.1 = o
  have e : mputf ini o 7 3 pc ls (.int v :: .ref 15 :: st) (mk s) = if (7 : Nat) = 7 ∧ 3 < 8 ∧ mfit (mTyT 7 3) (.int v) = true ∧ ((mTT 7 3).2.2.2 = false ∨ (ini = true ∧ o = 7)) then some (.inl (pc + 3, ls, st, ((mk s).1, mup (mkc s) 15 _))) else none := rfl
  rw [e, if_pos ⟨rfl, by decide, decide_eq_true hb, Or.inl rfl⟩]
  exact congrArg (fun q => some (Sum.inl (pc + 3, ls, st, ((mk s).1, q)))) (mkI rfl)
theorem put_7_4 {X : mX} {M : mM} {j : Nat} {z : Int} {pc : Nat} {ls : mL} {st : List Value} {s : zS} {v : Int32} (hb : mBit v) (hl : mlk M.2.1 j = (0, 7, 4, z)) : mact X M (.putfield j) pc ls (.int v :: .ref 15 :: st) (mk s) = some (.inl (pc + 3, ls, st, mk (setI s 15 4 v))) := by
  refine putf_eq hl ?_
  generalize (M.2.2.2.2.1.name == "<init>") = ini
  generalize M.2.1 = o
  have e : mputf ini o 7 4 pc ls (.int v :: .ref 15 :: st) (mk s) = if (7 : Nat) = 7 ∧ 4 < 8 ∧ mfit (mTyT 7 4) (.int v) = true ∧ ((mTT 7 4).2.2.2 = false ∨ (ini = true ∧ o = 7)) then some (.inl (pc + 3, ls, st, ((mk s).1, mup (mkc s) 15 _))) else none := rfl
  rw [e, if_pos ⟨rfl, by decide, decide_eq_true hb, Or.inl rfl⟩]
  exact congrArg (fun q => some (Sum.inl (pc + 3, ls, st, ((mk s).1, q)))) (mkI rfl)
theorem put_7_5 {X : mX} {M : mM} {j : Nat} {z : Int} {pc : Nat} {ls : mL} {st : List Value} {s : zS} {v : Int64} (hl : mlk M.2.1 j = (0, 7, 5, z)) : mact X M (.putfield j) pc ls (.long v :: .ref 15 :: st) (mk s) = some (.inl (pc + 3, ls, st, mk (setJ s 15 5 v))) := by
  refine putf_eq hl ?_
  generalize (M.2.2.2.2.1.name == "<init>") = ini
  generalize M.2.1 = o
  have e : mputf ini o 7 5 pc ls (.long v :: .ref 15 :: st) (mk s) = if (7 : Nat) = 7 ∧ 5 < 8 ∧ mfit (mTyT 7 5) (.long v) = true ∧ ((mTT 7 5).2.2.2 = false ∨ (ini = true ∧ o = 7)) then some (.inl (pc + 3, ls, st, ((mk s).1, mup (mkc s) 15 _))) else none := rfl
  rw [e, if_pos ⟨rfl, by decide, rfl, Or.inl rfl⟩]
  exact congrArg (fun q => some (Sum.inl (pc + 3, ls, st, ((mk s).1, q)))) (mkJ rfl)
theorem put_7_6 {X : mX} {M : mM} {j : Nat} {z : Int} {pc : Nat} {ls : mL} {st : List Value} {s : zS} {v : Int32} (hl : mlk M.2.1 j = (0, 7, 6, z)) : mact X M (.putfield j) pc ls (.int v :: .ref 15 :: st) (mk s) = some (.inl (pc + 3, ls, st, mk (setI s 15 6 v))) := by
  refine putf_eq hl ?_
  generalize (M.2.2.2.2.1.name == "<init>") = ini
  generalize M.2.1 = o
  have e : mputf ini o 7 6 pc ls (.int v :: .ref 15 :: st) (mk s) = if (7 : Nat) = 7 ∧ 6 < 8 ∧ mfit (mTyT 7 6) (.int v) = true ∧ ((mTT 7 6).2.2.2 = false ∨ (ini = true ∧ o = 7)) then some (.inl (pc + 3, ls, st, ((mk s).1, mup (mkc s) 15 _))) else none := rfl
  rw [e, if_pos ⟨rfl, by decide, rfl, Or.inl rfl⟩]
  exact congrArg (fun q => some (Sum.inl (pc + 3, ls, st, ((mk s).1, q)))) (mkI rfl)
theorem put_7_7 {X : mX} {M : mM} {j : Nat} {z : Int} {pc : Nat} {ls : mL} {st : List Value} {s : zS} {v : Int32} (hb : mBit v) (hl : mlk M.2.1 j = (0, 7, 7, z)) : mact X M (.putfield j) pc ls (.int v :: .ref 15 :: st) (mk s) = some (.inl (pc + 3, ls, st, mk (setI s 15 7 v))) := by
  refine putf_eq hl ?_
  generalize (M.2.2.2.2.1.name == "<init>") = ini
  generalize M.2.1 = o
  have e : mputf ini o 7 7 pc ls (.int v :: .ref 15 :: st) (mk s) = if (7 : Nat) = 7 ∧ 7 < 8 ∧ mfit (mTyT 7 7) (.int v) = true ∧ ((mTT 7 7).2.2.2 = false ∨ (ini = true ∧ o = 7)) then some (.inl (pc + 3, ls, st, ((mk s).1, mup (mkc s) 15 _))) else none := rfl
  rw [e, if_pos ⟨rfl, by decide, decide_eq_true hb, Or.inl rfl⟩]
  exact congrArg (fun q => some (Sum.inl (pc + 3, ls, st, ((mk s).1, q)))) (mkI rfl)
theorem put_8_1 {X : mX} {M : mM} {j : Nat} {z : Int} {pc : Nat} {ls : mL} {st : List Value} {s : zS} {v : Int32} (hl : mlk M.2.1 j = (0, 8, 1, z)) : mact X M (.putfield j) pc ls (.int v :: .ref 16 :: st) (mk s) = some (.inl (pc + 3, ls, st, mk (setI s 16 1 v))) := by
  refine putf_eq hl ?_
  generalize (M.2.2.2.2.1.name == "<init>") = ini
  generalize M.2.1 = o
  have e : mputf ini o 8 1 pc ls (.int v :: .ref 16 :: st) (mk s) = if (8 : Nat) = 8 ∧ 1 < 5 ∧ mfit (mTyT 8 1) (.int v) = true ∧ ((mTT 8 1).2.2.2 = false ∨ (ini = true ∧ o = 8)) then some (.inl (pc + 3, ls, st, ((mk s).1, mup (mkc s) 16 _))) else none := rfl
  rw [e, if_pos ⟨rfl, by decide, rfl, Or.inl rfl⟩]
  exact congrArg (fun q => some (Sum.inl (pc + 3, ls, st, ((mk s).1, q)))) (mkI rfl)
theorem put_8_3 {X : mX} {M : mM} {j : Nat} {z : Int} {pc : Nat} {ls : mL} {st : List Value} {s : zS} {v : Int32} (hl : mlk M.2.1 j = (0, 8, 3, z)) : mact X M (.putfield j) pc ls (.int v :: .ref 16 :: st) (mk s) = some (.inl (pc + 3, ls, st, mk (setI s 16 3 v))) := by
  refine putf_eq hl ?_
  generalize (M.2.2.2.2.1.name == "<init>") = ini
  generalize M.2.1 = o
  have e : mputf ini o 8 3 pc ls (.int v :: .ref 16 :: st) (mk s) = if (8 : Nat) = 8 ∧ 3 < 5 ∧ mfit (mTyT 8 3) (.int v) = true ∧ ((mTT 8 3).2.2.2 = false ∨ (ini = true ∧ o = 8)) then some (.inl (pc + 3, ls, st, ((mk s).1, mup (mkc s) 16 _))) else none := rfl
  rw [e, if_pos ⟨rfl, by decide, rfl, Or.inl rfl⟩]
  exact congrArg (fun q => some (Sum.inl (pc + 3, ls, st, ((mk s).1, q)))) (mkI rfl)
theorem put_8_4 {X : mX} {M : mM} {j : Nat} {z : Int} {pc : Nat} {ls : mL} {st : List Value} {s : zS} {v : Int32} (hl : mlk M.2.1 j = (0, 8, 4, z)) : mact X M (.putfield j) pc ls (.int v :: .ref 16 :: st) (mk s) = some (.inl (pc + 3, ls, st, mk (setI s 16 4 v))) := by
  refine putf_eq hl ?_
  generalize (M.2.2.2.2.1.name == "<init>") = ini
  generalize M.2.1 = o
  have e : mputf ini o 8 4 pc ls (.int v :: .ref 16 :: st) (mk s) = if (8 : Nat) = 8 ∧ 4 < 5 ∧ mfit (mTyT 8 4) (.int v) = true ∧ ((mTT 8 4).2.2.2 = false ∨ (ini = true ∧ o = 8)) then some (.inl (pc + 3, ls, st, ((mk s).1, mup (mkc s) 16 _))) else none := rfl
  rw [e, if_pos ⟨rfl, by decide, rfl, Or.inl rfl⟩]
  exact congrArg (fun q => some (Sum.inl (pc + 3, ls, st, ((mk s).1, q)))) (mkI rfl)
theorem put_9_0 {X : mX} {M : mM} {j : Nat} {z : Int} {pc : Nat} {ls : mL} {st : List Value} {s : zS} {v : Int64} (hl : mlk M.2.1 j = (0, 9, 0, z)) : mact X M (.putfield j) pc ls (.long v :: .ref 19 :: st) (mk s) = some (.inl (pc + 3, ls, st, mk (setJ s 19 0 v))) := by
  refine putf_eq hl ?_
  generalize (M.2.2.2.2.1.name == "<init>") = ini
  generalize M.2.1 = o
  have e : mputf ini o 9 0 pc ls (.long v :: .ref 19 :: st) (mk s) = if (9 : Nat) = 9 ∧ 0 < 8 ∧ mfit (mTyT 9 0) (.long v) = true ∧ ((mTT 9 0).2.2.2 = false ∨ (ini = true ∧ o = 9)) then some (.inl (pc + 3, ls, st, ((mk s).1, mup (mkc s) 19 _))) else none := rfl
  rw [e, if_pos ⟨rfl, by decide, rfl, Or.inl rfl⟩]
  exact congrArg (fun q => some (Sum.inl (pc + 3, ls, st, ((mk s).1, q)))) (mkJ rfl)
theorem put_9_1 {X : mX} {M : mM} {j : Nat} {z : Int} {pc : Nat} {ls : mL} {st : List Value} {s : zS} {v : Int32} (hb : mBit v) (hl : mlk M.2.1 j = (0, 9, 1, z)) : mact X M (.putfield j) pc ls (.int v :: .ref 19 :: st) (mk s) = some (.inl (pc + 3, ls, st, mk (setI s 19 1 v))) := by
  refine putf_eq hl ?_
  generalize (M.2.2.2.2.1.name == "<init>") = ini
  generalize M.2.1 = o
  have e : mputf ini o 9 1 pc ls (.int v :: .ref 19 :: st) (mk s) = if (9 : Nat) = 9 ∧ 1 < 8 ∧ mfit (mTyT 9 1) (.int v) = true ∧ ((mTT 9 1).2.2.2 = false ∨ (ini = true ∧ o = 9)) then some (.inl (pc + 3, ls, st, ((mk s).1, mup (mkc s) 19 _))) else none := rfl
  rw [e, if_pos ⟨rfl, by decide, decide_eq_true hb, Or.inl rfl⟩]
  exact congrArg (fun q => some (Sum.inl (pc + 3, ls, st, ((mk s).1, q)))) (mkI rfl)
theorem put_9_2 {X : mX} {M : mM} {j : Nat} {z : Int} {pc : Nat} {ls : mL} {st : List Value} {s : zS} {v : Int64} (hl : mlk M.2.1 j = (0, 9, 2, z)) : mact X M (.putfield j) pc ls (.long v :: .ref 19 :: st) (mk s) = some (.inl (pc + 3, ls, st, mk (setJ s 19 2 v))) := by
  refine putf_eq hl ?_
  generalize (M.2.2.2.2.1.name == "<init>") = ini
  generalize M.2.1 = o
  have e : mputf ini o 9 2 pc ls (.long v :: .ref 19 :: st) (mk s) = if (9 : Nat) = 9 ∧ 2 < 8 ∧ mfit (mTyT 9 2) (.long v) = true ∧ ((mTT 9 2).2.2.2 = false ∨ (ini = true ∧ o = 9)) then some (.inl (pc + 3, ls, st, ((mk s).1, mup (mkc s) 19 _))) else none := rfl
  rw [e, if_pos ⟨rfl, by decide, rfl, Or.inl rfl⟩]
  exact congrArg (fun q => some (Sum.inl (pc + 3, ls, st, ((mk s).1, q)))) (mkJ rfl)
theorem put_9_3 {X : mX} {M : mM} {j : Nat} {z : Int} {pc : Nat} {ls : mL} {st : List Value} {s : zS} {v : Int32} (hb : mBit v) (hl : mlk M.2.1 j = (0, 9, 3, z)) : mact X M (.putfield j) pc ls (.int v :: .ref 19 :: st) (mk s) = some (.inl (pc + 3, ls, st, mk (setI s 19 3 v))) := by
  refine putf_eq hl ?_
  generalize (M.2.2.2.2.1.name == "<init>") = ini
  generalize M.2.1 = o
  have e : mputf ini o 9 3 pc ls (.int v :: .ref 19 :: st) (mk s) = if (9 : Nat) = 9 ∧ 3 < 8 ∧ mfit (mTyT 9 3) (.int v) = true ∧ ((mTT 9 3).2.2.2 = false ∨ (ini = true ∧ o = 9)) then some (.inl (pc + 3, ls, st, ((mk s).1, mup (mkc s) 19 _))) else none := rfl
  rw [e, if_pos ⟨rfl, by decide, decide_eq_true hb, Or.inl rfl⟩]
  exact congrArg (fun q => some (Sum.inl (pc + 3, ls, st, ((mk s).1, q)))) (mkI rfl)
theorem put_9_4 {X : mX} {M : mM} {j : Nat} {z : Int} {pc : Nat} {ls : mL} {st : List Value} {s : zS} {v : Int64} (hl : mlk M.2.1 j = (0, 9, 4, z)) : mact X M (.putfield j) pc ls (.long v :: .ref 19 :: st) (mk s) = some (.inl (pc + 3, ls, st, mk (setJ s 19 4 v))) := by
  refine putf_eq hl ?_
  generalize (M.2.2.2.2.1.name == "<init>") = ini
  generalize M.2.1 = o
  have e : mputf ini o 9 4 pc ls (.long v :: .ref 19 :: st) (mk s) = if (9 : Nat) = 9 ∧ 4 < 8 ∧ mfit (mTyT 9 4) (.long v) = true ∧ ((mTT 9 4).2.2.2 = false ∨ (ini = true ∧ o = 9)) then some (.inl (pc + 3, ls, st, ((mk s).1, mup (mkc s) 19 _))) else none := rfl
  rw [e, if_pos ⟨rfl, by decide, rfl, Or.inl rfl⟩]
  exact congrArg (fun q => some (Sum.inl (pc + 3, ls, st, ((mk s).1, q)))) (mkJ rfl)
theorem put_9_5 {X : mX} {M : mM} {j : Nat} {z : Int} {pc : Nat} {ls : mL} {st : List Value} {s : zS} {v : Int32} (hb : mBit v) (hl : mlk M.2.1 j = (0, 9, 5, z)) : mact X M (.putfield j) pc ls (.int v :: .ref 19 :: st) (mk s) = some (.inl (pc + 3, ls, st, mk (setI s 19 5 v))) := by
  refine putf_eq hl ?_
  generalize (M.2.2.2.2.1.name == "<init>") = ini
  generalize M.2.1 = o
  have e : mputf ini o 9 5 pc ls (.int v :: .ref 19 :: st) (mk s) = if (9 : Nat) = 9 ∧ 5 < 8 ∧ mfit (mTyT 9 5) (.int v) = true ∧ ((mTT 9 5).2.2.2 = false ∨ (ini = true ∧ o = 9)) then some (.inl (pc + 3, ls, st, ((mk s).1, mup (mkc s) 19 _))) else none := rfl
  rw [e, if_pos ⟨rfl, by decide, decide_eq_true hb, Or.inl rfl⟩]
  exact congrArg (fun q => some (Sum.inl (pc + 3, ls, st, ((mk s).1, q)))) (mkI rfl)
theorem put_9_6 {X : mX} {M : mM} {j : Nat} {z : Int} {pc : Nat} {ls : mL} {st : List Value} {s : zS} {v : Int32} (hb : mBit v) (hl : mlk M.2.1 j = (0, 9, 6, z)) : mact X M (.putfield j) pc ls (.int v :: .ref 19 :: st) (mk s) = some (.inl (pc + 3, ls, st, mk (setI s 19 6 v))) := by
  refine putf_eq hl ?_
  generalize (M.2.2.2.2.1.name == "<init>") = ini
  generalize M.2.1 = o
  have e : mputf ini o 9 6 pc ls (.int v :: .ref 19 :: st) (mk s) = if (9 : Nat) = 9 ∧ 6 < 8 ∧ mfit (mTyT 9 6) (.int v) = true ∧ ((mTT 9 6).2.2.2 = false ∨ (ini = true ∧ o = 9)) then some (.inl (pc + 3, ls, st, ((mk s).1, mup (mkc s) 19 _))) else none := rfl
  rw [e, if_pos ⟨rfl, by decide, decide_eq_true hb, Or.inl rfl⟩]
  exact congrArg (fun q => some (Sum.inl (pc + 3, ls, st, ((mk s).1, q)))) (mkI rfl)
theorem put_9_7 {X : mX} {M : mM} {j : Nat} {z : Int} {pc : Nat} {ls : mL} {st : List Value} {s : zS} {v : Int32} (hl : mlk M.2.1 j = (0, 9, 7, z)) : mact X M (.putfield j) pc ls (.int v :: .ref 19 :: st) (mk s) = some (.inl (pc + 3, ls, st, mk (setI s 19 7 v))) := by
  refine putf_eq hl ?_
  generalize (M.2.2.2.2.1.name == "<init>") = ini
  generalize M.2.1 = o
  have e : mputf ini o 9 7 pc ls (.int v :: .ref 19 :: st) (mk s) = if (9 : Nat) = 9 ∧ 7 < 8 ∧ mfit (mTyT 9 7) (.int v) = true ∧ ((mTT 9 7).2.2.2 = false ∨ (ini = true ∧ o = 9)) then some (.inl (pc + 3, ls, st, ((mk s).1, mup (mkc s) 19 _))) else none := rfl
  rw [e, if_pos ⟨rfl, by decide, rfl, Or.inl rfl⟩]
  exact congrArg (fun q => some (Sum.inl (pc + 3, ls, st, ((mk s).1, q)))) (mkI rfl)
theorem put_10_2 {X : mX} {M : mM} {j : Nat} {z : Int} {pc : Nat} {ls : mL} {st : List Value} {s : zS} {v : Int32} (hb : mBit v) (hl : mlk M.2.1 j = (0, 10, 2, z)) : mact X M (.putfield j) pc ls (.int v :: .ref 21 :: st) (mk s) = some (.inl (pc + 3, ls, st, mk (setI s 21 2 v))) := by
  refine putf_eq hl ?_
  generalize (M.2.2.2.2.1.name == "<init>") = ini
  generalize M.2.1 = o
  have e : mputf ini o 10 2 pc ls (.int v :: .ref 21 :: st) (mk s) = if (10 : Nat) = 10 ∧ 2 < 11 ∧ mfit (mTyT 10 2) (.int v) = true ∧ ((mTT 10 2).2.2.2 = false ∨ (ini = true ∧ o = 10)) then some (.inl (pc + 3, ls, st, ((mk s).1, mup (mkc s) 21 _))) else none := rfl
  rw [e, if_pos ⟨rfl, by decide, decide_eq_true hb, Or.inl rfl⟩]
  exact congrArg (fun q => some (Sum.inl (pc + 3, ls, st, ((mk s).1, q)))) (mkI rfl)
theorem put_10_3 {X : mX} {M : mM} {j : Nat} {z : Int} {pc : Nat} {ls : mL} {st : List Value} {s : zS} {v : Int32} (hl : mlk M.2.1 j = (0, 10, 3, z)) : mact X M (.putfield j) pc ls (.int v :: .ref 21 :: st) (mk s) = some (.inl (pc + 3, ls, st, mk (setI s 21 3 v))) := by
  refine putf_eq hl ?_
  generalize (M.2.2.2.2.1.name == "<init>") = ini
  generalize M.2.1 = o
  have e : mputf ini o 10 3 pc ls (.int v :: .ref 21 :: st) (mk s) = if (10 : Nat) = 10 ∧ 3 < 11 ∧ mfit (mTyT 10 3) (.int v) = true ∧ ((mTT 10 3).2.2.2 = false ∨ (ini = true ∧ o = 10)) then some (.inl (pc + 3, ls, st, ((mk s).1, mup (mkc s) 21 _))) else none := rfl
  rw [e, if_pos ⟨rfl, by decide, rfl, Or.inl rfl⟩]
  exact congrArg (fun q => some (Sum.inl (pc + 3, ls, st, ((mk s).1, q)))) (mkI rfl)
theorem put_10_4 {X : mX} {M : mM} {j : Nat} {z : Int} {pc : Nat} {ls : mL} {st : List Value} {s : zS} {v : Int32} (hl : mlk M.2.1 j = (0, 10, 4, z)) : mact X M (.putfield j) pc ls (.int v :: .ref 21 :: st) (mk s) = some (.inl (pc + 3, ls, st, mk (setI s 21 4 v))) := by
  refine putf_eq hl ?_
  generalize (M.2.2.2.2.1.name == "<init>") = ini
  generalize M.2.1 = o
  have e : mputf ini o 10 4 pc ls (.int v :: .ref 21 :: st) (mk s) = if (10 : Nat) = 10 ∧ 4 < 11 ∧ mfit (mTyT 10 4) (.int v) = true ∧ ((mTT 10 4).2.2.2 = false ∨ (ini = true ∧ o = 10)) then some (.inl (pc + 3, ls, st, ((mk s).1, mup (mkc s) 21 _))) else none := rfl
  rw [e, if_pos ⟨rfl, by decide, rfl, Or.inl rfl⟩]
  exact congrArg (fun q => some (Sum.inl (pc + 3, ls, st, ((mk s).1, q)))) (mkI rfl)
theorem put_10_5 {X : mX} {M : mM} {j : Nat} {z : Int} {pc : Nat} {ls : mL} {st : List Value} {s : zS} {v : Int32} (hb : mBit v) (hl : mlk M.2.1 j = (0, 10, 5, z)) : mact X M (.putfield j) pc ls (.int v :: .ref 21 :: st) (mk s) = some (.inl (pc + 3, ls, st, mk (setI s 21 5 v))) := by
  refine putf_eq hl ?_
  generalize (M.2.2.2.2.1.name == "<init>") = ini
  generalize M.2.1 = o
  have e : mputf ini o 10 5 pc ls (.int v :: .ref 21 :: st) (mk s) = if (10 : Nat) = 10 ∧ 5 < 11 ∧ mfit (mTyT 10 5) (.int v) = true ∧ ((mTT 10 5).2.2.2 = false ∨ (ini = true ∧ o = 10)) then some (.inl (pc + 3, ls, st, ((mk s).1, mup (mkc s) 21 _))) else none := rfl
  rw [e, if_pos ⟨rfl, by decide, decide_eq_true hb, Or.inl rfl⟩]
  exact congrArg (fun q => some (Sum.inl (pc + 3, ls, st, ((mk s).1, q)))) (mkI rfl)
theorem put_10_6 {X : mX} {M : mM} {j : Nat} {z : Int} {pc : Nat} {ls : mL} {st : List Value} {s : zS} {v : Int32} (hl : mlk M.2.1 j = (0, 10, 6, z)) : mact X M (.putfield j) pc ls (.int v :: .ref 21 :: st) (mk s) = some (.inl (pc + 3, ls, st, mk (setI s 21 6 v))) := by
  refine putf_eq hl ?_
  generalize (M.2.2.2.2.1.name == "<init>") = ini
  generalize M.2.1 = o
  have e : mputf ini o 10 6 pc ls (.int v :: .ref 21 :: st) (mk s) = if (10 : Nat) = 10 ∧ 6 < 11 ∧ mfit (mTyT 10 6) (.int v) = true ∧ ((mTT 10 6).2.2.2 = false ∨ (ini = true ∧ o = 10)) then some (.inl (pc + 3, ls, st, ((mk s).1, mup (mkc s) 21 _))) else none := rfl
  rw [e, if_pos ⟨rfl, by decide, rfl, Or.inl rfl⟩]
  exact congrArg (fun q => some (Sum.inl (pc + 3, ls, st, ((mk s).1, q)))) (mkI rfl)
theorem put_10_7 {X : mX} {M : mM} {j : Nat} {z : Int} {pc : Nat} {ls : mL} {st : List Value} {s : zS} {v : Int32} (hl : mlk M.2.1 j = (0, 10, 7, z)) : mact X M (.putfield j) pc ls (.int v :: .ref 21 :: st) (mk s) = some (.inl (pc + 3, ls, st, mk (setI s 21 7 v))) := by
  refine putf_eq hl ?_
  generalize (M.2.2.2.2.1.name == "<init>") = ini
  generalize M.2.1 = o
  have e : mputf ini o 10 7 pc ls (.int v :: .ref 21 :: st) (mk s) = if (10 : Nat) = 10 ∧ 7 < 11 ∧ mfit (mTyT 10 7) (.int v) = true ∧ ((mTT 10 7).2.2.2 = false ∨ (ini = true ∧ o = 10)) then some (.inl (pc + 3, ls, st, ((mk s).1, mup (mkc s) 21 _))) else none := rfl
  rw [e, if_pos ⟨rfl, by decide, rfl, Or.inl rfl⟩]
  exact congrArg (fun q => some (Sum.inl (pc + 3, ls, st, ((mk s).1, q)))) (mkI rfl)
theorem put_10_8 {X : mX} {M : mM} {j : Nat} {z : Int} {pc : Nat} {ls : mL} {st : List Value} {s : zS} {v : Int32} (hl : mlk M.2.1 j = (0, 10, 8, z)) : mact X M (.putfield j) pc ls (.int v :: .ref 21 :: st) (mk s) = some (.inl (pc + 3, ls, st, mk (setI s 21 8 v))) := by
  refine putf_eq hl ?_
  generalize (M.2.2.2.2.1.name == "<init>") = ini
  generalize M.2.1 = o
  have e : mputf ini o 10 8 pc ls (.int v :: .ref 21 :: st) (mk s) = if (10 : Nat) = 10 ∧ 8 < 11 ∧ mfit (mTyT 10 8) (.int v) = true ∧ ((mTT 10 8).2.2.2 = false ∨ (ini = true ∧ o = 10)) then some (.inl (pc + 3, ls, st, ((mk s).1, mup (mkc s) 21 _))) else none := rfl
  rw [e, if_pos ⟨rfl, by decide, rfl, Or.inl rfl⟩]
  exact congrArg (fun q => some (Sum.inl (pc + 3, ls, st, ((mk s).1, q)))) (mkI rfl)
theorem put_10_9 {X : mX} {M : mM} {j : Nat} {z : Int} {pc : Nat} {ls : mL} {st : List Value} {s : zS} {v : Int32} (hl : mlk M.2.1 j = (0, 10, 9, z)) : mact X M (.putfield j) pc ls (.int v :: .ref 21 :: st) (mk s) = some (.inl (pc + 3, ls, st, mk (setI s 21 9 v))) := by
  refine putf_eq hl ?_
  generalize (M.2.2.2.2.1.name == "<init>") = ini
  generalize M.2.1 = o
  have e : mputf ini o 10 9 pc ls (.int v :: .ref 21 :: st) (mk s) = if (10 : Nat) = 10 ∧ 9 < 11 ∧ mfit (mTyT 10 9) (.int v) = true ∧ ((mTT 10 9).2.2.2 = false ∨ (ini = true ∧ o = 10)) then some (.inl (pc + 3, ls, st, ((mk s).1, mup (mkc s) 21 _))) else none := rfl
  rw [e, if_pos ⟨rfl, by decide, rfl, Or.inl rfl⟩]
  exact congrArg (fun q => some (Sum.inl (pc + 3, ls, st, ((mk s).1, q)))) (mkI rfl)
theorem put_10_10 {X : mX} {M : mM} {j : Nat} {z : Int} {pc : Nat} {ls : mL} {st : List Value} {s : zS} {v : Int64} (hl : mlk M.2.1 j = (0, 10, 10, z)) : mact X M (.putfield j) pc ls (.long v :: .ref 21 :: st) (mk s) = some (.inl (pc + 3, ls, st, mk (setJ s 21 10 v))) := by
  refine putf_eq hl ?_
  generalize (M.2.2.2.2.1.name == "<init>") = ini
  generalize M.2.1 = o
  have e : mputf ini o 10 10 pc ls (.long v :: .ref 21 :: st) (mk s) = if (10 : Nat) = 10 ∧ 10 < 11 ∧ mfit (mTyT 10 10) (.long v) = true ∧ ((mTT 10 10).2.2.2 = false ∨ (ini = true ∧ o = 10)) then some (.inl (pc + 3, ls, st, ((mk s).1, mup (mkc s) 21 _))) else none := rfl
  rw [e, if_pos ⟨rfl, by decide, rfl, Or.inl rfl⟩]
  exact congrArg (fun q => some (Sum.inl (pc + 3, ls, st, ((mk s).1, q)))) (mkJ rfl)
theorem put_11_1 {X : mX} {M : mM} {j : Nat} {z : Int} {pc : Nat} {ls : mL} {st : List Value} {s : zS} {v : Int32} (hl : mlk M.2.1 j = (0, 11, 1, z)) : mact X M (.putfield j) pc ls (.int v :: .ref 22 :: st) (mk s) = some (.inl (pc + 3, ls, st, mk (setI s 22 1 v))) := by
  refine putf_eq hl ?_
  generalize (M.2.2.2.2.1.name == "<init>") = ini
  generalize M.2.1 = o
  have e : mputf ini o 11 1 pc ls (.int v :: .ref 22 :: st) (mk s) = if (11 : Nat) = 11 ∧ 1 < 4 ∧ mfit (mTyT 11 1) (.int v) = true ∧ ((mTT 11 1).2.2.2 = false ∨ (ini = true ∧ o = 11)) then some (.inl (pc + 3, ls, st, ((mk s).1, mup (mkc s) 22 _))) else none := rfl
  rw [e, if_pos ⟨rfl, by decide, rfl, Or.inl rfl⟩]
  exact congrArg (fun q => some (Sum.inl (pc + 3, ls, st, ((mk s).1, q)))) (mkI rfl)
theorem put_11_2 {X : mX} {M : mM} {j : Nat} {z : Int} {pc : Nat} {ls : mL} {st : List Value} {s : zS} {v : Int32} (hl : mlk M.2.1 j = (0, 11, 2, z)) : mact X M (.putfield j) pc ls (.int v :: .ref 22 :: st) (mk s) = some (.inl (pc + 3, ls, st, mk (setI s 22 2 v))) := by
  refine putf_eq hl ?_
  generalize (M.2.2.2.2.1.name == "<init>") = ini
  generalize M.2.1 = o
  have e : mputf ini o 11 2 pc ls (.int v :: .ref 22 :: st) (mk s) = if (11 : Nat) = 11 ∧ 2 < 4 ∧ mfit (mTyT 11 2) (.int v) = true ∧ ((mTT 11 2).2.2.2 = false ∨ (ini = true ∧ o = 11)) then some (.inl (pc + 3, ls, st, ((mk s).1, mup (mkc s) 22 _))) else none := rfl
  rw [e, if_pos ⟨rfl, by decide, rfl, Or.inl rfl⟩]
  exact congrArg (fun q => some (Sum.inl (pc + 3, ls, st, ((mk s).1, q)))) (mkI rfl)
theorem put_11_3 {X : mX} {M : mM} {j : Nat} {z : Int} {pc : Nat} {ls : mL} {st : List Value} {s : zS} {v : Int32} (hb : mBit v) (hl : mlk M.2.1 j = (0, 11, 3, z)) : mact X M (.putfield j) pc ls (.int v :: .ref 22 :: st) (mk s) = some (.inl (pc + 3, ls, st, mk (setI s 22 3 v))) := by
  refine putf_eq hl ?_
  generalize (M.2.2.2.2.1.name == "<init>") = ini
  generalize M.2.1 = o
  have e : mputf ini o 11 3 pc ls (.int v :: .ref 22 :: st) (mk s) = if (11 : Nat) = 11 ∧ 3 < 4 ∧ mfit (mTyT 11 3) (.int v) = true ∧ ((mTT 11 3).2.2.2 = false ∨ (ini = true ∧ o = 11)) then some (.inl (pc + 3, ls, st, ((mk s).1, mup (mkc s) 22 _))) else none := rfl
  rw [e, if_pos ⟨rfl, by decide, decide_eq_true hb, Or.inl rfl⟩]
  exact congrArg (fun q => some (Sum.inl (pc + 3, ls, st, ((mk s).1, q)))) (mkI rfl)
theorem put_12_4 {X : mX} {M : mM} {j : Nat} {z : Int} {pc : Nat} {ls : mL} {st : List Value} {s : zS} {v : Int32} (hl : mlk M.2.1 j = (0, 12, 4, z)) : mact X M (.putfield j) pc ls (.int v :: .ref 24 :: st) (mk s) = some (.inl (pc + 3, ls, st, mk (setI s 24 4 v))) := by
  refine putf_eq hl ?_
  generalize (M.2.2.2.2.1.name == "<init>") = ini
  generalize M.2.1 = o
  have e : mputf ini o 12 4 pc ls (.int v :: .ref 24 :: st) (mk s) = if (12 : Nat) = 12 ∧ 4 < 41 ∧ mfit (mTyT 12 4) (.int v) = true ∧ ((mTT 12 4).2.2.2 = false ∨ (ini = true ∧ o = 12)) then some (.inl (pc + 3, ls, st, ((mk s).1, mup (mkc s) 24 _))) else none := rfl
  rw [e, if_pos ⟨rfl, by decide, rfl, Or.inl rfl⟩]
  exact congrArg (fun q => some (Sum.inl (pc + 3, ls, st, ((mk s).1, q)))) (mkI rfl)
theorem put_12_5 {X : mX} {M : mM} {j : Nat} {z : Int} {pc : Nat} {ls : mL} {st : List Value} {s : zS} {v : Int32} (hl : mlk M.2.1 j = (0, 12, 5, z)) : mact X M (.putfield j) pc ls (.int v :: .ref 24 :: st) (mk s) = some (.inl (pc + 3, ls, st, mk (setI s 24 5 v))) := by
  refine putf_eq hl ?_
  generalize (M.2.2.2.2.1.name == "<init>") = ini
  generalize M.2.1 = o
  have e : mputf ini o 12 5 pc ls (.int v :: .ref 24 :: st) (mk s) = if (12 : Nat) = 12 ∧ 5 < 41 ∧ mfit (mTyT 12 5) (.int v) = true ∧ ((mTT 12 5).2.2.2 = false ∨ (ini = true ∧ o = 12)) then some (.inl (pc + 3, ls, st, ((mk s).1, mup (mkc s) 24 _))) else none := rfl
  rw [e, if_pos ⟨rfl, by decide, rfl, Or.inl rfl⟩]
  exact congrArg (fun q => some (Sum.inl (pc + 3, ls, st, ((mk s).1, q)))) (mkI rfl)
theorem put_12_6 {X : mX} {M : mM} {j : Nat} {z : Int} {pc : Nat} {ls : mL} {st : List Value} {s : zS} {v : Int32} (hl : mlk M.2.1 j = (0, 12, 6, z)) : mact X M (.putfield j) pc ls (.int v :: .ref 24 :: st) (mk s) = some (.inl (pc + 3, ls, st, mk (setI s 24 6 v))) := by
  refine putf_eq hl ?_
  generalize (M.2.2.2.2.1.name == "<init>") = ini
  generalize M.2.1 = o
  have e : mputf ini o 12 6 pc ls (.int v :: .ref 24 :: st) (mk s) = if (12 : Nat) = 12 ∧ 6 < 41 ∧ mfit (mTyT 12 6) (.int v) = true ∧ ((mTT 12 6).2.2.2 = false ∨ (ini = true ∧ o = 12)) then some (.inl (pc + 3, ls, st, ((mk s).1, mup (mkc s) 24 _))) else none := rfl
  rw [e, if_pos ⟨rfl, by decide, rfl, Or.inl rfl⟩]
  exact congrArg (fun q => some (Sum.inl (pc + 3, ls, st, ((mk s).1, q)))) (mkI rfl)
theorem put_12_7 {X : mX} {M : mM} {j : Nat} {z : Int} {pc : Nat} {ls : mL} {st : List Value} {s : zS} {v : Int32} (hl : mlk M.2.1 j = (0, 12, 7, z)) : mact X M (.putfield j) pc ls (.int v :: .ref 24 :: st) (mk s) = some (.inl (pc + 3, ls, st, mk (setI s 24 7 v))) := by
  refine putf_eq hl ?_
  generalize (M.2.2.2.2.1.name == "<init>") = ini
  generalize M.2.1 = o
  have e : mputf ini o 12 7 pc ls (.int v :: .ref 24 :: st) (mk s) = if (12 : Nat) = 12 ∧ 7 < 41 ∧ mfit (mTyT 12 7) (.int v) = true ∧ ((mTT 12 7).2.2.2 = false ∨ (ini = true ∧ o = 12)) then some (.inl (pc + 3, ls, st, ((mk s).1, mup (mkc s) 24 _))) else none := rfl
  rw [e, if_pos ⟨rfl, by decide, rfl, Or.inl rfl⟩]
  exact congrArg (fun q => some (Sum.inl (pc + 3, ls, st, ((mk s).1, q)))) (mkI rfl)
theorem put_12_8 {X : mX} {M : mM} {j : Nat} {z : Int} {pc : Nat} {ls : mL} {st : List Value} {s : zS} {v : Int32} (hl : mlk M.2.1 j = (0, 12, 8, z)) : mact X M (.putfield j) pc ls (.int v :: .ref 24 :: st) (mk s) = some (.inl (pc + 3, ls, st, mk (setI s 24 8 v))) := by
  refine putf_eq hl ?_
  generalize (M.2.2.2.2.1.name == "<init>") = ini
  generalize M.2.1 = o
  have e : mputf ini o 12 8 pc ls (.int v :: .ref 24 :: st) (mk s) = if (12 : Nat) = 12 ∧ 8 < 41 ∧ mfit (mTyT 12 8) (.int v) = true ∧ ((mTT 12 8).2.2.2 = false ∨ (ini = true ∧ o = 12)) then some (.inl (pc + 3, ls, st, ((mk s).1, mup (mkc s) 24 _))) else none := rfl
  rw [e, if_pos ⟨rfl, by decide, rfl, Or.inl rfl⟩]
  exact congrArg (fun q => some (Sum.inl (pc + 3, ls, st, ((mk s).1, q)))) (mkI rfl)
theorem put_12_9 {X : mX} {M : mM} {j : Nat} {z : Int} {pc : Nat} {ls : mL} {st : List Value} {s : zS} {v : Int32} (hl : mlk M.2.1 j = (0, 12, 9, z)) : mact X M (.putfield j) pc ls (.int v :: .ref 24 :: st) (mk s) = some (.inl (pc + 3, ls, st, mk (setI s 24 9 v))) := by
  refine putf_eq hl ?_
  generalize (M.2.2.2.2.1.name == "<init>") = ini
  generalize M.2.1 = o
  have e : mputf ini o 12 9 pc ls (.int v :: .ref 24 :: st) (mk s) = if (12 : Nat) = 12 ∧ 9 < 41 ∧ mfit (mTyT 12 9) (.int v) = true ∧ ((mTT 12 9).2.2.2 = false ∨ (ini = true ∧ o = 12)) then some (.inl (pc + 3, ls, st, ((mk s).1, mup (mkc s) 24 _))) else none := rfl
  rw [e, if_pos ⟨rfl, by decide, rfl, Or.inl rfl⟩]
  exact congrArg (fun q => some (Sum.inl (pc + 3, ls, st, ((mk s).1, q)))) (mkI rfl)
theorem put_12_13 {X : mX} {M : mM} {j : Nat} {z : Int} {pc : Nat} {ls : mL} {st : List Value} {s : zS} {v : Int32} (hl : mlk M.2.1 j = (0, 12, 13, z)) : mact X M (.putfield j) pc ls (.int v :: .ref 24 :: st) (mk s) = some (.inl (pc + 3, ls, st, mk (setI s 24 13 v))) := by
  refine putf_eq hl ?_
  generalize (M.2.2.2.2.1.name == "<init>") = ini
  generalize M.2.1 = o
  have e : mputf ini o 12 13 pc ls (.int v :: .ref 24 :: st) (mk s) = if (12 : Nat) = 12 ∧ 13 < 41 ∧ mfit (mTyT 12 13) (.int v) = true ∧ ((mTT 12 13).2.2.2 = false ∨ (ini = true ∧ o = 12)) then some (.inl (pc + 3, ls, st, ((mk s).1, mup (mkc s) 24 _))) else none := rfl
  rw [e, if_pos ⟨rfl, by decide, rfl, Or.inl rfl⟩]
  exact congrArg (fun q => some (Sum.inl (pc + 3, ls, st, ((mk s).1, q)))) (mkI rfl)
theorem put_12_14 {X : mX} {M : mM} {j : Nat} {z : Int} {pc : Nat} {ls : mL} {st : List Value} {s : zS} {v : Int32} (hl : mlk M.2.1 j = (0, 12, 14, z)) : mact X M (.putfield j) pc ls (.int v :: .ref 24 :: st) (mk s) = some (.inl (pc + 3, ls, st, mk (setI s 24 14 v))) := by
  refine putf_eq hl ?_
  generalize (M.2.2.2.2.1.name == "<init>") = ini
  generalize M.2.1 = o
  have e : mputf ini o 12 14 pc ls (.int v :: .ref 24 :: st) (mk s) = if (12 : Nat) = 12 ∧ 14 < 41 ∧ mfit (mTyT 12 14) (.int v) = true ∧ ((mTT 12 14).2.2.2 = false ∨ (ini = true ∧ o = 12)) then some (.inl (pc + 3, ls, st, ((mk s).1, mup (mkc s) 24 _))) else none := rfl
  rw [e, if_pos ⟨rfl, by decide, rfl, Or.inl rfl⟩]
  exact congrArg (fun q => some (Sum.inl (pc + 3, ls, st, ((mk s).1, q)))) (mkI rfl)
theorem put_12_15 {X : mX} {M : mM} {j : Nat} {z : Int} {pc : Nat} {ls : mL} {st : List Value} {s : zS} {v : Int32} (hl : mlk M.2.1 j = (0, 12, 15, z)) : mact X M (.putfield j) pc ls (.int v :: .ref 24 :: st) (mk s) = some (.inl (pc + 3, ls, st, mk (setI s 24 15 v))) := by
  refine putf_eq hl ?_
  generalize (M.2.2.2.2.1.name == "<init>") = ini
  generalize M.2.1 = o
  have e : mputf ini o 12 15 pc ls (.int v :: .ref 24 :: st) (mk s) = if (12 : Nat) = 12 ∧ 15 < 41 ∧ mfit (mTyT 12 15) (.int v) = true ∧ ((mTT 12 15).2.2.2 = false ∨ (ini = true ∧ o = 12)) then some (.inl (pc + 3, ls, st, ((mk s).1, mup (mkc s) 24 _))) else none := rfl
  rw [e, if_pos ⟨rfl, by decide, rfl, Or.inl rfl⟩]
  exact congrArg (fun q => some (Sum.inl (pc + 3, ls, st, ((mk s).1, q)))) (mkI rfl)
theorem put_12_16 {X : mX} {M : mM} {j : Nat} {z : Int} {pc : Nat} {ls : mL} {st : List Value} {s : zS} {v : Int32} (hl : mlk M.2.1 j = (0, 12, 16, z)) : mact X M (.putfield j) pc ls (.int v :: .ref 24 :: st) (mk s) = some (.inl (pc + 3, ls, st, mk (setI s 24 16 v))) := by
  refine putf_eq hl ?_
  generalize (M.2.2.2.2.1.name == "<init>") = ini
  generalize M.2.1 = o
  have e : mputf ini o 12 16 pc ls (.int v :: .ref 24 :: st) (mk s) = if (12 : Nat) = 12 ∧ 16 < 41 ∧ mfit (mTyT 12 16) (.int v) = true ∧ ((mTT 12 16).2.2.2 = false ∨ (ini = true ∧ o = 12)) then some (.inl (pc + 3, ls, st, ((mk s).1, mup (mkc s) 24 _))) else none := rfl
  rw [e, if_pos ⟨rfl, by decide, rfl, Or.inl rfl⟩]
  exact congrArg (fun q => some (Sum.inl (pc + 3, ls, st, ((mk s).1, q)))) (mkI rfl)
theorem put_12_17 {X : mX} {M : mM} {j : Nat} {z : Int} {pc : Nat} {ls : mL} {st : List Value} {s : zS} {v : Int32} (hl : mlk M.2.1 j = (0, 12, 17, z)) : mact X M (.putfield j) pc ls (.int v :: .ref 24 :: st) (mk s) = some (.inl (pc + 3, ls, st, mk (setI s 24 17 v))) := by
  refine putf_eq hl ?_
  generalize (M.2.2.2.2.1.name == "<init>") = ini
  generalize M.2.1 = o
  have e : mputf ini o 12 17 pc ls (.int v :: .ref 24 :: st) (mk s) = if (12 : Nat) = 12 ∧ 17 < 41 ∧ mfit (mTyT 12 17) (.int v) = true ∧ ((mTT 12 17).2.2.2 = false ∨ (ini = true ∧ o = 12)) then some (.inl (pc + 3, ls, st, ((mk s).1, mup (mkc s) 24 _))) else none := rfl
  rw [e, if_pos ⟨rfl, by decide, rfl, Or.inl rfl⟩]
  exact congrArg (fun q => some (Sum.inl (pc + 3, ls, st, ((mk s).1, q)))) (mkI rfl)
theorem put_12_18 {X : mX} {M : mM} {j : Nat} {z : Int} {pc : Nat} {ls : mL} {st : List Value} {s : zS} {v : Int32} (hl : mlk M.2.1 j = (0, 12, 18, z)) : mact X M (.putfield j) pc ls (.int v :: .ref 24 :: st) (mk s) = some (.inl (pc + 3, ls, st, mk (setI s 24 18 v))) := by
  refine putf_eq hl ?_
  generalize (M.2.2.2.2.1.name == "<init>") = ini
  generalize M.2.1 = o
  have e : mputf ini o 12 18 pc ls (.int v :: .ref 24 :: st) (mk s) = if (12 : Nat) = 12 ∧ 18 < 41 ∧ mfit (mTyT 12 18) (.int v) = true ∧ ((mTT 12 18).2.2.2 = false ∨ (ini = true ∧ o = 12)) then some (.inl (pc + 3, ls, st, ((mk s).1, mup (mkc s) 24 _))) else none := rfl
  rw [e, if_pos ⟨rfl, by decide, rfl, Or.inl rfl⟩]
  exact congrArg (fun q => some (Sum.inl (pc + 3, ls, st, ((mk s).1, q)))) (mkI rfl)
theorem put_12_19 {X : mX} {M : mM} {j : Nat} {z : Int} {pc : Nat} {ls : mL} {st : List Value} {s : zS} {v : Int32} (hl : mlk M.2.1 j = (0, 12, 19, z)) : mact X M (.putfield j) pc ls (.int v :: .ref 24 :: st) (mk s) = some (.inl (pc + 3, ls, st, mk (setI s 24 19 v))) := by
  refine putf_eq hl ?_
  generalize (M.2.2.2.2.1.name == "<init>") = ini
  generalize M.2.1 = o
  have e : mputf ini o 12 19 pc ls (.int v :: .ref 24 :: st) (mk s) = if (12 : Nat) = 12 ∧ 19 < 41 ∧ mfit (mTyT 12 19) (.int v) = true ∧ ((mTT 12 19).2.2.2 = false ∨ (ini = true ∧ o = 12)) then some (.inl (pc + 3, ls, st, ((mk s).1, mup (mkc s) 24 _))) else none := rfl
  rw [e, if_pos ⟨rfl, by decide, rfl, Or.inl rfl⟩]
  exact congrArg (fun q => some (Sum.inl (pc + 3, ls, st, ((mk s).1, q)))) (mkI rfl)
theorem put_12_20 {X : mX} {M : mM} {j : Nat} {z : Int} {pc : Nat} {ls : mL} {st : List Value} {s : zS} {v : Int32} (hl : mlk M.2.1 j = (0, 12, 20, z)) : mact X M (.putfield j) pc ls (.int v :: .ref 24 :: st) (mk s) = some (.inl (pc + 3, ls, st, mk (setI s 24 20 v))) := by
  refine putf_eq hl ?_
  generalize (M.2.2.2.2.1.name == "<init>") = ini
  generalize M.2.1 = o
  have e : mputf ini o 12 20 pc ls (.int v :: .ref 24 :: st) (mk s) = if (12 : Nat) = 12 ∧ 20 < 41 ∧ mfit (mTyT 12 20) (.int v) = true ∧ ((mTT 12 20).2.2.2 = false ∨ (ini = true ∧ o = 12)) then some (.inl (pc + 3, ls, st, ((mk s).1, mup (mkc s) 24 _))) else none := rfl
  rw [e, if_pos ⟨rfl, by decide, rfl, Or.inl rfl⟩]
  exact congrArg (fun q => some (Sum.inl (pc + 3, ls, st, ((mk s).1, q)))) (mkI rfl)
theorem put_12_21 {X : mX} {M : mM} {j : Nat} {z : Int} {pc : Nat} {ls : mL} {st : List Value} {s : zS} {v : Int32} (hl : mlk M.2.1 j = (0, 12, 21, z)) : mact X M (.putfield j) pc ls (.int v :: .ref 24 :: st) (mk s) = some (.inl (pc + 3, ls, st, mk (setI s 24 21 v))) := by
  refine putf_eq hl ?_
  generalize (M.2.2.2.2.1.name == "<init>") = ini
  generalize M.2.1 = o
  have e : mputf ini o 12 21 pc ls (.int v :: .ref 24 :: st) (mk s) = if (12 : Nat) = 12 ∧ 21 < 41 ∧ mfit (mTyT 12 21) (.int v) = true ∧ ((mTT 12 21).2.2.2 = false ∨ (ini = true ∧ o = 12)) then some (.inl (pc + 3, ls, st, ((mk s).1, mup (mkc s) 24 _))) else none := rfl
  rw [e, if_pos ⟨rfl, by decide, rfl, Or.inl rfl⟩]
  exact congrArg (fun q => some (Sum.inl (pc + 3, ls, st, ((mk s).1, q)))) (mkI rfl)
theorem put_12_22 {X : mX} {M : mM} {j : Nat} {z : Int} {pc : Nat} {ls : mL} {st : List Value} {s : zS} {v : Int32} (hb : mBit v) (hl : mlk M.2.1 j = (0, 12, 22, z)) : mact X M (.putfield j) pc ls (.int v :: .ref 24 :: st) (mk s) = some (.inl (pc + 3, ls, st, mk (setI s 24 22 v))) := by
  refine putf_eq hl ?_
  generalize (M.2.2.2.2.1.name == "<init>") = ini
  generalize M.2.1 = o
  have e : mputf ini o 12 22 pc ls (.int v :: .ref 24 :: st) (mk s) = if (12 : Nat) = 12 ∧ 22 < 41 ∧ mfit (mTyT 12 22) (.int v) = true ∧ ((mTT 12 22).2.2.2 = false ∨ (ini = true ∧ o = 12)) then some (.inl (pc + 3, ls, st, ((mk s).1, mup (mkc s) 24 _))) else none := rfl
  rw [e, if_pos ⟨rfl, by decide, decide_eq_true hb, Or.inl rfl⟩]
  exact congrArg (fun q => some (Sum.inl (pc + 3, ls, st, ((mk s).1, q)))) (mkI rfl)
theorem put_12_27 {X : mX} {M : mM} {j : Nat} {z : Int} {pc : Nat} {ls : mL} {st : List Value} {s : zS} {v : Int32} (hl : mlk M.2.1 j = (0, 12, 27, z)) : mact X M (.putfield j) pc ls (.int v :: .ref 24 :: st) (mk s) = some (.inl (pc + 3, ls, st, mk (setI s 24 27 v))) := by
  refine putf_eq hl ?_
  generalize (M.2.2.2.2.1.name == "<init>") = ini
  generalize M.2.1 = o
  have e : mputf ini o 12 27 pc ls (.int v :: .ref 24 :: st) (mk s) = if (12 : Nat) = 12 ∧ 27 < 41 ∧ mfit (mTyT 12 27) (.int v) = true ∧ ((mTT 12 27).2.2.2 = false ∨ (ini = true ∧ o = 12)) then some (.inl (pc + 3, ls, st, ((mk s).1, mup (mkc s) 24 _))) else none := rfl
  rw [e, if_pos ⟨rfl, by decide, rfl, Or.inl rfl⟩]
  exact congrArg (fun q => some (Sum.inl (pc + 3, ls, st, ((mk s).1, q)))) (mkI rfl)
theorem put_12_28 {X : mX} {M : mM} {j : Nat} {z : Int} {pc : Nat} {ls : mL} {st : List Value} {s : zS} {v : Int32} (hl : mlk M.2.1 j = (0, 12, 28, z)) : mact X M (.putfield j) pc ls (.int v :: .ref 24 :: st) (mk s) = some (.inl (pc + 3, ls, st, mk (setI s 24 28 v))) := by
  refine putf_eq hl ?_
  generalize (M.2.2.2.2.1.name == "<init>") = ini
  generalize M.2.1 = o
  have e : mputf ini o 12 28 pc ls (.int v :: .ref 24 :: st) (mk s) = if (12 : Nat) = 12 ∧ 28 < 41 ∧ mfit (mTyT 12 28) (.int v) = true ∧ ((mTT 12 28).2.2.2 = false ∨ (ini = true ∧ o = 12)) then some (.inl (pc + 3, ls, st, ((mk s).1, mup (mkc s) 24 _))) else none := rfl
  rw [e, if_pos ⟨rfl, by decide, rfl, Or.inl rfl⟩]
  exact congrArg (fun q => some (Sum.inl (pc + 3, ls, st, ((mk s).1, q)))) (mkI rfl)
theorem put_12_30 {X : mX} {M : mM} {j : Nat} {z : Int} {pc : Nat} {ls : mL} {st : List Value} {s : zS} {v : Int32} (hl : mlk M.2.1 j = (0, 12, 30, z)) : mact X M (.putfield j) pc ls (.int v :: .ref 24 :: st) (mk s) = some (.inl (pc + 3, ls, st, mk (setI s 24 30 v))) := by
  refine putf_eq hl ?_
  generalize (M.2.2.2.2.1.name == "<init>") = ini
  generalize M.2.1 = o
  have e : mputf ini o 12 30 pc ls (.int v :: .ref 24 :: st) (mk s) = if (12 : Nat) = 12 ∧ 30 < 41 ∧ mfit (mTyT 12 30) (.int v) = true ∧ ((mTT 12 30).2.2.2 = false ∨ (ini = true ∧ o = 12)) then some (.inl (pc + 3, ls, st, ((mk s).1, mup (mkc s) 24 _))) else none := rfl
  rw [e, if_pos ⟨rfl, by decide, rfl, Or.inl rfl⟩]
  exact congrArg (fun q => some (Sum.inl (pc + 3, ls, st, ((mk s).1, q)))) (mkI rfl)
theorem put_12_31 {X : mX} {M : mM} {j : Nat} {z : Int} {pc : Nat} {ls : mL} {st : List Value} {s : zS} {v : Int32} (hl : mlk M.2.1 j = (0, 12, 31, z)) : mact X M (.putfield j) pc ls (.int v :: .ref 24 :: st) (mk s) = some (.inl (pc + 3, ls, st, mk (setI s 24 31 v))) := by
  refine putf_eq hl ?_
  generalize (M.2.2.2.2.1.name == "<init>") = ini
  generalize M.2.1 = o
  have e : mputf ini o 12 31 pc ls (.int v :: .ref 24 :: st) (mk s) = if (12 : Nat) = 12 ∧ 31 < 41 ∧ mfit (mTyT 12 31) (.int v) = true ∧ ((mTT 12 31).2.2.2 = false ∨ (ini = true ∧ o = 12)) then some (.inl (pc + 3, ls, st, ((mk s).1, mup (mkc s) 24 _))) else none := rfl
  rw [e, if_pos ⟨rfl, by decide, rfl, Or.inl rfl⟩]
  exact congrArg (fun q => some (Sum.inl (pc + 3, ls, st, ((mk s).1, q)))) (mkI rfl)
theorem put_12_33 {X : mX} {M : mM} {j : Nat} {z : Int} {pc : Nat} {ls : mL} {st : List Value} {s : zS} {v : Int32} (hl : mlk M.2.1 j = (0, 12, 33, z)) : mact X M (.putfield j) pc ls (.int v :: .ref 24 :: st) (mk s) = some (.inl (pc + 3, ls, st, mk (setI s 24 33 v))) := by
  refine putf_eq hl ?_
  generalize (M.2.2.2.2.1.name == "<init>") = ini
  generalize M.2.1 = o
  have e : mputf ini o 12 33 pc ls (.int v :: .ref 24 :: st) (mk s) = if (12 : Nat) = 12 ∧ 33 < 41 ∧ mfit (mTyT 12 33) (.int v) = true ∧ ((mTT 12 33).2.2.2 = false ∨ (ini = true ∧ o = 12)) then some (.inl (pc + 3, ls, st, ((mk s).1, mup (mkc s) 24 _))) else none := rfl
  rw [e, if_pos ⟨rfl, by decide, rfl, Or.inl rfl⟩]
  exact congrArg (fun q => some (Sum.inl (pc + 3, ls, st, ((mk s).1, q)))) (mkI rfl)
theorem put_12_34 {X : mX} {M : mM} {j : Nat} {z : Int} {pc : Nat} {ls : mL} {st : List Value} {s : zS} {v : Int32} (hl : mlk M.2.1 j = (0, 12, 34, z)) : mact X M (.putfield j) pc ls (.int v :: .ref 24 :: st) (mk s) = some (.inl (pc + 3, ls, st, mk (setI s 24 34 v))) := by
  refine putf_eq hl ?_
  generalize (M.2.2.2.2.1.name == "<init>") = ini
  generalize M.2.1 = o
  have e : mputf ini o 12 34 pc ls (.int v :: .ref 24 :: st) (mk s) = if (12 : Nat) = 12 ∧ 34 < 41 ∧ mfit (mTyT 12 34) (.int v) = true ∧ ((mTT 12 34).2.2.2 = false ∨ (ini = true ∧ o = 12)) then some (.inl (pc + 3, ls, st, ((mk s).1, mup (mkc s) 24 _))) else none := rfl
  rw [e, if_pos ⟨rfl, by decide, rfl, Or.inl rfl⟩]
  exact congrArg (fun q => some (Sum.inl (pc + 3, ls, st, ((mk s).1, q)))) (mkI rfl)
theorem put_12_35 {X : mX} {M : mM} {j : Nat} {z : Int} {pc : Nat} {ls : mL} {st : List Value} {s : zS} {v : Int32} (hl : mlk M.2.1 j = (0, 12, 35, z)) : mact X M (.putfield j) pc ls (.int v :: .ref 24 :: st) (mk s) = some (.inl (pc + 3, ls, st, mk (setI s 24 35 v))) := by
  refine putf_eq hl ?_
  generalize (M.2.2.2.2.1.name == "<init>") = ini
  generalize M.2.1 = o
  have e : mputf ini o 12 35 pc ls (.int v :: .ref 24 :: st) (mk s) = if (12 : Nat) = 12 ∧ 35 < 41 ∧ mfit (mTyT 12 35) (.int v) = true ∧ ((mTT 12 35).2.2.2 = false ∨ (ini = true ∧ o = 12)) then some (.inl (pc + 3, ls, st, ((mk s).1, mup (mkc s) 24 _))) else none := rfl
  rw [e, if_pos ⟨rfl, by decide, rfl, Or.inl rfl⟩]
  exact congrArg (fun q => some (Sum.inl (pc + 3, ls, st, ((mk s).1, q)))) (mkI rfl)
theorem put_12_36 {X : mX} {M : mM} {j : Nat} {z : Int} {pc : Nat} {ls : mL} {st : List Value} {s : zS} {v : Int32} (hl : mlk M.2.1 j = (0, 12, 36, z)) : mact X M (.putfield j) pc ls (.int v :: .ref 24 :: st) (mk s) = some (.inl (pc + 3, ls, st, mk (setI s 24 36 v))) := by
  refine putf_eq hl ?_
  generalize (M.2.2.2.2.1.name == "<init>") = ini
  generalize M.2.1 = o
  have e : mputf ini o 12 36 pc ls (.int v :: .ref 24 :: st) (mk s) = if (12 : Nat) = 12 ∧ 36 < 41 ∧ mfit (mTyT 12 36) (.int v) = true ∧ ((mTT 12 36).2.2.2 = false ∨ (ini = true ∧ o = 12)) then some (.inl (pc + 3, ls, st, ((mk s).1, mup (mkc s) 24 _))) else none := rfl
  rw [e, if_pos ⟨rfl, by decide, rfl, Or.inl rfl⟩]
  exact congrArg (fun q => some (Sum.inl (pc + 3, ls, st, ((mk s).1, q)))) (mkI rfl)
theorem put_12_37 {X : mX} {M : mM} {j : Nat} {z : Int} {pc : Nat} {ls : mL} {st : List Value} {s : zS} {v : Int32} (hl : mlk M.2.1 j = (0, 12, 37, z)) : mact X M (.putfield j) pc ls (.int v :: .ref 24 :: st) (mk s) = some (.inl (pc + 3, ls, st, mk (setI s 24 37 v))) := by
  refine putf_eq hl ?_
  generalize (M.2.2.2.2.1.name == "<init>") = ini
  generalize M.2.1 = o
  have e : mputf ini o 12 37 pc ls (.int v :: .ref 24 :: st) (mk s) = if (12 : Nat) = 12 ∧ 37 < 41 ∧ mfit (mTyT 12 37) (.int v) = true ∧ ((mTT 12 37).2.2.2 = false ∨ (ini = true ∧ o = 12)) then some (.inl (pc + 3, ls, st, ((mk s).1, mup (mkc s) 24 _))) else none := rfl
  rw [e, if_pos ⟨rfl, by decide, rfl, Or.inl rfl⟩]
  exact congrArg (fun q => some (Sum.inl (pc + 3, ls, st, ((mk s).1, q)))) (mkI rfl)
theorem put_12_38 {X : mX} {M : mM} {j : Nat} {z : Int} {pc : Nat} {ls : mL} {st : List Value} {s : zS} {v : Int32} (hl : mlk M.2.1 j = (0, 12, 38, z)) : mact X M (.putfield j) pc ls (.int v :: .ref 24 :: st) (mk s) = some (.inl (pc + 3, ls, st, mk (setI s 24 38 v))) := by
  refine putf_eq hl ?_
  generalize (M.2.2.2.2.1.name == "<init>") = ini
  generalize M.2.1 = o
  have e : mputf ini o 12 38 pc ls (.int v :: .ref 24 :: st) (mk s) = if (12 : Nat) = 12 ∧ 38 < 41 ∧ mfit (mTyT 12 38) (.int v) = true ∧ ((mTT 12 38).2.2.2 = false ∨ (ini = true ∧ o = 12)) then some (.inl (pc + 3, ls, st, ((mk s).1, mup (mkc s) 24 _))) else none := rfl
  rw [e, if_pos ⟨rfl, by decide, rfl, Or.inl rfl⟩]
  exact congrArg (fun q => some (Sum.inl (pc + 3, ls, st, ((mk s).1, q)))) (mkI rfl)
theorem put_12_39 {X : mX} {M : mM} {j : Nat} {z : Int} {pc : Nat} {ls : mL} {st : List Value} {s : zS} {v : Int32} (hl : mlk M.2.1 j = (0, 12, 39, z)) : mact X M (.putfield j) pc ls (.int v :: .ref 24 :: st) (mk s) = some (.inl (pc + 3, ls, st, mk (setI s 24 39 v))) := by
  refine putf_eq hl ?_
  generalize (M.2.2.2.2.1.name == "<init>") = ini
  generalize M.2.1 = o
  have e : mputf ini o 12 39 pc ls (.int v :: .ref 24 :: st) (mk s) = if (12 : Nat) = 12 ∧ 39 < 41 ∧ mfit (mTyT 12 39) (.int v) = true ∧ ((mTT 12 39).2.2.2 = false ∨ (ini = true ∧ o = 12)) then some (.inl (pc + 3, ls, st, ((mk s).1, mup (mkc s) 24 _))) else none := rfl
  rw [e, if_pos ⟨rfl, by decide, rfl, Or.inl rfl⟩]
  exact congrArg (fun q => some (Sum.inl (pc + 3, ls, st, ((mk s).1, q)))) (mkI rfl)
theorem put_12_40 {X : mX} {M : mM} {j : Nat} {z : Int} {pc : Nat} {ls : mL} {st : List Value} {s : zS} {v : Int32} (hb : mBit v) (hl : mlk M.2.1 j = (0, 12, 40, z)) : mact X M (.putfield j) pc ls (.int v :: .ref 24 :: st) (mk s) = some (.inl (pc + 3, ls, st, mk (setI s 24 40 v))) := by
  refine putf_eq hl ?_
  generalize (M.2.2.2.2.1.name == "<init>") = ini
  generalize M.2.1 = o
  have e : mputf ini o 12 40 pc ls (.int v :: .ref 24 :: st) (mk s) = if (12 : Nat) = 12 ∧ 40 < 41 ∧ mfit (mTyT 12 40) (.int v) = true ∧ ((mTT 12 40).2.2.2 = false ∨ (ini = true ∧ o = 12)) then some (.inl (pc + 3, ls, st, ((mk s).1, mup (mkc s) 24 _))) else none := rfl
  rw [e, if_pos ⟨rfl, by decide, decide_eq_true hb, Or.inl rfl⟩]
  exact congrArg (fun q => some (Sum.inl (pc + 3, ls, st, ((mk s).1, q)))) (mkI rfl)
theorem put_13_1 {X : mX} {M : mM} {j : Nat} {z : Int} {pc : Nat} {ls : mL} {st : List Value} {s : zS} {v : Int32} {aa : Nat} (ha : zMdec aa) (hl : mlk M.2.1 j = (0, 13, 1, z)) : mact X M (.putfield j) pc ls (.int v :: .ref aa :: st) (mk s) = some (.inl (pc + 3, ls, st, mk (setI s aa 1 v))) := by
  refine putf_eq hl ?_
  generalize (M.2.2.2.2.1.name == "<init>") = ini
  generalize M.2.1 = o
  rcases ha with rfl | rfl | rfl
  · have e : mputf ini o 13 1 pc ls (.int v :: .ref 32 :: st) (mk s) = if (13 : Nat) = 13 ∧ 1 < 3 ∧ mfit (mTyT 13 1) (.int v) = true ∧ ((mTT 13 1).2.2.2 = false ∨ (ini = true ∧ o = 13)) then some (.inl (pc + 3, ls, st, ((mk s).1, mup (mkc s) 32 _))) else none := rfl
    rw [e, if_pos ⟨rfl, by decide, rfl, Or.inl rfl⟩]
    exact congrArg (fun q => some (Sum.inl (pc + 3, ls, st, ((mk s).1, q)))) (mkI rfl)
  · have e : mputf ini o 13 1 pc ls (.int v :: .ref 34 :: st) (mk s) = if (13 : Nat) = 13 ∧ 1 < 3 ∧ mfit (mTyT 13 1) (.int v) = true ∧ ((mTT 13 1).2.2.2 = false ∨ (ini = true ∧ o = 13)) then some (.inl (pc + 3, ls, st, ((mk s).1, mup (mkc s) 34 _))) else none := rfl
    rw [e, if_pos ⟨rfl, by decide, rfl, Or.inl rfl⟩]
    exact congrArg (fun q => some (Sum.inl (pc + 3, ls, st, ((mk s).1, q)))) (mkI rfl)
  · have e : mputf ini o 13 1 pc ls (.int v :: .ref 36 :: st) (mk s) = if (13 : Nat) = 13 ∧ 1 < 3 ∧ mfit (mTyT 13 1) (.int v) = true ∧ ((mTT 13 1).2.2.2 = false ∨ (ini = true ∧ o = 13)) then some (.inl (pc + 3, ls, st, ((mk s).1, mup (mkc s) 36 _))) else none := rfl
    rw [e, if_pos ⟨rfl, by decide, rfl, Or.inl rfl⟩]
    exact congrArg (fun q => some (Sum.inl (pc + 3, ls, st, ((mk s).1, q)))) (mkI rfl)
theorem put_13_2 {X : mX} {M : mM} {j : Nat} {z : Int} {pc : Nat} {ls : mL} {st : List Value} {s : zS} {v : Int32} {aa : Nat} (ha : zMdec aa) (hl : mlk M.2.1 j = (0, 13, 2, z)) : mact X M (.putfield j) pc ls (.int v :: .ref aa :: st) (mk s) = some (.inl (pc + 3, ls, st, mk (setI s aa 2 v))) := by
  refine putf_eq hl ?_
  generalize (M.2.2.2.2.1.name == "<init>") = ini
  generalize M.2.1 = o
  rcases ha with rfl | rfl | rfl
  · have e : mputf ini o 13 2 pc ls (.int v :: .ref 32 :: st) (mk s) = if (13 : Nat) = 13 ∧ 2 < 3 ∧ mfit (mTyT 13 2) (.int v) = true ∧ ((mTT 13 2).2.2.2 = false ∨ (ini = true ∧ o = 13)) then some (.inl (pc + 3, ls, st, ((mk s).1, mup (mkc s) 32 _))) else none := rfl
    rw [e, if_pos ⟨rfl, by decide, rfl, Or.inl rfl⟩]
    exact congrArg (fun q => some (Sum.inl (pc + 3, ls, st, ((mk s).1, q)))) (mkI rfl)
  · have e : mputf ini o 13 2 pc ls (.int v :: .ref 34 :: st) (mk s) = if (13 : Nat) = 13 ∧ 2 < 3 ∧ mfit (mTyT 13 2) (.int v) = true ∧ ((mTT 13 2).2.2.2 = false ∨ (ini = true ∧ o = 13)) then some (.inl (pc + 3, ls, st, ((mk s).1, mup (mkc s) 34 _))) else none := rfl
    rw [e, if_pos ⟨rfl, by decide, rfl, Or.inl rfl⟩]
    exact congrArg (fun q => some (Sum.inl (pc + 3, ls, st, ((mk s).1, q)))) (mkI rfl)
  · have e : mputf ini o 13 2 pc ls (.int v :: .ref 36 :: st) (mk s) = if (13 : Nat) = 13 ∧ 2 < 3 ∧ mfit (mTyT 13 2) (.int v) = true ∧ ((mTT 13 2).2.2.2 = false ∨ (ini = true ∧ o = 13)) then some (.inl (pc + 3, ls, st, ((mk s).1, mup (mkc s) 36 _))) else none := rfl
    rw [e, if_pos ⟨rfl, by decide, rfl, Or.inl rfl⟩]
    exact congrArg (fun q => some (Sum.inl (pc + 3, ls, st, ((mk s).1, q)))) (mkI rfl)
theorem ast_2 {X : mX} {M : mM} {pc : Nat} {ls : mL} {st : List Value} {s : zS} {v : Int32} {i : Int32} (hx : mIx i 800) : mact X M .bastore pc ls (.int v :: .int i :: .ref 2 :: st) (mk s) = some (.inl (pc + 1, ls, st, mk (setB s 2 i.toNatClampNeg (zI2B v)))) := by
  have e : mact X M .bastore pc ls (.int v :: .int i :: .ref 2 :: st) (mk s) = if FieldType.byte = .byte ∧ ¬ (i < 0 ∨ 800 ≤ i.toNatClampNeg) then some (.inl (pc + 1, ls, st, ((mk s).1, mup (mkc s) 2 _))) else none := rfl
  rw [e, if_pos ⟨rfl, hx⟩]
  exact congrArg (fun q => some (Sum.inl (pc + 1, ls, st, ((mk s).1, q)))) (mkB rfl)
theorem ast_4 {X : mX} {M : mM} {pc : Nat} {ls : mL} {st : List Value} {s : zS} {v : Int32} {i : Int32} (hx : mIx i 400) : mact X M .bastore pc ls (.int v :: .int i :: .ref 4 :: st) (mk s) = some (.inl (pc + 1, ls, st, mk (setB s 4 i.toNatClampNeg (zI2B v)))) := by
  have e : mact X M .bastore pc ls (.int v :: .int i :: .ref 4 :: st) (mk s) = if FieldType.byte = .byte ∧ ¬ (i < 0 ∨ 400 ≤ i.toNatClampNeg) then some (.inl (pc + 1, ls, st, ((mk s).1, mup (mkc s) 4 _))) else none := rfl
  rw [e, if_pos ⟨rfl, hx⟩]
  exact congrArg (fun q => some (Sum.inl (pc + 1, ls, st, ((mk s).1, q)))) (mkB rfl)
theorem ast_6 {X : mX} {M : mM} {pc : Nat} {ls : mL} {st : List Value} {s : zS} {v : Int32} {i : Int32} (hx : mIx i 6000) : mact X M .bastore pc ls (.int v :: .int i :: .ref 6 :: st) (mk s) = some (.inl (pc + 1, ls, st, mk (setB s 6 i.toNatClampNeg (zI2B v)))) := by
  have e : mact X M .bastore pc ls (.int v :: .int i :: .ref 6 :: st) (mk s) = if FieldType.byte = .byte ∧ ¬ (i < 0 ∨ 6000 ≤ i.toNatClampNeg) then some (.inl (pc + 1, ls, st, ((mk s).1, mup (mkc s) 6 _))) else none := rfl
  rw [e, if_pos ⟨rfl, hx⟩]
  exact congrArg (fun q => some (Sum.inl (pc + 1, ls, st, ((mk s).1, q)))) (mkB rfl)
theorem ast_9 {X : mX} {M : mM} {pc : Nat} {ls : mL} {st : List Value} {s : zS} {v : Int32} {i : Int32} (hx : mIx i 24) : mact X M .iastore pc ls (.int v :: .int i :: .ref 9 :: st) (mk s) = some (.inl (pc + 1, ls, st, mk (setB s 9 i.toNatClampNeg v))) := by
  have e : mact X M .iastore pc ls (.int v :: .int i :: .ref 9 :: st) (mk s) = if FieldType.int = .int ∧ ¬ (i < 0 ∨ 24 ≤ i.toNatClampNeg) then some (.inl (pc + 1, ls, st, ((mk s).1, mup (mkc s) 9 _))) else none := rfl
  rw [e, if_pos ⟨rfl, hx⟩]
  exact congrArg (fun q => some (Sum.inl (pc + 1, ls, st, ((mk s).1, q)))) (mkB rfl)
theorem ast_10 {X : mX} {M : mM} {pc : Nat} {ls : mL} {st : List Value} {s : zS} {v : Int64} {i : Int32} (hx : mIx i 24) : mact X M .lastore pc ls (.long v :: .int i :: .ref 10 :: st) (mk s) = some (.inl (pc + 1, ls, st, mk (setK s 10 i.toNatClampNeg v))) := by
  have e : mact X M .lastore pc ls (.long v :: .int i :: .ref 10 :: st) (mk s) = if FieldType.long = .long ∧ ¬ (i < 0 ∨ 24 ≤ i.toNatClampNeg) then some (.inl (pc + 1, ls, st, ((mk s).1, mup (mkc s) 10 _))) else none := rfl
  rw [e, if_pos ⟨rfl, hx⟩]
  exact congrArg (fun q => some (Sum.inl (pc + 1, ls, st, ((mk s).1, q)))) (mkK rfl)
theorem ast_11 {X : mX} {M : mM} {pc : Nat} {ls : mL} {st : List Value} {s : zS} {v : Int32} {i : Int32} (hx : mIx i 4800) : mact X M .bastore pc ls (.int v :: .int i :: .ref 11 :: st) (mk s) = some (.inl (pc + 1, ls, st, mk (setB s 11 i.toNatClampNeg (zI2B v)))) := by
  have e : mact X M .bastore pc ls (.int v :: .int i :: .ref 11 :: st) (mk s) = if FieldType.byte = .byte ∧ ¬ (i < 0 ∨ 4800 ≤ i.toNatClampNeg) then some (.inl (pc + 1, ls, st, ((mk s).1, mup (mkc s) 11 _))) else none := rfl
  rw [e, if_pos ⟨rfl, hx⟩]
  exact congrArg (fun q => some (Sum.inl (pc + 1, ls, st, ((mk s).1, q)))) (mkB rfl)
theorem ast_14 {X : mX} {M : mM} {pc : Nat} {ls : mL} {st : List Value} {s : zS} {v : Int32} {i : Int32} (hx : mIx i 1600) : mact X M .bastore pc ls (.int v :: .int i :: .ref 14 :: st) (mk s) = some (.inl (pc + 1, ls, st, mk (setB s 14 i.toNatClampNeg (zI2B v)))) := by
  have e : mact X M .bastore pc ls (.int v :: .int i :: .ref 14 :: st) (mk s) = if FieldType.byte = .byte ∧ ¬ (i < 0 ∨ 1600 ≤ i.toNatClampNeg) then some (.inl (pc + 1, ls, st, ((mk s).1, mup (mkc s) 14 _))) else none := rfl
  rw [e, if_pos ⟨rfl, hx⟩]
  exact congrArg (fun q => some (Sum.inl (pc + 1, ls, st, ((mk s).1, q)))) (mkB rfl)
theorem ast_17 {X : mX} {M : mM} {pc : Nat} {ls : mL} {st : List Value} {s : zS} {v : Int64} {i : Int32} (hx : mIx i 96) : mact X M .lastore pc ls (.long v :: .int i :: .ref 17 :: st) (mk s) = some (.inl (pc + 1, ls, st, mk (setK s 17 i.toNatClampNeg v))) := by
  have e : mact X M .lastore pc ls (.long v :: .int i :: .ref 17 :: st) (mk s) = if FieldType.long = .long ∧ ¬ (i < 0 ∨ 96 ≤ i.toNatClampNeg) then some (.inl (pc + 1, ls, st, ((mk s).1, mup (mkc s) 17 _))) else none := rfl
  rw [e, if_pos ⟨rfl, hx⟩]
  exact congrArg (fun q => some (Sum.inl (pc + 1, ls, st, ((mk s).1, q)))) (mkK rfl)
theorem ast_18 {X : mX} {M : mM} {pc : Nat} {ls : mL} {st : List Value} {s : zS} {v : Int32} {i : Int32} (hx : mIx i 864) : mact X M .bastore pc ls (.int v :: .int i :: .ref 18 :: st) (mk s) = some (.inl (pc + 1, ls, st, mk (setB s 18 i.toNatClampNeg (zI2B v)))) := by
  have e : mact X M .bastore pc ls (.int v :: .int i :: .ref 18 :: st) (mk s) = if FieldType.byte = .byte ∧ ¬ (i < 0 ∨ 864 ≤ i.toNatClampNeg) then some (.inl (pc + 1, ls, st, ((mk s).1, mup (mkc s) 18 _))) else none := rfl
  rw [e, if_pos ⟨rfl, hx⟩]
  exact congrArg (fun q => some (Sum.inl (pc + 1, ls, st, ((mk s).1, q)))) (mkB rfl)
theorem ast_23 {X : mX} {M : mM} {pc : Nat} {ls : mL} {st : List Value} {s : zS} {v : Int64} {i : Int32} (hx : mIx i 128) : mact X M .lastore pc ls (.long v :: .int i :: .ref 23 :: st) (mk s) = some (.inl (pc + 1, ls, st, mk (setK s 23 i.toNatClampNeg v))) := by
  have e : mact X M .lastore pc ls (.long v :: .int i :: .ref 23 :: st) (mk s) = if FieldType.long = .long ∧ ¬ (i < 0 ∨ 128 ≤ i.toNatClampNeg) then some (.inl (pc + 1, ls, st, ((mk s).1, mup (mkc s) 23 _))) else none := rfl
  rw [e, if_pos ⟨rfl, hx⟩]
  exact congrArg (fun q => some (Sum.inl (pc + 1, ls, st, ((mk s).1, q)))) (mkK rfl)
theorem ast_25 {X : mX} {M : mM} {pc : Nat} {ls : mL} {st : List Value} {s : zS} {v : Int32} {i : Int32} (hx : mIx i 800) : mact X M .bastore pc ls (.int v :: .int i :: .ref 25 :: st) (mk s) = some (.inl (pc + 1, ls, st, mk (setB s 25 i.toNatClampNeg (zI2B v)))) := by
  have e : mact X M .bastore pc ls (.int v :: .int i :: .ref 25 :: st) (mk s) = if FieldType.byte = .byte ∧ ¬ (i < 0 ∨ 800 ≤ i.toNatClampNeg) then some (.inl (pc + 1, ls, st, ((mk s).1, mup (mkc s) 25 _))) else none := rfl
  rw [e, if_pos ⟨rfl, hx⟩]
  exact congrArg (fun q => some (Sum.inl (pc + 1, ls, st, ((mk s).1, q)))) (mkB rfl)
theorem ast_26 {X : mX} {M : mM} {pc : Nat} {ls : mL} {st : List Value} {s : zS} {v : Int32} {i : Int32} (hx : mIx i 400) : mact X M .bastore pc ls (.int v :: .int i :: .ref 26 :: st) (mk s) = some (.inl (pc + 1, ls, st, mk (setB s 26 i.toNatClampNeg (zI2B v)))) := by
  have e : mact X M .bastore pc ls (.int v :: .int i :: .ref 26 :: st) (mk s) = if FieldType.byte = .byte ∧ ¬ (i < 0 ∨ 400 ≤ i.toNatClampNeg) then some (.inl (pc + 1, ls, st, ((mk s).1, mup (mkc s) 26 _))) else none := rfl
  rw [e, if_pos ⟨rfl, hx⟩]
  exact congrArg (fun q => some (Sum.inl (pc + 1, ls, st, ((mk s).1, q)))) (mkB rfl)
theorem ast_27 {X : mX} {M : mM} {pc : Nat} {ls : mL} {st : List Value} {s : zS} {v : Int32} {i : Int32} (hx : mIx i 10000) : mact X M .bastore pc ls (.int v :: .int i :: .ref 27 :: st) (mk s) = some (.inl (pc + 1, ls, st, mk (setB s 27 i.toNatClampNeg (zI2B v)))) := by
  have e : mact X M .bastore pc ls (.int v :: .int i :: .ref 27 :: st) (mk s) = if FieldType.byte = .byte ∧ ¬ (i < 0 ∨ 10000 ≤ i.toNatClampNeg) then some (.inl (pc + 1, ls, st, ((mk s).1, mup (mkc s) 27 _))) else none := rfl
  rw [e, if_pos ⟨rfl, hx⟩]
  exact congrArg (fun q => some (Sum.inl (pc + 1, ls, st, ((mk s).1, q)))) (mkB rfl)
theorem ast_28 {X : mX} {M : mM} {pc : Nat} {ls : mL} {st : List Value} {s : zS} {v : Int32} {i : Int32} (hx : mIx i 4800) : mact X M .bastore pc ls (.int v :: .int i :: .ref 28 :: st) (mk s) = some (.inl (pc + 1, ls, st, mk (setB s 28 i.toNatClampNeg (zI2B v)))) := by
  have e : mact X M .bastore pc ls (.int v :: .int i :: .ref 28 :: st) (mk s) = if FieldType.byte = .byte ∧ ¬ (i < 0 ∨ 4800 ≤ i.toNatClampNeg) then some (.inl (pc + 1, ls, st, ((mk s).1, mup (mkc s) 28 _))) else none := rfl
  rw [e, if_pos ⟨rfl, hx⟩]
  exact congrArg (fun q => some (Sum.inl (pc + 1, ls, st, ((mk s).1, q)))) (mkB rfl)
theorem ast_29 {X : mX} {M : mM} {pc : Nat} {ls : mL} {st : List Value} {s : zS} {v : Int32} {i : Int32} (hx : mIx i 24) : mact X M .iastore pc ls (.int v :: .int i :: .ref 29 :: st) (mk s) = some (.inl (pc + 1, ls, st, mk (setB s 29 i.toNatClampNeg v))) := by
  have e : mact X M .iastore pc ls (.int v :: .int i :: .ref 29 :: st) (mk s) = if FieldType.int = .int ∧ ¬ (i < 0 ∨ 24 ≤ i.toNatClampNeg) then some (.inl (pc + 1, ls, st, ((mk s).1, mup (mkc s) 29 _))) else none := rfl
  rw [e, if_pos ⟨rfl, hx⟩]
  exact congrArg (fun q => some (Sum.inl (pc + 1, ls, st, ((mk s).1, q)))) (mkB rfl)
theorem ast_30 {X : mX} {M : mM} {pc : Nat} {ls : mL} {st : List Value} {s : zS} {v : Int32} {i : Int32} (hx : mIx i 24) : mact X M .iastore pc ls (.int v :: .int i :: .ref 30 :: st) (mk s) = some (.inl (pc + 1, ls, st, mk (setB s 30 i.toNatClampNeg v))) := by
  have e : mact X M .iastore pc ls (.int v :: .int i :: .ref 30 :: st) (mk s) = if FieldType.int = .int ∧ ¬ (i < 0 ∨ 24 ≤ i.toNatClampNeg) then some (.inl (pc + 1, ls, st, ((mk s).1, mup (mkc s) 30 _))) else none := rfl
  rw [e, if_pos ⟨rfl, hx⟩]
  exact congrArg (fun q => some (Sum.inl (pc + 1, ls, st, ((mk s).1, q)))) (mkB rfl)
theorem ast_31 {X : mX} {M : mM} {pc : Nat} {ls : mL} {st : List Value} {s : zS} {v : Int64} {i : Int32} (hx : mIx i 24) : mact X M .lastore pc ls (.long v :: .int i :: .ref 31 :: st) (mk s) = some (.inl (pc + 1, ls, st, mk (setK s 31 i.toNatClampNeg v))) := by
  have e : mact X M .lastore pc ls (.long v :: .int i :: .ref 31 :: st) (mk s) = if FieldType.long = .long ∧ ¬ (i < 0 ∨ 24 ≤ i.toNatClampNeg) then some (.inl (pc + 1, ls, st, ((mk s).1, mup (mkc s) 31 _))) else none := rfl
  rw [e, if_pos ⟨rfl, hx⟩]
  exact congrArg (fun q => some (Sum.inl (pc + 1, ls, st, ((mk s).1, q)))) (mkK rfl)
theorem ast_33 {X : mX} {M : mM} {pc : Nat} {ls : mL} {st : List Value} {s : zS} {v : Int32} {i : Int32} (hx : mIx i 465) : mact X M .iastore pc ls (.int v :: .int i :: .ref 33 :: st) (mk s) = some (.inl (pc + 1, ls, st, mk (setB s 33 i.toNatClampNeg v))) := by
  have e : mact X M .iastore pc ls (.int v :: .int i :: .ref 33 :: st) (mk s) = if FieldType.int = .int ∧ ¬ (i < 0 ∨ 465 ≤ i.toNatClampNeg) then some (.inl (pc + 1, ls, st, ((mk s).1, mup (mkc s) 33 _))) else none := rfl
  rw [e, if_pos ⟨rfl, hx⟩]
  exact congrArg (fun q => some (Sum.inl (pc + 1, ls, st, ((mk s).1, q)))) (mkB rfl)
theorem ast_35 {X : mX} {M : mM} {pc : Nat} {ls : mL} {st : List Value} {s : zS} {v : Int32} {i : Int32} (hx : mIx i 465) : mact X M .iastore pc ls (.int v :: .int i :: .ref 35 :: st) (mk s) = some (.inl (pc + 1, ls, st, mk (setB s 35 i.toNatClampNeg v))) := by
  have e : mact X M .iastore pc ls (.int v :: .int i :: .ref 35 :: st) (mk s) = if FieldType.int = .int ∧ ¬ (i < 0 ∨ 465 ≤ i.toNatClampNeg) then some (.inl (pc + 1, ls, st, ((mk s).1, mup (mkc s) 35 _))) else none := rfl
  rw [e, if_pos ⟨rfl, hx⟩]
  exact congrArg (fun q => some (Sum.inl (pc + 1, ls, st, ((mk s).1, q)))) (mkB rfl)
theorem ast_37 {X : mX} {M : mM} {pc : Nat} {ls : mL} {st : List Value} {s : zS} {v : Int32} {i : Int32} (hx : mIx i 465) : mact X M .iastore pc ls (.int v :: .int i :: .ref 37 :: st) (mk s) = some (.inl (pc + 1, ls, st, mk (setB s 37 i.toNatClampNeg v))) := by
  have e : mact X M .iastore pc ls (.int v :: .int i :: .ref 37 :: st) (mk s) = if FieldType.int = .int ∧ ¬ (i < 0 ∨ 465 ≤ i.toNatClampNeg) then some (.inl (pc + 1, ls, st, ((mk s).1, mup (mkc s) 37 _))) else none := rfl
  rw [e, if_pos ⟨rfl, hx⟩]
  exact congrArg (fun q => some (Sum.inl (pc + 1, ls, st, ((mk s).1, q)))) (mkB rfl)
theorem ast_38 {X : mX} {M : mM} {pc : Nat} {ls : mL} {st : List Value} {s : zS} {v : Int32} {i : Int32} (hx : mIx i 2400) : mact X M .bastore pc ls (.int v :: .int i :: .ref 38 :: st) (mk s) = some (.inl (pc + 1, ls, st, mk (setB s 38 i.toNatClampNeg (zI2B v)))) := by
  have e : mact X M .bastore pc ls (.int v :: .int i :: .ref 38 :: st) (mk s) = if FieldType.byte = .byte ∧ ¬ (i < 0 ∨ 2400 ≤ i.toNatClampNeg) then some (.inl (pc + 1, ls, st, ((mk s).1, mup (mkc s) 38 _))) else none := rfl
  rw [e, if_pos ⟨rfl, hx⟩]
  exact congrArg (fun q => some (Sum.inl (pc + 1, ls, st, ((mk s).1, q)))) (mkB rfl)
theorem ast_39 {X : mX} {M : mM} {pc : Nat} {ls : mL} {st : List Value} {s : zS} {v : Int32} {i : Int32} (hx : mIx i 12000) : mact X M .bastore pc ls (.int v :: .int i :: .ref 39 :: st) (mk s) = some (.inl (pc + 1, ls, st, mk (setB s 39 i.toNatClampNeg (zI2B v)))) := by
  have e : mact X M .bastore pc ls (.int v :: .int i :: .ref 39 :: st) (mk s) = if FieldType.byte = .byte ∧ ¬ (i < 0 ∨ 12000 ≤ i.toNatClampNeg) then some (.inl (pc + 1, ls, st, ((mk s).1, mup (mkc s) 39 _))) else none := rfl
  rw [e, if_pos ⟨rfl, hx⟩]
  exact congrArg (fun q => some (Sum.inl (pc + 1, ls, st, ((mk s).1, q)))) (mkB rfl)
theorem ast_40 {X : mX} {M : mM} {pc : Nat} {ls : mL} {st : List Value} {s : zS} {v : Int32} {i : Int32} (hx : mIx i 6000) : mact X M .bastore pc ls (.int v :: .int i :: .ref 40 :: st) (mk s) = some (.inl (pc + 1, ls, st, mk (setB s 40 i.toNatClampNeg (zI2B v)))) := by
  have e : mact X M .bastore pc ls (.int v :: .int i :: .ref 40 :: st) (mk s) = if FieldType.byte = .byte ∧ ¬ (i < 0 ∨ 6000 ≤ i.toNatClampNeg) then some (.inl (pc + 1, ls, st, ((mk s).1, mup (mkc s) 40 _))) else none := rfl
  rw [e, if_pos ⟨rfl, hx⟩]
  exact congrArg (fun q => some (Sum.inl (pc + 1, ls, st, ((mk s).1, q)))) (mkB rfl)
theorem ast_41 {X : mX} {M : mM} {pc : Nat} {ls : mL} {st : List Value} {s : zS} {v : Int64} {i : Int32} (hx : mIx i 1) : mact X M .lastore pc ls (.long v :: .int i :: .ref 41 :: st) (mk s) = some (.inl (pc + 1, ls, st, mk (setK s 41 i.toNatClampNeg v))) := by
  have e : mact X M .lastore pc ls (.long v :: .int i :: .ref 41 :: st) (mk s) = if FieldType.long = .long ∧ ¬ (i < 0 ∨ 1 ≤ i.toNatClampNeg) then some (.inl (pc + 1, ls, st, ((mk s).1, mup (mkc s) 41 _))) else none := rfl
  rw [e, if_pos ⟨rfl, hx⟩]
  exact congrArg (fun q => some (Sum.inl (pc + 1, ls, st, ((mk s).1, q)))) (mkK rfl)
theorem astL {X : mX} {M : mM} {aa pc : Nat} {ls : mL} {st : List Value} {s : zS} {v i : Int32} (ha : zLine aa) (hx : mIx i (zLen aa)) : mact X M .bastore pc ls (.int v :: .int i :: .ref (aa + 1) :: st) (mk s) = some (.inl (pc + 1, ls, st, mk (setB s (aa + 1) i.toNatClampNeg (zI2B v)))) := by
  rcases ha with rfl | rfl | rfl
  · exact ast_2 hx
  · exact ast_4 hx
  · exact ast_6 hx
theorem astM {X : mX} {M : mM} {aa pc : Nat} {ls : mL} {st : List Value} {s : zS} {v i : Int32} (ha : zMdec aa) (hx : mIx i 465) : mact X M .iastore pc ls (.int v :: .int i :: .ref (aa + 1) :: st) (mk s) = some (.inl (pc + 1, ls, st, mk (setB s (aa + 1) i.toNatClampNeg v))) := by
  rcases ha with rfl | rfl | rfl
  · exact ast_33 hx
  · exact ast_35 hx
  · exact ast_37 hx
theorem cpy_2_4 {X : mX} {M : mM} {j : Nat} {z1 z2 : Nat} {z : Int} {pc : Nat} {ls : mL} {st : List Value} {s : zS} {n sp dp : Int32} (hl : mlk M.2.1 j = (11, z1, z2, z)) (hs : Nat.ble (st.map Value.category).sum 8 = true) (hx : mCp sp dp n 800 400) : mact X M (.invokestatic j) pc ls (.int n :: .int dp :: .ref 4 :: .int sp :: .ref 2 :: st) (mk s) = some (.inl (pc + 3, ls, st, mk (setA s 4 (va_cpy (s.1 2) (s.1 4) sp.toNatClampNeg dp.toNatClampNeg n.toNatClampNeg)))) := by
  have hs' := Nat.le_of_ble_eq_true hs
  have e0 : ∀ st' h', mact X M (.invokestatic j) pc ls st' h' = (match mlk M.2.1 j with
    | (1, k, n, _) => mcallS k n st'
    | (11, _, _, _) => mcopy pc ls st' h'
    | _ => none) := fun _ _ => rfl
  rw [e0, hl]
  show mcopy pc ls (.int n :: .int dp :: .ref 4 :: .int sp :: .ref 2 :: st) (mk s) = _
  have e : mcopy pc ls (.int n :: .int dp :: .ref 4 :: .int sp :: .ref 2 :: st) (mk s) = if ((2 < mRO ∧ 2 < 42) ∧ (4 < mRO ∧ 4 < 42) ∧ (st.map fun v => v.category).sum ≤ 8) then (if ¬ sp < 0 ∧ ¬ dp < 0 ∧ ¬ n < 0 ∧ sp.toNatClampNeg + n.toNatClampNeg ≤ 800 ∧ dp.toNatClampNeg + n.toNatClampNeg ≤ 400 then some (.inl (pc + 3, ls, st, ((mk s).1, mup (mkc s) 4 _))) else none) else none := rfl
  rw [e, if_pos ⟨by decide, by decide, hs'⟩, if_pos hx]
  exact congrArg (fun q => some (Sum.inl (pc + 3, ls, st, ((mk s).1, q)))) (mkA rfl)
theorem cpy_25_26 {X : mX} {M : mM} {j : Nat} {z1 z2 : Nat} {z : Int} {pc : Nat} {ls : mL} {st : List Value} {s : zS} {n sp dp : Int32} (hl : mlk M.2.1 j = (11, z1, z2, z)) (hs : Nat.ble (st.map Value.category).sum 8 = true) (hx : mCp sp dp n 800 400) : mact X M (.invokestatic j) pc ls (.int n :: .int dp :: .ref 26 :: .int sp :: .ref 25 :: st) (mk s) = some (.inl (pc + 3, ls, st, mk (setA s 26 (va_cpy (s.1 25) (s.1 26) sp.toNatClampNeg dp.toNatClampNeg n.toNatClampNeg)))) := by
  have hs' := Nat.le_of_ble_eq_true hs
  have e0 : ∀ st' h', mact X M (.invokestatic j) pc ls st' h' = (match mlk M.2.1 j with
    | (1, k, n, _) => mcallS k n st'
    | (11, _, _, _) => mcopy pc ls st' h'
    | _ => none) := fun _ _ => rfl
  rw [e0, hl]
  show mcopy pc ls (.int n :: .int dp :: .ref 26 :: .int sp :: .ref 25 :: st) (mk s) = _
  have e : mcopy pc ls (.int n :: .int dp :: .ref 26 :: .int sp :: .ref 25 :: st) (mk s) = if ((25 < mRO ∧ 25 < 42) ∧ (26 < mRO ∧ 26 < 42) ∧ (st.map fun v => v.category).sum ≤ 8) then (if ¬ sp < 0 ∧ ¬ dp < 0 ∧ ¬ n < 0 ∧ sp.toNatClampNeg + n.toNatClampNeg ≤ 800 ∧ dp.toNatClampNeg + n.toNatClampNeg ≤ 400 then some (.inl (pc + 3, ls, st, ((mk s).1, mup (mkc s) 26 _))) else none) else none := rfl
  rw [e, if_pos ⟨by decide, by decide, hs'⟩, if_pos hx]
  exact congrArg (fun q => some (Sum.inl (pc + 3, ls, st, ((mk s).1, q)))) (mkA rfl)
theorem cpy_25_28 {X : mX} {M : mM} {j : Nat} {z1 z2 : Nat} {z : Int} {pc : Nat} {ls : mL} {st : List Value} {s : zS} {n sp dp : Int32} (hl : mlk M.2.1 j = (11, z1, z2, z)) (hs : Nat.ble (st.map Value.category).sum 8 = true) (hx : mCp sp dp n 800 4800) : mact X M (.invokestatic j) pc ls (.int n :: .int dp :: .ref 28 :: .int sp :: .ref 25 :: st) (mk s) = some (.inl (pc + 3, ls, st, mk (setA s 28 (va_cpy (s.1 25) (s.1 28) sp.toNatClampNeg dp.toNatClampNeg n.toNatClampNeg)))) := by
  have hs' := Nat.le_of_ble_eq_true hs
  have e0 : ∀ st' h', mact X M (.invokestatic j) pc ls st' h' = (match mlk M.2.1 j with
    | (1, k, n, _) => mcallS k n st'
    | (11, _, _, _) => mcopy pc ls st' h'
    | _ => none) := fun _ _ => rfl
  rw [e0, hl]
  show mcopy pc ls (.int n :: .int dp :: .ref 28 :: .int sp :: .ref 25 :: st) (mk s) = _
  have e : mcopy pc ls (.int n :: .int dp :: .ref 28 :: .int sp :: .ref 25 :: st) (mk s) = if ((25 < mRO ∧ 25 < 42) ∧ (28 < mRO ∧ 28 < 42) ∧ (st.map fun v => v.category).sum ≤ 8) then (if ¬ sp < 0 ∧ ¬ dp < 0 ∧ ¬ n < 0 ∧ sp.toNatClampNeg + n.toNatClampNeg ≤ 800 ∧ dp.toNatClampNeg + n.toNatClampNeg ≤ 4800 then some (.inl (pc + 3, ls, st, ((mk s).1, mup (mkc s) 28 _))) else none) else none := rfl
  rw [e, if_pos ⟨by decide, by decide, hs'⟩, if_pos hx]
  exact congrArg (fun q => some (Sum.inl (pc + 3, ls, st, ((mk s).1, q)))) (mkA rfl)
/-! rules -/
def zlet {α β : Type} (a : α) (g : α → β) : β := g a
theorem zlet_eq {α β : Type} {a : α} {g : α → Option β} {r : β} (h : zlet a g = some r) : g a = some r := h
def zb0 {β : Type} (o : Option zS) (g : zS → Option β) : Option β := match o with
  | none => none
  | some s => g s
def zb1 {α β : Type} (o : Option (α × zS)) (g : α → zS → Option β) : Option β := match o with
  | none => none
  | some p => g p.1 p.2
def zbT {α β : Type} (o : Option ((α ⊕ Nat) × zS)) (g : α → zS → Option β) (e : Nat → zS → Option β) : Option β := match o with
  | none => none
  | some (.inl v, s) => g v s
  | some (.inr x, s) => e x s
theorem zb0_some {β : Type} {o : Option zS} {g : zS → Option β} {r : β} (h : zb0 o g = some r) : ∃ s, o = some s ∧ g s = some r := by
  cases o with
  | none => cases h
  | some s => exact ⟨s, rfl, h⟩
theorem zb1_some {α β : Type} {o : Option (α × zS)} {g : α → zS → Option β} {r : β} (h : zb1 o g = some r) : ∃ v s, o = some (v, s) ∧ g v s = some r := by
  cases o with
  | none => cases h
  | some p => exact ⟨p.1, p.2, rfl, h⟩
theorem zbT_some {α β : Type} {o : Option ((α ⊕ Nat) × zS)} {g : α → zS → Option β} {e : Nat → zS → Option β} {r : β} (h : zbT o g e = some r) : (∃ v s, o = some (.inl v, s) ∧ g v s = some r) ∨ (∃ x s, o = some (.inr x, s) ∧ e x s = some r) := by
  match o, h with
  | some (.inl v, s), h => exact .inl ⟨v, s, rfl, h⟩
  | some (.inr x, s), h => exact .inr ⟨x, s, rfl, h⟩
theorem zif {β : Type} {c : Prop} {hd : Decidable c} {a : Option β} {r : β} (h : (if c then a else none) = some r) : c ∧ a = some r := by
  by_cases hc : c
  · exact ⟨hc, (if_pos hc).symm.trans h⟩
  · rw [if_neg hc] at h
    cases h
def encI (r : Int32 × zS) : mO × mH := (.inl (some (.int r.1)), mk r.2)
def encL (r : Int64 × zS) : mO × mH := (.inl (some (.long r.1)), mk r.2)
def encV (r : zS) : mO × mH := (.inl none, mk r)
def encR (r : Nat × zS) : mO × mH := (.inl (some (.ref (mRO + 3 + 2 * r.1))), mk r.2)
def encTI (r : (Int32 ⊕ Nat) × zS) : mO × mH := (match r.1 with
  | .inl v => .inl (some (.int v))
  | .inr x => .inr x, mk r.2)
def encTL (r : (Int64 ⊕ Nat) × zS) : mO × mH := (match r.1 with
  | .inl v => .inl (some (.long v))
  | .inr x => .inr x, mk r.2)
theorem idiv_ok {X : mX} {M : mM} {pc : Nat} {ls : mL} {x y : Int32} {st : List Value} {h : mH} (hy : ¬ y = zi 0) : mact X M .idiv pc ls (.int y :: .int x :: st) h = some (.inl (pc + 1, ls, .int (x / y) :: st, h)) := if_neg hy
theorem irem_ok {X : mX} {M : mM} {pc : Nat} {ls : mL} {x y : Int32} {st : List Value} {h : mH} (hy : ¬ y = zi 0) : mact X M .irem pc ls (.int y :: .int x :: st) h = some (.inl (pc + 1, ls, .int (zrem x y) :: st, h)) := if_neg hy
theorem ldiv_ok {X : mX} {M : mM} {pc : Nat} {ls : mL} {x y : Int64} {st : List Value} {h : mH} (hy : ¬ y = zl 0) : mact X M .ldiv pc ls (.long y :: .long x :: st) h = some (.inl (pc + 1, ls, .long (x / y) :: st, h)) := if_neg hy
theorem lrem_ok {X : mX} {M : mM} {pc : Nat} {ls : mL} {x y : Int64} {st : List Value} {h : mH} (hy : ¬ y = zl 0) : mact X M .lrem pc ls (.long y :: .long x :: st) h = some (.inl (pc + 1, ls, .long (zremL x y) :: st, h)) := if_neg hy
theorem ald_i {X : mX} {M : mM} {h : mH} {a n : Nat} {f : Nat → Int32} {i : Int32} {pc : Nat} {ls : mL} {st : List Value} (hg : mget X h a = some (.inl (.int, n, .inl f))) (hx : mIx i n) : mact X M .iaload pc ls (.int i :: .ref a :: st) h = some (.inl (pc + 1, ls, .int (f i.toNatClampNeg) :: st, h)) := by
  have e : mact X M .iaload pc ls (.int i :: .ref a :: st) h = mald X .int pc ls (.int i :: .ref a :: st) h := rfl
  rw [e]
  simp only [mald, hg]
  rw [if_pos ⟨trivial, hx⟩]
  rfl
theorem ald_b {X : mX} {M : mM} {h : mH} {a n : Nat} {f : Nat → Int32} {i : Int32} {pc : Nat} {ls : mL} {st : List Value} (hg : mget X h a = some (.inl (.byte, n, .inl f))) (hx : mIx i n) : mact X M .baload pc ls (.int i :: .ref a :: st) h = some (.inl (pc + 1, ls, .int (f i.toNatClampNeg) :: st, h)) := by
  have e : mact X M .baload pc ls (.int i :: .ref a :: st) h = mald X .byte pc ls (.int i :: .ref a :: st) h := rfl
  rw [e]
  simp only [mald, hg]
  rw [if_pos ⟨trivial, hx⟩]
  rfl
theorem ald_l {X : mX} {M : mM} {h : mH} {a n : Nat} {f : Nat → Int64} {i : Int32} {pc : Nat} {ls : mL} {st : List Value} (hg : mget X h a = some (.inl (.long, n, .inr (.inl f)))) (hx : mIx i n) : mact X M .laload pc ls (.int i :: .ref a :: st) h = some (.inl (pc + 1, ls, .long (f i.toNatClampNeg) :: st, h)) := by
  have e : mact X M .laload pc ls (.int i :: .ref a :: st) h = mlald X pc ls (.int i :: .ref a :: st) h := rfl
  rw [e]
  simp only [mlald, hg]
  rw [if_pos ⟨trivial, hx⟩]
  rfl
theorem Ev.finB {X : mX} {D : Nat} {M : mM} {pc : Nat} {ls : mL} {h : mH} {v : Int32} (hi : M.1 pc = some .ireturn) (ht : M.2.2.2.1 = some .boolean) (hx : mBit v) : Ev X D M pc ls [.int v] h (.inl (some (.int v)), h) := by
  refine Ev.fin hi ?_
  have e : mact X M .ireturn pc ls [.int v] h = (match [Value.int v], M.2.2.2.1 with
    | [.int v], some ty => if mfit ty (.int v) = true then mfin (.inl (some (.int v))) h else none
    | _, _ => none) := rfl
  rw [e, ht]
  exact if_pos (decide_eq_true hx)
theorem Ev.throws {X : mX} {D : Nat} {M : mM} {pc : Nat} {ls : mL} {s : zS} {x j0 j ic : Nat} (hi : M.1 pc = some (.new j0)) (hl : mlk M.2.1 j0 = (7, x, 0, 0)) (h1 : M.1 (pc + 3) = some .dup) (h2 : M.1 (pc + 4) = some (.ldc j)) (h3 : M.1 (pc + 6) = some (.invokespecial ic)) (h4 : M.1 (pc + 9) = some .athrow) (c1 : (mlk M.2.1 j).1 = 5) (c2 : mlk M.2.1 ic = (8, x, 0, 0)) (c3 : M.2.2.2.2.2.2.2 = []) (c4 : x < 4) (hx : s.2.2 < 600000) : Ev X D M pc ls [] (mk s) (.inr x, mk (thr s)) := by
  refine Ev.fin hi ?_
  have e : mact X M (.new j0) pc ls [] (mk s) = (match mlk M.2.1 j0 with
    | (2, ci, _, _) => mnewo ci pc ls [] (mk s)
    | (7, x, _, _) => mthrow M x pc [] (mk s)
    | _ => none) := rfl
  rw [e, hl]
  show mthrow M x pc [] (mk s) = _
  unfold mthrow
  simp only [h1, h2, h3, h4]
  have e1 : (mk s).1.1 = 42 := rfl
  have e2 : (mk s).1.2.1 = s.2.2 := rfl
  have e3 : (mk s).1.2.2 = zSL + 6 * s.2.2 := rfl
  rw [if_pos ⟨c1, c2, c3, c4, by rw [e1, e2]; unfold mCap; omega, by rw [e3]; unfold mSap zSL; omega⟩]
  rw [e1, e2, e3]
  show some (Sum.inr (Sum.inr (Sum.inr x, ((42, s.2.2 + 1, zSL + 6 * s.2.2 + 6), (mk s).2)))) = some (Sum.inr (Sum.inr (Sum.inr x, ((42, s.2.2 + 1, zSL + 6 * (s.2.2 + 1)), mkc (thr s)))))
  have e4 : zSL + 6 * s.2.2 + 6 = zSL + 6 * (s.2.2 + 1) := by omega
  rw [e4]
  rfl
theorem Ev.icmp_eq {X : mX} {D : Nat} {M : mM} {pc t : Nat} {ls : mL} {st : List Value} {h : mH} {r : mO × mH} {off : Int} {x y : Int32} (hi : M.1 pc = some (.if_icmp .eq off)) (ht : mtgt pc off = some t) (kt : x = y → Ev X D M t ls st h r) (kf : ¬ (x = y) → Ev X D M (pc + 3) ls st h r) : Ev X D M pc ls (.int y :: .int x :: st) h r := by
  have e : mact X M (.if_icmp .eq off) pc ls (.int y :: .int x :: st) h = (match mtgt pc off with
    | some t => bif decide (x = y) then mgo t ls st h else mgo (pc + 3) ls st h
    | none => none) := rfl
  rw [ht] at e
  by_cases hc : x = y
  · refine Ev.step hi (e.trans ?_) (kt hc)
    simp only [decide_eq_true hc]
    rfl
  · refine Ev.step hi (e.trans ?_) (kf hc)
    simp only [decide_eq_false hc]
    rfl
theorem Ev.icmp_ne {X : mX} {D : Nat} {M : mM} {pc t : Nat} {ls : mL} {st : List Value} {h : mH} {r : mO × mH} {off : Int} {x y : Int32} (hi : M.1 pc = some (.if_icmp .ne off)) (ht : mtgt pc off = some t) (kt : ¬ x = y → Ev X D M t ls st h r) (kf : ¬ (¬ x = y) → Ev X D M (pc + 3) ls st h r) : Ev X D M pc ls (.int y :: .int x :: st) h r := by
  have e : mact X M (.if_icmp .ne off) pc ls (.int y :: .int x :: st) h = (match mtgt pc off with
    | some t => bif decide (¬ x = y) then mgo t ls st h else mgo (pc + 3) ls st h
    | none => none) := rfl
  rw [ht] at e
  by_cases hc : ¬ x = y
  · refine Ev.step hi (e.trans ?_) (kt hc)
    simp only [decide_eq_true hc]
    rfl
  · refine Ev.step hi (e.trans ?_) (kf hc)
    simp only [decide_eq_false hc]
    rfl
theorem Ev.icmp_lt {X : mX} {D : Nat} {M : mM} {pc t : Nat} {ls : mL} {st : List Value} {h : mH} {r : mO × mH} {off : Int} {x y : Int32} (hi : M.1 pc = some (.if_icmp .lt off)) (ht : mtgt pc off = some t) (kt : x < y → Ev X D M t ls st h r) (kf : ¬ (x < y) → Ev X D M (pc + 3) ls st h r) : Ev X D M pc ls (.int y :: .int x :: st) h r := by
  have e : mact X M (.if_icmp .lt off) pc ls (.int y :: .int x :: st) h = (match mtgt pc off with
    | some t => bif decide (x < y) then mgo t ls st h else mgo (pc + 3) ls st h
    | none => none) := rfl
  rw [ht] at e
  by_cases hc : x < y
  · refine Ev.step hi (e.trans ?_) (kt hc)
    simp only [decide_eq_true hc]
    rfl
  · refine Ev.step hi (e.trans ?_) (kf hc)
    simp only [decide_eq_false hc]
    rfl
theorem Ev.icmp_ge {X : mX} {D : Nat} {M : mM} {pc t : Nat} {ls : mL} {st : List Value} {h : mH} {r : mO × mH} {off : Int} {x y : Int32} (hi : M.1 pc = some (.if_icmp .ge off)) (ht : mtgt pc off = some t) (kt : x ≥ y → Ev X D M t ls st h r) (kf : ¬ (x ≥ y) → Ev X D M (pc + 3) ls st h r) : Ev X D M pc ls (.int y :: .int x :: st) h r := by
  have e : mact X M (.if_icmp .ge off) pc ls (.int y :: .int x :: st) h = (match mtgt pc off with
    | some t => bif decide (x ≥ y) then mgo t ls st h else mgo (pc + 3) ls st h
    | none => none) := rfl
  rw [ht] at e
  by_cases hc : x ≥ y
  · refine Ev.step hi (e.trans ?_) (kt hc)
    simp only [decide_eq_true hc]
    rfl
  · refine Ev.step hi (e.trans ?_) (kf hc)
    simp only [decide_eq_false hc]
    rfl
theorem Ev.icmp_gt {X : mX} {D : Nat} {M : mM} {pc t : Nat} {ls : mL} {st : List Value} {h : mH} {r : mO × mH} {off : Int} {x y : Int32} (hi : M.1 pc = some (.if_icmp .gt off)) (ht : mtgt pc off = some t) (kt : x > y → Ev X D M t ls st h r) (kf : ¬ (x > y) → Ev X D M (pc + 3) ls st h r) : Ev X D M pc ls (.int y :: .int x :: st) h r := by
  have e : mact X M (.if_icmp .gt off) pc ls (.int y :: .int x :: st) h = (match mtgt pc off with
    | some t => bif decide (x > y) then mgo t ls st h else mgo (pc + 3) ls st h
    | none => none) := rfl
  rw [ht] at e
  by_cases hc : x > y
  · refine Ev.step hi (e.trans ?_) (kt hc)
    simp only [decide_eq_true hc]
    rfl
  · refine Ev.step hi (e.trans ?_) (kf hc)
    simp only [decide_eq_false hc]
    rfl
theorem Ev.icmp_le {X : mX} {D : Nat} {M : mM} {pc t : Nat} {ls : mL} {st : List Value} {h : mH} {r : mO × mH} {off : Int} {x y : Int32} (hi : M.1 pc = some (.if_icmp .le off)) (ht : mtgt pc off = some t) (kt : x ≤ y → Ev X D M t ls st h r) (kf : ¬ (x ≤ y) → Ev X D M (pc + 3) ls st h r) : Ev X D M pc ls (.int y :: .int x :: st) h r := by
  have e : mact X M (.if_icmp .le off) pc ls (.int y :: .int x :: st) h = (match mtgt pc off with
    | some t => bif decide (x ≤ y) then mgo t ls st h else mgo (pc + 3) ls st h
    | none => none) := rfl
  rw [ht] at e
  by_cases hc : x ≤ y
  · refine Ev.step hi (e.trans ?_) (kt hc)
    simp only [decide_eq_true hc]
    rfl
  · refine Ev.step hi (e.trans ?_) (kf hc)
    simp only [decide_eq_false hc]
    rfl
theorem Ev.if_eq {X : mX} {D : Nat} {M : mM} {pc t : Nat} {ls : mL} {st : List Value} {h : mH} {r : mO × mH} {off : Int} {x : Int32} (hi : M.1 pc = some (.ifCond .eq off)) (ht : mtgt pc off = some t) (kt : x = zi 0 → Ev X D M t ls st h r) (kf : ¬ (x = zi 0) → Ev X D M (pc + 3) ls st h r) : Ev X D M pc ls (.int x :: st) h r := by
  have e : mact X M (.ifCond .eq off) pc ls (.int x :: st) h = (match mtgt pc off with
    | some t => bif decide (x = zi 0) then mgo t ls st h else mgo (pc + 3) ls st h
    | none => none) := rfl
  rw [ht] at e
  by_cases hc : x = zi 0
  · refine Ev.step hi (e.trans ?_) (kt hc)
    simp only [decide_eq_true hc]
    rfl
  · refine Ev.step hi (e.trans ?_) (kf hc)
    simp only [decide_eq_false hc]
    rfl
theorem Ev.if_ne {X : mX} {D : Nat} {M : mM} {pc t : Nat} {ls : mL} {st : List Value} {h : mH} {r : mO × mH} {off : Int} {x : Int32} (hi : M.1 pc = some (.ifCond .ne off)) (ht : mtgt pc off = some t) (kt : ¬ x = zi 0 → Ev X D M t ls st h r) (kf : ¬ (¬ x = zi 0) → Ev X D M (pc + 3) ls st h r) : Ev X D M pc ls (.int x :: st) h r := by
  have e : mact X M (.ifCond .ne off) pc ls (.int x :: st) h = (match mtgt pc off with
    | some t => bif decide (¬ x = zi 0) then mgo t ls st h else mgo (pc + 3) ls st h
    | none => none) := rfl
  rw [ht] at e
  by_cases hc : ¬ x = zi 0
  · refine Ev.step hi (e.trans ?_) (kt hc)
    simp only [decide_eq_true hc]
    rfl
  · refine Ev.step hi (e.trans ?_) (kf hc)
    simp only [decide_eq_false hc]
    rfl
theorem Ev.if_lt {X : mX} {D : Nat} {M : mM} {pc t : Nat} {ls : mL} {st : List Value} {h : mH} {r : mO × mH} {off : Int} {x : Int32} (hi : M.1 pc = some (.ifCond .lt off)) (ht : mtgt pc off = some t) (kt : x < zi 0 → Ev X D M t ls st h r) (kf : ¬ (x < zi 0) → Ev X D M (pc + 3) ls st h r) : Ev X D M pc ls (.int x :: st) h r := by
  have e : mact X M (.ifCond .lt off) pc ls (.int x :: st) h = (match mtgt pc off with
    | some t => bif decide (x < zi 0) then mgo t ls st h else mgo (pc + 3) ls st h
    | none => none) := rfl
  rw [ht] at e
  by_cases hc : x < zi 0
  · refine Ev.step hi (e.trans ?_) (kt hc)
    simp only [decide_eq_true hc]
    rfl
  · refine Ev.step hi (e.trans ?_) (kf hc)
    simp only [decide_eq_false hc]
    rfl
theorem Ev.if_ge {X : mX} {D : Nat} {M : mM} {pc t : Nat} {ls : mL} {st : List Value} {h : mH} {r : mO × mH} {off : Int} {x : Int32} (hi : M.1 pc = some (.ifCond .ge off)) (ht : mtgt pc off = some t) (kt : x ≥ zi 0 → Ev X D M t ls st h r) (kf : ¬ (x ≥ zi 0) → Ev X D M (pc + 3) ls st h r) : Ev X D M pc ls (.int x :: st) h r := by
  have e : mact X M (.ifCond .ge off) pc ls (.int x :: st) h = (match mtgt pc off with
    | some t => bif decide (x ≥ zi 0) then mgo t ls st h else mgo (pc + 3) ls st h
    | none => none) := rfl
  rw [ht] at e
  by_cases hc : x ≥ zi 0
  · refine Ev.step hi (e.trans ?_) (kt hc)
    simp only [decide_eq_true hc]
    rfl
  · refine Ev.step hi (e.trans ?_) (kf hc)
    simp only [decide_eq_false hc]
    rfl
theorem Ev.if_gt {X : mX} {D : Nat} {M : mM} {pc t : Nat} {ls : mL} {st : List Value} {h : mH} {r : mO × mH} {off : Int} {x : Int32} (hi : M.1 pc = some (.ifCond .gt off)) (ht : mtgt pc off = some t) (kt : x > zi 0 → Ev X D M t ls st h r) (kf : ¬ (x > zi 0) → Ev X D M (pc + 3) ls st h r) : Ev X D M pc ls (.int x :: st) h r := by
  have e : mact X M (.ifCond .gt off) pc ls (.int x :: st) h = (match mtgt pc off with
    | some t => bif decide (x > zi 0) then mgo t ls st h else mgo (pc + 3) ls st h
    | none => none) := rfl
  rw [ht] at e
  by_cases hc : x > zi 0
  · refine Ev.step hi (e.trans ?_) (kt hc)
    simp only [decide_eq_true hc]
    rfl
  · refine Ev.step hi (e.trans ?_) (kf hc)
    simp only [decide_eq_false hc]
    rfl
theorem Ev.if_le {X : mX} {D : Nat} {M : mM} {pc t : Nat} {ls : mL} {st : List Value} {h : mH} {r : mO × mH} {off : Int} {x : Int32} (hi : M.1 pc = some (.ifCond .le off)) (ht : mtgt pc off = some t) (kt : x ≤ zi 0 → Ev X D M t ls st h r) (kf : ¬ (x ≤ zi 0) → Ev X D M (pc + 3) ls st h r) : Ev X D M pc ls (.int x :: st) h r := by
  have e : mact X M (.ifCond .le off) pc ls (.int x :: st) h = (match mtgt pc off with
    | some t => bif decide (x ≤ zi 0) then mgo t ls st h else mgo (pc + 3) ls st h
    | none => none) := rfl
  rw [ht] at e
  by_cases hc : x ≤ zi 0
  · refine Ev.step hi (e.trans ?_) (kt hc)
    simp only [decide_eq_true hc]
    rfl
  · refine Ev.step hi (e.trans ?_) (kf hc)
    simp only [decide_eq_false hc]
    rfl
theorem Ev.ifl_eq {X : mX} {D : Nat} {M : mM} {pc t : Nat} {ls : mL} {st : List Value} {h : mH} {r : mO × mH} {off : Int} {x y : Int64} (hi : M.1 pc = some (.ifCond .eq off)) (ht : mtgt pc off = some t) (kt : x = y → Ev X D M t ls st h r) (kf : ¬ (x = y) → Ev X D M (pc + 3) ls st h r) : Ev X D M pc ls (.int (lg_cmp x y) :: st) h r :=
  Ev.if_eq hi ht (fun q => kt ((lg_cmp_eq x y).mp q)) (fun q => kf (fun q2 => q ((lg_cmp_eq x y).mpr q2)))
theorem Ev.ifl_ne {X : mX} {D : Nat} {M : mM} {pc t : Nat} {ls : mL} {st : List Value} {h : mH} {r : mO × mH} {off : Int} {x y : Int64} (hi : M.1 pc = some (.ifCond .ne off)) (ht : mtgt pc off = some t) (kt : ¬ x = y → Ev X D M t ls st h r) (kf : ¬ (¬ x = y) → Ev X D M (pc + 3) ls st h r) : Ev X D M pc ls (.int (lg_cmp x y) :: st) h r :=
  Ev.if_ne hi ht (fun q => kt ((not_congr (lg_cmp_eq x y)).mp q)) (fun q => kf (fun q2 => q ((not_congr (lg_cmp_eq x y)).mpr q2)))
theorem Ev.ifl_lt {X : mX} {D : Nat} {M : mM} {pc t : Nat} {ls : mL} {st : List Value} {h : mH} {r : mO × mH} {off : Int} {x y : Int64} (hi : M.1 pc = some (.ifCond .lt off)) (ht : mtgt pc off = some t) (kt : x < y → Ev X D M t ls st h r) (kf : ¬ (x < y) → Ev X D M (pc + 3) ls st h r) : Ev X D M pc ls (.int (lg_cmp x y) :: st) h r :=
  Ev.if_lt hi ht (fun q => kt ((lg_cmp_lt x y).mp q)) (fun q => kf (fun q2 => q ((lg_cmp_lt x y).mpr q2)))
theorem Ev.ifl_ge {X : mX} {D : Nat} {M : mM} {pc t : Nat} {ls : mL} {st : List Value} {h : mH} {r : mO × mH} {off : Int} {x y : Int64} (hi : M.1 pc = some (.ifCond .ge off)) (ht : mtgt pc off = some t) (kt : x ≥ y → Ev X D M t ls st h r) (kf : ¬ (x ≥ y) → Ev X D M (pc + 3) ls st h r) : Ev X D M pc ls (.int (lg_cmp x y) :: st) h r :=
  Ev.if_ge hi ht (fun q => kt ((lg_cmp_ge x y).mp q)) (fun q => kf (fun q2 => q ((lg_cmp_ge x y).mpr q2)))
theorem Ev.ifl_gt {X : mX} {D : Nat} {M : mM} {pc t : Nat} {ls : mL} {st : List Value} {h : mH} {r : mO × mH} {off : Int} {x y : Int64} (hi : M.1 pc = some (.ifCond .gt off)) (ht : mtgt pc off = some t) (kt : x > y → Ev X D M t ls st h r) (kf : ¬ (x > y) → Ev X D M (pc + 3) ls st h r) : Ev X D M pc ls (.int (lg_cmp x y) :: st) h r :=
  Ev.if_gt hi ht (fun q => kt ((lg_cmp_gt x y).mp q)) (fun q => kf (fun q2 => q ((lg_cmp_gt x y).mpr q2)))
theorem Ev.ifl_le {X : mX} {D : Nat} {M : mM} {pc t : Nat} {ls : mL} {st : List Value} {h : mH} {r : mO × mH} {off : Int} {x y : Int64} (hi : M.1 pc = some (.ifCond .le off)) (ht : mtgt pc off = some t) (kt : x ≤ y → Ev X D M t ls st h r) (kf : ¬ (x ≤ y) → Ev X D M (pc + 3) ls st h r) : Ev X D M pc ls (.int (lg_cmp x y) :: st) h r :=
  Ev.if_le hi ht (fun q => kt ((lg_cmp_le x y).mp q)) (fun q => kf (fun q2 => q ((lg_cmp_le x y).mpr q2)))
/-- the target of a tableswitch -/
def mtsw (pc : Nat) (d lo hi : Int) (offs : Array Int) (z : Int) : Option Nat := if z < lo ∨ hi < z then mtgt pc d else match offs[(z - lo).toNat]? with
  | some off => mtgt pc off
  | none => none
theorem mtsw_eq {X : mX} {M : mM} {pc : Nat} {ls : mL} {st : List Value} {h : mH} {d lo hi : Int} {offs : Array Int} {x : Int32} {t : Nat} (ht : mtsw pc d lo hi offs x.toInt = some t) : mact X M (.tableswitch d lo hi offs) pc ls (.int x :: st) h = some (.inl (t, ls, st, h)) := by
  have e : mact X M (.tableswitch d lo hi offs) pc ls (.int x :: st) h = if x.toInt < lo ∨ hi < x.toInt then mjmp pc d ls st h else (match offs[(x.toInt - lo).toNat]? with
      | some off => mjmp pc off ls st h
      | none => none) := rfl
  rw [e]
  unfold mtsw at ht
  split
  · rename_i hc
    rw [if_pos hc] at ht
    simp only [mjmp, ht]
    rfl
  · rename_i hc
    rw [if_neg hc] at ht
    split
    · rename_i off ho
      rw [ho] at ht
      simp only at ht
      simp only [mjmp, ht]
      rfl
    · rename_i ho
      rw [ho] at ht
      cases ht
theorem Ev.tsw {X : mX} {D : Nat} {M : mM} {pc : Nat} {ls : mL} {st : List Value} {h : mH} {r : mO × mH} {d lo hi : Int} {offs : Array Int} {x : Int32} {t : Nat} {k : Int} (hi' : M.1 pc = some (.tableswitch d lo hi offs)) (hx : x = zi k) (ht : mtsw pc d lo hi offs (zi k).toInt = some t) (kk : Ev X D M t ls st h r) : Ev X D M pc ls (.int x :: st) h r := by
  subst hx
  exact Ev.step hi' (mtsw_eq ht) kk
theorem Ev.tswx {X : mX} {D : Nat} {M : mM} {pc : Nat} {ls : mL} {st : List Value} {h : mH} {r : mO × mH} {d lo hi : Int} {offs : Array Int} {x : Int32} {t : Nat} (hi' : M.1 pc = some (.tableswitch d lo hi offs)) (ht : mtsw pc d lo hi offs x.toInt = some t) (kk : Ev X D M t ls st h r) : Ev X D M pc ls (.int x :: st) h r := Ev.step hi' (mtsw_eq ht) kk
theorem Ev.tswd {X : mX} {D : Nat} {M : mM} {pc : Nat} {ls : mL} {st : List Value} {h : mH} {r : mO × mH} {d lo hi : Int} {offs : Array Int} {x : Int32} {t : Nat} (hi' : M.1 pc = some (.tableswitch d lo hi offs)) (hd : mtgt pc d = some t) (hn : (hi - lo).toNat < offs.size) (hq : ∀ q : Nat, q < offs.size → x.toInt = lo + (q : Int) → ∃ off, offs[q]? = some off ∧ mtgt pc off = some t) (kk : Ev X D M t ls st h r) : Ev X D M pc ls (.int x :: st) h r := by
  refine Ev.step hi' (mtsw_eq ?_) kk
  unfold mtsw
  split
  · exact hd
  · rename_i hc
    obtain ⟨off, h1, h2⟩ := hq (x.toInt - lo).toNat (by omega) (by omega)
    rw [h1]
    exact h2
theorem Ev.lsw {X : mX} {D : Nat} {M : mM} {pc : Nat} {ls : mL} {st : List Value} {h : mH} {r : mO × mH} {d : Int} {ps : Array (Int × Int)} {x : Int32} {t : Nat} {k : Int} (hi' : M.1 pc = some (.lookupswitch d ps)) (hx : x = zi k) (ht : (if (ps.toList.zip (ps.toList.drop 1)).all (fun (a, next) => a.1 < next.1) = true then mtgt pc (Op.lookupswitch.offset ps.toList d (zi k).toInt) else none) = some t) (kk : Ev X D M t ls st h r) : Ev X D M pc ls (.int x :: st) h r := by
  subst hx
  obtain ⟨hs, ht⟩ := zif ht
  refine Ev.step hi' ?_ kk
  have e : mact X M (.lookupswitch d ps) pc ls (.int (zi k) :: st) h = if (ps.toList.zip (ps.toList.drop 1)).all (fun (a, next) => a.1 < next.1) = true then mjmp pc (Op.lookupswitch.offset ps.toList d (zi k).toInt) ls st h else none := rfl
  rw [e, if_pos hs]
  simp only [mjmp, ht]
  rfl
theorem lsoff {l : List (Int × Int)} {d z : Int} (h : ∀ p ∈ l, p.1 ≠ z) : Op.lookupswitch.offset l d z = d := by
  induction l with
  | nil => rfl
  | cons p r ih =>
    have e : Op.lookupswitch.offset (p :: r) d z = if p.1 = z then p.2 else Op.lookupswitch.offset r d z := rfl
    rw [e, if_neg (h p List.mem_cons_self)]
    exact ih (fun q hq => h q (List.mem_cons_of_mem _ hq))
theorem Ev.lswd {X : mX} {D : Nat} {M : mM} {pc : Nat} {ls : mL} {st : List Value} {h : mH} {r : mO × mH} {d : Int} {ps : Array (Int × Int)} {x : Int32} {t : Nat} (hi' : M.1 pc = some (.lookupswitch d ps)) (ht : (if (ps.toList.zip (ps.toList.drop 1)).all (fun (a, next) => a.1 < next.1) = true then mtgt pc d else none) = some t) (hn : ∀ p ∈ ps.toList, ¬ x = zi p.1) (kk : Ev X D M t ls st h r) : Ev X D M pc ls (.int x :: st) h r := by
  obtain ⟨hs, ht⟩ := zif ht
  refine Ev.step hi' ?_ kk
  have e : mact X M (.lookupswitch d ps) pc ls (.int x :: st) h = if (ps.toList.zip (ps.toList.drop 1)).all (fun (a, next) => a.1 < next.1) = true then mjmp pc (Op.lookupswitch.offset ps.toList d x.toInt) ls st h else none := rfl
  rw [e, if_pos hs, lsoff (fun p hp hq => hn p hp (zi_of_toInt hq.symm))]
  simp only [mjmp, ht]
  rfl
theorem Ev.lswx {X : mX} {D : Nat} {M : mM} {pc : Nat} {ls : mL} {st : List Value} {h : mH} {r : mO × mH} {d : Int} {ps : Array (Int × Int)} {x : Int32} {t : Nat} (hi' : M.1 pc = some (.lookupswitch d ps)) (ht : (if (ps.toList.zip (ps.toList.drop 1)).all (fun (a, next) => a.1 < next.1) = true then mtgt pc (Op.lookupswitch.offset ps.toList d x.toInt) else none) = some t) (kk : Ev X D M t ls st h r) : Ev X D M pc ls (.int x :: st) h r := by
  have e : x = zi x.toInt := zi_of_toInt rfl
  refine Ev.lsw hi' e ?_ kk
  rw [← e]
  exact ht

