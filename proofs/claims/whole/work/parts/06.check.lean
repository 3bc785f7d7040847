/-! the data hold: every link's word, every method's words stand in the tables -/
def mem (w : Cond) : Bool := goodWord w && decide (w ∈ lw_tbl)
theorem mem_spec {w : Cond} (h : mem w = true) : w ∈ lw_tbl ∧ goodWord w = true := by
  simp only [mem, Bool.and_eq_true, decide_eq_true_eq] at h
  exact ⟨h.2, h.1⟩
def mhost (o : Nat) : String := bif Nat.blt o 12 then "FormatPress" else "FormatPressModel"
def mchk (o i : Nat) : Bool := match mlk o i with
  | (0, ci, k, _) => decide (ci < 15 ∧ k < mNF ci) && mem (.fieldLink (mCN o) i (mTT ci k).1 (mTT ci k).2.1 (mTT ci k).2.2.1)
  | (1, k, _, _) => mem (.methodLink (mCN o) i (mY k))
  | (2, ci, _, _) => decide (ci < 14) && mem (.classLink (mCN o) i (mCN ci))
  | (3, _, _, v) => mem (.constant (mCN o) i (Int32.ofInt v))
  | (4, _, _, v) => mem (.constantLong (mCN o) i (Int64.ofInt v))
  | (5, j, _, _) => decide (j < mST.length) && decide (Cond.stringRef (mCN o) i (mST.getD j "") ∈ lw_tbl)
  | (6, 0, _, _) => mem (.fieldLink (mCN o) i "FormatPress$Decimal" "TENS" "[J")
  | (6, 1, _, _) => mem (.fieldLink (mCN o) i "java/lang/String" "COMPACT_STRINGS" "Z")
  | (6, 2, _, _) => mem (.fieldLink (mCN o) i "jdk/internal/util/Preconditions" "SIOOBE_FORMATTER" "Ljava/util/function/BiFunction;")
  | (7, x, _, _) => decide (x < 4) && mem (.classLink (mCN o) i (mEX x))
  | (8, x, _, _) => decide (x < 4) && mem (.methodLink (mCN o) i ⟨mEX x, "<init>", "(Ljava/lang/String;)V"⟩)
  | (9, _, _, _) => mem (.methodLink (mCN o) i objectInit)
  | (10, k, _, _) => decide (Cond.methodLinkNest (mCN o) i (mY k) (mhost o) ∈ lw_tbl)
  | _ => true
def mchkO (o a b : Nat) : Bool := (List.range (b - a)).all fun i => mchk o (a + i)
set_option maxRecDepth 100000 in
theorem mchk0 : mchkO 0 0 640 = true := by decide +kernel
set_option maxRecDepth 100000 in
theorem mchk1 : mchkO 1 0 640 = true := by decide +kernel
set_option maxRecDepth 100000 in
theorem mchk2 : mchkO 2 0 640 = true := by decide +kernel
set_option maxRecDepth 100000 in
theorem mchk3 : mchkO 3 0 640 = true := by decide +kernel
set_option maxRecDepth 100000 in
theorem mchk4 : mchkO 4 0 640 = true := by decide +kernel
set_option maxRecDepth 100000 in
theorem mchk5 : mchkO 5 0 640 = true := by decide +kernel
set_option maxRecDepth 100000 in
theorem mchk6 : mchkO 6 0 640 = true := by decide +kernel
set_option maxRecDepth 100000 in
theorem mchk7 : mchkO 7 0 640 = true := by decide +kernel
set_option maxRecDepth 100000 in
theorem mchk8 : mchkO 8 0 640 = true := by decide +kernel
set_option maxRecDepth 100000 in
theorem mchk9 : mchkO 9 0 640 = true := by decide +kernel
set_option maxRecDepth 100000 in
theorem mchk10 : mchkO 10 0 640 = true := by decide +kernel
set_option maxRecDepth 100000 in
theorem mchk11 : mchkO 11 0 640 = true := by decide +kernel
set_option maxRecDepth 100000 in
theorem mchk12 : mchkO 12 0 640 = true := by decide +kernel
set_option maxRecDepth 100000 in
theorem mchk13 : mchkO 13 0 640 = true := by decide +kernel
set_option maxRecDepth 100000 in
theorem mchk14 : mchkO 14 0 640 = true := by decide +kernel
set_option maxRecDepth 100000 in
theorem mchk15 : mchkO 15 0 640 = true := by decide +kernel
set_option maxRecDepth 100000 in
theorem mchk16 : mchkO 16 0 640 = true := by decide +kernel
set_option maxRecDepth 100000 in
theorem mchk17 : mchkO 17 0 640 = true := by decide +kernel
set_option maxRecDepth 100000 in
theorem mchk18 : mchkO 18 0 640 = true := by decide +kernel
set_option maxRecDepth 100000 in
theorem mchk19 : mchkO 19 0 640 = true := by decide +kernel
set_option maxRecDepth 100000 in
theorem mchk20 : mchkO 20 0 640 = true := by decide +kernel
