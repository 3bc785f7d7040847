/-! the literals as the Statement has them; printed by wip/gen/gen5.py -/
def msO (c : Nat) : String := (["FormatPress", "FormatPress", "FormatPress", "FormatPress", "FormatPress$Spec", "FormatPress$Spec", "FormatPress$Spec", "FormatPress$Spec", "FormatPress", "FormatPress", "FormatPress", "FormatPress", "FormatPress", "FormatPress", "FormatPress$Composer", "FormatPress$Composer", "FormatPress$Composer", "FormatPress$RealWriter", "FormatPress$RealWriter", "FormatPress$RealWriter", "FormatPress$Shortest", "FormatPress$Shortest", "FormatPress$Composer", "FormatPress$Composer", "FormatPress$Moment", "FormatPress$Moment", "FormatPress$Moment", "FormatPress$Moment", "FormatPress$Moment", "FormatPress$Moment", "FormatPress$Moment", "FormatPress$Moment", "FormatPress$Moment", "FormatPress$Moment", "FormatPress$Moment", "FormatPress$Moment", "FormatPress$Moment", "FormatPress$Moment", "FormatPress$Moment", "FormatPress$Moment", "FormatPress$Moment", "FormatPress$Moment", "FormatPress$Moment", "FormatPress$Moment", "FormatPress$Moment", "FormatPress$Moment", "FormatPress$Moment", "FormatPress$Moment", "FormatPress$Moment", "FormatPress$Moment", "FormatPress$RealWriter", "FormatPress", "FormatPress", "FormatPress$NumberReader", "FormatPress$NumberReader", "FormatPress", "FormatPressModel", "FormatPressModel", "FormatPressModel", "FormatPressModel", "FormatPressModel", "FormatPressModel", "FormatPressModel", "FormatPressModel", "FormatPressModel", "FormatPressModel", "FormatPressModel", "FormatPressModel", "FormatPressModel", "FormatPressModel", "FormatPressModel", "FormatPressModel", "FormatPressModel", "FormatPressModel", "FormatPressModel", "FormatPressModel", "FormatPressModel", "FormatPressModel"] : List String).getD c ""
def msI (c : Nat) : Nat := ([69, 78, 84, 92, 60, 83, 88, 102, 111, 125, 131, 139, 149, 157, 129, 131, 143, 60, 72, 74, 71, 73, 154, 160, 65, 71, 73, 79, 81, 141, 143, 145, 147, 149, 151, 153, 155, 157, 159, 161, 163, 165, 167, 169, 171, 173, 175, 177, 127, 129, 140, 169, 171, 38, 48, 181, 328, 333, 342, 350, 363, 365, 367, 168, 177, 179, 207, 273, 279, 283, 285, 290, 295, 297, 299, 301, 303, 305] : List Nat).getD c 0
def mnp (c : Nat) : Nat := ([99, 128, 148, 177, 213, 224, 247, 277, 288, 310, 338, 354, 381, 415, 437, 446, 454, 462, 469, 481, 488, 494, 499, 504, 510, 516, 523, 530, 537, 544, 555, 567, 576, 585, 592, 600, 608, 618, 631, 642, 654, 666, 676, 686, 697, 710, 722, 732, 744, 750, 756, 763, 806, 832, 840, 853, 877, 889, 914, 945, 957, 967, 976, 985, 994, 1008, 1016, 1024, 1148, 1222, 1229, 1236, 1243, 1252, 1261, 1269, 1277, 1286] : List Nat).getD c 0
def mtmS (c : Nat) : Term := .string (msO c) (msI c)
def mtmV (c : Nat) : Term := .field (mtmS c) "java/lang/String" "value" "[B"
def mlenS (c : Nat) : Nat := (mSB.getD c []).length
def mstw (c : Nat) : List Cond :=
  [.exactly (mtmS c) "java/lang/String", .eq (.field (mtmS c) "java/lang/String" "coder" "B") (.int 0), .arrayOf (mtmV c) .byte, .eq (.length (mtmV c)) (.int (Int32.ofNat (mlenS c)))] ++
  (List.range (mlenS c)).map (fun j => .eq (.elem (mtmV c) (.int (Int32.ofNat j))) (.int ((mSB.getD c []).getD j 0)))
def mnf : List Cond := flatC narrow_1
def mnchk (c : Nat) : Bool := decide ((mnf.drop (mnp c)).take (4 + mlenS c) = mstw c) && decide (mlenS c < 1000)
set_option maxRecDepth 100000 in
theorem mnchk_0 : (List.range 13).all (fun c => mnchk (0 + c)) = true := by decide +kernel
set_option maxRecDepth 100000 in
theorem mnchk_13 : (List.range 13).all (fun c => mnchk (13 + c)) = true := by decide +kernel
set_option maxRecDepth 100000 in
theorem mnchk_26 : (List.range 13).all (fun c => mnchk (26 + c)) = true := by decide +kernel
set_option maxRecDepth 100000 in
theorem mnchk_39 : (List.range 13).all (fun c => mnchk (39 + c)) = true := by decide +kernel
set_option maxRecDepth 100000 in
theorem mnchk_52 : (List.range 13).all (fun c => mnchk (52 + c)) = true := by decide +kernel
set_option maxRecDepth 100000 in
theorem mnchk_65 : (List.range 13).all (fun c => mnchk (65 + c)) = true := by decide +kernel
theorem mnchk_all {c : Nat} (h : c < 78) : mnchk c = true := by
  have key : ∀ g, (List.range 13).all (fun c => mnchk (g + c)) = true → ∀ c, g ≤ c → c < g + 13 → mnchk c = true := by
    intro g hg c h1 h2
    have := List.all_eq_true.mp hg (c - g) (List.mem_range.mpr (by omega))
    rw [show g + (c - g) = c by omega] at this
    exact this
  rcases (show c < 13 ∨ (13 ≤ c ∧ c < 26) ∨ (26 ≤ c ∧ c < 39) ∨ (39 ≤ c ∧ c < 52) ∨ (52 ≤ c ∧ c < 65) ∨ (65 ≤ c ∧ c < 78) by omega) with q | q | q | q | q | q
  · exact key 0 mnchk_0 c (by omega) (by omega)
  · exact key 13 mnchk_13 c q.1 (by omega)
  · exact key 26 mnchk_26 c q.1 (by omega)
  · exact key 39 mnchk_39 c q.1 (by omega)
  · exact key 52 mnchk_52 c q.1 (by omega)
  · exact key 65 mnchk_65 c q.1 (by omega)
theorem mstw_in {c : Nat} (h : c < 78) : (∀ w ∈ mstw c, w ∈ mnf) ∧ mlenS c < 1000 := by
  have := mnchk_all h
  simp only [mnchk, Bool.and_eq_true, decide_eq_true_eq] at this
  refine ⟨fun w hw => ?_, this.2⟩
  rw [← this.1] at hw
  exact List.mem_of_mem_drop (List.mem_of_mem_take hw)
/-- the powers of ten -/
def mtmT : Term := .static "FormatPress$Decimal" "TENS" "[J"
def mtw : List Cond := [.arrayOf mtmT .long, .eq (.length mtmT) (.int (Int32.ofNat 19))] ++ (List.range 19).map (fun j => .eq (.elem mtmT (.int (Int32.ofNat j))) (.long (mTens j)))
set_option maxRecDepth 100000 in
theorem mtw_eq : (mnf.drop 10).take 21 = mtw := by decide +kernel
theorem mtw_in : ∀ w ∈ mtw, w ∈ mnf := fun w hw => by
  rw [← mtw_eq] at hw
  exact List.mem_of_mem_drop (List.mem_of_mem_take hw)
def mow : List Cond := [.isRef (.static "java/lang/Throwable" "UNASSIGNED_STACK" "[Ljava/lang/StackTraceElement;"), .isRef (.static "java/lang/Throwable" "SUPPRESSED_SENTINEL" "Ljava/util/List;"), .eq (.static "java/lang/String" "COMPACT_STRINGS" "Z") (.int 1), .isRef (.static "jdk/internal/util/Preconditions" "SIOOBE_FORMATTER" "Ljava/util/function/BiFunction;")]
set_option maxRecDepth 100000 in
theorem mow_eq : (mnf.drop 2).take 4 = mow := by decide +kernel
theorem mow_in : ∀ w ∈ mow, w ∈ mnf := fun w hw => by
  rw [← mow_eq] at hw
  exact List.mem_of_mem_drop (List.mem_of_mem_take hw)
set_option maxRecDepth 100000 in
theorem mnc_all : (List.range 4).all (fun x => (List.range 4).all fun y => decide (x = y) || decide (Cond.not (.castable (mEX x) (mEX y)) ∈ mnf.take 99)) = true := by decide +kernel
theorem mnc_in {x y : Nat} (hx : x < 4) (hy : y < 4) (hne : ¬ x = y) : Cond.not (.castable (mEX x) (mEX y)) ∈ mnf := by
  have := List.all_eq_true.mp (List.all_eq_true.mp mnc_all x (List.mem_range.mpr hx)) y (List.mem_range.mpr hy)
  simp only [Bool.or_eq_true, decide_eq_true_eq] at this
  exact List.mem_of_mem_take (this.resolve_left hne)
/-- a literal's link is the literal's own -/
def msc (o i : Nat) : Bool := match mlk o i with
  | (5, j, _, _) => decide (msO j = mCN o ∧ msI j = i ∧ j < 78)
  | _ => true
set_option maxRecDepth 100000 in
theorem msc_some : (List.range 21).all (fun o => (List.range 1064).all fun i => msc o i) = true := by decide +kernel
theorem msc_all {o i j z1 : Nat} {z2 : Int} (h : mlk o i = (5, j, z1, z2)) : msO j = mCN o ∧ msI j = i ∧ j < 78 := by
  have hi : i < 1064 := by
    rcases Nat.lt_or_ge i 1064 with q | q
    · exact q
    · exfalso
      unfold mlk at h
      have : Nat.blt i 1064 = false := by
        cases hb : Nat.blt i 1064 with
        | false => rfl
        | true => exact absurd (Nat.le_of_ble_eq_true (show Nat.ble (i + 1) 1064 = true from hb)) (by omega)
      rw [this, cond_false] at h
      cases h
  have ho : o < 21 := by
    rcases Nat.lt_or_ge o 21 with q | q
    · exact q
    · exfalso
      unfold mlk at h
      rw [List.getD_eq_getElem?_getD, List.getElem?_eq_none (by exact q)] at h
      cases hb : Nat.blt i 1064 <;> rw [hb] at h <;> cases h
  have := List.all_eq_true.mp (List.all_eq_true.mp msc_some o (List.mem_range.mpr ho)) i (List.mem_range.mpr hi)
  unfold msc at this
  rw [h] at this
  exact of_decide_eq_true this
theorem mzs0 : Cond.laysStatic "java/lang/Throwable" "UNASSIGNED_STACK" "[Ljava/lang/StackTraceElement;" ∈ lw_tbl ∧ Cond.initialized "java/lang/Throwable" ∈ lw_tbl := ⟨memN_spec (q := (2, 191)) (by decide +kernel), memN_spec (q := (1, 15)) (by decide +kernel)⟩
theorem mzs1 : Cond.laysStatic "java/lang/Throwable" "SUPPRESSED_SENTINEL" "Ljava/util/List;" ∈ lw_tbl ∧ Cond.initialized "java/lang/Throwable" ∈ lw_tbl := ⟨memN_spec (q := (2, 193)) (by decide +kernel), memN_spec (q := (1, 15)) (by decide +kernel)⟩
theorem mzs2 : Cond.laysStatic "java/lang/String" "COMPACT_STRINGS" "Z" ∈ lw_tbl ∧ Cond.initialized "java/lang/String" ∈ lw_tbl := ⟨memN_spec (q := (3, 68)) (by decide +kernel), memN_spec (q := (1, 21)) (by decide +kernel)⟩
theorem mzs3 : Cond.laysStatic "jdk/internal/util/Preconditions" "SIOOBE_FORMATTER" "Ljava/util/function/BiFunction;" ∈ lw_tbl ∧ Cond.initialized "jdk/internal/util/Preconditions" ∈ lw_tbl := ⟨memN_spec (q := (3, 109)) (by decide +kernel), memN_spec (q := (1, 24)) (by decide +kernel)⟩
theorem mzs4 : Cond.laysStatic "FormatPress$Decimal" "TENS" "[J" ∈ lw_tbl ∧ Cond.initialized "FormatPress$Decimal" ∈ lw_tbl := ⟨memN_spec (q := (4, 206)) (by decide +kernel), memN_spec (q := (1, 8)) (by decide +kernel)⟩
