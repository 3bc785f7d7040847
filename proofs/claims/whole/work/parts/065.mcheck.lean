/-! every method's words stand in the tables; printed by wip/gen/gen1.py -/
/-- the word of a method's code -/
def mcw (M : mM) : Cond := bif M.2.2.2.2.2.2.2.isEmpty then .code M.2.2.2.2.1 M.2.2.2.2.2.1 M.2.2.1 M.2.2.2.1 else .codeWith M.2.2.2.2.1 M.2.2.2.2.2.1 M.2.2.1 M.2.2.2.1 M.2.2.2.2.2.2.2
/-- its kind, its choice (a private method's: among lw_privs) -/
def mmk (k : Nat) (M : mM) (q : (Nat × Nat) × (Nat × Nat)) : Bool :=
  (bif M.2.2.2.2.2.2.1 then mem q.1 (.static (mY k)) else mem q.1 (.instanceMethod (mY k))) &&
  plainFor (mY k) && decide ((mY k).cls = mCN M.2.1) && decide (M.2.2.1 ≤ 30) && decide (M.2.1 < 21) &&
  decide ((parseMethodDescriptor (mY k).desc).map (fun d => d.parameters.length + (bif M.2.2.2.2.2.2.1 then 0 else 1)) = some (mNA k)) &&
  (M.2.2.2.2.2.2.1 || ((mY k).name == "<init>") || (bif Nat.beq q.2.1 0 then decide ((lw_privs[q.2.2]?).map (fun z => z.1) = some (mY k)) else mem q.2 (.selects (mY k).cls (mY k) (mY k))))
/-- what holds of a method -/
def mMF (k : Nat) (M : mM) : Prop := (∃ q : Nat × Nat, (mtp q.1)[q.2]? = some (mcw M)) ∧ M.2.2.2.2.1 = mY k ∧ (∃ q, mmk k M q = true) ∧ ∃ n, (∀ pc, n ≤ pc → M.1 pc = none) ∧ mokc M.1 M.2.2.2.2.2.1 n = true
def mAll : Nat → List mM → Prop
  | _, [] => True
  | k, M :: r => (k = 256 ∨ mMF k M) ∧ mAll (k + 1) r
theorem mAll_get : ∀ {l : List mM} {a : Nat}, mAll a l → ∀ {k : Nat} {M : mM}, l[k]? = some M → (a + k = 256 ∨ mMF (a + k) M) := by
  intro l
  induction l with
  | nil => intro a _ k M h; cases h
  | cons x r ih =>
    intro a ha k M h
    cases k with
    | zero => cases h; exact ha.1
    | succ k =>
      have := ih ha.2 (k := k) (M := M) h
      rw [show a + 1 + k = a + (k + 1) by omega] at this
      exact this
theorem mge (n : Nat) (f : Nat → Option Instr) : ∀ pc, n ≤ pc → (bif Nat.blt pc n then f pc else none) = none := by
  intro pc h
  cases hb : Nat.blt pc n with
  | false => rfl
  | true => exact absurd (Nat.le_of_ble_eq_true (show Nat.ble (pc + 1) n = true from hb)) (by omega)
set_option maxRecDepth 10000 in
theorem mf0 : mMF 0 mm0 := ⟨⟨(1, 35), rfl⟩, rfl, ⟨((1, 34), (0, 0)), by decide +kernel⟩, 122, mge 122 _, mck0⟩
set_option maxRecDepth 10000 in
theorem mf1 : mMF 1 mm1 := ⟨⟨(2, 163), rfl⟩, rfl, ⟨((2, 161), (2, 162)), by decide +kernel⟩, 143, mge 143 _, mck1⟩
set_option maxRecDepth 10000 in
theorem mf2 : mMF 2 mm2 := ⟨⟨(3, 12), rfl⟩, rfl, ⟨((3, 10), (3, 11)), by decide +kernel⟩, 135, mge 135 _, mck2⟩
set_option maxRecDepth 10000 in
theorem mf3 : mMF 3 mm3 := ⟨⟨(2, 129), rfl⟩, rfl, ⟨((2, 127), (2, 128)), by decide +kernel⟩, 8, mge 8 _, mck3⟩
set_option maxRecDepth 10000 in
theorem mf4 : mMF 4 mm4 := ⟨⟨(3, 194), rfl⟩, rfl, ⟨((3, 192), (3, 193)), by decide +kernel⟩, 76, mge 76 _, mck4⟩
set_option maxRecDepth 10000 in
theorem mf5 : mMF 5 mm5 := ⟨⟨(3, 235), rfl⟩, rfl, ⟨((3, 233), (3, 234)), by decide +kernel⟩, 40, mge 40 _, mck5⟩
set_option maxRecDepth 10000 in
theorem mf6 : mMF 6 mm6 := ⟨⟨(4, 2), rfl⟩, rfl, ⟨((4, 0), (4, 1)), by decide +kernel⟩, 64, mge 64 _, mck6⟩
set_option maxRecDepth 10000 in
theorem mf7 : mMF 7 mm7 := ⟨⟨(4, 19), rfl⟩, rfl, ⟨((4, 17), (4, 18)), by decide +kernel⟩, 161, mge 161 _, mck7⟩
set_option maxRecDepth 10000 in
theorem mf8 : mMF 8 mm8 := ⟨⟨(2, 137), rfl⟩, rfl, ⟨((2, 135), (2, 136)), by decide +kernel⟩, 5, mge 5 _, mck8⟩
set_option maxRecDepth 10000 in
theorem mf9 : mMF 9 mm9 := ⟨⟨(2, 141), rfl⟩, rfl, ⟨((2, 139), (2, 140)), by decide +kernel⟩, 5, mge 5 _, mck9⟩
set_option maxRecDepth 10000 in
theorem mf10 : mMF 10 mm10 := ⟨⟨(6, 35), rfl⟩, rfl, ⟨((6, 33), (6, 34)), by decide +kernel⟩, 63, mge 63 _, mck10⟩
set_option maxRecDepth 10000 in
theorem mf11 : mMF 11 mm11 := ⟨⟨(2, 145), rfl⟩, rfl, ⟨((2, 143), (2, 144)), by decide +kernel⟩, 41, mge 41 _, mck11⟩
set_option maxRecDepth 10000 in
theorem mf12 : mMF 12 mm12 := ⟨⟨(6, 43), rfl⟩, rfl, ⟨((6, 41), (6, 42)), by decide +kernel⟩, 38, mge 38 _, mck12⟩
set_option maxRecDepth 10000 in
theorem mf13 : mMF 13 mm13 := ⟨⟨(3, 28), rfl⟩, rfl, ⟨((3, 27), (0, 1)), by decide +kernel⟩, 19, mge 19 _, mck13⟩
set_option maxRecDepth 10000 in
theorem mf14 : mMF 14 mm14 := ⟨⟨(2, 234), rfl⟩, rfl, ⟨((2, 233), (0, 0)), by decide +kernel⟩, 12, mge 12 _, mck14⟩
set_option maxRecDepth 10000 in
theorem mf15 : mMF 15 mm15 := ⟨⟨(1, 43), rfl⟩, rfl, ⟨((1, 42), (0, 0)), by decide +kernel⟩, 17, mge 17 _, mck15⟩
set_option maxRecDepth 10000 in
theorem mf16 : mMF 16 mm16 := ⟨⟨(2, 150), rfl⟩, rfl, ⟨((2, 148), (2, 149)), by decide +kernel⟩, 5, mge 5 _, mck16⟩
set_option maxRecDepth 10000 in
theorem mf17 : mMF 17 mm17 := ⟨⟨(2, 155), rfl⟩, rfl, ⟨((2, 153), (2, 154)), by decide +kernel⟩, 27, mge 27 _, mck17⟩
set_option maxRecDepth 10000 in
theorem mf18 : mMF 18 mm18 := ⟨⟨(4, 47), rfl⟩, rfl, ⟨((4, 45), (4, 46)), by decide +kernel⟩, 20, mge 20 _, mck18⟩
set_option maxRecDepth 10000 in
theorem mf19 : mMF 19 mm19 := ⟨⟨(3, 4), rfl⟩, rfl, ⟨((3, 2), (3, 3)), by decide +kernel⟩, 34, mge 34 _, mck19⟩
set_option maxRecDepth 10000 in
theorem mf20 : mMF 20 mm20 := ⟨⟨(6, 26), rfl⟩, rfl, ⟨((6, 24), (6, 25)), by decide +kernel⟩, 36, mge 36 _, mck20⟩
set_option maxRecDepth 10000 in
theorem mf21 : mMF 21 mm21 := ⟨⟨(3, 0), rfl⟩, rfl, ⟨((2, 238), (2, 239)), by decide +kernel⟩, 6, mge 6 _, mck21⟩
set_option maxRecDepth 10000 in
theorem mf22 : mMF 22 mm22 := ⟨⟨(3, 17), rfl⟩, rfl, ⟨((3, 15), (3, 16)), by decide +kernel⟩, 38, mge 38 _, mck22⟩
set_option maxRecDepth 10000 in
theorem mf23 : mMF 23 mm23 := ⟨⟨(1, 91), rfl⟩, rfl, ⟨((1, 90), (0, 0)), by decide +kernel⟩, 30, mge 30 _, mck23⟩
set_option maxRecDepth 10000 in
theorem mf24 : mMF 24 mm24 := ⟨⟨(3, 198), rfl⟩, rfl, ⟨((3, 197), (0, 0)), by decide +kernel⟩, 20, mge 20 _, mck24⟩
set_option maxRecDepth 10000 in
theorem mf25 : mMF 25 mm25 := ⟨⟨(3, 223), rfl⟩, rfl, ⟨((3, 222), (0, 0)), by decide +kernel⟩, 58, mge 58 _, mck25⟩
set_option maxRecDepth 10000 in
theorem mf26 : mMF 26 mm26 := ⟨⟨(4, 95), rfl⟩, rfl, ⟨((4, 94), (0, 0)), by decide +kernel⟩, 17, mge 17 _, mck26⟩
set_option maxRecDepth 10000 in
theorem mf27 : mMF 27 mm27 := ⟨⟨(4, 98), rfl⟩, rfl, ⟨((4, 97), (0, 0)), by decide +kernel⟩, 18, mge 18 _, mck27⟩
set_option maxRecDepth 10000 in
theorem mf28 : mMF 28 mm28 := ⟨⟨(5, 66), rfl⟩, rfl, ⟨((5, 65), (0, 0)), by decide +kernel⟩, 16, mge 16 _, mck28⟩
set_option maxRecDepth 10000 in
theorem mf29 : mMF 29 mm29 := ⟨⟨(3, 204), rfl⟩, rfl, ⟨((3, 202), (3, 203)), by decide +kernel⟩, 15, mge 15 _, mck29⟩
set_option maxRecDepth 10000 in
theorem mf30 : mMF 30 mm30 := ⟨⟨(4, 80), rfl⟩, rfl, ⟨((4, 78), (4, 79)), by decide +kernel⟩, 5, mge 5 _, mck30⟩
set_option maxRecDepth 10000 in
theorem mf31 : mMF 31 mm31 := ⟨⟨(2, 133), rfl⟩, rfl, ⟨((2, 131), (2, 132)), by decide +kernel⟩, 12, mge 12 _, mck31⟩
set_option maxRecDepth 10000 in
theorem mf32 : mMF 32 mm32 := ⟨⟨(3, 227), rfl⟩, rfl, ⟨((3, 225), (3, 226)), by decide +kernel⟩, 42, mge 42 _, mck32⟩
set_option maxRecDepth 10000 in
theorem mf33 : mMF 33 mm33 := ⟨⟨(4, 7), rfl⟩, rfl, ⟨((4, 5), (4, 6)), by decide +kernel⟩, 61, mge 61 _, mck33⟩
set_option maxRecDepth 10000 in
theorem mf34 : mMF 34 mm34 := ⟨⟨(4, 84), rfl⟩, rfl, ⟨((4, 82), (4, 83)), by decide +kernel⟩, 26, mge 26 _, mck34⟩
set_option maxRecDepth 10000 in
theorem mf35 : mMF 35 mm35 := ⟨⟨(4, 88), rfl⟩, rfl, ⟨((4, 86), (4, 87)), by decide +kernel⟩, 26, mge 26 _, mck35⟩
set_option maxRecDepth 10000 in
theorem mf36 : mMF 36 mm36 := ⟨⟨(5, 34), rfl⟩, rfl, ⟨((5, 32), (5, 33)), by decide +kernel⟩, 53, mge 53 _, mck36⟩
set_option maxRecDepth 10000 in
theorem mf37 : mMF 37 mm37 := ⟨⟨(1, 57), rfl⟩, rfl, ⟨((1, 56), (0, 0)), by decide +kernel⟩, 5, mge 5 _, mck37⟩
set_option maxRecDepth 10000 in
theorem mf38 : mMF 38 mm38 := ⟨⟨(3, 32), rfl⟩, rfl, ⟨((3, 30), (3, 31)), by decide +kernel⟩, 85, mge 85 _, mck38⟩
set_option maxRecDepth 10000 in
theorem mf39 : mMF 39 mm39 := ⟨⟨(3, 36), rfl⟩, rfl, ⟨((3, 35), (0, 2)), by decide +kernel⟩, 113, mge 113 _, mck39⟩
set_option maxRecDepth 10000 in
theorem mf40 : mMF 40 mm40 := ⟨⟨(3, 53), rfl⟩, rfl, ⟨((3, 52), (0, 4)), by decide +kernel⟩, 92, mge 92 _, mck40⟩
set_option maxRecDepth 10000 in
theorem mf41 : mMF 41 mm41 := ⟨⟨(3, 146), rfl⟩, rfl, ⟨((3, 145), (0, 5)), by decide +kernel⟩, 50, mge 50 _, mck41⟩
set_option maxRecDepth 10000 in
theorem mf42 : mMF 42 mm42 := ⟨⟨(3, 150), rfl⟩, rfl, ⟨((3, 149), (0, 6)), by decide +kernel⟩, 84, mge 84 _, mck42⟩
set_option maxRecDepth 10000 in
theorem mf43 : mMF 43 mm43 := ⟨⟨(3, 154), rfl⟩, rfl, ⟨((3, 153), (0, 7)), by decide +kernel⟩, 139, mge 139 _, mck43⟩
set_option maxRecDepth 10000 in
theorem mf44 : mMF 44 mm44 := ⟨⟨(3, 40), rfl⟩, rfl, ⟨((3, 39), (0, 0)), by decide +kernel⟩, 34, mge 34 _, mck44⟩
set_option maxRecDepth 10000 in
theorem mf45 : mMF 45 mm45 := ⟨⟨(3, 44), rfl⟩, rfl, ⟨((3, 43), (0, 0)), by decide +kernel⟩, 18, mge 18 _, mck45⟩
set_option maxRecDepth 10000 in
theorem mf46 : mMF 46 mm46 := ⟨⟨(3, 48), rfl⟩, rfl, ⟨((3, 47), (0, 3)), by decide +kernel⟩, 43, mge 43 _, mck46⟩
set_option maxRecDepth 10000 in
theorem mf47 : mMF 47 mm47 := ⟨⟨(3, 160), rfl⟩, rfl, ⟨((3, 159), (0, 8)), by decide +kernel⟩, 135, mge 135 _, mck47⟩
set_option maxRecDepth 10000 in
theorem mf48 : mMF 48 mm48 := ⟨⟨(3, 164), rfl⟩, rfl, ⟨((3, 163), (0, 9)), by decide +kernel⟩, 135, mge 135 _, mck48⟩
set_option maxRecDepth 10000 in
theorem mf49 : mMF 49 mm49 := ⟨⟨(3, 185), rfl⟩, rfl, ⟨((3, 183), (3, 184)), by decide +kernel⟩, 7, mge 7 _, mck49⟩
set_option maxRecDepth 10000 in
theorem mf50 : mMF 50 mm50 := ⟨⟨(4, 76), rfl⟩, rfl, ⟨((4, 74), (4, 75)), by decide +kernel⟩, 5, mge 5 _, mck50⟩
set_option maxRecDepth 10000 in
theorem mf51 : mMF 51 mm51 := ⟨⟨(3, 142), rfl⟩, rfl, ⟨((3, 140), (3, 141)), by decide +kernel⟩, 15, mge 15 _, mck51⟩
set_option maxRecDepth 10000 in
theorem mf52 : mMF 52 mm52 := ⟨⟨(6, 15), rfl⟩, rfl, ⟨((6, 13), (6, 14)), by decide +kernel⟩, 5, mge 5 _, mck52⟩
set_option maxRecDepth 10000 in
theorem mf53 : mMF 53 mm53 := ⟨⟨(4, 140), rfl⟩, rfl, ⟨((4, 138), (4, 139)), by decide +kernel⟩, 5, mge 5 _, mck53⟩
set_option maxRecDepth 10000 in
theorem mf54 : mMF 54 mm54 := ⟨⟨(4, 60), rfl⟩, rfl, ⟨((4, 58), (4, 59)), by decide +kernel⟩, 5, mge 5 _, mck54⟩
set_option maxRecDepth 10000 in
theorem mf55 : mMF 55 mm55 := ⟨⟨(6, 7), rfl⟩, rfl, ⟨((6, 5), (6, 6)), by decide +kernel⟩, 5, mge 5 _, mck55⟩
set_option maxRecDepth 10000 in
theorem mf56 : mMF 56 mm56 := ⟨⟨(5, 107), rfl⟩, rfl, ⟨((5, 105), (5, 106)), by decide +kernel⟩, 5, mge 5 _, mck56⟩
set_option maxRecDepth 10000 in
theorem mf57 : mMF 57 mm57 := ⟨⟨(1, 112), rfl⟩, rfl, ⟨((1, 111), (0, 0)), by decide +kernel⟩, 53, mge 53 _, mck57⟩
set_option maxRecDepth 10000 in
theorem mf58 : mMF 58 mm58 := ⟨⟨(4, 39), rfl⟩, rfl, ⟨((4, 37), (4, 38)), by decide +kernel⟩, 11, mge 11 _, mck58⟩
set_option maxRecDepth 10000 in
theorem mf59 : mMF 59 mm59 := ⟨⟨(4, 43), rfl⟩, rfl, ⟨((4, 41), (4, 42)), by decide +kernel⟩, 24, mge 24 _, mck59⟩
set_option maxRecDepth 10000 in
theorem mf60 : mMF 60 mm60 := ⟨⟨(4, 52), rfl⟩, rfl, ⟨((4, 50), (4, 51)), by decide +kernel⟩, 123, mge 123 _, mck60⟩
set_option maxRecDepth 10000 in
theorem mf61 : mMF 61 mm61 := ⟨⟨(4, 68), rfl⟩, rfl, ⟨((4, 67), (0, 10)), by decide +kernel⟩, 92, mge 92 _, mck61⟩
set_option maxRecDepth 10000 in
theorem mf62 : mMF 62 mm62 := ⟨⟨(4, 72), rfl⟩, rfl, ⟨((4, 71), (0, 11)), by decide +kernel⟩, 49, mge 49 _, mck62⟩
set_option maxRecDepth 10000 in
theorem mf63 : mMF 63 mm63 := ⟨⟨(4, 92), rfl⟩, rfl, ⟨((4, 91), (0, 12)), by decide +kernel⟩, 194, mge 194 _, mck63⟩
set_option maxRecDepth 10000 in
theorem mf64 : mMF 64 mm64 := ⟨⟨(4, 103), rfl⟩, rfl, ⟨((4, 102), (0, 13)), by decide +kernel⟩, 323, mge 323 _, mck64⟩
set_option maxRecDepth 10000 in
theorem mf65 : mMF 65 mm65 := ⟨⟨(4, 149), rfl⟩, rfl, ⟨((4, 148), (0, 14)), by decide +kernel⟩, 179, mge 179 _, mck65⟩
set_option maxRecDepth 10000 in
theorem mf66 : mMF 66 mm66 := ⟨⟨(5, 43), rfl⟩, rfl, ⟨((5, 42), (0, 25)), by decide +kernel⟩, 83, mge 83 _, mck66⟩
set_option maxRecDepth 10000 in
theorem mf67 : mMF 67 mm67 := ⟨⟨(5, 63), rfl⟩, rfl, ⟨((5, 62), (0, 26)), by decide +kernel⟩, 50, mge 50 _, mck67⟩
set_option maxRecDepth 10000 in
theorem mf68 : mMF 68 mm68 := ⟨⟨(1, 118), rfl⟩, rfl, ⟨((1, 117), (0, 0)), by decide +kernel⟩, 14, mge 14 _, mck68⟩
set_option maxRecDepth 10000 in
theorem mf69 : mMF 69 mm69 := ⟨⟨(4, 56), rfl⟩, rfl, ⟨((4, 54), (4, 55)), by decide +kernel⟩, 16, mge 16 _, mck69⟩
set_option maxRecDepth 10000 in
theorem mf70 : mMF 70 mm70 := ⟨⟨(4, 64), rfl⟩, rfl, ⟨((4, 62), (4, 63)), by decide +kernel⟩, 32, mge 32 _, mck70⟩
set_option maxRecDepth 10000 in
theorem mf71 : mMF 71 mm71 := ⟨⟨(4, 109), rfl⟩, rfl, ⟨((4, 107), (4, 108)), by decide +kernel⟩, 10, mge 10 _, mck71⟩
set_option maxRecDepth 10000 in
theorem mf72 : mMF 72 mm72 := ⟨⟨(4, 114), rfl⟩, rfl, ⟨((4, 112), (4, 113)), by decide +kernel⟩, 30, mge 30 _, mck72⟩
set_option maxRecDepth 10000 in
theorem mf73 : mMF 73 mm73 := ⟨⟨(5, 75), rfl⟩, rfl, ⟨((5, 73), (5, 74)), by decide +kernel⟩, 22, mge 22 _, mck73⟩
set_option maxRecDepth 10000 in
theorem mf74 : mMF 74 mm74 := ⟨⟨(5, 212), rfl⟩, rfl, ⟨((5, 210), (5, 211)), by decide +kernel⟩, 26, mge 26 _, mck74⟩
set_option maxRecDepth 10000 in
theorem mf75 : mMF 75 mm75 := ⟨⟨(5, 47), rfl⟩, rfl, ⟨((5, 45), (5, 46)), by decide +kernel⟩, 60, mge 60 _, mck75⟩
set_option maxRecDepth 10000 in
theorem mf76 : mMF 76 mm76 := ⟨⟨(5, 58), rfl⟩, rfl, ⟨((5, 56), (5, 57)), by decide +kernel⟩, 20, mge 20 _, mck76⟩
set_option maxRecDepth 10000 in
theorem mf77 : mMF 77 mm77 := ⟨⟨(5, 52), rfl⟩, rfl, ⟨((5, 50), (5, 51)), by decide +kernel⟩, 22, mge 22 _, mck77⟩
set_option maxRecDepth 10000 in
theorem mf78 : mMF 78 mm78 := ⟨⟨(5, 24), rfl⟩, rfl, ⟨((5, 22), (5, 23)), by decide +kernel⟩, 119, mge 119 _, mck78⟩
set_option maxRecDepth 10000 in
theorem mf79 : mMF 79 mm79 := ⟨⟨(5, 38), rfl⟩, rfl, ⟨((5, 36), (5, 37)), by decide +kernel⟩, 20, mge 20 _, mck79⟩
set_option maxRecDepth 10000 in
theorem mf80 : mMF 80 mm80 := ⟨⟨(5, 71), rfl⟩, rfl, ⟨((5, 69), (5, 70)), by decide +kernel⟩, 96, mge 96 _, mck80⟩
set_option maxRecDepth 10000 in
theorem mf81 : mMF 81 mm81 := ⟨⟨(4, 153), rfl⟩, rfl, ⟨((4, 151), (4, 152)), by decide +kernel⟩, 110, mge 110 _, mck81⟩
set_option maxRecDepth 10000 in
theorem mf82 : mMF 82 mm82 := ⟨⟨(4, 157), rfl⟩, rfl, ⟨((4, 156), (0, 15)), by decide +kernel⟩, 23, mge 23 _, mck82⟩
set_option maxRecDepth 10000 in
theorem mf83 : mMF 83 mm83 := ⟨⟨(4, 144), rfl⟩, rfl, ⟨((4, 142), (4, 143)), by decide +kernel⟩, 83, mge 83 _, mck83⟩
set_option maxRecDepth 10000 in
theorem mf84 : mMF 84 mm84 := ⟨⟨(6, 11), rfl⟩, rfl, ⟨((6, 9), (6, 10)), by decide +kernel⟩, 51, mge 51 _, mck84⟩
set_option maxRecDepth 10000 in
theorem mf85 : mMF 85 mm85 := ⟨⟨(6, 19), rfl⟩, rfl, ⟨((6, 17), (6, 18)), by decide +kernel⟩, 133, mge 133 _, mck85⟩
set_option maxRecDepth 10000 in
theorem mf86 : mMF 86 mm86 := ⟨⟨(1, 221), rfl⟩, rfl, ⟨((1, 220), (0, 0)), by decide +kernel⟩, 5, mge 5 _, mck86⟩
set_option maxRecDepth 10000 in
theorem mf87 : mMF 87 mm87 := ⟨⟨(5, 80), rfl⟩, rfl, ⟨((5, 78), (5, 79)), by decide +kernel⟩, 57, mge 57 _, mck87⟩
set_option maxRecDepth 10000 in
theorem mf88 : mMF 88 mm88 := ⟨⟨(5, 94), rfl⟩, rfl, ⟨((5, 93), (0, 27)), by decide +kernel⟩, 195, mge 195 _, mck88⟩
set_option maxRecDepth 10000 in
theorem mf89 : mMF 89 mm89 := ⟨⟨(5, 102), rfl⟩, rfl, ⟨((5, 101), (0, 28)), by decide +kernel⟩, 45, mge 45 _, mck89⟩
set_option maxRecDepth 10000 in
theorem mf90 : mMF 90 mm90 := ⟨⟨(5, 111), rfl⟩, rfl, ⟨((5, 109), (5, 110)), by decide +kernel⟩, 187, mge 187 _, mck90⟩
set_option maxRecDepth 10000 in
theorem mf91 : mMF 91 mm91 := ⟨⟨(5, 116), rfl⟩, rfl, ⟨((5, 115), (0, 29)), by decide +kernel⟩, 37, mge 37 _, mck91⟩
set_option maxRecDepth 10000 in
theorem mf92 : mMF 92 mm92 := ⟨⟨(5, 147), rfl⟩, rfl, ⟨((5, 146), (0, 34)), by decide +kernel⟩, 389, mge 389 _, mck92⟩
set_option maxRecDepth 10000 in
theorem mf93 : mMF 93 mm93 := ⟨⟨(5, 143), rfl⟩, rfl, ⟨((5, 142), (0, 33)), by decide +kernel⟩, 84, mge 84 _, mck93⟩
set_option maxRecDepth 10000 in
theorem mf94 : mMF 94 mm94 := ⟨⟨(5, 123), rfl⟩, rfl, ⟨((5, 122), (0, 30)), by decide +kernel⟩, 161, mge 161 _, mck94⟩
set_option maxRecDepth 10000 in
theorem mf95 : mMF 95 mm95 := ⟨⟨(5, 127), rfl⟩, rfl, ⟨((5, 126), (0, 31)), by decide +kernel⟩, 8, mge 8 _, mck95⟩
set_option maxRecDepth 10000 in
theorem mf96 : mMF 96 mm96 := ⟨⟨(5, 133), rfl⟩, rfl, ⟨((5, 132), (0, 32)), by decide +kernel⟩, 13, mge 13 _, mck96⟩
set_option maxRecDepth 10000 in
theorem mf97 : mMF 97 mm97 := ⟨⟨(5, 151), rfl⟩, rfl, ⟨((5, 150), (0, 35)), by decide +kernel⟩, 100, mge 100 _, mck97⟩
set_option maxRecDepth 10000 in
theorem mf98 : mMF 98 mm98 := ⟨⟨(5, 168), rfl⟩, rfl, ⟨((5, 167), (0, 36)), by decide +kernel⟩, 65, mge 65 _, mck98⟩
set_option maxRecDepth 10000 in
theorem mf99 : mMF 99 mm99 := ⟨⟨(1, 137), rfl⟩, rfl, ⟨((1, 136), (0, 0)), by decide +kernel⟩, 27, mge 27 _, mck99⟩
set_option maxRecDepth 10000 in
theorem mf100 : mMF 100 mm100 := ⟨⟨(4, 166), rfl⟩, rfl, ⟨((4, 165), (0, 16)), by decide +kernel⟩, 36, mge 36 _, mck100⟩
set_option maxRecDepth 10000 in
theorem mf101 : mMF 101 mm101 := ⟨⟨(4, 171), rfl⟩, rfl, ⟨((4, 170), (0, 17)), by decide +kernel⟩, 152, mge 152 _, mck101⟩
set_option maxRecDepth 10000 in
theorem mf102 : mMF 102 mm102 := ⟨⟨(4, 162), rfl⟩, rfl, ⟨((4, 160), (4, 161)), by decide +kernel⟩, 93, mge 93 _, mck102⟩
set_option maxRecDepth 10000 in
theorem mf103 : mMF 103 mm103 := ⟨⟨(5, 183), rfl⟩, rfl, ⟨((5, 181), (5, 182)), by decide +kernel⟩, 100, mge 100 _, mck103⟩
set_option maxRecDepth 10000 in
theorem mf104 : mMF 104 mm104 := ⟨⟨(5, 218), rfl⟩, rfl, ⟨((5, 217), (0, 41)), by decide +kernel⟩, 145, mge 145 _, mck104⟩
set_option maxRecDepth 10000 in
theorem mf105 : mMF 105 mm105 := ⟨⟨(6, 2), rfl⟩, rfl, ⟨((6, 1), (0, 45)), by decide +kernel⟩, 98, mge 98 _, mck105⟩
set_option maxRecDepth 10000 in
theorem mf106 : mMF 106 mm106 := ⟨⟨(5, 230), rfl⟩, rfl, ⟨((5, 229), (0, 43)), by decide +kernel⟩, 66, mge 66 _, mck106⟩
set_option maxRecDepth 10000 in
theorem mf107 : mMF 107 mm107 := ⟨⟨(5, 235), rfl⟩, rfl, ⟨((5, 234), (0, 44)), by decide +kernel⟩, 54, mge 54 _, mck107⟩
set_option maxRecDepth 10000 in
theorem mf108 : mMF 108 mm108 := ⟨⟨(5, 189), rfl⟩, rfl, ⟨((5, 188), (0, 37)), by decide +kernel⟩, 172, mge 172 _, mck108⟩
set_option maxRecDepth 10000 in
theorem mf109 : mMF 109 mm109 := ⟨⟨(5, 196), rfl⟩, rfl, ⟨((5, 195), (0, 38)), by decide +kernel⟩, 57, mge 57 _, mck109⟩
set_option maxRecDepth 10000 in
theorem mf110 : mMF 110 mm110 := ⟨⟨(5, 200), rfl⟩, rfl, ⟨((5, 199), (0, 39)), by decide +kernel⟩, 117, mge 117 _, mck110⟩
set_option maxRecDepth 10000 in
theorem mf111 : mMF 111 mm111 := ⟨⟨(5, 206), rfl⟩, rfl, ⟨((5, 205), (0, 40)), by decide +kernel⟩, 36, mge 36 _, mck111⟩
set_option maxRecDepth 10000 in
theorem mf112 : mMF 112 mm112 := ⟨⟨(1, 143), rfl⟩, rfl, ⟨((1, 142), (0, 0)), by decide +kernel⟩, 22, mge 22 _, mck112⟩
set_option maxRecDepth 10000 in
theorem mf113 : mMF 113 mm113 := ⟨⟨(4, 187), rfl⟩, rfl, ⟨((4, 185), (4, 186)), by decide +kernel⟩, 191, mge 191 _, mck113⟩
set_option maxRecDepth 10000 in
theorem mf114 : mMF 114 mm114 := ⟨⟨(4, 196), rfl⟩, rfl, ⟨((4, 195), (0, 0)), by decide +kernel⟩, 24, mge 24 _, mck114⟩
set_option maxRecDepth 10000 in
theorem mf115 : mMF 115 mm115 := ⟨⟨(4, 200), rfl⟩, rfl, ⟨((4, 199), (0, 18)), by decide +kernel⟩, 116, mge 116 _, mck115⟩
set_option maxRecDepth 10000 in
theorem mf116 : mMF 116 mm116 := ⟨⟨(4, 204), rfl⟩, rfl, ⟨((4, 203), (0, 19)), by decide +kernel⟩, 110, mge 110 _, mck116⟩
set_option maxRecDepth 10000 in
theorem mf117 : mMF 117 mm117 := ⟨⟨(4, 211), rfl⟩, rfl, ⟨((4, 209), (4, 210)), by decide +kernel⟩, 5, mge 5 _, mck117⟩
set_option maxRecDepth 10000 in
theorem mf118 : mMF 118 mm118 := ⟨⟨(4, 224), rfl⟩, rfl, ⟨((4, 222), (4, 223)), by decide +kernel⟩, 23, mge 23 _, mck118⟩
set_option maxRecDepth 10000 in
theorem mf119 : mMF 119 mm119 := ⟨⟨(5, 222), rfl⟩, rfl, ⟨((5, 220), (5, 221)), by decide +kernel⟩, 62, mge 62 _, mck119⟩
set_option maxRecDepth 10000 in
theorem mf120 : mMF 120 mm120 := ⟨⟨(5, 226), rfl⟩, rfl, ⟨((5, 225), (0, 42)), by decide +kernel⟩, 77, mge 77 _, mck120⟩
set_option maxRecDepth 10000 in
theorem mf121 : mMF 121 mm121 := ⟨⟨(4, 215), rfl⟩, rfl, ⟨((4, 213), (4, 214)), by decide +kernel⟩, 37, mge 37 _, mck121⟩
set_option maxRecDepth 10000 in
theorem mf122 : mMF 122 mm122 := ⟨⟨(4, 228), rfl⟩, rfl, ⟨((4, 226), (4, 227)), by decide +kernel⟩, 32, mge 32 _, mck122⟩
set_option maxRecDepth 10000 in
theorem mf123 : mMF 123 mm123 := ⟨⟨(4, 219), rfl⟩, rfl, ⟨((4, 218), (0, 20)), by decide +kernel⟩, 19, mge 19 _, mck123⟩
set_option maxRecDepth 10000 in
theorem mf124 : mMF 124 mm124 := ⟨⟨(1, 165), rfl⟩, rfl, ⟨((1, 164), (0, 0)), by decide +kernel⟩, 5, mge 5 _, mck124⟩
set_option maxRecDepth 10000 in
theorem mf125 : mMF 125 mm125 := ⟨⟨(4, 181), rfl⟩, rfl, ⟨((4, 179), (4, 180)), by decide +kernel⟩, 261, mge 261 _, mck125⟩
set_option maxRecDepth 10000 in
theorem mf126 : mMF 126 mm126 := ⟨⟨(4, 232), rfl⟩, rfl, ⟨((4, 231), (0, 21)), by decide +kernel⟩, 189, mge 189 _, mck126⟩
set_option maxRecDepth 10000 in
theorem mf127 : mMF 127 mm127 := ⟨⟨(4, 237), rfl⟩, rfl, ⟨((4, 236), (0, 22)), by decide +kernel⟩, 38, mge 38 _, mck127⟩
set_option maxRecDepth 10000 in
theorem mf128 : mMF 128 mm128 := ⟨⟨(5, 1), rfl⟩, rfl, ⟨((5, 0), (0, 23)), by decide +kernel⟩, 38, mge 38 _, mck128⟩
set_option maxRecDepth 10000 in
theorem mf129 : mMF 129 mm129 := ⟨⟨(5, 5), rfl⟩, rfl, ⟨((5, 4), (0, 24)), by decide +kernel⟩, 60, mge 60 _, mck129⟩
set_option maxRecDepth 10000 in
theorem mf130 : mMF 130 mm130 := ⟨⟨(5, 9), rfl⟩, rfl, ⟨((5, 8), (0, 0)), by decide +kernel⟩, 76, mge 76 _, mck130⟩
set_option maxRecDepth 10000 in
theorem mf131 : mMF 131 mm131 := ⟨⟨(5, 16), rfl⟩, rfl, ⟨((5, 15), (0, 0)), by decide +kernel⟩, 33, mge 33 _, mck131⟩
set_option maxRecDepth 10000 in
theorem mf132 : mMF 132 mm132 := ⟨⟨(5, 13), rfl⟩, rfl, ⟨((5, 12), (0, 0)), by decide +kernel⟩, 44, mge 44 _, mck132⟩
set_option maxRecDepth 10000 in
theorem mf133 : mMF 133 mm133 := ⟨⟨(2, 40), rfl⟩, rfl, ⟨((2, 39), (0, 0)), by decide +kernel⟩, 21, mge 21 _, mck133⟩
set_option maxRecDepth 10000 in
theorem mf134 : mMF 134 mm134 := ⟨⟨(6, 168), rfl⟩, rfl, ⟨((6, 166), (6, 167)), by decide +kernel⟩, 5, mge 5 _, mck134⟩
set_option maxRecDepth 10000 in
theorem mf135 : mMF 135 mm135 := ⟨⟨(6, 47), rfl⟩, rfl, ⟨((6, 45), (6, 46)), by decide +kernel⟩, 223, mge 223 _, mck135⟩
set_option maxRecDepth 10000 in
theorem mf136 : mMF 136 mm136 := ⟨⟨(6, 51), rfl⟩, rfl, ⟨((6, 50), (0, 46)), by decide +kernel⟩, 99, mge 99 _, mck136⟩
set_option maxRecDepth 10000 in
theorem mf137 : mMF 137 mm137 := ⟨⟨(6, 61), rfl⟩, rfl, ⟨((6, 60), (0, 48)), by decide +kernel⟩, 27, mge 27 _, mck137⟩
set_option maxRecDepth 10000 in
theorem mf138 : mMF 138 mm138 := ⟨⟨(6, 57), rfl⟩, rfl, ⟨((6, 56), (0, 47)), by decide +kernel⟩, 39, mge 39 _, mck138⟩
set_option maxRecDepth 10000 in
theorem mf139 : mMF 139 mm139 := ⟨⟨(6, 66), rfl⟩, rfl, ⟨((6, 65), (0, 49)), by decide +kernel⟩, 59, mge 59 _, mck139⟩
set_option maxRecDepth 10000 in
theorem mf140 : mMF 140 mm140 := ⟨⟨(6, 86), rfl⟩, rfl, ⟨((6, 85), (0, 51)), by decide +kernel⟩, 150, mge 150 _, mck140⟩
set_option maxRecDepth 10000 in
theorem mf141 : mMF 141 mm141 := ⟨⟨(6, 97), rfl⟩, rfl, ⟨((6, 96), (0, 52)), by decide +kernel⟩, 54, mge 54 _, mck141⟩
set_option maxRecDepth 10000 in
theorem mf142 : mMF 142 mm142 := ⟨⟨(6, 93), rfl⟩, rfl, ⟨((6, 92), (0, 0)), by decide +kernel⟩, 52, mge 52 _, mck142⟩
set_option maxRecDepth 10000 in
theorem mf143 : mMF 143 mm143 := ⟨⟨(6, 107), rfl⟩, rfl, ⟨((6, 106), (0, 53)), by decide +kernel⟩, 152, mge 152 _, mck143⟩
set_option maxRecDepth 10000 in
theorem mf144 : mMF 144 mm144 := ⟨⟨(6, 113), rfl⟩, rfl, ⟨((6, 112), (0, 54)), by decide +kernel⟩, 31, mge 31 _, mck144⟩
set_option maxRecDepth 10000 in
theorem mf145 : mMF 145 mm145 := ⟨⟨(6, 117), rfl⟩, rfl, ⟨((6, 116), (0, 55)), by decide +kernel⟩, 23, mge 23 _, mck145⟩
set_option maxRecDepth 10000 in
theorem mf146 : mMF 146 mm146 := ⟨⟨(6, 145), rfl⟩, rfl, ⟨((6, 144), (0, 60)), by decide +kernel⟩, 85, mge 85 _, mck146⟩
set_option maxRecDepth 10000 in
theorem mf147 : mMF 147 mm147 := ⟨⟨(6, 80), rfl⟩, rfl, ⟨((6, 79), (0, 50)), by decide +kernel⟩, 32, mge 32 _, mck147⟩
set_option maxRecDepth 10000 in
theorem mf148 : mMF 148 mm148 := ⟨⟨(2, 46), rfl⟩, rfl, ⟨((2, 45), (0, 0)), by decide +kernel⟩, 14, mge 14 _, mck148⟩
set_option maxRecDepth 10000 in
theorem mf149 : mMF 149 mm149 := ⟨⟨(6, 74), rfl⟩, rfl, ⟨((6, 73), (0, 0)), by decide +kernel⟩, 14, mge 14 _, mck149⟩
set_option maxRecDepth 10000 in
theorem mf150 : mMF 150 mm150 := ⟨⟨(6, 90), rfl⟩, rfl, ⟨((6, 88), (6, 89)), by decide +kernel⟩, 16, mge 16 _, mck150⟩
set_option maxRecDepth 10000 in
theorem mf151 : mMF 151 mm151 := ⟨⟨(6, 102), rfl⟩, rfl, ⟨((6, 100), (6, 101)), by decide +kernel⟩, 94, mge 94 _, mck151⟩
set_option maxRecDepth 10000 in
theorem mf152 : mMF 152 mm152 := ⟨⟨(6, 162), rfl⟩, rfl, ⟨((6, 160), (6, 161)), by decide +kernel⟩, 28, mge 28 _, mck152⟩
set_option maxRecDepth 10000 in
theorem mf153 : mMF 153 mm153 := ⟨⟨(6, 149), rfl⟩, rfl, ⟨((6, 147), (6, 148)), by decide +kernel⟩, 69, mge 69 _, mck153⟩
set_option maxRecDepth 10000 in
theorem mf154 : mMF 154 mm154 := ⟨⟨(6, 153), rfl⟩, rfl, ⟨((6, 152), (0, 61)), by decide +kernel⟩, 88, mge 88 _, mck154⟩
set_option maxRecDepth 10000 in
theorem mf155 : mMF 155 mm155 := ⟨⟨(6, 158), rfl⟩, rfl, ⟨((6, 157), (0, 62)), by decide +kernel⟩, 110, mge 110 _, mck155⟩
set_option maxRecDepth 10000 in
theorem mf156 : mMF 156 mm156 := ⟨⟨(6, 125), rfl⟩, rfl, ⟨((6, 124), (0, 56)), by decide +kernel⟩, 39, mge 39 _, mck156⟩
set_option maxRecDepth 10000 in
theorem mf157 : mMF 157 mm157 := ⟨⟨(6, 129), rfl⟩, rfl, ⟨((6, 128), (0, 57)), by decide +kernel⟩, 41, mge 41 _, mck157⟩
set_option maxRecDepth 10000 in
theorem mf158 : mMF 158 mm158 := ⟨⟨(6, 139), rfl⟩, rfl, ⟨((6, 138), (0, 59)), by decide +kernel⟩, 80, mge 80 _, mck158⟩
set_option maxRecDepth 10000 in
theorem mf159 : mMF 159 mm159 := ⟨⟨(6, 121), rfl⟩, rfl, ⟨((6, 119), (6, 120)), by decide +kernel⟩, 188, mge 188 _, mck159⟩
set_option maxRecDepth 10000 in
theorem mf160 : mMF 160 mm160 := ⟨⟨(6, 135), rfl⟩, rfl, ⟨((6, 134), (0, 58)), by decide +kernel⟩, 56, mge 56 _, mck160⟩
set_option maxRecDepth 10000 in
theorem mf161 : mMF 161 mm161 := ⟨⟨(6, 173), rfl⟩, rfl, ⟨((6, 172), (0, 0)), by decide +kernel⟩, 135, mge 135 _, mck161⟩
set_option maxRecDepth 10000 in
theorem mf162 : mMF 162 mm162 := ⟨⟨(7, 79), rfl⟩, rfl, ⟨((7, 77), (7, 78)), by decide +kernel⟩, 5, mge 5 _, mck162⟩
set_option maxRecDepth 10000 in
theorem mf163 : mMF 163 mm163 := ⟨⟨(8, 122), rfl⟩, rfl, ⟨((8, 121), (0, 93)), by decide +kernel⟩, 96, mge 96 _, mck163⟩
set_option maxRecDepth 10000 in
theorem mf164 : mMF 164 mm164 := ⟨⟨(8, 41), rfl⟩, rfl, ⟨((8, 40), (0, 82)), by decide +kernel⟩, 108, mge 108 _, mck164⟩
set_option maxRecDepth 10000 in
theorem mf165 : mMF 165 mm165 := ⟨⟨(8, 37), rfl⟩, rfl, ⟨((8, 36), (0, 81)), by decide +kernel⟩, 30, mge 30 _, mck165⟩
set_option maxRecDepth 10000 in
theorem mf166 : mMF 166 mm166 := ⟨⟨(8, 44), rfl⟩, rfl, ⟨((8, 43), (0, 0)), by decide +kernel⟩, 29, mge 29 _, mck166⟩
set_option maxRecDepth 10000 in
theorem mf167 : mMF 167 mm167 := ⟨⟨(8, 49), rfl⟩, rfl, ⟨((8, 48), (0, 0)), by decide +kernel⟩, 18, mge 18 _, mck167⟩
set_option maxRecDepth 10000 in
theorem mf168 : mMF 168 mm168 := ⟨⟨(7, 199), rfl⟩, rfl, ⟨((7, 198), (0, 0)), by decide +kernel⟩, 18, mge 18 _, mck168⟩
set_option maxRecDepth 10000 in
theorem mf169 : mMF 169 mm169 := ⟨⟨(7, 204), rfl⟩, rfl, ⟨((7, 203), (0, 0)), by decide +kernel⟩, 18, mge 18 _, mck169⟩
set_option maxRecDepth 10000 in
theorem mf170 : mMF 170 mm170 := ⟨⟨(7, 192), rfl⟩, rfl, ⟨((7, 191), (0, 0)), by decide +kernel⟩, 130, mge 130 _, mck170⟩
set_option maxRecDepth 10000 in
theorem mf171 : mMF 171 mm171 := ⟨⟨(7, 211), rfl⟩, rfl, ⟨((7, 210), (0, 77)), by decide +kernel⟩, 270, mge 270 _, mck171⟩
set_option maxRecDepth 10000 in
theorem mf172 : mMF 172 mm172 := ⟨⟨(8, 10), rfl⟩, rfl, ⟨((8, 9), (0, 78)), by decide +kernel⟩, 60, mge 60 _, mck172⟩
set_option maxRecDepth 10000 in
theorem mf173 : mMF 173 mm173 := ⟨⟨(8, 23), rfl⟩, rfl, ⟨((8, 22), (0, 79)), by decide +kernel⟩, 52, mge 52 _, mck173⟩
set_option maxRecDepth 10000 in
theorem mf174 : mMF 174 mm174 := ⟨⟨(8, 27), rfl⟩, rfl, ⟨((8, 26), (0, 80)), by decide +kernel⟩, 79, mge 79 _, mck174⟩
set_option maxRecDepth 10000 in
theorem mf175 : mMF 175 mm175 := ⟨⟨(7, 160), rfl⟩, rfl, ⟨((7, 159), (0, 71)), by decide +kernel⟩, 32, mge 32 _, mck175⟩
set_option maxRecDepth 10000 in
theorem mf176 : mMF 176 mm176 := ⟨⟨(7, 166), rfl⟩, rfl, ⟨((7, 165), (0, 72)), by decide +kernel⟩, 26, mge 26 _, mck176⟩
set_option maxRecDepth 10000 in
theorem mf177 : mMF 177 mm177 := ⟨⟨(8, 53), rfl⟩, rfl, ⟨((8, 52), (0, 83)), by decide +kernel⟩, 85, mge 85 _, mck177⟩
set_option maxRecDepth 10000 in
theorem mf178 : mMF 178 mm178 := ⟨⟨(7, 177), rfl⟩, rfl, ⟨((7, 176), (0, 74)), by decide +kernel⟩, 123, mge 123 _, mck178⟩
set_option maxRecDepth 10000 in
theorem mf179 : mMF 179 mm179 := ⟨⟨(7, 189), rfl⟩, rfl, ⟨((7, 188), (0, 76)), by decide +kernel⟩, 431, mge 431 _, mck179⟩
set_option maxRecDepth 10000 in
theorem mf180 : mMF 180 mm180 := ⟨⟨(7, 118), rfl⟩, rfl, ⟨((7, 117), (0, 0)), by decide +kernel⟩, 12, mge 12 _, mck180⟩
set_option maxRecDepth 10000 in
theorem mf181 : mMF 181 mm181 := ⟨⟨(8, 62), rfl⟩, rfl, ⟨((8, 61), (0, 85)), by decide +kernel⟩, 19, mge 19 _, mck181⟩
set_option maxRecDepth 10000 in
theorem mf182 : mMF 182 mm182 := ⟨⟨(8, 66), rfl⟩, rfl, ⟨((8, 65), (0, 86)), by decide +kernel⟩, 352, mge 352 _, mck182⟩
set_option maxRecDepth 10000 in
theorem mf183 : mMF 183 mm183 := ⟨⟨(8, 58), rfl⟩, rfl, ⟨((8, 57), (0, 84)), by decide +kernel⟩, 323, mge 323 _, mck183⟩
set_option maxRecDepth 10000 in
theorem mf184 : mMF 184 mm184 := ⟨⟨(8, 109), rfl⟩, rfl, ⟨((8, 108), (0, 90)), by decide +kernel⟩, 245, mge 245 _, mck184⟩
set_option maxRecDepth 10000 in
theorem mf185 : mMF 185 mm185 := ⟨⟨(8, 118), rfl⟩, rfl, ⟨((8, 117), (0, 92)), by decide +kernel⟩, 85, mge 85 _, mck185⟩
set_option maxRecDepth 10000 in
theorem mf186 : mMF 186 mm186 := ⟨⟨(8, 126), rfl⟩, rfl, ⟨((8, 125), (0, 94)), by decide +kernel⟩, 176, mge 176 _, mck186⟩
set_option maxRecDepth 10000 in
theorem mf187 : mMF 187 mm187 := ⟨⟨(8, 130), rfl⟩, rfl, ⟨((8, 129), (0, 95)), by decide +kernel⟩, 73, mge 73 _, mck187⟩
set_option maxRecDepth 10000 in
theorem mf188 : mMF 188 mm188 := ⟨⟨(8, 113), rfl⟩, rfl, ⟨((8, 112), (0, 91)), by decide +kernel⟩, 432, mge 432 _, mck188⟩
set_option maxRecDepth 10000 in
theorem mf189 : mMF 189 mm189 := ⟨⟨(8, 90), rfl⟩, rfl, ⟨((8, 89), (0, 88)), by decide +kernel⟩, 52, mge 52 _, mck189⟩
set_option maxRecDepth 10000 in
theorem mf190 : mMF 190 mm190 := ⟨⟨(8, 81), rfl⟩, rfl, ⟨((8, 80), (0, 0)), by decide +kernel⟩, 36, mge 36 _, mck190⟩
set_option maxRecDepth 10000 in
theorem mf191 : mMF 191 mm191 := ⟨⟨(8, 85), rfl⟩, rfl, ⟨((8, 84), (0, 0)), by decide +kernel⟩, 52, mge 52 _, mck191⟩
set_option maxRecDepth 10000 in
theorem mf192 : mMF 192 mm192 := ⟨⟨(8, 71), rfl⟩, rfl, ⟨((8, 70), (0, 87)), by decide +kernel⟩, 777, mge 777 _, mck192⟩
set_option maxRecDepth 10000 in
theorem mf193 : mMF 193 mm193 := ⟨⟨(8, 99), rfl⟩, rfl, ⟨((8, 98), (0, 89)), by decide +kernel⟩, 54, mge 54 _, mck193⟩
set_option maxRecDepth 10000 in
theorem mf194 : mMF 194 mm194 := ⟨⟨(7, 182), rfl⟩, rfl, ⟨((7, 181), (0, 75)), by decide +kernel⟩, 89, mge 89 _, mck194⟩
set_option maxRecDepth 10000 in
theorem mf195 : mMF 195 mm195 := ⟨⟨(7, 101), rfl⟩, rfl, ⟨((7, 100), (0, 65)), by decide +kernel⟩, 19, mge 19 _, mck195⟩
set_option maxRecDepth 10000 in
theorem mf196 : mMF 196 mm196 := ⟨⟨(7, 104), rfl⟩, rfl, ⟨((7, 103), (0, 0)), by decide +kernel⟩, 18, mge 18 _, mck196⟩
set_option maxRecDepth 10000 in
theorem mf197 : mMF 197 mm197 := ⟨⟨(7, 97), rfl⟩, rfl, ⟨((7, 96), (0, 64)), by decide +kernel⟩, 21, mge 21 _, mck197⟩
set_option maxRecDepth 10000 in
theorem mf198 : mMF 198 mm198 := ⟨⟨(7, 108), rfl⟩, rfl, ⟨((7, 107), (0, 66)), by decide +kernel⟩, 34, mge 34 _, mck198⟩
set_option maxRecDepth 10000 in
theorem mf199 : mMF 199 mm199 := ⟨⟨(7, 93), rfl⟩, rfl, ⟨((7, 92), (0, 63)), by decide +kernel⟩, 547, mge 547 _, mck199⟩
set_option maxRecDepth 10000 in
theorem mf200 : mMF 200 mm200 := ⟨⟨(7, 115), rfl⟩, rfl, ⟨((7, 114), (0, 0)), by decide +kernel⟩, 134, mge 134 _, mck200⟩
set_option maxRecDepth 10000 in
theorem mf201 : mMF 201 mm201 := ⟨⟨(7, 152), rfl⟩, rfl, ⟨((7, 151), (0, 69)), by decide +kernel⟩, 314, mge 314 _, mck201⟩
set_option maxRecDepth 10000 in
theorem mf202 : mMF 202 mm202 := ⟨⟨(7, 156), rfl⟩, rfl, ⟨((7, 155), (0, 70)), by decide +kernel⟩, 341, mge 341 _, mck202⟩
set_option maxRecDepth 10000 in
theorem mf203 : mMF 203 mm203 := ⟨⟨(7, 173), rfl⟩, rfl, ⟨((7, 172), (0, 73)), by decide +kernel⟩, 124, mge 124 _, mck203⟩
set_option maxRecDepth 10000 in
theorem mf204 : mMF 204 mm204 := ⟨⟨(7, 148), rfl⟩, rfl, ⟨((7, 147), (0, 68)), by decide +kernel⟩, 275, mge 275 _, mck204⟩
set_option maxRecDepth 10000 in
theorem mf205 : mMF 205 mm205 := ⟨⟨(8, 159), rfl⟩, rfl, ⟨((8, 158), (0, 97)), by decide +kernel⟩, 19, mge 19 _, mck205⟩
set_option maxRecDepth 10000 in
theorem mf206 : mMF 206 mm206 := ⟨⟨(8, 175), rfl⟩, rfl, ⟨((8, 174), (0, 0)), by decide +kernel⟩, 60, mge 60 _, mck206⟩
set_option maxRecDepth 10000 in
theorem mf207 : mMF 207 mm207 := ⟨⟨(8, 166), rfl⟩, rfl, ⟨((8, 165), (0, 98)), by decide +kernel⟩, 57, mge 57 _, mck207⟩
set_option maxRecDepth 10000 in
theorem mf208 : mMF 208 mm208 := ⟨⟨(8, 155), rfl⟩, rfl, ⟨((8, 154), (0, 96)), by decide +kernel⟩, 357, mge 357 _, mck208⟩
set_option maxRecDepth 10000 in
theorem mf209 : mMF 209 mm209 := ⟨⟨(8, 180), rfl⟩, rfl, ⟨((8, 179), (0, 100)), by decide +kernel⟩, 117, mge 117 _, mck209⟩
set_option maxRecDepth 10000 in
theorem mf210 : mMF 210 mm210 := ⟨⟨(8, 189), rfl⟩, rfl, ⟨((8, 188), (0, 102)), by decide +kernel⟩, 300, mge 300 _, mck210⟩
set_option maxRecDepth 10000 in
theorem mf211 : mMF 211 mm211 := ⟨⟨(8, 199), rfl⟩, rfl, ⟨((8, 198), (0, 103)), by decide +kernel⟩, 176, mge 176 _, mck211⟩
set_option maxRecDepth 10000 in
theorem mf212 : mMF 212 mm212 := ⟨⟨(8, 185), rfl⟩, rfl, ⟨((8, 184), (0, 101)), by decide +kernel⟩, 133, mge 133 _, mck212⟩
set_option maxRecDepth 10000 in
theorem mf213 : mMF 213 mm213 := ⟨⟨(8, 203), rfl⟩, rfl, ⟨((8, 202), (0, 104)), by decide +kernel⟩, 27, mge 27 _, mck213⟩
set_option maxRecDepth 10000 in
theorem mf214 : mMF 214 mm214 := ⟨⟨(8, 207), rfl⟩, rfl, ⟨((8, 206), (0, 105)), by decide +kernel⟩, 28, mge 28 _, mck214⟩
set_option maxRecDepth 10000 in
theorem mf215 : mMF 215 mm215 := ⟨⟨(8, 172), rfl⟩, rfl, ⟨((8, 171), (0, 99)), by decide +kernel⟩, 374, mge 374 _, mck215⟩
set_option maxRecDepth 10000 in
theorem mf216 : mMF 216 mm216 := ⟨⟨(7, 83), rfl⟩, rfl, ⟨((7, 81), (7, 82)), by decide +kernel⟩, 158, mge 158 _, mck216⟩
set_option maxRecDepth 10000 in
theorem mf217 : mMF 217 mm217 := ⟨⟨(7, 88), rfl⟩, rfl, ⟨((7, 86), (7, 87)), by decide +kernel⟩, 150, mge 150 _, mck217⟩
set_option maxRecDepth 10000 in
theorem mf218 : mMF 218 mm218 := ⟨⟨(7, 123), rfl⟩, rfl, ⟨((7, 121), (7, 122)), by decide +kernel⟩, 17, mge 17 _, mck218⟩
set_option maxRecDepth 10000 in
theorem mf219 : mMF 219 mm219 := ⟨⟨(7, 132), rfl⟩, rfl, ⟨((7, 131), (0, 67)), by decide +kernel⟩, 46, mge 46 _, mck219⟩
set_option maxRecDepth 10000 in
theorem mf220 : mMF 220 mm220 := ⟨⟨(7, 127), rfl⟩, rfl, ⟨((7, 125), (7, 126)), by decide +kernel⟩, 122, mge 122 _, mck220⟩
set_option maxRecDepth 10000 in
theorem mf221 : mMF 221 mm221 := ⟨⟨(7, 136), rfl⟩, rfl, ⟨((7, 134), (7, 135)), by decide +kernel⟩, 55, mge 55 _, mck221⟩
set_option maxRecDepth 10000 in
theorem mf222 : mMF 222 mm222 := ⟨⟨(7, 140), rfl⟩, rfl, ⟨((7, 138), (7, 139)), by decide +kernel⟩, 84, mge 84 _, mck222⟩
set_option maxRecDepth 10000 in
theorem mf223 : mMF 223 mm223 := ⟨⟨(7, 144), rfl⟩, rfl, ⟨((7, 142), (7, 143)), by decide +kernel⟩, 169, mge 169 _, mck223⟩
set_option maxRecDepth 10000 in
theorem mf224 : mMF 224 mm224 := ⟨⟨(8, 134), rfl⟩, rfl, ⟨((8, 132), (8, 133)), by decide +kernel⟩, 10, mge 10 _, mck224⟩
set_option maxRecDepth 10000 in
theorem mf225 : mMF 225 mm225 := ⟨⟨(8, 138), rfl⟩, rfl, ⟨((8, 136), (8, 137)), by decide +kernel⟩, 10, mge 10 _, mck225⟩
set_option maxRecDepth 10000 in
theorem mf226 : mMF 226 mm226 := ⟨⟨(8, 142), rfl⟩, rfl, ⟨((8, 140), (8, 141)), by decide +kernel⟩, 82, mge 82 _, mck226⟩
set_option maxRecDepth 10000 in
theorem mf227 : mMF 227 mm227 := ⟨⟨(8, 146), rfl⟩, rfl, ⟨((8, 144), (8, 145)), by decide +kernel⟩, 45, mge 45 _, mck227⟩
set_option maxRecDepth 10000 in
theorem mf228 : mMF 228 mm228 := ⟨⟨(8, 151), rfl⟩, rfl, ⟨((8, 149), (8, 150)), by decide +kernel⟩, 50, mge 50 _, mck228⟩
set_option maxRecDepth 10000 in
theorem mf229 : mMF 229 mm229 := ⟨⟨(6, 179), rfl⟩, rfl, ⟨((6, 178), (0, 0)), by decide +kernel⟩, 26, mge 26 _, mck229⟩
set_option maxRecDepth 10000 in
theorem mf230 : mMF 230 mm230 := ⟨⟨(7, 223), rfl⟩, rfl, ⟨((7, 221), (7, 222)), by decide +kernel⟩, 39, mge 39 _, mck230⟩
set_option maxRecDepth 10000 in
theorem mf231 : mMF 231 mm231 := ⟨⟨(7, 219), rfl⟩, rfl, ⟨((7, 217), (7, 218)), by decide +kernel⟩, 48, mge 48 _, mck231⟩
set_option maxRecDepth 10000 in
theorem mf232 : mMF 232 mm232 := ⟨⟨(7, 228), rfl⟩, rfl, ⟨((7, 226), (7, 227)), by decide +kernel⟩, 121, mge 121 _, mck232⟩
set_option maxRecDepth 10000 in
theorem mf233 : mMF 233 mm233 := ⟨⟨(7, 233), rfl⟩, rfl, ⟨((7, 231), (7, 232)), by decide +kernel⟩, 119, mge 119 _, mck233⟩
set_option maxRecDepth 10000 in
theorem mf234 : mMF 234 mm234 := ⟨⟨(7, 215), rfl⟩, rfl, ⟨((7, 213), (7, 214)), by decide +kernel⟩, 44, mge 44 _, mck234⟩
set_option maxRecDepth 10000 in
theorem mf235 : mMF 235 mm235 := ⟨⟨(8, 5), rfl⟩, rfl, ⟨((8, 3), (8, 4)), by decide +kernel⟩, 101, mge 101 _, mck235⟩
set_option maxRecDepth 10000 in
theorem mf236 : mMF 236 mm236 := ⟨⟨(8, 31), rfl⟩, rfl, ⟨((8, 29), (8, 30)), by decide +kernel⟩, 32, mge 32 _, mck236⟩
set_option maxRecDepth 10000 in
theorem mf237 : mMF 237 mm237 := ⟨⟨(8, 1), rfl⟩, rfl, ⟨((7, 239), (8, 0)), by decide +kernel⟩, 47, mge 47 _, mck237⟩
set_option maxRecDepth 10000 in
theorem mf238 : mMF 238 mm238 := ⟨⟨(8, 18), rfl⟩, rfl, ⟨((8, 16), (8, 17)), by decide +kernel⟩, 16, mge 16 _, mck238⟩
set_option maxRecDepth 10000 in
theorem mf239 : mMF 239 mm239 := ⟨⟨(8, 14), rfl⟩, rfl, ⟨((8, 12), (8, 13)), by decide +kernel⟩, 30, mge 30 _, mck239⟩
set_option maxRecDepth 10000 in
theorem mf240 : mMF 240 mm240 := ⟨⟨(8, 194), rfl⟩, rfl, ⟨((8, 192), (8, 193)), by decide +kernel⟩, 135, mge 135 _, mck240⟩
set_option maxRecDepth 10000 in
theorem mf241 : mMF 241 mm241 := ⟨⟨(3, 72), rfl⟩, rfl, ⟨((3, 70), (3, 71)), by decide +kernel⟩, 11, mge 11 _, mck241⟩
set_option maxRecDepth 10000 in
theorem mf242 : mMF 242 mm242 := ⟨⟨(4, 119), rfl⟩, rfl, ⟨((4, 117), (4, 118)), by decide +kernel⟩, 25, mge 25 _, mck242⟩
set_option maxRecDepth 10000 in
theorem mf243 : mMF 243 mm243 := ⟨⟨(3, 58), rfl⟩, rfl, ⟨((3, 56), (3, 57)), by decide +kernel⟩, 7, mge 7 _, mck243⟩
set_option maxRecDepth 10000 in
theorem mf244 : mMF 244 mm244 := ⟨⟨(3, 62), rfl⟩, rfl, ⟨((3, 60), (3, 61)), by decide +kernel⟩, 37, mge 37 _, mck244⟩
set_option maxRecDepth 10000 in
theorem mf245 : mMF 245 mm245 := ⟨⟨(3, 76), rfl⟩, rfl, ⟨((3, 74), (3, 75)), by decide +kernel⟩, 15, mge 15 _, mck245⟩
set_option maxRecDepth 10000 in
theorem mf246 : mMF 246 mm246 := ⟨⟨(3, 66), rfl⟩, rfl, ⟨((3, 64), (3, 65)), by decide +kernel⟩, 19, mge 19 _, mck246⟩
set_option maxRecDepth 10000 in
theorem mf247 : mMF 247 mm247 := ⟨⟨(4, 125), rfl⟩, rfl, ⟨((4, 124), (0, 0)), by decide +kernel⟩, 10, mge 10 _, mck247⟩
set_option maxRecDepth 10000 in
theorem mf248 : mMF 248 mm248 := ⟨⟨(2, 158), rfl⟩, rfl, ⟨((2, 157), (0, 0)), by decide +kernel⟩, 22, mge 22 _, mck248⟩
set_option maxRecDepth 10000 in
theorem mf249 : mMF 249 mm249 := ⟨⟨(3, 7), rfl⟩, rfl, ⟨((3, 6), (0, 0)), by decide +kernel⟩, 19, mge 19 _, mck249⟩
set_option maxRecDepth 10000 in
theorem mf250 : mMF 250 mm250 := ⟨⟨(3, 189), rfl⟩, rfl, ⟨((3, 188), (0, 0)), by decide +kernel⟩, 24, mge 24 _, mck250⟩
set_option maxRecDepth 10000 in
theorem mf251 : mMF 251 mm251 := ⟨⟨(3, 231), rfl⟩, rfl, ⟨((3, 230), (0, 0)), by decide +kernel⟩, 20, mge 20 _, mck251⟩
set_option maxRecDepth 10000 in
theorem mf252 : mMF 252 mm252 := ⟨⟨(3, 238), rfl⟩, rfl, ⟨((3, 237), (0, 0)), by decide +kernel⟩, 19, mge 19 _, mck252⟩
set_option maxRecDepth 10000 in
theorem mf253 : mMF 253 mm253 := ⟨⟨(4, 14), rfl⟩, rfl, ⟨((4, 13), (0, 0)), by decide +kernel⟩, 19, mge 19 _, mck253⟩
set_option maxRecDepth 10000 in
theorem mf254 : mMF 254 mm254 := ⟨⟨(6, 31), rfl⟩, rfl, ⟨((6, 30), (0, 0)), by decide +kernel⟩, 16, mge 16 _, mck254⟩
set_option maxRecDepth 10000 in
theorem mf255 : mMF 255 mm255 := ⟨⟨(6, 39), rfl⟩, rfl, ⟨((6, 38), (0, 0)), by decide +kernel⟩, 16, mge 16 _, mck255⟩
set_option maxRecDepth 10000 in
theorem mf257 : mMF 257 mm257 := ⟨⟨(4, 122), rfl⟩, rfl, ⟨((4, 121), (0, 0)), by decide +kernel⟩, 15, mge 15 _, mck257⟩
set_option maxRecDepth 10000 in
theorem mf258 : mMF 258 mm258 := ⟨⟨(3, 82), rfl⟩, rfl, ⟨((3, 81), (0, 0)), by decide +kernel⟩, 17, mge 17 _, mck258⟩
set_option maxRecDepth 10000 in
theorem mf259 : mMF 259 mm259 := ⟨⟨(3, 79), rfl⟩, rfl, ⟨((3, 78), (0, 0)), by decide +kernel⟩, 37, mge 37 _, mck259⟩
set_option maxRecDepth 10000 in
theorem mf260 : mMF 260 mm260 := ⟨⟨(3, 89), rfl⟩, rfl, ⟨((3, 88), (0, 0)), by decide +kernel⟩, 33, mge 33 _, mck260⟩
set_option maxRecDepth 10000 in
theorem mf261 : mMF 261 mm261 := ⟨⟨(5, 87), rfl⟩, rfl, ⟨((5, 86), (0, 0)), by decide +kernel⟩, 30, mge 30 _, mck261⟩
set_option maxRecDepth 10000 in
theorem mf262 : mMF 262 mm262 := ⟨⟨(5, 84), rfl⟩, rfl, ⟨((5, 83), (0, 0)), by decide +kernel⟩, 28, mge 28 _, mck262⟩
set_option maxRecDepth 10000 in
theorem mf263 : mMF 263 mm263 := ⟨⟨(4, 192), rfl⟩, rfl, ⟨((4, 191), (0, 0)), by decide +kernel⟩, 11, mge 11 _, mck263⟩
set_option maxRecDepth 10000 in
theorem mf264 : mMF 264 mm264 := ⟨⟨(3, 85), rfl⟩, rfl, ⟨((3, 84), (0, 0)), by decide +kernel⟩, 11, mge 11 _, mck264⟩
set_option maxRecDepth 10000 in
theorem mf265 : mMF 265 mm265 := ⟨⟨(3, 20), rfl⟩, rfl, ⟨((3, 19), (0, 0)), by decide +kernel⟩, 11, mge 11 _, mck265⟩
set_option maxRecDepth 10000 in
theorem mf266 : mMF 266 mm266 := ⟨⟨(5, 30), rfl⟩, rfl, ⟨((5, 29), (0, 0)), by decide +kernel⟩, 12, mge 12 _, mck266⟩
set_option maxRecDepth 10000 in
theorem mf267 : mMF 267 mm267 := ⟨⟨(8, 211), rfl⟩, rfl, ⟨((8, 210), (0, 0)), by decide +kernel⟩, 26, mge 26 _, mck267⟩
set_option maxRecDepth 10000 in
theorem mf268 : mMF 268 mm268 := ⟨⟨(8, 214), rfl⟩, rfl, ⟨((8, 213), (0, 0)), by decide +kernel⟩, 79, mge 79 _, mck268⟩
set_option maxRecDepth 10000 in
theorem mf269 : mMF 269 mm269 := ⟨⟨(4, 128), rfl⟩, rfl, ⟨((4, 127), (0, 0)), by decide +kernel⟩, 18, mge 18 _, mck269⟩
/-- every class's words -/
def mck (o : Nat) (q : Nat × Nat) : Bool := mem q (.initialized (mCN o)) && decide (mCN o ≠ "java/lang/invoke/MethodHandle" ∧ mCN o ≠ "java/lang/invoke/VarHandle")
theorem mckc0 : mck 0 (1, 1) = true := by decide +kernel
theorem mckc1 : mck 1 (1, 2) = true := by decide +kernel
theorem mckc2 : mck 2 (1, 4) = true := by decide +kernel
theorem mckc3 : mck 3 (1, 3) = true := by decide +kernel
theorem mckc4 : mck 4 (1, 5) = true := by decide +kernel
theorem mckc5 : mck 5 (1, 6) = true := by decide +kernel
theorem mckc6 : mck 6 (1, 10) = true := by decide +kernel
theorem mckc7 : mck 7 (1, 7) = true := by decide +kernel
theorem mckc8 : mck 8 (1, 8) = true := by decide +kernel
theorem mckc9 : mck 9 (1, 9) = true := by decide +kernel
theorem mckc10 : mck 10 (1, 11) = true := by decide +kernel
theorem mckc11 : mck 11 (1, 12) = true := by decide +kernel
theorem mckc12 : mck 12 (1, 13) = true := by decide +kernel
theorem mckc13 : mck 13 (1, 14) = true := by decide +kernel
theorem mckc14 : mck 14 (1, 21) = true := by decide +kernel
theorem mckc15 : mck 15 (1, 0) = true := by decide +kernel
theorem mckc16 : mck 16 (1, 22) = true := by decide +kernel
theorem mckc17 : mck 17 (1, 19) = true := by decide +kernel
theorem mckc18 : mck 18 (1, 29) = true := by decide +kernel
theorem mckc19 : mck 19 (1, 30) = true := by decide +kernel
theorem mckc20 : mck 20 (1, 24) = true := by decide +kernel
theorem mck_all (o : Nat) (h : o < 21) : ∃ q, mck o q = true := by
  match o, h with
  | 0, _ => exact ⟨_, mckc0⟩
  | 1, _ => exact ⟨_, mckc1⟩
  | 2, _ => exact ⟨_, mckc2⟩
  | 3, _ => exact ⟨_, mckc3⟩
  | 4, _ => exact ⟨_, mckc4⟩
  | 5, _ => exact ⟨_, mckc5⟩
  | 6, _ => exact ⟨_, mckc6⟩
  | 7, _ => exact ⟨_, mckc7⟩
  | 8, _ => exact ⟨_, mckc8⟩
  | 9, _ => exact ⟨_, mckc9⟩
  | 10, _ => exact ⟨_, mckc10⟩
  | 11, _ => exact ⟨_, mckc11⟩
  | 12, _ => exact ⟨_, mckc12⟩
  | 13, _ => exact ⟨_, mckc13⟩
  | 14, _ => exact ⟨_, mckc14⟩
  | 15, _ => exact ⟨_, mckc15⟩
  | 16, _ => exact ⟨_, mckc16⟩
  | 17, _ => exact ⟨_, mckc17⟩
  | 18, _ => exact ⟨_, mckc18⟩
  | 19, _ => exact ⟨_, mckc19⟩
  | 20, _ => exact ⟨_, mckc20⟩
  | o + 21, h => exact absurd h (by omega)
set_option maxRecDepth 100000 in
theorem mall : mAll 0 mtl := ⟨Or.inr mf0, Or.inr mf1, Or.inr mf2, Or.inr mf3, Or.inr mf4, Or.inr mf5, Or.inr mf6, Or.inr mf7, Or.inr mf8, Or.inr mf9, Or.inr mf10, Or.inr mf11, Or.inr mf12, Or.inr mf13, Or.inr mf14, Or.inr mf15, Or.inr mf16, Or.inr mf17, Or.inr mf18, Or.inr mf19, Or.inr mf20, Or.inr mf21, Or.inr mf22, Or.inr mf23, Or.inr mf24, Or.inr mf25, Or.inr mf26, Or.inr mf27, Or.inr mf28, Or.inr mf29, Or.inr mf30, Or.inr mf31, Or.inr mf32, Or.inr mf33, Or.inr mf34, Or.inr mf35, Or.inr mf36, Or.inr mf37, Or.inr mf38, Or.inr mf39, Or.inr mf40, Or.inr mf41, Or.inr mf42, Or.inr mf43, Or.inr mf44, Or.inr mf45, Or.inr mf46, Or.inr mf47, Or.inr mf48, Or.inr mf49, Or.inr mf50, Or.inr mf51, Or.inr mf52, Or.inr mf53, Or.inr mf54, Or.inr mf55, Or.inr mf56, Or.inr mf57, Or.inr mf58, Or.inr mf59, Or.inr mf60, Or.inr mf61, Or.inr mf62, Or.inr mf63, Or.inr mf64, Or.inr mf65, Or.inr mf66, Or.inr mf67, Or.inr mf68, Or.inr mf69, Or.inr mf70, Or.inr mf71, Or.inr mf72, Or.inr mf73, Or.inr mf74, Or.inr mf75, Or.inr mf76, Or.inr mf77, Or.inr mf78, Or.inr mf79, Or.inr mf80, Or.inr mf81, Or.inr mf82, Or.inr mf83, Or.inr mf84, Or.inr mf85, Or.inr mf86, Or.inr mf87, Or.inr mf88, Or.inr mf89, Or.inr mf90, Or.inr mf91, Or.inr mf92, Or.inr mf93, Or.inr mf94, Or.inr mf95, Or.inr mf96, Or.inr mf97, Or.inr mf98, Or.inr mf99, Or.inr mf100, Or.inr mf101, Or.inr mf102, Or.inr mf103, Or.inr mf104, Or.inr mf105, Or.inr mf106, Or.inr mf107, Or.inr mf108, Or.inr mf109, Or.inr mf110, Or.inr mf111, Or.inr mf112, Or.inr mf113, Or.inr mf114, Or.inr mf115, Or.inr mf116, Or.inr mf117, Or.inr mf118, Or.inr mf119, Or.inr mf120, Or.inr mf121, Or.inr mf122, Or.inr mf123, Or.inr mf124, Or.inr mf125, Or.inr mf126, Or.inr mf127, Or.inr mf128, Or.inr mf129, Or.inr mf130, Or.inr mf131, Or.inr mf132, Or.inr mf133, Or.inr mf134, Or.inr mf135, Or.inr mf136, Or.inr mf137, Or.inr mf138, Or.inr mf139, Or.inr mf140, Or.inr mf141, Or.inr mf142, Or.inr mf143, Or.inr mf144, Or.inr mf145, Or.inr mf146, Or.inr mf147, Or.inr mf148, Or.inr mf149, Or.inr mf150, Or.inr mf151, Or.inr mf152, Or.inr mf153, Or.inr mf154, Or.inr mf155, Or.inr mf156, Or.inr mf157, Or.inr mf158, Or.inr mf159, Or.inr mf160, Or.inr mf161, Or.inr mf162, Or.inr mf163, Or.inr mf164, Or.inr mf165, Or.inr mf166, Or.inr mf167, Or.inr mf168, Or.inr mf169, Or.inr mf170, Or.inr mf171, Or.inr mf172, Or.inr mf173, Or.inr mf174, Or.inr mf175, Or.inr mf176, Or.inr mf177, Or.inr mf178, Or.inr mf179, Or.inr mf180, Or.inr mf181, Or.inr mf182, Or.inr mf183, Or.inr mf184, Or.inr mf185, Or.inr mf186, Or.inr mf187, Or.inr mf188, Or.inr mf189, Or.inr mf190, Or.inr mf191, Or.inr mf192, Or.inr mf193, Or.inr mf194, Or.inr mf195, Or.inr mf196, Or.inr mf197, Or.inr mf198, Or.inr mf199, Or.inr mf200, Or.inr mf201, Or.inr mf202, Or.inr mf203, Or.inr mf204, Or.inr mf205, Or.inr mf206, Or.inr mf207, Or.inr mf208, Or.inr mf209, Or.inr mf210, Or.inr mf211, Or.inr mf212, Or.inr mf213, Or.inr mf214, Or.inr mf215, Or.inr mf216, Or.inr mf217, Or.inr mf218, Or.inr mf219, Or.inr mf220, Or.inr mf221, Or.inr mf222, Or.inr mf223, Or.inr mf224, Or.inr mf225, Or.inr mf226, Or.inr mf227, Or.inr mf228, Or.inr mf229, Or.inr mf230, Or.inr mf231, Or.inr mf232, Or.inr mf233, Or.inr mf234, Or.inr mf235, Or.inr mf236, Or.inr mf237, Or.inr mf238, Or.inr mf239, Or.inr mf240, Or.inr mf241, Or.inr mf242, Or.inr mf243, Or.inr mf244, Or.inr mf245, Or.inr mf246, Or.inr mf247, Or.inr mf248, Or.inr mf249, Or.inr mf250, Or.inr mf251, Or.inr mf252, Or.inr mf253, Or.inr mf254, Or.inr mf255, Or.inl rfl, Or.inr mf257, Or.inr mf258, Or.inr mf259, Or.inr mf260, Or.inr mf261, Or.inr mf262, Or.inr mf263, Or.inr mf264, Or.inr mf265, Or.inr mf266, Or.inr mf267, Or.inr mf268, Or.inr mf269, trivial⟩
theorem mMF_of {k : Nat} {M : mM} (h : mtab k = some M) (hk : ¬ k = 256) : mMF k M := by
  have := mAll_get mall h
  rw [Nat.zero_add] at this
  exact this.resolve_left hk
