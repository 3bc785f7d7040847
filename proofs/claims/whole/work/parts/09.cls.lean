/-! the classes: their words; printed by wip/gen/gen2.py -/
def mlp0 : List (Nat × Nat) := [(2, 105), (2, 107), (2, 109), (2, 111), (2, 113), (2, 115), (2, 117), (2, 119), (2, 121), (2, 123)]
def mlp1 : List (Nat × Nat) := [(1, 47), (1, 49)]
def mlp2 : List (Nat × Nat) := [(1, 97), (1, 99), (1, 101), (1, 103)]
def mlp3 : List (Nat × Nat) := [(1, 68), (1, 70), (1, 72), (1, 74), (1, 76), (1, 78), (1, 80), (1, 82), (1, 84)]
def mlp4 : List (Nat × Nat) := [(2, 15), (2, 17), (2, 19), (2, 21), (2, 23), (2, 25), (2, 27), (2, 29), (2, 31), (2, 33)]
def mlp5 : List (Nat × Nat) := [(1, 124), (1, 126), (1, 128), (1, 130)]
def mlp6 : List (Nat × Nat) := [(1, 230), (1, 232), (1, 234), (1, 236), (1, 238), (2, 0), (2, 2)]
def mlp7 : List (Nat × Nat) := [(1, 200), (1, 202), (1, 204), (1, 206), (1, 208), (1, 210), (1, 212), (1, 214)]
def mlp8 : List (Nat × Nat) := [(1, 150), (1, 152), (1, 154), (1, 156), (1, 158)]
def mlp9 : List (Nat × Nat) := [(1, 175), (1, 177), (1, 179), (1, 181), (1, 183), (1, 185), (1, 187), (1, 189)]
def mlp10 : List (Nat × Nat) := [(2, 72), (2, 74), (2, 76), (2, 78), (2, 80), (2, 82), (2, 84), (2, 86), (2, 88), (2, 90), (2, 92)]
def mlp11 : List (Nat × Nat) := [(2, 52), (2, 54), (2, 56), (2, 58)]
def mlp12 : List (Nat × Nat) := [(6, 233), (6, 235), (6, 237), (6, 239), (7, 1), (7, 3), (7, 5), (7, 7), (7, 9), (7, 11), (7, 13), (7, 15), (7, 17), (7, 19), (7, 21), (7, 23), (7, 25), (7, 27), (7, 29), (7, 31), (7, 33), (7, 35), (7, 37), (7, 39), (7, 41), (7, 43), (7, 45), (7, 47), (7, 49), (7, 51), (7, 53), (7, 55), (7, 57), (7, 59), (7, 61), (7, 63), (7, 65), (7, 67), (7, 69), (7, 71), (7, 73)]
def mlp13 : List (Nat × Nat) := [(6, 186), (6, 188), (6, 190)]
def mcz (ci : Nat) (lp : List (Nat × Nat)) (q : Nat × Nat) : Bool :=
  (List.range (mNF ci)).all (fun k => mem (lp.getD k (0, 0)) (u_lay (mCN ci) (mTT ci) k) && decide (parseFieldDescriptor (mTT ci k).2.2.1 = some (mTyT ci k)) && decide ((mTT ci k).1 = mCN ci) && decide (defaultValue (mTyT ci k) = mdef (mTyT ci k)) && (List.range k).all (fun j => decide ((mTT ci k).2.1 ≠ (mTT ci j).2.1))) && mem q (.instantiable (mCN ci) (mNF ci))
set_option maxRecDepth 100000 in
theorem mcz0 : mcz 0 mlp0 (1, 32) = true := by decide +kernel
set_option maxRecDepth 100000 in
theorem mcz1 : mcz 1 mlp1 (1, 40) = true := by decide +kernel
set_option maxRecDepth 100000 in
theorem mcz2 : mcz 2 mlp2 (1, 88) = true := by decide +kernel
set_option maxRecDepth 100000 in
theorem mcz3 : mcz 3 mlp3 (1, 54) = true := by decide +kernel
set_option maxRecDepth 100000 in
theorem mcz4 : mcz 4 mlp4 (1, 109) = true := by decide +kernel
set_option maxRecDepth 100000 in
theorem mcz5 : mcz 5 mlp5 (1, 115) = true := by decide +kernel
set_option maxRecDepth 100000 in
theorem mcz6 : mcz 6 mlp6 (1, 218) = true := by decide +kernel
set_option maxRecDepth 100000 in
theorem mcz7 : mcz 7 mlp7 (1, 134) = true := by decide +kernel
set_option maxRecDepth 100000 in
theorem mcz8 : mcz 8 mlp8 (1, 140) = true := by decide +kernel
set_option maxRecDepth 100000 in
theorem mcz9 : mcz 9 mlp9 (1, 162) = true := by decide +kernel
set_option maxRecDepth 100000 in
theorem mcz10 : mcz 10 mlp10 (2, 37) = true := by decide +kernel
set_option maxRecDepth 100000 in
theorem mcz11 : mcz 11 mlp11 (2, 43) = true := by decide +kernel
set_option maxRecDepth 100000 in
theorem mcz12 : mcz 12 mlp12 (6, 170) = true := by decide +kernel
set_option maxRecDepth 100000 in
theorem mcz13 : mcz 13 mlp13 (6, 176) = true := by decide +kernel
theorem mcz_all (ci : Nat) (h : ci < 14) : mcl[ci]? = some (mCN ci, mTT ci, mNF ci) ∧ ∃ lp q, mcz ci lp q = true := by
  match ci, h with
  | 0, _ => exact ⟨rfl, _, _, mcz0⟩
  | 1, _ => exact ⟨rfl, _, _, mcz1⟩
  | 2, _ => exact ⟨rfl, _, _, mcz2⟩
  | 3, _ => exact ⟨rfl, _, _, mcz3⟩
  | 4, _ => exact ⟨rfl, _, _, mcz4⟩
  | 5, _ => exact ⟨rfl, _, _, mcz5⟩
  | 6, _ => exact ⟨rfl, _, _, mcz6⟩
  | 7, _ => exact ⟨rfl, _, _, mcz7⟩
  | 8, _ => exact ⟨rfl, _, _, mcz8⟩
  | 9, _ => exact ⟨rfl, _, _, mcz9⟩
  | 10, _ => exact ⟨rfl, _, _, mcz10⟩
  | 11, _ => exact ⟨rfl, _, _, mcz11⟩
  | 12, _ => exact ⟨rfl, _, _, mcz12⟩
  | 13, _ => exact ⟨rfl, _, _, mcz13⟩
  | ci + 14, h => exact absurd h (by omega)
theorem mcz_in {ci : Nat} (h : ci < 14) : ∀ w ∈ u_ws (mCN ci) (mTT ci) (mNF ci), w ∈ lw_tbl ∧ goodWord w = true := by
  obtain ⟨-, lp, q, hz⟩ := mcz_all ci h
  simp only [mcz, Bool.and_eq_true] at hz
  intro w hw
  obtain ⟨k, hk, rfl⟩ := List.mem_map.mp hw
  have h1 := List.all_eq_true.mp hz.1 k hk
  simp only [Bool.and_eq_true] at h1
  exact mem_spec h1.1.1.1.1
theorem mcz_ty {ci : Nat} (h : ci < 14) : ∀ k, k < mNF ci → parseFieldDescriptor (mTT ci k).2.2.1 = some (mTyT ci k) ∧ (mTT ci k).1 = mCN ci ∧ defaultValue (mTyT ci k) = mdef (mTyT ci k) := by
  obtain ⟨-, lp, q, hz⟩ := mcz_all ci h
  simp only [mcz, Bool.and_eq_true] at hz
  intro k hk
  have h1 := List.all_eq_true.mp hz.1 k (List.mem_range.mpr hk)
  simp only [Bool.and_eq_true, decide_eq_true_eq] at h1
  exact ⟨h1.1.1.1.2, h1.1.1.2, h1.1.2⟩
theorem mcz_nm {ci : Nat} (h : ci < 14) : ∀ a, a < mNF ci → ∀ b, b < mNF ci → a ≠ b → (mTT ci a).2.1 ≠ (mTT ci b).2.1 := by
  obtain ⟨-, lp, q, hz⟩ := mcz_all ci h
  simp only [mcz, Bool.and_eq_true] at hz
  have key : ∀ a, a < mNF ci → ∀ b, b < a → (mTT ci a).2.1 ≠ (mTT ci b).2.1 := by
    intro a ha b hb
    have h1 := List.all_eq_true.mp hz.1 a (List.mem_range.mpr ha)
    simp only [Bool.and_eq_true] at h1
    have h2 := List.all_eq_true.mp h1.2 b (List.mem_range.mpr hb)
    exact of_decide_eq_true h2
  intro a ha b hb hab
  rcases Nat.lt_or_gt_of_ne hab with q | q
  · exact fun e => key b hb a q e.symm
  · exact key a ha b q
theorem mcz_inst {ci : Nat} (h : ci < 14) : Cond.instantiable (mCN ci) (mNF ci) ∈ lw_tbl ∧ goodWord (.instantiable (mCN ci) (mNF ci)) = true := by
  obtain ⟨-, lp, q, hz⟩ := mcz_all ci h
  simp only [mcz, Bool.and_eq_true] at hz
  exact mem_spec hz.2
