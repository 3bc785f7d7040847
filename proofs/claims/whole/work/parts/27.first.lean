def mexB (X : mX) (n : Nat) (pc : Nat) : Bool := match mex X n 1000 mm256 pc [some (.ref mRO), some (.ref 0), some (.ref 24), some (.ref 41), some (.int 0), none, none, none] [] mhS with
  | some (.inl (some (.int v)), _) => decide (v = 1)
  | _ => false
theorem q1 : decide ((0 : Int32) = 0) = true := by rfl
theorem q2 : decide ((0 : Int32) < 5) = true := by rfl
theorem q3 : decide ((5 : Int32) > 0 - 5) = true := by rfl
theorem q4 : (0 : Int32).toNatClampNeg = 0 := by rfl
theorem q5 : decide ((5 : Int32) > Int32.ofNat 5 - 5) = true := by rfl
set_option maxRecDepth 100000 in
theorem firstB0 : mexB (5, fun _ => 0) 3000 100 = true := by decide +kernel
set_option maxRecDepth 100000 in
theorem firstB1 : mexB (5, fun _ => 0) 3000 228 = true := by decide +kernel
set_option maxRecDepth 100000 in
theorem firstB2 : mexB (5, fun _ => 0) 3000 272 = true := by decide +kernel
set_option maxRecDepth 100000 in
theorem firstB3 : mexB (5, fun _ => 0) 3000 285 = true := by decide +kernel
set_option maxRecDepth 100000 in
theorem firstB4 : mexB (5, fun _ => 0) 3000 385 = true := by decide +kernel
set_option maxRecDepth 100000 in
theorem firstB5 : mexB (5, fun _ => 0) 3000 501 = true := by decide +kernel
set_option maxRecDepth 100000 in
theorem firstB6 : mexB (5, fun _ => 0) 3000 545 = true := by decide +kernel
set_option maxRecDepth 100000 in
theorem firstB7 : mexB (5, fun _ => 0) 3000 589 = true := by decide +kernel
set_option maxRecDepth 100000 in
theorem firstB8 : mexB (5, fun _ => 0) 3000 602 = true := by decide +kernel
set_option maxRecDepth 100000 in
theorem firstB9 : mexB (5, fun _ => 0) 3000 615 = true := by decide +kernel
set_option maxRecDepth 100000 in
theorem firstB10 : mexB (5, fun _ => 0) 3000 670 = true := by decide +kernel
set_option maxRecDepth 100000 in
theorem firstB11 : mexB (5, fun _ => 0) 3000 684 = true := by decide +kernel
