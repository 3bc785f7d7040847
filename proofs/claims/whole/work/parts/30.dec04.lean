/-! decompiled methods, 4; printed by wip/gen/gen8.py -/
/-! 110 F$RealWriter.roundSixteens(I)V -/
def f110_79  (x2 : Int32) (y1 : Int64) (s : zS) : Option (zS) := if (zushrL (zshlL y1 x2) (zi 52)) ≤ (zl 1) then some (setJ s 15 5 (zshlL y1 x2)) else some (setI (setJ (setJ s 15 5 (zshlL y1 x2)) 15 5 (zushrL (zshlL y1 x2) (zi 1))) 15 6 ((s.1 15 6) + (zi 1)))
set_option maxRecDepth 100000 in
theorem k110_79 {X : mX} {D : Nat}   (x2 : Int32) (y1 : Int64) (s : zS) (r : zS) (o1 : Option Value) (o3 : Option Value) (o4 : Option Value) (o5 : Option Value) (o6 : Option Value) (o7 : Option Value) (o8 : Option Value) (o9 : Option Value)  (h : f110_79  x2 y1 s = some r) : Ev X D mm110 79 [some (.ref 15), o1, some (.int x2), o3, o4, o5, o6, o7, o8, o9] [.long y1, .ref 15] (mk s) (encV r) := by
  unfold f110_79 at h
  refine Ev.run (pc' := 81) (ls' := [some (.ref 15), o1, some (.int x2), o3, o4, o5, o6, o7, o8, o9]) (st' := [.long (zshlL y1 x2), .ref 15]) (h' := mk s) 2 rfl ?_
  refine Ev.step (pc' := 84) rfl (put_7_5 rfl) ?_
  refine Ev.run (pc' := 93) (ls' := [some (.ref 15), o1, some (.int x2), o3, o4, o5, o6, o7, o8, o9]) (st' := [.int (lg_cmp (zushrL (zshlL y1 x2) (zi 52)) (zl 1))]) (h' := mk (setJ s 15 5 (zshlL y1 x2))) 6 rfl ?_
  refine Ev.ifl_le (t := 116) rfl rfl (fun hb => ?_) (fun hb => ?_)
  · have h := (if_pos hb).symm.trans h
    cases h
    exact Ev.fin rfl rfl
  · have h := (if_neg hb).symm.trans h
    refine Ev.run (pc' := 103) (ls' := [some (.ref 15), o1, some (.int x2), o3, o4, o5, o6, o7, o8, o9]) (st' := [.long (zushrL (zshlL y1 x2) (zi 1)), .ref 15]) (h' := mk (setJ s 15 5 (zshlL y1 x2))) 5 rfl ?_
    refine Ev.step (pc' := 106) rfl (put_7_5 rfl) ?_
    refine Ev.run (pc' := 113) (ls' := [some (.ref 15), o1, some (.int x2), o3, o4, o5, o6, o7, o8, o9]) (st' := [.int ((s.1 15 6) + (zi 1)), .ref 15]) (h' := mk (setJ (setJ s 15 5 (zshlL y1 x2)) 15 5 (zushrL (zshlL y1 x2) (zi 1)))) 5 rfl ?_
    refine Ev.step (pc' := 116) rfl (put_7_6 rfl) ?_
    cases h
    exact Ev.fin rfl rfl
def f110_62  (x2 : Int32) (x5 : Int64) (y0 : Int32) (s : zS) : Option (zS) := if y0 = zi 0 then f110_79 x2 x5 s else f110_79 x2 (x5 + (zl 1)) s
set_option maxRecDepth 100000 in
theorem k110_62 {X : mX} {D : Nat}   (x2 : Int32) (x5 : Int64) (y0 : Int32) (s : zS) (r : zS) (o1 : Option Value) (o3 : Option Value) (o4 : Option Value) (o7 : Option Value) (o9 : Option Value)  (h : f110_62  x2 x5 y0 s = some r) : Ev X D mm110 62 [some (.ref 15), o1, some (.int x2), o3, o4, some (.long x5), none, o7, none, o9] [.int y0] (mk s) (encV r) := by
  unfold f110_62 at h
  refine Ev.run (pc' := 67) (ls' := [some (.ref 15), o1, some (.int x2), o3, o4, some (.long x5), none, o7, none, some (.int y0)]) (st' := [.int y0, .ref 15]) (h' := mk s) 3 rfl ?_
  refine Ev.if_eq (t := 77) rfl rfl (fun hb => ?_) (fun hb => ?_)
  · have h := (if_pos hb).symm.trans h
    refine Ev.run (pc' := 79) (ls' := [some (.ref 15), o1, some (.int x2), o3, o4, some (.long x5), none, o7, none, some (.int y0)]) (st' := [.long x5, .ref 15]) (h' := mk s) 1 rfl ?_
    exact k110_79 x2 x5 s _ _ _ _ _ _ _ _ _ h
  · have h := (if_neg hb).symm.trans h
    refine Ev.run (pc' := 79) (ls' := [some (.ref 15), o1, some (.int x2), o3, o4, some (.long x5), none, o7, none, some (.int y0)]) (st' := [.long (x5 + (zl 1)), .ref 15]) (h' := mk s) 4 rfl ?_
    exact k110_79 x2 (x5 + (zl 1)) s _ _ _ _ _ _ _ _ _ h
def f110  (x1 : Int32) (s : zS) : Option (zS) := if ((s.2.1 15 5) - (zshlL (zushrL (s.2.1 15 5) ((zi 4) * ((zi 13) - x1))) ((zi 4) * ((zi 13) - x1)))) > (zshlL (zl 1) (((zi 4) * ((zi 13) - x1)) - (zi 1))) then f110_62 ((zi 4) * ((zi 13) - x1)) (zushrL (s.2.1 15 5) ((zi 4) * ((zi 13) - x1))) (zi 1) s else if ¬ ((s.2.1 15 5) - (zshlL (zushrL (s.2.1 15 5) ((zi 4) * ((zi 13) - x1))) ((zi 4) * ((zi 13) - x1)))) = (zshlL (zl 1) (((zi 4) * ((zi 13) - x1)) - (zi 1))) then f110_62 ((zi 4) * ((zi 13) - x1)) (zushrL (s.2.1 15 5) ((zi 4) * ((zi 13) - x1))) (zi 0) s else if (zremL (zushrL (s.2.1 15 5) ((zi 4) * ((zi 13) - x1))) (zl 2)) = (zl 0) then f110_62 ((zi 4) * ((zi 13) - x1)) (zushrL (s.2.1 15 5) ((zi 4) * ((zi 13) - x1))) (zi 0) s else f110_62 ((zi 4) * ((zi 13) - x1)) (zushrL (s.2.1 15 5) ((zi 4) * ((zi 13) - x1))) (zi 1) s
set_option maxRecDepth 100000 in
theorem k110 {X : mX} {D : Nat} {x1 : Int32} {s : zS} {r : zS}  (h : f110 x1 s = some r) : Ev X D mm110 0 [some (.ref 15), some (.int x1), none, none, none, none, none, none, none, none] [] (mk s) (encV r) := by
  unfold f110 at h
  refine Ev.run (pc' := 36) (ls' := [some (.ref 15), some (.int x1), some (.int ((zi 4) * ((zi 13) - x1))), some (.long (zshlL (zl 1) (((zi 4) * ((zi 13) - x1)) - (zi 1)))), none, some (.long (zushrL (s.2.1 15 5) ((zi 4) * ((zi 13) - x1)))), none, some (.long ((s.2.1 15 5) - (zshlL (zushrL (s.2.1 15 5) ((zi 4) * ((zi 13) - x1))) ((zi 4) * ((zi 13) - x1))))), none, none]) (st' := [.int (lg_cmp ((s.2.1 15 5) - (zshlL (zushrL (s.2.1 15 5) ((zi 4) * ((zi 13) - x1))) ((zi 4) * ((zi 13) - x1)))) (zshlL (zl 1) (((zi 4) * ((zi 13) - x1)) - (zi 1))))]) (h' := mk s) 27 rfl ?_
  refine Ev.ifl_gt (t := 57) rfl rfl (fun hb => ?_) (fun hb => ?_)
  · have h := (if_pos hb).symm.trans h
    refine Ev.run (pc' := 62) (ls' := [some (.ref 15), some (.int x1), some (.int ((zi 4) * ((zi 13) - x1))), some (.long (zshlL (zl 1) (((zi 4) * ((zi 13) - x1)) - (zi 1)))), none, some (.long (zushrL (s.2.1 15 5) ((zi 4) * ((zi 13) - x1)))), none, some (.long ((s.2.1 15 5) - (zshlL (zushrL (s.2.1 15 5) ((zi 4) * ((zi 13) - x1))) ((zi 4) * ((zi 13) - x1))))), none, none]) (st' := [.int (zi 1)]) (h' := mk s) 2 rfl ?_
    exact k110_62 ((zi 4) * ((zi 13) - x1)) (zushrL (s.2.1 15 5) ((zi 4) * ((zi 13) - x1))) (zi 1) s _ _ _ _ _ _ h
  · have h := (if_neg hb).symm.trans h
    refine Ev.run (pc' := 43) (ls' := [some (.ref 15), some (.int x1), some (.int ((zi 4) * ((zi 13) - x1))), some (.long (zshlL (zl 1) (((zi 4) * ((zi 13) - x1)) - (zi 1)))), none, some (.long (zushrL (s.2.1 15 5) ((zi 4) * ((zi 13) - x1)))), none, some (.long ((s.2.1 15 5) - (zshlL (zushrL (s.2.1 15 5) ((zi 4) * ((zi 13) - x1))) ((zi 4) * ((zi 13) - x1))))), none, none]) (st' := [.int (lg_cmp ((s.2.1 15 5) - (zshlL (zushrL (s.2.1 15 5) ((zi 4) * ((zi 13) - x1))) ((zi 4) * ((zi 13) - x1)))) (zshlL (zl 1) (((zi 4) * ((zi 13) - x1)) - (zi 1))))]) (h' := mk s) 3 rfl ?_
    refine Ev.ifl_ne (t := 61) rfl rfl (fun hb => ?_) (fun hb => ?_)
    · have h := (if_pos hb).symm.trans h
      refine Ev.run (pc' := 62) (ls' := [some (.ref 15), some (.int x1), some (.int ((zi 4) * ((zi 13) - x1))), some (.long (zshlL (zl 1) (((zi 4) * ((zi 13) - x1)) - (zi 1)))), none, some (.long (zushrL (s.2.1 15 5) ((zi 4) * ((zi 13) - x1)))), none, some (.long ((s.2.1 15 5) - (zshlL (zushrL (s.2.1 15 5) ((zi 4) * ((zi 13) - x1))) ((zi 4) * ((zi 13) - x1))))), none, none]) (st' := [.int (zi 0)]) (h' := mk s) 1 rfl ?_
      exact k110_62 ((zi 4) * ((zi 13) - x1)) (zushrL (s.2.1 15 5) ((zi 4) * ((zi 13) - x1))) (zi 0) s _ _ _ _ _ _ h
    · have h := (if_neg hb).symm.trans h
      refine Ev.run (pc' := 54) (ls' := [some (.ref 15), some (.int x1), some (.int ((zi 4) * ((zi 13) - x1))), some (.long (zshlL (zl 1) (((zi 4) * ((zi 13) - x1)) - (zi 1)))), none, some (.long (zushrL (s.2.1 15 5) ((zi 4) * ((zi 13) - x1)))), none, some (.long ((s.2.1 15 5) - (zshlL (zushrL (s.2.1 15 5) ((zi 4) * ((zi 13) - x1))) ((zi 4) * ((zi 13) - x1))))), none, none]) (st' := [.int (lg_cmp (zremL (zushrL (s.2.1 15 5) ((zi 4) * ((zi 13) - x1))) (zl 2)) (zl 0))]) (h' := mk s) 5 rfl ?_
      refine Ev.ifl_eq (t := 61) rfl rfl (fun hb => ?_) (fun hb => ?_)
      · have h := (if_pos hb).symm.trans h
        refine Ev.run (pc' := 62) (ls' := [some (.ref 15), some (.int x1), some (.int ((zi 4) * ((zi 13) - x1))), some (.long (zshlL (zl 1) (((zi 4) * ((zi 13) - x1)) - (zi 1)))), none, some (.long (zushrL (s.2.1 15 5) ((zi 4) * ((zi 13) - x1)))), none, some (.long ((s.2.1 15 5) - (zshlL (zushrL (s.2.1 15 5) ((zi 4) * ((zi 13) - x1))) ((zi 4) * ((zi 13) - x1))))), none, none]) (st' := [.int (zi 0)]) (h' := mk s) 1 rfl ?_
        exact k110_62 ((zi 4) * ((zi 13) - x1)) (zushrL (s.2.1 15 5) ((zi 4) * ((zi 13) - x1))) (zi 0) s _ _ _ _ _ _ h
      · have h := (if_neg hb).symm.trans h
        refine Ev.run (pc' := 62) (ls' := [some (.ref 15), some (.int x1), some (.int ((zi 4) * ((zi 13) - x1))), some (.long (zshlL (zl 1) (((zi 4) * ((zi 13) - x1)) - (zi 1)))), none, some (.long (zushrL (s.2.1 15 5) ((zi 4) * ((zi 13) - x1)))), none, some (.long ((s.2.1 15 5) - (zshlL (zushrL (s.2.1 15 5) ((zi 4) * ((zi 13) - x1))) ((zi 4) * ((zi 13) - x1))))), none, none]) (st' := [.int (zi 1)]) (h' := mk s) 2 rfl ?_
        exact k110_62 ((zi 4) * ((zi 13) - x1)) (zushrL (s.2.1 15 5) ((zi 4) * ((zi 13) - x1))) (zi 1) s _ _ _ _ _ _ h
/-! 111 F$RealWriter.sixteensNeeded()I -/
def b111_3 (rec3 : Int32 → zS → Option (Int32 × zS)) (x1 : Int32) (s : zS) : Option (Int32 × zS) := if x1 ≤ (zi 1) then some (x1, s) else if ¬ ((zushrL (s.2.1 15 5) ((zi 52) - ((zi 4) * x1))) &&& (zl 15)) = (zl 0) then some (x1, s) else rec3 (x1 + zi (-1)) s
set_option maxRecDepth 100000 in
theorem kb111_3 {X : mX} {D : Nat} {rec3 : Int32 → zS → Option (Int32 × zS)} (hrec3 : ∀ (x1 : Int32) (s : zS) (r : Int32 × zS) , rec3 x1 s = some r → Ev X D mm111 3 [some (.ref 15), some (.int x1)] [] (mk s) (encI r)) (x1 : Int32) (s : zS) (r : Int32 × zS)   (h : b111_3 rec3 x1 s = some r) : Ev X D mm111 3 [some (.ref 15), some (.int x1)] [] (mk s) (encI r) := by
  unfold b111_3 at h
  refine Ev.run (pc' := 5) (ls' := [some (.ref 15), some (.int x1)]) (st' := [.int (zi 1), .int x1]) (h' := mk s) 2 rfl ?_
  refine Ev.icmp_le (t := 34) rfl rfl (fun hb => ?_) (fun hb => ?_)
  · have h := (if_pos hb).symm.trans h
    refine Ev.run (pc' := 35) (ls' := [some (.ref 15), some (.int x1)]) (st' := [.int x1]) (h' := mk s) 1 rfl ?_
    cases h
    exact Ev.fin rfl rfl
  · have h := (if_neg hb).symm.trans h
    refine Ev.run (pc' := 25) (ls' := [some (.ref 15), some (.int x1)]) (st' := [.int (lg_cmp ((zushrL (s.2.1 15 5) ((zi 52) - ((zi 4) * x1))) &&& (zl 15)) (zl 0))]) (h' := mk s) 12 rfl ?_
    refine Ev.ifl_ne (t := 34) rfl rfl (fun hb => ?_) (fun hb => ?_)
    · have h := (if_pos hb).symm.trans h
      refine Ev.run (pc' := 35) (ls' := [some (.ref 15), some (.int x1)]) (st' := [.int x1]) (h' := mk s) 1 rfl ?_
      cases h
      exact Ev.fin rfl rfl
    · have h := (if_neg hb).symm.trans h
      refine Ev.run (pc' := 3) (ls' := [some (.ref 15), some (.int (x1 + zi (-1)))]) (st' := []) (h' := mk s) 2 rfl ?_
      exact hrec3 (x1 + zi (-1)) s _ h
def f111_3  : Nat → Int32 → zS → Option (Int32 × zS)
  | 0, _, _ => none
  | n + 1, x1, s => b111_3 (f111_3 n) x1 s
set_option maxRecDepth 100000 in
theorem k111_3 {X : mX} {D : Nat}   (n : Nat) : ∀ (x1 : Int32) (s : zS) (r : Int32 × zS) , f111_3  n x1 s = some r → Ev X D mm111 3 [some (.ref 15), some (.int x1)] [] (mk s) (encI r) := by
  induction n with
  | zero => intro x1 s r   h; cases h
  | succ n ih => intro x1 s r   h; exact kb111_3  ih x1 s r   h
def f111   (s : zS) : Option (Int32 × zS) := f111_3 zF (zi 13) s
set_option maxRecDepth 100000 in
theorem k111 {X : mX} {D : Nat}  {s : zS} {r : Int32 × zS}  (h : f111  s = some r) : Ev X D mm111 0 [some (.ref 15), none] [] (mk s) (encI r) := by
  unfold f111 at h
  refine Ev.run (pc' := 3) (ls' := [some (.ref 15), some (.int (zi 13))]) (st' := []) (h' := mk s) 2 rfl ?_
  exact k111_3 zF (zi 13) s _ h
/-! 74 F$Piece.addZeros(I)V -/
def b74_2 (rec2 : Int32 → Int32 → zS → Option (zS)) (x1 : Int32) (x2 : Int32) (s : zS) : Option (zS) := if x2 ≥ (r265 x1 (zi 1600) s) then some s else zb0 (f70 (zi 48) s) (fun s1 => rec2 x1 (x2 + zi 1) s1)
set_option maxRecDepth 100000 in
theorem kb74_2 {X : mX} {D : Nat} {rec2 : Int32 → Int32 → zS → Option (zS)} (hrec2 : ∀ (x1 : Int32) (x2 : Int32) (s : zS) (r : zS) , rec2 x1 x2 s = some r → Ev X (D + 1) mm74 2 [some (.ref 13), some (.int x1), some (.int x2)] [] (mk s) (encV r)) (x1 : Int32) (x2 : Int32) (s : zS) (r : zS)   (h : b74_2 rec2 x1 x2 s = some r) : Ev X (D + 1) mm74 2 [some (.ref 13), some (.int x1), some (.int x2)] [] (mk s) (encV r) := by
  unfold b74_2 at h
  refine Ev.run (pc' := 7) (ls' := [some (.ref 13), some (.int x1), some (.int x2)]) (st' := [.int (zi 1600), .int x1, .int x2]) (h' := mk s) 3 rfl ?_
  refine Ev.call (M' := mm265) (v := some (.int (r265 x1 (zi 1600) s))) (h' := mk s) rfl rfl rfl (Nat.le_of_ble_eq_true rfl) (k265 (x0 := x1) (x1 := (zi 1600)) (s := s) (v := r265 x1 (zi 1600) s)  rfl) ?_
  refine Ev.icmp_ge (t := 25) rfl rfl (fun hb => ?_) (fun hb => ?_)
  · have h := (if_pos hb).symm.trans h
    cases h
    exact Ev.fin rfl rfl
  · have h := (if_neg hb).symm.trans h
    refine Ev.run (pc' := 16) (ls' := [some (.ref 13), some (.int x1), some (.int x2)]) (st' := [.int (zi 48), .ref 13]) (h' := mk s) 2 rfl ?_
    obtain ⟨s1, hq, h⟩ := zb0_some h
    refine Ev.call (M' := mm70) (v := none) (h' := mk s1) rfl rfl rfl (Nat.le_of_ble_eq_true rfl) (k70 hq) ?_
    refine Ev.run (pc' := 2) (ls' := [some (.ref 13), some (.int x1), some (.int (x2 + zi 1))]) (st' := []) (h' := mk s1) 2 rfl ?_
    exact hrec2 x1 (x2 + zi 1) s1 _ h
def f74_2  : Nat → Int32 → Int32 → zS → Option (zS)
  | 0, _, _, _ => none
  | n + 1, x1, x2, s => b74_2 (f74_2 n) x1 x2 s
set_option maxRecDepth 100000 in
theorem k74_2 {X : mX} {D : Nat}   (n : Nat) : ∀ (x1 : Int32) (x2 : Int32) (s : zS) (r : zS) , f74_2  n x1 x2 s = some r → Ev X (D + 1) mm74 2 [some (.ref 13), some (.int x1), some (.int x2)] [] (mk s) (encV r) := by
  induction n with
  | zero => intro x1 x2 s r   h; cases h
  | succ n ih => intro x1 x2 s r   h; exact kb74_2  ih x1 x2 s r   h
def f74  (x1 : Int32) (s : zS) : Option (zS) := f74_2 zF x1 (zi 0) s
set_option maxRecDepth 100000 in
theorem k74 {X : mX} {D : Nat} {x1 : Int32} {s : zS} {r : zS}  (h : f74 x1 s = some r) : Ev X (D + 1) mm74 0 [some (.ref 13), some (.int x1), none] [] (mk s) (encV r) := by
  unfold f74 at h
  refine Ev.run (pc' := 2) (ls' := [some (.ref 13), some (.int x1), some (.int (zi 0))]) (st' := []) (h' := mk s) 2 rfl ?_
  exact k74_2 zF x1 (zi 0) s _ h
/-! 108 F$RealWriter.writeSixteens(LFormatPress$Piece;LFormatPress$Spec;)V -/
def f108_168  (y1 : Int64) (s : zS) : Option (zS) := zb0 (f79 y1 s) (fun s1 => some s1)
set_option maxRecDepth 100000 in
theorem k108_168 {X : mX} {D : Nat}   (y1 : Int64) (s : zS) (r : zS) (o0 : Option Value) (o1 : Option Value) (o2 : Option Value) (o3 : Option Value) (o4 : Option Value) (o5 : Option Value) (o6 : Option Value)  (h : f108_168  y1 s = some r) : Ev X (D + 7) mm108 168 [o0, o1, o2, o3, o4, o5, o6] [.long y1, .ref 13] (mk s) (encV r) := by
  unfold f108_168 at h
  obtain ⟨s1, hq, h⟩ := zb0_some h
  refine Ev.call (M' := mm79) (v := none) (h' := mk s1) rfl rfl rfl (Nat.le_of_ble_eq_true rfl) (k79 hq) ?_
  cases h
  exact Ev.fin rfl rfl
def b108_97 (rec97 : Int32 → Int32 → Int32 → zS → Option (zS)) (x4 : Int32) (x5 : Int32) (x6 : Int32) (s : zS) : Option (zS) := if x6 > (r265 x5 (zi 13) s) then zb0 (f74 (x5 - (zi 13)) s) (fun s1 => zb0 (f70 (zi 112) s1) (fun s2 => if x4 = zi 0 then f108_168 (zI2L ((s2.1 15 6) + (zi 52))) s2 else f108_168 (zl 0) s2)) else zb0 (f73 ((zL2I (zushrL (s.2.1 15 5) ((zi 52) - ((zi 4) * x6)))) &&& (zi 15)) s) (fun s3 => rec97 x4 x5 (x6 + zi 1) s3)
set_option maxRecDepth 100000 in
theorem kb108_97 {X : mX} {D : Nat} {rec97 : Int32 → Int32 → Int32 → zS → Option (zS)} (hrec97 : ∀ (x4 : Int32) (x5 : Int32) (x6 : Int32) (s : zS) (r : zS) (o2 : Option Value) (o3 : Option Value), rec97 x4 x5 x6 s = some r → Ev X (D + 7) mm108 97 [some (.ref 15), some (.ref 13), o2, o3, some (.int x4), some (.int x5), some (.int x6)] [] (mk s) (encV r)) (x4 : Int32) (x5 : Int32) (x6 : Int32) (s : zS) (r : zS) (o2 : Option Value) (o3 : Option Value)  (h : b108_97 rec97 x4 x5 x6 s = some r) : Ev X (D + 7) mm108 97 [some (.ref 15), some (.ref 13), o2, o3, some (.int x4), some (.int x5), some (.int x6)] [] (mk s) (encV r) := by
  unfold b108_97 at h
  refine Ev.run (pc' := 103) (ls' := [some (.ref 15), some (.ref 13), o2, o3, some (.int x4), some (.int x5), some (.int x6)]) (st' := [.int (zi 13), .int x5, .int x6]) (h' := mk s) 3 rfl ?_
  refine Ev.call (M' := mm265) (v := some (.int (r265 x5 (zi 13) s))) (h' := mk s) rfl rfl rfl (Nat.le_of_ble_eq_true rfl) (k265 (x0 := x5) (x1 := (zi 13)) (s := s) (v := r265 x5 (zi 13) s)  rfl) ?_
  refine Ev.icmp_gt (t := 135) rfl rfl (fun hb => ?_) (fun hb => ?_)
  · have h := (if_pos hb).symm.trans h
    refine Ev.run (pc' := 141) (ls' := [some (.ref 15), some (.ref 13), o2, o3, some (.int x4), some (.int x5), some (.int x6)]) (st' := [.int (x5 - (zi 13)), .ref 13]) (h' := mk s) 4 rfl ?_
    obtain ⟨s1, hq, h⟩ := zb0_some h
    refine Ev.call (M' := mm74) (v := none) (h' := mk s1) rfl rfl rfl (Nat.le_of_ble_eq_true rfl) (k74 hq) ?_
    refine Ev.run (pc' := 147) (ls' := [some (.ref 15), some (.ref 13), o2, o3, some (.int x4), some (.int x5), some (.int x6)]) (st' := [.int (zi 112), .ref 13]) (h' := mk s1) 2 rfl ?_
    obtain ⟨s2, hq, h⟩ := zb0_some h
    refine Ev.call (M' := mm70) (v := none) (h' := mk s2) rfl rfl rfl (Nat.le_of_ble_eq_true rfl) (k70 hq) ?_
    refine Ev.run (pc' := 153) (ls' := [some (.ref 15), some (.ref 13), o2, o3, some (.int x4), some (.int x5), some (.int x6)]) (st' := [.int x4, .ref 13]) (h' := mk s2) 2 rfl ?_
    refine Ev.if_eq (t := 160) rfl rfl (fun hb => ?_) (fun hb => ?_)
    · have h := (if_pos hb).symm.trans h
      refine Ev.run (pc' := 168) (ls' := [some (.ref 15), some (.ref 13), o2, o3, some (.int x4), some (.int x5), some (.int x6)]) (st' := [.long (zI2L ((s2.1 15 6) + (zi 52))), .ref 13]) (h' := mk s2) 5 rfl ?_
      exact k108_168 (zI2L ((s2.1 15 6) + (zi 52))) s2 _ _ _ _ _ _ _ _ h
    · have h := (if_neg hb).symm.trans h
      refine Ev.run (pc' := 168) (ls' := [some (.ref 15), some (.ref 13), o2, o3, some (.int x4), some (.int x5), some (.int x6)]) (st' := [.long (zl 0), .ref 13]) (h' := mk s2) 2 rfl ?_
      exact k108_168 (zl 0) s2 _ _ _ _ _ _ _ _ h
  · have h := (if_neg hb).symm.trans h
    refine Ev.run (pc' := 126) (ls' := [some (.ref 15), some (.ref 13), o2, o3, some (.int x4), some (.int x5), some (.int x6)]) (st' := [.int ((zL2I (zushrL (s.2.1 15 5) ((zi 52) - ((zi 4) * x6)))) &&& (zi 15)), .ref 13]) (h' := mk s) 12 rfl ?_
    obtain ⟨s3, hq, h⟩ := zb0_some h
    refine Ev.call (M' := mm73) (v := none) (h' := mk s3) rfl rfl rfl (Nat.le_of_ble_eq_true rfl) (k73 hq) ?_
    refine Ev.run (pc' := 97) (ls' := [some (.ref 15), some (.ref 13), o2, o3, some (.int x4), some (.int x5), some (.int (x6 + zi 1))]) (st' := []) (h' := mk s3) 2 rfl ?_
    exact hrec97 x4 x5 (x6 + zi 1) s3 _ _ _ h
def f108_97  : Nat → Int32 → Int32 → Int32 → zS → Option (zS)
  | 0, _, _, _, _ => none
  | n + 1, x4, x5, x6, s => b108_97 (f108_97 n) x4 x5 x6 s
set_option maxRecDepth 100000 in
theorem k108_97 {X : mX} {D : Nat}   (n : Nat) : ∀ (x4 : Int32) (x5 : Int32) (x6 : Int32) (s : zS) (r : zS) (o2 : Option Value) (o3 : Option Value), f108_97  n x4 x5 x6 s = some r → Ev X (D + 7) mm108 97 [some (.ref 15), some (.ref 13), o2, o3, some (.int x4), some (.int x5), some (.int x6)] [] (mk s) (encV r) := by
  induction n with
  | zero => intro x4 x5 x6 s r o2 o3  h; cases h
  | succ n ih => intro x4 x5 x6 s r o2 o3  h; exact kb108_97  ih x4 x5 x6 s r o2 o3  h
def f108_62  (x3 : Int32) (x4 : Int32) (s : zS) : Option (zS) := zb0 (f73 (zL2I (zushrL (s.2.1 15 5) (zi 52))) s) (fun s1 => zb0 (f70 (zi 46) s1) (fun s2 => if x3 ≤ zi 0 then zb1 (f111 s2) (fun v4 s3 => f108_97 zF x4 v4 (zi 1) s3) else f108_97 zF x4 x3 (zi 1) s2))
set_option maxRecDepth 100000 in
theorem k108_62 {X : mX} {D : Nat}   (x3 : Int32) (x4 : Int32) (s : zS) (r : zS) (o2 : Option Value) (o5 : Option Value) (o6 : Option Value)  (h : f108_62  x3 x4 s = some r) : Ev X (D + 7) mm108 62 [some (.ref 15), some (.ref 13), o2, some (.int x3), some (.int x4), o5, o6] [] (mk s) (encV r) := by
  unfold f108_62 at h
  refine Ev.run (pc' := 71) (ls' := [some (.ref 15), some (.ref 13), o2, some (.int x3), some (.int x4), o5, o6]) (st' := [.int (zL2I (zushrL (s.2.1 15 5) (zi 52))), .ref 13]) (h' := mk s) 6 rfl ?_
  obtain ⟨s1, hq, h⟩ := zb0_some h
  refine Ev.call (M' := mm73) (v := none) (h' := mk s1) rfl rfl rfl (Nat.le_of_ble_eq_true rfl) (k73 hq) ?_
  refine Ev.run (pc' := 77) (ls' := [some (.ref 15), some (.ref 13), o2, some (.int x3), some (.int x4), o5, o6]) (st' := [.int (zi 46), .ref 13]) (h' := mk s1) 2 rfl ?_
  obtain ⟨s2, hq, h⟩ := zb0_some h
  refine Ev.call (M' := mm70) (v := none) (h' := mk s2) rfl rfl rfl (Nat.le_of_ble_eq_true rfl) (k70 hq) ?_
  refine Ev.run (pc' := 81) (ls' := [some (.ref 15), some (.ref 13), o2, some (.int x3), some (.int x4), o5, o6]) (st' := [.int x3]) (h' := mk s2) 1 rfl ?_
  refine Ev.if_le (t := 88) rfl rfl (fun hb => ?_) (fun hb => ?_)
  · have h := (if_pos hb).symm.trans h
    refine Ev.run (pc' := 89) (ls' := [some (.ref 15), some (.ref 13), o2, some (.int x3), some (.int x4), o5, o6]) (st' := [.ref 15]) (h' := mk s2) 1 rfl ?_
    obtain ⟨v4, s3, hq, h⟩ := zb1_some h
    refine Ev.call (M' := mm111) (v := some (.int v4)) (h' := mk s3) rfl rfl rfl (Nat.le_of_ble_eq_true rfl) (k111 hq) ?_
    refine Ev.run (pc' := 97) (ls' := [some (.ref 15), some (.ref 13), o2, some (.int x3), some (.int x4), some (.int v4), some (.int (zi 1))]) (st' := []) (h' := mk s3) 3 rfl ?_
    exact k108_97 zF x4 v4 (zi 1) s3 _ _ _ h
  · have h := (if_neg hb).symm.trans h
    refine Ev.run (pc' := 97) (ls' := [some (.ref 15), some (.ref 13), o2, some (.int x3), some (.int x4), some (.int x3), some (.int (zi 1))]) (st' := []) (h' := mk s2) 5 rfl ?_
    exact k108_97 zF x4 x3 (zi 1) s2 _ _ _ h
def f108_41  (x3 : Int32) (y0 : Int32) (s : zS) : Option (zS) := zb0 (f109 s) (fun s1 => if x3 ≤ zi 0 then f108_62 x3 y0 s1 else if x3 ≥ (zi 13) then f108_62 x3 y0 s1 else zb0 (f110 x3 s1) (fun s2 => f108_62 x3 y0 s2))
set_option maxRecDepth 100000 in
theorem k108_41 {X : mX} {D : Nat}   (x3 : Int32) (y0 : Int32) (s : zS) (r : zS) (o2 : Option Value) (o4 : Option Value) (o5 : Option Value) (o6 : Option Value)  (h : f108_41  x3 y0 s = some r) : Ev X (D + 7) mm108 41 [some (.ref 15), some (.ref 13), o2, some (.int x3), o4, o5, o6] [.int y0] (mk s) (encV r) := by
  unfold f108_41 at h
  refine Ev.run (pc' := 44) (ls' := [some (.ref 15), some (.ref 13), o2, some (.int x3), some (.int y0), o5, o6]) (st' := [.ref 15]) (h' := mk s) 2 rfl ?_
  obtain ⟨s1, hq, h⟩ := zb0_some h
  refine Ev.call (M' := mm109) (v := none) (h' := mk s1) rfl rfl rfl (Nat.le_of_ble_eq_true rfl) (k109 hq) ?_
  refine Ev.run (pc' := 48) (ls' := [some (.ref 15), some (.ref 13), o2, some (.int x3), some (.int y0), o5, o6]) (st' := [.int x3]) (h' := mk s1) 1 rfl ?_
  refine Ev.if_le (t := 62) rfl rfl (fun hb => ?_) (fun hb => ?_)
  · have h := (if_pos hb).symm.trans h
    exact k108_62 x3 y0 s1 _ _ _ _ h
  · have h := (if_neg hb).symm.trans h
    refine Ev.run (pc' := 54) (ls' := [some (.ref 15), some (.ref 13), o2, some (.int x3), some (.int y0), o5, o6]) (st' := [.int (zi 13), .int x3]) (h' := mk s1) 2 rfl ?_
    refine Ev.icmp_ge (t := 62) rfl rfl (fun hb => ?_) (fun hb => ?_)
    · have h := (if_pos hb).symm.trans h
      exact k108_62 x3 y0 s1 _ _ _ _ h
    · have h := (if_neg hb).symm.trans h
      refine Ev.run (pc' := 59) (ls' := [some (.ref 15), some (.ref 13), o2, some (.int x3), some (.int y0), o5, o6]) (st' := [.int x3, .ref 15]) (h' := mk s1) 2 rfl ?_
      obtain ⟨s2, hq, h⟩ := zb0_some h
      refine Ev.call (M' := mm110) (v := none) (h' := mk s2) rfl rfl rfl (Nat.le_of_ble_eq_true rfl) (k110 hq) ?_
      exact k108_62 x3 y0 s2 _ _ _ _ h
def f108_26  (y0 : Int32) (s : zS) : Option (zS) := if ¬ (s.2.1 15 5) = (zl 0) then f108_41 y0 (zi 0) s else f108_41 y0 (zi 1) s
set_option maxRecDepth 100000 in
theorem k108_26 {X : mX} {D : Nat}   (y0 : Int32) (s : zS) (r : zS) (o3 : Option Value) (o4 : Option Value) (o5 : Option Value) (o6 : Option Value)  (h : f108_26  y0 s = some r) : Ev X (D + 7) mm108 26 [some (.ref 15), some (.ref 13), some (.ref 7), o3, o4, o5, o6] [.int y0] (mk s) (encV r) := by
  unfold f108_26 at h
  refine Ev.run (pc' := 33) (ls' := [some (.ref 15), some (.ref 13), some (.ref 7), some (.int y0), o4, o5, o6]) (st' := [.int (lg_cmp (s.2.1 15 5) (zl 0))]) (h' := mk s) 5 rfl ?_
  refine Ev.ifl_ne (t := 40) rfl rfl (fun hb => ?_) (fun hb => ?_)
  · have h := (if_pos hb).symm.trans h
    refine Ev.run (pc' := 41) (ls' := [some (.ref 15), some (.ref 13), some (.ref 7), some (.int y0), o4, o5, o6]) (st' := [.int (zi 0)]) (h' := mk s) 1 rfl ?_
    exact k108_41 y0 (zi 0) s _ _ _ _ _ h
  · have h := (if_neg hb).symm.trans h
    refine Ev.run (pc' := 41) (ls' := [some (.ref 15), some (.ref 13), some (.ref 7), some (.int y0), o4, o5, o6]) (st' := [.int (zi 1)]) (h' := mk s) 2 rfl ?_
    exact k108_41 y0 (zi 1) s _ _ _ _ _ h
def f108   (s : zS) : Option (zS) := zb0 (f71 50 s) (fun s1 => zb0 (f77 s1) (fun s2 => if ¬ (r53 s2) = zi 0 then f108_26 (r53 s2) s2 else f108_26 (zi 1) s2))
set_option maxRecDepth 100000 in
theorem k108 {X : mX} {D : Nat}  {s : zS} {r : zS}  (h : f108  s = some r) : Ev X (D + 7) mm108 0 [some (.ref 15), some (.ref 13), some (.ref 7), none, none, none, none] [] (mk s) (encV r) := by
  unfold f108 at h
  refine Ev.run (pc' := 3) (ls' := [some (.ref 15), some (.ref 13), some (.ref 7), none, none, none, none]) (st' := [.ref (mRO + 3 + 2 * 50), .ref 13]) (h' := mk s) 2 rfl ?_
  obtain ⟨s1, hq, h⟩ := zb0_some h
  refine Ev.call (M' := mm71) (v := none) (h' := mk s1) rfl rfl rfl (Nat.le_of_ble_eq_true rfl) (k71 (by decide) hq) ?_
  refine Ev.run (pc' := 8) (ls' := [some (.ref 15), some (.ref 13), some (.ref 7), none, none, none, none]) (st' := [.ref 7, .ref 13]) (h' := mk s1) 2 rfl ?_
  obtain ⟨s2, hq, h⟩ := zb0_some h
  refine Ev.call (M' := mm77) (v := none) (h' := mk s2) rfl rfl rfl (Nat.le_of_ble_eq_true rfl) (k77 hq) ?_
  refine Ev.run (pc' := 12) (ls' := [some (.ref 15), some (.ref 13), some (.ref 7), none, none, none, none]) (st' := [.ref 7]) (h' := mk s2) 1 rfl ?_
  refine Ev.call (M' := mm53) (v := some (.int (r53 s2))) (h' := mk s2) rfl rfl rfl (Nat.le_of_ble_eq_true rfl) (k53  (s := s2) (v := r53 s2)  rfl) ?_
  refine Ev.if_ne (t := 22) rfl rfl (fun hb => ?_) (fun hb => ?_)
  · have h := (if_pos hb).symm.trans h
    refine Ev.run (pc' := 23) (ls' := [some (.ref 15), some (.ref 13), some (.ref 7), none, none, none, none]) (st' := [.ref 7]) (h' := mk s2) 1 rfl ?_
    refine Ev.call (M' := mm53) (v := some (.int (r53 s2))) (h' := mk s2) rfl rfl rfl (Nat.le_of_ble_eq_true rfl) (k53  (s := s2) (v := r53 s2)  rfl) ?_
    exact k108_26 (r53 s2) s2 _ _ _ _ _ h
  · have h := (if_neg hb).symm.trans h
    refine Ev.run (pc' := 26) (ls' := [some (.ref 15), some (.ref 13), some (.ref 7), none, none, none, none]) (st' := [.int (zi 1)]) (h' := mk s2) 2 rfl ?_
    exact k108_26 (zi 1) s2 _ _ _ _ _ h
/-! 120 F$Decimal.countUp()V -/
def b120_7 (rec7 : Int32 → zS → Option (zS)) (x1 : Int32) (s : zS) : Option (zS) := if x1 < zi 0 then if mIx (zi 0) 864 then some (setI (setI (setB s 18 ((zi 0).toNatClampNeg) (zI2B (zi 1))) 16 3 (r264 (s.1 16 3) (zi 1) (setB s 18 ((zi 0).toNatClampNeg) (zI2B (zi 1))))) 16 4 ((s.1 16 4) + (zi 1))) else none else if mIx x1 864 then if (s.1 18 x1.toNatClampNeg) ≥ (zi 9) then if mIx x1 864 then rec7 (x1 + zi (-1)) (setB s 18 x1.toNatClampNeg (zI2B (zi 0))) else none else if mIx x1 864 then if mIx x1 864 then some (setB s 18 x1.toNatClampNeg (zI2B (zI2B ((s.1 18 x1.toNatClampNeg) + (zi 1))))) else none else none else none
set_option maxRecDepth 100000 in
theorem kb120_7 {X : mX} {D : Nat} {rec7 : Int32 → zS → Option (zS)} (hrec7 : ∀ (x1 : Int32) (s : zS) (r : zS) , rec7 x1 s = some r → Ev X (D + 1) mm120 7 [some (.ref 16), some (.int x1)] [] (mk s) (encV r)) (x1 : Int32) (s : zS) (r : zS)   (h : b120_7 rec7 x1 s = some r) : Ev X (D + 1) mm120 7 [some (.ref 16), some (.int x1)] [] (mk s) (encV r) := by
  unfold b120_7 at h
  refine Ev.run (pc' := 8) (ls' := [some (.ref 16), some (.int x1)]) (st' := [.int x1]) (h' := mk s) 1 rfl ?_
  refine Ev.if_lt (t := 47) rfl rfl (fun hb => ?_) (fun hb => ?_)
  · have h := (if_pos hb).symm.trans h
    refine Ev.run (pc' := 53) (ls' := [some (.ref 16), some (.int x1)]) (st' := [.int (zi 1), .int (zi 0), .ref 18]) (h' := mk s) 4 rfl ?_
    obtain ⟨hx, h⟩ := zif h
    refine Ev.step (pc' := 54) rfl (ast_18 hx) ?_
    refine Ev.run (pc' := 60) (ls' := [some (.ref 16), some (.int x1)]) (st' := [.int (zi 1), .int (s.1 16 3), .ref 16]) (h' := mk (setB s 18 ((zi 0).toNatClampNeg) (zI2B (zi 1)))) 4 rfl ?_
    refine Ev.call (M' := mm264) (v := some (.int (r264 (s.1 16 3) (zi 1) (setB s 18 ((zi 0).toNatClampNeg) (zI2B (zi 1)))))) (h' := mk (setB s 18 ((zi 0).toNatClampNeg) (zI2B (zi 1)))) rfl rfl rfl (Nat.le_of_ble_eq_true rfl) (k264 (x0 := (s.1 16 3)) (x1 := (zi 1)) (s := setB s 18 ((zi 0).toNatClampNeg) (zI2B (zi 1))) (v := r264 (s.1 16 3) (zi 1) (setB s 18 ((zi 0).toNatClampNeg) (zI2B (zi 1))))  rfl) ?_
    refine Ev.step (pc' := 66) rfl (put_8_3 rfl) ?_
    refine Ev.run (pc' := 73) (ls' := [some (.ref 16), some (.int x1)]) (st' := [.int ((s.1 16 4) + (zi 1)), .ref 16]) (h' := mk (setI (setB s 18 ((zi 0).toNatClampNeg) (zI2B (zi 1))) 16 3 (r264 (s.1 16 3) (zi 1) (setB s 18 ((zi 0).toNatClampNeg) (zI2B (zi 1)))))) 5 rfl ?_
    refine Ev.step (pc' := 76) rfl (put_8_4 rfl) ?_
    cases h
    exact Ev.fin rfl rfl
  · have h := (if_neg hb).symm.trans h
    refine Ev.run (pc' := 16) (ls' := [some (.ref 16), some (.int x1)]) (st' := [.int x1, .ref 18]) (h' := mk s) 3 rfl ?_
    obtain ⟨hx, h⟩ := zif h
    refine Ev.step (pc' := 17) rfl (ald_b rfl hx) ?_
    refine Ev.run (pc' := 19) (ls' := [some (.ref 16), some (.int x1)]) (st' := [.int (zi 9), .int (s.1 18 x1.toNatClampNeg)]) (h' := mk s) 1 rfl ?_
    refine Ev.icmp_ge (t := 34) rfl rfl (fun hb => ?_) (fun hb => ?_)
    · have h := (if_pos hb).symm.trans h
      refine Ev.run (pc' := 40) (ls' := [some (.ref 16), some (.int x1)]) (st' := [.int (zi 0), .int x1, .ref 18]) (h' := mk s) 4 rfl ?_
      obtain ⟨hx, h⟩ := zif h
      refine Ev.step (pc' := 41) rfl (ast_18 hx) ?_
      refine Ev.run (pc' := 7) (ls' := [some (.ref 16), some (.int (x1 + zi (-1)))]) (st' := []) (h' := mk (setB s 18 x1.toNatClampNeg (zI2B (zi 0)))) 2 rfl ?_
      exact hrec7 (x1 + zi (-1)) (setB s 18 x1.toNatClampNeg (zI2B (zi 0))) _ h
    · have h := (if_neg hb).symm.trans h
      refine Ev.run (pc' := 28) (ls' := [some (.ref 16), some (.int x1)]) (st' := [.int x1, .ref 18, .int x1, .ref 18]) (h' := mk s) 4 rfl ?_
      obtain ⟨hx, h⟩ := zif h
      refine Ev.step (pc' := 29) rfl (ald_b rfl hx) ?_
      refine Ev.run (pc' := 32) (ls' := [some (.ref 16), some (.int x1)]) (st' := [.int (zI2B ((s.1 18 x1.toNatClampNeg) + (zi 1))), .int x1, .ref 18]) (h' := mk s) 3 rfl ?_
      obtain ⟨hx, h⟩ := zif h
      refine Ev.step (pc' := 33) rfl (ast_18 hx) ?_
      cases h
      exact Ev.fin rfl rfl
def f120_7  : Nat → Int32 → zS → Option (zS)
  | 0, _, _ => none
  | n + 1, x1, s => b120_7 (f120_7 n) x1 s
set_option maxRecDepth 100000 in
theorem k120_7 {X : mX} {D : Nat}   (n : Nat) : ∀ (x1 : Int32) (s : zS) (r : zS) , f120_7  n x1 s = some r → Ev X (D + 1) mm120 7 [some (.ref 16), some (.int x1)] [] (mk s) (encV r) := by
  induction n with
  | zero => intro x1 s r   h; cases h
  | succ n ih => intro x1 s r   h; exact kb120_7  ih x1 s r   h
def f120   (s : zS) : Option (zS) := f120_7 zF ((s.1 16 3) - (zi 1)) s
set_option maxRecDepth 100000 in
theorem k120 {X : mX} {D : Nat}  {s : zS} {r : zS}  (h : f120  s = some r) : Ev X (D + 1) mm120 0 [some (.ref 16), none] [] (mk s) (encV r) := by
  unfold f120 at h
  refine Ev.run (pc' := 7) (ls' := [some (.ref 16), some (.int ((s.1 16 3) - (zi 1)))]) (st' := []) (h' := mk s) 5 rfl ?_
  exact k120_7 zF ((s.1 16 3) - (zi 1)) s _ h
/-! 119 F$Decimal.round(I)V -/
def f119_28  (x1 : Int32) (y0 : Int32) (s : zS) : Option (zS) := if y0 = zi 0 then if ¬ (r264 x1 (zi 0) s) = zi 0 then some (setI s 16 3 (r264 x1 (zi 0) s)) else some (setI (setI s 16 3 (r264 x1 (zi 0) s)) 16 4 (zi 1)) else zb0 (f120 (setI s 16 3 (r264 x1 (zi 0) s))) (fun s1 => some s1)
set_option maxRecDepth 100000 in
theorem k119_28 {X : mX} {D : Nat}   (x1 : Int32) (y0 : Int32) (s : zS) (r : zS) (o2 : Option Value)  (h : f119_28  x1 y0 s = some r) : Ev X (D + 2) mm119 28 [some (.ref 16), some (.int x1), o2] [.int y0] (mk s) (encV r) := by
  unfold f119_28 at h
  refine Ev.run (pc' := 32) (ls' := [some (.ref 16), some (.int x1), some (.int y0)]) (st' := [.int (zi 0), .int x1, .ref 16]) (h' := mk s) 4 rfl ?_
  refine Ev.call (M' := mm264) (v := some (.int (r264 x1 (zi 0) s))) (h' := mk s) rfl rfl rfl (Nat.le_of_ble_eq_true rfl) (k264 (x0 := x1) (x1 := (zi 0)) (s := s) (v := r264 x1 (zi 0) s)  rfl) ?_
  refine Ev.step (pc' := 38) rfl (put_8_3 rfl) ?_
  refine Ev.run (pc' := 39) (ls' := [some (.ref 16), some (.int x1), some (.int y0)]) (st' := [.int y0]) (h' := mk (setI s 16 3 (r264 x1 (zi 0) s))) 1 rfl ?_
  refine Ev.if_eq (t := 49) rfl rfl (fun hb => ?_) (fun hb => ?_)
  · have h := (if_pos hb).symm.trans h
    refine Ev.run (pc' := 53) (ls' := [some (.ref 16), some (.int x1), some (.int y0)]) (st' := [.int (r264 x1 (zi 0) s)]) (h' := mk (setI s 16 3 (r264 x1 (zi 0) s))) 2 rfl ?_
    refine Ev.if_ne (t := 61) rfl rfl (fun hb => ?_) (fun hb => ?_)
    · have h := (if_pos hb).symm.trans h
      cases h
      exact Ev.fin rfl rfl
    · have h := (if_neg hb).symm.trans h
      refine Ev.run (pc' := 58) (ls' := [some (.ref 16), some (.int x1), some (.int y0)]) (st' := [.int (zi 1), .ref 16]) (h' := mk (setI s 16 3 (r264 x1 (zi 0) s))) 2 rfl ?_
      refine Ev.step (pc' := 61) rfl (put_8_4 rfl) ?_
      cases h
      exact Ev.fin rfl rfl
  · have h := (if_neg hb).symm.trans h
    refine Ev.run (pc' := 43) (ls' := [some (.ref 16), some (.int x1), some (.int y0)]) (st' := [.ref 16]) (h' := mk (setI s 16 3 (r264 x1 (zi 0) s))) 1 rfl ?_
    obtain ⟨s1, hq, h⟩ := zb0_some h
    refine Ev.call (M' := mm120) (v := none) (h' := mk s1) rfl rfl rfl (Nat.le_of_ble_eq_true rfl) (k120 hq) ?_
    refine Ev.run (pc' := 61) (ls' := [some (.ref 16), some (.int x1), some (.int y0)]) (st' := []) (h' := mk s1) 1 rfl ?_
    cases h
    exact Ev.fin rfl rfl
def f119  (x1 : Int32) (s : zS) : Option (zS) := if x1 < (s.1 16 3) then if x1 < zi 0 then f119_28 x1 (zi 0) s else if mIx x1 864 then if (s.1 18 x1.toNatClampNeg) < (zi 5) then f119_28 x1 (zi 0) s else f119_28 x1 (zi 1) s else none else some s
set_option maxRecDepth 100000 in
theorem k119 {X : mX} {D : Nat} {x1 : Int32} {s : zS} {r : zS}  (h : f119 x1 s = some r) : Ev X (D + 2) mm119 0 [some (.ref 16), some (.int x1), none] [] (mk s) (encV r) := by
  unfold f119 at h
  refine Ev.run (pc' := 5) (ls' := [some (.ref 16), some (.int x1), none]) (st' := [.int (s.1 16 3), .int x1]) (h' := mk s) 3 rfl ?_
  refine Ev.icmp_lt (t := 9) rfl rfl (fun hb => ?_) (fun hb => ?_)
  · have h := (if_pos hb).symm.trans h
    refine Ev.run (pc' := 10) (ls' := [some (.ref 16), some (.int x1), none]) (st' := [.int x1]) (h' := mk s) 1 rfl ?_
    refine Ev.if_lt (t := 27) rfl rfl (fun hb => ?_) (fun hb => ?_)
    · have h := (if_pos hb).symm.trans h
      refine Ev.run (pc' := 28) (ls' := [some (.ref 16), some (.int x1), none]) (st' := [.int (zi 0)]) (h' := mk s) 1 rfl ?_
      exact k119_28 x1 (zi 0) s _ _ h
    · have h := (if_neg hb).symm.trans h
      refine Ev.run (pc' := 18) (ls' := [some (.ref 16), some (.int x1), none]) (st' := [.int x1, .ref 18]) (h' := mk s) 3 rfl ?_
      obtain ⟨hx, h⟩ := zif h
      refine Ev.step (pc' := 19) rfl (ald_b rfl hx) ?_
      refine Ev.run (pc' := 20) (ls' := [some (.ref 16), some (.int x1), none]) (st' := [.int (zi 5), .int (s.1 18 x1.toNatClampNeg)]) (h' := mk s) 1 rfl ?_
      refine Ev.icmp_lt (t := 27) rfl rfl (fun hb => ?_) (fun hb => ?_)
      · have h := (if_pos hb).symm.trans h
        refine Ev.run (pc' := 28) (ls' := [some (.ref 16), some (.int x1), none]) (st' := [.int (zi 0)]) (h' := mk s) 1 rfl ?_
        exact k119_28 x1 (zi 0) s _ _ h
      · have h := (if_neg hb).symm.trans h
        refine Ev.run (pc' := 28) (ls' := [some (.ref 16), some (.int x1), none]) (st' := [.int (zi 1)]) (h' := mk s) 2 rfl ?_
        exact k119_28 x1 (zi 1) s _ _ h
  · have h := (if_neg hb).symm.trans h
    cases h
    exact Ev.fin rfl rfl
/-! 107 F$RealWriter.writeBehindPoint(LFormatPress$Piece;LFormatPress$Spec;II)V -/
def b107_22 (rec22 : Int32 → Int32 → Int32 → zS → Option (zS)) (x3 : Int32) (x4 : Int32) (x5 : Int32) (s : zS) : Option (zS) := if x5 ≥ x4 then some s else zb1 (f118 (x3 + x5) s) (fun v2 s1 => zb0 (f70 ((zi 48) + v2) s1) (fun s3 => rec22 x3 x4 (x5 + zi 1) s3))
set_option maxRecDepth 100000 in
theorem kb107_22 {X : mX} {D : Nat} {rec22 : Int32 → Int32 → Int32 → zS → Option (zS)} (hrec22 : ∀ (x3 : Int32) (x4 : Int32) (x5 : Int32) (s : zS) (r : zS) (o2 : Option Value), rec22 x3 x4 x5 s = some r → Ev X (D + 1) mm107 22 [some (.ref 15), some (.ref 13), o2, some (.int x3), some (.int x4), some (.int x5)] [] (mk s) (encV r)) (x3 : Int32) (x4 : Int32) (x5 : Int32) (s : zS) (r : zS) (o2 : Option Value)  (h : b107_22 rec22 x3 x4 x5 s = some r) : Ev X (D + 1) mm107 22 [some (.ref 15), some (.ref 13), o2, some (.int x3), some (.int x4), some (.int x5)] [] (mk s) (encV r) := by
  unfold b107_22 at h
  refine Ev.run (pc' := 26) (ls' := [some (.ref 15), some (.ref 13), o2, some (.int x3), some (.int x4), some (.int x5)]) (st' := [.int x4, .int x5]) (h' := mk s) 2 rfl ?_
  refine Ev.icmp_ge (t := 53) rfl rfl (fun hb => ?_) (fun hb => ?_)
  · have h := (if_pos hb).symm.trans h
    cases h
    exact Ev.fin rfl rfl
  · have h := (if_neg hb).symm.trans h
    refine Ev.run (pc' := 40) (ls' := [some (.ref 15), some (.ref 13), o2, some (.int x3), some (.int x4), some (.int x5)]) (st' := [.int (x3 + x5), .ref 16, .int (zi 48), .ref 13]) (h' := mk s) 7 rfl ?_
    obtain ⟨v2, s1, hq, h⟩ := zb1_some h
    refine Ev.call (M' := mm118) (v := some (.int v2)) (h' := mk s1) rfl rfl rfl (Nat.le_of_ble_eq_true rfl) (k118 hq) ?_
    refine Ev.run (pc' := 44) (ls' := [some (.ref 15), some (.ref 13), o2, some (.int x3), some (.int x4), some (.int x5)]) (st' := [.int ((zi 48) + v2), .ref 13]) (h' := mk s1) 1 rfl ?_
    obtain ⟨s3, hq, h⟩ := zb0_some h
    refine Ev.call (M' := mm70) (v := none) (h' := mk s3) rfl rfl rfl (Nat.le_of_ble_eq_true rfl) (k70 hq) ?_
    refine Ev.run (pc' := 22) (ls' := [some (.ref 15), some (.ref 13), o2, some (.int x3), some (.int x4), some (.int (x5 + zi 1))]) (st' := []) (h' := mk s3) 2 rfl ?_
    exact hrec22 x3 x4 (x5 + zi 1) s3 _ _ h
def f107_22  : Nat → Int32 → Int32 → Int32 → zS → Option (zS)
  | 0, _, _, _, _ => none
  | n + 1, x3, x4, x5, s => b107_22 (f107_22 n) x3 x4 x5 s
set_option maxRecDepth 100000 in
theorem k107_22 {X : mX} {D : Nat}   (n : Nat) : ∀ (x3 : Int32) (x4 : Int32) (x5 : Int32) (s : zS) (r : zS) (o2 : Option Value), f107_22  n x3 x4 x5 s = some r → Ev X (D + 1) mm107 22 [some (.ref 15), some (.ref 13), o2, some (.int x3), some (.int x4), some (.int x5)] [] (mk s) (encV r) := by
  induction n with
  | zero => intro x3 x4 x5 s r o2  h; cases h
  | succ n ih => intro x3 x4 x5 s r o2  h; exact kb107_22  ih x3 x4 x5 s r o2  h
def f107_13  (x3 : Int32) (x4 : Int32) (s : zS) : Option (zS) := zb0 (f70 (zi 46) s) (fun s1 => f107_22 zF x3 x4 (zi 0) s1)
set_option maxRecDepth 100000 in
theorem k107_13 {X : mX} {D : Nat}   (x3 : Int32) (x4 : Int32) (s : zS) (r : zS) (o2 : Option Value) (o5 : Option Value)  (h : f107_13  x3 x4 s = some r) : Ev X (D + 1) mm107 13 [some (.ref 15), some (.ref 13), o2, some (.int x3), some (.int x4), o5] [] (mk s) (encV r) := by
  unfold f107_13 at h
  refine Ev.run (pc' := 16) (ls' := [some (.ref 15), some (.ref 13), o2, some (.int x3), some (.int x4), o5]) (st' := [.int (zi 46), .ref 13]) (h' := mk s) 2 rfl ?_
  obtain ⟨s1, hq, h⟩ := zb0_some h
  refine Ev.call (M' := mm70) (v := none) (h' := mk s1) rfl rfl rfl (Nat.le_of_ble_eq_true rfl) (k70 hq) ?_
  refine Ev.run (pc' := 22) (ls' := [some (.ref 15), some (.ref 13), o2, some (.int x3), some (.int x4), some (.int (zi 0))]) (st' := []) (h' := mk s1) 2 rfl ?_
  exact k107_22 zF x3 x4 (zi 0) s1 _ _ h
def f107  (x3 : Int32) (x4 : Int32) (s : zS) : Option (zS) := if x4 > zi 0 then f107_13 x3 x4 s else if (r51 (zi 2) s) = zi 0 then f107_22 zF x3 x4 (zi 0) s else f107_13 x3 x4 s
set_option maxRecDepth 100000 in
theorem k107 {X : mX} {D : Nat} {x3 : Int32} {x4 : Int32} {s : zS} {r : zS}  (h : f107 x3 x4 s = some r) : Ev X (D + 1) mm107 0 [some (.ref 15), some (.ref 13), some (.ref 7), some (.int x3), some (.int x4), none] [] (mk s) (encV r) := by
  unfold f107 at h
  refine Ev.run (pc' := 2) (ls' := [some (.ref 15), some (.ref 13), some (.ref 7), some (.int x3), some (.int x4), none]) (st' := [.int x4]) (h' := mk s) 1 rfl ?_
  refine Ev.if_gt (t := 13) rfl rfl (fun hb => ?_) (fun hb => ?_)
  · have h := (if_pos hb).symm.trans h
    exact k107_13 x3 x4 s _ _ _ h
  · have h := (if_neg hb).symm.trans h
    refine Ev.run (pc' := 7) (ls' := [some (.ref 15), some (.ref 13), some (.ref 7), some (.int x3), some (.int x4), none]) (st' := [.int (zi 2), .ref 7]) (h' := mk s) 2 rfl ?_
    refine Ev.call (M' := mm51) (v := some (.int (r51 (zi 2) s))) (h' := mk s) rfl rfl rfl (Nat.le_of_ble_eq_true rfl) (k51 (x1 := (zi 2)) (s := s) (v := r51 (zi 2) s)  rfl) ?_
    refine Ev.if_eq (t := 19) rfl rfl (fun hb => ?_) (fun hb => ?_)
    · have h := (if_pos hb).symm.trans h
      refine Ev.run (pc' := 22) (ls' := [some (.ref 15), some (.ref 13), some (.ref 7), some (.int x3), some (.int x4), some (.int (zi 0))]) (st' := []) (h' := mk s) 2 rfl ?_
      exact k107_22 zF x3 x4 (zi 0) s _ _ h
    · have h := (if_neg hb).symm.trans h
      exact k107_13 x3 x4 s _ _ _ h
/-! 106 F$RealWriter.writeScientific(LFormatPress$Piece;LFormatPress$Spec;I)V -/
def f106_53  (x4 : Int32) (y1 : Int32) (s : zS) : Option (zS) := zb0 (f70 y1 s) (fun s1 => zb0 (f78 (zI2L x4) (zi 2) (zi 0) s1) (fun s2 => some s2))
set_option maxRecDepth 100000 in
theorem k106_53 {X : mX} {D : Nat}   (x4 : Int32) (y1 : Int32) (s : zS) (r : zS) (o0 : Option Value) (o2 : Option Value) (o3 : Option Value)  (h : f106_53  x4 y1 s = some r) : Ev X (D + 2) mm106 53 [o0, some (.ref 13), o2, o3, some (.int x4)] [.int y1, .ref 13] (mk s) (encV r) := by
  unfold f106_53 at h
  obtain ⟨s1, hq, h⟩ := zb0_some h
  refine Ev.call (M' := mm70) (v := none) (h' := mk s1) rfl rfl rfl (Nat.le_of_ble_eq_true rfl) (k70 hq) ?_
  refine Ev.run (pc' := 62) (ls' := [o0, some (.ref 13), o2, o3, some (.int x4)]) (st' := [.int (zi 0), .int (zi 2), .long (zI2L x4), .ref 13]) (h' := mk s1) 5 rfl ?_
  obtain ⟨s2, hq, h⟩ := zb0_some h
  refine Ev.call (M' := mm78) (v := none) (h' := mk s2) rfl rfl rfl (Nat.le_of_ble_eq_true rfl) (k78 hq) ?_
  cases h
  exact Ev.fin rfl rfl
def f106  (x3 : Int32) (s : zS) : Option (zS) := zb1 (f118 (zi 0) s) (fun v2 s1 => zb0 (f70 ((zi 48) + v2) s1) (fun s3 => zb0 (f107 (zi 1) x3 s3) (fun s4 => zb0 (f70 (zi 101) s4) (fun s5 => if ((r117 s4) - (zi 1)) ≥ zi 0 then f106_53 ((r117 s4) - (zi 1)) (zi 43) s5 else f106_53 ((r117 s4) - (zi 1)) (zi 45) s5))))
set_option maxRecDepth 100000 in
theorem k106 {X : mX} {D : Nat} {x3 : Int32} {s : zS} {r : zS}  (h : f106 x3 s = some r) : Ev X (D + 2) mm106 0 [some (.ref 15), some (.ref 13), some (.ref 7), some (.int x3), none] [] (mk s) (encV r) := by
  unfold f106 at h
  refine Ev.run (pc' := 8) (ls' := [some (.ref 15), some (.ref 13), some (.ref 7), some (.int x3), none]) (st' := [.int (zi 0), .ref 16, .int (zi 48), .ref 13]) (h' := mk s) 5 rfl ?_
  obtain ⟨v2, s1, hq, h⟩ := zb1_some h
  refine Ev.call (M' := mm118) (v := some (.int v2)) (h' := mk s1) rfl rfl rfl (Nat.le_of_ble_eq_true rfl) (k118 hq) ?_
  refine Ev.run (pc' := 12) (ls' := [some (.ref 15), some (.ref 13), some (.ref 7), some (.int x3), none]) (st' := [.int ((zi 48) + v2), .ref 13]) (h' := mk s1) 1 rfl ?_
  obtain ⟨s3, hq, h⟩ := zb0_some h
  refine Ev.call (M' := mm70) (v := none) (h' := mk s3) rfl rfl rfl (Nat.le_of_ble_eq_true rfl) (k70 hq) ?_
  refine Ev.run (pc' := 20) (ls' := [some (.ref 15), some (.ref 13), some (.ref 7), some (.int x3), none]) (st' := [.int x3, .int (zi 1), .ref 7, .ref 13, .ref 15]) (h' := mk s3) 5 rfl ?_
  obtain ⟨s4, hq, h⟩ := zb0_some h
  refine Ev.call (M' := mm107) (v := none) (h' := mk s4) rfl rfl rfl (Nat.le_of_ble_eq_true rfl) (k107 hq) ?_
  refine Ev.run (pc' := 27) (ls' := [some (.ref 15), some (.ref 13), some (.ref 7), some (.int x3), none]) (st' := [.ref 16]) (h' := mk s4) 2 rfl ?_
  refine Ev.call (M' := mm117) (v := some (.int (r117 s4))) (h' := mk s4) rfl rfl rfl (Nat.le_of_ble_eq_true rfl) (k117  (s := s4) (v := r117 s4)  rfl) ?_
  refine Ev.run (pc' := 37) (ls' := [some (.ref 15), some (.ref 13), some (.ref 7), some (.int x3), some (.int ((r117 s4) - (zi 1)))]) (st' := [.int (zi 101), .ref 13]) (h' := mk s4) 5 rfl ?_
  obtain ⟨s5, hq, h⟩ := zb0_some h
  refine Ev.call (M' := mm70) (v := none) (h' := mk s5) rfl rfl rfl (Nat.le_of_ble_eq_true rfl) (k70 hq) ?_
  refine Ev.run (pc' := 43) (ls' := [some (.ref 15), some (.ref 13), some (.ref 7), some (.int x3), some (.int ((r117 s4) - (zi 1)))]) (st' := [.int ((r117 s4) - (zi 1)), .ref 13]) (h' := mk s5) 2 rfl ?_
  refine Ev.if_ge (t := 51) rfl rfl (fun hb => ?_) (fun hb => ?_)
  · have h := (if_pos hb).symm.trans h
    refine Ev.run (pc' := 53) (ls' := [some (.ref 15), some (.ref 13), some (.ref 7), some (.int x3), some (.int ((r117 s4) - (zi 1)))]) (st' := [.int (zi 43), .ref 13]) (h' := mk s5) 1 rfl ?_
    exact k106_53 ((r117 s4) - (zi 1)) (zi 43) s5 _ _ _ _ h
  · have h := (if_neg hb).symm.trans h
    refine Ev.run (pc' := 53) (ls' := [some (.ref 15), some (.ref 13), some (.ref 7), some (.int x3), some (.int ((r117 s4) - (zi 1)))]) (st' := [.int (zi 45), .ref 13]) (h' := mk s5) 2 rfl ?_
    exact k106_53 ((r117 s4) - (zi 1)) (zi 45) s5 _ _ _ _ h
/-! 105 F$RealWriter.writeFixed(LFormatPress$Piece;LFormatPress$Spec;I)V -/
def b105_23 (rec23 : Int32 → Int32 → Int32 → zS → Option (zS)) (x3 : Int32) (x4 : Int32) (x5 : Int32) (s : zS) : Option (zS) := if x5 ≥ x4 then zb0 (f107 x4 x3 s) (fun s1 => some s1) else zb1 (f118 x5 s) (fun v3 s2 => zb0 (f70 ((zi 48) + v3) s2) (fun s4 => if (r51 (zi 32) s4) = zi 0 then rec23 x3 x4 (x5 + zi 1) s4 else if ((x4 - (zi 1)) - x5) ≤ zi 0 then rec23 x3 x4 (x5 + zi 1) s4 else if ¬ (zrem ((x4 - (zi 1)) - x5) (zi 3)) = zi 0 then rec23 x3 x4 (x5 + zi 1) s4 else zb0 (f70 (zi 44) s4) (fun s5 => rec23 x3 x4 (x5 + zi 1) s5)))
set_option maxRecDepth 100000 in
theorem kb105_23 {X : mX} {D : Nat} {rec23 : Int32 → Int32 → Int32 → zS → Option (zS)} (hrec23 : ∀ (x3 : Int32) (x4 : Int32) (x5 : Int32) (s : zS) (r : zS) (o6 : Option Value), rec23 x3 x4 x5 s = some r → Ev X (D + 2) mm105 23 [some (.ref 15), some (.ref 13), some (.ref 7), some (.int x3), some (.int x4), some (.int x5), o6] [] (mk s) (encV r)) (x3 : Int32) (x4 : Int32) (x5 : Int32) (s : zS) (r : zS) (o6 : Option Value)  (h : b105_23 rec23 x3 x4 x5 s = some r) : Ev X (D + 2) mm105 23 [some (.ref 15), some (.ref 13), some (.ref 7), some (.int x3), some (.int x4), some (.int x5), o6] [] (mk s) (encV r) := by
  unfold b105_23 at h
  refine Ev.run (pc' := 27) (ls' := [some (.ref 15), some (.ref 13), some (.ref 7), some (.int x3), some (.int x4), some (.int x5), o6]) (st' := [.int x4, .int x5]) (h' := mk s) 2 rfl ?_
  refine Ev.icmp_ge (t := 88) rfl rfl (fun hb => ?_) (fun hb => ?_)
  · have h := (if_pos hb).symm.trans h
    refine Ev.run (pc' := 94) (ls' := [some (.ref 15), some (.ref 13), some (.ref 7), some (.int x3), some (.int x4), some (.int x5), o6]) (st' := [.int x3, .int x4, .ref 7, .ref 13, .ref 15]) (h' := mk s) 5 rfl ?_
    obtain ⟨s1, hq, h⟩ := zb0_some h
    refine Ev.call (M' := mm107) (v := none) (h' := mk s1) rfl rfl rfl (Nat.le_of_ble_eq_true rfl) (k107 hq) ?_
    cases h
    exact Ev.fin rfl rfl
  · have h := (if_neg hb).symm.trans h
    refine Ev.run (pc' := 39) (ls' := [some (.ref 15), some (.ref 13), some (.ref 7), some (.int x3), some (.int x4), some (.int x5), o6]) (st' := [.int x5, .ref 16, .int (zi 48), .ref 13]) (h' := mk s) 5 rfl ?_
    obtain ⟨v3, s2, hq, h⟩ := zb1_some h
    refine Ev.call (M' := mm118) (v := some (.int v3)) (h' := mk s2) rfl rfl rfl (Nat.le_of_ble_eq_true rfl) (k118 hq) ?_
    refine Ev.run (pc' := 43) (ls' := [some (.ref 15), some (.ref 13), some (.ref 7), some (.int x3), some (.int x4), some (.int x5), o6]) (st' := [.int ((zi 48) + v3), .ref 13]) (h' := mk s2) 1 rfl ?_
    obtain ⟨s4, hq, h⟩ := zb0_some h
    refine Ev.call (M' := mm70) (v := none) (h' := mk s4) rfl rfl rfl (Nat.le_of_ble_eq_true rfl) (k70 hq) ?_
    refine Ev.run (pc' := 58) (ls' := [some (.ref 15), some (.ref 13), some (.ref 7), some (.int x3), some (.int x4), some (.int x5), some (.int ((x4 - (zi 1)) - x5))]) (st' := [.int (zi 32), .ref 7]) (h' := mk s4) 8 rfl ?_
    refine Ev.call (M' := mm51) (v := some (.int (r51 (zi 32) s4))) (h' := mk s4) rfl rfl rfl (Nat.le_of_ble_eq_true rfl) (k51 (x1 := (zi 32)) (s := s4) (v := r51 (zi 32) s4)  rfl) ?_
    refine Ev.if_eq (t := 82) rfl rfl (fun hb => ?_) (fun hb => ?_)
    · have h := (if_pos hb).symm.trans h
      refine Ev.run (pc' := 23) (ls' := [some (.ref 15), some (.ref 13), some (.ref 7), some (.int x3), some (.int x4), some (.int (x5 + zi 1)), some (.int ((x4 - (zi 1)) - x5))]) (st' := []) (h' := mk s4) 2 rfl ?_
      exact hrec23 x3 x4 (x5 + zi 1) s4 _ _ h
    · have h := (if_neg hb).symm.trans h
      refine Ev.run (pc' := 66) (ls' := [some (.ref 15), some (.ref 13), some (.ref 7), some (.int x3), some (.int x4), some (.int x5), some (.int ((x4 - (zi 1)) - x5))]) (st' := [.int ((x4 - (zi 1)) - x5)]) (h' := mk s4) 1 rfl ?_
      refine Ev.if_le (t := 82) rfl rfl (fun hb => ?_) (fun hb => ?_)
      · have h := (if_pos hb).symm.trans h
        refine Ev.run (pc' := 23) (ls' := [some (.ref 15), some (.ref 13), some (.ref 7), some (.int x3), some (.int x4), some (.int (x5 + zi 1)), some (.int ((x4 - (zi 1)) - x5))]) (st' := []) (h' := mk s4) 2 rfl ?_
        exact hrec23 x3 x4 (x5 + zi 1) s4 _ _ h
      · have h := (if_neg hb).symm.trans h
        refine Ev.run (pc' := 73) (ls' := [some (.ref 15), some (.ref 13), some (.ref 7), some (.int x3), some (.int x4), some (.int x5), some (.int ((x4 - (zi 1)) - x5))]) (st' := [.int (zrem ((x4 - (zi 1)) - x5) (zi 3))]) (h' := mk s4) 3 rfl ?_
        refine Ev.if_ne (t := 82) rfl rfl (fun hb => ?_) (fun hb => ?_)
        · have h := (if_pos hb).symm.trans h
          refine Ev.run (pc' := 23) (ls' := [some (.ref 15), some (.ref 13), some (.ref 7), some (.int x3), some (.int x4), some (.int (x5 + zi 1)), some (.int ((x4 - (zi 1)) - x5))]) (st' := []) (h' := mk s4) 2 rfl ?_
          exact hrec23 x3 x4 (x5 + zi 1) s4 _ _ h
        · have h := (if_neg hb).symm.trans h
          refine Ev.run (pc' := 79) (ls' := [some (.ref 15), some (.ref 13), some (.ref 7), some (.int x3), some (.int x4), some (.int x5), some (.int ((x4 - (zi 1)) - x5))]) (st' := [.int (zi 44), .ref 13]) (h' := mk s4) 2 rfl ?_
          obtain ⟨s5, hq, h⟩ := zb0_some h
          refine Ev.call (M' := mm70) (v := none) (h' := mk s5) rfl rfl rfl (Nat.le_of_ble_eq_true rfl) (k70 hq) ?_
          refine Ev.run (pc' := 23) (ls' := [some (.ref 15), some (.ref 13), some (.ref 7), some (.int x3), some (.int x4), some (.int (x5 + zi 1)), some (.int ((x4 - (zi 1)) - x5))]) (st' := []) (h' := mk s5) 2 rfl ?_
          exact hrec23 x3 x4 (x5 + zi 1) s5 _ _ h
def f105_23  : Nat → Int32 → Int32 → Int32 → zS → Option (zS)
  | 0, _, _, _, _ => none
  | n + 1, x3, x4, x5, s => b105_23 (f105_23 n) x3 x4 x5 s
set_option maxRecDepth 100000 in
theorem k105_23 {X : mX} {D : Nat}   (n : Nat) : ∀ (x3 : Int32) (x4 : Int32) (x5 : Int32) (s : zS) (r : zS) (o6 : Option Value), f105_23  n x3 x4 x5 s = some r → Ev X (D + 2) mm105 23 [some (.ref 15), some (.ref 13), some (.ref 7), some (.int x3), some (.int x4), some (.int x5), o6] [] (mk s) (encV r) := by
  induction n with
  | zero => intro x3 x4 x5 s r o6  h; cases h
  | succ n ih => intro x3 x4 x5 s r o6  h; exact kb105_23  ih x3 x4 x5 s r o6  h
def f105  (x3 : Int32) (s : zS) : Option (zS) := if (r117 s) > zi 0 then f105_23 zF x3 (r117 s) (zi 0) s else zb0 (f70 (zi 48) s) (fun s1 => f105_23 zF x3 (r117 s) (zi 0) s1)
set_option maxRecDepth 100000 in
theorem k105 {X : mX} {D : Nat} {x3 : Int32} {s : zS} {r : zS}  (h : f105 x3 s = some r) : Ev X (D + 2) mm105 0 [some (.ref 15), some (.ref 13), some (.ref 7), some (.int x3), none, none, none] [] (mk s) (encV r) := by
  unfold f105 at h
  refine Ev.run (pc' := 4) (ls' := [some (.ref 15), some (.ref 13), some (.ref 7), some (.int x3), none, none, none]) (st' := [.ref 16]) (h' := mk s) 2 rfl ?_
  refine Ev.call (M' := mm117) (v := some (.int (r117 s))) (h' := mk s) rfl rfl rfl (Nat.le_of_ble_eq_true rfl) (k117  (s := s) (v := r117 s)  rfl) ?_
  refine Ev.run (pc' := 11) (ls' := [some (.ref 15), some (.ref 13), some (.ref 7), some (.int x3), some (.int (r117 s)), none, none]) (st' := [.int (r117 s)]) (h' := mk s) 2 rfl ?_
  refine Ev.if_gt (t := 20) rfl rfl (fun hb => ?_) (fun hb => ?_)
  · have h := (if_pos hb).symm.trans h
    refine Ev.run (pc' := 23) (ls' := [some (.ref 15), some (.ref 13), some (.ref 7), some (.int x3), some (.int (r117 s)), some (.int (zi 0)), none]) (st' := []) (h' := mk s) 2 rfl ?_
    exact k105_23 zF x3 (r117 s) (zi 0) s _ _ h
  · have h := (if_neg hb).symm.trans h
    refine Ev.run (pc' := 17) (ls' := [some (.ref 15), some (.ref 13), some (.ref 7), some (.int x3), some (.int (r117 s)), none, none]) (st' := [.int (zi 48), .ref 13]) (h' := mk s) 2 rfl ?_
    obtain ⟨s1, hq, h⟩ := zb0_some h
    refine Ev.call (M' := mm70) (v := none) (h' := mk s1) rfl rfl rfl (Nat.le_of_ble_eq_true rfl) (k70 hq) ?_
    refine Ev.run (pc' := 23) (ls' := [some (.ref 15), some (.ref 13), some (.ref 7), some (.int x3), some (.int (r117 s)), some (.int (zi 0)), none]) (st' := []) (h' := mk s1) 2 rfl ?_
    exact k105_23 zF x3 (r117 s) (zi 0) s1 _ _ h
/-! 104 F$RealWriter.writeDecimal(LFormatPress$Piece;LFormatPress$Spec;)V -/
def f104_134  (x4 : Int32) (s : zS) : Option (zS) := zb0 (f106 (x4 - (zi 1)) s) (fun s1 => some s1)
set_option maxRecDepth 100000 in
theorem k104_134 {X : mX} {D : Nat}   (x4 : Int32) (s : zS) (r : zS) (o3 : Option Value) (o5 : Option Value)  (h : f104_134  x4 s = some r) : Ev X (D + 3) mm104 134 [some (.ref 15), some (.ref 13), some (.ref 7), o3, some (.int x4), o5] [] (mk s) (encV r) := by
  unfold f104_134 at h
  refine Ev.run (pc' := 141) (ls' := [some (.ref 15), some (.ref 13), some (.ref 7), o3, some (.int x4), o5]) (st' := [.int (x4 - (zi 1)), .ref 7, .ref 13, .ref 15]) (h' := mk s) 6 rfl ?_
  obtain ⟨s1, hq, h⟩ := zb0_some h
  refine Ev.call (M' := mm106) (v := none) (h' := mk s1) rfl rfl rfl (Nat.le_of_ble_eq_true rfl) (k106 hq) ?_
  cases h
  exact Ev.fin rfl rfl
def f104_16  (y0 : Int32) (s : zS) : Option (zS) := if ¬ (r54 s) = (zi 101) then if ¬ (r54 s) = (zi 102) then zb0 (f119 (r264 y0 (zi 1) s) s) (fun s1 => if ((r117 s1) - (zi 1)) < (zi (-4)) then f104_134 (r264 y0 (zi 1) s) s1 else if ((r117 s1) - (zi 1)) ≥ (r264 y0 (zi 1) s) then f104_134 (r264 y0 (zi 1) s) s1 else zb0 (f105 (((r264 y0 (zi 1) s) - (zi 1)) - ((r117 s1) - (zi 1))) s1) (fun s2 => some s2)) else zb0 (f119 ((r117 s) + y0) s) (fun s3 => zb0 (f105 y0 s3) (fun s4 => some s4)) else zb0 (f119 (y0 + (zi 1)) s) (fun s5 => zb0 (f106 y0 s5) (fun s6 => some s6))
set_option maxRecDepth 100000 in
theorem k104_16 {X : mX} {D : Nat}   (y0 : Int32) (s : zS) (r : zS) (o3 : Option Value) (o4 : Option Value) (o5 : Option Value)  (h : f104_16  y0 s = some r) : Ev X (D + 3) mm104 16 [some (.ref 15), some (.ref 13), some (.ref 7), o3, o4, o5] [.int y0] (mk s) (encV r) := by
  unfold f104_16 at h
  refine Ev.run (pc' := 18) (ls' := [some (.ref 15), some (.ref 13), some (.ref 7), some (.int y0), o4, o5]) (st' := [.ref 7]) (h' := mk s) 2 rfl ?_
  refine Ev.call (M' := mm54) (v := some (.int (r54 s))) (h' := mk s) rfl rfl rfl (Nat.le_of_ble_eq_true rfl) (k54  (s := s) (v := r54 s)  rfl) ?_
  refine Ev.run (pc' := 23) (ls' := [some (.ref 15), some (.ref 13), some (.ref 7), some (.int y0), o4, o5]) (st' := [.int (zi 101), .int (r54 s)]) (h' := mk s) 1 rfl ?_
  refine Ev.icmp_ne (t := 44) rfl rfl (fun hb => ?_) (fun hb => ?_)
  · have h := (if_pos hb).symm.trans h
    refine Ev.run (pc' := 45) (ls' := [some (.ref 15), some (.ref 13), some (.ref 7), some (.int y0), o4, o5]) (st' := [.ref 7]) (h' := mk s) 1 rfl ?_
    refine Ev.call (M' := mm54) (v := some (.int (r54 s))) (h' := mk s) rfl rfl rfl (Nat.le_of_ble_eq_true rfl) (k54  (s := s) (v := r54 s)  rfl) ?_
    refine Ev.run (pc' := 50) (ls' := [some (.ref 15), some (.ref 13), some (.ref 7), some (.int y0), o4, o5]) (st' := [.int (zi 102), .int (r54 s)]) (h' := mk s) 1 rfl ?_
    refine Ev.icmp_ne (t := 77) rfl rfl (fun hb => ?_) (fun hb => ?_)
    · have h := (if_pos hb).symm.trans h
      refine Ev.run (pc' := 79) (ls' := [some (.ref 15), some (.ref 13), some (.ref 7), some (.int y0), o4, o5]) (st' := [.int (zi 1), .int y0]) (h' := mk s) 2 rfl ?_
      refine Ev.call (M' := mm264) (v := some (.int (r264 y0 (zi 1) s))) (h' := mk s) rfl rfl rfl (Nat.le_of_ble_eq_true rfl) (k264 (x0 := y0) (x1 := (zi 1)) (s := s) (v := r264 y0 (zi 1) s)  rfl) ?_
      refine Ev.run (pc' := 90) (ls' := [some (.ref 15), some (.ref 13), some (.ref 7), some (.int y0), some (.int (r264 y0 (zi 1) s)), o5]) (st' := [.int (r264 y0 (zi 1) s), .ref 16]) (h' := mk s) 4 rfl ?_
      obtain ⟨s1, hq, h⟩ := zb0_some h
      refine Ev.call (M' := mm119) (v := none) (h' := mk s1) rfl rfl rfl (Nat.le_of_ble_eq_true rfl) (k119 hq) ?_
      refine Ev.run (pc' := 97) (ls' := [some (.ref 15), some (.ref 13), some (.ref 7), some (.int y0), some (.int (r264 y0 (zi 1) s)), o5]) (st' := [.ref 16]) (h' := mk s1) 2 rfl ?_
      refine Ev.call (M' := mm117) (v := some (.int (r117 s1))) (h' := mk s1) rfl rfl rfl (Nat.le_of_ble_eq_true rfl) (k117  (s := s1) (v := r117 s1)  rfl) ?_
      refine Ev.run (pc' := 108) (ls' := [some (.ref 15), some (.ref 13), some (.ref 7), some (.int y0), some (.int (r264 y0 (zi 1) s)), some (.int ((r117 s1) - (zi 1)))]) (st' := [.int (zi (-4)), .int ((r117 s1) - (zi 1))]) (h' := mk s1) 5 rfl ?_
      refine Ev.icmp_lt (t := 134) rfl rfl (fun hb => ?_) (fun hb => ?_)
      · have h := (if_pos hb).symm.trans h
        exact k104_134 (r264 y0 (zi 1) s) s1 _ _ _ h
      · have h := (if_neg hb).symm.trans h
        refine Ev.run (pc' := 115) (ls' := [some (.ref 15), some (.ref 13), some (.ref 7), some (.int y0), some (.int (r264 y0 (zi 1) s)), some (.int ((r117 s1) - (zi 1)))]) (st' := [.int (r264 y0 (zi 1) s), .int ((r117 s1) - (zi 1))]) (h' := mk s1) 2 rfl ?_
        refine Ev.icmp_ge (t := 134) rfl rfl (fun hb => ?_) (fun hb => ?_)
        · have h := (if_pos hb).symm.trans h
          exact k104_134 (r264 y0 (zi 1) s) s1 _ _ _ h
        · have h := (if_neg hb).symm.trans h
          refine Ev.run (pc' := 128) (ls' := [some (.ref 15), some (.ref 13), some (.ref 7), some (.int y0), some (.int (r264 y0 (zi 1) s)), some (.int ((r117 s1) - (zi 1)))]) (st' := [.int (((r264 y0 (zi 1) s) - (zi 1)) - ((r117 s1) - (zi 1))), .ref 7, .ref 13, .ref 15]) (h' := mk s1) 8 rfl ?_
          obtain ⟨s2, hq, h⟩ := zb0_some h
          refine Ev.call (M' := mm105) (v := none) (h' := mk s2) rfl rfl rfl (Nat.le_of_ble_eq_true rfl) (k105 hq) ?_
          refine Ev.run (pc' := 144) (ls' := [some (.ref 15), some (.ref 13), some (.ref 7), some (.int y0), some (.int (r264 y0 (zi 1) s)), some (.int ((r117 s1) - (zi 1)))]) (st' := []) (h' := mk s2) 1 rfl ?_
          cases h
          exact Ev.fin rfl rfl
    · have h := (if_neg hb).symm.trans h
      refine Ev.run (pc' := 61) (ls' := [some (.ref 15), some (.ref 13), some (.ref 7), some (.int y0), o4, o5]) (st' := [.ref 16, .ref 16]) (h' := mk s) 4 rfl ?_
      refine Ev.call (M' := mm117) (v := some (.int (r117 s))) (h' := mk s) rfl rfl rfl (Nat.le_of_ble_eq_true rfl) (k117  (s := s) (v := r117 s)  rfl) ?_
      refine Ev.run (pc' := 66) (ls' := [some (.ref 15), some (.ref 13), some (.ref 7), some (.int y0), o4, o5]) (st' := [.int ((r117 s) + y0), .ref 16]) (h' := mk s) 2 rfl ?_
      obtain ⟨s3, hq, h⟩ := zb0_some h
      refine Ev.call (M' := mm119) (v := none) (h' := mk s3) rfl rfl rfl (Nat.le_of_ble_eq_true rfl) (k119 hq) ?_
      refine Ev.run (pc' := 73) (ls' := [some (.ref 15), some (.ref 13), some (.ref 7), some (.int y0), o4, o5]) (st' := [.int y0, .ref 7, .ref 13, .ref 15]) (h' := mk s3) 4 rfl ?_
      obtain ⟨s4, hq, h⟩ := zb0_some h
      refine Ev.call (M' := mm105) (v := none) (h' := mk s4) rfl rfl rfl (Nat.le_of_ble_eq_true rfl) (k105 hq) ?_
      cases h
      exact Ev.fin rfl rfl
  · have h := (if_neg hb).symm.trans h
    refine Ev.run (pc' := 33) (ls' := [some (.ref 15), some (.ref 13), some (.ref 7), some (.int y0), o4, o5]) (st' := [.int (y0 + (zi 1)), .ref 16]) (h' := mk s) 5 rfl ?_
    obtain ⟨s5, hq, h⟩ := zb0_some h
    refine Ev.call (M' := mm119) (v := none) (h' := mk s5) rfl rfl rfl (Nat.le_of_ble_eq_true rfl) (k119 hq) ?_
    refine Ev.run (pc' := 40) (ls' := [some (.ref 15), some (.ref 13), some (.ref 7), some (.int y0), o4, o5]) (st' := [.int y0, .ref 7, .ref 13, .ref 15]) (h' := mk s5) 4 rfl ?_
    obtain ⟨s6, hq, h⟩ := zb0_some h
    refine Ev.call (M' := mm106) (v := none) (h' := mk s6) rfl rfl rfl (Nat.le_of_ble_eq_true rfl) (k106 hq) ?_
    cases h
    exact Ev.fin rfl rfl
def f104   (s : zS) : Option (zS) := if (r53 s) ≥ zi 0 then f104_16 (r53 s) s else f104_16 (zi 6) s
set_option maxRecDepth 100000 in
theorem k104 {X : mX} {D : Nat}  {s : zS} {r : zS}  (h : f104  s = some r) : Ev X (D + 3) mm104 0 [some (.ref 15), some (.ref 13), some (.ref 7), none, none, none] [] (mk s) (encV r) := by
  unfold f104 at h
  refine Ev.run (pc' := 1) (ls' := [some (.ref 15), some (.ref 13), some (.ref 7), none, none, none]) (st' := [.ref 7]) (h' := mk s) 1 rfl ?_
  refine Ev.call (M' := mm53) (v := some (.int (r53 s))) (h' := mk s) rfl rfl rfl (Nat.le_of_ble_eq_true rfl) (k53  (s := s) (v := r53 s)  rfl) ?_
  refine Ev.if_ge (t := 12) rfl rfl (fun hb => ?_) (fun hb => ?_)
  · have h := (if_pos hb).symm.trans h
    refine Ev.run (pc' := 13) (ls' := [some (.ref 15), some (.ref 13), some (.ref 7), none, none, none]) (st' := [.ref 7]) (h' := mk s) 1 rfl ?_
    refine Ev.call (M' := mm53) (v := some (.int (r53 s))) (h' := mk s) rfl rfl rfl (Nat.le_of_ble_eq_true rfl) (k53  (s := s) (v := r53 s)  rfl) ?_
    exact k104_16 (r53 s) s _ _ _ _ h
  · have h := (if_neg hb).symm.trans h
    refine Ev.run (pc' := 16) (ls' := [some (.ref 15), some (.ref 13), some (.ref 7), none, none, none]) (st' := [.int (zi 6)]) (h' := mk s) 2 rfl ?_
    exact k104_16 (zi 6) s _ _ _ _ h
/-! 103 F$RealWriter.write(LFormatPress$Piece;LFormatPress$Spec;JZ)V -/
def f103_90   (s : zS) : Option (zS) := zb0 (f76 (s.1 15 2) s) (fun s1 => some s1)
set_option maxRecDepth 100000 in
theorem k103_90 {X : mX} {D : Nat}    (s : zS) (r : zS) (o3 : Option Value) (o4 : Option Value) (o5 : Option Value)  (h : f103_90   s = some r) : Ev X (D + 8) mm103 90 [some (.ref 15), some (.ref 13), some (.ref 7), o3, o4, o5] [] (mk s) (encV r) := by
  unfold f103_90 at h
  refine Ev.run (pc' := 96) (ls' := [some (.ref 15), some (.ref 13), some (.ref 7), o3, o4, o5]) (st' := [.ref 7, .int (s.1 15 2), .ref 13]) (h' := mk s) 4 rfl ?_
  obtain ⟨s1, hq, h⟩ := zb0_some h
  refine Ev.call (M' := mm76) (v := none) (h' := mk s1) rfl rfl rfl (Nat.le_of_ble_eq_true rfl) (k76 hq) ?_
  cases h
  exact Ev.fin rfl rfl
def f103  (x3 : Int64) (x5 : Int32) (s : zS) : Option (zS) := zb0 (f100 x3 x5 s) (fun s1 => if (s1.1 15 3) = zi 0 then zb0 (f75 (s1.1 15 2) s1) (fun s2 => if (s2.1 15 4) = zi 0 then if ¬ (r54 s2) = (zi 97) then zb0 (f77 s2) (fun s3 => zb0 (f113 (s3.2.1 15 5) (s3.1 15 6) s3) (fun s4 => zb0 (f104 s4) (fun s5 => f103_90 s5))) else zb0 (f108 s2) (fun s6 => f103_90 s6) else zb0 (f71 18 s2) (fun s7 => f103_90 s7)) else zb0 (f71 17 s1) (fun s8 => some s8))
set_option maxRecDepth 100000 in
theorem k103 {X : mX} {D : Nat} {x3 : Int64} {x5 : Int32} {s : zS} {r : zS}  (h : f103 x3 x5 s = some r) : Ev X (D + 8) mm103 0 [some (.ref 15), some (.ref 13), some (.ref 7), some (.long x3), none, some (.int x5)] [] (mk s) (encV r) := by
  unfold f103 at h
  refine Ev.run (pc' := 4) (ls' := [some (.ref 15), some (.ref 13), some (.ref 7), some (.long x3), none, some (.int x5)]) (st' := [.int x5, .long x3, .ref 15]) (h' := mk s) 3 rfl ?_
  obtain ⟨s1, hq, h⟩ := zb0_some h
  refine Ev.call (M' := mm100) (v := none) (h' := mk s1) rfl rfl rfl (Nat.le_of_ble_eq_true rfl) (k100 hq) ?_
  refine Ev.run (pc' := 11) (ls' := [some (.ref 15), some (.ref 13), some (.ref 7), some (.long x3), none, some (.int x5)]) (st' := [.int (s1.1 15 3)]) (h' := mk s1) 2 rfl ?_
  refine Ev.if_eq (t := 21) rfl rfl (fun hb => ?_) (fun hb => ?_)
  · have h := (if_pos hb).symm.trans h
    refine Ev.run (pc' := 27) (ls' := [some (.ref 15), some (.ref 13), some (.ref 7), some (.long x3), none, some (.int x5)]) (st' := [.ref 7, .int (s1.1 15 2), .ref 13]) (h' := mk s1) 4 rfl ?_
    obtain ⟨s2, hq, h⟩ := zb0_some h
    refine Ev.call (M' := mm75) (v := none) (h' := mk s2) rfl rfl rfl (Nat.le_of_ble_eq_true rfl) (k75 hq) ?_
    refine Ev.run (pc' := 34) (ls' := [some (.ref 15), some (.ref 13), some (.ref 7), some (.long x3), none, some (.int x5)]) (st' := [.int (s2.1 15 4)]) (h' := mk s2) 2 rfl ?_
    refine Ev.if_eq (t := 46) rfl rfl (fun hb => ?_) (fun hb => ?_)
    · have h := (if_pos hb).symm.trans h
      refine Ev.run (pc' := 47) (ls' := [some (.ref 15), some (.ref 13), some (.ref 7), some (.long x3), none, some (.int x5)]) (st' := [.ref 7]) (h' := mk s2) 1 rfl ?_
      refine Ev.call (M' := mm54) (v := some (.int (r54 s2))) (h' := mk s2) rfl rfl rfl (Nat.le_of_ble_eq_true rfl) (k54  (s := s2) (v := r54 s2)  rfl) ?_
      refine Ev.run (pc' := 52) (ls' := [some (.ref 15), some (.ref 13), some (.ref 7), some (.long x3), none, some (.int x5)]) (st' := [.int (zi 97), .int (r54 s2)]) (h' := mk s2) 1 rfl ?_
      refine Ev.icmp_ne (t := 64) rfl rfl (fun hb => ?_) (fun hb => ?_)
      · have h := (if_pos hb).symm.trans h
        refine Ev.run (pc' := 66) (ls' := [some (.ref 15), some (.ref 13), some (.ref 7), some (.long x3), none, some (.int x5)]) (st' := [.ref 7, .ref 13]) (h' := mk s2) 2 rfl ?_
        obtain ⟨s3, hq, h⟩ := zb0_some h
        refine Ev.call (M' := mm77) (v := none) (h' := mk s3) rfl rfl rfl (Nat.le_of_ble_eq_true rfl) (k77 hq) ?_
        refine Ev.run (pc' := 81) (ls' := [some (.ref 15), some (.ref 13), some (.ref 7), some (.long x3), none, some (.int x5)]) (st' := [.int (s3.1 15 6), .long (s3.2.1 15 5), .ref 16]) (h' := mk s3) 6 rfl ?_
        obtain ⟨s4, hq, h⟩ := zb0_some h
        refine Ev.call (M' := mm113) (v := none) (h' := mk s4) rfl rfl rfl (Nat.le_of_ble_eq_true rfl) (k113 hq) ?_
        refine Ev.run (pc' := 87) (ls' := [some (.ref 15), some (.ref 13), some (.ref 7), some (.long x3), none, some (.int x5)]) (st' := [.ref 7, .ref 13, .ref 15]) (h' := mk s4) 3 rfl ?_
        obtain ⟨s5, hq, h⟩ := zb0_some h
        refine Ev.call (M' := mm104) (v := none) (h' := mk s5) rfl rfl rfl (Nat.le_of_ble_eq_true rfl) (k104 hq) ?_
        exact k103_90 s5 _ _ _ _ h
      · have h := (if_neg hb).symm.trans h
        refine Ev.run (pc' := 58) (ls' := [some (.ref 15), some (.ref 13), some (.ref 7), some (.long x3), none, some (.int x5)]) (st' := [.ref 7, .ref 13, .ref 15]) (h' := mk s2) 3 rfl ?_
        obtain ⟨s6, hq, h⟩ := zb0_some h
        refine Ev.call (M' := mm108) (v := none) (h' := mk s6) rfl rfl rfl (Nat.le_of_ble_eq_true rfl) (k108 hq) ?_
        refine Ev.run (pc' := 90) (ls' := [some (.ref 15), some (.ref 13), some (.ref 7), some (.long x3), none, some (.int x5)]) (st' := []) (h' := mk s6) 1 rfl ?_
        exact k103_90 s6 _ _ _ _ h
    · have h := (if_neg hb).symm.trans h
      refine Ev.run (pc' := 40) (ls' := [some (.ref 15), some (.ref 13), some (.ref 7), some (.long x3), none, some (.int x5)]) (st' := [.ref (mRO + 3 + 2 * 18), .ref 13]) (h' := mk s2) 2 rfl ?_
      obtain ⟨s7, hq, h⟩ := zb0_some h
      refine Ev.call (M' := mm71) (v := none) (h' := mk s7) rfl rfl rfl (Nat.le_of_ble_eq_true rfl) (k71 (by decide) hq) ?_
      refine Ev.run (pc' := 90) (ls' := [some (.ref 15), some (.ref 13), some (.ref 7), some (.long x3), none, some (.int x5)]) (st' := []) (h' := mk s7) 1 rfl ?_
      exact k103_90 s7 _ _ _ _ h
  · have h := (if_neg hb).symm.trans h
    refine Ev.run (pc' := 17) (ls' := [some (.ref 15), some (.ref 13), some (.ref 7), some (.long x3), none, some (.int x5)]) (st' := [.ref (mRO + 3 + 2 * 17), .ref 13]) (h' := mk s1) 2 rfl ?_
    obtain ⟨s8, hq, h⟩ := zb0_some h
    refine Ev.call (M' := mm71) (v := none) (h' := mk s8) rfl rfl rfl (Nat.le_of_ble_eq_true rfl) (k71 (by decide) hq) ?_
    cases h
    exact Ev.fin rfl rfl
/-! 64 F$Composer.writeArgument()V -/
def f64_319  (y3 : Int64) (y4 : Int32) (s : zS) : Option (zS) := zb0 (f103 y3 y4 s) (fun s1 => some s1)
set_option maxRecDepth 100000 in
theorem k64_319 {X : mX} {D : Nat}   (y3 : Int64) (y4 : Int32) (s : zS) (r : zS) (o0 : Option Value)  (h : f64_319  y3 y4 s = some r) : Ev X (D + 10) mm64 319 [o0] [.int y4, .long y3, .ref 7, .ref 13, .ref 15] (mk s) (encV r) := by
  unfold f64_319 at h
  obtain ⟨s1, hq, h⟩ := zb0_some h
  refine Ev.call (M' := mm103) (v := none) (h' := mk s1) rfl rfl rfl (Nat.le_of_ble_eq_true rfl) (k103 hq) ?_
  cases h
  exact Ev.fin rfl rfl
def f64_188  (d1 : Nat) (s : zS) : Option (zS) := zb0 (f71 d1 s) (fun s1 => zb0 (f83 (r53 s1) s1) (fun s2 => some s2))
set_option maxRecDepth 100000 in
theorem k64_188 {X : mX} {D : Nat}   (d1 : Nat) (s : zS) (r : zS)  (hd1 : d1 < 78) (h : f64_188  d1 s = some r) : Ev X (D + 10) mm64 188 [some (.ref 12)] [.ref (mRO + 3 + 2 * d1), .ref 13] (mk s) (encV r) := by
  unfold f64_188 at h
  obtain ⟨s1, hq, h⟩ := zb0_some h
  refine Ev.call (M' := mm71) (v := none) (h' := mk s1) rfl rfl rfl (Nat.le_of_ble_eq_true rfl) (k71 hd1 hq) ?_
  refine Ev.run (pc' := 199) (ls' := [some (.ref 12)]) (st' := [.ref 7, .ref 13]) (h' := mk s1) 4 rfl ?_
  refine Ev.call (M' := mm53) (v := some (.int (r53 s1))) (h' := mk s1) rfl rfl rfl (Nat.le_of_ble_eq_true rfl) (k53  (s := s1) (v := r53 s1)  rfl) ?_
  obtain ⟨s2, hq, h⟩ := zb0_some h
  refine Ev.call (M' := mm83) (v := none) (h' := mk s2) rfl rfl rfl (Nat.le_of_ble_eq_true rfl) (k83 hq) ?_
  cases h
  exact Ev.fin rfl rfl
def f64_30  (d1 : Nat) (s : zS) : Option (zS) := zb0 (f71 d1 s) (fun s1 => zb0 (f83 (r53 s1) s1) (fun s2 => some s2))
set_option maxRecDepth 100000 in
theorem k64_30 {X : mX} {D : Nat}   (d1 : Nat) (s : zS) (r : zS)  (hd1 : d1 < 78) (h : f64_30  d1 s = some r) : Ev X (D + 10) mm64 30 [some (.ref 12)] [.ref (mRO + 3 + 2 * d1), .ref 13] (mk s) (encV r) := by
  unfold f64_30 at h
  obtain ⟨s1, hq, h⟩ := zb0_some h
  refine Ev.call (M' := mm71) (v := none) (h' := mk s1) rfl rfl rfl (Nat.le_of_ble_eq_true rfl) (k71 hd1 hq) ?_
  refine Ev.run (pc' := 41) (ls' := [some (.ref 12)]) (st' := [.ref 7, .ref 13]) (h' := mk s1) 4 rfl ?_
  refine Ev.call (M' := mm53) (v := some (.int (r53 s1))) (h' := mk s1) rfl rfl rfl (Nat.le_of_ble_eq_true rfl) (k53  (s := s1) (v := r53 s1)  rfl) ?_
  obtain ⟨s2, hq, h⟩ := zb0_some h
  refine Ev.call (M' := mm83) (v := none) (h' := mk s2) rfl rfl rfl (Nat.le_of_ble_eq_true rfl) (k83 hq) ?_
  cases h
  exact Ev.fin rfl rfl
def f64   (s : zS) : Option (zS) := if ¬ (s.1 12 8) = zi 0 then if (r54 s) = zi 98 then if ¬ (s.1 12 8) = (zi 1) then f64_188 16 s else if ¬ (s.2.1 12 9) = (zl 0) then f64_188 16 s else f64_188 14 s else if (r54 s) = zi 99 then zb0 (f81 (zL2I (s.2.1 12 9)) s) (fun s1 => some s1) else if (r54 s) = zi 100 then zb0 (f66 s) (fun s2 => some s2) else if (r54 s) = zi 111 then zb0 (f67 22 (zi 3) s) (fun s3 => some s3) else if (r54 s) = zi 115 then zb0 (f65 s) (fun s4 => zb0 (f83 (r53 s4) s4) (fun s5 => some s5)) else if (r54 s) = zi 116 then zb0 (f87 (s.2.1 12 9) s) (fun s6 => zb0 (f90 (r56 s6) s6) (fun s7 => some s7)) else if (r54 s) = zi 120 then zb0 (f67 23 (zi 4) s) (fun s8 => some s8) else if ¬ (s.1 12 8) = (zi 8) then f64_319 (s.2.1 12 9) (zi 0) s else f64_319 (s.2.1 12 9) (zi 1) s else if ¬ (r54 s) = (zi 98) then f64_30 15 s else f64_30 14 s
set_option maxRecDepth 100000 in
theorem k64 {X : mX} {D : Nat}  {s : zS} {r : zS}  (h : f64  s = some r) : Ev X (D + 10) mm64 0 [some (.ref 12)] [] (mk s) (encV r) := by
  unfold f64 at h
  refine Ev.run (pc' := 4) (ls' := [some (.ref 12)]) (st' := [.int (s.1 12 8)]) (h' := mk s) 2 rfl ?_
  refine Ev.if_ne (t := 48) rfl rfl (fun hb => ?_) (fun hb => ?_)
  · have h := (if_pos hb).symm.trans h
    refine Ev.run (pc' := 52) (ls' := [some (.ref 12)]) (st' := [.ref 7]) (h' := mk s) 2 rfl ?_
    refine Ev.call (M' := mm54) (v := some (.int (r54 s))) (h' := mk s) rfl rfl rfl (Nat.le_of_ble_eq_true rfl) (k54  (s := s) (v := r54 s)  rfl) ?_
    by_cases hb : (r54 s) = zi 98
    · have h := (if_pos hb).symm.trans h
      refine Ev.tsw (t := 160) (k := 98) rfl hb (by rfl) ?_
      refine Ev.run (pc' := 169) (ls' := [some (.ref 12)]) (st' := [.int (zi 1), .int (s.1 12 8), .ref 13]) (h' := mk s) 5 rfl ?_
      refine Ev.icmp_ne (t := 186) rfl rfl (fun hb => ?_) (fun hb => ?_)
      · have h := (if_pos hb).symm.trans h
        refine Ev.run (pc' := 188) (ls' := [some (.ref 12)]) (st' := [.ref (mRO + 3 + 2 * 16), .ref 13]) (h' := mk s) 1 rfl ?_
        exact k64_188 16 s _ (by decide) h
      · have h := (if_neg hb).symm.trans h
        refine Ev.run (pc' := 178) (ls' := [some (.ref 12)]) (st' := [.int (lg_cmp (s.2.1 12 9) (zl 0)), .ref 13]) (h' := mk s) 4 rfl ?_
        refine Ev.ifl_ne (t := 186) rfl rfl (fun hb => ?_) (fun hb => ?_)
        · have h := (if_pos hb).symm.trans h
          refine Ev.run (pc' := 188) (ls' := [some (.ref 12)]) (st' := [.ref (mRO + 3 + 2 * 16), .ref 13]) (h' := mk s) 1 rfl ?_
          exact k64_188 16 s _ (by decide) h
        · have h := (if_neg hb).symm.trans h
          refine Ev.run (pc' := 188) (ls' := [some (.ref 12)]) (st' := [.ref (mRO + 3 + 2 * 14), .ref 13]) (h' := mk s) 2 rfl ?_
          exact k64_188 14 s _ (by decide) h
    have h := (if_neg hb).symm.trans h
    have n_98 := hb
    clear hb
    by_cases hb : (r54 s) = zi 99
    · have h := (if_pos hb).symm.trans h
      refine Ev.tsw (t := 225) (k := 99) rfl hb (by rfl) ?_
      refine Ev.run (pc' := 234) (ls' := [some (.ref 12)]) (st' := [.int (zL2I (s.2.1 12 9)), .ref 13]) (h' := mk s) 5 rfl ?_
      obtain ⟨s1, hq, h⟩ := zb0_some h
      refine Ev.call (M' := mm81) (v := none) (h' := mk s1) rfl rfl rfl (Nat.le_of_ble_eq_true rfl) (k81 hq) ?_
      cases h
      exact Ev.fin rfl rfl
    have h := (if_neg hb).symm.trans h
    have n_99 := hb
    clear hb
    by_cases hb : (r54 s) = zi 100
    · have h := (if_pos hb).symm.trans h
      refine Ev.tsw (t := 238) (k := 100) rfl hb (by rfl) ?_
      refine Ev.run (pc' := 239) (ls' := [some (.ref 12)]) (st' := [.ref 12]) (h' := mk s) 1 rfl ?_
      obtain ⟨s2, hq, h⟩ := zb0_some h
      refine Ev.call (M' := mm66) (v := none) (h' := mk s2) rfl rfl rfl (Nat.le_of_ble_eq_true rfl) (k66 hq) ?_
      cases h
      exact Ev.fin rfl rfl
    have h := (if_neg hb).symm.trans h
    have n_100 := hb
    clear hb
    by_cases hb : (r54 s) = zi 111
    · have h := (if_pos hb).symm.trans h
      refine Ev.tsw (t := 243) (k := 111) rfl hb (by rfl) ?_
      refine Ev.run (pc' := 247) (ls' := [some (.ref 12)]) (st' := [.int (zi 3), .ref (mRO + 3 + 2 * 22), .ref 12]) (h' := mk s) 3 rfl ?_
      obtain ⟨s3, hq, h⟩ := zb0_some h
      refine Ev.call (M' := mm67) (v := none) (h' := mk s3) rfl rfl rfl (Nat.le_of_ble_eq_true rfl) (k67 (by decide) hq) ?_
      cases h
      exact Ev.fin rfl rfl
    have h := (if_neg hb).symm.trans h
    have n_111 := hb
    clear hb
    by_cases hb : (r54 s) = zi 115
    · have h := (if_pos hb).symm.trans h
      refine Ev.tsw (t := 206) (k := 115) rfl hb (by rfl) ?_
      refine Ev.run (pc' := 207) (ls' := [some (.ref 12)]) (st' := [.ref 12]) (h' := mk s) 1 rfl ?_
      obtain ⟨s4, hq, h⟩ := zb0_some h
      refine Ev.call (M' := mm65) (v := none) (h' := mk s4) rfl rfl rfl (Nat.le_of_ble_eq_true rfl) (k65 hq) ?_
      refine Ev.run (pc' := 218) (ls' := [some (.ref 12)]) (st' := [.ref 7, .ref 13]) (h' := mk s4) 4 rfl ?_
      refine Ev.call (M' := mm53) (v := some (.int (r53 s4))) (h' := mk s4) rfl rfl rfl (Nat.le_of_ble_eq_true rfl) (k53  (s := s4) (v := r53 s4)  rfl) ?_
      obtain ⟨s5, hq, h⟩ := zb0_some h
      refine Ev.call (M' := mm83) (v := none) (h' := mk s5) rfl rfl rfl (Nat.le_of_ble_eq_true rfl) (k83 hq) ?_
      cases h
      exact Ev.fin rfl rfl
    have h := (if_neg hb).symm.trans h
    have n_115 := hb
    clear hb
    by_cases hb : (r54 s) = zi 116
    · have h := (if_pos hb).symm.trans h
      refine Ev.tsw (t := 259) (k := 116) rfl hb (by rfl) ?_
      refine Ev.run (pc' := 267) (ls' := [some (.ref 12)]) (st' := [.long (s.2.1 12 9), .ref 20]) (h' := mk s) 4 rfl ?_
      obtain ⟨s6, hq, h⟩ := zb0_some h
      refine Ev.call (M' := mm87) (v := none) (h' := mk s6) rfl rfl rfl (Nat.le_of_ble_eq_true rfl) (k87 hq) ?_
      refine Ev.run (pc' := 282) (ls' := [some (.ref 12)]) (st' := [.ref 7, .ref 13, .ref 20]) (h' := mk s6) 6 rfl ?_
      refine Ev.call (M' := mm56) (v := some (.int (r56 s6))) (h' := mk s6) rfl rfl rfl (Nat.le_of_ble_eq_true rfl) (k56  (s := s6) (v := r56 s6)  rfl) ?_
      obtain ⟨s7, hq, h⟩ := zb0_some h
      refine Ev.call (M' := mm90) (v := none) (h' := mk s7) rfl rfl rfl (Nat.le_of_ble_eq_true rfl) (k90 hq) ?_
      cases h
      exact Ev.fin rfl rfl
    have h := (if_neg hb).symm.trans h
    have n_116 := hb
    clear hb
    by_cases hb : (r54 s) = zi 120
    · have h := (if_pos hb).symm.trans h
      refine Ev.tsw (t := 251) (k := 120) rfl hb (by rfl) ?_
      refine Ev.run (pc' := 255) (ls' := [some (.ref 12)]) (st' := [.int (zi 4), .ref (mRO + 3 + 2 * 23), .ref 12]) (h' := mk s) 3 rfl ?_
      obtain ⟨s8, hq, h⟩ := zb0_some h
      refine Ev.call (M' := mm67) (v := none) (h' := mk s8) rfl rfl rfl (Nat.le_of_ble_eq_true rfl) (k67 (by decide) hq) ?_
      cases h
      exact Ev.fin rfl rfl
    have h := (if_neg hb).symm.trans h
    have n_120 := hb
    clear hb
    refine Ev.tswd (t := 289) rfl (by rfl) (by decide) (fun q hq hx => ?_) ?_
    · have hq : q < 23 := hq
      have hq2 : q = 0 ∨ q = 1 ∨ q = 2 ∨ q = 3 ∨ q = 4 ∨ q = 5 ∨ q = 6 ∨ q = 7 ∨ q = 8 ∨ q = 9 ∨ q = 10 ∨ q = 11 ∨ q = 12 ∨ q = 13 ∨ q = 14 ∨ q = 15 ∨ q = 16 ∨ q = 17 ∨ q = 18 ∨ q = 19 ∨ q = 20 ∨ q = 21 ∨ q = 22 := by omega
      rcases hq2 with rfl | rfl | rfl | rfl | rfl | rfl | rfl | rfl | rfl | rfl | rfl | rfl | rfl | rfl | rfl | rfl | rfl | rfl | rfl | rfl | rfl | rfl | rfl
      · exact absurd (zi_of_toInt hx) n_98
      · exact absurd (zi_of_toInt hx) n_99
      · exact absurd (zi_of_toInt hx) n_100
      · exact ⟨_, rfl, rfl⟩
      · exact ⟨_, rfl, rfl⟩
      · exact ⟨_, rfl, rfl⟩
      · exact ⟨_, rfl, rfl⟩
      · exact ⟨_, rfl, rfl⟩
      · exact ⟨_, rfl, rfl⟩
      · exact ⟨_, rfl, rfl⟩
      · exact ⟨_, rfl, rfl⟩
      · exact ⟨_, rfl, rfl⟩
      · exact ⟨_, rfl, rfl⟩
      · exact absurd (zi_of_toInt hx) n_111
      · exact ⟨_, rfl, rfl⟩
      · exact ⟨_, rfl, rfl⟩
      · exact ⟨_, rfl, rfl⟩
      · exact absurd (zi_of_toInt hx) n_115
      · exact absurd (zi_of_toInt hx) n_116
      · exact ⟨_, rfl, rfl⟩
      · exact ⟨_, rfl, rfl⟩
      · exact ⟨_, rfl, rfl⟩
      · exact absurd (zi_of_toInt hx) n_120
    · refine Ev.run (pc' := 311) (ls' := [some (.ref 12)]) (st' := [.int (zi 8), .int (s.1 12 8), .long (s.2.1 12 9), .ref 7, .ref 13, .ref 15]) (h' := mk s) 11 rfl ?_
      refine Ev.icmp_ne (t := 318) rfl rfl (fun hb => ?_) (fun hb => ?_)
      · have h := (if_pos hb).symm.trans h
        refine Ev.run (pc' := 319) (ls' := [some (.ref 12)]) (st' := [.int (zi 0), .long (s.2.1 12 9), .ref 7, .ref 13, .ref 15]) (h' := mk s) 1 rfl ?_
        exact k64_319 (s.2.1 12 9) (zi 0) s _ _ h
      · have h := (if_neg hb).symm.trans h
        refine Ev.run (pc' := 319) (ls' := [some (.ref 12)]) (st' := [.int (zi 1), .long (s.2.1 12 9), .ref 7, .ref 13, .ref 15]) (h' := mk s) 2 rfl ?_
        exact k64_319 (s.2.1 12 9) (zi 1) s _ _ h
  · have h := (if_neg hb).symm.trans h
    refine Ev.run (pc' := 15) (ls' := [some (.ref 12)]) (st' := [.ref 7, .ref 13]) (h' := mk s) 4 rfl ?_
    refine Ev.call (M' := mm54) (v := some (.int (r54 s))) (h' := mk s) rfl rfl rfl (Nat.le_of_ble_eq_true rfl) (k54  (s := s) (v := r54 s)  rfl) ?_
    refine Ev.run (pc' := 20) (ls' := [some (.ref 12)]) (st' := [.int (zi 98), .int (r54 s), .ref 13]) (h' := mk s) 1 rfl ?_
    refine Ev.icmp_ne (t := 28) rfl rfl (fun hb => ?_) (fun hb => ?_)
    · have h := (if_pos hb).symm.trans h
      refine Ev.run (pc' := 30) (ls' := [some (.ref 12)]) (st' := [.ref (mRO + 3 + 2 * 15), .ref 13]) (h' := mk s) 1 rfl ?_
      exact k64_30 15 s _ (by decide) h
    · have h := (if_neg hb).symm.trans h
      refine Ev.run (pc' := 30) (ls' := [some (.ref 12)]) (st' := [.ref (mRO + 3 + 2 * 14), .ref 13]) (h' := mk s) 2 rfl ?_
      exact k64_30 14 s _ (by decide) h
/-! 55 F$Spec.capital()Z -/
def f55   (s : zS) : Option (Int32 × zS) := if mBit (s.1 7 8) then some (s.1 7 8, s) else none
set_option maxRecDepth 100000 in
theorem k55 {X : mX} {D : Nat}  {s : zS} {r : Int32 × zS}  (h : f55  s = some r) : Ev X D mm55 0 [some (.ref 7)] [] (mk s) (encI r) := by
  unfold f55 at h
  refine Ev.run (pc' := 4) (ls' := [some (.ref 7)]) (st' := [.int (s.1 7 8)]) (h' := mk s) 2 rfl ?_
  obtain ⟨hx, h⟩ := zif h
  cases h
  exact Ev.finB rfl rfl hx
/-! 84 F$Piece.toCapitals()V -/
def b84_2 (rec2 : Int32 → zS → Option (zS)) (x1 : Int32) (s : zS) : Option (zS) := if x1 ≥ (s.1 13 1) then some s else if mIx x1 1600 then if (s.1 14 x1.toNatClampNeg) < (zi 97) then rec2 (x1 + zi 1) s else if mIx x1 1600 then if (s.1 14 x1.toNatClampNeg) > (zi 122) then rec2 (x1 + zi 1) s else if mIx x1 1600 then if mIx x1 1600 then rec2 (x1 + zi 1) (setB s 14 x1.toNatClampNeg (zI2B (zI2B ((s.1 14 x1.toNatClampNeg) + (zi (-32)))))) else none else none else none else none
set_option maxRecDepth 100000 in
theorem kb84_2 {X : mX} {D : Nat} {rec2 : Int32 → zS → Option (zS)} (hrec2 : ∀ (x1 : Int32) (s : zS) (r : zS) , rec2 x1 s = some r → Ev X D mm84 2 [some (.ref 13), some (.int x1)] [] (mk s) (encV r)) (x1 : Int32) (s : zS) (r : zS)   (h : b84_2 rec2 x1 s = some r) : Ev X D mm84 2 [some (.ref 13), some (.int x1)] [] (mk s) (encV r) := by
  unfold b84_2 at h
  refine Ev.run (pc' := 7) (ls' := [some (.ref 13), some (.int x1)]) (st' := [.int (s.1 13 1), .int x1]) (h' := mk s) 3 rfl ?_
  refine Ev.icmp_ge (t := 50) rfl rfl (fun hb => ?_) (fun hb => ?_)
  · have h := (if_pos hb).symm.trans h
    cases h
    exact Ev.fin rfl rfl
  · have h := (if_neg hb).symm.trans h
    refine Ev.run (pc' := 15) (ls' := [some (.ref 13), some (.int x1)]) (st' := [.int x1, .ref 14]) (h' := mk s) 3 rfl ?_
    obtain ⟨hx, h⟩ := zif h
    refine Ev.step (pc' := 16) rfl (ald_b rfl hx) ?_
    refine Ev.run (pc' := 18) (ls' := [some (.ref 13), some (.int x1)]) (st' := [.int (zi 97), .int (s.1 14 x1.toNatClampNeg)]) (h' := mk s) 1 rfl ?_
    refine Ev.icmp_lt (t := 44) rfl rfl (fun hb => ?_) (fun hb => ?_)
    · have h := (if_pos hb).symm.trans h
      refine Ev.run (pc' := 2) (ls' := [some (.ref 13), some (.int (x1 + zi 1))]) (st' := []) (h' := mk s) 2 rfl ?_
      exact hrec2 (x1 + zi 1) s _ h
    · have h := (if_neg hb).symm.trans h
      refine Ev.run (pc' := 26) (ls' := [some (.ref 13), some (.int x1)]) (st' := [.int x1, .ref 14]) (h' := mk s) 3 rfl ?_
      obtain ⟨hx, h⟩ := zif h
      refine Ev.step (pc' := 27) rfl (ald_b rfl hx) ?_
      refine Ev.run (pc' := 29) (ls' := [some (.ref 13), some (.int x1)]) (st' := [.int (zi 122), .int (s.1 14 x1.toNatClampNeg)]) (h' := mk s) 1 rfl ?_
      refine Ev.icmp_gt (t := 44) rfl rfl (fun hb => ?_) (fun hb => ?_)
      · have h := (if_pos hb).symm.trans h
        refine Ev.run (pc' := 2) (ls' := [some (.ref 13), some (.int (x1 + zi 1))]) (st' := []) (h' := mk s) 2 rfl ?_
        exact hrec2 (x1 + zi 1) s _ h
      · have h := (if_neg hb).symm.trans h
        refine Ev.run (pc' := 38) (ls' := [some (.ref 13), some (.int x1)]) (st' := [.int x1, .ref 14, .int x1, .ref 14]) (h' := mk s) 4 rfl ?_
        obtain ⟨hx, h⟩ := zif h
        refine Ev.step (pc' := 39) rfl (ald_b rfl hx) ?_
        refine Ev.run (pc' := 43) (ls' := [some (.ref 13), some (.int x1)]) (st' := [.int (zI2B ((s.1 14 x1.toNatClampNeg) + (zi (-32)))), .int x1, .ref 14]) (h' := mk s) 3 rfl ?_
        obtain ⟨hx, h⟩ := zif h
        refine Ev.step (pc' := 44) rfl (ast_14 hx) ?_
        refine Ev.run (pc' := 2) (ls' := [some (.ref 13), some (.int (x1 + zi 1))]) (st' := []) (h' := mk (setB s 14 x1.toNatClampNeg (zI2B (zI2B ((s.1 14 x1.toNatClampNeg) + (zi (-32))))))) 2 rfl ?_
        exact hrec2 (x1 + zi 1) (setB s 14 x1.toNatClampNeg (zI2B (zI2B ((s.1 14 x1.toNatClampNeg) + (zi (-32)))))) _ h
def f84_2  : Nat → Int32 → zS → Option (zS)
  | 0, _, _ => none
  | n + 1, x1, s => b84_2 (f84_2 n) x1 s
set_option maxRecDepth 100000 in
theorem k84_2 {X : mX} {D : Nat}   (n : Nat) : ∀ (x1 : Int32) (s : zS) (r : zS) , f84_2  n x1 s = some r → Ev X D mm84 2 [some (.ref 13), some (.int x1)] [] (mk s) (encV r) := by
  induction n with
  | zero => intro x1 s r   h; cases h
  | succ n ih => intro x1 s r   h; exact kb84_2  ih x1 s r   h
def f84   (s : zS) : Option (zS) := f84_2 zF (zi 0) s
set_option maxRecDepth 100000 in
theorem k84 {X : mX} {D : Nat}  {s : zS} {r : zS}  (h : f84  s = some r) : Ev X D mm84 0 [some (.ref 13), none] [] (mk s) (encV r) := by
  unfold f84 at h
  refine Ev.run (pc' := 2) (ls' := [some (.ref 13), some (.int (zi 0))]) (st' := []) (h' := mk s) 2 rfl ?_
  exact k84_2 zF (zi 0) s _ h
/-! 52 F$Spec.width()I -/
def r52  (s : zS) : Int32 := s.1 7 4
set_option maxRecDepth 100000 in
theorem k52 {X : mX} {D : Nat}  {s : zS} {v : Int32} (h : r52  s = v) : Ev X D mm52 0 [some (.ref 7)] [] (mk s) (encI (v, s)) := by
  unfold r52 at h
  refine Ev.run (pc' := 4) (ls' := [some (.ref 7)]) (st' := [.int (s.1 7 4)]) (h' := mk s) 2 rfl ?_
  subst h
  exact Ev.fin rfl rfl
/-! 20 F$Line.addTimes(II)V -/
def b20_18 (aa : Nat) (rec18 : Int32 → Int32 → Int32 → zS → Option (zS)) (x1 : Int32) (x3 : Int32) (x4 : Int32) (s : zS) : Option (zS) := if x4 ≥ x3 then some s else zb0 (f19 aa x1 s) (fun s1 => rec18 x1 x3 (x4 + zi 1) s1)
set_option maxRecDepth 100000 in
theorem kb20_18 {X : mX} {D : Nat} {aa : Nat} {rec18 : Int32 → Int32 → Int32 → zS → Option (zS)} (haa : zLine aa) (hrec18 : ∀ (x1 : Int32) (x3 : Int32) (x4 : Int32) (s : zS) (r : zS) (o2 : Option Value), rec18 x1 x3 x4 s = some r → Ev X (D + 1) mm20 18 [some (.ref aa), some (.int x1), o2, some (.int x3), some (.int x4)] [] (mk s) (encV r)) (x1 : Int32) (x3 : Int32) (x4 : Int32) (s : zS) (r : zS) (o2 : Option Value)  (h : b20_18 aa rec18 x1 x3 x4 s = some r) : Ev X (D + 1) mm20 18 [some (.ref aa), some (.int x1), o2, some (.int x3), some (.int x4)] [] (mk s) (encV r) := by
  rcases haa with rfl | rfl | rfl
  · unfold b20_18 at h
    refine Ev.run (pc' := 21) (ls' := [some (.ref 1), some (.int x1), o2, some (.int x3), some (.int x4)]) (st' := [.int x3, .int x4]) (h' := mk s) 2 rfl ?_
    refine Ev.icmp_ge (t := 35) rfl rfl (fun hb => ?_) (fun hb => ?_)
    · have h := (if_pos hb).symm.trans h
      cases h
      exact Ev.fin rfl rfl
    · have h := (if_neg hb).symm.trans h
      refine Ev.run (pc' := 26) (ls' := [some (.ref 1), some (.int x1), o2, some (.int x3), some (.int x4)]) (st' := [.int x1, .ref 1]) (h' := mk s) 2 rfl ?_
      obtain ⟨s1, hq, h⟩ := zb0_some h
      refine Ev.call (M' := mm19) (v := none) (h' := mk s1) rfl rfl rfl (Nat.le_of_ble_eq_true rfl) (k19 (by decide) hq) ?_
      refine Ev.run (pc' := 18) (ls' := [some (.ref 1), some (.int x1), o2, some (.int x3), some (.int (x4 + zi 1))]) (st' := []) (h' := mk s1) 2 rfl ?_
      exact hrec18 x1 x3 (x4 + zi 1) s1 _ _ h
  · unfold b20_18 at h
    refine Ev.run (pc' := 21) (ls' := [some (.ref 3), some (.int x1), o2, some (.int x3), some (.int x4)]) (st' := [.int x3, .int x4]) (h' := mk s) 2 rfl ?_
    refine Ev.icmp_ge (t := 35) rfl rfl (fun hb => ?_) (fun hb => ?_)
    · have h := (if_pos hb).symm.trans h
      cases h
      exact Ev.fin rfl rfl
    · have h := (if_neg hb).symm.trans h
      refine Ev.run (pc' := 26) (ls' := [some (.ref 3), some (.int x1), o2, some (.int x3), some (.int x4)]) (st' := [.int x1, .ref 3]) (h' := mk s) 2 rfl ?_
      obtain ⟨s1, hq, h⟩ := zb0_some h
      refine Ev.call (M' := mm19) (v := none) (h' := mk s1) rfl rfl rfl (Nat.le_of_ble_eq_true rfl) (k19 (by decide) hq) ?_
      refine Ev.run (pc' := 18) (ls' := [some (.ref 3), some (.int x1), o2, some (.int x3), some (.int (x4 + zi 1))]) (st' := []) (h' := mk s1) 2 rfl ?_
      exact hrec18 x1 x3 (x4 + zi 1) s1 _ _ h
  · unfold b20_18 at h
    refine Ev.run (pc' := 21) (ls' := [some (.ref 5), some (.int x1), o2, some (.int x3), some (.int x4)]) (st' := [.int x3, .int x4]) (h' := mk s) 2 rfl ?_
    refine Ev.icmp_ge (t := 35) rfl rfl (fun hb => ?_) (fun hb => ?_)
    · have h := (if_pos hb).symm.trans h
      cases h
      exact Ev.fin rfl rfl
    · have h := (if_neg hb).symm.trans h
      refine Ev.run (pc' := 26) (ls' := [some (.ref 5), some (.int x1), o2, some (.int x3), some (.int x4)]) (st' := [.int x1, .ref 5]) (h' := mk s) 2 rfl ?_
      obtain ⟨s1, hq, h⟩ := zb0_some h
      refine Ev.call (M' := mm19) (v := none) (h' := mk s1) rfl rfl rfl (Nat.le_of_ble_eq_true rfl) (k19 (by decide) hq) ?_
      refine Ev.run (pc' := 18) (ls' := [some (.ref 5), some (.int x1), o2, some (.int x3), some (.int (x4 + zi 1))]) (st' := []) (h' := mk s1) 2 rfl ?_
      exact hrec18 x1 x3 (x4 + zi 1) s1 _ _ h
def f20_18 (aa : Nat)  : Nat → Int32 → Int32 → Int32 → zS → Option (zS)
  | 0, _, _, _, _ => none
  | n + 1, x1, x3, x4, s => b20_18 aa (f20_18 aa n) x1 x3 x4 s
set_option maxRecDepth 100000 in
theorem k20_18 {X : mX} {D : Nat} {aa : Nat}  (haa : zLine aa)  (n : Nat) : ∀ (x1 : Int32) (x3 : Int32) (x4 : Int32) (s : zS) (r : zS) (o2 : Option Value), f20_18 aa  n x1 x3 x4 s = some r → Ev X (D + 1) mm20 18 [some (.ref aa), some (.int x1), o2, some (.int x3), some (.int x4)] [] (mk s) (encV r) := by
  induction n with
  | zero => intro x1 x3 x4 s r o2  h; cases h
  | succ n ih => intro x1 x3 x4 s r o2  h; exact kb20_18 haa ih x1 x3 x4 s r o2  h
def f20 (aa : Nat)  (x1 : Int32) (x2 : Int32) (s : zS) : Option (zS) := f20_18 aa zF x1 (r265 x2 ((zi (zLen aa)) - (s.1 aa 1)) s) (zi 0) s
set_option maxRecDepth 100000 in
theorem k20 {X : mX} {D : Nat} {aa : Nat} {x1 : Int32} {x2 : Int32} {s : zS} {r : zS} (haa : zLine aa)  (h : f20 aa x1 x2 s = some r) : Ev X (D + 1) mm20 0 [some (.ref aa), some (.int x1), some (.int x2), none, none] [] (mk s) (encV r) := by
  rcases haa with rfl | rfl | rfl
  · unfold f20 at h
    refine Ev.run (pc' := 11) (ls' := [some (.ref 1), some (.int x1), some (.int x2), none, none]) (st' := [.int ((zi (zLen 1)) - (s.1 1 1)), .int x2]) (h' := mk s) 7 rfl ?_
    refine Ev.call (M' := mm265) (v := some (.int (r265 x2 ((zi (zLen 1)) - (s.1 1 1)) s))) (h' := mk s) rfl rfl rfl (Nat.le_of_ble_eq_true rfl) (k265 (x0 := x2) (x1 := ((zi (zLen 1)) - (s.1 1 1))) (s := s) (v := r265 x2 ((zi (zLen 1)) - (s.1 1 1)) s)  rfl) ?_
    refine Ev.run (pc' := 18) (ls' := [some (.ref 1), some (.int x1), some (.int x2), some (.int (r265 x2 ((zi (zLen 1)) - (s.1 1 1)) s)), some (.int (zi 0))]) (st' := []) (h' := mk s) 3 rfl ?_
    exact k20_18 (by decide) zF x1 (r265 x2 ((zi (zLen 1)) - (s.1 1 1)) s) (zi 0) s _ _ h
  · unfold f20 at h
    refine Ev.run (pc' := 11) (ls' := [some (.ref 3), some (.int x1), some (.int x2), none, none]) (st' := [.int ((zi (zLen 3)) - (s.1 3 1)), .int x2]) (h' := mk s) 7 rfl ?_
    refine Ev.call (M' := mm265) (v := some (.int (r265 x2 ((zi (zLen 3)) - (s.1 3 1)) s))) (h' := mk s) rfl rfl rfl (Nat.le_of_ble_eq_true rfl) (k265 (x0 := x2) (x1 := ((zi (zLen 3)) - (s.1 3 1))) (s := s) (v := r265 x2 ((zi (zLen 3)) - (s.1 3 1)) s)  rfl) ?_
    refine Ev.run (pc' := 18) (ls' := [some (.ref 3), some (.int x1), some (.int x2), some (.int (r265 x2 ((zi (zLen 3)) - (s.1 3 1)) s)), some (.int (zi 0))]) (st' := []) (h' := mk s) 3 rfl ?_
    exact k20_18 (by decide) zF x1 (r265 x2 ((zi (zLen 3)) - (s.1 3 1)) s) (zi 0) s _ _ h
  · unfold f20 at h
    refine Ev.run (pc' := 11) (ls' := [some (.ref 5), some (.int x1), some (.int x2), none, none]) (st' := [.int ((zi (zLen 5)) - (s.1 5 1)), .int x2]) (h' := mk s) 7 rfl ?_
    refine Ev.call (M' := mm265) (v := some (.int (r265 x2 ((zi (zLen 5)) - (s.1 5 1)) s))) (h' := mk s) rfl rfl rfl (Nat.le_of_ble_eq_true rfl) (k265 (x0 := x2) (x1 := ((zi (zLen 5)) - (s.1 5 1))) (s := s) (v := r265 x2 ((zi (zLen 5)) - (s.1 5 1)) s)  rfl) ?_
    refine Ev.run (pc' := 18) (ls' := [some (.ref 5), some (.int x1), some (.int x2), some (.int (r265 x2 ((zi (zLen 5)) - (s.1 5 1)) s)), some (.int (zi 0))]) (st' := []) (h' := mk s) 3 rfl ?_
    exact k20_18 (by decide) zF x1 (r265 x2 ((zi (zLen 5)) - (s.1 5 1)) s) (zi 0) s _ _ h
/-! 85 F$Piece.writeTo(LFormatPress$Line;IZ)Z -/
def b85_105 (rec105 : Int32 → Int32 → zS → Option (Int32 × zS)) (x5 : Int32) (x6 : Int32) (s : zS) : Option (Int32 × zS) := if x6 ≥ (s.1 13 1) then some (zi 1, s) else if mIx x6 1600 then zb0 (f19 5 (s.1 14 x6.toNatClampNeg) s) (fun s1 => rec105 x5 (x6 + zi 1) s1) else none
set_option maxRecDepth 100000 in
theorem kb85_105 {X : mX} {D : Nat} {rec105 : Int32 → Int32 → zS → Option (Int32 × zS)} (hrec105 : ∀ (x5 : Int32) (x6 : Int32) (s : zS) (r : Int32 × zS) (o2 : Option Value) (o3 : Option Value) (o4 : Option Value), rec105 x5 x6 s = some r → Ev X (D + 2) mm85 105 [some (.ref 13), some (.ref 5), o2, o3, o4, some (.int x5), some (.int x6)] [] (mk s) (encI r)) (x5 : Int32) (x6 : Int32) (s : zS) (r : Int32 × zS) (o2 : Option Value) (o3 : Option Value) (o4 : Option Value)  (h : b85_105 rec105 x5 x6 s = some r) : Ev X (D + 2) mm85 105 [some (.ref 13), some (.ref 5), o2, o3, o4, some (.int x5), some (.int x6)] [] (mk s) (encI r) := by
  unfold b85_105 at h
  refine Ev.run (pc' := 111) (ls' := [some (.ref 13), some (.ref 5), o2, o3, o4, some (.int x5), some (.int x6)]) (st' := [.int (s.1 13 1), .int x6]) (h' := mk s) 3 rfl ?_
  refine Ev.icmp_ge (t := 131) rfl rfl (fun hb => ?_) (fun hb => ?_)
  · have h := (if_pos hb).symm.trans h
    refine Ev.run (pc' := 132) (ls' := [some (.ref 13), some (.ref 5), o2, o3, o4, some (.int x5), some (.int x6)]) (st' := [.int (zi 1)]) (h' := mk s) 1 rfl ?_
    cases h
    exact Ev.fin rfl rfl
  · have h := (if_neg hb).symm.trans h
    refine Ev.run (pc' := 121) (ls' := [some (.ref 13), some (.ref 5), o2, o3, o4, some (.int x5), some (.int x6)]) (st' := [.int x6, .ref 14, .ref 5]) (h' := mk s) 4 rfl ?_
    obtain ⟨hx, h⟩ := zif h
    refine Ev.step (pc' := 122) rfl (ald_b rfl hx) ?_
    obtain ⟨s1, hq, h⟩ := zb0_some h
    refine Ev.call (M' := mm19) (v := none) (h' := mk s1) rfl rfl rfl (Nat.le_of_ble_eq_true rfl) (k19 (by decide) hq) ?_
    refine Ev.run (pc' := 105) (ls' := [some (.ref 13), some (.ref 5), o2, o3, o4, some (.int x5), some (.int (x6 + zi 1))]) (st' := []) (h' := mk s1) 2 rfl ?_
    exact hrec105 x5 (x6 + zi 1) s1 _ _ _ _ h
def f85_105  : Nat → Int32 → Int32 → zS → Option (Int32 × zS)
  | 0, _, _, _ => none
  | n + 1, x5, x6, s => b85_105 (f85_105 n) x5 x6 s
set_option maxRecDepth 100000 in
theorem k85_105 {X : mX} {D : Nat}   (n : Nat) : ∀ (x5 : Int32) (x6 : Int32) (s : zS) (r : Int32 × zS) (o2 : Option Value) (o3 : Option Value) (o4 : Option Value), f85_105  n x5 x6 s = some r → Ev X (D + 2) mm85 105 [some (.ref 13), some (.ref 5), o2, o3, o4, some (.int x5), some (.int x6)] [] (mk s) (encI r) := by
  induction n with
  | zero => intro x5 x6 s r o2 o3 o4  h; cases h
  | succ n ih => intro x5 x6 s r o2 o3 o4  h; exact kb85_105  ih x5 x6 s r o2 o3 o4  h
def f85_96  (x4 : Int32) (x5 : Int32) (y1 : Int32) (s : zS) : Option (Int32 × zS) := zb0 (f20 5 y1 x4 s) (fun s1 => f85_105 zF x5 x5 s1)
set_option maxRecDepth 100000 in
theorem k85_96 {X : mX} {D : Nat}   (x4 : Int32) (x5 : Int32) (y1 : Int32) (s : zS) (r : Int32 × zS) (o2 : Option Value) (o3 : Option Value) (o6 : Option Value)  (h : f85_96  x4 x5 y1 s = some r) : Ev X (D + 2) mm85 96 [some (.ref 13), some (.ref 5), o2, o3, some (.int x4), some (.int x5), o6] [.int y1, .ref 5] (mk s) (encI r) := by
  unfold f85_96 at h
  refine Ev.run (pc' := 98) (ls' := [some (.ref 13), some (.ref 5), o2, o3, some (.int x4), some (.int x5), o6]) (st' := [.int x4, .int y1, .ref 5]) (h' := mk s) 1 rfl ?_
  obtain ⟨s1, hq, h⟩ := zb0_some h
  refine Ev.call (M' := mm20) (v := none) (h' := mk s1) rfl rfl rfl (Nat.le_of_ble_eq_true rfl) (k20 (by decide) hq) ?_
  refine Ev.run (pc' := 105) (ls' := [some (.ref 13), some (.ref 5), o2, o3, some (.int x4), some (.int x5), some (.int x5)]) (st' := []) (h' := mk s1) 2 rfl ?_
  exact k85_105 zF x5 x5 s1 _ _ _ _ h
def b85_57 (rec57 : Int32 → Int32 → Int32 → zS → Option (Int32 × zS)) (x4 : Int32) (x5 : Int32) (x6 : Int32) (s : zS) : Option (Int32 × zS) := if x6 ≥ x5 then if (s.1 13 3) < zi 0 then f85_96 x4 x5 (zi 32) s else f85_96 x4 x5 (zi 48) s else if mIx x6 1600 then zb0 (f19 5 (s.1 14 x6.toNatClampNeg) s) (fun s1 => rec57 x4 x5 (x6 + zi 1) s1) else none
set_option maxRecDepth 100000 in
theorem kb85_57 {X : mX} {D : Nat} {rec57 : Int32 → Int32 → Int32 → zS → Option (Int32 × zS)} (hrec57 : ∀ (x4 : Int32) (x5 : Int32) (x6 : Int32) (s : zS) (r : Int32 × zS) (o2 : Option Value) (o3 : Option Value), rec57 x4 x5 x6 s = some r → Ev X (D + 2) mm85 57 [some (.ref 13), some (.ref 5), o2, o3, some (.int x4), some (.int x5), some (.int x6)] [] (mk s) (encI r)) (x4 : Int32) (x5 : Int32) (x6 : Int32) (s : zS) (r : Int32 × zS) (o2 : Option Value) (o3 : Option Value)  (h : b85_57 rec57 x4 x5 x6 s = some r) : Ev X (D + 2) mm85 57 [some (.ref 13), some (.ref 5), o2, o3, some (.int x4), some (.int x5), some (.int x6)] [] (mk s) (encI r) := by
  unfold b85_57 at h
  refine Ev.run (pc' := 61) (ls' := [some (.ref 13), some (.ref 5), o2, o3, some (.int x4), some (.int x5), some (.int x6)]) (st' := [.int x5, .int x6]) (h' := mk s) 2 rfl ?_
  refine Ev.icmp_ge (t := 81) rfl rfl (fun hb => ?_) (fun hb => ?_)
  · have h := (if_pos hb).symm.trans h
    refine Ev.run (pc' := 86) (ls' := [some (.ref 13), some (.ref 5), o2, o3, some (.int x4), some (.int x5), some (.int x6)]) (st' := [.int (s.1 13 3), .ref 5]) (h' := mk s) 3 rfl ?_
    refine Ev.if_lt (t := 94) rfl rfl (fun hb => ?_) (fun hb => ?_)
    · have h := (if_pos hb).symm.trans h
      refine Ev.run (pc' := 96) (ls' := [some (.ref 13), some (.ref 5), o2, o3, some (.int x4), some (.int x5), some (.int x6)]) (st' := [.int (zi 32), .ref 5]) (h' := mk s) 1 rfl ?_
      exact k85_96 x4 x5 (zi 32) s _ _ _ _ h
    · have h := (if_neg hb).symm.trans h
      refine Ev.run (pc' := 96) (ls' := [some (.ref 13), some (.ref 5), o2, o3, some (.int x4), some (.int x5), some (.int x6)]) (st' := [.int (zi 48), .ref 5]) (h' := mk s) 2 rfl ?_
      exact k85_96 x4 x5 (zi 48) s _ _ _ _ h
  · have h := (if_neg hb).symm.trans h
    refine Ev.run (pc' := 71) (ls' := [some (.ref 13), some (.ref 5), o2, o3, some (.int x4), some (.int x5), some (.int x6)]) (st' := [.int x6, .ref 14, .ref 5]) (h' := mk s) 4 rfl ?_
    obtain ⟨hx, h⟩ := zif h
    refine Ev.step (pc' := 72) rfl (ald_b rfl hx) ?_
    obtain ⟨s1, hq, h⟩ := zb0_some h
    refine Ev.call (M' := mm19) (v := none) (h' := mk s1) rfl rfl rfl (Nat.le_of_ble_eq_true rfl) (k19 (by decide) hq) ?_
    refine Ev.run (pc' := 57) (ls' := [some (.ref 13), some (.ref 5), o2, o3, some (.int x4), some (.int x5), some (.int (x6 + zi 1))]) (st' := []) (h' := mk s1) 2 rfl ?_
    exact hrec57 x4 x5 (x6 + zi 1) s1 _ _ _ h
def f85_57  : Nat → Int32 → Int32 → Int32 → zS → Option (Int32 × zS)
  | 0, _, _, _, _ => none
  | n + 1, x4, x5, x6, s => b85_57 (f85_57 n) x4 x5 x6 s
set_option maxRecDepth 100000 in
theorem k85_57 {X : mX} {D : Nat}   (n : Nat) : ∀ (x4 : Int32) (x5 : Int32) (x6 : Int32) (s : zS) (r : Int32 × zS) (o2 : Option Value) (o3 : Option Value), f85_57  n x4 x5 x6 s = some r → Ev X (D + 2) mm85 57 [some (.ref 13), some (.ref 5), o2, o3, some (.int x4), some (.int x5), some (.int x6)] [] (mk s) (encI r) := by
  induction n with
  | zero => intro x4 x5 x6 s r o2 o3  h; cases h
  | succ n ih => intro x4 x5 x6 s r o2 o3  h; exact kb85_57  ih x4 x5 x6 s r o2 o3  h
def f85  (x2 : Int32) (x3 : Int32) (s : zS) : Option (Int32 × zS) := if ¬ (r18 5 ((s.1 13 1) + (r264 (x2 - ((s.1 13 1) - (s.1 13 2))) (zi 0) s)) s) = zi 0 then if x3 = zi 0 then f85_57 zF (r264 (x2 - ((s.1 13 1) - (s.1 13 2))) (zi 0) s) (r264 (s.1 13 3) (zi 0) s) (zi 0) s else f85_57 zF (r264 (x2 - ((s.1 13 1) - (s.1 13 2))) (zi 0) s) (s.1 13 1) (zi 0) s else some (zi 0, s)
set_option maxRecDepth 100000 in
theorem k85 {X : mX} {D : Nat} {x2 : Int32} {x3 : Int32} {s : zS} {r : Int32 × zS}  (h : f85 x2 x3 s = some r) : Ev X (D + 2) mm85 0 [some (.ref 13), some (.ref 5), some (.int x2), some (.int x3), none, none, none] [] (mk s) (encI r) := by
  unfold f85 at h
  refine Ev.run (pc' := 12) (ls' := [some (.ref 13), some (.ref 5), some (.int x2), some (.int x3), none, none, none]) (st' := [.int (zi 0), .int (x2 - ((s.1 13 1) - (s.1 13 2)))]) (h' := mk s) 8 rfl ?_
  refine Ev.call (M' := mm264) (v := some (.int (r264 (x2 - ((s.1 13 1) - (s.1 13 2))) (zi 0) s))) (h' := mk s) rfl rfl rfl (Nat.le_of_ble_eq_true rfl) (k264 (x0 := (x2 - ((s.1 13 1) - (s.1 13 2)))) (x1 := (zi 0)) (s := s) (v := r264 (x2 - ((s.1 13 1) - (s.1 13 2))) (zi 0) s)  rfl) ?_
  refine Ev.run (pc' := 25) (ls' := [some (.ref 13), some (.ref 5), some (.int x2), some (.int x3), some (.int (r264 (x2 - ((s.1 13 1) - (s.1 13 2))) (zi 0) s)), none, none]) (st' := [.int ((s.1 13 1) + (r264 (x2 - ((s.1 13 1) - (s.1 13 2))) (zi 0) s)), .ref 5]) (h' := mk s) 6 rfl ?_
  refine Ev.call (M' := mm18) (v := some (.int (r18 5 ((s.1 13 1) + (r264 (x2 - ((s.1 13 1) - (s.1 13 2))) (zi 0) s)) s))) (h' := mk s) rfl rfl rfl (Nat.le_of_ble_eq_true rfl) (k18 (aa := 5) (x1 := ((s.1 13 1) + (r264 (x2 - ((s.1 13 1) - (s.1 13 2))) (zi 0) s))) (s := s) (v := r18 5 ((s.1 13 1) + (r264 (x2 - ((s.1 13 1) - (s.1 13 2))) (zi 0) s)) s) (by decide) rfl) ?_
  refine Ev.if_ne (t := 33) rfl rfl (fun hb => ?_) (fun hb => ?_)
  · have h := (if_pos hb).symm.trans h
    refine Ev.run (pc' := 34) (ls' := [some (.ref 13), some (.ref 5), some (.int x2), some (.int x3), some (.int (r264 (x2 - ((s.1 13 1) - (s.1 13 2))) (zi 0) s)), none, none]) (st' := [.int x3]) (h' := mk s) 1 rfl ?_
    refine Ev.if_eq (t := 44) rfl rfl (fun hb => ?_) (fun hb => ?_)
    · have h := (if_pos hb).symm.trans h
      refine Ev.run (pc' := 49) (ls' := [some (.ref 13), some (.ref 5), some (.int x2), some (.int x3), some (.int (r264 (x2 - ((s.1 13 1) - (s.1 13 2))) (zi 0) s)), none, none]) (st' := [.int (zi 0), .int (s.1 13 3)]) (h' := mk s) 3 rfl ?_
      refine Ev.call (M' := mm264) (v := some (.int (r264 (s.1 13 3) (zi 0) s))) (h' := mk s) rfl rfl rfl (Nat.le_of_ble_eq_true rfl) (k264 (x0 := (s.1 13 3)) (x1 := (zi 0)) (s := s) (v := r264 (s.1 13 3) (zi 0) s)  rfl) ?_
      refine Ev.run (pc' := 57) (ls' := [some (.ref 13), some (.ref 5), some (.int x2), some (.int x3), some (.int (r264 (x2 - ((s.1 13 1) - (s.1 13 2))) (zi 0) s)), some (.int (r264 (s.1 13 3) (zi 0) s)), some (.int (zi 0))]) (st' := []) (h' := mk s) 3 rfl ?_
      exact k85_57 zF (r264 (x2 - ((s.1 13 1) - (s.1 13 2))) (zi 0) s) (r264 (s.1 13 3) (zi 0) s) (zi 0) s _ _ _ h
    · have h := (if_neg hb).symm.trans h
      refine Ev.run (pc' := 57) (ls' := [some (.ref 13), some (.ref 5), some (.int x2), some (.int x3), some (.int (r264 (x2 - ((s.1 13 1) - (s.1 13 2))) (zi 0) s)), some (.int (s.1 13 1)), some (.int (zi 0))]) (st' := []) (h' := mk s) 6 rfl ?_
      exact k85_57 zF (r264 (x2 - ((s.1 13 1) - (s.1 13 2))) (zi 0) s) (s.1 13 1) (zi 0) s _ _ _ h
  · have h := (if_neg hb).symm.trans h
    refine Ev.run (pc' := 32) (ls' := [some (.ref 13), some (.ref 5), some (.int x2), some (.int x3), some (.int (r264 (x2 - ((s.1 13 1) - (s.1 13 2))) (zi 0) s)), none, none]) (st' := [.int (zi 0)]) (h' := mk s) 1 rfl ?_
    cases h
    exact Ev.fin rfl rfl
/-! 60 F$Composer.press()I -/
def f60_87   (s : zS) : Option (Int32 × zS) := zb1 (f85 (r52 s) (r51 (zi 1) s) s) (fun v2 s1 => if v2 = zi 0 then some (zi 11, s1) else some (zi 0, s1))
set_option maxRecDepth 100000 in
theorem k60_87 {X : mX} {D : Nat}    (s : zS) (r : Int32 × zS) (o1 : Option Value)  (h : f60_87   s = some r) : Ev X (D + 11) mm60 87 [some (.ref 12), o1] [] (mk s) (encI r) := by
  unfold f60_87 at h
  refine Ev.run (pc' := 99) (ls' := [some (.ref 12), o1]) (st' := [.ref 7, .ref 5, .ref 13]) (h' := mk s) 6 rfl ?_
  refine Ev.call (M' := mm52) (v := some (.int (r52 s))) (h' := mk s) rfl rfl rfl (Nat.le_of_ble_eq_true rfl) (k52  (s := s) (v := r52 s)  rfl) ?_
  refine Ev.run (pc' := 107) (ls' := [some (.ref 12), o1]) (st' := [.int (zi 1), .ref 7, .int (r52 s), .ref 5, .ref 13]) (h' := mk s) 3 rfl ?_
  refine Ev.call (M' := mm51) (v := some (.int (r51 (zi 1) s))) (h' := mk s) rfl rfl rfl (Nat.le_of_ble_eq_true rfl) (k51 (x1 := (zi 1)) (s := s) (v := r51 (zi 1) s)  rfl) ?_
  obtain ⟨v2, s1, hq, h⟩ := zb1_some h
  refine Ev.call (M' := mm85) (v := some (.int v2)) (h' := mk s1) rfl rfl rfl (Nat.le_of_ble_eq_true rfl) (k85 hq) ?_
  refine Ev.if_eq (t := 120) rfl rfl (fun hb => ?_) (fun hb => ?_)
  · have h := (if_pos hb).symm.trans h
    refine Ev.run (pc' := 122) (ls' := [some (.ref 12), o1]) (st' := [.int (zi 11)]) (h' := mk s1) 1 rfl ?_
    cases h
    exact Ev.fin rfl rfl
  · have h := (if_neg hb).symm.trans h
    refine Ev.run (pc' := 122) (ls' := [some (.ref 12), o1]) (st' := [.int (zi 0)]) (h' := mk s1) 2 rfl ?_
    cases h
    exact Ev.fin rfl rfl
def f60_70   (s : zS) : Option (Int32 × zS) := zb1 (f55 s) (fun v2 s1 => if v2 = zi 0 then f60_87 s1 else zb0 (f84 s1) (fun s3 => f60_87 s3))
set_option maxRecDepth 100000 in
theorem k60_70 {X : mX} {D : Nat}    (s : zS) (r : Int32 × zS) (o1 : Option Value)  (h : f60_70   s = some r) : Ev X (D + 11) mm60 70 [some (.ref 12), o1] [] (mk s) (encI r) := by
  unfold f60_70 at h
  refine Ev.run (pc' := 74) (ls' := [some (.ref 12), o1]) (st' := [.ref 7]) (h' := mk s) 2 rfl ?_
  obtain ⟨v2, s1, hq, h⟩ := zb1_some h
  refine Ev.call (M' := mm55) (v := some (.int v2)) (h' := mk s1) rfl rfl rfl (Nat.le_of_ble_eq_true rfl) (k55 hq) ?_
  refine Ev.if_eq (t := 87) rfl rfl (fun hb => ?_) (fun hb => ?_)
  · have h := (if_pos hb).symm.trans h
    exact k60_87 s1 _ _ h
  · have h := (if_neg hb).symm.trans h
    refine Ev.run (pc' := 84) (ls' := [some (.ref 12), o1]) (st' := [.ref 13]) (h' := mk s1) 2 rfl ?_
    obtain ⟨s3, hq, h⟩ := zb0_some h
    refine Ev.call (M' := mm84) (v := none) (h' := mk s3) rfl rfl rfl (Nat.le_of_ble_eq_true rfl) (k84 hq) ?_
    exact k60_87 s3 _ _ h
def f60   (s : zS) : Option (Int32 × zS) := zb0 (f69 s) (fun s1 => if ¬ (r54 s1) = (zi 37) then if ¬ (r54 s1) = (zi 110) then zb1 (f61 s1) (fun v3 s2 => if v3 = zi 0 then zb0 (f64 s2) (fun s4 => f60_70 s4) else some (v3, s2)) else zb0 (f70 (zi 10) s1) (fun s5 => f60_70 s5) else zb0 (f70 (zi 37) s1) (fun s6 => f60_70 s6))
set_option maxRecDepth 100000 in
theorem k60 {X : mX} {D : Nat}  {s : zS} {r : Int32 × zS}  (h : f60  s = some r) : Ev X (D + 11) mm60 0 [some (.ref 12), none] [] (mk s) (encI r) := by
  unfold f60 at h
  refine Ev.run (pc' := 4) (ls' := [some (.ref 12), none]) (st' := [.ref 13]) (h' := mk s) 2 rfl ?_
  obtain ⟨s1, hq, h⟩ := zb0_some h
  refine Ev.call (M' := mm69) (v := none) (h' := mk s1) rfl rfl rfl (Nat.le_of_ble_eq_true rfl) (k69 hq) ?_
  refine Ev.run (pc' := 11) (ls' := [some (.ref 12), none]) (st' := [.ref 7]) (h' := mk s1) 2 rfl ?_
  refine Ev.call (M' := mm54) (v := some (.int (r54 s1))) (h' := mk s1) rfl rfl rfl (Nat.le_of_ble_eq_true rfl) (k54  (s := s1) (v := r54 s1)  rfl) ?_
  refine Ev.run (pc' := 16) (ls' := [some (.ref 12), none]) (st' := [.int (zi 37), .int (r54 s1)]) (h' := mk s1) 1 rfl ?_
  refine Ev.icmp_ne (t := 31) rfl rfl (fun hb => ?_) (fun hb => ?_)
  · have h := (if_pos hb).symm.trans h
    refine Ev.run (pc' := 35) (ls' := [some (.ref 12), none]) (st' := [.ref 7]) (h' := mk s1) 2 rfl ?_
    refine Ev.call (M' := mm54) (v := some (.int (r54 s1))) (h' := mk s1) rfl rfl rfl (Nat.le_of_ble_eq_true rfl) (k54  (s := s1) (v := r54 s1)  rfl) ?_
    refine Ev.run (pc' := 40) (ls' := [some (.ref 12), none]) (st' := [.int (zi 110), .int (r54 s1)]) (h' := mk s1) 1 rfl ?_
    refine Ev.icmp_ne (t := 55) rfl rfl (fun hb => ?_) (fun hb => ?_)
    · have h := (if_pos hb).symm.trans h
      refine Ev.run (pc' := 56) (ls' := [some (.ref 12), none]) (st' := [.ref 12]) (h' := mk s1) 1 rfl ?_
      obtain ⟨v3, s2, hq, h⟩ := zb1_some h
      refine Ev.call (M' := mm61) (v := some (.int v3)) (h' := mk s2) rfl rfl rfl (Nat.le_of_ble_eq_true rfl) (k61 hq) ?_
      refine Ev.run (pc' := 61) (ls' := [some (.ref 12), some (.int v3)]) (st' := [.int v3]) (h' := mk s2) 2 rfl ?_
      refine Ev.if_eq (t := 66) rfl rfl (fun hb => ?_) (fun hb => ?_)
      · have h := (if_pos hb).symm.trans h
        refine Ev.run (pc' := 67) (ls' := [some (.ref 12), some (.int v3)]) (st' := [.ref 12]) (h' := mk s2) 1 rfl ?_
        obtain ⟨s4, hq, h⟩ := zb0_some h
        refine Ev.call (M' := mm64) (v := none) (h' := mk s4) rfl rfl rfl (Nat.le_of_ble_eq_true rfl) (k64 hq) ?_
        exact k60_70 s4 _ _ h
      · have h := (if_neg hb).symm.trans h
        refine Ev.run (pc' := 65) (ls' := [some (.ref 12), some (.int v3)]) (st' := [.int v3]) (h' := mk s2) 1 rfl ?_
        cases h
        exact Ev.fin rfl rfl
    · have h := (if_neg hb).symm.trans h
      refine Ev.run (pc' := 49) (ls' := [some (.ref 12), none]) (st' := [.int (zi 10), .ref 13]) (h' := mk s1) 3 rfl ?_
      obtain ⟨s5, hq, h⟩ := zb0_some h
      refine Ev.call (M' := mm70) (v := none) (h' := mk s5) rfl rfl rfl (Nat.le_of_ble_eq_true rfl) (k70 hq) ?_
      refine Ev.run (pc' := 70) (ls' := [some (.ref 12), none]) (st' := []) (h' := mk s5) 1 rfl ?_
      exact k60_70 s5 _ _ h
  · have h := (if_neg hb).symm.trans h
    refine Ev.run (pc' := 25) (ls' := [some (.ref 12), none]) (st' := [.int (zi 37), .ref 13]) (h' := mk s1) 3 rfl ?_
    obtain ⟨s6, hq, h⟩ := zb0_some h
    refine Ev.call (M' := mm70) (v := none) (h' := mk s6) rfl rfl rfl (Nat.le_of_ble_eq_true rfl) (k70 hq) ?_
    refine Ev.run (pc' := 70) (ls' := [some (.ref 12), none]) (st' := []) (h' := mk s6) 1 rfl ?_
    exact k60_70 s6 _ _ h
/-! 7 F.run()I -/
def f7_123 (rec39 : Int32 → zS → Option ((Int32 ⊕ Nat) × zS)) (x1 : Int32) (s : zS) : Option ((Int32 ⊕ Nat) × zS) := if (s.1 0 8) = zi 0 then rec39 (x1 + zi 1) s else zb0 (f21 5 s) (fun s1 => if s1.2.2 < 600000 then some (.inr 1, thr s1) else none)
set_option maxRecDepth 100000 in
theorem k7_123 {X : mX} {D : Nat} {rec39 : Int32 → zS → Option ((Int32 ⊕ Nat) × zS)} (hrec39 : ∀ (x1 : Int32) (s : zS) (r : (Int32 ⊕ Nat) × zS) , rec39 x1 s = some r → Ev X (D + 12) mm7 39 [some (.ref 0), some (.int x1)] [] (mk s) (encTI r)) (x1 : Int32) (s : zS) (r : (Int32 ⊕ Nat) × zS)   (h : f7_123 rec39 x1 s = some r) : Ev X (D + 12) mm7 123 [some (.ref 0), some (.int x1)] [] (mk s) (encTI r) := by
  unfold f7_123 at h
  refine Ev.run (pc' := 127) (ls' := [some (.ref 0), some (.int x1)]) (st' := [.int (s.1 0 8)]) (h' := mk s) 2 rfl ?_
  refine Ev.if_eq (t := 147) rfl rfl (fun hb => ?_) (fun hb => ?_)
  · have h := (if_pos hb).symm.trans h
    refine Ev.run (pc' := 39) (ls' := [some (.ref 0), some (.int (x1 + zi 1))]) (st' := []) (h' := mk s) 2 rfl ?_
    exact hrec39 (x1 + zi 1) s _ h
  · have h := (if_neg hb).symm.trans h
    refine Ev.run (pc' := 134) (ls' := [some (.ref 0), some (.int x1)]) (st' := [.ref 5]) (h' := mk s) 2 rfl ?_
    obtain ⟨s1, hq, h⟩ := zb0_some h
    refine Ev.call (M' := mm21) (v := none) (h' := mk s1) rfl rfl rfl (Nat.le_of_ble_eq_true rfl) (k21 (by decide) hq) ?_
    obtain ⟨hx, h⟩ := zif h
    cases h
    exact Ev.throws rfl rfl rfl rfl rfl rfl rfl rfl rfl (by decide) hx
def b7_39 (rec39 : Int32 → zS → Option ((Int32 ⊕ Nat) × zS)) (x1 : Int32) (s : zS) : Option ((Int32 ⊕ Nat) × zS) := if x1 ≥ (r16 3 s) then some (.inl (r16 5 s), s) else zb1 (f17 3 x1 s) (fun v2 s1 => if v2 = (zi 37) then zb1 (f38 x1 s1) (fun v4 s3 => zb1 (f60 s3) (fun v6 s5 => zb0 (f13 v6 x1 s5) (fun s7 => f7_123 rec39 (r264 x1 (r49 s7) s7) s7))) else zb1 (f17 3 x1 s1) (fun v9 s8 => zb1 (f59 v9 s8) (fun v11 s10 => zb0 (f13 v11 x1 s10) (fun s12 => f7_123 rec39 x1 s12))))
set_option maxRecDepth 100000 in
theorem kb7_39 {X : mX} {D : Nat} {rec39 : Int32 → zS → Option ((Int32 ⊕ Nat) × zS)} (hrec39 : ∀ (x1 : Int32) (s : zS) (r : (Int32 ⊕ Nat) × zS) , rec39 x1 s = some r → Ev X (D + 12) mm7 39 [some (.ref 0), some (.int x1)] [] (mk s) (encTI r)) (x1 : Int32) (s : zS) (r : (Int32 ⊕ Nat) × zS)   (h : b7_39 rec39 x1 s = some r) : Ev X (D + 12) mm7 39 [some (.ref 0), some (.int x1)] [] (mk s) (encTI r) := by
  unfold b7_39 at h
  refine Ev.run (pc' := 44) (ls' := [some (.ref 0), some (.int x1)]) (st' := [.ref 3, .int x1]) (h' := mk s) 3 rfl ?_
  refine Ev.call (M' := mm16) (v := some (.int (r16 3 s))) (h' := mk s) rfl rfl rfl (Nat.le_of_ble_eq_true rfl) (k16 (aa := 3) (s := s) (v := r16 3 s) (by decide) rfl) ?_
  refine Ev.icmp_ge (t := 153) rfl rfl (fun hb => ?_) (fun hb => ?_)
  · have h := (if_pos hb).symm.trans h
    refine Ev.run (pc' := 157) (ls' := [some (.ref 0), some (.int x1)]) (st' := [.ref 5]) (h' := mk s) 2 rfl ?_
    refine Ev.call (M' := mm16) (v := some (.int (r16 5 s))) (h' := mk s) rfl rfl rfl (Nat.le_of_ble_eq_true rfl) (k16 (aa := 5) (s := s) (v := r16 5 s) (by decide) rfl) ?_
    cases h
    exact Ev.fin rfl rfl
  · have h := (if_neg hb).symm.trans h
    refine Ev.run (pc' := 55) (ls' := [some (.ref 0), some (.int x1)]) (st' := [.int x1, .ref 3]) (h' := mk s) 3 rfl ?_
    obtain ⟨v2, s1, hq, h⟩ := zb1_some h
    refine Ev.call (M' := mm17) (v := some (.int v2)) (h' := mk s1) rfl rfl rfl (Nat.le_of_ble_eq_true rfl) (k17 (by decide) hq) ?_
    refine Ev.run (pc' := 60) (ls' := [some (.ref 0), some (.int x1)]) (st' := [.int (zi 37), .int v2]) (h' := mk s1) 1 rfl ?_
    refine Ev.icmp_eq (t := 86) rfl rfl (fun hb => ?_) (fun hb => ?_)
    · have h := (if_pos hb).symm.trans h
      refine Ev.run (pc' := 95) (ls' := [some (.ref 0), some (.int x1)]) (st' := [.int x1, .ref 3, .ref 7]) (h' := mk s1) 5 rfl ?_
      obtain ⟨v4, s3, hq, h⟩ := zb1_some h
      refine Ev.call (M' := mm38) (v := some (.int v4)) (h' := mk s3) rfl rfl rfl (Nat.le_of_ble_eq_true rfl) (k38 hq) ?_
      refine Ev.run (pc' := 104) (ls' := [some (.ref 0), some (.int x1)]) (st' := [.ref 12, .ref 0]) (h' := mk s3) 4 rfl ?_
      obtain ⟨v6, s5, hq, h⟩ := zb1_some h
      refine Ev.call (M' := mm60) (v := some (.int v6)) (h' := mk s5) rfl rfl rfl (Nat.le_of_ble_eq_true rfl) (k60 hq) ?_
      refine Ev.run (pc' := 108) (ls' := [some (.ref 0), some (.int x1)]) (st' := [.int x1, .int v6, .ref 0]) (h' := mk s5) 1 rfl ?_
      obtain ⟨s7, hq, h⟩ := zb0_some h
      refine Ev.call (M' := mm13) (v := none) (h' := mk s7) rfl rfl rfl (Nat.le_of_ble_eq_true rfl) (k13 hq) ?_
      refine Ev.run (pc' := 116) (ls' := [some (.ref 0), some (.int x1)]) (st' := [.ref 7, .int x1]) (h' := mk s7) 3 rfl ?_
      refine Ev.call (M' := mm49) (v := some (.int (r49 s7))) (h' := mk s7) rfl rfl rfl (Nat.le_of_ble_eq_true rfl) (k49  (s := s7) (v := r49 s7)  rfl) ?_
      refine Ev.call (M' := mm264) (v := some (.int (r264 x1 (r49 s7) s7))) (h' := mk s7) rfl rfl rfl (Nat.le_of_ble_eq_true rfl) (k264 (x0 := x1) (x1 := (r49 s7)) (s := s7) (v := r264 x1 (r49 s7) s7)  rfl) ?_
      refine Ev.run (pc' := 123) (ls' := [some (.ref 0), some (.int (r264 x1 (r49 s7) s7))]) (st' := []) (h' := mk s7) 1 rfl ?_
      exact k7_123 hrec39 (r264 x1 (r49 s7) s7) s7 _ h
    · have h := (if_neg hb).symm.trans h
      refine Ev.run (pc' := 73) (ls' := [some (.ref 0), some (.int x1)]) (st' := [.int x1, .ref 3, .ref 12, .ref 0]) (h' := mk s1) 6 rfl ?_
      obtain ⟨v9, s8, hq, h⟩ := zb1_some h
      refine Ev.call (M' := mm17) (v := some (.int v9)) (h' := mk s8) rfl rfl rfl (Nat.le_of_ble_eq_true rfl) (k17 (by decide) hq) ?_
      obtain ⟨v11, s10, hq, h⟩ := zb1_some h
      refine Ev.call (M' := mm59) (v := some (.int v11)) (h' := mk s10) rfl rfl rfl (Nat.le_of_ble_eq_true rfl) (k59 hq) ?_
      refine Ev.run (pc' := 80) (ls' := [some (.ref 0), some (.int x1)]) (st' := [.int x1, .int v11, .ref 0]) (h' := mk s10) 1 rfl ?_
      obtain ⟨s12, hq, h⟩ := zb0_some h
      refine Ev.call (M' := mm13) (v := none) (h' := mk s12) rfl rfl rfl (Nat.le_of_ble_eq_true rfl) (k13 hq) ?_
      refine Ev.run (pc' := 123) (ls' := [some (.ref 0), some (.int x1)]) (st' := []) (h' := mk s12) 1 rfl ?_
      exact k7_123 hrec39 x1 s12 _ h
def f7_39  : Nat → Int32 → zS → Option ((Int32 ⊕ Nat) × zS)
  | 0, _, _ => none
  | n + 1, x1, s => b7_39 (f7_39 n) x1 s
set_option maxRecDepth 100000 in
theorem k7_39 {X : mX} {D : Nat}   (n : Nat) : ∀ (x1 : Int32) (s : zS) (r : (Int32 ⊕ Nat) × zS) , f7_39  n x1 s = some r → Ev X (D + 12) mm7 39 [some (.ref 0), some (.int x1)] [] (mk s) (encTI r) := by
  induction n with
  | zero => intro x1 s r   h; cases h
  | succ n ih => intro x1 s r   h; exact kb7_39  ih x1 s r   h
def f7   (s : zS) : Option ((Int32 ⊕ Nat) × zS) := if ¬ (s.1 0 7) = zi 0 then zb0 (f21 5 s) (fun s1 => zb0 (f58 s1) (fun s2 => zb0 (f13 (zi 0) (zi 0) s2) (fun s3 => f7_39 zF (zi 0) s3))) else if s.2.2 < 600000 then some (.inr 3, thr s) else none
set_option maxRecDepth 100000 in
theorem k7 {X : mX} {D : Nat}  {s : zS} {r : (Int32 ⊕ Nat) × zS}  (h : f7  s = some r) : Ev X (D + 12) mm7 0 [some (.ref 0), none] [] (mk s) (encTI r) := by
  unfold f7 at h
  refine Ev.run (pc' := 4) (ls' := [some (.ref 0), none]) (st' := [.int (s.1 0 7)]) (h' := mk s) 2 rfl ?_
  refine Ev.if_ne (t := 17) rfl rfl (fun hb => ?_) (fun hb => ?_)
  · have h := (if_pos hb).symm.trans h
    refine Ev.run (pc' := 21) (ls' := [some (.ref 0), none]) (st' := [.ref 5]) (h' := mk s) 2 rfl ?_
    obtain ⟨s1, hq, h⟩ := zb0_some h
    refine Ev.call (M' := mm21) (v := none) (h' := mk s1) rfl rfl rfl (Nat.le_of_ble_eq_true rfl) (k21 (by decide) hq) ?_
    refine Ev.run (pc' := 28) (ls' := [some (.ref 0), none]) (st' := [.ref 12]) (h' := mk s1) 2 rfl ?_
    obtain ⟨s2, hq, h⟩ := zb0_some h
    refine Ev.call (M' := mm58) (v := none) (h' := mk s2) rfl rfl rfl (Nat.le_of_ble_eq_true rfl) (k58 hq) ?_
    refine Ev.run (pc' := 34) (ls' := [some (.ref 0), none]) (st' := [.int (zi 0), .int (zi 0), .ref 0]) (h' := mk s2) 3 rfl ?_
    obtain ⟨s3, hq, h⟩ := zb0_some h
    refine Ev.call (M' := mm13) (v := none) (h' := mk s3) rfl rfl rfl (Nat.le_of_ble_eq_true rfl) (k13 hq) ?_
    refine Ev.run (pc' := 39) (ls' := [some (.ref 0), some (.int (zi 0))]) (st' := []) (h' := mk s3) 2 rfl ?_
    exact k7_39 zF (zi 0) s3 _ h
  · have h := (if_neg hb).symm.trans h
    obtain ⟨hx, h⟩ := zif h
    cases h
    exact Ev.throws rfl rfl rfl rfl rfl rfl rfl rfl rfl (by decide) hx
/-! 8 F.kind()I -/
def r8  (s : zS) : Int32 := s.1 0 8
set_option maxRecDepth 100000 in
theorem k8 {X : mX} {D : Nat}  {s : zS} {v : Int32} (h : r8  s = v) : Ev X D mm8 0 [some (.ref 0)] [] (mk s) (encI (v, s)) := by
  unfold r8 at h
  refine Ev.run (pc' := 4) (ls' := [some (.ref 0)]) (st' := [.int (s.1 0 8)]) (h' := mk s) 2 rfl ?_
  subst h
  exact Ev.fin rfl rfl
/-! 9 F.place()I -/
def r9  (s : zS) : Int32 := s.1 0 9
set_option maxRecDepth 100000 in
theorem k9 {X : mX} {D : Nat}  {s : zS} {v : Int32} (h : r9  s = v) : Ev X D mm9 0 [some (.ref 0)] [] (mk s) (encI (v, s)) := by
  unfold r9 at h
  refine Ev.run (pc' := 4) (ls' := [some (.ref 0)]) (st' := [.int (s.1 0 9)]) (h' := mk s) 2 rfl ?_
  subst h
  exact Ev.fin rfl rfl
/-! 10 F.output(I)J -/
def b10_26 (rec26 : Int32 → Int64 → Int32 → zS → Option ((Int64 ⊕ Nat) × zS)) (x1 : Int32) (x2 : Int64) (x4 : Int32) (s : zS) : Option ((Int64 ⊕ Nat) × zS) := if x4 ≥ (zi 8) then some (.inl x2, s) else zb1 (f17 5 (x1 + x4) s) (fun v2 s1 => rec26 x1 ((zshlL x2 (zi 8)) ||| (zI2L (r264 v2 (zi 0) s1))) (x4 + zi 1) s1)
set_option maxRecDepth 100000 in
theorem kb10_26 {X : mX} {D : Nat} {rec26 : Int32 → Int64 → Int32 → zS → Option ((Int64 ⊕ Nat) × zS)} (hrec26 : ∀ (x1 : Int32) (x2 : Int64) (x4 : Int32) (s : zS) (r : (Int64 ⊕ Nat) × zS) , rec26 x1 x2 x4 s = some r → Ev X (D + 1) mm10 26 [some (.ref 0), some (.int x1), some (.long x2), none, some (.int x4)] [] (mk s) (encTL r)) (x1 : Int32) (x2 : Int64) (x4 : Int32) (s : zS) (r : (Int64 ⊕ Nat) × zS)   (h : b10_26 rec26 x1 x2 x4 s = some r) : Ev X (D + 1) mm10 26 [some (.ref 0), some (.int x1), some (.long x2), none, some (.int x4)] [] (mk s) (encTL r) := by
  unfold b10_26 at h
  refine Ev.run (pc' := 30) (ls' := [some (.ref 0), some (.int x1), some (.long x2), none, some (.int x4)]) (st' := [.int (zi 8), .int x4]) (h' := mk s) 2 rfl ?_
  refine Ev.icmp_ge (t := 61) rfl rfl (fun hb => ?_) (fun hb => ?_)
  · have h := (if_pos hb).symm.trans h
    refine Ev.run (pc' := 62) (ls' := [some (.ref 0), some (.int x1), some (.long x2), none, some (.int x4)]) (st' := [.long x2]) (h' := mk s) 1 rfl ?_
    cases h
    exact Ev.fin rfl rfl
  · have h := (if_neg hb).symm.trans h
    refine Ev.run (pc' := 45) (ls' := [some (.ref 0), some (.int x1), some (.long x2), none, some (.int x4)]) (st' := [.int (x1 + x4), .ref 5, .long (zshlL x2 (zi 8))]) (h' := mk s) 8 rfl ?_
    obtain ⟨v2, s1, hq, h⟩ := zb1_some h
    refine Ev.call (M' := mm17) (v := some (.int v2)) (h' := mk s1) rfl rfl rfl (Nat.le_of_ble_eq_true rfl) (k17 (by decide) hq) ?_
    refine Ev.run (pc' := 49) (ls' := [some (.ref 0), some (.int x1), some (.long x2), none, some (.int x4)]) (st' := [.int (zi 0), .int v2, .long (zshlL x2 (zi 8))]) (h' := mk s1) 1 rfl ?_
    refine Ev.call (M' := mm264) (v := some (.int (r264 v2 (zi 0) s1))) (h' := mk s1) rfl rfl rfl (Nat.le_of_ble_eq_true rfl) (k264 (x0 := v2) (x1 := (zi 0)) (s := s1) (v := r264 v2 (zi 0) s1)  rfl) ?_
    refine Ev.run (pc' := 26) (ls' := [some (.ref 0), some (.int x1), some (.long ((zshlL x2 (zi 8)) ||| (zI2L (r264 v2 (zi 0) s1)))), none, some (.int (x4 + zi 1))]) (st' := []) (h' := mk s1) 5 rfl ?_
    exact hrec26 x1 ((zshlL x2 (zi 8)) ||| (zI2L (r264 v2 (zi 0) s1))) (x4 + zi 1) s1 _ h
def f10_26  : Nat → Int32 → Int64 → Int32 → zS → Option ((Int64 ⊕ Nat) × zS)
  | 0, _, _, _, _ => none
  | n + 1, x1, x2, x4, s => b10_26 (f10_26 n) x1 x2 x4 s
set_option maxRecDepth 100000 in
theorem k10_26 {X : mX} {D : Nat}   (n : Nat) : ∀ (x1 : Int32) (x2 : Int64) (x4 : Int32) (s : zS) (r : (Int64 ⊕ Nat) × zS) , f10_26  n x1 x2 x4 s = some r → Ev X (D + 1) mm10 26 [some (.ref 0), some (.int x1), some (.long x2), none, some (.int x4)] [] (mk s) (encTL r) := by
  induction n with
  | zero => intro x1 x2 x4 s r   h; cases h
  | succ n ih => intro x1 x2 x4 s r   h; exact kb10_26  ih x1 x2 x4 s r   h
def f10_11   (s : zS) : Option ((Int64 ⊕ Nat) × zS) := if s.2.2 < 600000 then some (.inr 0, thr s) else none
set_option maxRecDepth 100000 in
theorem k10_11 {X : mX} {D : Nat}    (s : zS) (r : (Int64 ⊕ Nat) × zS) (o0 : Option Value) (o1 : Option Value) (o2 : Option Value) (o3 : Option Value) (o4 : Option Value)  (h : f10_11   s = some r) : Ev X (D + 1) mm10 11 [o0, o1, o2, o3, o4] [] (mk s) (encTL r) := by
  unfold f10_11 at h
  obtain ⟨hx, h⟩ := zif h
  cases h
  exact Ev.throws rfl rfl rfl rfl rfl rfl rfl rfl rfl (by decide) hx
def f10  (x1 : Int32) (s : zS) : Option ((Int64 ⊕ Nat) × zS) := if x1 < zi 0 then f10_11 s else if x1 ≤ (zi 6000) then f10_26 zF x1 (zl 0) (zi 0) s else f10_11 s
set_option maxRecDepth 100000 in
theorem k10 {X : mX} {D : Nat} {x1 : Int32} {s : zS} {r : (Int64 ⊕ Nat) × zS}  (h : f10 x1 s = some r) : Ev X (D + 1) mm10 0 [some (.ref 0), some (.int x1), none, none, none] [] (mk s) (encTL r) := by
  unfold f10 at h
  refine Ev.run (pc' := 1) (ls' := [some (.ref 0), some (.int x1), none, none, none]) (st' := [.int x1]) (h' := mk s) 1 rfl ?_
  refine Ev.if_lt (t := 11) rfl rfl (fun hb => ?_) (fun hb => ?_)
  · have h := (if_pos hb).symm.trans h
    exact k10_11 s _ _ _ _ _ _ h
  · have h := (if_neg hb).symm.trans h
    refine Ev.run (pc' := 8) (ls' := [some (.ref 0), some (.int x1), none, none, none]) (st' := [.int (zi 6000), .int x1]) (h' := mk s) 2 rfl ?_
    refine Ev.icmp_le (t := 21) rfl rfl (fun hb => ?_) (fun hb => ?_)
    · have h := (if_pos hb).symm.trans h
      refine Ev.run (pc' := 26) (ls' := [some (.ref 0), some (.int x1), some (.long (zl 0)), none, some (.int (zi 0))]) (st' := []) (h' := mk s) 4 rfl ?_
      exact k10_26 zF x1 (zl 0) (zi 0) s _ h
    · have h := (if_neg hb).symm.trans h
      exact k10_11 s _ _ _ _ _ _ h
/-! 11 F.digest()J -/
def b11_6 (rec6 : Int64 → Int32 → zS → Option (Int64 × zS)) (x1 : Int64) (x3 : Int32) (s : zS) : Option (Int64 × zS) := if x3 ≥ (r16 5 s) then some (x1, s) else zb1 (f17 5 x3 s) (fun v2 s1 => rec6 ((x1 * (zl 31)) + (zI2L v2)) (x3 + zi 1) s1)
set_option maxRecDepth 100000 in
theorem kb11_6 {X : mX} {D : Nat} {rec6 : Int64 → Int32 → zS → Option (Int64 × zS)} (hrec6 : ∀ (x1 : Int64) (x3 : Int32) (s : zS) (r : Int64 × zS) , rec6 x1 x3 s = some r → Ev X (D + 1) mm11 6 [some (.ref 0), some (.long x1), none, some (.int x3)] [] (mk s) (encL r)) (x1 : Int64) (x3 : Int32) (s : zS) (r : Int64 × zS)   (h : b11_6 rec6 x1 x3 s = some r) : Ev X (D + 1) mm11 6 [some (.ref 0), some (.long x1), none, some (.int x3)] [] (mk s) (encL r) := by
  unfold b11_6 at h
  refine Ev.run (pc' := 11) (ls' := [some (.ref 0), some (.long x1), none, some (.int x3)]) (st' := [.ref 5, .int x3]) (h' := mk s) 3 rfl ?_
  refine Ev.call (M' := mm16) (v := some (.int (r16 5 s))) (h' := mk s) rfl rfl rfl (Nat.le_of_ble_eq_true rfl) (k16 (aa := 5) (s := s) (v := r16 5 s) (by decide) rfl) ?_
  refine Ev.icmp_ge (t := 39) rfl rfl (fun hb => ?_) (fun hb => ?_)
  · have h := (if_pos hb).symm.trans h
    refine Ev.run (pc' := 40) (ls' := [some (.ref 0), some (.long x1), none, some (.int x3)]) (st' := [.long x1]) (h' := mk s) 1 rfl ?_
    cases h
    exact Ev.fin rfl rfl
  · have h := (if_neg hb).symm.trans h
    refine Ev.run (pc' := 27) (ls' := [some (.ref 0), some (.long x1), none, some (.int x3)]) (st' := [.int x3, .ref 5, .long (x1 * (zl 31))]) (h' := mk s) 6 rfl ?_
    obtain ⟨v2, s1, hq, h⟩ := zb1_some h
    refine Ev.call (M' := mm17) (v := some (.int v2)) (h' := mk s1) rfl rfl rfl (Nat.le_of_ble_eq_true rfl) (k17 (by decide) hq) ?_
    refine Ev.run (pc' := 6) (ls' := [some (.ref 0), some (.long ((x1 * (zl 31)) + (zI2L v2))), none, some (.int (x3 + zi 1))]) (st' := []) (h' := mk s1) 5 rfl ?_
    exact hrec6 ((x1 * (zl 31)) + (zI2L v2)) (x3 + zi 1) s1 _ h
def f11_6  : Nat → Int64 → Int32 → zS → Option (Int64 × zS)
  | 0, _, _, _ => none
  | n + 1, x1, x3, s => b11_6 (f11_6 n) x1 x3 s
set_option maxRecDepth 100000 in
theorem k11_6 {X : mX} {D : Nat}   (n : Nat) : ∀ (x1 : Int64) (x3 : Int32) (s : zS) (r : Int64 × zS) , f11_6  n x1 x3 s = some r → Ev X (D + 1) mm11 6 [some (.ref 0), some (.long x1), none, some (.int x3)] [] (mk s) (encL r) := by
  induction n with
  | zero => intro x1 x3 s r   h; cases h
  | succ n ih => intro x1 x3 s r   h; exact kb11_6  ih x1 x3 s r   h
def f11   (s : zS) : Option (Int64 × zS) := f11_6 zF (zl 7) (zi 0) s
set_option maxRecDepth 100000 in
theorem k11 {X : mX} {D : Nat}  {s : zS} {r : Int64 × zS}  (h : f11  s = some r) : Ev X (D + 1) mm11 0 [some (.ref 0), none, none, none] [] (mk s) (encL r) := by
  unfold f11 at h
  refine Ev.run (pc' := 6) (ls' := [some (.ref 0), some (.long (zl 7)), none, some (.int (zi 0))]) (st' := []) (h' := mk s) 4 rfl ?_
  exact k11_6 zF (zl 7) (zi 0) s _ h
