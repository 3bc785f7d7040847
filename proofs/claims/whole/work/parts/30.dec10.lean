/-! decompiled methods, 10; printed by wip/gen/gen8.py -/
/-! 209 FModel.power(I)I -/
def f209_105  (x3 : Int32) (x4 : Int32) (s : zS) : Option (Int32 × zS) := if x4 = zi 0 then some (x3, s) else some (-x3, s)
theorem k209_105 {X : mX} {D : Nat}   (x3 : Int32) (x4 : Int32) (s : zS) (r : Int32 × zS) (o0 : Option Value) (o1 : Option Value) (o2 : Option Value)  (h : f209_105  x3 x4 s = some r) : Ev X (D + 1) mm209 105 [o0, o1, o2, some (.int x3), some (.int x4)] [] (mk s) (encI r) := by
  unfold f209_105 at h
  refine Ev.run (pc' := 107) (ls' := [o0, o1, o2, some (.int x3), some (.int x4)]) (st' := [.int x4]) (h' := mk s) 1 rfl ?_
  refine Ev.if_eq (t := 115) rfl rfl (fun hb => ?_) (fun hb => ?_)
  · have h := (if_pos hb).symm.trans h
    refine Ev.run (pc' := 116) (ls' := [o0, o1, o2, some (.int x3), some (.int x4)]) (st' := [.int x3]) (h' := mk s) 1 rfl ?_
    cases h
    exact Ev.fin rfl rfl
  · have h := (if_neg hb).symm.trans h
    refine Ev.run (pc' := 116) (ls' := [o0, o1, o2, some (.int x3), some (.int x4)]) (st' := [.int (-x3)]) (h' := mk s) 3 rfl ?_
    cases h
    exact Ev.fin rfl rfl
def b209_55 (rec55 : Int32 → Int32 → Int32 → Int32 → zS → Option (Int32 × zS)) (x1 : Int32) (x2 : Int32) (x3 : Int32) (x4 : Int32) (s : zS) : Option (Int32 × zS) := zb1 (f205 x2 s) (fun v2 s1 => if (r196 v2 s1) = zi 0 then if x2 = (s1.1 24 39) then f209_105 x3 x4 s1 else f209_105 x3 x4 (setI s1 24 40 (zi 0)) else zb1 (f205 x2 s1) (fun v4 s3 => rec55 x1 (x2 + zi 1) (r265 ((((zi 10) * x3) + v4) - (zi 48)) (zi 100000) s3) x4 s3))
theorem kb209_55 {X : mX} {D : Nat} {rec55 : Int32 → Int32 → Int32 → Int32 → zS → Option (Int32 × zS)} (hrec55 : ∀ (x1 : Int32) (x2 : Int32) (x3 : Int32) (x4 : Int32) (s : zS) (r : Int32 × zS) , rec55 x1 x2 x3 x4 s = some r → Ev X (D + 1) mm209 55 [some (.ref 24), some (.int x1), some (.int x2), some (.int x3), some (.int x4)] [] (mk s) (encI r)) (x1 : Int32) (x2 : Int32) (x3 : Int32) (x4 : Int32) (s : zS) (r : Int32 × zS)   (h : b209_55 rec55 x1 x2 x3 x4 s = some r) : Ev X (D + 1) mm209 55 [some (.ref 24), some (.int x1), some (.int x2), some (.int x3), some (.int x4)] [] (mk s) (encI r) := by
  unfold b209_55 at h
  refine Ev.run (pc' := 57) (ls' := [some (.ref 24), some (.int x1), some (.int x2), some (.int x3), some (.int x4)]) (st' := [.int x2, .ref 24]) (h' := mk s) 2 rfl ?_
  obtain ⟨v2, s1, hq, h⟩ := zb1_some h
  refine Ev.call (M' := mm205) (v := some (.int v2)) (h' := mk s1) rfl rfl rfl (Nat.le_of_ble_eq_true rfl) (k205 hq) ?_
  refine Ev.call (M' := mm196) (v := some (.int (r196 v2 s1))) (h' := mk s1) rfl rfl rfl (Nat.le_of_ble_eq_true rfl) (k196 (x0 := v2) (s := s1)  rfl) ?_
  refine Ev.if_eq (t := 92) rfl rfl (fun hb => ?_) (fun hb => ?_)
  · have h := (if_pos hb).symm.trans h
    refine Ev.run (pc' := 97) (ls' := [some (.ref 24), some (.int x1), some (.int x2), some (.int x3), some (.int x4)]) (st' := [.int (s1.1 24 39), .int x2]) (h' := mk s1) 3 rfl ?_
    refine Ev.icmp_eq (t := 105) rfl rfl (fun hb => ?_) (fun hb => ?_)
    · have h := (if_pos hb).symm.trans h
      exact k209_105 x3 x4 s1 _ _ _ _ h
    · have h := (if_neg hb).symm.trans h
      refine Ev.run (pc' := 102) (ls' := [some (.ref 24), some (.int x1), some (.int x2), some (.int x3), some (.int x4)]) (st' := [.int (zi 0), .ref 24]) (h' := mk s1) 2 rfl ?_
      refine Ev.step (pc' := 105) rfl (put_12_40 (by decide) rfl) ?_
      exact k209_105 x3 x4 (setI s1 24 40 (zi 0)) _ _ _ _ h
  · have h := (if_neg hb).symm.trans h
    refine Ev.run (pc' := 72) (ls' := [some (.ref 24), some (.int x1), some (.int x2), some (.int x3), some (.int x4)]) (st' := [.int x2, .ref 24, .int ((zi 10) * x3)]) (h' := mk s1) 5 rfl ?_
    obtain ⟨v4, s3, hq, h⟩ := zb1_some h
    refine Ev.call (M' := mm205) (v := some (.int v4)) (h' := mk s3) rfl rfl rfl (Nat.le_of_ble_eq_true rfl) (k205 hq) ?_
    refine Ev.run (pc' := 82) (ls' := [some (.ref 24), some (.int x1), some (.int x2), some (.int x3), some (.int x4)]) (st' := [.int (zi 100000), .int ((((zi 10) * x3) + v4) - (zi 48))]) (h' := mk s3) 4 rfl ?_
    refine Ev.call (M' := mm265) (v := some (.int (r265 ((((zi 10) * x3) + v4) - (zi 48)) (zi 100000) s3))) (h' := mk s3) rfl rfl rfl (Nat.le_of_ble_eq_true rfl) (k265 (x0 := ((((zi 10) * x3) + v4) - (zi 48))) (x1 := (zi 100000)) (s := s3)  rfl) ?_
    refine Ev.run (pc' := 55) (ls' := [some (.ref 24), some (.int x1), some (.int (x2 + zi 1)), some (.int (r265 ((((zi 10) * x3) + v4) - (zi 48)) (zi 100000) s3)), some (.int x4)]) (st' := []) (h' := mk s3) 3 rfl ?_
    exact hrec55 x1 (x2 + zi 1) (r265 ((((zi 10) * x3) + v4) - (zi 48)) (zi 100000) s3) x4 s3 _ h
def f209_55  : Nat → Int32 → Int32 → Int32 → Int32 → zS → Option (Int32 × zS)
  | 0, _, _, _, _, _ => none
  | n + 1, x1, x2, x3, x4, s => b209_55 (f209_55 n) x1 x2 x3 x4 s
theorem k209_55 {X : mX} {D : Nat}   (n : Nat) : ∀ (x1 : Int32) (x2 : Int32) (x3 : Int32) (x4 : Int32) (s : zS) (r : Int32 × zS) , f209_55  n x1 x2 x3 x4 s = some r → Ev X (D + 1) mm209 55 [some (.ref 24), some (.int x1), some (.int x2), some (.int x3), some (.int x4)] [] (mk s) (encI r) := by
  induction n with
  | zero => intro x1 x2 x3 x4 s r   h; cases h
  | succ n ih => intro x1 x2 x3 x4 s r   h; exact kb209_55  ih x1 x2 x3 x4 s r   h
def f209_39  (x1 : Int32) (x2 : Int32) (x3 : Int32) (x4 : Int32) (s : zS) : Option (Int32 × zS) := zb1 (f205 x2 s) (fun v2 s1 => if ¬ (r196 v2 s1) = zi 0 then f209_55 zF x1 x2 x3 x4 s1 else f209_55 zF x1 x2 x3 x4 (setI s1 24 40 (zi 0)))
theorem k209_39 {X : mX} {D : Nat}   (x1 : Int32) (x2 : Int32) (x3 : Int32) (x4 : Int32) (s : zS) (r : Int32 × zS)   (h : f209_39  x1 x2 x3 x4 s = some r) : Ev X (D + 1) mm209 39 [some (.ref 24), some (.int x1), some (.int x2), some (.int x3), some (.int x4)] [] (mk s) (encI r) := by
  unfold f209_39 at h
  refine Ev.run (pc' := 41) (ls' := [some (.ref 24), some (.int x1), some (.int x2), some (.int x3), some (.int x4)]) (st' := [.int x2, .ref 24]) (h' := mk s) 2 rfl ?_
  obtain ⟨v2, s1, hq, h⟩ := zb1_some h
  refine Ev.call (M' := mm205) (v := some (.int v2)) (h' := mk s1) rfl rfl rfl (Nat.le_of_ble_eq_true rfl) (k205 hq) ?_
  refine Ev.call (M' := mm196) (v := some (.int (r196 v2 s1))) (h' := mk s1) rfl rfl rfl (Nat.le_of_ble_eq_true rfl) (k196 (x0 := v2) (s := s1)  rfl) ?_
  refine Ev.if_ne (t := 55) rfl rfl (fun hb => ?_) (fun hb => ?_)
  · have h := (if_pos hb).symm.trans h
    exact k209_55 zF x1 x2 x3 x4 s1 _ h
  · have h := (if_neg hb).symm.trans h
    refine Ev.run (pc' := 52) (ls' := [some (.ref 24), some (.int x1), some (.int x2), some (.int x3), some (.int x4)]) (st' := [.int (zi 0), .ref 24]) (h' := mk s1) 2 rfl ?_
    refine Ev.step (pc' := 55) rfl (put_12_40 (by decide) rfl) ?_
    exact k209_55 zF x1 x2 x3 x4 (setI s1 24 40 (zi 0)) _ h
def f209_19  (x1 : Int32) (x2 : Int32) (x3 : Int32) (y0 : Int32) (s : zS) : Option (Int32 × zS) := if ¬ y0 = zi 0 then f209_39 x1 (x2 + zi 1) x3 y0 s else zb1 (f205 x2 s) (fun v2 s1 => if ¬ v2 = (zi 43) then f209_39 x1 x2 x3 y0 s1 else f209_39 x1 (x2 + zi 1) x3 y0 s1)
theorem k209_19 {X : mX} {D : Nat}   (x1 : Int32) (x2 : Int32) (x3 : Int32) (y0 : Int32) (s : zS) (r : Int32 × zS) (o4 : Option Value)  (h : f209_19  x1 x2 x3 y0 s = some r) : Ev X (D + 1) mm209 19 [some (.ref 24), some (.int x1), some (.int x2), some (.int x3), o4] [.int y0] (mk s) (encI r) := by
  unfold f209_19 at h
  refine Ev.run (pc' := 23) (ls' := [some (.ref 24), some (.int x1), some (.int x2), some (.int x3), some (.int y0)]) (st' := [.int y0]) (h' := mk s) 2 rfl ?_
  refine Ev.if_ne (t := 36) rfl rfl (fun hb => ?_) (fun hb => ?_)
  · have h := (if_pos hb).symm.trans h
    refine Ev.run (pc' := 39) (ls' := [some (.ref 24), some (.int x1), some (.int (x2 + zi 1)), some (.int x3), some (.int y0)]) (st' := []) (h' := mk s) 1 rfl ?_
    exact k209_39 x1 (x2 + zi 1) x3 y0 s _ h
  · have h := (if_neg hb).symm.trans h
    refine Ev.run (pc' := 28) (ls' := [some (.ref 24), some (.int x1), some (.int x2), some (.int x3), some (.int y0)]) (st' := [.int x2, .ref 24]) (h' := mk s) 2 rfl ?_
    obtain ⟨v2, s1, hq, h⟩ := zb1_some h
    refine Ev.call (M' := mm205) (v := some (.int v2)) (h' := mk s1) rfl rfl rfl (Nat.le_of_ble_eq_true rfl) (k205 hq) ?_
    refine Ev.run (pc' := 33) (ls' := [some (.ref 24), some (.int x1), some (.int x2), some (.int x3), some (.int y0)]) (st' := [.int (zi 43), .int v2]) (h' := mk s1) 1 rfl ?_
    refine Ev.icmp_ne (t := 39) rfl rfl (fun hb => ?_) (fun hb => ?_)
    · have h := (if_pos hb).symm.trans h
      exact k209_39 x1 x2 x3 y0 s1 _ h
    · have h := (if_neg hb).symm.trans h
      refine Ev.run (pc' := 39) (ls' := [some (.ref 24), some (.int x1), some (.int (x2 + zi 1)), some (.int x3), some (.int y0)]) (st' := []) (h' := mk s1) 1 rfl ?_
      exact k209_39 x1 (x2 + zi 1) x3 y0 s1 _ h
def f209  (x1 : Int32) (s : zS) : Option (Int32 × zS) := zb1 (f205 x1 s) (fun v2 s1 => if ¬ v2 = (zi 45) then f209_19 x1 x1 (zi 0) (zi 0) s1 else f209_19 x1 x1 (zi 0) (zi 1) s1)
theorem k209 {X : mX} {D : Nat} {x1 : Int32} {s : zS} {r : Int32 × zS}  (h : f209 x1 s = some r) : Ev X (D + 1) mm209 0 [some (.ref 24), some (.int x1), none, none, none] [] (mk s) (encI r) := by
  unfold f209 at h
  refine Ev.run (pc' := 6) (ls' := [some (.ref 24), some (.int x1), some (.int x1), some (.int (zi 0)), none]) (st' := [.int x1, .ref 24]) (h' := mk s) 6 rfl ?_
  obtain ⟨v2, s1, hq, h⟩ := zb1_some h
  refine Ev.call (M' := mm205) (v := some (.int v2)) (h' := mk s1) rfl rfl rfl (Nat.le_of_ble_eq_true rfl) (k205 hq) ?_
  refine Ev.run (pc' := 11) (ls' := [some (.ref 24), some (.int x1), some (.int x1), some (.int (zi 0)), none]) (st' := [.int (zi 45), .int v2]) (h' := mk s1) 1 rfl ?_
  refine Ev.icmp_ne (t := 18) rfl rfl (fun hb => ?_) (fun hb => ?_)
  · have h := (if_pos hb).symm.trans h
    refine Ev.run (pc' := 19) (ls' := [some (.ref 24), some (.int x1), some (.int x1), some (.int (zi 0)), none]) (st' := [.int (zi 0)]) (h' := mk s1) 1 rfl ?_
    exact k209_19 x1 x1 (zi 0) (zi 0) s1 _ _ h
  · have h := (if_neg hb).symm.trans h
    refine Ev.run (pc' := 19) (ls' := [some (.ref 24), some (.int x1), some (.int x1), some (.int (zi 0)), none]) (st' := [.int (zi 1)]) (h' := mk s1) 2 rfl ?_
    exact k209_19 x1 x1 (zi 0) (zi 1) s1 _ _ h
/-! 212 FModel.packed(JIZ)J -/
def f212_70  (x4 : Int32) (x5 : Int32) (x6 : Int32) (x7 : Int32) (x8 : Int64) (x10 : Int32) (s : zS) : Option (Int64 × zS) := if x10 ≤ x7 then if ¬ (zshrL x8 (x5 - (zi 1))) = (zl 0) then some ((zshlL (zI2L ((x10 - x6) + (zi 1))) (x5 - (zi 1))) ||| (x8 &&& ((zshlL (zl 1) (x5 - (zi 1))) - (zl 1))), s) else some (x8, s) else if x4 = zi 0 then some (zl 9218868437227405312, s) else some (zl 2139095040, s)
theorem k212_70 {X : mX} {D : Nat}   (x4 : Int32) (x5 : Int32) (x6 : Int32) (x7 : Int32) (x8 : Int64) (x10 : Int32) (s : zS) (r : Int64 × zS) (o0 : Option Value) (o1 : Option Value) (o2 : Option Value) (o3 : Option Value)  (h : f212_70  x4 x5 x6 x7 x8 x10 s = some r) : Ev X D mm212 70 [o0, o1, o2, o3, some (.int x4), some (.int x5), some (.int x6), some (.int x7), some (.long x8), none, some (.int x10)] [] (mk s) (encL r) := by
  unfold f212_70 at h
  refine Ev.run (pc' := 74) (ls' := [o0, o1, o2, o3, some (.int x4), some (.int x5), some (.int x6), some (.int x7), some (.long x8), none, some (.int x10)]) (st' := [.int x7, .int x10]) (h' := mk s) 2 rfl ?_
  refine Ev.icmp_le (t := 92) rfl rfl (fun hb => ?_) (fun hb => ?_)
  · have h := (if_pos hb).symm.trans h
    refine Ev.run (pc' := 101) (ls' := [o0, o1, o2, o3, some (.int x4), some (.int x5), some (.int x6), some (.int x7), some (.long x8), none, some (.int x10)]) (st' := [.int (lg_cmp (zshrL x8 (x5 - (zi 1))) (zl 0))]) (h' := mk s) 7 rfl ?_
    refine Ev.ifl_ne (t := 107) rfl rfl (fun hb => ?_) (fun hb => ?_)
    · have h := (if_pos hb).symm.trans h
      refine Ev.run (pc' := 132) (ls' := [o0, o1, o2, o3, some (.int x4), some (.int x5), some (.int x6), some (.int x7), some (.long x8), none, some (.int x10)]) (st' := [.long ((zshlL (zI2L ((x10 - x6) + (zi 1))) (x5 - (zi 1))) ||| (x8 &&& ((zshlL (zl 1) (x5 - (zi 1))) - (zl 1))))]) (h' := mk s) 20 rfl ?_
      cases h
      exact Ev.fin rfl rfl
    · have h := (if_neg hb).symm.trans h
      refine Ev.run (pc' := 106) (ls' := [o0, o1, o2, o3, some (.int x4), some (.int x5), some (.int x6), some (.int x7), some (.long x8), none, some (.int x10)]) (st' := [.long x8]) (h' := mk s) 1 rfl ?_
      cases h
      exact Ev.fin rfl rfl
  · have h := (if_neg hb).symm.trans h
    refine Ev.run (pc' := 79) (ls' := [o0, o1, o2, o3, some (.int x4), some (.int x5), some (.int x6), some (.int x7), some (.long x8), none, some (.int x10)]) (st' := [.int x4]) (h' := mk s) 1 rfl ?_
    refine Ev.if_eq (t := 88) rfl rfl (fun hb => ?_) (fun hb => ?_)
    · have h := (if_pos hb).symm.trans h
      refine Ev.run (pc' := 91) (ls' := [o0, o1, o2, o3, some (.int x4), some (.int x5), some (.int x6), some (.int x7), some (.long x8), none, some (.int x10)]) (st' := [.long (zl 9218868437227405312)]) (h' := mk s) 1 rfl ?_
      cases h
      exact Ev.fin rfl rfl
    · have h := (if_neg hb).symm.trans h
      refine Ev.run (pc' := 91) (ls' := [o0, o1, o2, o3, some (.int x4), some (.int x5), some (.int x6), some (.int x7), some (.long x8), none, some (.int x10)]) (st' := [.long (zl 2139095040)]) (h' := mk s) 2 rfl ?_
      cases h
      exact Ev.fin rfl rfl
def f212_43  (x1 : Int64) (x3 : Int32) (x4 : Int32) (x5 : Int32) (x6 : Int32) (y0 : Int32) (s : zS) : Option (Int64 × zS) := if (zshrL x1 x5) ≤ (zl 0) then f212_70 x4 x5 x6 y0 x1 x3 s else f212_70 x4 x5 x6 y0 (zshrL x1 (zi 1)) (x3 + zi 1) s
theorem k212_43 {X : mX} {D : Nat}   (x1 : Int64) (x3 : Int32) (x4 : Int32) (x5 : Int32) (x6 : Int32) (y0 : Int32) (s : zS) (r : Int64 × zS) (o0 : Option Value) (o7 : Option Value) (o8 : Option Value) (o9 : Option Value) (o10 : Option Value)  (h : f212_43  x1 x3 x4 x5 x6 y0 s = some r) : Ev X D mm212 43 [o0, some (.long x1), none, some (.int x3), some (.int x4), some (.int x5), some (.int x6), o7, o8, o9, o10] [.int y0] (mk s) (encL r) := by
  unfold f212_43 at h
  refine Ev.run (pc' := 58) (ls' := [o0, some (.long x1), none, some (.int x3), some (.int x4), some (.int x5), some (.int x6), some (.int y0), some (.long x1), none, some (.int x3)]) (st' := [.int (lg_cmp (zshrL x1 x5) (zl 0))]) (h' := mk s) 10 rfl ?_
  refine Ev.ifl_le (t := 70) rfl rfl (fun hb => ?_) (fun hb => ?_)
  · have h := (if_pos hb).symm.trans h
    exact k212_70 x4 x5 x6 y0 x1 x3 s _ _ _ _ _ h
  · have h := (if_neg hb).symm.trans h
    refine Ev.run (pc' := 70) (ls' := [o0, some (.long x1), none, some (.int x3), some (.int x4), some (.int x5), some (.int x6), some (.int y0), some (.long (zshrL x1 (zi 1))), none, some (.int (x3 + zi 1))]) (st' := []) (h' := mk s) 5 rfl ?_
    exact k212_70 x4 x5 x6 y0 (zshrL x1 (zi 1)) (x3 + zi 1) s _ _ _ _ _ h
def f212_28  (x1 : Int64) (x3 : Int32) (x4 : Int32) (x5 : Int32) (y0 : Int32) (s : zS) : Option (Int64 × zS) := if x4 = zi 0 then f212_43 x1 x3 x4 x5 y0 (zi 971) s else f212_43 x1 x3 x4 x5 y0 (zi 104) s
theorem k212_28 {X : mX} {D : Nat}   (x1 : Int64) (x3 : Int32) (x4 : Int32) (x5 : Int32) (y0 : Int32) (s : zS) (r : Int64 × zS) (o0 : Option Value) (o6 : Option Value) (o7 : Option Value) (o8 : Option Value) (o9 : Option Value) (o10 : Option Value)  (h : f212_28  x1 x3 x4 x5 y0 s = some r) : Ev X D mm212 28 [o0, some (.long x1), none, some (.int x3), some (.int x4), some (.int x5), o6, o7, o8, o9, o10] [.int y0] (mk s) (encL r) := by
  unfold f212_28 at h
  refine Ev.run (pc' := 32) (ls' := [o0, some (.long x1), none, some (.int x3), some (.int x4), some (.int x5), some (.int y0), o7, o8, o9, o10]) (st' := [.int x4]) (h' := mk s) 2 rfl ?_
  refine Ev.if_eq (t := 40) rfl rfl (fun hb => ?_) (fun hb => ?_)
  · have h := (if_pos hb).symm.trans h
    refine Ev.run (pc' := 43) (ls' := [o0, some (.long x1), none, some (.int x3), some (.int x4), some (.int x5), some (.int y0), o7, o8, o9, o10]) (st' := [.int (zi 971)]) (h' := mk s) 1 rfl ?_
    exact k212_43 x1 x3 x4 x5 y0 (zi 971) s _ _ _ _ _ _ h
  · have h := (if_neg hb).symm.trans h
    refine Ev.run (pc' := 43) (ls' := [o0, some (.long x1), none, some (.int x3), some (.int x4), some (.int x5), some (.int y0), o7, o8, o9, o10]) (st' := [.int (zi 104)]) (h' := mk s) 2 rfl ?_
    exact k212_43 x1 x3 x4 x5 y0 (zi 104) s _ _ _ _ _ _ h
def f212_12  (x1 : Int64) (x3 : Int32) (x4 : Int32) (y0 : Int32) (s : zS) : Option (Int64 × zS) := if x4 = zi 0 then f212_28 x1 x3 x4 y0 (zi (-1074)) s else f212_28 x1 x3 x4 y0 (zi (-149)) s
theorem k212_12 {X : mX} {D : Nat}   (x1 : Int64) (x3 : Int32) (x4 : Int32) (y0 : Int32) (s : zS) (r : Int64 × zS) (o0 : Option Value) (o5 : Option Value) (o6 : Option Value) (o7 : Option Value) (o8 : Option Value) (o9 : Option Value) (o10 : Option Value)  (h : f212_12  x1 x3 x4 y0 s = some r) : Ev X D mm212 12 [o0, some (.long x1), none, some (.int x3), some (.int x4), o5, o6, o7, o8, o9, o10] [.int y0] (mk s) (encL r) := by
  unfold f212_12 at h
  refine Ev.run (pc' := 16) (ls' := [o0, some (.long x1), none, some (.int x3), some (.int x4), some (.int y0), o6, o7, o8, o9, o10]) (st' := [.int x4]) (h' := mk s) 2 rfl ?_
  refine Ev.if_eq (t := 25) rfl rfl (fun hb => ?_) (fun hb => ?_)
  · have h := (if_pos hb).symm.trans h
    refine Ev.run (pc' := 28) (ls' := [o0, some (.long x1), none, some (.int x3), some (.int x4), some (.int y0), o6, o7, o8, o9, o10]) (st' := [.int (zi (-1074))]) (h' := mk s) 1 rfl ?_
    exact k212_28 x1 x3 x4 y0 (zi (-1074)) s _ _ _ _ _ _ _ h
  · have h := (if_neg hb).symm.trans h
    refine Ev.run (pc' := 28) (ls' := [o0, some (.long x1), none, some (.int x3), some (.int x4), some (.int y0), o6, o7, o8, o9, o10]) (st' := [.int (zi (-149))]) (h' := mk s) 2 rfl ?_
    exact k212_28 x1 x3 x4 y0 (zi (-149)) s _ _ _ _ _ _ _ h
def f212  (x1 : Int64) (x3 : Int32) (x4 : Int32) (s : zS) : Option (Int64 × zS) := if x4 = zi 0 then f212_12 x1 x3 x4 (zi 53) s else f212_12 x1 x3 x4 (zi 24) s
theorem k212 {X : mX} {D : Nat} {x1 : Int64} {x3 : Int32} {x4 : Int32} {s : zS} {r : Int64 × zS}  (h : f212 x1 x3 x4 s = some r) : Ev X D mm212 0 [some (.ref 24), some (.long x1), none, some (.int x3), some (.int x4), none, none, none, none, none, none] [] (mk s) (encL r) := by
  unfold f212 at h
  refine Ev.run (pc' := 2) (ls' := [some (.ref 24), some (.long x1), none, some (.int x3), some (.int x4), none, none, none, none, none, none]) (st' := [.int x4]) (h' := mk s) 1 rfl ?_
  refine Ev.if_eq (t := 10) rfl rfl (fun hb => ?_) (fun hb => ?_)
  · have h := (if_pos hb).symm.trans h
    refine Ev.run (pc' := 12) (ls' := [some (.ref 24), some (.long x1), none, some (.int x3), some (.int x4), none, none, none, none, none, none]) (st' := [.int (zi 53)]) (h' := mk s) 1 rfl ?_
    exact k212_12 x1 x3 x4 (zi 53) s _ _ _ _ _ _ _ _ h
  · have h := (if_neg hb).symm.trans h
    refine Ev.run (pc' := 12) (ls' := [some (.ref 24), some (.long x1), none, some (.int x3), some (.int x4), none, none, none, none, none, none]) (st' := [.int (zi 24)]) (h' := mk s) 2 rfl ?_
    exact k212_12 x1 x3 x4 (zi 24) s _ _ _ _ _ _ _ _ h
/-! 215 FModel.sixteens(Z)J -/
def f215_361  (x1 : Int32) (x4 : Int32) (x12 : Int32) (x17 : Int64) (s : zS) : Option (Int64 × zS) := zb1 (f212 x17 (x4 + x12) x1 s) (fun v2 s1 => some (v2, s1))
theorem k215_361 {X : mX} {D : Nat}   (x1 : Int32) (x4 : Int32) (x12 : Int32) (x17 : Int64) (s : zS) (r : Int64 × zS) (o2 : Option Value) (o3 : Option Value) (o5 : Option Value) (o6 : Option Value) (o7 : Option Value) (o8 : Option Value) (o9 : Option Value) (o10 : Option Value) (o11 : Option Value) (o13 : Option Value) (o14 : Option Value) (o15 : Option Value) (o16 : Option Value)  (h : f215_361  x1 x4 x12 x17 s = some r) : Ev X (D + 2) mm215 361 [some (.ref 24), some (.int x1), o2, o3, some (.int x4), o5, o6, o7, o8, o9, o10, o11, some (.int x12), o13, o14, o15, o16, some (.long x17), none] [] (mk s) (encL r) := by
  unfold f215_361 at h
  refine Ev.run (pc' := 370) (ls' := [some (.ref 24), some (.int x1), o2, o3, some (.int x4), o5, o6, o7, o8, o9, o10, o11, some (.int x12), o13, o14, o15, o16, some (.long x17), none]) (st' := [.int x1, .int (x4 + x12), .long x17, .ref 24]) (h' := mk s) 6 rfl ?_
  obtain ⟨v2, s1, hq, h⟩ := zb1_some h
  refine Ev.call (M' := mm212) (v := some (.long v2)) (h' := mk s1) rfl rfl rfl (Nat.le_of_ble_eq_true rfl) (k212 hq) ?_
  cases h
  exact Ev.fin rfl rfl
def f215_323  (x1 : Int32) (x4 : Int32) (x6 : Int32) (x12 : Int32) (x13 : Int64) (x15 : Int64) (y0 : Int64) (s : zS) : Option (Int64 × zS) := if x13 > x15 then f215_361 x1 x4 x12 (y0 + (zl 1)) s else if ¬ x13 = x15 then f215_361 x1 x4 x12 y0 s else if ¬ x6 = zi 0 then f215_361 x1 x4 x12 (y0 + (zl 1)) s else if ¬ (y0 &&& (zl 1)) = (zl 1) then f215_361 x1 x4 x12 y0 s else f215_361 x1 x4 x12 (y0 + (zl 1)) s
theorem k215_323 {X : mX} {D : Nat}   (x1 : Int32) (x4 : Int32) (x6 : Int32) (x12 : Int32) (x13 : Int64) (x15 : Int64) (y0 : Int64) (s : zS) (r : Int64 × zS) (o2 : Option Value) (o3 : Option Value) (o5 : Option Value) (o7 : Option Value) (o8 : Option Value) (o9 : Option Value) (o10 : Option Value) (o11 : Option Value) (o17 : Option Value) (o18 : Option Value)  (h : f215_323  x1 x4 x6 x12 x13 x15 y0 s = some r) : Ev X (D + 2) mm215 323 [some (.ref 24), some (.int x1), o2, o3, some (.int x4), o5, some (.int x6), o7, o8, o9, o10, o11, some (.int x12), some (.long x13), none, some (.long x15), none, o17, o18] [.long y0] (mk s) (encL r) := by
  unfold f215_323 at h
  refine Ev.run (pc' := 330) (ls' := [some (.ref 24), some (.int x1), o2, o3, some (.int x4), o5, some (.int x6), o7, o8, o9, o10, o11, some (.int x12), some (.long x13), none, some (.long x15), none, some (.long y0), none]) (st' := [.int (lg_cmp x13 x15)]) (h' := mk s) 4 rfl ?_
  refine Ev.ifl_gt (t := 355) rfl rfl (fun hb => ?_) (fun hb => ?_)
  · have h := (if_pos hb).symm.trans h
    refine Ev.run (pc' := 361) (ls' := [some (.ref 24), some (.int x1), o2, o3, some (.int x4), o5, some (.int x6), o7, o8, o9, o10, o11, some (.int x12), some (.long x13), none, some (.long x15), none, some (.long (y0 + (zl 1))), none]) (st' := []) (h' := mk s) 4 rfl ?_
    exact k215_361 x1 x4 x12 (y0 + (zl 1)) s _ _ _ _ _ _ _ _ _ _ _ _ _ _ h
  · have h := (if_neg hb).symm.trans h
    refine Ev.run (pc' := 338) (ls' := [some (.ref 24), some (.int x1), o2, o3, some (.int x4), o5, some (.int x6), o7, o8, o9, o10, o11, some (.int x12), some (.long x13), none, some (.long x15), none, some (.long y0), none]) (st' := [.int (lg_cmp x13 x15)]) (h' := mk s) 3 rfl ?_
    refine Ev.ifl_ne (t := 361) rfl rfl (fun hb => ?_) (fun hb => ?_)
    · have h := (if_pos hb).symm.trans h
      exact k215_361 x1 x4 x12 y0 s _ _ _ _ _ _ _ _ _ _ _ _ _ _ h
    · have h := (if_neg hb).symm.trans h
      refine Ev.run (pc' := 343) (ls' := [some (.ref 24), some (.int x1), o2, o3, some (.int x4), o5, some (.int x6), o7, o8, o9, o10, o11, some (.int x12), some (.long x13), none, some (.long x15), none, some (.long y0), none]) (st' := [.int x6]) (h' := mk s) 1 rfl ?_
      refine Ev.if_ne (t := 355) rfl rfl (fun hb => ?_) (fun hb => ?_)
      · have h := (if_pos hb).symm.trans h
        refine Ev.run (pc' := 361) (ls' := [some (.ref 24), some (.int x1), o2, o3, some (.int x4), o5, some (.int x6), o7, o8, o9, o10, o11, some (.int x12), some (.long x13), none, some (.long x15), none, some (.long (y0 + (zl 1))), none]) (st' := []) (h' := mk s) 4 rfl ?_
        exact k215_361 x1 x4 x12 (y0 + (zl 1)) s _ _ _ _ _ _ _ _ _ _ _ _ _ _ h
      · have h := (if_neg hb).symm.trans h
        refine Ev.run (pc' := 352) (ls' := [some (.ref 24), some (.int x1), o2, o3, some (.int x4), o5, some (.int x6), o7, o8, o9, o10, o11, some (.int x12), some (.long x13), none, some (.long x15), none, some (.long y0), none]) (st' := [.int (lg_cmp (y0 &&& (zl 1)) (zl 1))]) (h' := mk s) 5 rfl ?_
        refine Ev.ifl_ne (t := 361) rfl rfl (fun hb => ?_) (fun hb => ?_)
        · have h := (if_pos hb).symm.trans h
          exact k215_361 x1 x4 x12 y0 s _ _ _ _ _ _ _ _ _ _ _ _ _ _ h
        · have h := (if_neg hb).symm.trans h
          refine Ev.run (pc' := 361) (ls' := [some (.ref 24), some (.int x1), o2, o3, some (.int x4), o5, some (.int x6), o7, o8, o9, o10, o11, some (.int x12), some (.long x13), none, some (.long x15), none, some (.long (y0 + (zl 1))), none]) (st' := []) (h' := mk s) 4 rfl ?_
          exact k215_361 x1 x4 x12 (y0 + (zl 1)) s _ _ _ _ _ _ _ _ _ _ _ _ _ _ h
def f215_297  (x1 : Int32) (x4 : Int32) (x6 : Int32) (x7 : Int64) (x12 : Int32) (y0 : Int64) (s : zS) : Option (Int64 × zS) := if ¬ x12 = (zi 63) then f215_323 x1 x4 x6 x12 y0 (zshlL (zl 1) (x12 - (zi 1))) (zshrL x7 x12) s else f215_323 x1 x4 x6 x12 y0 (zshlL (zl 1) (x12 - (zi 1))) (zl 0) s
theorem k215_297 {X : mX} {D : Nat}   (x1 : Int32) (x4 : Int32) (x6 : Int32) (x7 : Int64) (x12 : Int32) (y0 : Int64) (s : zS) (r : Int64 × zS) (o2 : Option Value) (o3 : Option Value) (o5 : Option Value) (o9 : Option Value) (o10 : Option Value) (o11 : Option Value) (o13 : Option Value) (o14 : Option Value) (o15 : Option Value) (o16 : Option Value) (o17 : Option Value) (o18 : Option Value)  (h : f215_297  x1 x4 x6 x7 x12 y0 s = some r) : Ev X (D + 2) mm215 297 [some (.ref 24), some (.int x1), o2, o3, some (.int x4), o5, some (.int x6), some (.long x7), none, o9, o10, o11, some (.int x12), o13, o14, o15, o16, o17, o18] [.long y0] (mk s) (encL r) := by
  unfold f215_297 at h
  refine Ev.run (pc' := 311) (ls' := [some (.ref 24), some (.int x1), o2, o3, some (.int x4), o5, some (.int x6), some (.long x7), none, o9, o10, o11, some (.int x12), some (.long y0), none, some (.long (zshlL (zl 1) (x12 - (zi 1)))), none, o17, o18]) (st' := [.int (zi 63), .int x12]) (h' := mk s) 9 rfl ?_
  refine Ev.icmp_ne (t := 318) rfl rfl (fun hb => ?_) (fun hb => ?_)
  · have h := (if_pos hb).symm.trans h
    refine Ev.run (pc' := 323) (ls' := [some (.ref 24), some (.int x1), o2, o3, some (.int x4), o5, some (.int x6), some (.long x7), none, o9, o10, o11, some (.int x12), some (.long y0), none, some (.long (zshlL (zl 1) (x12 - (zi 1)))), none, o17, o18]) (st' := [.long (zshrL x7 x12)]) (h' := mk s) 3 rfl ?_
    exact k215_323 x1 x4 x6 x12 y0 (zshlL (zl 1) (x12 - (zi 1))) (zshrL x7 x12) s _ _ _ _ _ _ _ _ _ _ _ h
  · have h := (if_neg hb).symm.trans h
    refine Ev.run (pc' := 323) (ls' := [some (.ref 24), some (.int x1), o2, o3, some (.int x4), o5, some (.int x6), some (.long x7), none, o9, o10, o11, some (.int x12), some (.long y0), none, some (.long (zshlL (zl 1) (x12 - (zi 1)))), none, o17, o18]) (st' := [.long (zl 0)]) (h' := mk s) 2 rfl ?_
    exact k215_323 x1 x4 x6 x12 y0 (zshlL (zl 1) (x12 - (zi 1))) (zl 0) s _ _ _ _ _ _ _ _ _ _ _ h
def b215_230 (rec230 : Int32 → Int32 → Int32 → Int32 → Int64 → Int32 → Int32 → zS → Option (Int64 × zS)) (x1 : Int32) (x3 : Int32) (x4 : Int32) (x6 : Int32) (x7 : Int64) (x10 : Int32) (x11 : Int32) (s : zS) : Option (Int64 × zS) := if ¬ (zshrL x7 (zi 61)) = (zl 0) then if (r264 ((zi 62) - x10) (x11 - x4) s) ≤ (zi 63) then if ¬ (r264 ((zi 62) - x10) (x11 - x4) s) = (zi 63) then f215_297 x1 x4 x6 x7 (r264 ((zi 62) - x10) (x11 - x4) s) (x7 &&& ((zshlL (zl 1) (r264 ((zi 62) - x10) (x11 - x4) s)) - (zl 1))) s else f215_297 x1 x4 x6 x7 (r264 ((zi 62) - x10) (x11 - x4) s) x7 s else some (zl 0, s) else rec230 x1 x3 (x4 + zi (-1)) x6 (zshlL x7 (zi 1)) x10 x11 s
theorem kb215_230 {X : mX} {D : Nat} {rec230 : Int32 → Int32 → Int32 → Int32 → Int64 → Int32 → Int32 → zS → Option (Int64 × zS)} (hrec230 : ∀ (x1 : Int32) (x3 : Int32) (x4 : Int32) (x6 : Int32) (x7 : Int64) (x10 : Int32) (x11 : Int32) (s : zS) (r : Int64 × zS) (o2 : Option Value) (o5 : Option Value) (o9 : Option Value) (o12 : Option Value) (o13 : Option Value) (o14 : Option Value) (o15 : Option Value) (o16 : Option Value) (o17 : Option Value) (o18 : Option Value), rec230 x1 x3 x4 x6 x7 x10 x11 s = some r → Ev X (D + 2) mm215 230 [some (.ref 24), some (.int x1), o2, some (.int x3), some (.int x4), o5, some (.int x6), some (.long x7), none, o9, some (.int x10), some (.int x11), o12, o13, o14, o15, o16, o17, o18] [] (mk s) (encL r)) (x1 : Int32) (x3 : Int32) (x4 : Int32) (x6 : Int32) (x7 : Int64) (x10 : Int32) (x11 : Int32) (s : zS) (r : Int64 × zS) (o2 : Option Value) (o5 : Option Value) (o9 : Option Value) (o12 : Option Value) (o13 : Option Value) (o14 : Option Value) (o15 : Option Value) (o16 : Option Value) (o17 : Option Value) (o18 : Option Value)  (h : b215_230 rec230 x1 x3 x4 x6 x7 x10 x11 s = some r) : Ev X (D + 2) mm215 230 [some (.ref 24), some (.int x1), o2, some (.int x3), some (.int x4), o5, some (.int x6), some (.long x7), none, o9, some (.int x10), some (.int x11), o12, o13, o14, o15, o16, o17, o18] [] (mk s) (encL r) := by
  unfold b215_230 at h
  refine Ev.run (pc' := 237) (ls' := [some (.ref 24), some (.int x1), o2, some (.int x3), some (.int x4), o5, some (.int x6), some (.long x7), none, o9, some (.int x10), some (.int x11), o12, o13, o14, o15, o16, o17, o18]) (st' := [.int (lg_cmp (zshrL x7 (zi 61)) (zl 0))]) (h' := mk s) 5 rfl ?_
  refine Ev.ifl_ne (t := 252) rfl rfl (fun hb => ?_) (fun hb => ?_)
  · have h := (if_pos hb).symm.trans h
    refine Ev.run (pc' := 262) (ls' := [some (.ref 24), some (.int x1), o2, some (.int x3), some (.int x4), o5, some (.int x6), some (.long x7), none, o9, some (.int x10), some (.int x11), o12, o13, o14, o15, o16, o17, o18]) (st' := [.int (x11 - x4), .int ((zi 62) - x10)]) (h' := mk s) 6 rfl ?_
    refine Ev.call (M' := mm264) (v := some (.int (r264 ((zi 62) - x10) (x11 - x4) s))) (h' := mk s) rfl rfl rfl (Nat.le_of_ble_eq_true rfl) (k264 (x0 := ((zi 62) - x10)) (x1 := (x11 - x4)) (s := s)  rfl) ?_
    refine Ev.run (pc' := 271) (ls' := [some (.ref 24), some (.int x1), o2, some (.int x3), some (.int x4), o5, some (.int x6), some (.long x7), none, o9, some (.int x10), some (.int x11), some (.int (r264 ((zi 62) - x10) (x11 - x4) s)), o13, o14, o15, o16, o17, o18]) (st' := [.int (zi 63), .int (r264 ((zi 62) - x10) (x11 - x4) s)]) (h' := mk s) 3 rfl ?_
    refine Ev.icmp_le (t := 276) rfl rfl (fun hb => ?_) (fun hb => ?_)
    · have h := (if_pos hb).symm.trans h
      refine Ev.run (pc' := 280) (ls' := [some (.ref 24), some (.int x1), o2, some (.int x3), some (.int x4), o5, some (.int x6), some (.long x7), none, o9, some (.int x10), some (.int x11), some (.int (r264 ((zi 62) - x10) (x11 - x4) s)), o13, o14, o15, o16, o17, o18]) (st' := [.int (zi 63), .int (r264 ((zi 62) - x10) (x11 - x4) s)]) (h' := mk s) 2 rfl ?_
      refine Ev.icmp_ne (t := 288) rfl rfl (fun hb => ?_) (fun hb => ?_)
      · have h := (if_pos hb).symm.trans h
        refine Ev.run (pc' := 297) (ls' := [some (.ref 24), some (.int x1), o2, some (.int x3), some (.int x4), o5, some (.int x6), some (.long x7), none, o9, some (.int x10), some (.int x11), some (.int (r264 ((zi 62) - x10) (x11 - x4) s)), o13, o14, o15, o16, o17, o18]) (st' := [.long (x7 &&& ((zshlL (zl 1) (r264 ((zi 62) - x10) (x11 - x4) s)) - (zl 1)))]) (h' := mk s) 7 rfl ?_
        exact k215_297 x1 x4 x6 x7 (r264 ((zi 62) - x10) (x11 - x4) s) (x7 &&& ((zshlL (zl 1) (r264 ((zi 62) - x10) (x11 - x4) s)) - (zl 1))) s _ _ _ _ _ _ _ _ _ _ _ _ _ h
      · have h := (if_neg hb).symm.trans h
        refine Ev.run (pc' := 297) (ls' := [some (.ref 24), some (.int x1), o2, some (.int x3), some (.int x4), o5, some (.int x6), some (.long x7), none, o9, some (.int x10), some (.int x11), some (.int (r264 ((zi 62) - x10) (x11 - x4) s)), o13, o14, o15, o16, o17, o18]) (st' := [.long x7]) (h' := mk s) 2 rfl ?_
        exact k215_297 x1 x4 x6 x7 (r264 ((zi 62) - x10) (x11 - x4) s) x7 s _ _ _ _ _ _ _ _ _ _ _ _ _ h
    · have h := (if_neg hb).symm.trans h
      refine Ev.run (pc' := 275) (ls' := [some (.ref 24), some (.int x1), o2, some (.int x3), some (.int x4), o5, some (.int x6), some (.long x7), none, o9, some (.int x10), some (.int x11), some (.int (r264 ((zi 62) - x10) (x11 - x4) s)), o13, o14, o15, o16, o17, o18]) (st' := [.long (zl 0)]) (h' := mk s) 1 rfl ?_
      cases h
      exact Ev.fin rfl rfl
  · have h := (if_neg hb).symm.trans h
    refine Ev.run (pc' := 230) (ls' := [some (.ref 24), some (.int x1), o2, some (.int x3), some (.int (x4 + zi (-1))), o5, some (.int x6), some (.long (zshlL x7 (zi 1))), none, o9, some (.int x10), some (.int x11), o12, o13, o14, o15, o16, o17, o18]) (st' := []) (h' := mk s) 6 rfl ?_
    exact hrec230 x1 x3 (x4 + zi (-1)) x6 (zshlL x7 (zi 1)) x10 x11 s _ _ _ _ _ _ _ _ _ _ _ h
def f215_230  : Nat → Int32 → Int32 → Int32 → Int32 → Int64 → Int32 → Int32 → zS → Option (Int64 × zS)
  | 0, _, _, _, _, _, _, _, _ => none
  | n + 1, x1, x3, x4, x6, x7, x10, x11, s => b215_230 (f215_230 n) x1 x3 x4 x6 x7 x10 x11 s
theorem k215_230 {X : mX} {D : Nat}   (n : Nat) : ∀ (x1 : Int32) (x3 : Int32) (x4 : Int32) (x6 : Int32) (x7 : Int64) (x10 : Int32) (x11 : Int32) (s : zS) (r : Int64 × zS) (o2 : Option Value) (o5 : Option Value) (o9 : Option Value) (o12 : Option Value) (o13 : Option Value) (o14 : Option Value) (o15 : Option Value) (o16 : Option Value) (o17 : Option Value) (o18 : Option Value), f215_230  n x1 x3 x4 x6 x7 x10 x11 s = some r → Ev X (D + 2) mm215 230 [some (.ref 24), some (.int x1), o2, some (.int x3), some (.int x4), o5, some (.int x6), some (.long x7), none, o9, some (.int x10), some (.int x11), o12, o13, o14, o15, o16, o17, o18] [] (mk s) (encL r) := by
  induction n with
  | zero => intro x1 x3 x4 x6 x7 x10 x11 s r o2 o5 o9 o12 o13 o14 o15 o16 o17 o18  h; cases h
  | succ n ih => intro x1 x3 x4 x6 x7 x10 x11 s r o2 o5 o9 o12 o13 o14 o15 o16 o17 o18  h; exact kb215_230  ih x1 x3 x4 x6 x7 x10 x11 s r o2 o5 o9 o12 o13 o14 o15 o16 o17 o18  h
def f215_213  (x1 : Int32) (x3 : Int32) (x4 : Int32) (x6 : Int32) (x7 : Int64) (x9 : Int32) (y0 : Int32) (s : zS) : Option (Int64 × zS) := if x1 = zi 0 then f215_230 zF x1 x3 x4 x6 x7 y0 (zi (-1074)) s else f215_230 zF x1 x3 x4 x6 x7 y0 (zi (-149)) s
theorem k215_213 {X : mX} {D : Nat}   (x1 : Int32) (x3 : Int32) (x4 : Int32) (x6 : Int32) (x7 : Int64) (x9 : Int32) (y0 : Int32) (s : zS) (r : Int64 × zS) (o2 : Option Value) (o5 : Option Value) (o10 : Option Value) (o11 : Option Value) (o12 : Option Value) (o13 : Option Value) (o14 : Option Value) (o15 : Option Value) (o16 : Option Value) (o17 : Option Value) (o18 : Option Value)  (h : f215_213  x1 x3 x4 x6 x7 x9 y0 s = some r) : Ev X (D + 2) mm215 213 [some (.ref 24), some (.int x1), o2, some (.int x3), some (.int x4), o5, some (.int x6), some (.long x7), none, some (.int x9), o10, o11, o12, o13, o14, o15, o16, o17, o18] [.int y0] (mk s) (encL r) := by
  unfold f215_213 at h
  refine Ev.run (pc' := 216) (ls' := [some (.ref 24), some (.int x1), o2, some (.int x3), some (.int x4), o5, some (.int x6), some (.long x7), none, some (.int x9), some (.int y0), o11, o12, o13, o14, o15, o16, o17, o18]) (st' := [.int x1]) (h' := mk s) 2 rfl ?_
  refine Ev.if_eq (t := 225) rfl rfl (fun hb => ?_) (fun hb => ?_)
  · have h := (if_pos hb).symm.trans h
    refine Ev.run (pc' := 230) (ls' := [some (.ref 24), some (.int x1), o2, some (.int x3), some (.int x4), o5, some (.int x6), some (.long x7), none, some (.int x9), some (.int y0), some (.int (zi (-1074))), o12, o13, o14, o15, o16, o17, o18]) (st' := []) (h' := mk s) 2 rfl ?_
    exact k215_230 zF x1 x3 x4 x6 x7 y0 (zi (-1074)) s _ _ _ _ _ _ _ _ _ _ _ h
  · have h := (if_neg hb).symm.trans h
    refine Ev.run (pc' := 230) (ls' := [some (.ref 24), some (.int x1), o2, some (.int x3), some (.int x4), o5, some (.int x6), some (.long x7), none, some (.int x9), some (.int y0), some (.int (zi (-149))), o12, o13, o14, o15, o16, o17, o18]) (st' := []) (h' := mk s) 3 rfl ?_
    exact k215_230 zF x1 x3 x4 x6 x7 y0 (zi (-149)) s _ _ _ _ _ _ _ _ _ _ _ h
def f215_170  (x1 : Int32) (x2 : Int32) (x3 : Int32) (x4 : Int32) (x6 : Int32) (x7 : Int64) (s : zS) : Option (Int64 × zS) := zb1 (f209 (x2 + (zi 1)) s) (fun v2 s1 => if (s1.1 24 40) = zi 0 then some (zl 0, s1) else if ¬ x7 = (zl 0) then if x1 = zi 0 then f215_213 x1 x3 (x4 + v2) x6 x7 v2 (zi 53) s1 else f215_213 x1 x3 (x4 + v2) x6 x7 v2 (zi 24) s1 else some (zl 0, s1))
theorem k215_170 {X : mX} {D : Nat}   (x1 : Int32) (x2 : Int32) (x3 : Int32) (x4 : Int32) (x6 : Int32) (x7 : Int64) (s : zS) (r : Int64 × zS) (o5 : Option Value) (o9 : Option Value) (o10 : Option Value) (o11 : Option Value) (o12 : Option Value) (o13 : Option Value) (o14 : Option Value) (o15 : Option Value) (o16 : Option Value) (o17 : Option Value) (o18 : Option Value)  (h : f215_170  x1 x2 x3 x4 x6 x7 s = some r) : Ev X (D + 2) mm215 170 [some (.ref 24), some (.int x1), some (.int x2), some (.int x3), some (.int x4), o5, some (.int x6), some (.long x7), none, o9, o10, o11, o12, o13, o14, o15, o16, o17, o18] [] (mk s) (encL r) := by
  unfold f215_170 at h
  refine Ev.run (pc' := 174) (ls' := [some (.ref 24), some (.int x1), some (.int x2), some (.int x3), some (.int x4), o5, some (.int x6), some (.long x7), none, o9, o10, o11, o12, o13, o14, o15, o16, o17, o18]) (st' := [.int (x2 + (zi 1)), .ref 24]) (h' := mk s) 4 rfl ?_
  obtain ⟨v2, s1, hq, h⟩ := zb1_some h
  refine Ev.call (M' := mm209) (v := some (.int v2)) (h' := mk s1) rfl rfl rfl (Nat.le_of_ble_eq_true rfl) (k209 hq) ?_
  refine Ev.run (pc' := 183) (ls' := [some (.ref 24), some (.int x1), some (.int x2), some (.int x3), some (.int x4), o5, some (.int x6), some (.long x7), none, some (.int v2), o10, o11, o12, o13, o14, o15, o16, o17, o18]) (st' := [.int (s1.1 24 40)]) (h' := mk s1) 3 rfl ?_
  refine Ev.if_eq (t := 193) rfl rfl (fun hb => ?_) (fun hb => ?_)
  · have h := (if_pos hb).symm.trans h
    refine Ev.run (pc' := 194) (ls' := [some (.ref 24), some (.int x1), some (.int x2), some (.int x3), some (.int x4), o5, some (.int x6), some (.long x7), none, some (.int v2), o10, o11, o12, o13, o14, o15, o16, o17, o18]) (st' := [.long (zl 0)]) (h' := mk s1) 1 rfl ?_
    cases h
    exact Ev.fin rfl rfl
  · have h := (if_neg hb).symm.trans h
    refine Ev.run (pc' := 190) (ls' := [some (.ref 24), some (.int x1), some (.int x2), some (.int x3), some (.int x4), o5, some (.int x6), some (.long x7), none, some (.int v2), o10, o11, o12, o13, o14, o15, o16, o17, o18]) (st' := [.int (lg_cmp x7 (zl 0))]) (h' := mk s1) 3 rfl ?_
    refine Ev.ifl_ne (t := 195) rfl rfl (fun hb => ?_) (fun hb => ?_)
    · have h := (if_pos hb).symm.trans h
      refine Ev.run (pc' := 203) (ls' := [some (.ref 24), some (.int x1), some (.int x2), some (.int x3), some (.int (x4 + v2)), o5, some (.int x6), some (.long x7), none, some (.int v2), o10, o11, o12, o13, o14, o15, o16, o17, o18]) (st' := [.int x1]) (h' := mk s1) 5 rfl ?_
      refine Ev.if_eq (t := 211) rfl rfl (fun hb => ?_) (fun hb => ?_)
      · have h := (if_pos hb).symm.trans h
        refine Ev.run (pc' := 213) (ls' := [some (.ref 24), some (.int x1), some (.int x2), some (.int x3), some (.int (x4 + v2)), o5, some (.int x6), some (.long x7), none, some (.int v2), o10, o11, o12, o13, o14, o15, o16, o17, o18]) (st' := [.int (zi 53)]) (h' := mk s1) 1 rfl ?_
        exact k215_213 x1 x3 (x4 + v2) x6 x7 v2 (zi 53) s1 _ _ _ _ _ _ _ _ _ _ _ _ h
      · have h := (if_neg hb).symm.trans h
        refine Ev.run (pc' := 213) (ls' := [some (.ref 24), some (.int x1), some (.int x2), some (.int x3), some (.int (x4 + v2)), o5, some (.int x6), some (.long x7), none, some (.int v2), o10, o11, o12, o13, o14, o15, o16, o17, o18]) (st' := [.int (zi 24)]) (h' := mk s1) 2 rfl ?_
        exact k215_213 x1 x3 (x4 + v2) x6 x7 v2 (zi 24) s1 _ _ _ _ _ _ _ _ _ _ _ _ h
    · have h := (if_neg hb).symm.trans h
      refine Ev.run (pc' := 194) (ls' := [some (.ref 24), some (.int x1), some (.int x2), some (.int x3), some (.int x4), o5, some (.int x6), some (.long x7), none, some (.int v2), o10, o11, o12, o13, o14, o15, o16, o17, o18]) (st' := [.long (zl 0)]) (h' := mk s1) 1 rfl ?_
      cases h
      exact Ev.fin rfl rfl
def f215_139  (x1 : Int32) (x2 : Int32) (x3 : Int32) (x4 : Int32) (x6 : Int32) (x7 : Int64) (s : zS) : Option (Int64 × zS) := if x3 = zi 0 then some (zl 0, setI s 24 40 (zi 0)) else zb1 (f205 x2 s) (fun v2 s1 => if v2 = (zi 112) then f215_170 x1 x2 x3 x4 x6 x7 s1 else zb1 (f205 x2 s1) (fun v4 s3 => if v4 = (zi 80) then f215_170 x1 x2 x3 x4 x6 x7 s3 else some (zl 0, setI s3 24 40 (zi 0))))
theorem k215_139 {X : mX} {D : Nat}   (x1 : Int32) (x2 : Int32) (x3 : Int32) (x4 : Int32) (x6 : Int32) (x7 : Int64) (s : zS) (r : Int64 × zS) (o5 : Option Value) (o9 : Option Value) (o10 : Option Value) (o11 : Option Value) (o12 : Option Value) (o13 : Option Value) (o14 : Option Value) (o15 : Option Value) (o16 : Option Value) (o17 : Option Value) (o18 : Option Value)  (h : f215_139  x1 x2 x3 x4 x6 x7 s = some r) : Ev X (D + 2) mm215 139 [some (.ref 24), some (.int x1), some (.int x2), some (.int x3), some (.int x4), o5, some (.int x6), some (.long x7), none, o9, o10, o11, o12, o13, o14, o15, o16, o17, o18] [] (mk s) (encL r) := by
  unfold f215_139 at h
  refine Ev.run (pc' := 140) (ls' := [some (.ref 24), some (.int x1), some (.int x2), some (.int x3), some (.int x4), o5, some (.int x6), some (.long x7), none, o9, o10, o11, o12, o13, o14, o15, o16, o17, o18]) (st' := [.int x3]) (h' := mk s) 1 rfl ?_
  refine Ev.if_eq (t := 163) rfl rfl (fun hb => ?_) (fun hb => ?_)
  · have h := (if_pos hb).symm.trans h
    refine Ev.run (pc' := 165) (ls' := [some (.ref 24), some (.int x1), some (.int x2), some (.int x3), some (.int x4), o5, some (.int x6), some (.long x7), none, o9, o10, o11, o12, o13, o14, o15, o16, o17, o18]) (st' := [.int (zi 0), .ref 24]) (h' := mk s) 2 rfl ?_
    refine Ev.step (pc' := 168) rfl (put_12_40 (by decide) rfl) ?_
    refine Ev.run (pc' := 169) (ls' := [some (.ref 24), some (.int x1), some (.int x2), some (.int x3), some (.int x4), o5, some (.int x6), some (.long x7), none, o9, o10, o11, o12, o13, o14, o15, o16, o17, o18]) (st' := [.long (zl 0)]) (h' := mk (setI s 24 40 (zi 0))) 1 rfl ?_
    cases h
    exact Ev.fin rfl rfl
  · have h := (if_neg hb).symm.trans h
    refine Ev.run (pc' := 145) (ls' := [some (.ref 24), some (.int x1), some (.int x2), some (.int x3), some (.int x4), o5, some (.int x6), some (.long x7), none, o9, o10, o11, o12, o13, o14, o15, o16, o17, o18]) (st' := [.int x2, .ref 24]) (h' := mk s) 2 rfl ?_
    obtain ⟨v2, s1, hq, h⟩ := zb1_some h
    refine Ev.call (M' := mm205) (v := some (.int v2)) (h' := mk s1) rfl rfl rfl (Nat.le_of_ble_eq_true rfl) (k205 hq) ?_
    refine Ev.run (pc' := 150) (ls' := [some (.ref 24), some (.int x1), some (.int x2), some (.int x3), some (.int x4), o5, some (.int x6), some (.long x7), none, o9, o10, o11, o12, o13, o14, o15, o16, o17, o18]) (st' := [.int (zi 112), .int v2]) (h' := mk s1) 1 rfl ?_
    refine Ev.icmp_eq (t := 170) rfl rfl (fun hb => ?_) (fun hb => ?_)
    · have h := (if_pos hb).symm.trans h
      exact k215_170 x1 x2 x3 x4 x6 x7 s1 _ _ _ _ _ _ _ _ _ _ _ _ h
    · have h := (if_neg hb).symm.trans h
      refine Ev.run (pc' := 155) (ls' := [some (.ref 24), some (.int x1), some (.int x2), some (.int x3), some (.int x4), o5, some (.int x6), some (.long x7), none, o9, o10, o11, o12, o13, o14, o15, o16, o17, o18]) (st' := [.int x2, .ref 24]) (h' := mk s1) 2 rfl ?_
      obtain ⟨v4, s3, hq, h⟩ := zb1_some h
      refine Ev.call (M' := mm205) (v := some (.int v4)) (h' := mk s3) rfl rfl rfl (Nat.le_of_ble_eq_true rfl) (k205 hq) ?_
      refine Ev.run (pc' := 160) (ls' := [some (.ref 24), some (.int x1), some (.int x2), some (.int x3), some (.int x4), o5, some (.int x6), some (.long x7), none, o9, o10, o11, o12, o13, o14, o15, o16, o17, o18]) (st' := [.int (zi 80), .int v4]) (h' := mk s3) 1 rfl ?_
      refine Ev.icmp_eq (t := 170) rfl rfl (fun hb => ?_) (fun hb => ?_)
      · have h := (if_pos hb).symm.trans h
        exact k215_170 x1 x2 x3 x4 x6 x7 s3 _ _ _ _ _ _ _ _ _ _ _ _ h
      · have h := (if_neg hb).symm.trans h
        refine Ev.run (pc' := 165) (ls' := [some (.ref 24), some (.int x1), some (.int x2), some (.int x3), some (.int x4), o5, some (.int x6), some (.long x7), none, o9, o10, o11, o12, o13, o14, o15, o16, o17, o18]) (st' := [.int (zi 0), .ref 24]) (h' := mk s3) 2 rfl ?_
        refine Ev.step (pc' := 168) rfl (put_12_40 (by decide) rfl) ?_
        refine Ev.run (pc' := 169) (ls' := [some (.ref 24), some (.int x1), some (.int x2), some (.int x3), some (.int x4), o5, some (.int x6), some (.long x7), none, o9, o10, o11, o12, o13, o14, o15, o16, o17, o18]) (st' := [.long (zl 0)]) (h' := mk (setI s3 24 40 (zi 0))) 1 rfl ?_
        cases h
        exact Ev.fin rfl rfl
def f215_122 (rec21 : Int32 → Int32 → Int32 → Int32 → Int32 → Int32 → Int64 → zS → Option (Int64 × zS)) (x1 : Int32) (x2 : Int32) (x3 : Int32) (x4 : Int32) (x5 : Int32) (x7 : Int64) (y0 : Int32) (y1 : Int32) (s : zS) : Option (Int64 × zS) := if ¬ x5 = zi 0 then rec21 x1 (x2 + zi 1) x3 x4 x5 (y0 ||| y1) x7 s else rec21 x1 (x2 + zi 1) x3 (x4 + zi 4) x5 (y0 ||| y1) x7 s
theorem k215_122 {X : mX} {D : Nat} {rec21 : Int32 → Int32 → Int32 → Int32 → Int32 → Int32 → Int64 → zS → Option (Int64 × zS)} (hrec21 : ∀ (x1 : Int32) (x2 : Int32) (x3 : Int32) (x4 : Int32) (x5 : Int32) (x6 : Int32) (x7 : Int64) (s : zS) (r : Int64 × zS) (o9 : Option Value) (o10 : Option Value) (o11 : Option Value) (o12 : Option Value) (o13 : Option Value) (o14 : Option Value) (o15 : Option Value) (o16 : Option Value) (o17 : Option Value) (o18 : Option Value), rec21 x1 x2 x3 x4 x5 x6 x7 s = some r → Ev X (D + 2) mm215 21 [some (.ref 24), some (.int x1), some (.int x2), some (.int x3), some (.int x4), some (.int x5), some (.int x6), some (.long x7), none, o9, o10, o11, o12, o13, o14, o15, o16, o17, o18] [] (mk s) (encL r)) (x1 : Int32) (x2 : Int32) (x3 : Int32) (x4 : Int32) (x5 : Int32) (x7 : Int64) (y0 : Int32) (y1 : Int32) (s : zS) (r : Int64 × zS) (o6 : Option Value) (o9 : Option Value) (o10 : Option Value) (o11 : Option Value) (o12 : Option Value) (o13 : Option Value) (o14 : Option Value) (o15 : Option Value) (o16 : Option Value) (o17 : Option Value) (o18 : Option Value)  (h : f215_122 rec21 x1 x2 x3 x4 x5 x7 y0 y1 s = some r) : Ev X (D + 2) mm215 122 [some (.ref 24), some (.int x1), some (.int x2), some (.int x3), some (.int x4), some (.int x5), o6, some (.long x7), none, o9, o10, o11, o12, o13, o14, o15, o16, o17, o18] [.int y1, .int y0] (mk s) (encL r) := by
  unfold f215_122 at h
  refine Ev.run (pc' := 127) (ls' := [some (.ref 24), some (.int x1), some (.int x2), some (.int x3), some (.int x4), some (.int x5), some (.int (y0 ||| y1)), some (.long x7), none, o9, o10, o11, o12, o13, o14, o15, o16, o17, o18]) (st' := [.int x5]) (h' := mk s) 3 rfl ?_
  refine Ev.if_ne (t := 133) rfl rfl (fun hb => ?_) (fun hb => ?_)
  · have h := (if_pos hb).symm.trans h
    refine Ev.run (pc' := 21) (ls' := [some (.ref 24), some (.int x1), some (.int (x2 + zi 1)), some (.int x3), some (.int x4), some (.int x5), some (.int (y0 ||| y1)), some (.long x7), none, o9, o10, o11, o12, o13, o14, o15, o16, o17, o18]) (st' := []) (h' := mk s) 2 rfl ?_
    exact hrec21 x1 (x2 + zi 1) x3 x4 x5 (y0 ||| y1) x7 s _ _ _ _ _ _ _ _ _ _ _ h
  · have h := (if_neg hb).symm.trans h
    refine Ev.run (pc' := 21) (ls' := [some (.ref 24), some (.int x1), some (.int (x2 + zi 1)), some (.int x3), some (.int (x4 + zi 4)), some (.int x5), some (.int (y0 ||| y1)), some (.long x7), none, o9, o10, o11, o12, o13, o14, o15, o16, o17, o18]) (st' := []) (h' := mk s) 3 rfl ?_
    exact hrec21 x1 (x2 + zi 1) x3 (x4 + zi 4) x5 (y0 ||| y1) x7 s _ _ _ _ _ _ _ _ _ _ _ h
def f215_47 (rec21 : Int32 → Int32 → Int32 → Int32 → Int32 → Int32 → Int64 → zS → Option (Int64 × zS)) (x1 : Int32) (x2 : Int32) (x3 : Int32) (x4 : Int32) (x5 : Int32) (x6 : Int32) (x7 : Int64) (s : zS) : Option (Int64 × zS) := zb1 (f205 x2 s) (fun v2 s1 => if ¬ v2 = (zi 46) then if ¬ (zshrL x7 (zi 56)) = (zl 0) then zb1 (f205 x2 s1) (fun v4 s3 => if v4 = (zi 48) then f215_122 rec21 x1 x2 (x3 + zi 1) x4 x5 x7 x6 (zi 0) s3 else f215_122 rec21 x1 x2 (x3 + zi 1) x4 x5 x7 x6 (zi 1) s3) else zb1 (f205 x2 s1) (fun v6 s5 => zb1 (f206 v6 s5) (fun v8 s7 => if x5 = zi 0 then rec21 x1 (x2 + zi 1) (x3 + zi 1) x4 x5 x6 (((zl 16) * x7) + (zI2L v8)) s7 else rec21 x1 (x2 + zi 1) (x3 + zi 1) (x4 + zi (-4)) x5 x6 (((zl 16) * x7) + (zI2L v8)) s7)) else rec21 x1 (x2 + zi 1) x3 x4 (zi 1) x6 x7 s1)
theorem k215_47 {X : mX} {D : Nat} {rec21 : Int32 → Int32 → Int32 → Int32 → Int32 → Int32 → Int64 → zS → Option (Int64 × zS)} (hrec21 : ∀ (x1 : Int32) (x2 : Int32) (x3 : Int32) (x4 : Int32) (x5 : Int32) (x6 : Int32) (x7 : Int64) (s : zS) (r : Int64 × zS) (o9 : Option Value) (o10 : Option Value) (o11 : Option Value) (o12 : Option Value) (o13 : Option Value) (o14 : Option Value) (o15 : Option Value) (o16 : Option Value) (o17 : Option Value) (o18 : Option Value), rec21 x1 x2 x3 x4 x5 x6 x7 s = some r → Ev X (D + 2) mm215 21 [some (.ref 24), some (.int x1), some (.int x2), some (.int x3), some (.int x4), some (.int x5), some (.int x6), some (.long x7), none, o9, o10, o11, o12, o13, o14, o15, o16, o17, o18] [] (mk s) (encL r)) (x1 : Int32) (x2 : Int32) (x3 : Int32) (x4 : Int32) (x5 : Int32) (x6 : Int32) (x7 : Int64) (s : zS) (r : Int64 × zS) (o9 : Option Value) (o10 : Option Value) (o11 : Option Value) (o12 : Option Value) (o13 : Option Value) (o14 : Option Value) (o15 : Option Value) (o16 : Option Value) (o17 : Option Value) (o18 : Option Value)  (h : f215_47 rec21 x1 x2 x3 x4 x5 x6 x7 s = some r) : Ev X (D + 2) mm215 47 [some (.ref 24), some (.int x1), some (.int x2), some (.int x3), some (.int x4), some (.int x5), some (.int x6), some (.long x7), none, o9, o10, o11, o12, o13, o14, o15, o16, o17, o18] [] (mk s) (encL r) := by
  unfold f215_47 at h
  refine Ev.run (pc' := 49) (ls' := [some (.ref 24), some (.int x1), some (.int x2), some (.int x3), some (.int x4), some (.int x5), some (.int x6), some (.long x7), none, o9, o10, o11, o12, o13, o14, o15, o16, o17, o18]) (st' := [.int x2, .ref 24]) (h' := mk s) 2 rfl ?_
  obtain ⟨v2, s1, hq, h⟩ := zb1_some h
  refine Ev.call (M' := mm205) (v := some (.int v2)) (h' := mk s1) rfl rfl rfl (Nat.le_of_ble_eq_true rfl) (k205 hq) ?_
  refine Ev.run (pc' := 54) (ls' := [some (.ref 24), some (.int x1), some (.int x2), some (.int x3), some (.int x4), some (.int x5), some (.int x6), some (.long x7), none, o9, o10, o11, o12, o13, o14, o15, o16, o17, o18]) (st' := [.int (zi 46), .int v2]) (h' := mk s1) 1 rfl ?_
  refine Ev.icmp_ne (t := 63) rfl rfl (fun hb => ?_) (fun hb => ?_)
  · have h := (if_pos hb).symm.trans h
    refine Ev.run (pc' := 73) (ls' := [some (.ref 24), some (.int x1), some (.int x2), some (.int (x3 + zi 1)), some (.int x4), some (.int x5), some (.int x6), some (.long x7), none, o9, o10, o11, o12, o13, o14, o15, o16, o17, o18]) (st' := [.int (lg_cmp (zshrL x7 (zi 56)) (zl 0))]) (h' := mk s1) 6 rfl ?_
    refine Ev.ifl_ne (t := 105) rfl rfl (fun hb => ?_) (fun hb => ?_)
    · have h := (if_pos hb).symm.trans h
      refine Ev.run (pc' := 109) (ls' := [some (.ref 24), some (.int x1), some (.int x2), some (.int (x3 + zi 1)), some (.int x4), some (.int x5), some (.int x6), some (.long x7), none, o9, o10, o11, o12, o13, o14, o15, o16, o17, o18]) (st' := [.int x2, .ref 24, .int x6]) (h' := mk s1) 3 rfl ?_
      obtain ⟨v4, s3, hq, h⟩ := zb1_some h
      refine Ev.call (M' := mm205) (v := some (.int v4)) (h' := mk s3) rfl rfl rfl (Nat.le_of_ble_eq_true rfl) (k205 hq) ?_
      refine Ev.run (pc' := 114) (ls' := [some (.ref 24), some (.int x1), some (.int x2), some (.int (x3 + zi 1)), some (.int x4), some (.int x5), some (.int x6), some (.long x7), none, o9, o10, o11, o12, o13, o14, o15, o16, o17, o18]) (st' := [.int (zi 48), .int v4, .int x6]) (h' := mk s3) 1 rfl ?_
      refine Ev.icmp_eq (t := 121) rfl rfl (fun hb => ?_) (fun hb => ?_)
      · have h := (if_pos hb).symm.trans h
        refine Ev.run (pc' := 122) (ls' := [some (.ref 24), some (.int x1), some (.int x2), some (.int (x3 + zi 1)), some (.int x4), some (.int x5), some (.int x6), some (.long x7), none, o9, o10, o11, o12, o13, o14, o15, o16, o17, o18]) (st' := [.int (zi 0), .int x6]) (h' := mk s3) 1 rfl ?_
        exact k215_122 hrec21 x1 x2 (x3 + zi 1) x4 x5 x7 x6 (zi 0) s3 _ _ _ _ _ _ _ _ _ _ _ _ h
      · have h := (if_neg hb).symm.trans h
        refine Ev.run (pc' := 122) (ls' := [some (.ref 24), some (.int x1), some (.int x2), some (.int (x3 + zi 1)), some (.int x4), some (.int x5), some (.int x6), some (.long x7), none, o9, o10, o11, o12, o13, o14, o15, o16, o17, o18]) (st' := [.int (zi 1), .int x6]) (h' := mk s3) 2 rfl ?_
        exact k215_122 hrec21 x1 x2 (x3 + zi 1) x4 x5 x7 x6 (zi 1) s3 _ _ _ _ _ _ _ _ _ _ _ _ h
    · have h := (if_neg hb).symm.trans h
      refine Ev.run (pc' := 84) (ls' := [some (.ref 24), some (.int x1), some (.int x2), some (.int (x3 + zi 1)), some (.int x4), some (.int x5), some (.int x6), some (.long x7), none, o9, o10, o11, o12, o13, o14, o15, o16, o17, o18]) (st' := [.int x2, .ref 24, .long ((zl 16) * x7)]) (h' := mk s1) 5 rfl ?_
      obtain ⟨v6, s5, hq, h⟩ := zb1_some h
      refine Ev.call (M' := mm205) (v := some (.int v6)) (h' := mk s5) rfl rfl rfl (Nat.le_of_ble_eq_true rfl) (k205 hq) ?_
      obtain ⟨v8, s7, hq, h⟩ := zb1_some h
      refine Ev.call (M' := mm206) (v := some (.int v8)) (h' := mk s7) rfl rfl rfl (Nat.le_of_ble_eq_true rfl) (k206 hq) ?_
      refine Ev.run (pc' := 96) (ls' := [some (.ref 24), some (.int x1), some (.int x2), some (.int (x3 + zi 1)), some (.int x4), some (.int x5), some (.int x6), some (.long (((zl 16) * x7) + (zI2L v8))), none, o9, o10, o11, o12, o13, o14, o15, o16, o17, o18]) (st' := [.int x5]) (h' := mk s7) 4 rfl ?_
      refine Ev.if_eq (t := 133) rfl rfl (fun hb => ?_) (fun hb => ?_)
      · have h := (if_pos hb).symm.trans h
        refine Ev.run (pc' := 21) (ls' := [some (.ref 24), some (.int x1), some (.int (x2 + zi 1)), some (.int (x3 + zi 1)), some (.int x4), some (.int x5), some (.int x6), some (.long (((zl 16) * x7) + (zI2L v8))), none, o9, o10, o11, o12, o13, o14, o15, o16, o17, o18]) (st' := []) (h' := mk s7) 2 rfl ?_
        exact hrec21 x1 (x2 + zi 1) (x3 + zi 1) x4 x5 x6 (((zl 16) * x7) + (zI2L v8)) s7 _ _ _ _ _ _ _ _ _ _ _ h
      · have h := (if_neg hb).symm.trans h
        refine Ev.run (pc' := 21) (ls' := [some (.ref 24), some (.int x1), some (.int (x2 + zi 1)), some (.int (x3 + zi 1)), some (.int (x4 + zi (-4))), some (.int x5), some (.int x6), some (.long (((zl 16) * x7) + (zI2L v8))), none, o9, o10, o11, o12, o13, o14, o15, o16, o17, o18]) (st' := []) (h' := mk s7) 4 rfl ?_
        exact hrec21 x1 (x2 + zi 1) (x3 + zi 1) (x4 + zi (-4)) x5 x6 (((zl 16) * x7) + (zI2L v8)) s7 _ _ _ _ _ _ _ _ _ _ _ h
  · have h := (if_neg hb).symm.trans h
    refine Ev.run (pc' := 21) (ls' := [some (.ref 24), some (.int x1), some (.int (x2 + zi 1)), some (.int x3), some (.int x4), some (.int (zi 1)), some (.int x6), some (.long x7), none, o9, o10, o11, o12, o13, o14, o15, o16, o17, o18]) (st' := []) (h' := mk s1) 5 rfl ?_
    exact hrec21 x1 (x2 + zi 1) x3 x4 (zi 1) x6 x7 s1 _ _ _ _ _ _ _ _ _ _ _ h
def b215_21 (rec21 : Int32 → Int32 → Int32 → Int32 → Int32 → Int32 → Int64 → zS → Option (Int64 × zS)) (x1 : Int32) (x2 : Int32) (x3 : Int32) (x4 : Int32) (x5 : Int32) (x6 : Int32) (x7 : Int64) (s : zS) : Option (Int64 × zS) := zb1 (f205 x2 s) (fun v2 s1 => zb1 (f206 v2 s1) (fun v4 s3 => if v4 ≥ zi 0 then f215_47 rec21 x1 x2 x3 x4 x5 x6 x7 s3 else zb1 (f205 x2 s3) (fun v6 s5 => if ¬ v6 = (zi 46) then f215_139 x1 x2 x3 x4 x6 x7 s5 else if ¬ x5 = zi 0 then f215_139 x1 x2 x3 x4 x6 x7 s5 else f215_47 rec21 x1 x2 x3 x4 x5 x6 x7 s5)))
theorem kb215_21 {X : mX} {D : Nat} {rec21 : Int32 → Int32 → Int32 → Int32 → Int32 → Int32 → Int64 → zS → Option (Int64 × zS)} (hrec21 : ∀ (x1 : Int32) (x2 : Int32) (x3 : Int32) (x4 : Int32) (x5 : Int32) (x6 : Int32) (x7 : Int64) (s : zS) (r : Int64 × zS) (o9 : Option Value) (o10 : Option Value) (o11 : Option Value) (o12 : Option Value) (o13 : Option Value) (o14 : Option Value) (o15 : Option Value) (o16 : Option Value) (o17 : Option Value) (o18 : Option Value), rec21 x1 x2 x3 x4 x5 x6 x7 s = some r → Ev X (D + 2) mm215 21 [some (.ref 24), some (.int x1), some (.int x2), some (.int x3), some (.int x4), some (.int x5), some (.int x6), some (.long x7), none, o9, o10, o11, o12, o13, o14, o15, o16, o17, o18] [] (mk s) (encL r)) (x1 : Int32) (x2 : Int32) (x3 : Int32) (x4 : Int32) (x5 : Int32) (x6 : Int32) (x7 : Int64) (s : zS) (r : Int64 × zS) (o9 : Option Value) (o10 : Option Value) (o11 : Option Value) (o12 : Option Value) (o13 : Option Value) (o14 : Option Value) (o15 : Option Value) (o16 : Option Value) (o17 : Option Value) (o18 : Option Value)  (h : b215_21 rec21 x1 x2 x3 x4 x5 x6 x7 s = some r) : Ev X (D + 2) mm215 21 [some (.ref 24), some (.int x1), some (.int x2), some (.int x3), some (.int x4), some (.int x5), some (.int x6), some (.long x7), none, o9, o10, o11, o12, o13, o14, o15, o16, o17, o18] [] (mk s) (encL r) := by
  unfold b215_21 at h
  refine Ev.run (pc' := 23) (ls' := [some (.ref 24), some (.int x1), some (.int x2), some (.int x3), some (.int x4), some (.int x5), some (.int x6), some (.long x7), none, o9, o10, o11, o12, o13, o14, o15, o16, o17, o18]) (st' := [.int x2, .ref 24]) (h' := mk s) 2 rfl ?_
  obtain ⟨v2, s1, hq, h⟩ := zb1_some h
  refine Ev.call (M' := mm205) (v := some (.int v2)) (h' := mk s1) rfl rfl rfl (Nat.le_of_ble_eq_true rfl) (k205 hq) ?_
  obtain ⟨v4, s3, hq, h⟩ := zb1_some h
  refine Ev.call (M' := mm206) (v := some (.int v4)) (h' := mk s3) rfl rfl rfl (Nat.le_of_ble_eq_true rfl) (k206 hq) ?_
  refine Ev.if_ge (t := 47) rfl rfl (fun hb => ?_) (fun hb => ?_)
  · have h := (if_pos hb).symm.trans h
    exact k215_47 hrec21 x1 x2 x3 x4 x5 x6 x7 s3 _ _ _ _ _ _ _ _ _ _ _ h
  · have h := (if_neg hb).symm.trans h
    refine Ev.run (pc' := 34) (ls' := [some (.ref 24), some (.int x1), some (.int x2), some (.int x3), some (.int x4), some (.int x5), some (.int x6), some (.long x7), none, o9, o10, o11, o12, o13, o14, o15, o16, o17, o18]) (st' := [.int x2, .ref 24]) (h' := mk s3) 2 rfl ?_
    obtain ⟨v6, s5, hq, h⟩ := zb1_some h
    refine Ev.call (M' := mm205) (v := some (.int v6)) (h' := mk s5) rfl rfl rfl (Nat.le_of_ble_eq_true rfl) (k205 hq) ?_
    refine Ev.run (pc' := 39) (ls' := [some (.ref 24), some (.int x1), some (.int x2), some (.int x3), some (.int x4), some (.int x5), some (.int x6), some (.long x7), none, o9, o10, o11, o12, o13, o14, o15, o16, o17, o18]) (st' := [.int (zi 46), .int v6]) (h' := mk s5) 1 rfl ?_
    refine Ev.icmp_ne (t := 139) rfl rfl (fun hb => ?_) (fun hb => ?_)
    · have h := (if_pos hb).symm.trans h
      exact k215_139 x1 x2 x3 x4 x6 x7 s5 _ _ _ _ _ _ _ _ _ _ _ _ h
    · have h := (if_neg hb).symm.trans h
      refine Ev.run (pc' := 44) (ls' := [some (.ref 24), some (.int x1), some (.int x2), some (.int x3), some (.int x4), some (.int x5), some (.int x6), some (.long x7), none, o9, o10, o11, o12, o13, o14, o15, o16, o17, o18]) (st' := [.int x5]) (h' := mk s5) 1 rfl ?_
      refine Ev.if_ne (t := 139) rfl rfl (fun hb => ?_) (fun hb => ?_)
      · have h := (if_pos hb).symm.trans h
        exact k215_139 x1 x2 x3 x4 x6 x7 s5 _ _ _ _ _ _ _ _ _ _ _ _ h
      · have h := (if_neg hb).symm.trans h
        exact k215_47 hrec21 x1 x2 x3 x4 x5 x6 x7 s5 _ _ _ _ _ _ _ _ _ _ _ h
def f215_21  : Nat → Int32 → Int32 → Int32 → Int32 → Int32 → Int32 → Int64 → zS → Option (Int64 × zS)
  | 0, _, _, _, _, _, _, _, _ => none
  | n + 1, x1, x2, x3, x4, x5, x6, x7, s => b215_21 (f215_21 n) x1 x2 x3 x4 x5 x6 x7 s
theorem k215_21 {X : mX} {D : Nat}   (n : Nat) : ∀ (x1 : Int32) (x2 : Int32) (x3 : Int32) (x4 : Int32) (x5 : Int32) (x6 : Int32) (x7 : Int64) (s : zS) (r : Int64 × zS) (o9 : Option Value) (o10 : Option Value) (o11 : Option Value) (o12 : Option Value) (o13 : Option Value) (o14 : Option Value) (o15 : Option Value) (o16 : Option Value) (o17 : Option Value) (o18 : Option Value), f215_21  n x1 x2 x3 x4 x5 x6 x7 s = some r → Ev X (D + 2) mm215 21 [some (.ref 24), some (.int x1), some (.int x2), some (.int x3), some (.int x4), some (.int x5), some (.int x6), some (.long x7), none, o9, o10, o11, o12, o13, o14, o15, o16, o17, o18] [] (mk s) (encL r) := by
  induction n with
  | zero => intro x1 x2 x3 x4 x5 x6 x7 s r o9 o10 o11 o12 o13 o14 o15 o16 o17 o18  h; cases h
  | succ n ih => intro x1 x2 x3 x4 x5 x6 x7 s r o9 o10 o11 o12 o13 o14 o15 o16 o17 o18  h; exact kb215_21  ih x1 x2 x3 x4 x5 x6 x7 s r o9 o10 o11 o12 o13 o14 o15 o16 o17 o18  h
def f215  (x1 : Int32) (s : zS) : Option (Int64 × zS) := f215_21 zF x1 ((s.1 24 38) + (zi 2)) (zi 0) (zi 0) (zi 0) (zi 0) (zl 0) s
theorem k215 {X : mX} {D : Nat} {x1 : Int32} {s : zS} {r : Int64 × zS}  (h : f215 x1 s = some r) : Ev X (D + 2) mm215 0 [some (.ref 24), some (.int x1), none, none, none, none, none, none, none, none, none, none, none, none, none, none, none, none, none] [] (mk s) (encL r) := by
  unfold f215 at h
  refine Ev.run (pc' := 21) (ls' := [some (.ref 24), some (.int x1), some (.int ((s.1 24 38) + (zi 2))), some (.int (zi 0)), some (.int (zi 0)), some (.int (zi 0)), some (.int (zi 0)), some (.long (zl 0)), none, none, none, none, none, none, none, none, none, none, none]) (st' := []) (h' := mk s) 15 rfl ?_
  exact k215_21 zF x1 ((s.1 24 38) + (zi 2)) (zi 0) (zi 0) (zi 0) (zi 0) (zl 0) s _ _ _ _ _ _ _ _ _ _ _ h
/-! 240 FModel$Decimal.add(II)V -/
def f240_108 (aa : Nat)  (x3 : Int32) (s : zS) : Option (zS) := some (setI (setI s aa 1 (r265 (s.1 aa 1) x3 s)) aa 2 (r264 (s.1 aa 2) (x3 + (zi 1)) (setI s aa 1 (r265 (s.1 aa 1) x3 s))))
theorem k240_108 {X : mX} {D : Nat} {aa : Nat}  (haa : zMdec aa)  (x3 : Int32) (s : zS) (r : zS) (o1 : Option Value) (o2 : Option Value) (o4 : Option Value) (o5 : Option Value) (o6 : Option Value)  (h : f240_108 aa  x3 s = some r) : Ev X (D + 1) mm240 108 [some (.ref aa), o1, o2, some (.int x3), o4, o5, o6] [] (mk s) (encV r) := by
  rcases haa with rfl | rfl | rfl
  · unfold f240_108 at h
    refine Ev.run (pc' := 114) (ls' := [some (.ref 32), o1, o2, some (.int x3), o4, o5, o6]) (st' := [.int x3, .int (s.1 32 1), .ref 32]) (h' := mk s) 4 rfl ?_
    refine Ev.call (M' := mm265) (v := some (.int (r265 (s.1 32 1) x3 s))) (h' := mk s) rfl rfl rfl (Nat.le_of_ble_eq_true rfl) (k265 (x0 := (s.1 32 1)) (x1 := x3) (s := s)  rfl) ?_
    refine Ev.step (pc' := 120) rfl (put_13_1 (by decide) rfl) ?_
    refine Ev.run (pc' := 128) (ls' := [some (.ref 32), o1, o2, some (.int x3), o4, o5, o6]) (st' := [.int (x3 + (zi 1)), .int (s.1 32 2), .ref 32]) (h' := mk (setI s 32 1 (r265 (s.1 32 1) x3 s))) 6 rfl ?_
    refine Ev.call (M' := mm264) (v := some (.int (r264 (s.1 32 2) (x3 + (zi 1)) (setI s 32 1 (r265 (s.1 32 1) x3 s))))) (h' := mk (setI s 32 1 (r265 (s.1 32 1) x3 s))) rfl rfl rfl (Nat.le_of_ble_eq_true rfl) (k264 (x0 := (s.1 32 2)) (x1 := (x3 + (zi 1))) (s := setI s 32 1 (r265 (s.1 32 1) x3 s))  rfl) ?_
    refine Ev.step (pc' := 134) rfl (put_13_2 (by decide) rfl) ?_
    cases h
    exact Ev.fin rfl rfl
  · unfold f240_108 at h
    refine Ev.run (pc' := 114) (ls' := [some (.ref 34), o1, o2, some (.int x3), o4, o5, o6]) (st' := [.int x3, .int (s.1 34 1), .ref 34]) (h' := mk s) 4 rfl ?_
    refine Ev.call (M' := mm265) (v := some (.int (r265 (s.1 34 1) x3 s))) (h' := mk s) rfl rfl rfl (Nat.le_of_ble_eq_true rfl) (k265 (x0 := (s.1 34 1)) (x1 := x3) (s := s)  rfl) ?_
    refine Ev.step (pc' := 120) rfl (put_13_1 (by decide) rfl) ?_
    refine Ev.run (pc' := 128) (ls' := [some (.ref 34), o1, o2, some (.int x3), o4, o5, o6]) (st' := [.int (x3 + (zi 1)), .int (s.1 34 2), .ref 34]) (h' := mk (setI s 34 1 (r265 (s.1 34 1) x3 s))) 6 rfl ?_
    refine Ev.call (M' := mm264) (v := some (.int (r264 (s.1 34 2) (x3 + (zi 1)) (setI s 34 1 (r265 (s.1 34 1) x3 s))))) (h' := mk (setI s 34 1 (r265 (s.1 34 1) x3 s))) rfl rfl rfl (Nat.le_of_ble_eq_true rfl) (k264 (x0 := (s.1 34 2)) (x1 := (x3 + (zi 1))) (s := setI s 34 1 (r265 (s.1 34 1) x3 s))  rfl) ?_
    refine Ev.step (pc' := 134) rfl (put_13_2 (by decide) rfl) ?_
    cases h
    exact Ev.fin rfl rfl
  · unfold f240_108 at h
    refine Ev.run (pc' := 114) (ls' := [some (.ref 36), o1, o2, some (.int x3), o4, o5, o6]) (st' := [.int x3, .int (s.1 36 1), .ref 36]) (h' := mk s) 4 rfl ?_
    refine Ev.call (M' := mm265) (v := some (.int (r265 (s.1 36 1) x3 s))) (h' := mk s) rfl rfl rfl (Nat.le_of_ble_eq_true rfl) (k265 (x0 := (s.1 36 1)) (x1 := x3) (s := s)  rfl) ?_
    refine Ev.step (pc' := 120) rfl (put_13_1 (by decide) rfl) ?_
    refine Ev.run (pc' := 128) (ls' := [some (.ref 36), o1, o2, some (.int x3), o4, o5, o6]) (st' := [.int (x3 + (zi 1)), .int (s.1 36 2), .ref 36]) (h' := mk (setI s 36 1 (r265 (s.1 36 1) x3 s))) 6 rfl ?_
    refine Ev.call (M' := mm264) (v := some (.int (r264 (s.1 36 2) (x3 + (zi 1)) (setI s 36 1 (r265 (s.1 36 1) x3 s))))) (h' := mk (setI s 36 1 (r265 (s.1 36 1) x3 s))) rfl rfl rfl (Nat.le_of_ble_eq_true rfl) (k264 (x0 := (s.1 36 2)) (x1 := (x3 + (zi 1))) (s := setI s 36 1 (r265 (s.1 36 1) x3 s))  rfl) ?_
    refine Ev.step (pc' := 134) rfl (put_13_2 (by decide) rfl) ?_
    cases h
    exact Ev.fin rfl rfl
def b240_54 (aa : Nat) (rec54 : Int32 → Int32 → Int32 → Int32 → zS → Option (zS)) (x3 : Int32) (x4 : Int32) (x5 : Int32) (x6 : Int32) (s : zS) : Option (zS) := if x6 ≥ x4 then if mIx x3 465 then if mIx x3 465 then if ¬ (s.1 aa 1) = (s.1 aa 2) then f240_108 aa x3 (setB s (aa + 1) x3.toNatClampNeg ((s.1 (aa + 1) x3.toNatClampNeg) + x5)) else f240_108 aa x3 (setI (setI (setB s (aa + 1) x3.toNatClampNeg ((s.1 (aa + 1) x3.toNatClampNeg) + x5)) aa 1 x3) aa 2 (x3 + (zi 1))) else none else none else rec54 x3 x4 (x5 * (zi 10)) (x6 + zi 1) s
theorem kb240_54 {X : mX} {D : Nat} {aa : Nat} {rec54 : Int32 → Int32 → Int32 → Int32 → zS → Option (zS)} (haa : zMdec aa) (hrec54 : ∀ (x3 : Int32) (x4 : Int32) (x5 : Int32) (x6 : Int32) (s : zS) (r : zS) (o1 : Option Value) (o2 : Option Value), rec54 x3 x4 x5 x6 s = some r → Ev X (D + 1) mm240 54 [some (.ref aa), o1, o2, some (.int x3), some (.int x4), some (.int x5), some (.int x6)] [] (mk s) (encV r)) (x3 : Int32) (x4 : Int32) (x5 : Int32) (x6 : Int32) (s : zS) (r : zS) (o1 : Option Value) (o2 : Option Value)  (h : b240_54 aa rec54 x3 x4 x5 x6 s = some r) : Ev X (D + 1) mm240 54 [some (.ref aa), o1, o2, some (.int x3), some (.int x4), some (.int x5), some (.int x6)] [] (mk s) (encV r) := by
  rcases haa with rfl | rfl | rfl
  · unfold b240_54 at h
    refine Ev.run (pc' := 58) (ls' := [some (.ref 32), o1, o2, some (.int x3), some (.int x4), some (.int x5), some (.int x6)]) (st' := [.int x4, .int x6]) (h' := mk s) 2 rfl ?_
    refine Ev.icmp_ge (t := 74) rfl rfl (fun hb => ?_) (fun hb => ?_)
    · have h := (if_pos hb).symm.trans h
      refine Ev.run (pc' := 80) (ls' := [some (.ref 32), o1, o2, some (.int x3), some (.int x4), some (.int x5), some (.int x6)]) (st' := [.int x3, .ref (32 + 1), .int x3, .ref (32 + 1)]) (h' := mk s) 4 rfl ?_
      obtain ⟨hx, h⟩ := zif h
      refine Ev.step (pc' := 81) rfl (ald_i rfl hx) ?_
      refine Ev.run (pc' := 84) (ls' := [some (.ref 32), o1, o2, some (.int x3), some (.int x4), some (.int x5), some (.int x6)]) (st' := [.int ((s.1 (32 + 1) x3.toNatClampNeg) + x5), .int x3, .ref (32 + 1)]) (h' := mk s) 2 rfl ?_
      obtain ⟨hx, h⟩ := zif h
      refine Ev.step (pc' := 85) rfl (astM (by decide) hx) ?_
      refine Ev.run (pc' := 93) (ls' := [some (.ref 32), o1, o2, some (.int x3), some (.int x4), some (.int x5), some (.int x6)]) (st' := [.int (s.1 32 2), .int (s.1 32 1)]) (h' := mk (setB s (32 + 1) x3.toNatClampNeg ((s.1 (32 + 1) x3.toNatClampNeg) + x5))) 4 rfl ?_
      refine Ev.icmp_ne (t := 108) rfl rfl (fun hb => ?_) (fun hb => ?_)
      · have h := (if_pos hb).symm.trans h
        exact k240_108 (by decide) x3 (setB s (32 + 1) x3.toNatClampNeg ((s.1 (32 + 1) x3.toNatClampNeg) + x5)) _ _ _ _ _ _ h
      · have h := (if_neg hb).symm.trans h
        refine Ev.run (pc' := 98) (ls' := [some (.ref 32), o1, o2, some (.int x3), some (.int x4), some (.int x5), some (.int x6)]) (st' := [.int x3, .ref 32]) (h' := mk (setB s (32 + 1) x3.toNatClampNeg ((s.1 (32 + 1) x3.toNatClampNeg) + x5))) 2 rfl ?_
        refine Ev.step (pc' := 101) rfl (put_13_1 (by decide) rfl) ?_
        refine Ev.run (pc' := 105) (ls' := [some (.ref 32), o1, o2, some (.int x3), some (.int x4), some (.int x5), some (.int x6)]) (st' := [.int (x3 + (zi 1)), .ref 32]) (h' := mk (setI (setB s (32 + 1) x3.toNatClampNeg ((s.1 (32 + 1) x3.toNatClampNeg) + x5)) 32 1 x3)) 4 rfl ?_
        refine Ev.step (pc' := 108) rfl (put_13_2 (by decide) rfl) ?_
        exact k240_108 (by decide) x3 (setI (setI (setB s (32 + 1) x3.toNatClampNeg ((s.1 (32 + 1) x3.toNatClampNeg) + x5)) 32 1 x3) 32 2 (x3 + (zi 1))) _ _ _ _ _ _ h
    · have h := (if_neg hb).symm.trans h
      refine Ev.run (pc' := 54) (ls' := [some (.ref 32), o1, o2, some (.int x3), some (.int x4), some (.int (x5 * (zi 10))), some (.int (x6 + zi 1))]) (st' := []) (h' := mk s) 6 rfl ?_
      exact hrec54 x3 x4 (x5 * (zi 10)) (x6 + zi 1) s _ _ _ h
  · unfold b240_54 at h
    refine Ev.run (pc' := 58) (ls' := [some (.ref 34), o1, o2, some (.int x3), some (.int x4), some (.int x5), some (.int x6)]) (st' := [.int x4, .int x6]) (h' := mk s) 2 rfl ?_
    refine Ev.icmp_ge (t := 74) rfl rfl (fun hb => ?_) (fun hb => ?_)
    · have h := (if_pos hb).symm.trans h
      refine Ev.run (pc' := 80) (ls' := [some (.ref 34), o1, o2, some (.int x3), some (.int x4), some (.int x5), some (.int x6)]) (st' := [.int x3, .ref (34 + 1), .int x3, .ref (34 + 1)]) (h' := mk s) 4 rfl ?_
      obtain ⟨hx, h⟩ := zif h
      refine Ev.step (pc' := 81) rfl (ald_i rfl hx) ?_
      refine Ev.run (pc' := 84) (ls' := [some (.ref 34), o1, o2, some (.int x3), some (.int x4), some (.int x5), some (.int x6)]) (st' := [.int ((s.1 (34 + 1) x3.toNatClampNeg) + x5), .int x3, .ref (34 + 1)]) (h' := mk s) 2 rfl ?_
      obtain ⟨hx, h⟩ := zif h
      refine Ev.step (pc' := 85) rfl (astM (by decide) hx) ?_
      refine Ev.run (pc' := 93) (ls' := [some (.ref 34), o1, o2, some (.int x3), some (.int x4), some (.int x5), some (.int x6)]) (st' := [.int (s.1 34 2), .int (s.1 34 1)]) (h' := mk (setB s (34 + 1) x3.toNatClampNeg ((s.1 (34 + 1) x3.toNatClampNeg) + x5))) 4 rfl ?_
      refine Ev.icmp_ne (t := 108) rfl rfl (fun hb => ?_) (fun hb => ?_)
      · have h := (if_pos hb).symm.trans h
        exact k240_108 (by decide) x3 (setB s (34 + 1) x3.toNatClampNeg ((s.1 (34 + 1) x3.toNatClampNeg) + x5)) _ _ _ _ _ _ h
      · have h := (if_neg hb).symm.trans h
        refine Ev.run (pc' := 98) (ls' := [some (.ref 34), o1, o2, some (.int x3), some (.int x4), some (.int x5), some (.int x6)]) (st' := [.int x3, .ref 34]) (h' := mk (setB s (34 + 1) x3.toNatClampNeg ((s.1 (34 + 1) x3.toNatClampNeg) + x5))) 2 rfl ?_
        refine Ev.step (pc' := 101) rfl (put_13_1 (by decide) rfl) ?_
        refine Ev.run (pc' := 105) (ls' := [some (.ref 34), o1, o2, some (.int x3), some (.int x4), some (.int x5), some (.int x6)]) (st' := [.int (x3 + (zi 1)), .ref 34]) (h' := mk (setI (setB s (34 + 1) x3.toNatClampNeg ((s.1 (34 + 1) x3.toNatClampNeg) + x5)) 34 1 x3)) 4 rfl ?_
        refine Ev.step (pc' := 108) rfl (put_13_2 (by decide) rfl) ?_
        exact k240_108 (by decide) x3 (setI (setI (setB s (34 + 1) x3.toNatClampNeg ((s.1 (34 + 1) x3.toNatClampNeg) + x5)) 34 1 x3) 34 2 (x3 + (zi 1))) _ _ _ _ _ _ h
    · have h := (if_neg hb).symm.trans h
      refine Ev.run (pc' := 54) (ls' := [some (.ref 34), o1, o2, some (.int x3), some (.int x4), some (.int (x5 * (zi 10))), some (.int (x6 + zi 1))]) (st' := []) (h' := mk s) 6 rfl ?_
      exact hrec54 x3 x4 (x5 * (zi 10)) (x6 + zi 1) s _ _ _ h
  · unfold b240_54 at h
    refine Ev.run (pc' := 58) (ls' := [some (.ref 36), o1, o2, some (.int x3), some (.int x4), some (.int x5), some (.int x6)]) (st' := [.int x4, .int x6]) (h' := mk s) 2 rfl ?_
    refine Ev.icmp_ge (t := 74) rfl rfl (fun hb => ?_) (fun hb => ?_)
    · have h := (if_pos hb).symm.trans h
      refine Ev.run (pc' := 80) (ls' := [some (.ref 36), o1, o2, some (.int x3), some (.int x4), some (.int x5), some (.int x6)]) (st' := [.int x3, .ref (36 + 1), .int x3, .ref (36 + 1)]) (h' := mk s) 4 rfl ?_
      obtain ⟨hx, h⟩ := zif h
      refine Ev.step (pc' := 81) rfl (ald_i rfl hx) ?_
      refine Ev.run (pc' := 84) (ls' := [some (.ref 36), o1, o2, some (.int x3), some (.int x4), some (.int x5), some (.int x6)]) (st' := [.int ((s.1 (36 + 1) x3.toNatClampNeg) + x5), .int x3, .ref (36 + 1)]) (h' := mk s) 2 rfl ?_
      obtain ⟨hx, h⟩ := zif h
      refine Ev.step (pc' := 85) rfl (astM (by decide) hx) ?_
      refine Ev.run (pc' := 93) (ls' := [some (.ref 36), o1, o2, some (.int x3), some (.int x4), some (.int x5), some (.int x6)]) (st' := [.int (s.1 36 2), .int (s.1 36 1)]) (h' := mk (setB s (36 + 1) x3.toNatClampNeg ((s.1 (36 + 1) x3.toNatClampNeg) + x5))) 4 rfl ?_
      refine Ev.icmp_ne (t := 108) rfl rfl (fun hb => ?_) (fun hb => ?_)
      · have h := (if_pos hb).symm.trans h
        exact k240_108 (by decide) x3 (setB s (36 + 1) x3.toNatClampNeg ((s.1 (36 + 1) x3.toNatClampNeg) + x5)) _ _ _ _ _ _ h
      · have h := (if_neg hb).symm.trans h
        refine Ev.run (pc' := 98) (ls' := [some (.ref 36), o1, o2, some (.int x3), some (.int x4), some (.int x5), some (.int x6)]) (st' := [.int x3, .ref 36]) (h' := mk (setB s (36 + 1) x3.toNatClampNeg ((s.1 (36 + 1) x3.toNatClampNeg) + x5))) 2 rfl ?_
        refine Ev.step (pc' := 101) rfl (put_13_1 (by decide) rfl) ?_
        refine Ev.run (pc' := 105) (ls' := [some (.ref 36), o1, o2, some (.int x3), some (.int x4), some (.int x5), some (.int x6)]) (st' := [.int (x3 + (zi 1)), .ref 36]) (h' := mk (setI (setB s (36 + 1) x3.toNatClampNeg ((s.1 (36 + 1) x3.toNatClampNeg) + x5)) 36 1 x3)) 4 rfl ?_
        refine Ev.step (pc' := 108) rfl (put_13_2 (by decide) rfl) ?_
        exact k240_108 (by decide) x3 (setI (setI (setB s (36 + 1) x3.toNatClampNeg ((s.1 (36 + 1) x3.toNatClampNeg) + x5)) 36 1 x3) 36 2 (x3 + (zi 1))) _ _ _ _ _ _ h
    · have h := (if_neg hb).symm.trans h
      refine Ev.run (pc' := 54) (ls' := [some (.ref 36), o1, o2, some (.int x3), some (.int x4), some (.int (x5 * (zi 10))), some (.int (x6 + zi 1))]) (st' := []) (h' := mk s) 6 rfl ?_
      exact hrec54 x3 x4 (x5 * (zi 10)) (x6 + zi 1) s _ _ _ h
def f240_54 (aa : Nat)  : Nat → Int32 → Int32 → Int32 → Int32 → zS → Option (zS)
  | 0, _, _, _, _, _ => none
  | n + 1, x3, x4, x5, x6, s => b240_54 aa (f240_54 aa n) x3 x4 x5 x6 s
theorem k240_54 {X : mX} {D : Nat} {aa : Nat}  (haa : zMdec aa)  (n : Nat) : ∀ (x3 : Int32) (x4 : Int32) (x5 : Int32) (x6 : Int32) (s : zS) (r : zS) (o1 : Option Value) (o2 : Option Value), f240_54 aa  n x3 x4 x5 x6 s = some r → Ev X (D + 1) mm240 54 [some (.ref aa), o1, o2, some (.int x3), some (.int x4), some (.int x5), some (.int x6)] [] (mk s) (encV r) := by
  induction n with
  | zero => intro x3 x4 x5 x6 s r o1 o2  h; cases h
  | succ n ih => intro x3 x4 x5 x6 s r o1 o2  h; exact kb240_54 haa ih x3 x4 x5 x6 s r o1 o2  h
def f240_24 (aa : Nat)  (x1 : Int32) (x2 : Int32) (y0 : Int32) (s : zS) : Option (zS) := if x2 < zi 0 then f240_54 aa zF y0 ((zi 8) - (zrem ((-x2) - (zi 1)) (zi 9))) x1 (zi 0) s else f240_54 aa zF y0 (zrem x2 (zi 9)) x1 (zi 0) s
theorem k240_24 {X : mX} {D : Nat} {aa : Nat}  (haa : zMdec aa)  (x1 : Int32) (x2 : Int32) (y0 : Int32) (s : zS) (r : zS) (o3 : Option Value) (o4 : Option Value) (o5 : Option Value) (o6 : Option Value)  (h : f240_24 aa  x1 x2 y0 s = some r) : Ev X (D + 1) mm240 24 [some (.ref aa), some (.int x1), some (.int x2), o3, o4, o5, o6] [.int y0] (mk s) (encV r) := by
  rcases haa with rfl | rfl | rfl
  · unfold f240_24 at h
    refine Ev.run (pc' := 26) (ls' := [some (.ref 32), some (.int x1), some (.int x2), some (.int y0), o4, o5, o6]) (st' := [.int x2]) (h' := mk s) 2 rfl ?_
    refine Ev.if_lt (t := 36) rfl rfl (fun hb => ?_) (fun hb => ?_)
    · have h := (if_pos hb).symm.trans h
      refine Ev.run (pc' := 54) (ls' := [some (.ref 32), some (.int x1), some (.int x2), some (.int y0), some (.int ((zi 8) - (zrem ((-x2) - (zi 1)) (zi 9)))), some (.int x1), some (.int (zi 0))]) (st' := []) (h' := mk s) 13 rfl ?_
      exact k240_54 (by decide) zF y0 ((zi 8) - (zrem ((-x2) - (zi 1)) (zi 9))) x1 (zi 0) s _ _ _ h
    · have h := (if_neg hb).symm.trans h
      refine Ev.run (pc' := 54) (ls' := [some (.ref 32), some (.int x1), some (.int x2), some (.int y0), some (.int (zrem x2 (zi 9))), some (.int x1), some (.int (zi 0))]) (st' := []) (h' := mk s) 9 rfl ?_
      exact k240_54 (by decide) zF y0 (zrem x2 (zi 9)) x1 (zi 0) s _ _ _ h
  · unfold f240_24 at h
    refine Ev.run (pc' := 26) (ls' := [some (.ref 34), some (.int x1), some (.int x2), some (.int y0), o4, o5, o6]) (st' := [.int x2]) (h' := mk s) 2 rfl ?_
    refine Ev.if_lt (t := 36) rfl rfl (fun hb => ?_) (fun hb => ?_)
    · have h := (if_pos hb).symm.trans h
      refine Ev.run (pc' := 54) (ls' := [some (.ref 34), some (.int x1), some (.int x2), some (.int y0), some (.int ((zi 8) - (zrem ((-x2) - (zi 1)) (zi 9)))), some (.int x1), some (.int (zi 0))]) (st' := []) (h' := mk s) 13 rfl ?_
      exact k240_54 (by decide) zF y0 ((zi 8) - (zrem ((-x2) - (zi 1)) (zi 9))) x1 (zi 0) s _ _ _ h
    · have h := (if_neg hb).symm.trans h
      refine Ev.run (pc' := 54) (ls' := [some (.ref 34), some (.int x1), some (.int x2), some (.int y0), some (.int (zrem x2 (zi 9))), some (.int x1), some (.int (zi 0))]) (st' := []) (h' := mk s) 9 rfl ?_
      exact k240_54 (by decide) zF y0 (zrem x2 (zi 9)) x1 (zi 0) s _ _ _ h
  · unfold f240_24 at h
    refine Ev.run (pc' := 26) (ls' := [some (.ref 36), some (.int x1), some (.int x2), some (.int y0), o4, o5, o6]) (st' := [.int x2]) (h' := mk s) 2 rfl ?_
    refine Ev.if_lt (t := 36) rfl rfl (fun hb => ?_) (fun hb => ?_)
    · have h := (if_pos hb).symm.trans h
      refine Ev.run (pc' := 54) (ls' := [some (.ref 36), some (.int x1), some (.int x2), some (.int y0), some (.int ((zi 8) - (zrem ((-x2) - (zi 1)) (zi 9)))), some (.int x1), some (.int (zi 0))]) (st' := []) (h' := mk s) 13 rfl ?_
      exact k240_54 (by decide) zF y0 ((zi 8) - (zrem ((-x2) - (zi 1)) (zi 9))) x1 (zi 0) s _ _ _ h
    · have h := (if_neg hb).symm.trans h
      refine Ev.run (pc' := 54) (ls' := [some (.ref 36), some (.int x1), some (.int x2), some (.int y0), some (.int (zrem x2 (zi 9))), some (.int x1), some (.int (zi 0))]) (st' := []) (h' := mk s) 9 rfl ?_
      exact k240_54 (by decide) zF y0 (zrem x2 (zi 9)) x1 (zi 0) s _ _ _ h
def f240 (aa : Nat)  (x1 : Int32) (x2 : Int32) (s : zS) : Option (zS) := if x2 < zi 0 then f240_24 aa x1 x2 ((zi 45) + (((-x2) - (zi 1)) / (zi 9))) s else f240_24 aa x1 x2 ((zi 44) - (x2 / (zi 9))) s
theorem k240 {X : mX} {D : Nat} {aa : Nat} {x1 : Int32} {x2 : Int32} {s : zS} {r : zS} (haa : zMdec aa)  (h : f240 aa x1 x2 s = some r) : Ev X (D + 1) mm240 0 [some (.ref aa), some (.int x1), some (.int x2), none, none, none, none] [] (mk s) (encV r) := by
  rcases haa with rfl | rfl | rfl
  · unfold f240 at h
    refine Ev.run (pc' := 1) (ls' := [some (.ref 32), some (.int x1), some (.int x2), none, none, none, none]) (st' := [.int x2]) (h' := mk s) 1 rfl ?_
    refine Ev.if_lt (t := 14) rfl rfl (fun hb => ?_) (fun hb => ?_)
    · have h := (if_pos hb).symm.trans h
      refine Ev.run (pc' := 24) (ls' := [some (.ref 32), some (.int x1), some (.int x2), none, none, none, none]) (st' := [.int ((zi 45) + (((-x2) - (zi 1)) / (zi 9)))]) (h' := mk s) 8 rfl ?_
      exact k240_24 (by decide) x1 x2 ((zi 45) + (((-x2) - (zi 1)) / (zi 9))) s _ _ _ _ _ h
    · have h := (if_neg hb).symm.trans h
      refine Ev.run (pc' := 24) (ls' := [some (.ref 32), some (.int x1), some (.int x2), none, none, none, none]) (st' := [.int ((zi 44) - (x2 / (zi 9)))]) (h' := mk s) 6 rfl ?_
      exact k240_24 (by decide) x1 x2 ((zi 44) - (x2 / (zi 9))) s _ _ _ _ _ h
  · unfold f240 at h
    refine Ev.run (pc' := 1) (ls' := [some (.ref 34), some (.int x1), some (.int x2), none, none, none, none]) (st' := [.int x2]) (h' := mk s) 1 rfl ?_
    refine Ev.if_lt (t := 14) rfl rfl (fun hb => ?_) (fun hb => ?_)
    · have h := (if_pos hb).symm.trans h
      refine Ev.run (pc' := 24) (ls' := [some (.ref 34), some (.int x1), some (.int x2), none, none, none, none]) (st' := [.int ((zi 45) + (((-x2) - (zi 1)) / (zi 9)))]) (h' := mk s) 8 rfl ?_
      exact k240_24 (by decide) x1 x2 ((zi 45) + (((-x2) - (zi 1)) / (zi 9))) s _ _ _ _ _ h
    · have h := (if_neg hb).symm.trans h
      refine Ev.run (pc' := 24) (ls' := [some (.ref 34), some (.int x1), some (.int x2), none, none, none, none]) (st' := [.int ((zi 44) - (x2 / (zi 9)))]) (h' := mk s) 6 rfl ?_
      exact k240_24 (by decide) x1 x2 ((zi 44) - (x2 / (zi 9))) s _ _ _ _ _ h
  · unfold f240 at h
    refine Ev.run (pc' := 1) (ls' := [some (.ref 36), some (.int x1), some (.int x2), none, none, none, none]) (st' := [.int x2]) (h' := mk s) 1 rfl ?_
    refine Ev.if_lt (t := 14) rfl rfl (fun hb => ?_) (fun hb => ?_)
    · have h := (if_pos hb).symm.trans h
      refine Ev.run (pc' := 24) (ls' := [some (.ref 36), some (.int x1), some (.int x2), none, none, none, none]) (st' := [.int ((zi 45) + (((-x2) - (zi 1)) / (zi 9)))]) (h' := mk s) 8 rfl ?_
      exact k240_24 (by decide) x1 x2 ((zi 45) + (((-x2) - (zi 1)) / (zi 9))) s _ _ _ _ _ h
    · have h := (if_neg hb).symm.trans h
      refine Ev.run (pc' := 24) (ls' := [some (.ref 36), some (.int x1), some (.int x2), none, none, none, none]) (st' := [.int ((zi 44) - (x2 / (zi 9)))]) (h' := mk s) 6 rfl ?_
      exact k240_24 (by decide) x1 x2 ((zi 44) - (x2 / (zi 9))) s _ _ _ _ _ h
/-! 214 FModel.whole()J -/
def f214   (s : zS) : Option (Int64 × zS) := if mIx (zi 43) 465 then if mIx (zi 44) 465 then some (((zI2L (s.1 33 ((zi 43).toNatClampNeg))) * (zl 1000000000)) + (zI2L (s.1 33 ((zi 44).toNatClampNeg))), s) else none else none
theorem k214 {X : mX} {D : Nat}  {s : zS} {r : Int64 × zS}  (h : f214  s = some r) : Ev X D mm214 0 [some (.ref 24)] [] (mk s) (encL r) := by
  unfold f214 at h
  refine Ev.run (pc' := 9) (ls' := [some (.ref 24)]) (st' := [.int (zi 43), .ref 33]) (h' := mk s) 4 rfl ?_
  obtain ⟨hx, h⟩ := zif h
  refine Ev.step (pc' := 10) rfl (ald_i rfl hx) ?_
  refine Ev.run (pc' := 24) (ls' := [some (.ref 24)]) (st' := [.int (zi 44), .ref 33, .long ((zI2L (s.1 33 ((zi 43).toNatClampNeg))) * (zl 1000000000))]) (h' := mk s) 7 rfl ?_
  obtain ⟨hx, h⟩ := zif h
  refine Ev.step (pc' := 25) rfl (ald_i rfl hx) ?_
  refine Ev.run (pc' := 27) (ls' := [some (.ref 24)]) (st' := [.long (((zI2L (s.1 33 ((zi 43).toNatClampNeg))) * (zl 1000000000)) + (zI2L (s.1 33 ((zi 44).toNatClampNeg))))]) (h' := mk s) 2 rfl ?_
  cases h
  exact Ev.fin rfl rfl
/-! 268 java.lang.Integer.numberOfLeadingZeros(I)I -/
def f268_61  (x0 : Int32) (x1 : Int32) (s : zS) : Option (Int32 × zS) := if x0 < (zi 4) then some (x1 - (zushr x0 (zi 1)), s) else some ((x1 + zi (-2)) - (zushr (zushr x0 (zi 2)) (zi 1)), s)
theorem k268_61 {X : mX} {D : Nat}   (x0 : Int32) (x1 : Int32) (s : zS) (r : Int32 × zS)   (h : f268_61  x0 x1 s = some r) : Ev X D mm268 61 [some (.int x0), some (.int x1)] [] (mk s) (encI r) := by
  unfold f268_61 at h
  refine Ev.run (pc' := 63) (ls' := [some (.int x0), some (.int x1)]) (st' := [.int (zi 4), .int x0]) (h' := mk s) 2 rfl ?_
  refine Ev.icmp_lt (t := 73) rfl rfl (fun hb => ?_) (fun hb => ?_)
  · have h := (if_pos hb).symm.trans h
    refine Ev.run (pc' := 78) (ls' := [some (.int x0), some (.int x1)]) (st' := [.int (x1 - (zushr x0 (zi 1)))]) (h' := mk s) 5 rfl ?_
    cases h
    exact Ev.fin rfl rfl
  · have h := (if_neg hb).symm.trans h
    refine Ev.run (pc' := 78) (ls' := [some (.int (zushr x0 (zi 2))), some (.int (x1 + zi (-2)))]) (st' := [.int ((x1 + zi (-2)) - (zushr (zushr x0 (zi 2)) (zi 1)))]) (h' := mk s) 10 rfl ?_
    cases h
    exact Ev.fin rfl rfl
def f268_48  (x0 : Int32) (x1 : Int32) (s : zS) : Option (Int32 × zS) := if x0 < (zi 16) then f268_61 x0 x1 s else f268_61 (zushr x0 (zi 4)) (x1 + zi (-4)) s
theorem k268_48 {X : mX} {D : Nat}   (x0 : Int32) (x1 : Int32) (s : zS) (r : Int32 × zS)   (h : f268_48  x0 x1 s = some r) : Ev X D mm268 48 [some (.int x0), some (.int x1)] [] (mk s) (encI r) := by
  unfold f268_48 at h
  refine Ev.run (pc' := 51) (ls' := [some (.int x0), some (.int x1)]) (st' := [.int (zi 16), .int x0]) (h' := mk s) 2 rfl ?_
  refine Ev.icmp_lt (t := 61) rfl rfl (fun hb => ?_) (fun hb => ?_)
  · have h := (if_pos hb).symm.trans h
    exact k268_61 x0 x1 s _ h
  · have h := (if_neg hb).symm.trans h
    refine Ev.run (pc' := 61) (ls' := [some (.int (zushr x0 (zi 4))), some (.int (x1 + zi (-4)))]) (st' := []) (h' := mk s) 5 rfl ?_
    exact k268_61 (zushr x0 (zi 4)) (x1 + zi (-4)) s _ h
def f268_33  (x0 : Int32) (x1 : Int32) (s : zS) : Option (Int32 × zS) := if x0 < (zi 256) then f268_48 x0 x1 s else f268_48 (zushr x0 (zi 8)) (x1 + zi (-8)) s
theorem k268_33 {X : mX} {D : Nat}   (x0 : Int32) (x1 : Int32) (s : zS) (r : Int32 × zS)   (h : f268_33  x0 x1 s = some r) : Ev X D mm268 33 [some (.int x0), some (.int x1)] [] (mk s) (encI r) := by
  unfold f268_33 at h
  refine Ev.run (pc' := 37) (ls' := [some (.int x0), some (.int x1)]) (st' := [.int (zi 256), .int x0]) (h' := mk s) 2 rfl ?_
  refine Ev.icmp_lt (t := 48) rfl rfl (fun hb => ?_) (fun hb => ?_)
  · have h := (if_pos hb).symm.trans h
    exact k268_48 x0 x1 s _ h
  · have h := (if_neg hb).symm.trans h
    refine Ev.run (pc' := 48) (ls' := [some (.int (zushr x0 (zi 8))), some (.int (x1 + zi (-8)))]) (st' := []) (h' := mk s) 5 rfl ?_
    exact k268_48 (zushr x0 (zi 8)) (x1 + zi (-8)) s _ h
def f268  (x0 : Int32) (s : zS) : Option (Int32 × zS) := if x0 > zi 0 then if x0 < (zi 65536) then f268_33 x0 (zi 31) s else f268_33 (zushr x0 (zi 16)) ((zi 31) + zi (-16)) s else if ¬ x0 = zi 0 then some (zi 0, s) else some (zi 32, s)
theorem k268 {X : mX} {D : Nat} {x0 : Int32} {s : zS} {r : Int32 × zS}  (h : f268 x0 s = some r) : Ev X D mm268 0 [some (.int x0), none] [] (mk s) (encI r) := by
  unfold f268 at h
  refine Ev.run (pc' := 1) (ls' := [some (.int x0), none]) (st' := [.int x0]) (h' := mk s) 1 rfl ?_
  refine Ev.if_gt (t := 15) rfl rfl (fun hb => ?_) (fun hb => ?_)
  · have h := (if_pos hb).symm.trans h
    refine Ev.run (pc' := 22) (ls' := [some (.int x0), some (.int (zi 31))]) (st' := [.int (zi 65536), .int x0]) (h' := mk s) 4 rfl ?_
    refine Ev.icmp_lt (t := 33) rfl rfl (fun hb => ?_) (fun hb => ?_)
    · have h := (if_pos hb).symm.trans h
      exact k268_33 x0 (zi 31) s _ h
    · have h := (if_neg hb).symm.trans h
      refine Ev.run (pc' := 33) (ls' := [some (.int (zushr x0 (zi 16))), some (.int ((zi 31) + zi (-16)))]) (st' := []) (h' := mk s) 5 rfl ?_
      exact k268_33 (zushr x0 (zi 16)) ((zi 31) + zi (-16)) s _ h
  · have h := (if_neg hb).symm.trans h
    refine Ev.run (pc' := 5) (ls' := [some (.int x0), none]) (st' := [.int x0]) (h' := mk s) 1 rfl ?_
    refine Ev.if_ne (t := 13) rfl rfl (fun hb => ?_) (fun hb => ?_)
    · have h := (if_pos hb).symm.trans h
      refine Ev.run (pc' := 14) (ls' := [some (.int x0), none]) (st' := [.int (zi 0)]) (h' := mk s) 1 rfl ?_
      cases h
      exact Ev.fin rfl rfl
    · have h := (if_neg hb).symm.trans h
      refine Ev.run (pc' := 14) (ls' := [some (.int x0), none]) (st' := [.int (zi 32)]) (h' := mk s) 2 rfl ?_
      cases h
      exact Ev.fin rfl rfl
/-! 267 java.lang.Long.numberOfLeadingZeros(J)I -/
def f267  (x0 : Int64) (s : zS) : Option (Int32 × zS) := if ¬ (zL2I (zushrL x0 (zi 32))) = zi 0 then zb1 (f268 (zL2I (zushrL x0 (zi 32))) s) (fun v2 s1 => some (v2, s1)) else zb1 (f268 (zL2I x0) s) (fun v4 s3 => some ((zi 32) + v4, s3))
theorem k267 {X : mX} {D : Nat} {x0 : Int64} {s : zS} {r : Int32 × zS}  (h : f267 x0 s = some r) : Ev X (D + 1) mm267 0 [some (.long x0), none, none] [] (mk s) (encI r) := by
  unfold f267 at h
  refine Ev.run (pc' := 7) (ls' := [some (.long x0), none, some (.int (zL2I (zushrL x0 (zi 32))))]) (st' := [.int (zL2I (zushrL x0 (zi 32)))]) (h' := mk s) 6 rfl ?_
  refine Ev.if_ne (t := 21) rfl rfl (fun hb => ?_) (fun hb => ?_)
  · have h := (if_pos hb).symm.trans h
    refine Ev.run (pc' := 22) (ls' := [some (.long x0), none, some (.int (zL2I (zushrL x0 (zi 32))))]) (st' := [.int (zL2I (zushrL x0 (zi 32)))]) (h' := mk s) 1 rfl ?_
    obtain ⟨v2, s1, hq, h⟩ := zb1_some h
    refine Ev.call (M' := mm268) (v := some (.int v2)) (h' := mk s1) rfl rfl rfl (Nat.le_of_ble_eq_true rfl) (k268 hq) ?_
    cases h
    exact Ev.fin rfl rfl
  · have h := (if_neg hb).symm.trans h
    refine Ev.run (pc' := 14) (ls' := [some (.long x0), none, some (.int (zL2I (zushrL x0 (zi 32))))]) (st' := [.int (zL2I x0), .int (zi 32)]) (h' := mk s) 3 rfl ?_
    obtain ⟨v4, s3, hq, h⟩ := zb1_some h
    refine Ev.call (M' := mm268) (v := some (.int v4)) (h' := mk s3) rfl rfl rfl (Nat.le_of_ble_eq_true rfl) (k268 hq) ?_
    refine Ev.run (pc' := 25) (ls' := [some (.long x0), none, some (.int (zL2I (zushrL x0 (zi 32))))]) (st' := [.int ((zi 32) + v4)]) (h' := mk s3) 2 rfl ?_
    cases h
    exact Ev.fin rfl rfl
/-! 213 FModel.bits()I -/
def f213   (s : zS) : Option (Int32 × zS) := if (s.1 32 1) ≥ (zi 43) then zb1 (f214 s) (fun v2 s1 => zb1 (f267 v2 s1) (fun v4 s3 => some ((zi 64) - v4, s3))) else some (zi (-1), s)
theorem k213 {X : mX} {D : Nat}  {s : zS} {r : Int32 × zS}  (h : f213  s = some r) : Ev X (D + 2) mm213 0 [some (.ref 24), none, none] [] (mk s) (encI r) := by
  unfold f213 at h
  refine Ev.run (pc' := 9) (ls' := [some (.ref 24), none, none]) (st' := [.int (zi 43), .int (s.1 32 1)]) (h' := mk s) 4 rfl ?_
  refine Ev.icmp_ge (t := 14) rfl rfl (fun hb => ?_) (fun hb => ?_)
  · have h := (if_pos hb).symm.trans h
    refine Ev.run (pc' := 15) (ls' := [some (.ref 24), none, none]) (st' := [.ref 24]) (h' := mk s) 1 rfl ?_
    obtain ⟨v2, s1, hq, h⟩ := zb1_some h
    refine Ev.call (M' := mm214) (v := some (.long v2)) (h' := mk s1) rfl rfl rfl (Nat.le_of_ble_eq_true rfl) (k214 hq) ?_
    refine Ev.run (pc' := 22) (ls' := [some (.ref 24), some (.long v2), none]) (st' := [.long v2, .int (zi 64)]) (h' := mk s1) 3 rfl ?_
    obtain ⟨v4, s3, hq, h⟩ := zb1_some h
    refine Ev.call (M' := mm267) (v := some (.int v4)) (h' := mk s3) rfl rfl rfl (Nat.le_of_ble_eq_true rfl) (k267 hq) ?_
    refine Ev.run (pc' := 26) (ls' := [some (.ref 24), some (.long v2), none]) (st' := [.int ((zi 64) - v4)]) (h' := mk s3) 1 rfl ?_
    cases h
    exact Ev.fin rfl rfl
  · have h := (if_neg hb).symm.trans h
    refine Ev.run (pc' := 13) (ls' := [some (.ref 24), none, none]) (st' := [.int (zi (-1))]) (h' := mk s) 1 rfl ?_
    cases h
    exact Ev.fin rfl rfl
/-! 211 FModel.nearest(Z)J -/
def f211_166  (x1 : Int32) (x4 : Int32) (x5 : Int64) (s : zS) : Option (Int64 × zS) := zb1 (f212 x5 x4 x1 s) (fun v2 s1 => some (v2, s1))
theorem k211_166 {X : mX} {D : Nat}   (x1 : Int32) (x4 : Int32) (x5 : Int64) (s : zS) (r : Int64 × zS) (o2 : Option Value) (o3 : Option Value) (o7 : Option Value) (o8 : Option Value)  (h : f211_166  x1 x4 x5 s = some r) : Ev X (D + 3) mm211 166 [some (.ref 24), some (.int x1), o2, o3, some (.int x4), some (.long x5), none, o7, o8] [] (mk s) (encL r) := by
  unfold f211_166 at h
  refine Ev.run (pc' := 172) (ls' := [some (.ref 24), some (.int x1), o2, o3, some (.int x4), some (.long x5), none, o7, o8]) (st' := [.int x1, .int x4, .long x5, .ref 24]) (h' := mk s) 4 rfl ?_
  obtain ⟨v2, s1, hq, h⟩ := zb1_some h
  refine Ev.call (M' := mm212) (v := some (.long v2)) (h' := mk s1) rfl rfl rfl (Nat.le_of_ble_eq_true rfl) (k212 hq) ?_
  cases h
  exact Ev.fin rfl rfl
def f211_139  (x1 : Int32) (x4 : Int32) (x5 : Int64) (x7 : Int32) (y0 : Int32) (s : zS) : Option (Int64 × zS) := if x7 = zi 0 then f211_166 x1 x4 x5 s else if y0 = zi 0 then f211_166 x1 x4 (x5 + (zl 1)) s else if ¬ (x5 &&& (zl 1)) = (zl 1) then f211_166 x1 x4 x5 s else f211_166 x1 x4 (x5 + (zl 1)) s
theorem k211_139 {X : mX} {D : Nat}   (x1 : Int32) (x4 : Int32) (x5 : Int64) (x7 : Int32) (y0 : Int32) (s : zS) (r : Int64 × zS) (o2 : Option Value) (o3 : Option Value) (o8 : Option Value)  (h : f211_139  x1 x4 x5 x7 y0 s = some r) : Ev X (D + 3) mm211 139 [some (.ref 24), some (.int x1), o2, o3, some (.int x4), some (.long x5), none, some (.int x7), o8] [.int y0] (mk s) (encL r) := by
  unfold f211_139 at h
  refine Ev.run (pc' := 143) (ls' := [some (.ref 24), some (.int x1), o2, o3, some (.int x4), some (.long x5), none, some (.int x7), some (.int y0)]) (st' := [.int x7]) (h' := mk s) 2 rfl ?_
  refine Ev.if_eq (t := 166) rfl rfl (fun hb => ?_) (fun hb => ?_)
  · have h := (if_pos hb).symm.trans h
    exact k211_166 x1 x4 x5 s _ _ _ _ _ h
  · have h := (if_neg hb).symm.trans h
    refine Ev.run (pc' := 148) (ls' := [some (.ref 24), some (.int x1), o2, o3, some (.int x4), some (.long x5), none, some (.int x7), some (.int y0)]) (st' := [.int y0]) (h' := mk s) 1 rfl ?_
    refine Ev.if_eq (t := 160) rfl rfl (fun hb => ?_) (fun hb => ?_)
    · have h := (if_pos hb).symm.trans h
      refine Ev.run (pc' := 166) (ls' := [some (.ref 24), some (.int x1), o2, o3, some (.int x4), some (.long (x5 + (zl 1))), none, some (.int x7), some (.int y0)]) (st' := []) (h' := mk s) 4 rfl ?_
      exact k211_166 x1 x4 (x5 + (zl 1)) s _ _ _ _ _ h
    · have h := (if_neg hb).symm.trans h
      refine Ev.run (pc' := 157) (ls' := [some (.ref 24), some (.int x1), o2, o3, some (.int x4), some (.long x5), none, some (.int x7), some (.int y0)]) (st' := [.int (lg_cmp (x5 &&& (zl 1)) (zl 1))]) (h' := mk s) 5 rfl ?_
      refine Ev.ifl_ne (t := 166) rfl rfl (fun hb => ?_) (fun hb => ?_)
      · have h := (if_pos hb).symm.trans h
        exact k211_166 x1 x4 x5 s _ _ _ _ _ h
      · have h := (if_neg hb).symm.trans h
        refine Ev.run (pc' := 166) (ls' := [some (.ref 24), some (.int x1), o2, o3, some (.int x4), some (.long (x5 + (zl 1))), none, some (.int x7), some (.int y0)]) (st' := []) (h' := mk s) 4 rfl ?_
        exact k211_166 x1 x4 (x5 + (zl 1)) s _ _ _ _ _ h
def f211_109  (x1 : Int32) (x4 : Int32) (x5 : Int64) (y0 : Int32) (s : zS) : Option (Int64 × zS) := zb1 (f235 32 (zi (-1)) s) (fun v2 s1 => if ¬ v2 = (zi 5) then f211_139 x1 x4 x5 y0 (zi 0) s1 else zb1 (f239 32 (zi (-1)) s1) (fun v4 s3 => if ¬ v4 = zi 0 then f211_139 x1 x4 x5 y0 (zi 0) s3 else f211_139 x1 x4 x5 y0 (zi 1) s3))
theorem k211_109 {X : mX} {D : Nat}   (x1 : Int32) (x4 : Int32) (x5 : Int64) (y0 : Int32) (s : zS) (r : Int64 × zS) (o2 : Option Value) (o3 : Option Value) (o7 : Option Value) (o8 : Option Value)  (h : f211_109  x1 x4 x5 y0 s = some r) : Ev X (D + 3) mm211 109 [some (.ref 24), some (.int x1), o2, o3, some (.int x4), some (.long x5), none, o7, o8] [.int y0] (mk s) (encL r) := by
  unfold f211_109 at h
  refine Ev.run (pc' := 116) (ls' := [some (.ref 24), some (.int x1), o2, o3, some (.int x4), some (.long x5), none, some (.int y0), o8]) (st' := [.int (zi (-1)), .ref 32]) (h' := mk s) 4 rfl ?_
  obtain ⟨v2, s1, hq, h⟩ := zb1_some h
  refine Ev.call (M' := mm235) (v := some (.int v2)) (h' := mk s1) rfl rfl rfl (Nat.le_of_ble_eq_true rfl) (k235 (by decide) hq) ?_
  refine Ev.run (pc' := 120) (ls' := [some (.ref 24), some (.int x1), o2, o3, some (.int x4), some (.long x5), none, some (.int y0), o8]) (st' := [.int (zi 5), .int v2]) (h' := mk s1) 1 rfl ?_
  refine Ev.icmp_ne (t := 138) rfl rfl (fun hb => ?_) (fun hb => ?_)
  · have h := (if_pos hb).symm.trans h
    refine Ev.run (pc' := 139) (ls' := [some (.ref 24), some (.int x1), o2, o3, some (.int x4), some (.long x5), none, some (.int y0), o8]) (st' := [.int (zi 0)]) (h' := mk s1) 1 rfl ?_
    exact k211_139 x1 x4 x5 y0 (zi 0) s1 _ _ _ _ h
  · have h := (if_neg hb).symm.trans h
    refine Ev.run (pc' := 128) (ls' := [some (.ref 24), some (.int x1), o2, o3, some (.int x4), some (.long x5), none, some (.int y0), o8]) (st' := [.int (zi (-1)), .ref 32]) (h' := mk s1) 3 rfl ?_
    obtain ⟨v4, s3, hq, h⟩ := zb1_some h
    refine Ev.call (M' := mm239) (v := some (.int v4)) (h' := mk s3) rfl rfl rfl (Nat.le_of_ble_eq_true rfl) (k239 (by decide) hq) ?_
    refine Ev.if_ne (t := 138) rfl rfl (fun hb => ?_) (fun hb => ?_)
    · have h := (if_pos hb).symm.trans h
      refine Ev.run (pc' := 139) (ls' := [some (.ref 24), some (.int x1), o2, o3, some (.int x4), some (.long x5), none, some (.int y0), o8]) (st' := [.int (zi 0)]) (h' := mk s3) 1 rfl ?_
      exact k211_139 x1 x4 x5 y0 (zi 0) s3 _ _ _ _ h
    · have h := (if_neg hb).symm.trans h
      refine Ev.run (pc' := 139) (ls' := [some (.ref 24), some (.int x1), o2, o3, some (.int x4), some (.long x5), none, some (.int y0), o8]) (st' := [.int (zi 1)]) (h' := mk s3) 2 rfl ?_
      exact k211_139 x1 x4 x5 y0 (zi 1) s3 _ _ _ _ h
def f211_86  (x1 : Int32) (x4 : Int32) (s : zS) : Option (Int64 × zS) := zb1 (f214 s) (fun v2 s1 => zb1 (f235 32 (zi (-1)) s1) (fun v4 s3 => if v4 < (zi 5) then f211_109 x1 x4 v2 (zi 0) s3 else f211_109 x1 x4 v2 (zi 1) s3))
theorem k211_86 {X : mX} {D : Nat}   (x1 : Int32) (x4 : Int32) (s : zS) (r : Int64 × zS) (o2 : Option Value) (o3 : Option Value) (o5 : Option Value) (o6 : Option Value) (o7 : Option Value) (o8 : Option Value)  (h : f211_86  x1 x4 s = some r) : Ev X (D + 3) mm211 86 [some (.ref 24), some (.int x1), o2, o3, some (.int x4), o5, o6, o7, o8] [] (mk s) (encL r) := by
  unfold f211_86 at h
  refine Ev.run (pc' := 87) (ls' := [some (.ref 24), some (.int x1), o2, o3, some (.int x4), o5, o6, o7, o8]) (st' := [.ref 24]) (h' := mk s) 1 rfl ?_
  obtain ⟨v2, s1, hq, h⟩ := zb1_some h
  refine Ev.call (M' := mm214) (v := some (.long v2)) (h' := mk s1) rfl rfl rfl (Nat.le_of_ble_eq_true rfl) (k214 hq) ?_
  refine Ev.run (pc' := 97) (ls' := [some (.ref 24), some (.int x1), o2, o3, some (.int x4), some (.long v2), none, o7, o8]) (st' := [.int (zi (-1)), .ref 32]) (h' := mk s1) 4 rfl ?_
  obtain ⟨v4, s3, hq, h⟩ := zb1_some h
  refine Ev.call (M' := mm235) (v := some (.int v4)) (h' := mk s3) rfl rfl rfl (Nat.le_of_ble_eq_true rfl) (k235 (by decide) hq) ?_
  refine Ev.run (pc' := 101) (ls' := [some (.ref 24), some (.int x1), o2, o3, some (.int x4), some (.long v2), none, o7, o8]) (st' := [.int (zi 5), .int v4]) (h' := mk s3) 1 rfl ?_
  refine Ev.icmp_lt (t := 108) rfl rfl (fun hb => ?_) (fun hb => ?_)
  · have h := (if_pos hb).symm.trans h
    refine Ev.run (pc' := 109) (ls' := [some (.ref 24), some (.int x1), o2, o3, some (.int x4), some (.long v2), none, o7, o8]) (st' := [.int (zi 0)]) (h' := mk s3) 1 rfl ?_
    exact k211_109 x1 x4 v2 (zi 0) s3 _ _ _ _ _ h
  · have h := (if_neg hb).symm.trans h
    refine Ev.run (pc' := 109) (ls' := [some (.ref 24), some (.int x1), o2, o3, some (.int x4), some (.long v2), none, o7, o8]) (st' := [.int (zi 1)]) (h' := mk s3) 2 rfl ?_
    exact k211_109 x1 x4 v2 (zi 1) s3 _ _ _ _ _ h
def b211_59 (rec59 : Int32 → Int32 → Int32 → Int32 → zS → Option (Int64 × zS)) (x1 : Int32) (x2 : Int32) (x3 : Int32) (x4 : Int32) (s : zS) : Option (Int64 × zS) := zb1 (f213 s) (fun v2 s1 => if v2 ≥ x2 then f211_86 x1 x4 s1 else if x4 ≤ x3 then f211_86 x1 x4 s1 else zb0 (f232 32 s1) (fun s3 => rec59 x1 x2 x3 (x4 + zi (-1)) s3))
theorem kb211_59 {X : mX} {D : Nat} {rec59 : Int32 → Int32 → Int32 → Int32 → zS → Option (Int64 × zS)} (hrec59 : ∀ (x1 : Int32) (x2 : Int32) (x3 : Int32) (x4 : Int32) (s : zS) (r : Int64 × zS) (o5 : Option Value) (o6 : Option Value) (o7 : Option Value) (o8 : Option Value), rec59 x1 x2 x3 x4 s = some r → Ev X (D + 3) mm211 59 [some (.ref 24), some (.int x1), some (.int x2), some (.int x3), some (.int x4), o5, o6, o7, o8] [] (mk s) (encL r)) (x1 : Int32) (x2 : Int32) (x3 : Int32) (x4 : Int32) (s : zS) (r : Int64 × zS) (o5 : Option Value) (o6 : Option Value) (o7 : Option Value) (o8 : Option Value)  (h : b211_59 rec59 x1 x2 x3 x4 s = some r) : Ev X (D + 3) mm211 59 [some (.ref 24), some (.int x1), some (.int x2), some (.int x3), some (.int x4), o5, o6, o7, o8] [] (mk s) (encL r) := by
  unfold b211_59 at h
  refine Ev.run (pc' := 60) (ls' := [some (.ref 24), some (.int x1), some (.int x2), some (.int x3), some (.int x4), o5, o6, o7, o8]) (st' := [.ref 24]) (h' := mk s) 1 rfl ?_
  obtain ⟨v2, s1, hq, h⟩ := zb1_some h
  refine Ev.call (M' := mm213) (v := some (.int v2)) (h' := mk s1) rfl rfl rfl (Nat.le_of_ble_eq_true rfl) (k213 hq) ?_
  refine Ev.run (pc' := 64) (ls' := [some (.ref 24), some (.int x1), some (.int x2), some (.int x3), some (.int x4), o5, o6, o7, o8]) (st' := [.int x2, .int v2]) (h' := mk s1) 1 rfl ?_
  refine Ev.icmp_ge (t := 86) rfl rfl (fun hb => ?_) (fun hb => ?_)
  · have h := (if_pos hb).symm.trans h
    exact k211_86 x1 x4 s1 _ _ _ _ _ _ _ h
  · have h := (if_neg hb).symm.trans h
    refine Ev.run (pc' := 70) (ls' := [some (.ref 24), some (.int x1), some (.int x2), some (.int x3), some (.int x4), o5, o6, o7, o8]) (st' := [.int x3, .int x4]) (h' := mk s1) 2 rfl ?_
    refine Ev.icmp_le (t := 86) rfl rfl (fun hb => ?_) (fun hb => ?_)
    · have h := (if_pos hb).symm.trans h
      exact k211_86 x1 x4 s1 _ _ _ _ _ _ _ h
    · have h := (if_neg hb).symm.trans h
      refine Ev.run (pc' := 77) (ls' := [some (.ref 24), some (.int x1), some (.int x2), some (.int x3), some (.int x4), o5, o6, o7, o8]) (st' := [.ref 32]) (h' := mk s1) 2 rfl ?_
      obtain ⟨s3, hq, h⟩ := zb0_some h
      refine Ev.call (M' := mm232) (v := none) (h' := mk s3) rfl rfl rfl (Nat.le_of_ble_eq_true rfl) (k232 (by decide) hq) ?_
      refine Ev.run (pc' := 59) (ls' := [some (.ref 24), some (.int x1), some (.int x2), some (.int x3), some (.int (x4 + zi (-1))), o5, o6, o7, o8]) (st' := []) (h' := mk s3) 2 rfl ?_
      exact hrec59 x1 x2 x3 (x4 + zi (-1)) s3 _ _ _ _ _ h
def f211_59  : Nat → Int32 → Int32 → Int32 → Int32 → zS → Option (Int64 × zS)
  | 0, _, _, _, _, _ => none
  | n + 1, x1, x2, x3, x4, s => b211_59 (f211_59 n) x1 x2 x3 x4 s
theorem k211_59 {X : mX} {D : Nat}   (n : Nat) : ∀ (x1 : Int32) (x2 : Int32) (x3 : Int32) (x4 : Int32) (s : zS) (r : Int64 × zS) (o5 : Option Value) (o6 : Option Value) (o7 : Option Value) (o8 : Option Value), f211_59  n x1 x2 x3 x4 s = some r → Ev X (D + 3) mm211 59 [some (.ref 24), some (.int x1), some (.int x2), some (.int x3), some (.int x4), o5, o6, o7, o8] [] (mk s) (encL r) := by
  induction n with
  | zero => intro x1 x2 x3 x4 s r o5 o6 o7 o8  h; cases h
  | succ n ih => intro x1 x2 x3 x4 s r o5 o6 o7 o8  h; exact kb211_59  ih x1 x2 x3 x4 s r o5 o6 o7 o8  h
def f211_46 (rec29 : Int32 → Int32 → Int32 → Int32 → zS → Option (Int64 × zS)) (x1 : Int32) (x2 : Int32) (x3 : Int32) (x4 : Int32) (s : zS) : Option (Int64 × zS) := zb0 (f233 32 s) (fun s1 => rec29 x1 x2 x3 (x4 + zi 1) s1)
theorem k211_46 {X : mX} {D : Nat} {rec29 : Int32 → Int32 → Int32 → Int32 → zS → Option (Int64 × zS)} (hrec29 : ∀ (x1 : Int32) (x2 : Int32) (x3 : Int32) (x4 : Int32) (s : zS) (r : Int64 × zS) (o5 : Option Value) (o6 : Option Value) (o7 : Option Value) (o8 : Option Value), rec29 x1 x2 x3 x4 s = some r → Ev X (D + 3) mm211 29 [some (.ref 24), some (.int x1), some (.int x2), some (.int x3), some (.int x4), o5, o6, o7, o8] [] (mk s) (encL r)) (x1 : Int32) (x2 : Int32) (x3 : Int32) (x4 : Int32) (s : zS) (r : Int64 × zS) (o5 : Option Value) (o6 : Option Value) (o7 : Option Value) (o8 : Option Value)  (h : f211_46 rec29 x1 x2 x3 x4 s = some r) : Ev X (D + 3) mm211 46 [some (.ref 24), some (.int x1), some (.int x2), some (.int x3), some (.int x4), o5, o6, o7, o8] [] (mk s) (encL r) := by
  unfold f211_46 at h
  refine Ev.run (pc' := 50) (ls' := [some (.ref 24), some (.int x1), some (.int x2), some (.int x3), some (.int x4), o5, o6, o7, o8]) (st' := [.ref 32]) (h' := mk s) 2 rfl ?_
  obtain ⟨s1, hq, h⟩ := zb0_some h
  refine Ev.call (M' := mm233) (v := none) (h' := mk s1) rfl rfl rfl (Nat.le_of_ble_eq_true rfl) (k233 (by decide) hq) ?_
  refine Ev.run (pc' := 29) (ls' := [some (.ref 24), some (.int x1), some (.int x2), some (.int x3), some (.int (x4 + zi 1)), o5, o6, o7, o8]) (st' := []) (h' := mk s1) 2 rfl ?_
  exact hrec29 x1 x2 x3 (x4 + zi 1) s1 _ _ _ _ _ h
def b211_29 (rec29 : Int32 → Int32 → Int32 → Int32 → zS → Option (Int64 × zS)) (x1 : Int32) (x2 : Int32) (x3 : Int32) (x4 : Int32) (s : zS) : Option (Int64 × zS) := zb1 (f213 s) (fun v2 s1 => if v2 ≥ (x2 + (zi 1)) then f211_46 rec29 x1 x2 x3 x4 s1 else zb1 (f213 s1) (fun v4 s3 => if v4 ≥ zi 0 then f211_59 zF x1 x2 x3 x4 s3 else f211_46 rec29 x1 x2 x3 x4 s3))
theorem kb211_29 {X : mX} {D : Nat} {rec29 : Int32 → Int32 → Int32 → Int32 → zS → Option (Int64 × zS)} (hrec29 : ∀ (x1 : Int32) (x2 : Int32) (x3 : Int32) (x4 : Int32) (s : zS) (r : Int64 × zS) (o5 : Option Value) (o6 : Option Value) (o7 : Option Value) (o8 : Option Value), rec29 x1 x2 x3 x4 s = some r → Ev X (D + 3) mm211 29 [some (.ref 24), some (.int x1), some (.int x2), some (.int x3), some (.int x4), o5, o6, o7, o8] [] (mk s) (encL r)) (x1 : Int32) (x2 : Int32) (x3 : Int32) (x4 : Int32) (s : zS) (r : Int64 × zS) (o5 : Option Value) (o6 : Option Value) (o7 : Option Value) (o8 : Option Value)  (h : b211_29 rec29 x1 x2 x3 x4 s = some r) : Ev X (D + 3) mm211 29 [some (.ref 24), some (.int x1), some (.int x2), some (.int x3), some (.int x4), o5, o6, o7, o8] [] (mk s) (encL r) := by
  unfold b211_29 at h
  refine Ev.run (pc' := 30) (ls' := [some (.ref 24), some (.int x1), some (.int x2), some (.int x3), some (.int x4), o5, o6, o7, o8]) (st' := [.ref 24]) (h' := mk s) 1 rfl ?_
  obtain ⟨v2, s1, hq, h⟩ := zb1_some h
  refine Ev.call (M' := mm213) (v := some (.int v2)) (h' := mk s1) rfl rfl rfl (Nat.le_of_ble_eq_true rfl) (k213 hq) ?_
  refine Ev.run (pc' := 36) (ls' := [some (.ref 24), some (.int x1), some (.int x2), some (.int x3), some (.int x4), o5, o6, o7, o8]) (st' := [.int (x2 + (zi 1)), .int v2]) (h' := mk s1) 3 rfl ?_
  refine Ev.icmp_ge (t := 46) rfl rfl (fun hb => ?_) (fun hb => ?_)
  · have h := (if_pos hb).symm.trans h
    exact k211_46 hrec29 x1 x2 x3 x4 s1 _ _ _ _ _ h
  · have h := (if_neg hb).symm.trans h
    refine Ev.run (pc' := 40) (ls' := [some (.ref 24), some (.int x1), some (.int x2), some (.int x3), some (.int x4), o5, o6, o7, o8]) (st' := [.ref 24]) (h' := mk s1) 1 rfl ?_
    obtain ⟨v4, s3, hq, h⟩ := zb1_some h
    refine Ev.call (M' := mm213) (v := some (.int v4)) (h' := mk s3) rfl rfl rfl (Nat.le_of_ble_eq_true rfl) (k213 hq) ?_
    refine Ev.if_ge (t := 59) rfl rfl (fun hb => ?_) (fun hb => ?_)
    · have h := (if_pos hb).symm.trans h
      exact k211_59 zF x1 x2 x3 x4 s3 _ _ _ _ _ h
    · have h := (if_neg hb).symm.trans h
      exact k211_46 hrec29 x1 x2 x3 x4 s3 _ _ _ _ _ h
def f211_29  : Nat → Int32 → Int32 → Int32 → Int32 → zS → Option (Int64 × zS)
  | 0, _, _, _, _, _ => none
  | n + 1, x1, x2, x3, x4, s => b211_29 (f211_29 n) x1 x2 x3 x4 s
theorem k211_29 {X : mX} {D : Nat}   (n : Nat) : ∀ (x1 : Int32) (x2 : Int32) (x3 : Int32) (x4 : Int32) (s : zS) (r : Int64 × zS) (o5 : Option Value) (o6 : Option Value) (o7 : Option Value) (o8 : Option Value), f211_29  n x1 x2 x3 x4 s = some r → Ev X (D + 3) mm211 29 [some (.ref 24), some (.int x1), some (.int x2), some (.int x3), some (.int x4), o5, o6, o7, o8] [] (mk s) (encL r) := by
  induction n with
  | zero => intro x1 x2 x3 x4 s r o5 o6 o7 o8  h; cases h
  | succ n ih => intro x1 x2 x3 x4 s r o5 o6 o7 o8  h; exact kb211_29  ih x1 x2 x3 x4 s r o5 o6 o7 o8  h
def f211_11  (x1 : Int32) (y0 : Int32) (s : zS) : Option (Int64 × zS) := if x1 = zi 0 then f211_29 zF x1 y0 (zi (-1074)) (zi 0) s else f211_29 zF x1 y0 (zi (-149)) (zi 0) s
theorem k211_11 {X : mX} {D : Nat}   (x1 : Int32) (y0 : Int32) (s : zS) (r : Int64 × zS) (o2 : Option Value) (o3 : Option Value) (o4 : Option Value) (o5 : Option Value) (o6 : Option Value) (o7 : Option Value) (o8 : Option Value)  (h : f211_11  x1 y0 s = some r) : Ev X (D + 3) mm211 11 [some (.ref 24), some (.int x1), o2, o3, o4, o5, o6, o7, o8] [.int y0] (mk s) (encL r) := by
  unfold f211_11 at h
  refine Ev.run (pc' := 13) (ls' := [some (.ref 24), some (.int x1), some (.int y0), o3, o4, o5, o6, o7, o8]) (st' := [.int x1]) (h' := mk s) 2 rfl ?_
  refine Ev.if_eq (t := 22) rfl rfl (fun hb => ?_) (fun hb => ?_)
  · have h := (if_pos hb).symm.trans h
    refine Ev.run (pc' := 29) (ls' := [some (.ref 24), some (.int x1), some (.int y0), some (.int (zi (-1074))), some (.int (zi 0)), o5, o6, o7, o8]) (st' := []) (h' := mk s) 4 rfl ?_
    exact k211_29 zF x1 y0 (zi (-1074)) (zi 0) s _ _ _ _ _ h
  · have h := (if_neg hb).symm.trans h
    refine Ev.run (pc' := 29) (ls' := [some (.ref 24), some (.int x1), some (.int y0), some (.int (zi (-149))), some (.int (zi 0)), o5, o6, o7, o8]) (st' := []) (h' := mk s) 5 rfl ?_
    exact k211_29 zF x1 y0 (zi (-149)) (zi 0) s _ _ _ _ _ h
def f211  (x1 : Int32) (s : zS) : Option (Int64 × zS) := if x1 = zi 0 then f211_11 x1 (zi 53) s else f211_11 x1 (zi 24) s
theorem k211 {X : mX} {D : Nat} {x1 : Int32} {s : zS} {r : Int64 × zS}  (h : f211 x1 s = some r) : Ev X (D + 3) mm211 0 [some (.ref 24), some (.int x1), none, none, none, none, none, none, none] [] (mk s) (encL r) := by
  unfold f211 at h
  refine Ev.run (pc' := 1) (ls' := [some (.ref 24), some (.int x1), none, none, none, none, none, none, none]) (st' := [.int x1]) (h' := mk s) 1 rfl ?_
  refine Ev.if_eq (t := 9) rfl rfl (fun hb => ?_) (fun hb => ?_)
  · have h := (if_pos hb).symm.trans h
    refine Ev.run (pc' := 11) (ls' := [some (.ref 24), some (.int x1), none, none, none, none, none, none, none]) (st' := [.int (zi 53)]) (h' := mk s) 1 rfl ?_
    exact k211_11 x1 (zi 53) s _ _ _ _ _ _ _ _ h
  · have h := (if_neg hb).symm.trans h
    refine Ev.run (pc' := 11) (ls' := [some (.ref 24), some (.int x1), none, none, none, none, none, none, none]) (st' := [.int (zi 24)]) (h' := mk s) 2 rfl ?_
    exact k211_11 x1 (zi 24) s _ _ _ _ _ _ _ _ h
