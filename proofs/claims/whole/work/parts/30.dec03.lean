/-! decompiled methods, 3; printed by wip/gen/gen8.py -/
/-! 125 F$Shortest.write(LFormatPress$Piece;LFormatPress$Decimal;JIZ)V -/
def f125_244  (d1 : Nat) (s : zS) : Option (zS) := zb0 (f71 d1 s) (fun s1 => zb0 (f78 (zI2L ((s1.1 19 7) - (zi 1))) (zi 1) (zi 0) s1) (fun s2 => some s2))
set_option maxRecDepth 100000 in
theorem k125_244 {X : mX} {D : Nat}   (d1 : Nat) (s : zS) (r : zS) (o2 : Option Value) (o3 : Option Value) (o4 : Option Value) (o5 : Option Value) (o6 : Option Value) (o7 : Option Value) (o8 : Option Value) (hd1 : d1 < 78) (h : f125_244  d1 s = some r) : Ev X (D + 7) mm125 244 [some (.ref 19), some (.ref 13), o2, o3, o4, o5, o6, o7, o8] [.ref (mRO + 3 + 2 * d1), .ref 13] (mk s) (encV r) := by
  unfold f125_244 at h
  obtain ⟨s1, hq, h⟩ := zb0_some h
  refine Ev.call (M' := mm71) (v := none) (h' := mk s1) rfl rfl rfl (Nat.le_of_ble_eq_true rfl) (k71 hd1 hq) ?_
  refine Ev.run (pc' := 257) (ls' := [some (.ref 19), some (.ref 13), o2, o3, o4, o5, o6, o7, o8]) (st' := [.int (zi 0), .int (zi 1), .long (zI2L ((s1.1 19 7) - (zi 1))), .ref 13]) (h' := mk s1) 8 rfl ?_
  obtain ⟨s2, hq, h⟩ := zb0_some h
  refine Ev.call (M' := mm78) (v := none) (h' := mk s2) rfl rfl rfl (Nat.le_of_ble_eq_true rfl) (k78 hq) ?_
  cases h
  exact Ev.fin rfl rfl
def f125_221  (x7 : Int64) (s : zS) : Option (zS) := zb0 (f130 x7 (zi 1) s) (fun s1 => if (s1.1 19 7) ≥ (zi 1) then f125_244 21 s1 else f125_244 20 s1)
set_option maxRecDepth 100000 in
theorem k125_221 {X : mX} {D : Nat}   (x7 : Int64) (s : zS) (r : zS) (o2 : Option Value) (o3 : Option Value) (o4 : Option Value) (o5 : Option Value) (o6 : Option Value)  (h : f125_221  x7 s = some r) : Ev X (D + 7) mm125 221 [some (.ref 19), some (.ref 13), o2, o3, o4, o5, o6, some (.long x7), none] [] (mk s) (encV r) := by
  unfold f125_221 at h
  refine Ev.run (pc' := 225) (ls' := [some (.ref 19), some (.ref 13), o2, o3, o4, o5, o6, some (.long x7), none]) (st' := [.int (zi 1), .long x7, .ref 13]) (h' := mk s) 3 rfl ?_
  obtain ⟨s1, hq, h⟩ := zb0_some h
  refine Ev.call (M' := mm130) (v := none) (h' := mk s1) rfl rfl rfl (Nat.le_of_ble_eq_true rfl) (k130 hq) ?_
  refine Ev.run (pc' := 234) (ls' := [some (.ref 19), some (.ref 13), o2, o3, o4, o5, o6, some (.long x7), none]) (st' := [.int (zi 1), .int (s1.1 19 7), .ref 13]) (h' := mk s1) 4 rfl ?_
  refine Ev.icmp_ge (t := 242) rfl rfl (fun hb => ?_) (fun hb => ?_)
  · have h := (if_pos hb).symm.trans h
    refine Ev.run (pc' := 244) (ls' := [some (.ref 19), some (.ref 13), o2, o3, o4, o5, o6, some (.long x7), none]) (st' := [.ref (mRO + 3 + 2 * 21), .ref 13]) (h' := mk s1) 1 rfl ?_
    exact k125_244 21 s1 _ _ _ _ _ _ _ _ (by decide) h
  · have h := (if_neg hb).symm.trans h
    refine Ev.run (pc' := 244) (ls' := [some (.ref 19), some (.ref 13), o2, o3, o4, o5, o6, some (.long x7), none]) (st' := [.ref (mRO + 3 + 2 * 20), .ref 13]) (h' := mk s1) 2 rfl ?_
    exact k125_244 20 s1 _ _ _ _ _ _ _ _ (by decide) h
def f125_190  (x7 : Int64) (s : zS) : Option (zS) := if (s.1 19 7) < (zi (-2)) then f125_221 x7 s else if (s.1 19 7) > (zi 7) then f125_221 x7 s else zb0 (f130 x7 (s.1 19 7) s) (fun s1 => some s1)
set_option maxRecDepth 100000 in
theorem k125_190 {X : mX} {D : Nat}   (x7 : Int64) (s : zS) (r : zS) (o2 : Option Value) (o3 : Option Value) (o4 : Option Value) (o5 : Option Value) (o6 : Option Value)  (h : f125_190  x7 s = some r) : Ev X (D + 7) mm125 190 [some (.ref 19), some (.ref 13), o2, o3, o4, o5, o6, some (.long x7), none] [] (mk s) (encV r) := by
  unfold f125_190 at h
  refine Ev.run (pc' := 196) (ls' := [some (.ref 19), some (.ref 13), o2, o3, o4, o5, o6, some (.long x7), none]) (st' := [.int (zi (-2)), .int (s.1 19 7)]) (h' := mk s) 3 rfl ?_
  refine Ev.icmp_lt (t := 221) rfl rfl (fun hb => ?_) (fun hb => ?_)
  · have h := (if_pos hb).symm.trans h
    exact k125_221 x7 s _ _ _ _ _ _ h
  · have h := (if_neg hb).symm.trans h
    refine Ev.run (pc' := 205) (ls' := [some (.ref 19), some (.ref 13), o2, o3, o4, o5, o6, some (.long x7), none]) (st' := [.int (zi 7), .int (s.1 19 7)]) (h' := mk s) 3 rfl ?_
    refine Ev.icmp_gt (t := 221) rfl rfl (fun hb => ?_) (fun hb => ?_)
    · have h := (if_pos hb).symm.trans h
      exact k125_221 x7 s _ _ _ _ _ _ h
    · have h := (if_neg hb).symm.trans h
      refine Ev.run (pc' := 215) (ls' := [some (.ref 19), some (.ref 13), o2, o3, o4, o5, o6, some (.long x7), none]) (st' := [.int (s.1 19 7), .long x7, .ref 13]) (h' := mk s) 4 rfl ?_
      obtain ⟨s1, hq, h⟩ := zb0_some h
      refine Ev.call (M' := mm130) (v := none) (h' := mk s1) rfl rfl rfl (Nat.le_of_ble_eq_true rfl) (k130 hq) ?_
      refine Ev.run (pc' := 260) (ls' := [some (.ref 19), some (.ref 13), o2, o3, o4, o5, o6, some (.long x7), none]) (st' := []) (h' := mk s1) 1 rfl ?_
      cases h
      exact Ev.fin rfl rfl
def f125_80  (x3 : Int64) (x5 : Int32) (x6 : Int32) (y1 : Int64) (y2 : Int32) (s : zS) : Option (zS) := zb0 (f113 (y1 - (zI2L y2)) (x5 - (zi 2)) s) (fun s1 => zb1 (f121 (s1.1 19 7) s1) (fun v3 s2 => zb1 (f122 (s2.1 19 7) (setJ s2 19 2 v3)) (fun v5 s4 => if mBit v5 then zb0 (f113 (((zl 4) * x3) + (zl 2)) (x5 - (zi 2)) (setI s4 19 3 v5)) (fun s6 => zb1 (f121 (s6.1 19 7) s6) (fun v8 s7 => zb1 (f122 (s7.1 19 7) (setJ s7 19 4 v8)) (fun v10 s9 => if mBit v10 then zb1 (f126 (setI s9 19 5 v10)) (fun v12 s11 => if mIx (zi 18) 19 then if ¬ v12 = (mTens ((zi 18).toNatClampNeg)) then f125_190 v12 s11 else f125_190 (v12 / (zl 10)) (setI s11 19 7 ((s11.1 19 7) + (zi 1))) else none) else none))) else none)))
set_option maxRecDepth 100000 in
theorem k125_80 {X : mX} {D : Nat}   (x3 : Int64) (x5 : Int32) (x6 : Int32) (y1 : Int64) (y2 : Int32) (s : zS) (r : zS) (o7 : Option Value) (o8 : Option Value)  (h : f125_80  x3 x5 x6 y1 y2 s = some r) : Ev X (D + 7) mm125 80 [some (.ref 19), some (.ref 13), some (.ref 16), some (.long x3), none, some (.int x5), some (.int x6), o7, o8] [.int y2, .long y1, .ref 16] (mk s) (encV r) := by
  unfold f125_80 at h
  refine Ev.run (pc' := 86) (ls' := [some (.ref 19), some (.ref 13), some (.ref 16), some (.long x3), none, some (.int x5), some (.int x6), o7, o8]) (st' := [.int (x5 - (zi 2)), .long (y1 - (zI2L y2)), .ref 16]) (h' := mk s) 5 rfl ?_
  obtain ⟨s1, hq, h⟩ := zb0_some h
  refine Ev.call (M' := mm113) (v := none) (h' := mk s1) rfl rfl rfl (Nat.le_of_ble_eq_true rfl) (k113 hq) ?_
  refine Ev.run (pc' := 95) (ls' := [some (.ref 19), some (.ref 13), some (.ref 16), some (.long x3), none, some (.int x5), some (.int x6), o7, o8]) (st' := [.int (s1.1 19 7), .ref 16, .ref 19]) (h' := mk s1) 4 rfl ?_
  obtain ⟨v3, s2, hq, h⟩ := zb1_some h
  refine Ev.call (M' := mm121) (v := some (.long v3)) (h' := mk s2) rfl rfl rfl (Nat.le_of_ble_eq_true rfl) (k121 hq) ?_
  refine Ev.step (pc' := 101) rfl (put_9_2 rfl) ?_
  refine Ev.run (pc' := 107) (ls' := [some (.ref 19), some (.ref 13), some (.ref 16), some (.long x3), none, some (.int x5), some (.int x6), o7, o8]) (st' := [.int (s2.1 19 7), .ref 16, .ref 19]) (h' := mk (setJ s2 19 2 v3)) 4 rfl ?_
  obtain ⟨v5, s4, hq, h⟩ := zb1_some h
  refine Ev.call (M' := mm122) (v := some (.int v5)) (h' := mk s4) rfl rfl rfl (Nat.le_of_ble_eq_true rfl) (k122 hq) ?_
  obtain ⟨hx, h⟩ := zif h
  refine Ev.step (pc' := 113) rfl (put_9_3 hx rfl) ?_
  refine Ev.run (pc' := 127) (ls' := [some (.ref 19), some (.ref 13), some (.ref 16), some (.long x3), none, some (.int x5), some (.int x6), o7, o8]) (st' := [.int (x5 - (zi 2)), .long (((zl 4) * x3) + (zl 2)), .ref 16]) (h' := mk (setI s4 19 3 v5)) 9 rfl ?_
  obtain ⟨s6, hq, h⟩ := zb0_some h
  refine Ev.call (M' := mm113) (v := none) (h' := mk s6) rfl rfl rfl (Nat.le_of_ble_eq_true rfl) (k113 hq) ?_
  refine Ev.run (pc' := 136) (ls' := [some (.ref 19), some (.ref 13), some (.ref 16), some (.long x3), none, some (.int x5), some (.int x6), o7, o8]) (st' := [.int (s6.1 19 7), .ref 16, .ref 19]) (h' := mk s6) 4 rfl ?_
  obtain ⟨v8, s7, hq, h⟩ := zb1_some h
  refine Ev.call (M' := mm121) (v := some (.long v8)) (h' := mk s7) rfl rfl rfl (Nat.le_of_ble_eq_true rfl) (k121 hq) ?_
  refine Ev.step (pc' := 142) rfl (put_9_4 rfl) ?_
  refine Ev.run (pc' := 148) (ls' := [some (.ref 19), some (.ref 13), some (.ref 16), some (.long x3), none, some (.int x5), some (.int x6), o7, o8]) (st' := [.int (s7.1 19 7), .ref 16, .ref 19]) (h' := mk (setJ s7 19 4 v8)) 4 rfl ?_
  obtain ⟨v10, s9, hq, h⟩ := zb1_some h
  refine Ev.call (M' := mm122) (v := some (.int v10)) (h' := mk s9) rfl rfl rfl (Nat.le_of_ble_eq_true rfl) (k122 hq) ?_
  obtain ⟨hx, h⟩ := zif h
  refine Ev.step (pc' := 154) rfl (put_9_5 hx rfl) ?_
  refine Ev.run (pc' := 155) (ls' := [some (.ref 19), some (.ref 13), some (.ref 16), some (.long x3), none, some (.int x5), some (.int x6), o7, o8]) (st' := [.ref 19]) (h' := mk (setI s9 19 5 v10)) 1 rfl ?_
  obtain ⟨v12, s11, hq, h⟩ := zb1_some h
  refine Ev.call (M' := mm126) (v := some (.long v12)) (h' := mk s11) rfl rfl rfl (Nat.le_of_ble_eq_true rfl) (k126 hq) ?_
  refine Ev.run (pc' := 167) (ls' := [some (.ref 19), some (.ref 13), some (.ref 16), some (.long x3), none, some (.int x5), some (.int x6), some (.long v12), none]) (st' := [.int (zi 18), .ref (mRO + 1), .long v12]) (h' := mk s11) 4 rfl ?_
  obtain ⟨hx, h⟩ := zif h
  refine Ev.step (pc' := 168) rfl (ald_l rfl hx) ?_
  refine Ev.run (pc' := 169) (ls' := [some (.ref 19), some (.ref 13), some (.ref 16), some (.long x3), none, some (.int x5), some (.int x6), some (.long v12), none]) (st' := [.int (lg_cmp v12 (mTens ((zi 18).toNatClampNeg)))]) (h' := mk s11) 1 rfl ?_
  refine Ev.ifl_ne (t := 190) rfl rfl (fun hb => ?_) (fun hb => ?_)
  · have h := (if_pos hb).symm.trans h
    exact k125_190 v12 s11 _ _ _ _ _ _ h
  · have h := (if_neg hb).symm.trans h
    refine Ev.run (pc' := 187) (ls' := [some (.ref 19), some (.ref 13), some (.ref 16), some (.long x3), none, some (.int x5), some (.int x6), some (.long (v12 / (zl 10))), none]) (st' := [.int ((s11.1 19 7) + (zi 1)), .ref 19]) (h' := mk s11) 9 rfl ?_
    refine Ev.step (pc' := 190) rfl (put_9_7 rfl) ?_
    exact k125_190 (v12 / (zl 10)) (setI s11 19 7 ((s11.1 19 7) + (zi 1))) _ _ _ _ _ _ h
def f125_16  (x3 : Int64) (x5 : Int32) (x6 : Int32) (y1 : Int32) (s : zS) : Option (zS) := if mBit y1 then zb0 (f113 ((zl 4) * x3) (x5 - (zi 2)) (setI s 19 6 y1)) (fun s1 => zb1 (f121 (r117 s1) (setI s1 19 7 (r117 s1))) (fun v3 s2 => zb1 (f122 (s2.1 19 7) (setJ s2 19 0 v3)) (fun v5 s4 => if mBit v5 then if x6 = zi 0 then f125_80 x3 x5 x6 ((zl 4) * x3) (zi 2) (setI s4 19 1 v5) else f125_80 x3 x5 x6 ((zl 4) * x3) (zi 1) (setI s4 19 1 v5) else none))) else none
set_option maxRecDepth 100000 in
theorem k125_16 {X : mX} {D : Nat}   (x3 : Int64) (x5 : Int32) (x6 : Int32) (y1 : Int32) (s : zS) (r : zS) (o7 : Option Value) (o8 : Option Value)  (h : f125_16  x3 x5 x6 y1 s = some r) : Ev X (D + 7) mm125 16 [some (.ref 19), some (.ref 13), some (.ref 16), some (.long x3), none, some (.int x5), some (.int x6), o7, o8] [.int y1, .ref 19] (mk s) (encV r) := by
  unfold f125_16 at h
  obtain ⟨hx, h⟩ := zif h
  refine Ev.step (pc' := 19) rfl (put_9_6 hx rfl) ?_
  refine Ev.run (pc' := 29) (ls' := [some (.ref 19), some (.ref 13), some (.ref 16), some (.long x3), none, some (.int x5), some (.int x6), o7, o8]) (st' := [.int (x5 - (zi 2)), .long ((zl 4) * x3), .ref 16]) (h' := mk (setI s 19 6 y1)) 7 rfl ?_
  obtain ⟨s1, hq, h⟩ := zb0_some h
  refine Ev.call (M' := mm113) (v := none) (h' := mk s1) rfl rfl rfl (Nat.le_of_ble_eq_true rfl) (k113 hq) ?_
  refine Ev.run (pc' := 34) (ls' := [some (.ref 19), some (.ref 13), some (.ref 16), some (.long x3), none, some (.int x5), some (.int x6), o7, o8]) (st' := [.ref 16, .ref 19]) (h' := mk s1) 2 rfl ?_
  refine Ev.call (M' := mm117) (v := some (.int (r117 s1))) (h' := mk s1) rfl rfl rfl (Nat.le_of_ble_eq_true rfl) (k117  (s := s1) (v := r117 s1)  rfl) ?_
  refine Ev.step (pc' := 40) rfl (put_9_7 rfl) ?_
  refine Ev.run (pc' := 46) (ls' := [some (.ref 19), some (.ref 13), some (.ref 16), some (.long x3), none, some (.int x5), some (.int x6), o7, o8]) (st' := [.int (r117 s1), .ref 16, .ref 19]) (h' := mk (setI s1 19 7 (r117 s1))) 4 rfl ?_
  obtain ⟨v3, s2, hq, h⟩ := zb1_some h
  refine Ev.call (M' := mm121) (v := some (.long v3)) (h' := mk s2) rfl rfl rfl (Nat.le_of_ble_eq_true rfl) (k121 hq) ?_
  refine Ev.step (pc' := 52) rfl (put_9_0 rfl) ?_
  refine Ev.run (pc' := 58) (ls' := [some (.ref 19), some (.ref 13), some (.ref 16), some (.long x3), none, some (.int x5), some (.int x6), o7, o8]) (st' := [.int (s2.1 19 7), .ref 16, .ref 19]) (h' := mk (setJ s2 19 0 v3)) 4 rfl ?_
  obtain ⟨v5, s4, hq, h⟩ := zb1_some h
  refine Ev.call (M' := mm122) (v := some (.int v5)) (h' := mk s4) rfl rfl rfl (Nat.le_of_ble_eq_true rfl) (k122 hq) ?_
  obtain ⟨hx, h⟩ := zif h
  refine Ev.step (pc' := 64) rfl (put_9_1 hx rfl) ?_
  refine Ev.run (pc' := 72) (ls' := [some (.ref 19), some (.ref 13), some (.ref 16), some (.long x3), none, some (.int x5), some (.int x6), o7, o8]) (st' := [.int x6, .long ((zl 4) * x3), .ref 16]) (h' := mk (setI s4 19 1 v5)) 5 rfl ?_
  refine Ev.if_eq (t := 79) rfl rfl (fun hb => ?_) (fun hb => ?_)
  · have h := (if_pos hb).symm.trans h
    refine Ev.run (pc' := 80) (ls' := [some (.ref 19), some (.ref 13), some (.ref 16), some (.long x3), none, some (.int x5), some (.int x6), o7, o8]) (st' := [.int (zi 2), .long ((zl 4) * x3), .ref 16]) (h' := mk (setI s4 19 1 v5)) 1 rfl ?_
    exact k125_80 x3 x5 x6 ((zl 4) * x3) (zi 2) (setI s4 19 1 v5) _ _ _ h
  · have h := (if_neg hb).symm.trans h
    refine Ev.run (pc' := 80) (ls' := [some (.ref 19), some (.ref 13), some (.ref 16), some (.long x3), none, some (.int x5), some (.int x6), o7, o8]) (st' := [.int (zi 1), .long ((zl 4) * x3), .ref 16]) (h' := mk (setI s4 19 1 v5)) 2 rfl ?_
    exact k125_80 x3 x5 x6 ((zl 4) * x3) (zi 1) (setI s4 19 1 v5) _ _ _ h
def f125  (x3 : Int64) (x5 : Int32) (x6 : Int32) (s : zS) : Option (zS) := if ¬ (zremL x3 (zl 2)) = (zl 0) then f125_16 x3 x5 x6 (zi 0) s else f125_16 x3 x5 x6 (zi 1) s
set_option maxRecDepth 100000 in
theorem k125 {X : mX} {D : Nat} {x3 : Int64} {x5 : Int32} {x6 : Int32} {s : zS} {r : zS}  (h : f125 x3 x5 x6 s = some r) : Ev X (D + 7) mm125 0 [some (.ref 19), some (.ref 13), some (.ref 16), some (.long x3), none, some (.int x5), some (.int x6), none, none] [] (mk s) (encV r) := by
  unfold f125 at h
  refine Ev.run (pc' := 8) (ls' := [some (.ref 19), some (.ref 13), some (.ref 16), some (.long x3), none, some (.int x5), some (.int x6), none, none]) (st' := [.int (lg_cmp (zremL x3 (zl 2)) (zl 0)), .ref 19]) (h' := mk s) 6 rfl ?_
  refine Ev.ifl_ne (t := 15) rfl rfl (fun hb => ?_) (fun hb => ?_)
  · have h := (if_pos hb).symm.trans h
    refine Ev.run (pc' := 16) (ls' := [some (.ref 19), some (.ref 13), some (.ref 16), some (.long x3), none, some (.int x5), some (.int x6), none, none]) (st' := [.int (zi 0), .ref 19]) (h' := mk s) 1 rfl ?_
    exact k125_16 x3 x5 x6 (zi 0) s _ _ _ h
  · have h := (if_neg hb).symm.trans h
    refine Ev.run (pc' := 16) (ls' := [some (.ref 19), some (.ref 13), some (.ref 16), some (.long x3), none, some (.int x5), some (.int x6), none, none]) (st' := [.int (zi 1), .ref 19]) (h' := mk s) 2 rfl ?_
    exact k125_16 x3 x5 x6 (zi 1) s _ _ _ h
/-! 102 F$RealWriter.writeShortest(LFormatPress$Piece;JZ)V -/
def f102_34   (s : zS) : Option (zS) := if (s.1 15 4) = zi 0 then if ¬ (s.2.1 15 5) = (zl 0) then zb0 (f125 (s.2.1 15 5) (s.1 15 6) (s.1 15 7) s) (fun s1 => some s1) else zb0 (f71 19 s) (fun s2 => some s2) else zb0 (f71 18 s) (fun s3 => some s3)
set_option maxRecDepth 100000 in
theorem k102_34 {X : mX} {D : Nat}    (s : zS) (r : zS) (o2 : Option Value) (o3 : Option Value) (o4 : Option Value)  (h : f102_34   s = some r) : Ev X (D + 8) mm102 34 [some (.ref 15), some (.ref 13), o2, o3, o4] [] (mk s) (encV r) := by
  unfold f102_34 at h
  refine Ev.run (pc' := 38) (ls' := [some (.ref 15), some (.ref 13), o2, o3, o4]) (st' := [.int (s.1 15 4)]) (h' := mk s) 2 rfl ?_
  refine Ev.if_eq (t := 50) rfl rfl (fun hb => ?_) (fun hb => ?_)
  · have h := (if_pos hb).symm.trans h
    refine Ev.run (pc' := 56) (ls' := [some (.ref 15), some (.ref 13), o2, o3, o4]) (st' := [.int (lg_cmp (s.2.1 15 5) (zl 0))]) (h' := mk s) 4 rfl ?_
    refine Ev.ifl_ne (t := 68) rfl rfl (fun hb => ?_) (fun hb => ?_)
    · have h := (if_pos hb).symm.trans h
      refine Ev.run (pc' := 89) (ls' := [some (.ref 15), some (.ref 13), o2, o3, o4]) (st' := [.int (s.1 15 7), .int (s.1 15 6), .long (s.2.1 15 5), .ref 16, .ref 13, .ref 19]) (h' := mk s) 11 rfl ?_
      obtain ⟨s1, hq, h⟩ := zb0_some h
      refine Ev.call (M' := mm125) (v := none) (h' := mk s1) rfl rfl rfl (Nat.le_of_ble_eq_true rfl) (k125 hq) ?_
      cases h
      exact Ev.fin rfl rfl
    · have h := (if_neg hb).symm.trans h
      refine Ev.run (pc' := 62) (ls' := [some (.ref 15), some (.ref 13), o2, o3, o4]) (st' := [.ref (mRO + 3 + 2 * 19), .ref 13]) (h' := mk s) 2 rfl ?_
      obtain ⟨s2, hq, h⟩ := zb0_some h
      refine Ev.call (M' := mm71) (v := none) (h' := mk s2) rfl rfl rfl (Nat.le_of_ble_eq_true rfl) (k71 (by decide) hq) ?_
      refine Ev.run (pc' := 92) (ls' := [some (.ref 15), some (.ref 13), o2, o3, o4]) (st' := []) (h' := mk s2) 1 rfl ?_
      cases h
      exact Ev.fin rfl rfl
  · have h := (if_neg hb).symm.trans h
    refine Ev.run (pc' := 44) (ls' := [some (.ref 15), some (.ref 13), o2, o3, o4]) (st' := [.ref (mRO + 3 + 2 * 18), .ref 13]) (h' := mk s) 2 rfl ?_
    obtain ⟨s3, hq, h⟩ := zb0_some h
    refine Ev.call (M' := mm71) (v := none) (h' := mk s3) rfl rfl rfl (Nat.le_of_ble_eq_true rfl) (k71 (by decide) hq) ?_
    refine Ev.run (pc' := 92) (ls' := [some (.ref 15), some (.ref 13), o2, o3, o4]) (st' := []) (h' := mk s3) 1 rfl ?_
    cases h
    exact Ev.fin rfl rfl
def f102  (x2 : Int64) (x4 : Int32) (s : zS) : Option (zS) := zb0 (f100 x2 x4 s) (fun s1 => if (s1.1 15 3) = zi 0 then if (s1.1 15 2) = zi 0 then f102_34 s1 else zb0 (f70 (zi 45) s1) (fun s2 => f102_34 s2) else zb0 (f71 17 s1) (fun s3 => some s3))
set_option maxRecDepth 100000 in
theorem k102 {X : mX} {D : Nat} {x2 : Int64} {x4 : Int32} {s : zS} {r : zS}  (h : f102 x2 x4 s = some r) : Ev X (D + 8) mm102 0 [some (.ref 15), some (.ref 13), some (.long x2), none, some (.int x4)] [] (mk s) (encV r) := by
  unfold f102 at h
  refine Ev.run (pc' := 4) (ls' := [some (.ref 15), some (.ref 13), some (.long x2), none, some (.int x4)]) (st' := [.int x4, .long x2, .ref 15]) (h' := mk s) 3 rfl ?_
  obtain ⟨s1, hq, h⟩ := zb0_some h
  refine Ev.call (M' := mm100) (v := none) (h' := mk s1) rfl rfl rfl (Nat.le_of_ble_eq_true rfl) (k100 hq) ?_
  refine Ev.run (pc' := 11) (ls' := [some (.ref 15), some (.ref 13), some (.long x2), none, some (.int x4)]) (st' := [.int (s1.1 15 3)]) (h' := mk s1) 2 rfl ?_
  refine Ev.if_eq (t := 21) rfl rfl (fun hb => ?_) (fun hb => ?_)
  · have h := (if_pos hb).symm.trans h
    refine Ev.run (pc' := 25) (ls' := [some (.ref 15), some (.ref 13), some (.long x2), none, some (.int x4)]) (st' := [.int (s1.1 15 2)]) (h' := mk s1) 2 rfl ?_
    refine Ev.if_eq (t := 34) rfl rfl (fun hb => ?_) (fun hb => ?_)
    · have h := (if_pos hb).symm.trans h
      exact k102_34 s1 _ _ _ _ h
    · have h := (if_neg hb).symm.trans h
      refine Ev.run (pc' := 31) (ls' := [some (.ref 15), some (.ref 13), some (.long x2), none, some (.int x4)]) (st' := [.int (zi 45), .ref 13]) (h' := mk s1) 2 rfl ?_
      obtain ⟨s2, hq, h⟩ := zb0_some h
      refine Ev.call (M' := mm70) (v := none) (h' := mk s2) rfl rfl rfl (Nat.le_of_ble_eq_true rfl) (k70 hq) ?_
      exact k102_34 s2 _ _ _ _ h
  · have h := (if_neg hb).symm.trans h
    refine Ev.run (pc' := 17) (ls' := [some (.ref 15), some (.ref 13), some (.long x2), none, some (.int x4)]) (st' := [.ref (mRO + 3 + 2 * 17), .ref 13]) (h' := mk s1) 2 rfl ?_
    obtain ⟨s3, hq, h⟩ := zb0_some h
    refine Ev.call (M' := mm71) (v := none) (h' := mk s3) rfl rfl rfl (Nat.le_of_ble_eq_true rfl) (k71 (by decide) hq) ?_
    cases h
    exact Ev.fin rfl rfl
/-! 266 java.lang.Math.min(JJ)J -/
def r266 (x0 : Int64) (x2 : Int64) (s : zS) : Int64 := if x0 > x2 then x2 else x0
set_option maxRecDepth 100000 in
theorem k266 {X : mX} {D : Nat} {x0 : Int64} {x2 : Int64} {s : zS} {v : Int64} (h : r266 x0 x2 s = v) : Ev X D mm266 0 [some (.long x0), none, some (.long x2), none] [] (mk s) (encL (v, s)) := by
  unfold r266 at h
  refine Ev.run (pc' := 3) (ls' := [some (.long x0), none, some (.long x2), none]) (st' := [.int (lg_cmp x0 x2)]) (h' := mk s) 3 rfl ?_
  refine Ev.ifl_gt (t := 10) rfl rfl (fun hb => ?_) (fun hb => ?_)
  · have h := (if_pos hb).symm.trans h
    refine Ev.run (pc' := 11) (ls' := [some (.long x0), none, some (.long x2), none]) (st' := [.long x2]) (h' := mk s) 1 rfl ?_
    subst h
    exact Ev.fin rfl rfl
  · have h := (if_neg hb).symm.trans h
    refine Ev.run (pc' := 11) (ls' := [some (.long x0), none, some (.long x2), none]) (st' := [.long x0]) (h' := mk s) 2 rfl ?_
    subst h
    exact Ev.fin rfl rfl
/-! 36 F$Arguments.textByte(II)I -/
def f36_29  (x1 : Int32) (x2 : Int32) (y0 : Int32) (s : zS) : Option (Int32 × zS) := if y0 = zi 0 then some (zi 0, s) else if mIx (((x1 - (zi 1)) * (zi 200)) + x2) 4800 then some (s.1 11 ((((x1 - (zi 1)) * (zi 200)) + x2).toNatClampNeg), s) else none
set_option maxRecDepth 100000 in
theorem k36_29 {X : mX} {D : Nat}   (x1 : Int32) (x2 : Int32) (y0 : Int32) (s : zS) (r : Int32 × zS) (o3 : Option Value)  (h : f36_29  x1 x2 y0 s = some r) : Ev X D mm36 29 [some (.ref 8), some (.int x1), some (.int x2), o3] [.int y0] (mk s) (encI r) := by
  unfold f36_29 at h
  refine Ev.run (pc' := 31) (ls' := [some (.ref 8), some (.int x1), some (.int x2), some (.int y0)]) (st' := [.int y0]) (h' := mk s) 2 rfl ?_
  refine Ev.if_eq (t := 51) rfl rfl (fun hb => ?_) (fun hb => ?_)
  · have h := (if_pos hb).symm.trans h
    refine Ev.run (pc' := 52) (ls' := [some (.ref 8), some (.int x1), some (.int x2), some (.int y0)]) (st' := [.int (zi 0)]) (h' := mk s) 1 rfl ?_
    cases h
    exact Ev.fin rfl rfl
  · have h := (if_neg hb).symm.trans h
    refine Ev.run (pc' := 47) (ls' := [some (.ref 8), some (.int x1), some (.int x2), some (.int y0)]) (st' := [.int (((x1 - (zi 1)) * (zi 200)) + x2), .ref 11]) (h' := mk s) 9 rfl ?_
    obtain ⟨hx, h⟩ := zif h
    refine Ev.step (pc' := 48) rfl (ald_b rfl hx) ?_
    refine Ev.run (pc' := 52) (ls' := [some (.ref 8), some (.int x1), some (.int x2), some (.int y0)]) (st' := [.int (s.1 11 ((((x1 - (zi 1)) * (zi 200)) + x2).toNatClampNeg))]) (h' := mk s) 1 rfl ?_
    cases h
    exact Ev.fin rfl rfl
def f36  (x1 : Int32) (x2 : Int32) (s : zS) : Option (Int32 × zS) := if x1 < (zi 1) then f36_29 x1 x2 (zi 0) s else if x1 > (s.1 8 3) then f36_29 x1 x2 (zi 0) s else if x2 < zi 0 then f36_29 x1 x2 (zi 0) s else if x2 ≥ (zi 200) then f36_29 x1 x2 (zi 0) s else f36_29 x1 x2 (zi 1) s
set_option maxRecDepth 100000 in
theorem k36 {X : mX} {D : Nat} {x1 : Int32} {x2 : Int32} {s : zS} {r : Int32 × zS}  (h : f36 x1 x2 s = some r) : Ev X D mm36 0 [some (.ref 8), some (.int x1), some (.int x2), none] [] (mk s) (encI r) := by
  unfold f36 at h
  refine Ev.run (pc' := 2) (ls' := [some (.ref 8), some (.int x1), some (.int x2), none]) (st' := [.int (zi 1), .int x1]) (h' := mk s) 2 rfl ?_
  refine Ev.icmp_lt (t := 28) rfl rfl (fun hb => ?_) (fun hb => ?_)
  · have h := (if_pos hb).symm.trans h
    refine Ev.run (pc' := 29) (ls' := [some (.ref 8), some (.int x1), some (.int x2), none]) (st' := [.int (zi 0)]) (h' := mk s) 1 rfl ?_
    exact k36_29 x1 x2 (zi 0) s _ _ h
  · have h := (if_neg hb).symm.trans h
    refine Ev.run (pc' := 10) (ls' := [some (.ref 8), some (.int x1), some (.int x2), none]) (st' := [.int (s.1 8 3), .int x1]) (h' := mk s) 3 rfl ?_
    refine Ev.icmp_gt (t := 28) rfl rfl (fun hb => ?_) (fun hb => ?_)
    · have h := (if_pos hb).symm.trans h
      refine Ev.run (pc' := 29) (ls' := [some (.ref 8), some (.int x1), some (.int x2), none]) (st' := [.int (zi 0)]) (h' := mk s) 1 rfl ?_
      exact k36_29 x1 x2 (zi 0) s _ _ h
    · have h := (if_neg hb).symm.trans h
      refine Ev.run (pc' := 14) (ls' := [some (.ref 8), some (.int x1), some (.int x2), none]) (st' := [.int x2]) (h' := mk s) 1 rfl ?_
      refine Ev.if_lt (t := 28) rfl rfl (fun hb => ?_) (fun hb => ?_)
      · have h := (if_pos hb).symm.trans h
        refine Ev.run (pc' := 29) (ls' := [some (.ref 8), some (.int x1), some (.int x2), none]) (st' := [.int (zi 0)]) (h' := mk s) 1 rfl ?_
        exact k36_29 x1 x2 (zi 0) s _ _ h
      · have h := (if_neg hb).symm.trans h
        refine Ev.run (pc' := 21) (ls' := [some (.ref 8), some (.int x1), some (.int x2), none]) (st' := [.int (zi 200), .int x2]) (h' := mk s) 2 rfl ?_
        refine Ev.icmp_ge (t := 28) rfl rfl (fun hb => ?_) (fun hb => ?_)
        · have h := (if_pos hb).symm.trans h
          refine Ev.run (pc' := 29) (ls' := [some (.ref 8), some (.int x1), some (.int x2), none]) (st' := [.int (zi 0)]) (h' := mk s) 1 rfl ?_
          exact k36_29 x1 x2 (zi 0) s _ _ h
        · have h := (if_neg hb).symm.trans h
          refine Ev.run (pc' := 29) (ls' := [some (.ref 8), some (.int x1), some (.int x2), none]) (st' := [.int (zi 1)]) (h' := mk s) 2 rfl ?_
          exact k36_29 x1 x2 (zi 1) s _ _ h
/-! 79 F$Piece.addSigned(J)V -/
def f79_12  (x1 : Int64) (s : zS) : Option (zS) := zb0 (f78 x1 (zi 1) (zi 0) s) (fun s1 => some s1)
set_option maxRecDepth 100000 in
theorem k79_12 {X : mX} {D : Nat}   (x1 : Int64) (s : zS) (r : zS)   (h : f79_12  x1 s = some r) : Ev X (D + 2) mm79 12 [some (.ref 13), some (.long x1), none] [] (mk s) (encV r) := by
  unfold f79_12 at h
  refine Ev.run (pc' := 16) (ls' := [some (.ref 13), some (.long x1), none]) (st' := [.int (zi 0), .int (zi 1), .long x1, .ref 13]) (h' := mk s) 4 rfl ?_
  obtain ⟨s1, hq, h⟩ := zb0_some h
  refine Ev.call (M' := mm78) (v := none) (h' := mk s1) rfl rfl rfl (Nat.le_of_ble_eq_true rfl) (k78 hq) ?_
  cases h
  exact Ev.fin rfl rfl
def f79  (x1 : Int64) (s : zS) : Option (zS) := if x1 ≥ (zl 0) then f79_12 x1 s else zb0 (f70 (zi 45) s) (fun s1 => f79_12 x1 s1)
set_option maxRecDepth 100000 in
theorem k79 {X : mX} {D : Nat} {x1 : Int64} {s : zS} {r : zS}  (h : f79 x1 s = some r) : Ev X (D + 2) mm79 0 [some (.ref 13), some (.long x1), none] [] (mk s) (encV r) := by
  unfold f79 at h
  refine Ev.run (pc' := 3) (ls' := [some (.ref 13), some (.long x1), none]) (st' := [.int (lg_cmp x1 (zl 0))]) (h' := mk s) 3 rfl ?_
  refine Ev.ifl_ge (t := 12) rfl rfl (fun hb => ?_) (fun hb => ?_)
  · have h := (if_pos hb).symm.trans h
    exact k79_12 x1 s _ h
  · have h := (if_neg hb).symm.trans h
    refine Ev.run (pc' := 9) (ls' := [some (.ref 13), some (.long x1), none]) (st' := [.int (zi 45), .ref 13]) (h' := mk s) 2 rfl ?_
    obtain ⟨s1, hq, h⟩ := zb0_some h
    refine Ev.call (M' := mm70) (v := none) (h' := mk s1) rfl rfl rfl (Nat.le_of_ble_eq_true rfl) (k70 hq) ?_
    exact k79_12 x1 s1 _ h
/-! 65 F$Composer.writeAny()V -/
def b65_125 (rec125 : Int32 → zS → Option (zS)) (x1 : Int32) (s : zS) : Option (zS) := if (zI2L x1) ≥ (r266 (s.2.1 12 9) (zl 200) s) then some s else zb1 (f36 (s.1 12 7) x1 s) (fun v2 s1 => zb0 (f70 v2 s1) (fun s3 => rec125 (x1 + zi 1) s3))
set_option maxRecDepth 100000 in
theorem kb65_125 {X : mX} {D : Nat} {rec125 : Int32 → zS → Option (zS)} (hrec125 : ∀ (x1 : Int32) (s : zS) (r : zS) , rec125 x1 s = some r → Ev X (D + 9) mm65 125 [some (.ref 12), some (.int x1)] [] (mk s) (encV r)) (x1 : Int32) (s : zS) (r : zS)   (h : b65_125 rec125 x1 s = some r) : Ev X (D + 9) mm65 125 [some (.ref 12), some (.int x1)] [] (mk s) (encV r) := by
  unfold b65_125 at h
  refine Ev.run (pc' := 134) (ls' := [some (.ref 12), some (.int x1)]) (st' := [.long (zl 200), .long (s.2.1 12 9), .long (zI2L x1)]) (h' := mk s) 5 rfl ?_
  refine Ev.call (M' := mm266) (v := some (.long (r266 (s.2.1 12 9) (zl 200) s))) (h' := mk s) rfl rfl rfl (Nat.le_of_ble_eq_true rfl) (k266 (x0 := (s.2.1 12 9)) (x2 := (zl 200)) (s := s) (v := r266 (s.2.1 12 9) (zl 200) s)  rfl) ?_
  refine Ev.run (pc' := 138) (ls' := [some (.ref 12), some (.int x1)]) (st' := [.int (lg_cmp (zI2L x1) (r266 (s.2.1 12 9) (zl 200) s))]) (h' := mk s) 1 rfl ?_
  refine Ev.ifl_ge (t := 166) rfl rfl (fun hb => ?_) (fun hb => ?_)
  · have h := (if_pos hb).symm.trans h
    cases h
    exact Ev.fin rfl rfl
  · have h := (if_neg hb).symm.trans h
    refine Ev.run (pc' := 154) (ls' := [some (.ref 12), some (.int x1)]) (st' := [.int x1, .int (s.1 12 7), .ref 8, .ref 13]) (h' := mk s) 7 rfl ?_
    obtain ⟨v2, s1, hq, h⟩ := zb1_some h
    refine Ev.call (M' := mm36) (v := some (.int v2)) (h' := mk s1) rfl rfl rfl (Nat.le_of_ble_eq_true rfl) (k36 hq) ?_
    obtain ⟨s3, hq, h⟩ := zb0_some h
    refine Ev.call (M' := mm70) (v := none) (h' := mk s3) rfl rfl rfl (Nat.le_of_ble_eq_true rfl) (k70 hq) ?_
    refine Ev.run (pc' := 125) (ls' := [some (.ref 12), some (.int (x1 + zi 1))]) (st' := []) (h' := mk s3) 2 rfl ?_
    exact hrec125 (x1 + zi 1) s3 _ h
def f65_125  : Nat → Int32 → zS → Option (zS)
  | 0, _, _ => none
  | n + 1, x1, s => b65_125 (f65_125 n) x1 s
set_option maxRecDepth 100000 in
theorem k65_125 {X : mX} {D : Nat}   (n : Nat) : ∀ (x1 : Int32) (s : zS) (r : zS) , f65_125  n x1 s = some r → Ev X (D + 9) mm65 125 [some (.ref 12), some (.int x1)] [] (mk s) (encV r) := by
  induction n with
  | zero => intro x1 s r   h; cases h
  | succ n ih => intro x1 s r   h; exact kb65_125  ih x1 s r   h
def f65_119  (y2 : Int64) (y3 : Int32) (s : zS) : Option (zS) := zb0 (f102 y2 y3 s) (fun s1 => some s1)
set_option maxRecDepth 100000 in
theorem k65_119 {X : mX} {D : Nat}   (y2 : Int64) (y3 : Int32) (s : zS) (r : zS) (o0 : Option Value) (o1 : Option Value)  (h : f65_119  y2 y3 s = some r) : Ev X (D + 9) mm65 119 [o0, o1] [.int y3, .long y2, .ref 13, .ref 15] (mk s) (encV r) := by
  unfold f65_119 at h
  obtain ⟨s1, hq, h⟩ := zb0_some h
  refine Ev.call (M' := mm102) (v := none) (h' := mk s1) rfl rfl rfl (Nat.le_of_ble_eq_true rfl) (k102 hq) ?_
  cases h
  exact Ev.fin rfl rfl
def f65_76  (d1 : Nat) (s : zS) : Option (zS) := zb0 (f71 d1 s) (fun s1 => some s1)
set_option maxRecDepth 100000 in
theorem k65_76 {X : mX} {D : Nat}   (d1 : Nat) (s : zS) (r : zS) (o0 : Option Value) (o1 : Option Value) (hd1 : d1 < 78) (h : f65_76  d1 s = some r) : Ev X (D + 9) mm65 76 [o0, o1] [.ref (mRO + 3 + 2 * d1), .ref 13] (mk s) (encV r) := by
  unfold f65_76 at h
  obtain ⟨s1, hq, h⟩ := zb0_some h
  refine Ev.call (M' := mm71) (v := none) (h' := mk s1) rfl rfl rfl (Nat.le_of_ble_eq_true rfl) (k71 hd1 hq) ?_
  cases h
  exact Ev.fin rfl rfl
def f65   (s : zS) : Option (zS) := if (s.1 12 8) = zi 1 then if ¬ (s.2.1 12 9) = (zl 0) then f65_76 16 s else f65_76 14 s else if (s.1 12 8) = zi 2 then zb0 (f81 (zL2I (s.2.1 12 9)) s) (fun s1 => some s1) else if (s.1 12 8) = zi 7 ∨ (s.1 12 8) = zi 8 then if ¬ (s.1 12 8) = (zi 8) then f65_119 (s.2.1 12 9) (zi 0) s else f65_119 (s.2.1 12 9) (zi 1) s else if (s.1 12 8) = zi 9 then f65_125 zF (zi 0) s else zb0 (f79 (s.2.1 12 9) s) (fun s2 => some s2)
set_option maxRecDepth 100000 in
theorem k65 {X : mX} {D : Nat}  {s : zS} {r : zS}  (h : f65  s = some r) : Ev X (D + 9) mm65 0 [some (.ref 12), none] [] (mk s) (encV r) := by
  unfold f65 at h
  refine Ev.run (pc' := 4) (ls' := [some (.ref 12), none]) (st' := [.int (s.1 12 8)]) (h' := mk s) 2 rfl ?_
  by_cases hb : (s.1 12 8) = zi 1
  · have h := (if_pos hb).symm.trans h
    refine Ev.tsw (t := 56) (k := 1) rfl hb (by rfl) ?_
    refine Ev.run (pc' := 66) (ls' := [some (.ref 12), none]) (st' := [.int (lg_cmp (s.2.1 12 9) (zl 0)), .ref 13]) (h' := mk s) 6 rfl ?_
    refine Ev.ifl_ne (t := 74) rfl rfl (fun hb => ?_) (fun hb => ?_)
    · have h := (if_pos hb).symm.trans h
      refine Ev.run (pc' := 76) (ls' := [some (.ref 12), none]) (st' := [.ref (mRO + 3 + 2 * 16), .ref 13]) (h' := mk s) 1 rfl ?_
      exact k65_76 16 s _ _ _ (by decide) h
    · have h := (if_neg hb).symm.trans h
      refine Ev.run (pc' := 76) (ls' := [some (.ref 12), none]) (st' := [.ref (mRO + 3 + 2 * 14), .ref 13]) (h' := mk s) 2 rfl ?_
      exact k65_76 14 s _ _ _ (by decide) h
  have h := (if_neg hb).symm.trans h
  have n_1 := hb
  clear hb
  by_cases hb : (s.1 12 8) = zi 2
  · have h := (if_pos hb).symm.trans h
    refine Ev.tsw (t := 80) (k := 2) rfl hb (by rfl) ?_
    refine Ev.run (pc' := 89) (ls' := [some (.ref 12), none]) (st' := [.int (zL2I (s.2.1 12 9)), .ref 13]) (h' := mk s) 5 rfl ?_
    obtain ⟨s1, hq, h⟩ := zb0_some h
    refine Ev.call (M' := mm81) (v := none) (h' := mk s1) rfl rfl rfl (Nat.le_of_ble_eq_true rfl) (k81 hq) ?_
    cases h
    exact Ev.fin rfl rfl
  have h := (if_neg hb).symm.trans h
  have n_2 := hb
  clear hb
  by_cases hb : (s.1 12 8) = zi 7 ∨ (s.1 12 8) = zi 8
  · have h := (if_pos hb).symm.trans h
    refine Ev.tswx (t := 93) rfl (by rcases hb with hb | hb <;> (rw [hb]; rfl)) ?_
    refine Ev.run (pc' := 111) (ls' := [some (.ref 12), none]) (st' := [.int (zi 8), .int (s.1 12 8), .long (s.2.1 12 9), .ref 13, .ref 15]) (h' := mk s) 9 rfl ?_
    refine Ev.icmp_ne (t := 118) rfl rfl (fun hb => ?_) (fun hb => ?_)
    · have h := (if_pos hb).symm.trans h
      refine Ev.run (pc' := 119) (ls' := [some (.ref 12), none]) (st' := [.int (zi 0), .long (s.2.1 12 9), .ref 13, .ref 15]) (h' := mk s) 1 rfl ?_
      exact k65_119 (s.2.1 12 9) (zi 0) s _ _ _ h
    · have h := (if_neg hb).symm.trans h
      refine Ev.run (pc' := 119) (ls' := [some (.ref 12), none]) (st' := [.int (zi 1), .long (s.2.1 12 9), .ref 13, .ref 15]) (h' := mk s) 2 rfl ?_
      exact k65_119 (s.2.1 12 9) (zi 1) s _ _ _ h
  have h := (if_neg hb).symm.trans h
  have n_7 := (not_or.mp hb).1
  have hb := (not_or.mp hb).2
  have n_8 := hb
  clear hb
  by_cases hb : (s.1 12 8) = zi 9
  · have h := (if_pos hb).symm.trans h
    refine Ev.tsw (t := 123) (k := 9) rfl hb (by rfl) ?_
    refine Ev.run (pc' := 125) (ls' := [some (.ref 12), some (.int (zi 0))]) (st' := []) (h' := mk s) 2 rfl ?_
    exact k65_125 zF (zi 0) s _ h
  have h := (if_neg hb).symm.trans h
  have n_9 := hb
  clear hb
  refine Ev.tswd (t := 167) rfl (by rfl) (by decide) (fun q hq hx => ?_) ?_
  · have hq : q < 9 := hq
    have hq2 : q = 0 ∨ q = 1 ∨ q = 2 ∨ q = 3 ∨ q = 4 ∨ q = 5 ∨ q = 6 ∨ q = 7 ∨ q = 8 := by omega
    rcases hq2 with rfl | rfl | rfl | rfl | rfl | rfl | rfl | rfl | rfl
    · exact absurd (zi_of_toInt hx) n_1
    · exact absurd (zi_of_toInt hx) n_2
    · exact ⟨_, rfl, rfl⟩
    · exact ⟨_, rfl, rfl⟩
    · exact ⟨_, rfl, rfl⟩
    · exact ⟨_, rfl, rfl⟩
    · exact absurd (zi_of_toInt hx) n_7
    · exact absurd (zi_of_toInt hx) n_8
    · exact absurd (zi_of_toInt hx) n_9
  · refine Ev.run (pc' := 175) (ls' := [some (.ref 12), none]) (st' := [.long (s.2.1 12 9), .ref 13]) (h' := mk s) 4 rfl ?_
    obtain ⟨s2, hq, h⟩ := zb0_some h
    refine Ev.call (M' := mm79) (v := none) (h' := mk s2) rfl rfl rfl (Nat.le_of_ble_eq_true rfl) (k79 hq) ?_
    cases h
    exact Ev.fin rfl rfl
/-! 75 F$Piece.open(ZLFormatPress$Spec;)V -/
def f75_21  (y1 : Int32) (s : zS) : Option (zS) := zb0 (f70 y1 s) (fun s1 => some s1)
set_option maxRecDepth 100000 in
theorem k75_21 {X : mX} {D : Nat}   (y1 : Int32) (s : zS) (r : zS) (o0 : Option Value) (o1 : Option Value) (o2 : Option Value)  (h : f75_21  y1 s = some r) : Ev X (D + 1) mm75 21 [o0, o1, o2] [.int y1, .ref 13] (mk s) (encV r) := by
  unfold f75_21 at h
  obtain ⟨s1, hq, h⟩ := zb0_some h
  refine Ev.call (M' := mm70) (v := none) (h' := mk s1) rfl rfl rfl (Nat.le_of_ble_eq_true rfl) (k70 hq) ?_
  refine Ev.run (pc' := 59) (ls' := [o0, o1, o2]) (st' := []) (h' := mk s1) 1 rfl ?_
  cases h
  exact Ev.fin rfl rfl
def f75  (x1 : Int32) (s : zS) : Option (zS) := if x1 = zi 0 then if (r51 (zi 4) s) = zi 0 then if (r51 (zi 8) s) = zi 0 then some s else zb0 (f70 (zi 32) s) (fun s1 => some s1) else zb0 (f70 (zi 43) s) (fun s2 => some s2) else if (r51 (zi 64) s) = zi 0 then f75_21 (zi 45) s else f75_21 (zi 40) s
set_option maxRecDepth 100000 in
theorem k75 {X : mX} {D : Nat} {x1 : Int32} {s : zS} {r : zS}  (h : f75 x1 s = some r) : Ev X (D + 1) mm75 0 [some (.ref 13), some (.int x1), some (.ref 7)] [] (mk s) (encV r) := by
  unfold f75 at h
  refine Ev.run (pc' := 1) (ls' := [some (.ref 13), some (.int x1), some (.ref 7)]) (st' := [.int x1]) (h' := mk s) 1 rfl ?_
  refine Ev.if_eq (t := 27) rfl rfl (fun hb => ?_) (fun hb => ?_)
  · have h := (if_pos hb).symm.trans h
    refine Ev.run (pc' := 29) (ls' := [some (.ref 13), some (.int x1), some (.ref 7)]) (st' := [.int (zi 4), .ref 7]) (h' := mk s) 2 rfl ?_
    refine Ev.call (M' := mm51) (v := some (.int (r51 (zi 4) s))) (h' := mk s) rfl rfl rfl (Nat.le_of_ble_eq_true rfl) (k51 (x1 := (zi 4)) (s := s) (v := r51 (zi 4) s)  rfl) ?_
    refine Ev.if_eq (t := 44) rfl rfl (fun hb => ?_) (fun hb => ?_)
    · have h := (if_pos hb).symm.trans h
      refine Ev.run (pc' := 47) (ls' := [some (.ref 13), some (.int x1), some (.ref 7)]) (st' := [.int (zi 8), .ref 7]) (h' := mk s) 2 rfl ?_
      refine Ev.call (M' := mm51) (v := some (.int (r51 (zi 8) s))) (h' := mk s) rfl rfl rfl (Nat.le_of_ble_eq_true rfl) (k51 (x1 := (zi 8)) (s := s) (v := r51 (zi 8) s)  rfl) ?_
      refine Ev.if_eq (t := 59) rfl rfl (fun hb => ?_) (fun hb => ?_)
      · have h := (if_pos hb).symm.trans h
        cases h
        exact Ev.fin rfl rfl
      · have h := (if_neg hb).symm.trans h
        refine Ev.run (pc' := 56) (ls' := [some (.ref 13), some (.int x1), some (.ref 7)]) (st' := [.int (zi 32), .ref 13]) (h' := mk s) 2 rfl ?_
        obtain ⟨s1, hq, h⟩ := zb0_some h
        refine Ev.call (M' := mm70) (v := none) (h' := mk s1) rfl rfl rfl (Nat.le_of_ble_eq_true rfl) (k70 hq) ?_
        cases h
        exact Ev.fin rfl rfl
    · have h := (if_neg hb).symm.trans h
      refine Ev.run (pc' := 38) (ls' := [some (.ref 13), some (.int x1), some (.ref 7)]) (st' := [.int (zi 43), .ref 13]) (h' := mk s) 2 rfl ?_
      obtain ⟨s2, hq, h⟩ := zb0_some h
      refine Ev.call (M' := mm70) (v := none) (h' := mk s2) rfl rfl rfl (Nat.le_of_ble_eq_true rfl) (k70 hq) ?_
      refine Ev.run (pc' := 59) (ls' := [some (.ref 13), some (.int x1), some (.ref 7)]) (st' := []) (h' := mk s2) 1 rfl ?_
      cases h
      exact Ev.fin rfl rfl
  · have h := (if_neg hb).symm.trans h
    refine Ev.run (pc' := 8) (ls' := [some (.ref 13), some (.int x1), some (.ref 7)]) (st' := [.int (zi 64), .ref 7, .ref 13]) (h' := mk s) 3 rfl ?_
    refine Ev.call (M' := mm51) (v := some (.int (r51 (zi 64) s))) (h' := mk s) rfl rfl rfl (Nat.le_of_ble_eq_true rfl) (k51 (x1 := (zi 64)) (s := s) (v := r51 (zi 64) s)  rfl) ?_
    refine Ev.if_eq (t := 19) rfl rfl (fun hb => ?_) (fun hb => ?_)
    · have h := (if_pos hb).symm.trans h
      refine Ev.run (pc' := 21) (ls' := [some (.ref 13), some (.int x1), some (.ref 7)]) (st' := [.int (zi 45), .ref 13]) (h' := mk s) 1 rfl ?_
      exact k75_21 (zi 45) s _ _ _ _ h
    · have h := (if_neg hb).symm.trans h
      refine Ev.run (pc' := 21) (ls' := [some (.ref 13), some (.int x1), some (.ref 7)]) (st' := [.int (zi 40), .ref 13]) (h' := mk s) 2 rfl ?_
      exact k75_21 (zi 40) s _ _ _ _ h
/-! 77 F$Piece.markZeros(LFormatPress$Spec;)V -/
def f77   (s : zS) : Option (zS) := if (r51 (zi 16) s) = zi 0 then some (setI s 13 3 (zi (-1))) else some (setI s 13 3 (s.1 13 1))
set_option maxRecDepth 100000 in
theorem k77 {X : mX} {D : Nat}  {s : zS} {r : zS}  (h : f77  s = some r) : Ev X (D + 1) mm77 0 [some (.ref 13), some (.ref 7)] [] (mk s) (encV r) := by
  unfold f77 at h
  refine Ev.run (pc' := 4) (ls' := [some (.ref 13), some (.ref 7)]) (st' := [.int (zi 16), .ref 7, .ref 13]) (h' := mk s) 3 rfl ?_
  refine Ev.call (M' := mm51) (v := some (.int (r51 (zi 16) s))) (h' := mk s) rfl rfl rfl (Nat.le_of_ble_eq_true rfl) (k51 (x1 := (zi 16)) (s := s) (v := r51 (zi 16) s)  rfl) ?_
  refine Ev.if_eq (t := 17) rfl rfl (fun hb => ?_) (fun hb => ?_)
  · have h := (if_pos hb).symm.trans h
    refine Ev.run (pc' := 18) (ls' := [some (.ref 13), some (.ref 7)]) (st' := [.int (zi (-1)), .ref 13]) (h' := mk s) 1 rfl ?_
    refine Ev.step (pc' := 21) rfl (put_5_3 rfl) ?_
    cases h
    exact Ev.fin rfl rfl
  · have h := (if_neg hb).symm.trans h
    refine Ev.run (pc' := 18) (ls' := [some (.ref 13), some (.ref 7)]) (st' := [.int (s.1 13 1), .ref 13]) (h' := mk s) 3 rfl ?_
    refine Ev.step (pc' := 21) rfl (put_5_3 rfl) ?_
    cases h
    exact Ev.fin rfl rfl
/-! 76 F$Piece.close(ZLFormatPress$Spec;)V -/
def f76  (x1 : Int32) (s : zS) : Option (zS) := if x1 = zi 0 then some s else if (r51 (zi 64) s) = zi 0 then some s else zb0 (f70 (zi 41) s) (fun s1 => some s1)
set_option maxRecDepth 100000 in
theorem k76 {X : mX} {D : Nat} {x1 : Int32} {s : zS} {r : zS}  (h : f76 x1 s = some r) : Ev X (D + 1) mm76 0 [some (.ref 13), some (.int x1), some (.ref 7)] [] (mk s) (encV r) := by
  unfold f76 at h
  refine Ev.run (pc' := 1) (ls' := [some (.ref 13), some (.int x1), some (.ref 7)]) (st' := [.int x1]) (h' := mk s) 1 rfl ?_
  refine Ev.if_eq (t := 19) rfl rfl (fun hb => ?_) (fun hb => ?_)
  · have h := (if_pos hb).symm.trans h
    cases h
    exact Ev.fin rfl rfl
  · have h := (if_neg hb).symm.trans h
    refine Ev.run (pc' := 7) (ls' := [some (.ref 13), some (.int x1), some (.ref 7)]) (st' := [.int (zi 64), .ref 7]) (h' := mk s) 2 rfl ?_
    refine Ev.call (M' := mm51) (v := some (.int (r51 (zi 64) s))) (h' := mk s) rfl rfl rfl (Nat.le_of_ble_eq_true rfl) (k51 (x1 := (zi 64)) (s := s) (v := r51 (zi 64) s)  rfl) ?_
    refine Ev.if_eq (t := 19) rfl rfl (fun hb => ?_) (fun hb => ?_)
    · have h := (if_pos hb).symm.trans h
      cases h
      exact Ev.fin rfl rfl
    · have h := (if_neg hb).symm.trans h
      refine Ev.run (pc' := 16) (ls' := [some (.ref 13), some (.int x1), some (.ref 7)]) (st' := [.int (zi 41), .ref 13]) (h' := mk s) 2 rfl ?_
      obtain ⟨s1, hq, h⟩ := zb0_some h
      refine Ev.call (M' := mm70) (v := none) (h' := mk s1) rfl rfl rfl (Nat.le_of_ble_eq_true rfl) (k70 hq) ?_
      cases h
      exact Ev.fin rfl rfl
/-! 66 F$Composer.writeWhole()V -/
def f66_75  (y1 : Int32) (s : zS) : Option (zS) := zb0 (f76 y1 s) (fun s1 => some s1)
set_option maxRecDepth 100000 in
theorem k66_75 {X : mX} {D : Nat}   (y1 : Int32) (s : zS) (r : zS)   (h : f66_75  y1 s = some r) : Ev X (D + 2) mm66 75 [some (.ref 12)] [.int y1, .ref 13] (mk s) (encV r) := by
  unfold f66_75 at h
  refine Ev.run (pc' := 79) (ls' := [some (.ref 12)]) (st' := [.ref 7, .int y1, .ref 13]) (h' := mk s) 2 rfl ?_
  obtain ⟨s1, hq, h⟩ := zb0_some h
  refine Ev.call (M' := mm76) (v := none) (h' := mk s1) rfl rfl rfl (Nat.le_of_ble_eq_true rfl) (k76 hq) ?_
  cases h
  exact Ev.fin rfl rfl
def f66_18  (y1 : Int32) (s : zS) : Option (zS) := zb0 (f75 y1 s) (fun s1 => zb0 (f77 s1) (fun s2 => zb0 (f78 (s2.2.1 12 9) (zi 1) (r51 (zi 32) s2) s2) (fun s3 => if (s3.2.1 12 9) ≥ (zl 0) then f66_75 (zi 0) s3 else f66_75 (zi 1) s3)))
set_option maxRecDepth 100000 in
theorem k66_18 {X : mX} {D : Nat}   (y1 : Int32) (s : zS) (r : zS)   (h : f66_18  y1 s = some r) : Ev X (D + 2) mm66 18 [some (.ref 12)] [.int y1, .ref 13] (mk s) (encV r) := by
  unfold f66_18 at h
  refine Ev.run (pc' := 22) (ls' := [some (.ref 12)]) (st' := [.ref 7, .int y1, .ref 13]) (h' := mk s) 2 rfl ?_
  obtain ⟨s1, hq, h⟩ := zb0_some h
  refine Ev.call (M' := mm75) (v := none) (h' := mk s1) rfl rfl rfl (Nat.le_of_ble_eq_true rfl) (k75 hq) ?_
  refine Ev.run (pc' := 33) (ls' := [some (.ref 12)]) (st' := [.ref 7, .ref 13]) (h' := mk s1) 4 rfl ?_
  obtain ⟨s2, hq, h⟩ := zb0_some h
  refine Ev.call (M' := mm77) (v := none) (h' := mk s2) rfl rfl rfl (Nat.le_of_ble_eq_true rfl) (k77 hq) ?_
  refine Ev.run (pc' := 51) (ls' := [some (.ref 12)]) (st' := [.int (zi 32), .ref 7, .int (zi 1), .long (s2.2.1 12 9), .ref 13]) (h' := mk s2) 8 rfl ?_
  refine Ev.call (M' := mm51) (v := some (.int (r51 (zi 32) s2))) (h' := mk s2) rfl rfl rfl (Nat.le_of_ble_eq_true rfl) (k51 (x1 := (zi 32)) (s := s2) (v := r51 (zi 32) s2)  rfl) ?_
  obtain ⟨s3, hq, h⟩ := zb0_some h
  refine Ev.call (M' := mm78) (v := none) (h' := mk s3) rfl rfl rfl (Nat.le_of_ble_eq_true rfl) (k78 hq) ?_
  refine Ev.run (pc' := 67) (ls' := [some (.ref 12)]) (st' := [.int (lg_cmp (s3.2.1 12 9) (zl 0)), .ref 13]) (h' := mk s3) 6 rfl ?_
  refine Ev.ifl_ge (t := 74) rfl rfl (fun hb => ?_) (fun hb => ?_)
  · have h := (if_pos hb).symm.trans h
    refine Ev.run (pc' := 75) (ls' := [some (.ref 12)]) (st' := [.int (zi 0), .ref 13]) (h' := mk s3) 1 rfl ?_
    exact k66_75 (zi 0) s3 _ h
  · have h := (if_neg hb).symm.trans h
    refine Ev.run (pc' := 75) (ls' := [some (.ref 12)]) (st' := [.int (zi 1), .ref 13]) (h' := mk s3) 2 rfl ?_
    exact k66_75 (zi 1) s3 _ h
def f66   (s : zS) : Option (zS) := if (s.2.1 12 9) ≥ (zl 0) then f66_18 (zi 0) s else f66_18 (zi 1) s
set_option maxRecDepth 100000 in
theorem k66 {X : mX} {D : Nat}  {s : zS} {r : zS}  (h : f66  s = some r) : Ev X (D + 2) mm66 0 [some (.ref 12)] [] (mk s) (encV r) := by
  unfold f66 at h
  refine Ev.run (pc' := 10) (ls' := [some (.ref 12)]) (st' := [.int (lg_cmp (s.2.1 12 9) (zl 0)), .ref 13]) (h' := mk s) 6 rfl ?_
  refine Ev.ifl_ge (t := 17) rfl rfl (fun hb => ?_) (fun hb => ?_)
  · have h := (if_pos hb).symm.trans h
    refine Ev.run (pc' := 18) (ls' := [some (.ref 12)]) (st' := [.int (zi 0), .ref 13]) (h' := mk s) 1 rfl ?_
    exact k66_18 (zi 0) s _ h
  · have h := (if_neg hb).symm.trans h
    refine Ev.run (pc' := 18) (ls' := [some (.ref 12)]) (st' := [.int (zi 1), .ref 13]) (h' := mk s) 2 rfl ?_
    exact k66_18 (zi 1) s _ h
/-! 28 F$Arguments.bitsOf(I)I -/
def r28 (x0 : Int32) (s : zS) : Int32 := zshl (zi 8) ((r265 (r264 x0 (zi 3) s) (zi 6) s) - (zi 3))
set_option maxRecDepth 100000 in
theorem k28 {X : mX} {D : Nat} {x0 : Int32} {s : zS} {v : Int32} (h : r28 x0 s = v) : Ev X (D + 1) mm28 0 [some (.int x0)] [] (mk s) (encI (v, s)) := by
  unfold r28 at h
  refine Ev.run (pc' := 4) (ls' := [some (.int x0)]) (st' := [.int (zi 3), .int x0, .int (zi 8)]) (h' := mk s) 3 rfl ?_
  refine Ev.call (M' := mm264) (v := some (.int (r264 x0 (zi 3) s))) (h' := mk s) rfl rfl rfl (Nat.le_of_ble_eq_true rfl) (k264 (x0 := x0) (x1 := (zi 3)) (s := s) (v := r264 x0 (zi 3) s)  rfl) ?_
  refine Ev.run (pc' := 9) (ls' := [some (.int x0)]) (st' := [.int (zi 6), .int (r264 x0 (zi 3) s), .int (zi 8)]) (h' := mk s) 1 rfl ?_
  refine Ev.call (M' := mm265) (v := some (.int (r265 (r264 x0 (zi 3) s) (zi 6) s))) (h' := mk s) rfl rfl rfl (Nat.le_of_ble_eq_true rfl) (k265 (x0 := (r264 x0 (zi 3) s)) (x1 := (zi 6)) (s := s) (v := r265 (r264 x0 (zi 3) s) (zi 6) s)  rfl) ?_
  refine Ev.run (pc' := 15) (ls' := [some (.int x0)]) (st' := [.int (zshl (zi 8) ((r265 (r264 x0 (zi 3) s) (zi 6) s) - (zi 3)))]) (h' := mk s) 3 rfl ?_
  subst h
  exact Ev.fin rfl rfl
/-! 73 F$Piece.addDigit(I)V -/
def f73_18  (y1 : Int32) (s : zS) : Option (zS) := zb0 (f70 y1 s) (fun s1 => some s1)
set_option maxRecDepth 100000 in
theorem k73_18 {X : mX} {D : Nat}   (y1 : Int32) (s : zS) (r : zS) (o0 : Option Value) (o1 : Option Value)  (h : f73_18  y1 s = some r) : Ev X (D + 1) mm73 18 [o0, o1] [.int y1, .ref 13] (mk s) (encV r) := by
  unfold f73_18 at h
  obtain ⟨s1, hq, h⟩ := zb0_some h
  refine Ev.call (M' := mm70) (v := none) (h' := mk s1) rfl rfl rfl (Nat.le_of_ble_eq_true rfl) (k70 hq) ?_
  cases h
  exact Ev.fin rfl rfl
def f73  (x1 : Int32) (s : zS) : Option (zS) := if x1 ≥ (zi 10) then f73_18 ((zi 87) + x1) s else f73_18 ((zi 48) + x1) s
set_option maxRecDepth 100000 in
theorem k73 {X : mX} {D : Nat} {x1 : Int32} {s : zS} {r : zS}  (h : f73 x1 s = some r) : Ev X (D + 1) mm73 0 [some (.ref 13), some (.int x1)] [] (mk s) (encV r) := by
  unfold f73 at h
  refine Ev.run (pc' := 4) (ls' := [some (.ref 13), some (.int x1)]) (st' := [.int (zi 10), .int x1, .ref 13]) (h' := mk s) 3 rfl ?_
  refine Ev.icmp_ge (t := 14) rfl rfl (fun hb => ?_) (fun hb => ?_)
  · have h := (if_pos hb).symm.trans h
    refine Ev.run (pc' := 18) (ls' := [some (.ref 13), some (.int x1)]) (st' := [.int ((zi 87) + x1), .ref 13]) (h' := mk s) 3 rfl ?_
    exact k73_18 ((zi 87) + x1) s _ _ _ h
  · have h := (if_neg hb).symm.trans h
    refine Ev.run (pc' := 18) (ls' := [some (.ref 13), some (.int x1)]) (st' := [.int ((zi 48) + x1), .ref 13]) (h' := mk s) 4 rfl ?_
    exact k73_18 ((zi 48) + x1) s _ _ _ h
/-! 80 F$Piece.addBits(JII)V -/
def f80_72 (rec32 : Int32 → Int64 → Int32 → Int32 → zS → Option (zS)) (x4 : Int32) (x5 : Int64) (x8 : Int32) (x9 : Int32) (y0 : Int32) (s : zS) : Option (zS) := if y0 = zi 0 then rec32 x4 x5 y0 (x8 - x4) s else zb0 (f73 x9 s) (fun s1 => rec32 x4 x5 y0 (x8 - x4) s1)
set_option maxRecDepth 100000 in
theorem k80_72 {X : mX} {D : Nat} {rec32 : Int32 → Int64 → Int32 → Int32 → zS → Option (zS)} (hrec32 : ∀ (x4 : Int32) (x5 : Int64) (x7 : Int32) (x8 : Int32) (s : zS) (r : zS) (o1 : Option Value) (o2 : Option Value) (o3 : Option Value) (o9 : Option Value), rec32 x4 x5 x7 x8 s = some r → Ev X (D + 2) mm80 32 [some (.ref 13), o1, o2, o3, some (.int x4), some (.long x5), none, some (.int x7), some (.int x8), o9] [] (mk s) (encV r)) (x4 : Int32) (x5 : Int64) (x8 : Int32) (x9 : Int32) (y0 : Int32) (s : zS) (r : zS) (o1 : Option Value) (o2 : Option Value) (o3 : Option Value) (o7 : Option Value)  (h : f80_72 rec32 x4 x5 x8 x9 y0 s = some r) : Ev X (D + 2) mm80 72 [some (.ref 13), o1, o2, o3, some (.int x4), some (.long x5), none, o7, some (.int x8), some (.int x9)] [.int y0] (mk s) (encV r) := by
  unfold f80_72 at h
  refine Ev.run (pc' := 76) (ls' := [some (.ref 13), o1, o2, o3, some (.int x4), some (.long x5), none, some (.int y0), some (.int x8), some (.int x9)]) (st' := [.int y0]) (h' := mk s) 2 rfl ?_
  refine Ev.if_eq (t := 85) rfl rfl (fun hb => ?_) (fun hb => ?_)
  · have h := (if_pos hb).symm.trans h
    refine Ev.run (pc' := 32) (ls' := [some (.ref 13), o1, o2, o3, some (.int x4), some (.long x5), none, some (.int y0), some (.int (x8 - x4)), some (.int x9)]) (st' := []) (h' := mk s) 5 rfl ?_
    exact hrec32 x4 x5 y0 (x8 - x4) s _ _ _ _ _ h
  · have h := (if_neg hb).symm.trans h
    refine Ev.run (pc' := 82) (ls' := [some (.ref 13), o1, o2, o3, some (.int x4), some (.long x5), none, some (.int y0), some (.int x8), some (.int x9)]) (st' := [.int x9, .ref 13]) (h' := mk s) 2 rfl ?_
    obtain ⟨s1, hq, h⟩ := zb0_some h
    refine Ev.call (M' := mm73) (v := none) (h' := mk s1) rfl rfl rfl (Nat.le_of_ble_eq_true rfl) (k73 hq) ?_
    refine Ev.run (pc' := 32) (ls' := [some (.ref 13), o1, o2, o3, some (.int x4), some (.long x5), none, some (.int y0), some (.int (x8 - x4)), some (.int x9)]) (st' := []) (h' := mk s1) 5 rfl ?_
    exact hrec32 x4 x5 y0 (x8 - x4) s1 _ _ _ _ _ h
def b80_32 (rec32 : Int32 → Int64 → Int32 → Int32 → zS → Option (zS)) (x4 : Int32) (x5 : Int64) (x7 : Int32) (x8 : Int32) (s : zS) : Option (zS) := if x8 < zi 0 then some s else if ¬ x7 = zi 0 then f80_72 rec32 x4 x5 x8 ((zL2I (zushrL x5 x8)) &&& ((zshl (zi 1) x4) - (zi 1))) (zi 1) s else if ¬ ((zL2I (zushrL x5 x8)) &&& ((zshl (zi 1) x4) - (zi 1))) = zi 0 then f80_72 rec32 x4 x5 x8 ((zL2I (zushrL x5 x8)) &&& ((zshl (zi 1) x4) - (zi 1))) (zi 1) s else if ¬ x8 = zi 0 then f80_72 rec32 x4 x5 x8 ((zL2I (zushrL x5 x8)) &&& ((zshl (zi 1) x4) - (zi 1))) (zi 0) s else f80_72 rec32 x4 x5 x8 ((zL2I (zushrL x5 x8)) &&& ((zshl (zi 1) x4) - (zi 1))) (zi 1) s
set_option maxRecDepth 100000 in
theorem kb80_32 {X : mX} {D : Nat} {rec32 : Int32 → Int64 → Int32 → Int32 → zS → Option (zS)} (hrec32 : ∀ (x4 : Int32) (x5 : Int64) (x7 : Int32) (x8 : Int32) (s : zS) (r : zS) (o1 : Option Value) (o2 : Option Value) (o3 : Option Value) (o9 : Option Value), rec32 x4 x5 x7 x8 s = some r → Ev X (D + 2) mm80 32 [some (.ref 13), o1, o2, o3, some (.int x4), some (.long x5), none, some (.int x7), some (.int x8), o9] [] (mk s) (encV r)) (x4 : Int32) (x5 : Int64) (x7 : Int32) (x8 : Int32) (s : zS) (r : zS) (o1 : Option Value) (o2 : Option Value) (o3 : Option Value) (o9 : Option Value)  (h : b80_32 rec32 x4 x5 x7 x8 s = some r) : Ev X (D + 2) mm80 32 [some (.ref 13), o1, o2, o3, some (.int x4), some (.long x5), none, some (.int x7), some (.int x8), o9] [] (mk s) (encV r) := by
  unfold b80_32 at h
  refine Ev.run (pc' := 34) (ls' := [some (.ref 13), o1, o2, o3, some (.int x4), some (.long x5), none, some (.int x7), some (.int x8), o9]) (st' := [.int x8]) (h' := mk s) 1 rfl ?_
  refine Ev.if_lt (t := 95) rfl rfl (fun hb => ?_) (fun hb => ?_)
  · have h := (if_pos hb).symm.trans h
    cases h
    exact Ev.fin rfl rfl
  · have h := (if_neg hb).symm.trans h
    refine Ev.run (pc' := 54) (ls' := [some (.ref 13), o1, o2, o3, some (.int x4), some (.long x5), none, some (.int x7), some (.int x8), some (.int ((zL2I (zushrL x5 x8)) &&& ((zshl (zi 1) x4) - (zi 1))))]) (st' := [.int x7]) (h' := mk s) 12 rfl ?_
    refine Ev.if_ne (t := 67) rfl rfl (fun hb => ?_) (fun hb => ?_)
    · have h := (if_pos hb).symm.trans h
      refine Ev.run (pc' := 72) (ls' := [some (.ref 13), o1, o2, o3, some (.int x4), some (.long x5), none, some (.int x7), some (.int x8), some (.int ((zL2I (zushrL x5 x8)) &&& ((zshl (zi 1) x4) - (zi 1))))]) (st' := [.int (zi 1)]) (h' := mk s) 2 rfl ?_
      exact k80_72 hrec32 x4 x5 x8 ((zL2I (zushrL x5 x8)) &&& ((zshl (zi 1) x4) - (zi 1))) (zi 1) s _ _ _ _ _ h
    · have h := (if_neg hb).symm.trans h
      refine Ev.run (pc' := 59) (ls' := [some (.ref 13), o1, o2, o3, some (.int x4), some (.long x5), none, some (.int x7), some (.int x8), some (.int ((zL2I (zushrL x5 x8)) &&& ((zshl (zi 1) x4) - (zi 1))))]) (st' := [.int ((zL2I (zushrL x5 x8)) &&& ((zshl (zi 1) x4) - (zi 1)))]) (h' := mk s) 1 rfl ?_
      refine Ev.if_ne (t := 67) rfl rfl (fun hb => ?_) (fun hb => ?_)
      · have h := (if_pos hb).symm.trans h
        refine Ev.run (pc' := 72) (ls' := [some (.ref 13), o1, o2, o3, some (.int x4), some (.long x5), none, some (.int x7), some (.int x8), some (.int ((zL2I (zushrL x5 x8)) &&& ((zshl (zi 1) x4) - (zi 1))))]) (st' := [.int (zi 1)]) (h' := mk s) 2 rfl ?_
        exact k80_72 hrec32 x4 x5 x8 ((zL2I (zushrL x5 x8)) &&& ((zshl (zi 1) x4) - (zi 1))) (zi 1) s _ _ _ _ _ h
      · have h := (if_neg hb).symm.trans h
        refine Ev.run (pc' := 64) (ls' := [some (.ref 13), o1, o2, o3, some (.int x4), some (.long x5), none, some (.int x7), some (.int x8), some (.int ((zL2I (zushrL x5 x8)) &&& ((zshl (zi 1) x4) - (zi 1))))]) (st' := [.int x8]) (h' := mk s) 1 rfl ?_
        refine Ev.if_ne (t := 71) rfl rfl (fun hb => ?_) (fun hb => ?_)
        · have h := (if_pos hb).symm.trans h
          refine Ev.run (pc' := 72) (ls' := [some (.ref 13), o1, o2, o3, some (.int x4), some (.long x5), none, some (.int x7), some (.int x8), some (.int ((zL2I (zushrL x5 x8)) &&& ((zshl (zi 1) x4) - (zi 1))))]) (st' := [.int (zi 0)]) (h' := mk s) 1 rfl ?_
          exact k80_72 hrec32 x4 x5 x8 ((zL2I (zushrL x5 x8)) &&& ((zshl (zi 1) x4) - (zi 1))) (zi 0) s _ _ _ _ _ h
        · have h := (if_neg hb).symm.trans h
          refine Ev.run (pc' := 72) (ls' := [some (.ref 13), o1, o2, o3, some (.int x4), some (.long x5), none, some (.int x7), some (.int x8), some (.int ((zL2I (zushrL x5 x8)) &&& ((zshl (zi 1) x4) - (zi 1))))]) (st' := [.int (zi 1)]) (h' := mk s) 2 rfl ?_
          exact k80_72 hrec32 x4 x5 x8 ((zL2I (zushrL x5 x8)) &&& ((zshl (zi 1) x4) - (zi 1))) (zi 1) s _ _ _ _ _ h
def f80_32  : Nat → Int32 → Int64 → Int32 → Int32 → zS → Option (zS)
  | 0, _, _, _, _, _ => none
  | n + 1, x4, x5, x7, x8, s => b80_32 (f80_32 n) x4 x5 x7 x8 s
set_option maxRecDepth 100000 in
theorem k80_32 {X : mX} {D : Nat}   (n : Nat) : ∀ (x4 : Int32) (x5 : Int64) (x7 : Int32) (x8 : Int32) (s : zS) (r : zS) (o1 : Option Value) (o2 : Option Value) (o3 : Option Value) (o9 : Option Value), f80_32  n x4 x5 x7 x8 s = some r → Ev X (D + 2) mm80 32 [some (.ref 13), o1, o2, o3, some (.int x4), some (.long x5), none, some (.int x7), some (.int x8), o9] [] (mk s) (encV r) := by
  induction n with
  | zero => intro x4 x5 x7 x8 s r o1 o2 o3 o9  h; cases h
  | succ n ih => intro x4 x5 x7 x8 s r o1 o2 o3 o9  h; exact kb80_32  ih x4 x5 x7 x8 s r o1 o2 o3 o9  h
def f80_17  (x4 : Int32) (y0 : Int64) (s : zS) : Option (zS) := if ¬ x4 = zi 0 then f80_32 zF x4 y0 (zi 0) (((zi 63) / x4) * x4) s else none
set_option maxRecDepth 100000 in
theorem k80_17 {X : mX} {D : Nat}   (x4 : Int32) (y0 : Int64) (s : zS) (r : zS) (o1 : Option Value) (o2 : Option Value) (o3 : Option Value) (o5 : Option Value) (o6 : Option Value) (o7 : Option Value) (o8 : Option Value) (o9 : Option Value)  (h : f80_17  x4 y0 s = some r) : Ev X (D + 2) mm80 17 [some (.ref 13), o1, o2, o3, some (.int x4), o5, o6, o7, o8, o9] [.long y0] (mk s) (encV r) := by
  unfold f80_17 at h
  refine Ev.run (pc' := 26) (ls' := [some (.ref 13), o1, o2, o3, some (.int x4), some (.long y0), none, some (.int (zi 0)), o8, o9]) (st' := [.int x4, .int (zi 63)]) (h' := mk s) 5 rfl ?_
  obtain ⟨hx, h⟩ := zif h
  refine Ev.step (pc' := 27) rfl (idiv_ok hx) ?_
  refine Ev.run (pc' := 32) (ls' := [some (.ref 13), o1, o2, o3, some (.int x4), some (.long y0), none, some (.int (zi 0)), some (.int (((zi 63) / x4) * x4)), o9]) (st' := []) (h' := mk s) 3 rfl ?_
  exact k80_32 zF x4 y0 (zi 0) (((zi 63) / x4) * x4) s _ _ _ _ _ h
def f80  (x1 : Int64) (x3 : Int32) (x4 : Int32) (s : zS) : Option (zS) := if x3 < (zi 64) then f80_17 x4 (x1 &&& ((zshlL (zl 1) x3) - (zl 1))) s else f80_17 x4 x1 s
set_option maxRecDepth 100000 in
theorem k80 {X : mX} {D : Nat} {x1 : Int64} {x3 : Int32} {x4 : Int32} {s : zS} {r : zS}  (h : f80 x1 x3 x4 s = some r) : Ev X (D + 2) mm80 0 [some (.ref 13), some (.long x1), none, some (.int x3), some (.int x4), none, none, none, none, none] [] (mk s) (encV r) := by
  unfold f80 at h
  refine Ev.run (pc' := 3) (ls' := [some (.ref 13), some (.long x1), none, some (.int x3), some (.int x4), none, none, none, none, none]) (st' := [.int (zi 64), .int x3]) (h' := mk s) 2 rfl ?_
  refine Ev.icmp_lt (t := 10) rfl rfl (fun hb => ?_) (fun hb => ?_)
  · have h := (if_pos hb).symm.trans h
    refine Ev.run (pc' := 17) (ls' := [some (.ref 13), some (.long x1), none, some (.int x3), some (.int x4), none, none, none, none, none]) (st' := [.long (x1 &&& ((zshlL (zl 1) x3) - (zl 1)))]) (h' := mk s) 7 rfl ?_
    exact k80_17 x4 (x1 &&& ((zshlL (zl 1) x3) - (zl 1))) s _ _ _ _ _ _ _ _ _ h
  · have h := (if_neg hb).symm.trans h
    refine Ev.run (pc' := 17) (ls' := [some (.ref 13), some (.long x1), none, some (.int x3), some (.int x4), none, none, none, none, none]) (st' := [.long x1]) (h' := mk s) 2 rfl ?_
    exact k80_17 x4 x1 s _ _ _ _ _ _ _ _ _ h
/-! 67 F$Composer.writeBits(Ljava.lang.String;I)V -/
def f67_19  (x2 : Int32) (s : zS) : Option (zS) := zb0 (f77 s) (fun s1 => zb0 (f80 (s1.2.1 12 9) (r28 (s1.1 12 8) s1) x2 s1) (fun s2 => some s2))
set_option maxRecDepth 100000 in
theorem k67_19 {X : mX} {D : Nat}   (x2 : Int32) (s : zS) (r : zS) (o1 : Option Value)  (h : f67_19  x2 s = some r) : Ev X (D + 7) mm67 19 [some (.ref 12), o1, some (.int x2)] [] (mk s) (encV r) := by
  unfold f67_19 at h
  refine Ev.run (pc' := 27) (ls' := [some (.ref 12), o1, some (.int x2)]) (st' := [.ref 7, .ref 13]) (h' := mk s) 4 rfl ?_
  obtain ⟨s1, hq, h⟩ := zb0_some h
  refine Ev.call (M' := mm77) (v := none) (h' := mk s1) rfl rfl rfl (Nat.le_of_ble_eq_true rfl) (k77 hq) ?_
  refine Ev.run (pc' := 42) (ls' := [some (.ref 12), o1, some (.int x2)]) (st' := [.int (s1.1 12 8), .long (s1.2.1 12 9), .ref 13]) (h' := mk s1) 6 rfl ?_
  refine Ev.call (M' := mm28) (v := some (.int (r28 (s1.1 12 8) s1))) (h' := mk s1) rfl rfl rfl (Nat.le_of_ble_eq_true rfl) (k28 (x0 := (s1.1 12 8)) (s := s1) (v := r28 (s1.1 12 8) s1)  rfl) ?_
  refine Ev.run (pc' := 46) (ls' := [some (.ref 12), o1, some (.int x2)]) (st' := [.int x2, .int (r28 (s1.1 12 8) s1), .long (s1.2.1 12 9), .ref 13]) (h' := mk s1) 1 rfl ?_
  obtain ⟨s2, hq, h⟩ := zb0_some h
  refine Ev.call (M' := mm80) (v := none) (h' := mk s2) rfl rfl rfl (Nat.le_of_ble_eq_true rfl) (k80 hq) ?_
  cases h
  exact Ev.fin rfl rfl
def f67  (c1 : Nat) (x2 : Int32) (s : zS) : Option (zS) := if (r51 (zi 2) s) = zi 0 then f67_19 x2 s else zb0 (f71 c1 s) (fun s1 => f67_19 x2 s1)
set_option maxRecDepth 100000 in
theorem k67 {X : mX} {D : Nat} {c1 : Nat} {x2 : Int32} {s : zS} {r : zS} (hc1 : c1 < 78) (h : f67 c1 x2 s = some r) : Ev X (D + 7) mm67 0 [some (.ref 12), some (.ref (mRO + 3 + 2 * c1)), some (.int x2)] [] (mk s) (encV r) := by
  unfold f67 at h
  refine Ev.run (pc' := 5) (ls' := [some (.ref 12), some (.ref (mRO + 3 + 2 * c1)), some (.int x2)]) (st' := [.int (zi 2), .ref 7]) (h' := mk s) 3 rfl ?_
  refine Ev.call (M' := mm51) (v := some (.int (r51 (zi 2) s))) (h' := mk s) rfl rfl rfl (Nat.le_of_ble_eq_true rfl) (k51 (x1 := (zi 2)) (s := s) (v := r51 (zi 2) s)  rfl) ?_
  refine Ev.if_eq (t := 19) rfl rfl (fun hb => ?_) (fun hb => ?_)
  · have h := (if_pos hb).symm.trans h
    exact k67_19 x2 s _ _ h
  · have h := (if_neg hb).symm.trans h
    refine Ev.run (pc' := 16) (ls' := [some (.ref 12), some (.ref (mRO + 3 + 2 * c1)), some (.int x2)]) (st' := [.ref (mRO + 3 + 2 * c1), .ref 13]) (h' := mk s) 3 rfl ?_
    obtain ⟨s1, hq, h⟩ := zb0_some h
    refine Ev.call (M' := mm71) (v := none) (h' := mk s1) rfl rfl rfl (Nat.le_of_ble_eq_true rfl) (k71 hc1 hq) ?_
    exact k67_19 x2 s1 _ _ h
/-! 89 F$Moment.isLeapYear()Z -/
def r89  (s : zS) : Int32 := if ¬ (zremL (s.2.1 20 2) (zl 4)) = (zl 0) then zi 0 else if ¬ (zremL (s.2.1 20 2) (zl 100)) = (zl 0) then zi 1 else if ¬ (zremL (s.2.1 20 2) (zl 400)) = (zl 0) then zi 0 else zi 1
set_option maxRecDepth 100000 in
theorem k89 {X : mX} {D : Nat}  {s : zS} {v : Int32} (h : r89  s = v) : Ev X D mm89 0 [some (.ref 20)] [] (mk s) (encI (v, s)) := by
  unfold r89 at h
  refine Ev.run (pc' := 10) (ls' := [some (.ref 20)]) (st' := [.int (lg_cmp (zremL (s.2.1 20 2) (zl 4)) (zl 0))]) (h' := mk s) 6 rfl ?_
  refine Ev.ifl_ne (t := 43) rfl rfl (fun hb => ?_) (fun hb => ?_)
  · have h := (if_pos hb).symm.trans h
    refine Ev.run (pc' := 44) (ls' := [some (.ref 20)]) (st' := [.int (zi 0)]) (h' := mk s) 1 rfl ?_
    subst h
    exact Ev.fin rfl rfl
  · have h := (if_neg hb).symm.trans h
    refine Ev.run (pc' := 23) (ls' := [some (.ref 20)]) (st' := [.int (lg_cmp (zremL (s.2.1 20 2) (zl 100)) (zl 0))]) (h' := mk s) 6 rfl ?_
    refine Ev.ifl_ne (t := 39) rfl rfl (fun hb => ?_) (fun hb => ?_)
    · have h := (if_pos hb).symm.trans h
      refine Ev.run (pc' := 44) (ls' := [some (.ref 20)]) (st' := [.int (zi 1)]) (h' := mk s) 2 rfl ?_
      subst h
      exact Ev.fin rfl rfl
    · have h := (if_neg hb).symm.trans h
      refine Ev.run (pc' := 36) (ls' := [some (.ref 20)]) (st' := [.int (lg_cmp (zremL (s.2.1 20 2) (zl 400)) (zl 0))]) (h' := mk s) 6 rfl ?_
      refine Ev.ifl_ne (t := 43) rfl rfl (fun hb => ?_) (fun hb => ?_)
      · have h := (if_pos hb).symm.trans h
        refine Ev.run (pc' := 44) (ls' := [some (.ref 20)]) (st' := [.int (zi 0)]) (h' := mk s) 1 rfl ?_
        subst h
        exact Ev.fin rfl rfl
      · have h := (if_neg hb).symm.trans h
        refine Ev.run (pc' := 44) (ls' := [some (.ref 20)]) (st' := [.int (zi 1)]) (h' := mk s) 2 rfl ?_
        subst h
        exact Ev.fin rfl rfl
/-! 88 F$Moment.takeDay(J)V -/
def f88_161  (x7 : Int32) (x8 : Int32) (y0 : Int32) (s : zS) : Option (zS) := if (s.1 20 3) > (zi 2) then some (setI s 20 5 ((zi 1) + ((x7 + (zi 59)) + y0))) else some (setI s 20 5 ((zi 1) + (x7 - (zi 306))))
set_option maxRecDepth 100000 in
theorem k88_161 {X : mX} {D : Nat}   (x7 : Int32) (x8 : Int32) (y0 : Int32) (s : zS) (r : zS) (o1 : Option Value) (o2 : Option Value) (o3 : Option Value) (o4 : Option Value) (o5 : Option Value) (o6 : Option Value) (o9 : Option Value)  (h : f88_161  x7 x8 y0 s = some r) : Ev X (D + 1) mm88 161 [some (.ref 20), o1, o2, o3, o4, o5, o6, some (.int x7), some (.int x8), o9] [.int y0] (mk s) (encV r) := by
  unfold f88_161 at h
  refine Ev.run (pc' := 170) (ls' := [some (.ref 20), o1, o2, o3, o4, o5, o6, some (.int x7), some (.int x8), some (.int y0)]) (st' := [.int (zi 2), .int (s.1 20 3), .int (zi 1), .ref 20]) (h' := mk s) 6 rfl ?_
  refine Ev.icmp_gt (t := 182) rfl rfl (fun hb => ?_) (fun hb => ?_)
  · have h := (if_pos hb).symm.trans h
    refine Ev.run (pc' := 191) (ls' := [some (.ref 20), o1, o2, o3, o4, o5, o6, some (.int x7), some (.int x8), some (.int y0)]) (st' := [.int ((zi 1) + ((x7 + (zi 59)) + y0)), .ref 20]) (h' := mk s) 6 rfl ?_
    refine Ev.step (pc' := 194) rfl (put_6_5 rfl) ?_
    cases h
    exact Ev.fin rfl rfl
  · have h := (if_neg hb).symm.trans h
    refine Ev.run (pc' := 191) (ls' := [some (.ref 20), o1, o2, o3, o4, o5, o6, some (.int x7), some (.int x8), some (.int y0)]) (st' := [.int ((zi 1) + (x7 - (zi 306))), .ref 20]) (h' := mk s) 5 rfl ?_
    refine Ev.step (pc' := 194) rfl (put_6_5 rfl) ?_
    cases h
    exact Ev.fin rfl rfl
def f88_144  (x7 : Int32) (x8 : Int32) (y1 : Int64) (y2 : Int32) (s : zS) : Option (zS) := if (r89 (setJ s 20 2 (y1 + (zI2L y2)))) = zi 0 then f88_161 x7 x8 (zi 0) (setJ s 20 2 (y1 + (zI2L y2))) else f88_161 x7 x8 (zi 1) (setJ s 20 2 (y1 + (zI2L y2)))
set_option maxRecDepth 100000 in
theorem k88_144 {X : mX} {D : Nat}   (x7 : Int32) (x8 : Int32) (y1 : Int64) (y2 : Int32) (s : zS) (r : zS) (o1 : Option Value) (o2 : Option Value) (o3 : Option Value) (o4 : Option Value) (o5 : Option Value) (o6 : Option Value) (o9 : Option Value)  (h : f88_144  x7 x8 y1 y2 s = some r) : Ev X (D + 1) mm88 144 [some (.ref 20), o1, o2, o3, o4, o5, o6, some (.int x7), some (.int x8), o9] [.int y2, .long y1, .ref 20] (mk s) (encV r) := by
  unfold f88_144 at h
  refine Ev.run (pc' := 146) (ls' := [some (.ref 20), o1, o2, o3, o4, o5, o6, some (.int x7), some (.int x8), o9]) (st' := [.long (y1 + (zI2L y2)), .ref 20]) (h' := mk s) 2 rfl ?_
  refine Ev.step (pc' := 149) rfl (put_6_2 rfl) ?_
  refine Ev.run (pc' := 150) (ls' := [some (.ref 20), o1, o2, o3, o4, o5, o6, some (.int x7), some (.int x8), o9]) (st' := [.ref 20]) (h' := mk (setJ s 20 2 (y1 + (zI2L y2)))) 1 rfl ?_
  refine Ev.call (M' := mm89) (v := some (.int (r89 (setJ s 20 2 (y1 + (zI2L y2)))))) (h' := mk (setJ s 20 2 (y1 + (zI2L y2)))) rfl rfl rfl (Nat.le_of_ble_eq_true rfl) (k89  (s := setJ s 20 2 (y1 + (zI2L y2))) (v := r89 (setJ s 20 2 (y1 + (zI2L y2))))  rfl) ?_
  refine Ev.if_eq (t := 160) rfl rfl (fun hb => ?_) (fun hb => ?_)
  · have h := (if_pos hb).symm.trans h
    refine Ev.run (pc' := 161) (ls' := [some (.ref 20), o1, o2, o3, o4, o5, o6, some (.int x7), some (.int x8), o9]) (st' := [.int (zi 0)]) (h' := mk (setJ s 20 2 (y1 + (zI2L y2)))) 1 rfl ?_
    exact k88_161 x7 x8 (zi 0) (setJ s 20 2 (y1 + (zI2L y2))) _ _ _ _ _ _ _ _ h
  · have h := (if_neg hb).symm.trans h
    refine Ev.run (pc' := 161) (ls' := [some (.ref 20), o1, o2, o3, o4, o5, o6, some (.int x7), some (.int x8), o9]) (st' := [.int (zi 1)]) (h' := mk (setJ s 20 2 (y1 + (zI2L y2)))) 2 rfl ?_
    exact k88_161 x7 x8 (zi 1) (setJ s 20 2 (y1 + (zI2L y2))) _ _ _ _ _ _ _ _ h
def f88_118  (x3 : Int64) (x6 : Int32) (x7 : Int32) (x8 : Int32) (y1 : Int32) (s : zS) : Option (zS) := if y1 > (zi 2) then f88_144 x7 x8 ((x3 * (zl 400)) + (zI2L x6)) (zi 0) (setI s 20 3 y1) else f88_144 x7 x8 ((x3 * (zl 400)) + (zI2L x6)) (zi 1) (setI s 20 3 y1)
set_option maxRecDepth 100000 in
theorem k88_118 {X : mX} {D : Nat}   (x3 : Int64) (x6 : Int32) (x7 : Int32) (x8 : Int32) (y1 : Int32) (s : zS) (r : zS) (o1 : Option Value) (o2 : Option Value) (o5 : Option Value) (o9 : Option Value)  (h : f88_118  x3 x6 x7 x8 y1 s = some r) : Ev X (D + 1) mm88 118 [some (.ref 20), o1, o2, some (.long x3), none, o5, some (.int x6), some (.int x7), some (.int x8), o9] [.int y1, .ref 20] (mk s) (encV r) := by
  unfold f88_118 at h
  refine Ev.step (pc' := 121) rfl (put_6_3 rfl) ?_
  refine Ev.run (pc' := 136) (ls' := [some (.ref 20), o1, o2, some (.long x3), none, o5, some (.int x6), some (.int x7), some (.int x8), o9]) (st' := [.int (zi 2), .int y1, .long ((x3 * (zl 400)) + (zI2L x6)), .ref 20]) (h' := mk (setI s 20 3 y1)) 10 rfl ?_
  refine Ev.icmp_gt (t := 143) rfl rfl (fun hb => ?_) (fun hb => ?_)
  · have h := (if_pos hb).symm.trans h
    refine Ev.run (pc' := 144) (ls' := [some (.ref 20), o1, o2, some (.long x3), none, o5, some (.int x6), some (.int x7), some (.int x8), o9]) (st' := [.int (zi 0), .long ((x3 * (zl 400)) + (zI2L x6)), .ref 20]) (h' := mk (setI s 20 3 y1)) 1 rfl ?_
    exact k88_144 x7 x8 ((x3 * (zl 400)) + (zI2L x6)) (zi 0) (setI s 20 3 y1) _ _ _ _ _ _ _ _ h
  · have h := (if_neg hb).symm.trans h
    refine Ev.run (pc' := 144) (ls' := [some (.ref 20), o1, o2, some (.long x3), none, o5, some (.int x6), some (.int x7), some (.int x8), o9]) (st' := [.int (zi 1), .long ((x3 * (zl 400)) + (zI2L x6)), .ref 20]) (h' := mk (setI s 20 3 y1)) 2 rfl ?_
    exact k88_144 x7 x8 ((x3 * (zl 400)) + (zI2L x6)) (zi 1) (setI s 20 3 y1) _ _ _ _ _ _ _ _ h
def f88  (x1 : Int64) (s : zS) : Option (zS) := zb1 (f261 x1 (zl 146097) s) (fun v2 s1 => zb1 (f262 x1 (zl 146097) s1) (fun v4 s3 => zlet ((zL2I v4) - ((((zi 365) * (((((zL2I v4) - ((zL2I v4) / (zi 1460))) + ((zL2I v4) / (zi 36524))) - ((zL2I v4) / (zi 146096))) / (zi 365))) + ((((((zL2I v4) - ((zL2I v4) / (zi 1460))) + ((zL2I v4) / (zi 36524))) - ((zL2I v4) / (zi 146096))) / (zi 365)) / (zi 4))) - ((((((zL2I v4) - ((zL2I v4) / (zi 1460))) + ((zL2I v4) / (zi 36524))) - ((zL2I v4) / (zi 146096))) / (zi 365)) / (zi 100)))) (fun w5 => if ((((zi 5) * w5) + (zi 2)) / (zi 153)) ≥ (zi 10) then f88_118 v2 (((((zL2I v4) - ((zL2I v4) / (zi 1460))) + ((zL2I v4) / (zi 36524))) - ((zL2I v4) / (zi 146096))) / (zi 365)) w5 ((((zi 5) * w5) + (zi 2)) / (zi 153)) (((((zi 5) * w5) + (zi 2)) / (zi 153)) - (zi 9)) (setI s3 20 4 ((w5 - ((((zi 153) * ((((zi 5) * w5) + (zi 2)) / (zi 153))) + (zi 2)) / (zi 5))) + (zi 1))) else f88_118 v2 (((((zL2I v4) - ((zL2I v4) / (zi 1460))) + ((zL2I v4) / (zi 36524))) - ((zL2I v4) / (zi 146096))) / (zi 365)) w5 ((((zi 5) * w5) + (zi 2)) / (zi 153)) (((((zi 5) * w5) + (zi 2)) / (zi 153)) + (zi 3)) (setI s3 20 4 ((w5 - ((((zi 153) * ((((zi 5) * w5) + (zi 2)) / (zi 153))) + (zi 2)) / (zi 5))) + (zi 1))))))
set_option maxRecDepth 100000 in
theorem k88 {X : mX} {D : Nat} {x1 : Int64} {s : zS} {r : zS}  (h : f88 x1 s = some r) : Ev X (D + 1) mm88 0 [some (.ref 20), some (.long x1), none, none, none, none, none, none, none, none] [] (mk s) (encV r) := by
  unfold f88 at h
  refine Ev.run (pc' := 4) (ls' := [some (.ref 20), some (.long x1), none, none, none, none, none, none, none, none]) (st' := [.long (zl 146097), .long x1]) (h' := mk s) 2 rfl ?_
  obtain ⟨v2, s1, hq, h⟩ := zb1_some h
  refine Ev.call (M' := mm261) (v := some (.long v2)) (h' := mk s1) rfl rfl rfl (Nat.le_of_ble_eq_true rfl) (k261 hq) ?_
  refine Ev.run (pc' := 12) (ls' := [some (.ref 20), some (.long x1), none, some (.long v2), none, none, none, none, none, none]) (st' := [.long (zl 146097), .long x1]) (h' := mk s1) 3 rfl ?_
  obtain ⟨v4, s3, hq, h⟩ := zb1_some h
  refine Ev.call (M' := mm262) (v := some (.long v4)) (h' := mk s3) rfl rfl rfl (Nat.le_of_ble_eq_true rfl) (k262 hq) ?_
  refine Ev.run (pc' := 67) (ls' := [some (.ref 20), some (.long x1), none, some (.long v2), none, some (.int (zL2I v4)), some (.int (((((zL2I v4) - ((zL2I v4) / (zi 1460))) + ((zL2I v4) / (zi 36524))) - ((zL2I v4) / (zi 146096))) / (zi 365))), some (.int ((zL2I v4) - ((((zi 365) * (((((zL2I v4) - ((zL2I v4) / (zi 1460))) + ((zL2I v4) / (zi 36524))) - ((zL2I v4) / (zi 146096))) / (zi 365))) + ((((((zL2I v4) - ((zL2I v4) / (zi 1460))) + ((zL2I v4) / (zi 36524))) - ((zL2I v4) / (zi 146096))) / (zi 365)) / (zi 4))) - ((((((zL2I v4) - ((zL2I v4) / (zi 1460))) + ((zL2I v4) / (zi 36524))) - ((zL2I v4) / (zi 146096))) / (zi 365)) / (zi 100))))), none, none]) (st' := []) (h' := mk s3) 32 rfl ?_
  have h := zlet_eq h
  revert h
  generalize (zL2I v4) - ((((zi 365) * (((((zL2I v4) - ((zL2I v4) / (zi 1460))) + ((zL2I v4) / (zi 36524))) - ((zL2I v4) / (zi 146096))) / (zi 365))) + ((((((zL2I v4) - ((zL2I v4) / (zi 1460))) + ((zL2I v4) / (zi 36524))) - ((zL2I v4) / (zi 146096))) / (zi 365)) / (zi 4))) - ((((((zL2I v4) - ((zL2I v4) / (zi 1460))) + ((zL2I v4) / (zi 36524))) - ((zL2I v4) / (zi 146096))) / (zi 365)) / (zi 100))) = w5
  intro h
  refine Ev.run (pc' := 95) (ls' := [some (.ref 20), some (.long x1), none, some (.long v2), none, some (.int (zL2I v4)), some (.int (((((zL2I v4) - ((zL2I v4) / (zi 1460))) + ((zL2I v4) / (zi 36524))) - ((zL2I v4) / (zi 146096))) / (zi 365))), some (.int w5), some (.int ((((zi 5) * w5) + (zi 2)) / (zi 153))), none]) (st' := [.int ((w5 - ((((zi 153) * ((((zi 5) * w5) + (zi 2)) / (zi 153))) + (zi 2)) / (zi 5))) + (zi 1)), .ref 20]) (h' := mk s3) 20 rfl ?_
  refine Ev.step (pc' := 98) rfl (put_6_4 rfl) ?_
  refine Ev.run (pc' := 103) (ls' := [some (.ref 20), some (.long x1), none, some (.long v2), none, some (.int (zL2I v4)), some (.int (((((zL2I v4) - ((zL2I v4) / (zi 1460))) + ((zL2I v4) / (zi 36524))) - ((zL2I v4) / (zi 146096))) / (zi 365))), some (.int w5), some (.int ((((zi 5) * w5) + (zi 2)) / (zi 153))), none]) (st' := [.int (zi 10), .int ((((zi 5) * w5) + (zi 2)) / (zi 153)), .ref 20]) (h' := mk (setI s3 20 4 ((w5 - ((((zi 153) * ((((zi 5) * w5) + (zi 2)) / (zi 153))) + (zi 2)) / (zi 5))) + (zi 1)))) 3 rfl ?_
  refine Ev.icmp_ge (t := 113) rfl rfl (fun hb => ?_) (fun hb => ?_)
  · have h := (if_pos hb).symm.trans h
    refine Ev.run (pc' := 118) (ls' := [some (.ref 20), some (.long x1), none, some (.long v2), none, some (.int (zL2I v4)), some (.int (((((zL2I v4) - ((zL2I v4) / (zi 1460))) + ((zL2I v4) / (zi 36524))) - ((zL2I v4) / (zi 146096))) / (zi 365))), some (.int w5), some (.int ((((zi 5) * w5) + (zi 2)) / (zi 153))), none]) (st' := [.int (((((zi 5) * w5) + (zi 2)) / (zi 153)) - (zi 9)), .ref 20]) (h' := mk (setI s3 20 4 ((w5 - ((((zi 153) * ((((zi 5) * w5) + (zi 2)) / (zi 153))) + (zi 2)) / (zi 5))) + (zi 1)))) 3 rfl ?_
    exact k88_118 v2 (((((zL2I v4) - ((zL2I v4) / (zi 1460))) + ((zL2I v4) / (zi 36524))) - ((zL2I v4) / (zi 146096))) / (zi 365)) w5 ((((zi 5) * w5) + (zi 2)) / (zi 153)) (((((zi 5) * w5) + (zi 2)) / (zi 153)) - (zi 9)) (setI s3 20 4 ((w5 - ((((zi 153) * ((((zi 5) * w5) + (zi 2)) / (zi 153))) + (zi 2)) / (zi 5))) + (zi 1))) _ _ _ _ _ h
  · have h := (if_neg hb).symm.trans h
    refine Ev.run (pc' := 118) (ls' := [some (.ref 20), some (.long x1), none, some (.long v2), none, some (.int (zL2I v4)), some (.int (((((zL2I v4) - ((zL2I v4) / (zi 1460))) + ((zL2I v4) / (zi 36524))) - ((zL2I v4) / (zi 146096))) / (zi 365))), some (.int w5), some (.int ((((zi 5) * w5) + (zi 2)) / (zi 153))), none]) (st' := [.int (((((zi 5) * w5) + (zi 2)) / (zi 153)) + (zi 3)), .ref 20]) (h' := mk (setI s3 20 4 ((w5 - ((((zi 153) * ((((zi 5) * w5) + (zi 2)) / (zi 153))) + (zi 2)) / (zi 5))) + (zi 1)))) 4 rfl ?_
    exact k88_118 v2 (((((zL2I v4) - ((zL2I v4) / (zi 1460))) + ((zL2I v4) / (zi 36524))) - ((zL2I v4) / (zi 146096))) / (zi 365)) w5 ((((zi 5) * w5) + (zi 2)) / (zi 153)) (((((zi 5) * w5) + (zi 2)) / (zi 153)) + (zi 3)) (setI s3 20 4 ((w5 - ((((zi 153) * ((((zi 5) * w5) + (zi 2)) / (zi 153))) + (zi 2)) / (zi 5))) + (zi 1))) _ _ _ _ _ h
/-! 87 F$Moment.take(J)V -/
def f87  (x1 : Int64) (s : zS) : Option (zS) := zb1 (f262 x1 (zl 86400000) (setJ s 20 0 x1)) (fun v2 s1 => zb1 (f261 (s1.2.1 20 0) (zl 86400000) (setI s1 20 1 (zL2I v2))) (fun v4 s3 => zb1 (f262 (v4 + (zl 4)) (zl 7) s3) (fun v6 s5 => zb0 (f88 (v4 + (zl 719468)) (setI s5 20 6 (zL2I v6))) (fun s7 => some s7))))
set_option maxRecDepth 100000 in
theorem k87 {X : mX} {D : Nat} {x1 : Int64} {s : zS} {r : zS}  (h : f87 x1 s = some r) : Ev X (D + 2) mm87 0 [some (.ref 20), some (.long x1), none, none, none] [] (mk s) (encV r) := by
  unfold f87 at h
  refine Ev.run (pc' := 2) (ls' := [some (.ref 20), some (.long x1), none, none, none]) (st' := [.long x1, .ref 20]) (h' := mk s) 2 rfl ?_
  refine Ev.step (pc' := 5) rfl (put_6_0 rfl) ?_
  refine Ev.run (pc' := 13) (ls' := [some (.ref 20), some (.long x1), none, none, none]) (st' := [.long (zl 86400000), .long x1, .ref 20]) (h' := mk (setJ s 20 0 x1)) 4 rfl ?_
  obtain ⟨v2, s1, hq, h⟩ := zb1_some h
  refine Ev.call (M' := mm262) (v := some (.long v2)) (h' := mk s1) rfl rfl rfl (Nat.le_of_ble_eq_true rfl) (k262 hq) ?_
  refine Ev.run (pc' := 17) (ls' := [some (.ref 20), some (.long x1), none, none, none]) (st' := [.int (zL2I v2), .ref 20]) (h' := mk s1) 1 rfl ?_
  refine Ev.step (pc' := 20) rfl (put_6_1 rfl) ?_
  refine Ev.run (pc' := 27) (ls' := [some (.ref 20), some (.long x1), none, none, none]) (st' := [.long (zl 86400000), .long (s1.2.1 20 0)]) (h' := mk (setI s1 20 1 (zL2I v2))) 3 rfl ?_
  obtain ⟨v4, s3, hq, h⟩ := zb1_some h
  refine Ev.call (M' := mm261) (v := some (.long v4)) (h' := mk s3) rfl rfl rfl (Nat.le_of_ble_eq_true rfl) (k261 hq) ?_
  refine Ev.run (pc' := 40) (ls' := [some (.ref 20), some (.long x1), none, some (.long v4), none]) (st' := [.long (zl 7), .long (v4 + (zl 4)), .ref 20]) (h' := mk s3) 6 rfl ?_
  obtain ⟨v6, s5, hq, h⟩ := zb1_some h
  refine Ev.call (M' := mm262) (v := some (.long v6)) (h' := mk s5) rfl rfl rfl (Nat.le_of_ble_eq_true rfl) (k262 hq) ?_
  refine Ev.run (pc' := 44) (ls' := [some (.ref 20), some (.long x1), none, some (.long v4), none]) (st' := [.int (zL2I v6), .ref 20]) (h' := mk s5) 1 rfl ?_
  refine Ev.step (pc' := 47) rfl (put_6_6 rfl) ?_
  refine Ev.run (pc' := 53) (ls' := [some (.ref 20), some (.long x1), none, some (.long v4), none]) (st' := [.long (v4 + (zl 719468)), .ref 20]) (h' := mk (setI s5 20 6 (zL2I v6))) 4 rfl ?_
  obtain ⟨s7, hq, h⟩ := zb0_some h
  refine Ev.call (M' := mm88) (v := none) (h' := mk s7) rfl rfl rfl (Nat.le_of_ble_eq_true rfl) (k88 hq) ?_
  cases h
  exact Ev.fin rfl rfl
/-! 56 F$Spec.suffix()I -/
def r56  (s : zS) : Int32 := s.1 7 7
set_option maxRecDepth 100000 in
theorem k56 {X : mX} {D : Nat}  {s : zS} {v : Int32} (h : r56  s = v) : Ev X D mm56 0 [some (.ref 7)] [] (mk s) (encI (v, s)) := by
  unfold r56 at h
  refine Ev.run (pc' := 4) (ls' := [some (.ref 7)]) (st' := [.int (s.1 7 7)]) (h' := mk s) 2 rfl ?_
  subst h
  exact Ev.fin rfl rfl
/-! 95 F$Moment.hour()I -/
def r95  (s : zS) : Int32 := (s.1 20 1) / (zi 3600000)
set_option maxRecDepth 100000 in
theorem k95 {X : mX} {D : Nat}  {s : zS} {v : Int32} (h : r95  s = v) : Ev X D mm95 0 [some (.ref 20)] [] (mk s) (encI (v, s)) := by
  unfold r95 at h
  refine Ev.run (pc' := 7) (ls' := [some (.ref 20)]) (st' := [.int ((s.1 20 1) / (zi 3600000))]) (h' := mk s) 4 rfl ?_
  subst h
  exact Ev.fin rfl rfl
/-! 96 F$Moment.hourOfTwelve()I -/
def r96  (s : zS) : Int32 := (zrem ((r95 s) + (zi 11)) (zi 12)) + (zi 1)
set_option maxRecDepth 100000 in
theorem k96 {X : mX} {D : Nat}  {s : zS} {v : Int32} (h : r96  s = v) : Ev X (D + 1) mm96 0 [some (.ref 20)] [] (mk s) (encI (v, s)) := by
  unfold r96 at h
  refine Ev.run (pc' := 1) (ls' := [some (.ref 20)]) (st' := [.ref 20]) (h' := mk s) 1 rfl ?_
  refine Ev.call (M' := mm95) (v := some (.int (r95 s))) (h' := mk s) rfl rfl rfl (Nat.le_of_ble_eq_true rfl) (k95  (s := s) (v := r95 s)  rfl) ?_
  refine Ev.run (pc' := 12) (ls' := [some (.ref 20)]) (st' := [.int ((zrem ((r95 s) + (zi 11)) (zi 12)) + (zi 1))]) (h' := mk s) 6 rfl ?_
  subst h
  exact Ev.fin rfl rfl
/-! 94 F$Moment.writeTime(LFormatPress$Piece;I)V -/
def f94  (x2 : Int32) (s : zS) : Option (zS) := if x2 = zi 72 then zb0 (f78 (zI2L (r95 s)) (zi 2) (zi 0) s) (fun s1 => some s1) else if x2 = zi 73 then zb0 (f78 (zI2L (r96 s)) (zi 2) (zi 0) s) (fun s2 => some s2) else if x2 = zi 77 then zb0 (f78 (zI2L (zrem ((s.1 20 1) / (zi 60000)) (zi 60))) (zi 2) (zi 0) s) (fun s3 => some s3) else if x2 = zi 83 then zb0 (f78 (zI2L (zrem ((s.1 20 1) / (zi 1000)) (zi 60))) (zi 2) (zi 0) s) (fun s4 => some s4) else if x2 = zi 107 then zb0 (f78 (zI2L (r95 s)) (zi 1) (zi 0) s) (fun s5 => some s5) else if x2 = zi 108 then zb0 (f78 (zI2L (r96 s)) (zi 1) (zi 0) s) (fun s6 => some s6) else zb0 (f78 (zI2L (zrem (s.1 20 1) (zi 1000))) (zi 3) (zi 0) s) (fun s7 => some s7)
set_option maxRecDepth 100000 in
theorem k94 {X : mX} {D : Nat} {x2 : Int32} {s : zS} {r : zS}  (h : f94 x2 s = some r) : Ev X (D + 2) mm94 0 [some (.ref 20), some (.ref 13), some (.int x2)] [] (mk s) (encV r) := by
  unfold f94 at h
  refine Ev.run (pc' := 1) (ls' := [some (.ref 20), some (.ref 13), some (.int x2)]) (st' := [.int x2]) (h' := mk s) 1 rfl ?_
  by_cases hb : x2 = zi 72
  · have h := (if_pos hb).symm.trans h
    refine Ev.lsw (t := 60) (k := 72) rfl hb (by rfl) ?_
    refine Ev.run (pc' := 62) (ls' := [some (.ref 20), some (.ref 13), some (.int x2)]) (st' := [.ref 20, .ref 13]) (h' := mk s) 2 rfl ?_
    refine Ev.call (M' := mm95) (v := some (.int (r95 s))) (h' := mk s) rfl rfl rfl (Nat.le_of_ble_eq_true rfl) (k95  (s := s) (v := r95 s)  rfl) ?_
    refine Ev.run (pc' := 68) (ls' := [some (.ref 20), some (.ref 13), some (.int x2)]) (st' := [.int (zi 0), .int (zi 2), .long (zI2L (r95 s)), .ref 13]) (h' := mk s) 3 rfl ?_
    obtain ⟨s1, hq, h⟩ := zb0_some h
    refine Ev.call (M' := mm78) (v := none) (h' := mk s1) rfl rfl rfl (Nat.le_of_ble_eq_true rfl) (k78 hq) ?_
    cases h
    exact Ev.fin rfl rfl
  have h := (if_neg hb).symm.trans h
  have n_72 := hb
  clear hb
  by_cases hb : x2 = zi 73
  · have h := (if_pos hb).symm.trans h
    refine Ev.lsw (t := 72) (k := 73) rfl hb (by rfl) ?_
    refine Ev.run (pc' := 74) (ls' := [some (.ref 20), some (.ref 13), some (.int x2)]) (st' := [.ref 20, .ref 13]) (h' := mk s) 2 rfl ?_
    refine Ev.call (M' := mm96) (v := some (.int (r96 s))) (h' := mk s) rfl rfl rfl (Nat.le_of_ble_eq_true rfl) (k96  (s := s) (v := r96 s)  rfl) ?_
    refine Ev.run (pc' := 80) (ls' := [some (.ref 20), some (.ref 13), some (.int x2)]) (st' := [.int (zi 0), .int (zi 2), .long (zI2L (r96 s)), .ref 13]) (h' := mk s) 3 rfl ?_
    obtain ⟨s2, hq, h⟩ := zb0_some h
    refine Ev.call (M' := mm78) (v := none) (h' := mk s2) rfl rfl rfl (Nat.le_of_ble_eq_true rfl) (k78 hq) ?_
    cases h
    exact Ev.fin rfl rfl
  have h := (if_neg hb).symm.trans h
  have n_73 := hb
  clear hb
  by_cases hb : x2 = zi 77
  · have h := (if_pos hb).symm.trans h
    refine Ev.lsw (t := 108) (k := 77) rfl hb (by rfl) ?_
    refine Ev.run (pc' := 122) (ls' := [some (.ref 20), some (.ref 13), some (.int x2)]) (st' := [.int (zi 0), .int (zi 2), .long (zI2L (zrem ((s.1 20 1) / (zi 60000)) (zi 60))), .ref 13]) (h' := mk s) 10 rfl ?_
    obtain ⟨s3, hq, h⟩ := zb0_some h
    refine Ev.call (M' := mm78) (v := none) (h' := mk s3) rfl rfl rfl (Nat.le_of_ble_eq_true rfl) (k78 hq) ?_
    cases h
    exact Ev.fin rfl rfl
  have h := (if_neg hb).symm.trans h
  have n_77 := hb
  clear hb
  by_cases hb : x2 = zi 83
  · have h := (if_pos hb).symm.trans h
    refine Ev.lsw (t := 126) (k := 83) rfl hb (by rfl) ?_
    refine Ev.run (pc' := 141) (ls' := [some (.ref 20), some (.ref 13), some (.int x2)]) (st' := [.int (zi 0), .int (zi 2), .long (zI2L (zrem ((s.1 20 1) / (zi 1000)) (zi 60))), .ref 13]) (h' := mk s) 10 rfl ?_
    obtain ⟨s4, hq, h⟩ := zb0_some h
    refine Ev.call (M' := mm78) (v := none) (h' := mk s4) rfl rfl rfl (Nat.le_of_ble_eq_true rfl) (k78 hq) ?_
    cases h
    exact Ev.fin rfl rfl
  have h := (if_neg hb).symm.trans h
  have n_83 := hb
  clear hb
  by_cases hb : x2 = zi 107
  · have h := (if_pos hb).symm.trans h
    refine Ev.lsw (t := 84) (k := 107) rfl hb (by rfl) ?_
    refine Ev.run (pc' := 86) (ls' := [some (.ref 20), some (.ref 13), some (.int x2)]) (st' := [.ref 20, .ref 13]) (h' := mk s) 2 rfl ?_
    refine Ev.call (M' := mm95) (v := some (.int (r95 s))) (h' := mk s) rfl rfl rfl (Nat.le_of_ble_eq_true rfl) (k95  (s := s) (v := r95 s)  rfl) ?_
    refine Ev.run (pc' := 92) (ls' := [some (.ref 20), some (.ref 13), some (.int x2)]) (st' := [.int (zi 0), .int (zi 1), .long (zI2L (r95 s)), .ref 13]) (h' := mk s) 3 rfl ?_
    obtain ⟨s5, hq, h⟩ := zb0_some h
    refine Ev.call (M' := mm78) (v := none) (h' := mk s5) rfl rfl rfl (Nat.le_of_ble_eq_true rfl) (k78 hq) ?_
    cases h
    exact Ev.fin rfl rfl
  have h := (if_neg hb).symm.trans h
  have n_107 := hb
  clear hb
  by_cases hb : x2 = zi 108
  · have h := (if_pos hb).symm.trans h
    refine Ev.lsw (t := 96) (k := 108) rfl hb (by rfl) ?_
    refine Ev.run (pc' := 98) (ls' := [some (.ref 20), some (.ref 13), some (.int x2)]) (st' := [.ref 20, .ref 13]) (h' := mk s) 2 rfl ?_
    refine Ev.call (M' := mm96) (v := some (.int (r96 s))) (h' := mk s) rfl rfl rfl (Nat.le_of_ble_eq_true rfl) (k96  (s := s) (v := r96 s)  rfl) ?_
    refine Ev.run (pc' := 104) (ls' := [some (.ref 20), some (.ref 13), some (.int x2)]) (st' := [.int (zi 0), .int (zi 1), .long (zI2L (r96 s)), .ref 13]) (h' := mk s) 3 rfl ?_
    obtain ⟨s6, hq, h⟩ := zb0_some h
    refine Ev.call (M' := mm78) (v := none) (h' := mk s6) rfl rfl rfl (Nat.le_of_ble_eq_true rfl) (k78 hq) ?_
    cases h
    exact Ev.fin rfl rfl
  have h := (if_neg hb).symm.trans h
  have n_108 := hb
  clear hb
  refine Ev.lswd (t := 145) rfl (by rfl) (by intro p hp; simp only [List.mem_cons, List.not_mem_nil, or_false] at hp; rcases hp with rfl | rfl | rfl | rfl | rfl | rfl <;> assumption) ?_
  refine Ev.run (pc' := 157) (ls' := [some (.ref 20), some (.ref 13), some (.int x2)]) (st' := [.int (zi 0), .int (zi 3), .long (zI2L (zrem (s.1 20 1) (zi 1000))), .ref 13]) (h' := mk s) 8 rfl ?_
  obtain ⟨s7, hq, h⟩ := zb0_some h
  refine Ev.call (M' := mm78) (v := none) (h' := mk s7) rfl rfl rfl (Nat.le_of_ble_eq_true rfl) (k78 hq) ?_
  cases h
  exact Ev.fin rfl rfl
/-! 91 F$Moment.writeTimes(LFormatPress$Piece;Ljava.lang.String;)V -/
def f91_20 (rec2 : Nat → Int32 → zS → Option (zS)) (c2 : Nat) (x3 : Int32) (s : zS) : Option (zS) := if mIx x3 (zlenN c2) then zb0 (f94 (zchr c2 x3) s) (fun s1 => rec2 c2 (x3 + zi 1) s1) else none
set_option maxRecDepth 100000 in
theorem k91_20 {X : mX} {D : Nat} {rec2 : Nat → Int32 → zS → Option (zS)} (hrec2 : ∀ (c2 : Nat) (x3 : Int32) (s : zS) (r : zS) , c2 < 78 → rec2 c2 x3 s = some r → Ev X (D + 5) mm91 2 [some (.ref 20), some (.ref 13), some (.ref (mRO + 3 + 2 * c2)), some (.int x3)] [] (mk s) (encV r)) (c2 : Nat) (x3 : Int32) (s : zS) (r : zS)  (hc2 : c2 < 78) (h : f91_20 rec2 c2 x3 s = some r) : Ev X (D + 5) mm91 20 [some (.ref 20), some (.ref 13), some (.ref (mRO + 3 + 2 * c2)), some (.int x3)] [] (mk s) (encV r) := by
  unfold f91_20 at h
  refine Ev.run (pc' := 24) (ls' := [some (.ref 20), some (.ref 13), some (.ref (mRO + 3 + 2 * c2)), some (.int x3)]) (st' := [.int x3, .ref (mRO + 3 + 2 * c2), .ref 13, .ref 20]) (h' := mk s) 4 rfl ?_
  obtain ⟨hx, h⟩ := zif h
  refine Ev.call (M' := mm242) (as := [.ref (mRO + 3 + 2 * c2), .int x3]) (rest := [.ref 13, .ref 20]) (v := some (.int (zchr c2 x3))) (h' := mk s) rfl (litcall rfl rfl hc2 rfl rfl) rfl (Nat.le_of_ble_eq_true rfl) (kcharat hc2 hx) ?_
  obtain ⟨s1, hq, h⟩ := zb0_some h
  refine Ev.call (M' := mm94) (v := none) (h' := mk s1) rfl rfl rfl (Nat.le_of_ble_eq_true rfl) (k94 hq) ?_
  refine Ev.run (pc' := 2) (ls' := [some (.ref 20), some (.ref 13), some (.ref (mRO + 3 + 2 * c2)), some (.int (x3 + zi 1))]) (st' := []) (h' := mk s1) 2 rfl ?_
  exact hrec2 c2 (x3 + zi 1) s1 _ hc2 h
def b91_2 (rec2 : Nat → Int32 → zS → Option (zS)) (c2 : Nat) (x3 : Int32) (s : zS) : Option (zS) := if x3 ≥ (zlen c2) then some s else if x3 ≤ zi 0 then f91_20 rec2 c2 x3 s else zb0 (f70 (zi 58) s) (fun s1 => f91_20 rec2 c2 x3 s1)
set_option maxRecDepth 100000 in
theorem kb91_2 {X : mX} {D : Nat} {rec2 : Nat → Int32 → zS → Option (zS)} (hrec2 : ∀ (c2 : Nat) (x3 : Int32) (s : zS) (r : zS) , c2 < 78 → rec2 c2 x3 s = some r → Ev X (D + 5) mm91 2 [some (.ref 20), some (.ref 13), some (.ref (mRO + 3 + 2 * c2)), some (.int x3)] [] (mk s) (encV r)) (c2 : Nat) (x3 : Int32) (s : zS) (r : zS)  (hc2 : c2 < 78) (h : b91_2 rec2 c2 x3 s = some r) : Ev X (D + 5) mm91 2 [some (.ref 20), some (.ref 13), some (.ref (mRO + 3 + 2 * c2)), some (.int x3)] [] (mk s) (encV r) := by
  unfold b91_2 at h
  refine Ev.run (pc' := 4) (ls' := [some (.ref 20), some (.ref 13), some (.ref (mRO + 3 + 2 * c2)), some (.int x3)]) (st' := [.ref (mRO + 3 + 2 * c2), .int x3]) (h' := mk s) 2 rfl ?_
  refine Ev.call (M' := mm241) (as := [.ref (mRO + 3 + 2 * c2)]) (rest := [.int x3]) (v := some (.int (zlen c2))) (h' := mk s) rfl (litcall rfl rfl hc2 rfl rfl) rfl (Nat.le_of_ble_eq_true rfl) (kstrlen hc2) ?_
  refine Ev.icmp_ge (t := 36) rfl rfl (fun hb => ?_) (fun hb => ?_)
  · have h := (if_pos hb).symm.trans h
    cases h
    exact Ev.fin rfl rfl
  · have h := (if_neg hb).symm.trans h
    refine Ev.run (pc' := 11) (ls' := [some (.ref 20), some (.ref 13), some (.ref (mRO + 3 + 2 * c2)), some (.int x3)]) (st' := [.int x3]) (h' := mk s) 1 rfl ?_
    refine Ev.if_le (t := 20) rfl rfl (fun hb => ?_) (fun hb => ?_)
    · have h := (if_pos hb).symm.trans h
      exact k91_20 hrec2 c2 x3 s _ hc2 h
    · have h := (if_neg hb).symm.trans h
      refine Ev.run (pc' := 17) (ls' := [some (.ref 20), some (.ref 13), some (.ref (mRO + 3 + 2 * c2)), some (.int x3)]) (st' := [.int (zi 58), .ref 13]) (h' := mk s) 2 rfl ?_
      obtain ⟨s1, hq, h⟩ := zb0_some h
      refine Ev.call (M' := mm70) (v := none) (h' := mk s1) rfl rfl rfl (Nat.le_of_ble_eq_true rfl) (k70 hq) ?_
      exact k91_20 hrec2 c2 x3 s1 _ hc2 h
def f91_2  : Nat → Nat → Int32 → zS → Option (zS)
  | 0, _, _, _ => none
  | n + 1, c2, x3, s => b91_2 (f91_2 n) c2 x3 s
set_option maxRecDepth 100000 in
theorem k91_2 {X : mX} {D : Nat}   (n : Nat) : ∀ (c2 : Nat) (x3 : Int32) (s : zS) (r : zS) , c2 < 78 → f91_2  n c2 x3 s = some r → Ev X (D + 5) mm91 2 [some (.ref 20), some (.ref 13), some (.ref (mRO + 3 + 2 * c2)), some (.int x3)] [] (mk s) (encV r) := by
  induction n with
  | zero => intro c2 x3 s r  hc2 h; cases h
  | succ n ih => intro c2 x3 s r  hc2 h; exact kb91_2  ih c2 x3 s r  hc2 h
def f91  (c2 : Nat) (s : zS) : Option (zS) := f91_2 zF c2 (zi 0) s
set_option maxRecDepth 100000 in
theorem k91 {X : mX} {D : Nat} {c2 : Nat} {s : zS} {r : zS} (hc2 : c2 < 78) (h : f91 c2 s = some r) : Ev X (D + 5) mm91 0 [some (.ref 20), some (.ref 13), some (.ref (mRO + 3 + 2 * c2)), none] [] (mk s) (encV r) := by
  unfold f91 at h
  refine Ev.run (pc' := 2) (ls' := [some (.ref 20), some (.ref 13), some (.ref (mRO + 3 + 2 * c2)), some (.int (zi 0))]) (st' := []) (h' := mk s) 2 rfl ?_
  exact k91_2 zF c2 (zi 0) s _ hc2 h
/-! 93 F$Moment.writeYear(LFormatPress$Piece;I)V -/
def f93_43   (s : zS) : Option (zS) := zb0 (f78 (s.2.1 20 2) (zi 4) (zi 0) s) (fun s1 => some s1)
set_option maxRecDepth 100000 in
theorem k93_43 {X : mX} {D : Nat}    (s : zS) (r : zS) (o2 : Option Value)  (h : f93_43   s = some r) : Ev X (D + 2) mm93 43 [some (.ref 20), some (.ref 13), o2] [] (mk s) (encV r) := by
  unfold f93_43 at h
  refine Ev.run (pc' := 50) (ls' := [some (.ref 20), some (.ref 13), o2]) (st' := [.int (zi 0), .int (zi 4), .long (s.2.1 20 2), .ref 13]) (h' := mk s) 5 rfl ?_
  obtain ⟨s1, hq, h⟩ := zb0_some h
  refine Ev.call (M' := mm78) (v := none) (h' := mk s1) rfl rfl rfl (Nat.le_of_ble_eq_true rfl) (k78 hq) ?_
  cases h
  exact Ev.fin rfl rfl
def f93  (x2 : Int32) (s : zS) : Option (zS) := if x2 = zi 89 then if (s.2.1 20 2) ≥ (zl 0) then f93_43 s else zb0 (f70 (zi 45) s) (fun s1 => f93_43 s1) else if x2 = zi 121 then zb0 (f78 (zremL (s.2.1 20 2) (zl 100)) (zi 2) (zi 0) s) (fun s2 => some s2) else zb0 (f78 ((s.2.1 20 2) / (zl 100)) (zi 2) (zi 0) s) (fun s3 => some s3)
set_option maxRecDepth 100000 in
theorem k93 {X : mX} {D : Nat} {x2 : Int32} {s : zS} {r : zS}  (h : f93 x2 s = some r) : Ev X (D + 2) mm93 0 [some (.ref 20), some (.ref 13), some (.int x2)] [] (mk s) (encV r) := by
  unfold f93 at h
  refine Ev.run (pc' := 1) (ls' := [some (.ref 20), some (.ref 13), some (.int x2)]) (st' := [.int x2]) (h' := mk s) 1 rfl ?_
  by_cases hb : x2 = zi 89
  · have h := (if_pos hb).symm.trans h
    refine Ev.lsw (t := 28) (k := 89) rfl hb (by rfl) ?_
    refine Ev.run (pc' := 34) (ls' := [some (.ref 20), some (.ref 13), some (.int x2)]) (st' := [.int (lg_cmp (s.2.1 20 2) (zl 0))]) (h' := mk s) 4 rfl ?_
    refine Ev.ifl_ge (t := 43) rfl rfl (fun hb => ?_) (fun hb => ?_)
    · have h := (if_pos hb).symm.trans h
      exact k93_43 s _ _ h
    · have h := (if_neg hb).symm.trans h
      refine Ev.run (pc' := 40) (ls' := [some (.ref 20), some (.ref 13), some (.int x2)]) (st' := [.int (zi 45), .ref 13]) (h' := mk s) 2 rfl ?_
      obtain ⟨s1, hq, h⟩ := zb0_some h
      refine Ev.call (M' := mm70) (v := none) (h' := mk s1) rfl rfl rfl (Nat.le_of_ble_eq_true rfl) (k70 hq) ?_
      exact k93_43 s1 _ _ h
  have h := (if_neg hb).symm.trans h
  have n_89 := hb
  clear hb
  by_cases hb : x2 = zi 121
  · have h := (if_pos hb).symm.trans h
    refine Ev.lsw (t := 54) (k := 121) rfl hb (by rfl) ?_
    refine Ev.run (pc' := 65) (ls' := [some (.ref 20), some (.ref 13), some (.int x2)]) (st' := [.int (zi 0), .int (zi 2), .long (zremL (s.2.1 20 2) (zl 100)), .ref 13]) (h' := mk s) 7 rfl ?_
    obtain ⟨s2, hq, h⟩ := zb0_some h
    refine Ev.call (M' := mm78) (v := none) (h' := mk s2) rfl rfl rfl (Nat.le_of_ble_eq_true rfl) (k78 hq) ?_
    cases h
    exact Ev.fin rfl rfl
  have h := (if_neg hb).symm.trans h
  have n_121 := hb
  clear hb
  refine Ev.lswd (t := 69) rfl (by rfl) (by intro p hp; simp only [List.mem_cons, List.not_mem_nil, or_false] at hp; rcases hp with rfl | rfl <;> assumption) ?_
  refine Ev.run (pc' := 80) (ls' := [some (.ref 20), some (.ref 13), some (.int x2)]) (st' := [.int (zi 0), .int (zi 2), .long ((s.2.1 20 2) / (zl 100)), .ref 13]) (h' := mk s) 7 rfl ?_
  obtain ⟨s3, hq, h⟩ := zb0_some h
  refine Ev.call (M' := mm78) (v := none) (h' := mk s3) rfl rfl rfl (Nat.le_of_ble_eq_true rfl) (k78 hq) ?_
  cases h
  exact Ev.fin rfl rfl
/-! 97 F$Moment.monthName()Ljava.lang.String; -/
def r97  (s : zS) : Nat := if (s.1 20 3) = zi 1 then 29 else if (s.1 20 3) = zi 2 then 30 else if (s.1 20 3) = zi 3 then 31 else if (s.1 20 3) = zi 4 then 32 else if (s.1 20 3) = zi 5 then 33 else if (s.1 20 3) = zi 6 then 34 else if (s.1 20 3) = zi 7 then 35 else if (s.1 20 3) = zi 8 then 36 else if (s.1 20 3) = zi 9 then 37 else if (s.1 20 3) = zi 10 then 38 else if (s.1 20 3) = zi 11 then 39 else 40
set_option maxRecDepth 100000 in
theorem k97 {X : mX} {D : Nat}  {s : zS} {v : Nat} (h : r97  s = v) : Ev X D mm97 0 [some (.ref 20)] [] (mk s) (encR (v, s)) := by
  unfold r97 at h
  refine Ev.run (pc' := 4) (ls' := [some (.ref 20)]) (st' := [.int (s.1 20 3)]) (h' := mk s) 2 rfl ?_
  by_cases hb : (s.1 20 3) = zi 1
  · have h := (if_pos hb).symm.trans h
    refine Ev.tsw (t := 64) (k := 1) rfl hb (by rfl) ?_
    refine Ev.run (pc' := 66) (ls' := [some (.ref 20)]) (st' := [.ref (mRO + 3 + 2 * 29)]) (h' := mk s) 1 rfl ?_
    subst h
    exact Ev.fin rfl rfl
  have h := (if_neg hb).symm.trans h
  have n_1 := hb
  clear hb
  by_cases hb : (s.1 20 3) = zi 2
  · have h := (if_pos hb).symm.trans h
    refine Ev.tsw (t := 67) (k := 2) rfl hb (by rfl) ?_
    refine Ev.run (pc' := 69) (ls' := [some (.ref 20)]) (st' := [.ref (mRO + 3 + 2 * 30)]) (h' := mk s) 1 rfl ?_
    subst h
    exact Ev.fin rfl rfl
  have h := (if_neg hb).symm.trans h
  have n_2 := hb
  clear hb
  by_cases hb : (s.1 20 3) = zi 3
  · have h := (if_pos hb).symm.trans h
    refine Ev.tsw (t := 70) (k := 3) rfl hb (by rfl) ?_
    refine Ev.run (pc' := 72) (ls' := [some (.ref 20)]) (st' := [.ref (mRO + 3 + 2 * 31)]) (h' := mk s) 1 rfl ?_
    subst h
    exact Ev.fin rfl rfl
  have h := (if_neg hb).symm.trans h
  have n_3 := hb
  clear hb
  by_cases hb : (s.1 20 3) = zi 4
  · have h := (if_pos hb).symm.trans h
    refine Ev.tsw (t := 73) (k := 4) rfl hb (by rfl) ?_
    refine Ev.run (pc' := 75) (ls' := [some (.ref 20)]) (st' := [.ref (mRO + 3 + 2 * 32)]) (h' := mk s) 1 rfl ?_
    subst h
    exact Ev.fin rfl rfl
  have h := (if_neg hb).symm.trans h
  have n_4 := hb
  clear hb
  by_cases hb : (s.1 20 3) = zi 5
  · have h := (if_pos hb).symm.trans h
    refine Ev.tsw (t := 76) (k := 5) rfl hb (by rfl) ?_
    refine Ev.run (pc' := 78) (ls' := [some (.ref 20)]) (st' := [.ref (mRO + 3 + 2 * 33)]) (h' := mk s) 1 rfl ?_
    subst h
    exact Ev.fin rfl rfl
  have h := (if_neg hb).symm.trans h
  have n_5 := hb
  clear hb
  by_cases hb : (s.1 20 3) = zi 6
  · have h := (if_pos hb).symm.trans h
    refine Ev.tsw (t := 79) (k := 6) rfl hb (by rfl) ?_
    refine Ev.run (pc' := 81) (ls' := [some (.ref 20)]) (st' := [.ref (mRO + 3 + 2 * 34)]) (h' := mk s) 1 rfl ?_
    subst h
    exact Ev.fin rfl rfl
  have h := (if_neg hb).symm.trans h
  have n_6 := hb
  clear hb
  by_cases hb : (s.1 20 3) = zi 7
  · have h := (if_pos hb).symm.trans h
    refine Ev.tsw (t := 82) (k := 7) rfl hb (by rfl) ?_
    refine Ev.run (pc' := 84) (ls' := [some (.ref 20)]) (st' := [.ref (mRO + 3 + 2 * 35)]) (h' := mk s) 1 rfl ?_
    subst h
    exact Ev.fin rfl rfl
  have h := (if_neg hb).symm.trans h
  have n_7 := hb
  clear hb
  by_cases hb : (s.1 20 3) = zi 8
  · have h := (if_pos hb).symm.trans h
    refine Ev.tsw (t := 85) (k := 8) rfl hb (by rfl) ?_
    refine Ev.run (pc' := 87) (ls' := [some (.ref 20)]) (st' := [.ref (mRO + 3 + 2 * 36)]) (h' := mk s) 1 rfl ?_
    subst h
    exact Ev.fin rfl rfl
  have h := (if_neg hb).symm.trans h
  have n_8 := hb
  clear hb
  by_cases hb : (s.1 20 3) = zi 9
  · have h := (if_pos hb).symm.trans h
    refine Ev.tsw (t := 88) (k := 9) rfl hb (by rfl) ?_
    refine Ev.run (pc' := 90) (ls' := [some (.ref 20)]) (st' := [.ref (mRO + 3 + 2 * 37)]) (h' := mk s) 1 rfl ?_
    subst h
    exact Ev.fin rfl rfl
  have h := (if_neg hb).symm.trans h
  have n_9 := hb
  clear hb
  by_cases hb : (s.1 20 3) = zi 10
  · have h := (if_pos hb).symm.trans h
    refine Ev.tsw (t := 91) (k := 10) rfl hb (by rfl) ?_
    refine Ev.run (pc' := 93) (ls' := [some (.ref 20)]) (st' := [.ref (mRO + 3 + 2 * 38)]) (h' := mk s) 1 rfl ?_
    subst h
    exact Ev.fin rfl rfl
  have h := (if_neg hb).symm.trans h
  have n_10 := hb
  clear hb
  by_cases hb : (s.1 20 3) = zi 11
  · have h := (if_pos hb).symm.trans h
    refine Ev.tsw (t := 94) (k := 11) rfl hb (by rfl) ?_
    refine Ev.run (pc' := 96) (ls' := [some (.ref 20)]) (st' := [.ref (mRO + 3 + 2 * 39)]) (h' := mk s) 1 rfl ?_
    subst h
    exact Ev.fin rfl rfl
  have h := (if_neg hb).symm.trans h
  have n_11 := hb
  clear hb
  refine Ev.tswd (t := 97) rfl (by rfl) (by decide) (fun q hq hx => ?_) ?_
  · have hq : q < 11 := hq
    have hq2 : q = 0 ∨ q = 1 ∨ q = 2 ∨ q = 3 ∨ q = 4 ∨ q = 5 ∨ q = 6 ∨ q = 7 ∨ q = 8 ∨ q = 9 ∨ q = 10 := by omega
    rcases hq2 with rfl | rfl | rfl | rfl | rfl | rfl | rfl | rfl | rfl | rfl | rfl
    · exact absurd (zi_of_toInt hx) n_1
    · exact absurd (zi_of_toInt hx) n_2
    · exact absurd (zi_of_toInt hx) n_3
    · exact absurd (zi_of_toInt hx) n_4
    · exact absurd (zi_of_toInt hx) n_5
    · exact absurd (zi_of_toInt hx) n_6
    · exact absurd (zi_of_toInt hx) n_7
    · exact absurd (zi_of_toInt hx) n_8
    · exact absurd (zi_of_toInt hx) n_9
    · exact absurd (zi_of_toInt hx) n_10
    · exact absurd (zi_of_toInt hx) n_11
  · refine Ev.run (pc' := 99) (ls' := [some (.ref 20)]) (st' := [.ref (mRO + 3 + 2 * 40)]) (h' := mk s) 1 rfl ?_
    subst h
    exact Ev.fin rfl rfl
theorem r97_lt {s : zS} : r97 s < 78 := by
  unfold r97
  repeat' split
  all_goals decide
/-! 98 F$Moment.dayName()Ljava.lang.String; -/
def r98  (s : zS) : Nat := if (s.1 20 6) = zi 0 then 41 else if (s.1 20 6) = zi 1 then 42 else if (s.1 20 6) = zi 2 then 43 else if (s.1 20 6) = zi 3 then 44 else if (s.1 20 6) = zi 4 then 45 else if (s.1 20 6) = zi 5 then 46 else 47
set_option maxRecDepth 100000 in
theorem k98 {X : mX} {D : Nat}  {s : zS} {v : Nat} (h : r98  s = v) : Ev X D mm98 0 [some (.ref 20)] [] (mk s) (encR (v, s)) := by
  unfold r98 at h
  refine Ev.run (pc' := 4) (ls' := [some (.ref 20)]) (st' := [.int (s.1 20 6)]) (h' := mk s) 2 rfl ?_
  by_cases hb : (s.1 20 6) = zi 0
  · have h := (if_pos hb).symm.trans h
    refine Ev.tsw (t := 44) (k := 0) rfl hb (by rfl) ?_
    refine Ev.run (pc' := 46) (ls' := [some (.ref 20)]) (st' := [.ref (mRO + 3 + 2 * 41)]) (h' := mk s) 1 rfl ?_
    subst h
    exact Ev.fin rfl rfl
  have h := (if_neg hb).symm.trans h
  have n_0 := hb
  clear hb
  by_cases hb : (s.1 20 6) = zi 1
  · have h := (if_pos hb).symm.trans h
    refine Ev.tsw (t := 47) (k := 1) rfl hb (by rfl) ?_
    refine Ev.run (pc' := 49) (ls' := [some (.ref 20)]) (st' := [.ref (mRO + 3 + 2 * 42)]) (h' := mk s) 1 rfl ?_
    subst h
    exact Ev.fin rfl rfl
  have h := (if_neg hb).symm.trans h
  have n_1 := hb
  clear hb
  by_cases hb : (s.1 20 6) = zi 2
  · have h := (if_pos hb).symm.trans h
    refine Ev.tsw (t := 50) (k := 2) rfl hb (by rfl) ?_
    refine Ev.run (pc' := 52) (ls' := [some (.ref 20)]) (st' := [.ref (mRO + 3 + 2 * 43)]) (h' := mk s) 1 rfl ?_
    subst h
    exact Ev.fin rfl rfl
  have h := (if_neg hb).symm.trans h
  have n_2 := hb
  clear hb
  by_cases hb : (s.1 20 6) = zi 3
  · have h := (if_pos hb).symm.trans h
    refine Ev.tsw (t := 53) (k := 3) rfl hb (by rfl) ?_
    refine Ev.run (pc' := 55) (ls' := [some (.ref 20)]) (st' := [.ref (mRO + 3 + 2 * 44)]) (h' := mk s) 1 rfl ?_
    subst h
    exact Ev.fin rfl rfl
  have h := (if_neg hb).symm.trans h
  have n_3 := hb
  clear hb
  by_cases hb : (s.1 20 6) = zi 4
  · have h := (if_pos hb).symm.trans h
    refine Ev.tsw (t := 56) (k := 4) rfl hb (by rfl) ?_
    refine Ev.run (pc' := 58) (ls' := [some (.ref 20)]) (st' := [.ref (mRO + 3 + 2 * 45)]) (h' := mk s) 1 rfl ?_
    subst h
    exact Ev.fin rfl rfl
  have h := (if_neg hb).symm.trans h
  have n_4 := hb
  clear hb
  by_cases hb : (s.1 20 6) = zi 5
  · have h := (if_pos hb).symm.trans h
    refine Ev.tsw (t := 59) (k := 5) rfl hb (by rfl) ?_
    refine Ev.run (pc' := 61) (ls' := [some (.ref 20)]) (st' := [.ref (mRO + 3 + 2 * 46)]) (h' := mk s) 1 rfl ?_
    subst h
    exact Ev.fin rfl rfl
  have h := (if_neg hb).symm.trans h
  have n_5 := hb
  clear hb
  refine Ev.tswd (t := 62) rfl (by rfl) (by decide) (fun q hq hx => ?_) ?_
  · have hq : q < 6 := hq
    have hq2 : q = 0 ∨ q = 1 ∨ q = 2 ∨ q = 3 ∨ q = 4 ∨ q = 5 := by omega
    rcases hq2 with rfl | rfl | rfl | rfl | rfl | rfl
    · exact absurd (zi_of_toInt hx) n_0
    · exact absurd (zi_of_toInt hx) n_1
    · exact absurd (zi_of_toInt hx) n_2
    · exact absurd (zi_of_toInt hx) n_3
    · exact absurd (zi_of_toInt hx) n_4
    · exact absurd (zi_of_toInt hx) n_5
  · refine Ev.run (pc' := 64) (ls' := [some (.ref 20)]) (st' := [.ref (mRO + 3 + 2 * 47)]) (h' := mk s) 1 rfl ?_
    subst h
    exact Ev.fin rfl rfl
theorem r98_lt {s : zS} : r98 s < 78 := by
  unfold r98
  repeat' split
  all_goals decide
/-! 92 F$Moment.writePart(LFormatPress$Piece;I)V -/
def f92_354  (d1 : Nat) (s : zS) : Option (zS) := zb0 (f71 d1 s) (fun s1 => some s1)
set_option maxRecDepth 100000 in
theorem k92_354 {X : mX} {D : Nat}   (d1 : Nat) (s : zS) (r : zS) (o0 : Option Value) (o1 : Option Value) (o2 : Option Value) (hd1 : d1 < 78) (h : f92_354  d1 s = some r) : Ev X (D + 7) mm92 354 [o0, o1, o2] [.ref (mRO + 3 + 2 * d1), .ref 13] (mk s) (encV r) := by
  unfold f92_354 at h
  obtain ⟨s1, hq, h⟩ := zb0_some h
  refine Ev.call (M' := mm71) (v := none) (h' := mk s1) rfl rfl rfl (Nat.le_of_ble_eq_true rfl) (k71 hd1 hq) ?_
  cases h
  exact Ev.fin rfl rfl
def f92  (x2 : Int32) (s : zS) : Option (zS) := if x2 = zi 65 then zb0 (f71 (r98 s) s) (fun s1 => some s1) else if x2 = zi 66 then zb0 (f71 (r97 s) s) (fun s2 => some s2) else if x2 = zi 67 ∨ x2 = zi 89 ∨ x2 = zi 121 then zb0 (f93 x2 s) (fun s3 => some s3) else if x2 = zi 81 then zb0 (f79 (s.2.1 20 0) s) (fun s4 => some s4) else if x2 = zi 97 then zb0 (f72 (r98 s) (zi 3) s) (fun s5 => some s5) else if x2 = zi 98 then zb0 (f72 (r97 s) (zi 3) s) (fun s6 => some s6) else if x2 = zi 100 then zb0 (f78 (zI2L (s.1 20 4)) (zi 2) (zi 0) s) (fun s7 => some s7) else if x2 = zi 101 then zb0 (f78 (zI2L (s.1 20 4)) (zi 1) (zi 0) s) (fun s8 => some s8) else if x2 = zi 106 then zb0 (f78 (zI2L (s.1 20 5)) (zi 3) (zi 0) s) (fun s9 => some s9) else if x2 = zi 109 then zb0 (f78 (zI2L (s.1 20 3)) (zi 2) (zi 0) s) (fun s10 => some s10) else if x2 = zi 112 then if (r95 s) ≥ (zi 12) then f92_354 49 s else f92_354 48 s else if x2 = zi 115 then zb1 (f261 (s.2.1 20 0) (zl 1000) s) (fun v12 s11 => zb0 (f79 v12 s11) (fun s13 => some s13)) else zb0 (f94 x2 s) (fun s14 => some s14)
set_option maxRecDepth 100000 in
theorem k92 {X : mX} {D : Nat} {x2 : Int32} {s : zS} {r : zS}  (h : f92 x2 s = some r) : Ev X (D + 7) mm92 0 [some (.ref 20), some (.ref 13), some (.int x2)] [] (mk s) (encV r) := by
  unfold f92 at h
  refine Ev.run (pc' := 1) (ls' := [some (.ref 20), some (.ref 13), some (.int x2)]) (st' := [.int x2]) (h' := mk s) 1 rfl ?_
  by_cases hb : x2 = zi 65
  · have h := (if_pos hb).symm.trans h
    refine Ev.tsw (t := 318) (k := 65) rfl hb (by rfl) ?_
    refine Ev.run (pc' := 320) (ls' := [some (.ref 20), some (.ref 13), some (.int x2)]) (st' := [.ref 20, .ref 13]) (h' := mk s) 2 rfl ?_
    refine Ev.call (M' := mm98) (v := some (.ref (mRO + 3 + 2 * (r98 s)))) (h' := mk s) rfl rfl rfl (Nat.le_of_ble_eq_true rfl) (k98  (s := s) (v := r98 s)  rfl) ?_
    obtain ⟨s1, hq, h⟩ := zb0_some h
    refine Ev.call (M' := mm71) (v := none) (h' := mk s1) rfl rfl rfl (Nat.le_of_ble_eq_true rfl) (k71 (r98_lt) hq) ?_
    cases h
    exact Ev.fin rfl rfl
  have h := (if_neg hb).symm.trans h
  have n_65 := hb
  clear hb
  by_cases hb : x2 = zi 66
  · have h := (if_pos hb).symm.trans h
    refine Ev.tsw (t := 299) (k := 66) rfl hb (by rfl) ?_
    refine Ev.run (pc' := 301) (ls' := [some (.ref 20), some (.ref 13), some (.int x2)]) (st' := [.ref 20, .ref 13]) (h' := mk s) 2 rfl ?_
    refine Ev.call (M' := mm97) (v := some (.ref (mRO + 3 + 2 * (r97 s)))) (h' := mk s) rfl rfl rfl (Nat.le_of_ble_eq_true rfl) (k97  (s := s) (v := r97 s)  rfl) ?_
    obtain ⟨s2, hq, h⟩ := zb0_some h
    refine Ev.call (M' := mm71) (v := none) (h' := mk s2) rfl rfl rfl (Nat.le_of_ble_eq_true rfl) (k71 (r97_lt) hq) ?_
    cases h
    exact Ev.fin rfl rfl
  have h := (if_neg hb).symm.trans h
  have n_66 := hb
  clear hb
  by_cases hb : x2 = zi 67 ∨ x2 = zi 89 ∨ x2 = zi 121
  · have h := (if_pos hb).symm.trans h
    refine Ev.tswx (t := 244) rfl (by rcases hb with hb | hb | hb <;> (rw [hb]; rfl)) ?_
    refine Ev.run (pc' := 247) (ls' := [some (.ref 20), some (.ref 13), some (.int x2)]) (st' := [.int x2, .ref 13, .ref 20]) (h' := mk s) 3 rfl ?_
    obtain ⟨s3, hq, h⟩ := zb0_some h
    refine Ev.call (M' := mm93) (v := none) (h' := mk s3) rfl rfl rfl (Nat.le_of_ble_eq_true rfl) (k93 hq) ?_
    cases h
    exact Ev.fin rfl rfl
  have h := (if_neg hb).symm.trans h
  have n_67 := (not_or.mp hb).1
  have hb := (not_or.mp hb).2
  have n_89 := (not_or.mp hb).1
  have hb := (not_or.mp hb).2
  have n_121 := hb
  clear hb
  by_cases hb : x2 = zi 81
  · have h := (if_pos hb).symm.trans h
    refine Ev.tsw (t := 373) (k := 81) rfl hb (by rfl) ?_
    refine Ev.run (pc' := 378) (ls' := [some (.ref 20), some (.ref 13), some (.int x2)]) (st' := [.long (s.2.1 20 0), .ref 13]) (h' := mk s) 3 rfl ?_
    obtain ⟨s4, hq, h⟩ := zb0_some h
    refine Ev.call (M' := mm79) (v := none) (h' := mk s4) rfl rfl rfl (Nat.le_of_ble_eq_true rfl) (k79 hq) ?_
    cases h
    exact Ev.fin rfl rfl
  have h := (if_neg hb).symm.trans h
  have n_81 := hb
  clear hb
  by_cases hb : x2 = zi 97
  · have h := (if_pos hb).symm.trans h
    refine Ev.tsw (t := 327) (k := 97) rfl hb (by rfl) ?_
    refine Ev.run (pc' := 329) (ls' := [some (.ref 20), some (.ref 13), some (.int x2)]) (st' := [.ref 20, .ref 13]) (h' := mk s) 2 rfl ?_
    refine Ev.call (M' := mm98) (v := some (.ref (mRO + 3 + 2 * (r98 s)))) (h' := mk s) rfl rfl rfl (Nat.le_of_ble_eq_true rfl) (k98  (s := s) (v := r98 s)  rfl) ?_
    refine Ev.run (pc' := 333) (ls' := [some (.ref 20), some (.ref 13), some (.int x2)]) (st' := [.int (zi 3), .ref (mRO + 3 + 2 * (r98 s)), .ref 13]) (h' := mk s) 1 rfl ?_
    obtain ⟨s5, hq, h⟩ := zb0_some h
    refine Ev.call (M' := mm72) (v := none) (h' := mk s5) rfl rfl rfl (Nat.le_of_ble_eq_true rfl) (k72 (r98_lt) hq) ?_
    cases h
    exact Ev.fin rfl rfl
  have h := (if_neg hb).symm.trans h
  have n_97 := hb
  clear hb
  by_cases hb : x2 = zi 98
  · have h := (if_pos hb).symm.trans h
    refine Ev.tsw (t := 308) (k := 98) rfl hb (by rfl) ?_
    refine Ev.run (pc' := 310) (ls' := [some (.ref 20), some (.ref 13), some (.int x2)]) (st' := [.ref 20, .ref 13]) (h' := mk s) 2 rfl ?_
    refine Ev.call (M' := mm97) (v := some (.ref (mRO + 3 + 2 * (r97 s)))) (h' := mk s) rfl rfl rfl (Nat.le_of_ble_eq_true rfl) (k97  (s := s) (v := r97 s)  rfl) ?_
    refine Ev.run (pc' := 314) (ls' := [some (.ref 20), some (.ref 13), some (.int x2)]) (st' := [.int (zi 3), .ref (mRO + 3 + 2 * (r97 s)), .ref 13]) (h' := mk s) 1 rfl ?_
    obtain ⟨s6, hq, h⟩ := zb0_some h
    refine Ev.call (M' := mm72) (v := none) (h' := mk s6) rfl rfl rfl (Nat.le_of_ble_eq_true rfl) (k72 (r97_lt) hq) ?_
    cases h
    exact Ev.fin rfl rfl
  have h := (if_neg hb).symm.trans h
  have n_98 := hb
  clear hb
  by_cases hb : x2 = zi 100
  · have h := (if_pos hb).symm.trans h
    refine Ev.tsw (t := 263) (k := 100) rfl hb (by rfl) ?_
    refine Ev.run (pc' := 271) (ls' := [some (.ref 20), some (.ref 13), some (.int x2)]) (st' := [.int (zi 0), .int (zi 2), .long (zI2L (s.1 20 4)), .ref 13]) (h' := mk s) 6 rfl ?_
    obtain ⟨s7, hq, h⟩ := zb0_some h
    refine Ev.call (M' := mm78) (v := none) (h' := mk s7) rfl rfl rfl (Nat.le_of_ble_eq_true rfl) (k78 hq) ?_
    cases h
    exact Ev.fin rfl rfl
  have h := (if_neg hb).symm.trans h
  have n_100 := hb
  clear hb
  by_cases hb : x2 = zi 101
  · have h := (if_pos hb).symm.trans h
    refine Ev.tsw (t := 275) (k := 101) rfl hb (by rfl) ?_
    refine Ev.run (pc' := 283) (ls' := [some (.ref 20), some (.ref 13), some (.int x2)]) (st' := [.int (zi 0), .int (zi 1), .long (zI2L (s.1 20 4)), .ref 13]) (h' := mk s) 6 rfl ?_
    obtain ⟨s8, hq, h⟩ := zb0_some h
    refine Ev.call (M' := mm78) (v := none) (h' := mk s8) rfl rfl rfl (Nat.le_of_ble_eq_true rfl) (k78 hq) ?_
    cases h
    exact Ev.fin rfl rfl
  have h := (if_neg hb).symm.trans h
  have n_101 := hb
  clear hb
  by_cases hb : x2 = zi 106
  · have h := (if_pos hb).symm.trans h
    refine Ev.tsw (t := 287) (k := 106) rfl hb (by rfl) ?_
    refine Ev.run (pc' := 295) (ls' := [some (.ref 20), some (.ref 13), some (.int x2)]) (st' := [.int (zi 0), .int (zi 3), .long (zI2L (s.1 20 5)), .ref 13]) (h' := mk s) 6 rfl ?_
    obtain ⟨s9, hq, h⟩ := zb0_some h
    refine Ev.call (M' := mm78) (v := none) (h' := mk s9) rfl rfl rfl (Nat.le_of_ble_eq_true rfl) (k78 hq) ?_
    cases h
    exact Ev.fin rfl rfl
  have h := (if_neg hb).symm.trans h
  have n_106 := hb
  clear hb
  by_cases hb : x2 = zi 109
  · have h := (if_pos hb).symm.trans h
    refine Ev.tsw (t := 251) (k := 109) rfl hb (by rfl) ?_
    refine Ev.run (pc' := 259) (ls' := [some (.ref 20), some (.ref 13), some (.int x2)]) (st' := [.int (zi 0), .int (zi 2), .long (zI2L (s.1 20 3)), .ref 13]) (h' := mk s) 6 rfl ?_
    obtain ⟨s10, hq, h⟩ := zb0_some h
    refine Ev.call (M' := mm78) (v := none) (h' := mk s10) rfl rfl rfl (Nat.le_of_ble_eq_true rfl) (k78 hq) ?_
    cases h
    exact Ev.fin rfl rfl
  have h := (if_neg hb).symm.trans h
  have n_109 := hb
  clear hb
  by_cases hb : x2 = zi 112
  · have h := (if_pos hb).symm.trans h
    refine Ev.tsw (t := 337) (k := 112) rfl hb (by rfl) ?_
    refine Ev.run (pc' := 339) (ls' := [some (.ref 20), some (.ref 13), some (.int x2)]) (st' := [.ref 20, .ref 13]) (h' := mk s) 2 rfl ?_
    refine Ev.call (M' := mm95) (v := some (.int (r95 s))) (h' := mk s) rfl rfl rfl (Nat.le_of_ble_eq_true rfl) (k95  (s := s) (v := r95 s)  rfl) ?_
    refine Ev.run (pc' := 344) (ls' := [some (.ref 20), some (.ref 13), some (.int x2)]) (st' := [.int (zi 12), .int (r95 s), .ref 13]) (h' := mk s) 1 rfl ?_
    refine Ev.icmp_ge (t := 352) rfl rfl (fun hb => ?_) (fun hb => ?_)
    · have h := (if_pos hb).symm.trans h
      refine Ev.run (pc' := 354) (ls' := [some (.ref 20), some (.ref 13), some (.int x2)]) (st' := [.ref (mRO + 3 + 2 * 49), .ref 13]) (h' := mk s) 1 rfl ?_
      exact k92_354 49 s _ _ _ _ (by decide) h
    · have h := (if_neg hb).symm.trans h
      refine Ev.run (pc' := 354) (ls' := [some (.ref 20), some (.ref 13), some (.int x2)]) (st' := [.ref (mRO + 3 + 2 * 48), .ref 13]) (h' := mk s) 2 rfl ?_
      exact k92_354 48 s _ _ _ _ (by decide) h
  have h := (if_neg hb).symm.trans h
  have n_112 := hb
  clear hb
  by_cases hb : x2 = zi 115
  · have h := (if_pos hb).symm.trans h
    refine Ev.tsw (t := 358) (k := 115) rfl hb (by rfl) ?_
    refine Ev.run (pc' := 366) (ls' := [some (.ref 20), some (.ref 13), some (.int x2)]) (st' := [.long (zl 1000), .long (s.2.1 20 0), .ref 13]) (h' := mk s) 4 rfl ?_
    obtain ⟨v12, s11, hq, h⟩ := zb1_some h
    refine Ev.call (M' := mm261) (v := some (.long v12)) (h' := mk s11) rfl rfl rfl (Nat.le_of_ble_eq_true rfl) (k261 hq) ?_
    obtain ⟨s13, hq, h⟩ := zb0_some h
    refine Ev.call (M' := mm79) (v := none) (h' := mk s13) rfl rfl rfl (Nat.le_of_ble_eq_true rfl) (k79 hq) ?_
    cases h
    exact Ev.fin rfl rfl
  have h := (if_neg hb).symm.trans h
  have n_115 := hb
  clear hb
  refine Ev.tswd (t := 382) rfl (by rfl) (by decide) (fun q hq hx => ?_) ?_
  · have hq : q < 57 := hq
    have hq2 : q = 0 ∨ q = 1 ∨ q = 2 ∨ q = 3 ∨ q = 4 ∨ q = 5 ∨ q = 6 ∨ q = 7 ∨ q = 8 ∨ q = 9 ∨ q = 10 ∨ q = 11 ∨ q = 12 ∨ q = 13 ∨ q = 14 ∨ q = 15 ∨ q = 16 ∨ q = 17 ∨ q = 18 ∨ q = 19 ∨ q = 20 ∨ q = 21 ∨ q = 22 ∨ q = 23 ∨ q = 24 ∨ q = 25 ∨ q = 26 ∨ q = 27 ∨ q = 28 ∨ q = 29 ∨ q = 30 ∨ q = 31 ∨ q = 32 ∨ q = 33 ∨ q = 34 ∨ q = 35 ∨ q = 36 ∨ q = 37 ∨ q = 38 ∨ q = 39 ∨ q = 40 ∨ q = 41 ∨ q = 42 ∨ q = 43 ∨ q = 44 ∨ q = 45 ∨ q = 46 ∨ q = 47 ∨ q = 48 ∨ q = 49 ∨ q = 50 ∨ q = 51 ∨ q = 52 ∨ q = 53 ∨ q = 54 ∨ q = 55 ∨ q = 56 := by omega
    rcases hq2 with rfl | rfl | rfl | rfl | rfl | rfl | rfl | rfl | rfl | rfl | rfl | rfl | rfl | rfl | rfl | rfl | rfl | rfl | rfl | rfl | rfl | rfl | rfl | rfl | rfl | rfl | rfl | rfl | rfl | rfl | rfl | rfl | rfl | rfl | rfl | rfl | rfl | rfl | rfl | rfl | rfl | rfl | rfl | rfl | rfl | rfl | rfl | rfl | rfl | rfl | rfl | rfl | rfl | rfl | rfl | rfl | rfl
    · exact absurd (zi_of_toInt hx) n_65
    · exact absurd (zi_of_toInt hx) n_66
    · exact absurd (zi_of_toInt hx) n_67
    · exact ⟨_, rfl, rfl⟩
    · exact ⟨_, rfl, rfl⟩
    · exact ⟨_, rfl, rfl⟩
    · exact ⟨_, rfl, rfl⟩
    · exact ⟨_, rfl, rfl⟩
    · exact ⟨_, rfl, rfl⟩
    · exact ⟨_, rfl, rfl⟩
    · exact ⟨_, rfl, rfl⟩
    · exact ⟨_, rfl, rfl⟩
    · exact ⟨_, rfl, rfl⟩
    · exact ⟨_, rfl, rfl⟩
    · exact ⟨_, rfl, rfl⟩
    · exact ⟨_, rfl, rfl⟩
    · exact absurd (zi_of_toInt hx) n_81
    · exact ⟨_, rfl, rfl⟩
    · exact ⟨_, rfl, rfl⟩
    · exact ⟨_, rfl, rfl⟩
    · exact ⟨_, rfl, rfl⟩
    · exact ⟨_, rfl, rfl⟩
    · exact ⟨_, rfl, rfl⟩
    · exact ⟨_, rfl, rfl⟩
    · exact absurd (zi_of_toInt hx) n_89
    · exact ⟨_, rfl, rfl⟩
    · exact ⟨_, rfl, rfl⟩
    · exact ⟨_, rfl, rfl⟩
    · exact ⟨_, rfl, rfl⟩
    · exact ⟨_, rfl, rfl⟩
    · exact ⟨_, rfl, rfl⟩
    · exact ⟨_, rfl, rfl⟩
    · exact absurd (zi_of_toInt hx) n_97
    · exact absurd (zi_of_toInt hx) n_98
    · exact ⟨_, rfl, rfl⟩
    · exact absurd (zi_of_toInt hx) n_100
    · exact absurd (zi_of_toInt hx) n_101
    · exact ⟨_, rfl, rfl⟩
    · exact ⟨_, rfl, rfl⟩
    · exact ⟨_, rfl, rfl⟩
    · exact ⟨_, rfl, rfl⟩
    · exact absurd (zi_of_toInt hx) n_106
    · exact ⟨_, rfl, rfl⟩
    · exact ⟨_, rfl, rfl⟩
    · exact absurd (zi_of_toInt hx) n_109
    · exact ⟨_, rfl, rfl⟩
    · exact ⟨_, rfl, rfl⟩
    · exact absurd (zi_of_toInt hx) n_112
    · exact ⟨_, rfl, rfl⟩
    · exact ⟨_, rfl, rfl⟩
    · exact absurd (zi_of_toInt hx) n_115
    · exact ⟨_, rfl, rfl⟩
    · exact ⟨_, rfl, rfl⟩
    · exact ⟨_, rfl, rfl⟩
    · exact ⟨_, rfl, rfl⟩
    · exact ⟨_, rfl, rfl⟩
    · exact absurd (zi_of_toInt hx) n_121
  · refine Ev.run (pc' := 385) (ls' := [some (.ref 20), some (.ref 13), some (.int x2)]) (st' := [.int x2, .ref 13, .ref 20]) (h' := mk s) 3 rfl ?_
    obtain ⟨s14, hq, h⟩ := zb0_some h
    refine Ev.call (M' := mm94) (v := none) (h' := mk s14) rfl rfl rfl (Nat.le_of_ble_eq_true rfl) (k94 hq) ?_
    cases h
    exact Ev.fin rfl rfl
/-! 90 F$Moment.write(LFormatPress$Piece;I)V -/
def f90_92  (d1 : Nat) (s : zS) : Option (zS) := zb0 (f71 d1 s) (fun s1 => some s1)
set_option maxRecDepth 100000 in
theorem k90_92 {X : mX} {D : Nat}   (d1 : Nat) (s : zS) (r : zS) (o0 : Option Value) (o1 : Option Value) (o2 : Option Value) (hd1 : d1 < 78) (h : f90_92  d1 s = some r) : Ev X (D + 8) mm90 92 [o0, o1, o2] [.ref (mRO + 3 + 2 * d1), .ref 13] (mk s) (encV r) := by
  unfold f90_92 at h
  obtain ⟨s1, hq, h⟩ := zb0_some h
  refine Ev.call (M' := mm71) (v := none) (h' := mk s1) rfl rfl rfl (Nat.le_of_ble_eq_true rfl) (k71 hd1 hq) ?_
  cases h
  exact Ev.fin rfl rfl
def f90  (x2 : Int32) (s : zS) : Option (zS) := if x2 = zi 68 then zb0 (f78 (zI2L (s.1 20 3)) (zi 2) (zi 0) s) (fun s1 => zb0 (f70 (zi 47) s1) (fun s2 => zb0 (f78 (zI2L (s2.1 20 4)) (zi 2) (zi 0) s2) (fun s3 => zb0 (f70 (zi 47) s3) (fun s4 => zb0 (f93 (zi 121) s4) (fun s5 => some s5))))) else if x2 = zi 70 then zb0 (f93 (zi 89) s) (fun s6 => zb0 (f70 (zi 45) s6) (fun s7 => zb0 (f78 (zI2L (s7.1 20 3)) (zi 2) (zi 0) s7) (fun s8 => zb0 (f70 (zi 45) s8) (fun s9 => zb0 (f78 (zI2L (s9.1 20 4)) (zi 2) (zi 0) s9) (fun s10 => some s10))))) else if x2 = zi 82 then zb0 (f91 24 s) (fun s11 => some s11) else if x2 = zi 84 then zb0 (f91 25 s) (fun s12 => some s12) else if x2 = zi 114 then zb0 (f91 26 s) (fun s13 => if (r95 s13) ≥ (zi 12) then f90_92 28 s13 else f90_92 27 s13) else zb0 (f92 x2 s) (fun s14 => some s14)
set_option maxRecDepth 100000 in
theorem k90 {X : mX} {D : Nat} {x2 : Int32} {s : zS} {r : zS}  (h : f90 x2 s = some r) : Ev X (D + 8) mm90 0 [some (.ref 20), some (.ref 13), some (.int x2)] [] (mk s) (encV r) := by
  unfold f90 at h
  refine Ev.run (pc' := 1) (ls' := [some (.ref 20), some (.ref 13), some (.int x2)]) (st' := [.int x2]) (h' := mk s) 1 rfl ?_
  by_cases hb : x2 = zi 68
  · have h := (if_pos hb).symm.trans h
    refine Ev.lsw (t := 96) (k := 68) rfl hb (by rfl) ?_
    refine Ev.run (pc' := 104) (ls' := [some (.ref 20), some (.ref 13), some (.int x2)]) (st' := [.int (zi 0), .int (zi 2), .long (zI2L (s.1 20 3)), .ref 13]) (h' := mk s) 6 rfl ?_
    obtain ⟨s1, hq, h⟩ := zb0_some h
    refine Ev.call (M' := mm78) (v := none) (h' := mk s1) rfl rfl rfl (Nat.le_of_ble_eq_true rfl) (k78 hq) ?_
    refine Ev.run (pc' := 110) (ls' := [some (.ref 20), some (.ref 13), some (.int x2)]) (st' := [.int (zi 47), .ref 13]) (h' := mk s1) 2 rfl ?_
    obtain ⟨s2, hq, h⟩ := zb0_some h
    refine Ev.call (M' := mm70) (v := none) (h' := mk s2) rfl rfl rfl (Nat.le_of_ble_eq_true rfl) (k70 hq) ?_
    refine Ev.run (pc' := 121) (ls' := [some (.ref 20), some (.ref 13), some (.int x2)]) (st' := [.int (zi 0), .int (zi 2), .long (zI2L (s2.1 20 4)), .ref 13]) (h' := mk s2) 6 rfl ?_
    obtain ⟨s3, hq, h⟩ := zb0_some h
    refine Ev.call (M' := mm78) (v := none) (h' := mk s3) rfl rfl rfl (Nat.le_of_ble_eq_true rfl) (k78 hq) ?_
    refine Ev.run (pc' := 127) (ls' := [some (.ref 20), some (.ref 13), some (.int x2)]) (st' := [.int (zi 47), .ref 13]) (h' := mk s3) 2 rfl ?_
    obtain ⟨s4, hq, h⟩ := zb0_some h
    refine Ev.call (M' := mm70) (v := none) (h' := mk s4) rfl rfl rfl (Nat.le_of_ble_eq_true rfl) (k70 hq) ?_
    refine Ev.run (pc' := 134) (ls' := [some (.ref 20), some (.ref 13), some (.int x2)]) (st' := [.int (zi 121), .ref 13, .ref 20]) (h' := mk s4) 3 rfl ?_
    obtain ⟨s5, hq, h⟩ := zb0_some h
    refine Ev.call (M' := mm93) (v := none) (h' := mk s5) rfl rfl rfl (Nat.le_of_ble_eq_true rfl) (k93 hq) ?_
    cases h
    exact Ev.fin rfl rfl
  have h := (if_neg hb).symm.trans h
  have n_68 := hb
  clear hb
  by_cases hb : x2 = zi 70
  · have h := (if_pos hb).symm.trans h
    refine Ev.lsw (t := 138) (k := 70) rfl hb (by rfl) ?_
    refine Ev.run (pc' := 142) (ls' := [some (.ref 20), some (.ref 13), some (.int x2)]) (st' := [.int (zi 89), .ref 13, .ref 20]) (h' := mk s) 3 rfl ?_
    obtain ⟨s6, hq, h⟩ := zb0_some h
    refine Ev.call (M' := mm93) (v := none) (h' := mk s6) rfl rfl rfl (Nat.le_of_ble_eq_true rfl) (k93 hq) ?_
    refine Ev.run (pc' := 148) (ls' := [some (.ref 20), some (.ref 13), some (.int x2)]) (st' := [.int (zi 45), .ref 13]) (h' := mk s6) 2 rfl ?_
    obtain ⟨s7, hq, h⟩ := zb0_some h
    refine Ev.call (M' := mm70) (v := none) (h' := mk s7) rfl rfl rfl (Nat.le_of_ble_eq_true rfl) (k70 hq) ?_
    refine Ev.run (pc' := 159) (ls' := [some (.ref 20), some (.ref 13), some (.int x2)]) (st' := [.int (zi 0), .int (zi 2), .long (zI2L (s7.1 20 3)), .ref 13]) (h' := mk s7) 6 rfl ?_
    obtain ⟨s8, hq, h⟩ := zb0_some h
    refine Ev.call (M' := mm78) (v := none) (h' := mk s8) rfl rfl rfl (Nat.le_of_ble_eq_true rfl) (k78 hq) ?_
    refine Ev.run (pc' := 165) (ls' := [some (.ref 20), some (.ref 13), some (.int x2)]) (st' := [.int (zi 45), .ref 13]) (h' := mk s8) 2 rfl ?_
    obtain ⟨s9, hq, h⟩ := zb0_some h
    refine Ev.call (M' := mm70) (v := none) (h' := mk s9) rfl rfl rfl (Nat.le_of_ble_eq_true rfl) (k70 hq) ?_
    refine Ev.run (pc' := 176) (ls' := [some (.ref 20), some (.ref 13), some (.int x2)]) (st' := [.int (zi 0), .int (zi 2), .long (zI2L (s9.1 20 4)), .ref 13]) (h' := mk s9) 6 rfl ?_
    obtain ⟨s10, hq, h⟩ := zb0_some h
    refine Ev.call (M' := mm78) (v := none) (h' := mk s10) rfl rfl rfl (Nat.le_of_ble_eq_true rfl) (k78 hq) ?_
    cases h
    exact Ev.fin rfl rfl
  have h := (if_neg hb).symm.trans h
  have n_70 := hb
  clear hb
  by_cases hb : x2 = zi 82
  · have h := (if_pos hb).symm.trans h
    refine Ev.lsw (t := 52) (k := 82) rfl hb (by rfl) ?_
    refine Ev.run (pc' := 56) (ls' := [some (.ref 20), some (.ref 13), some (.int x2)]) (st' := [.ref (mRO + 3 + 2 * 24), .ref 13, .ref 20]) (h' := mk s) 3 rfl ?_
    obtain ⟨s11, hq, h⟩ := zb0_some h
    refine Ev.call (M' := mm91) (v := none) (h' := mk s11) rfl rfl rfl (Nat.le_of_ble_eq_true rfl) (k91 (by decide) hq) ?_
    cases h
    exact Ev.fin rfl rfl
  have h := (if_neg hb).symm.trans h
  have n_82 := hb
  clear hb
  by_cases hb : x2 = zi 84
  · have h := (if_pos hb).symm.trans h
    refine Ev.lsw (t := 60) (k := 84) rfl hb (by rfl) ?_
    refine Ev.run (pc' := 64) (ls' := [some (.ref 20), some (.ref 13), some (.int x2)]) (st' := [.ref (mRO + 3 + 2 * 25), .ref 13, .ref 20]) (h' := mk s) 3 rfl ?_
    obtain ⟨s12, hq, h⟩ := zb0_some h
    refine Ev.call (M' := mm91) (v := none) (h' := mk s12) rfl rfl rfl (Nat.le_of_ble_eq_true rfl) (k91 (by decide) hq) ?_
    cases h
    exact Ev.fin rfl rfl
  have h := (if_neg hb).symm.trans h
  have n_84 := hb
  clear hb
  by_cases hb : x2 = zi 114
  · have h := (if_pos hb).symm.trans h
    refine Ev.lsw (t := 68) (k := 114) rfl hb (by rfl) ?_
    refine Ev.run (pc' := 72) (ls' := [some (.ref 20), some (.ref 13), some (.int x2)]) (st' := [.ref (mRO + 3 + 2 * 26), .ref 13, .ref 20]) (h' := mk s) 3 rfl ?_
    obtain ⟨s13, hq, h⟩ := zb0_some h
    refine Ev.call (M' := mm91) (v := none) (h' := mk s13) rfl rfl rfl (Nat.le_of_ble_eq_true rfl) (k91 (by decide) hq) ?_
    refine Ev.run (pc' := 77) (ls' := [some (.ref 20), some (.ref 13), some (.int x2)]) (st' := [.ref 20, .ref 13]) (h' := mk s13) 2 rfl ?_
    refine Ev.call (M' := mm95) (v := some (.int (r95 s13))) (h' := mk s13) rfl rfl rfl (Nat.le_of_ble_eq_true rfl) (k95  (s := s13) (v := r95 s13)  rfl) ?_
    refine Ev.run (pc' := 82) (ls' := [some (.ref 20), some (.ref 13), some (.int x2)]) (st' := [.int (zi 12), .int (r95 s13), .ref 13]) (h' := mk s13) 1 rfl ?_
    refine Ev.icmp_ge (t := 90) rfl rfl (fun hb => ?_) (fun hb => ?_)
    · have h := (if_pos hb).symm.trans h
      refine Ev.run (pc' := 92) (ls' := [some (.ref 20), some (.ref 13), some (.int x2)]) (st' := [.ref (mRO + 3 + 2 * 28), .ref 13]) (h' := mk s13) 1 rfl ?_
      exact k90_92 28 s13 _ _ _ _ (by decide) h
    · have h := (if_neg hb).symm.trans h
      refine Ev.run (pc' := 92) (ls' := [some (.ref 20), some (.ref 13), some (.int x2)]) (st' := [.ref (mRO + 3 + 2 * 27), .ref 13]) (h' := mk s13) 2 rfl ?_
      exact k90_92 27 s13 _ _ _ _ (by decide) h
  have h := (if_neg hb).symm.trans h
  have n_114 := hb
  clear hb
  refine Ev.lswd (t := 180) rfl (by rfl) (by intro p hp; simp only [List.mem_cons, List.not_mem_nil, or_false] at hp; rcases hp with rfl | rfl | rfl | rfl | rfl <;> assumption) ?_
  refine Ev.run (pc' := 183) (ls' := [some (.ref 20), some (.ref 13), some (.int x2)]) (st' := [.int x2, .ref 13, .ref 20]) (h' := mk s) 3 rfl ?_
  obtain ⟨s14, hq, h⟩ := zb0_some h
  refine Ev.call (M' := mm92) (v := none) (h' := mk s14) rfl rfl rfl (Nat.le_of_ble_eq_true rfl) (k92 hq) ?_
  cases h
  exact Ev.fin rfl rfl
/-! 109 F$RealWriter.align()V -/
def b109_2 (rec2 : Int32 → zS → Option (zS)) (x1 : Int32) (s : zS) : Option (zS) := if x1 ≥ (zi 52) then some s else if ¬ (zushrL (s.2.1 15 5) (zi 52)) = (zl 0) then some s else if (s.1 15 6) ≤ (zi (-1074)) then some s else rec2 (x1 + zi 1) (setI (setJ s 15 5 (zshlL (s.2.1 15 5) (zi 1))) 15 6 ((s.1 15 6) - (zi 1)))
set_option maxRecDepth 100000 in
theorem kb109_2 {X : mX} {D : Nat} {rec2 : Int32 → zS → Option (zS)} (hrec2 : ∀ (x1 : Int32) (s : zS) (r : zS) , rec2 x1 s = some r → Ev X D mm109 2 [some (.ref 15), some (.int x1)] [] (mk s) (encV r)) (x1 : Int32) (s : zS) (r : zS)   (h : b109_2 rec2 x1 s = some r) : Ev X D mm109 2 [some (.ref 15), some (.int x1)] [] (mk s) (encV r) := by
  unfold b109_2 at h
  refine Ev.run (pc' := 5) (ls' := [some (.ref 15), some (.int x1)]) (st' := [.int (zi 52), .int x1]) (h' := mk s) 2 rfl ?_
  refine Ev.icmp_ge (t := 56) rfl rfl (fun hb => ?_) (fun hb => ?_)
  · have h := (if_pos hb).symm.trans h
    cases h
    exact Ev.fin rfl rfl
  · have h := (if_neg hb).symm.trans h
    refine Ev.run (pc' := 17) (ls' := [some (.ref 15), some (.int x1)]) (st' := [.int (lg_cmp (zushrL (s.2.1 15 5) (zi 52)) (zl 0))]) (h' := mk s) 6 rfl ?_
    refine Ev.ifl_ne (t := 56) rfl rfl (fun hb => ?_) (fun hb => ?_)
    · have h := (if_pos hb).symm.trans h
      cases h
      exact Ev.fin rfl rfl
    · have h := (if_neg hb).symm.trans h
      refine Ev.run (pc' := 27) (ls' := [some (.ref 15), some (.int x1)]) (st' := [.int (zi (-1074)), .int (s.1 15 6)]) (h' := mk s) 3 rfl ?_
      refine Ev.icmp_le (t := 56) rfl rfl (fun hb => ?_) (fun hb => ?_)
      · have h := (if_pos hb).symm.trans h
        cases h
        exact Ev.fin rfl rfl
      · have h := (if_neg hb).symm.trans h
        refine Ev.run (pc' := 37) (ls' := [some (.ref 15), some (.int x1)]) (st' := [.long (zshlL (s.2.1 15 5) (zi 1)), .ref 15]) (h' := mk s) 5 rfl ?_
        refine Ev.step (pc' := 40) rfl (put_7_5 rfl) ?_
        refine Ev.run (pc' := 47) (ls' := [some (.ref 15), some (.int x1)]) (st' := [.int ((s.1 15 6) - (zi 1)), .ref 15]) (h' := mk (setJ s 15 5 (zshlL (s.2.1 15 5) (zi 1)))) 5 rfl ?_
        refine Ev.step (pc' := 50) rfl (put_7_6 rfl) ?_
        refine Ev.run (pc' := 2) (ls' := [some (.ref 15), some (.int (x1 + zi 1))]) (st' := []) (h' := mk (setI (setJ s 15 5 (zshlL (s.2.1 15 5) (zi 1))) 15 6 ((s.1 15 6) - (zi 1)))) 2 rfl ?_
        exact hrec2 (x1 + zi 1) (setI (setJ s 15 5 (zshlL (s.2.1 15 5) (zi 1))) 15 6 ((s.1 15 6) - (zi 1))) _ h
def f109_2  : Nat → Int32 → zS → Option (zS)
  | 0, _, _ => none
  | n + 1, x1, s => b109_2 (f109_2 n) x1 s
set_option maxRecDepth 100000 in
theorem k109_2 {X : mX} {D : Nat}   (n : Nat) : ∀ (x1 : Int32) (s : zS) (r : zS) , f109_2  n x1 s = some r → Ev X D mm109 2 [some (.ref 15), some (.int x1)] [] (mk s) (encV r) := by
  induction n with
  | zero => intro x1 s r   h; cases h
  | succ n ih => intro x1 s r   h; exact kb109_2  ih x1 s r   h
def f109   (s : zS) : Option (zS) := f109_2 zF (zi 0) s
set_option maxRecDepth 100000 in
theorem k109 {X : mX} {D : Nat}  {s : zS} {r : zS}  (h : f109  s = some r) : Ev X D mm109 0 [some (.ref 15), none] [] (mk s) (encV r) := by
  unfold f109 at h
  refine Ev.run (pc' := 2) (ls' := [some (.ref 15), some (.int (zi 0))]) (st' := []) (h' := mk s) 2 rfl ?_
  exact k109_2 zF (zi 0) s _ h
