/-! decompiled methods, 2; printed by wip/gen/gen8.py -/
/-! 82 F$Piece.addContinuation(I)V -/
def f82  (x1 : Int32) (s : zS) : Option (zS) := zb0 (f70 ((zi 128) ||| (x1 &&& (zi 63))) s) (fun s1 => some (setI s1 13 2 ((s1.1 13 2) + (zi 1))))
set_option maxRecDepth 100000 in
theorem k82 {X : mX} {D : Nat} {x1 : Int32} {s : zS} {r : zS}  (h : f82 x1 s = some r) : Ev X (D + 1) mm82 0 [some (.ref 13), some (.int x1)] [] (mk s) (encV r) := by
  unfold f82 at h
  refine Ev.run (pc' := 9) (ls' := [some (.ref 13), some (.int x1)]) (st' := [.int ((zi 128) ||| (x1 &&& (zi 63))), .ref 13]) (h' := mk s) 6 rfl ?_
  obtain ⟨s1, hq, h⟩ := zb0_some h
  refine Ev.call (M' := mm70) (v := none) (h' := mk s1) rfl rfl rfl (Nat.le_of_ble_eq_true rfl) (k70 hq) ?_
  refine Ev.run (pc' := 19) (ls' := [some (.ref 13), some (.int x1)]) (st' := [.int ((s1.1 13 2) + (zi 1)), .ref 13]) (h' := mk s1) 5 rfl ?_
  refine Ev.step (pc' := 22) rfl (put_5_2 rfl) ?_
  cases h
  exact Ev.fin rfl rfl
/-! 81 F$Piece.addCharacter(I)V -/
def f81  (x1 : Int32) (s : zS) : Option (zS) := if x1 ≥ (zi 128) then if x1 ≥ (zi 2048) then if x1 ≥ (zi 65536) then zb0 (f70 ((zi 240) ||| (zshr x1 (zi 18))) s) (fun s1 => zb0 (f82 (zshr x1 (zi 12)) s1) (fun s2 => zb0 (f82 (zshr x1 (zi 6)) s2) (fun s3 => zb0 (f82 x1 s3) (fun s4 => some s4)))) else zb0 (f70 ((zi 224) ||| (zshr x1 (zi 12))) s) (fun s5 => zb0 (f82 (zshr x1 (zi 6)) s5) (fun s6 => zb0 (f82 x1 s6) (fun s7 => some s7))) else zb0 (f70 ((zi 192) ||| (zshr x1 (zi 6))) s) (fun s8 => zb0 (f82 x1 s8) (fun s9 => some s9)) else zb0 (f70 x1 s) (fun s10 => some s10)
set_option maxRecDepth 100000 in
theorem k81 {X : mX} {D : Nat} {x1 : Int32} {s : zS} {r : zS}  (h : f81 x1 s = some r) : Ev X (D + 2) mm81 0 [some (.ref 13), some (.int x1)] [] (mk s) (encV r) := by
  unfold f81 at h
  refine Ev.run (pc' := 4) (ls' := [some (.ref 13), some (.int x1)]) (st' := [.int (zi 128), .int x1]) (h' := mk s) 2 rfl ?_
  refine Ev.icmp_ge (t := 15) rfl rfl (fun hb => ?_) (fun hb => ?_)
  · have h := (if_pos hb).symm.trans h
    refine Ev.run (pc' := 19) (ls' := [some (.ref 13), some (.int x1)]) (st' := [.int (zi 2048), .int x1]) (h' := mk s) 2 rfl ?_
    refine Ev.icmp_ge (t := 42) rfl rfl (fun hb => ?_) (fun hb => ?_)
    · have h := (if_pos hb).symm.trans h
      refine Ev.run (pc' := 45) (ls' := [some (.ref 13), some (.int x1)]) (st' := [.int (zi 65536), .int x1]) (h' := mk s) 2 rfl ?_
      refine Ev.icmp_ge (t := 76) rfl rfl (fun hb => ?_) (fun hb => ?_)
      · have h := (if_pos hb).symm.trans h
        refine Ev.run (pc' := 85) (ls' := [some (.ref 13), some (.int x1)]) (st' := [.int ((zi 240) ||| (zshr x1 (zi 18))), .ref 13]) (h' := mk s) 6 rfl ?_
        obtain ⟨s1, hq, h⟩ := zb0_some h
        refine Ev.call (M' := mm70) (v := none) (h' := mk s1) rfl rfl rfl (Nat.le_of_ble_eq_true rfl) (k70 hq) ?_
        refine Ev.run (pc' := 93) (ls' := [some (.ref 13), some (.int x1)]) (st' := [.int (zshr x1 (zi 12)), .ref 13]) (h' := mk s1) 4 rfl ?_
        obtain ⟨s2, hq, h⟩ := zb0_some h
        refine Ev.call (M' := mm82) (v := none) (h' := mk s2) rfl rfl rfl (Nat.le_of_ble_eq_true rfl) (k82 hq) ?_
        refine Ev.run (pc' := 101) (ls' := [some (.ref 13), some (.int x1)]) (st' := [.int (zshr x1 (zi 6)), .ref 13]) (h' := mk s2) 4 rfl ?_
        obtain ⟨s3, hq, h⟩ := zb0_some h
        refine Ev.call (M' := mm82) (v := none) (h' := mk s3) rfl rfl rfl (Nat.le_of_ble_eq_true rfl) (k82 hq) ?_
        refine Ev.run (pc' := 106) (ls' := [some (.ref 13), some (.int x1)]) (st' := [.int x1, .ref 13]) (h' := mk s3) 2 rfl ?_
        obtain ⟨s4, hq, h⟩ := zb0_some h
        refine Ev.call (M' := mm82) (v := none) (h' := mk s4) rfl rfl rfl (Nat.le_of_ble_eq_true rfl) (k82 hq) ?_
        cases h
        exact Ev.fin rfl rfl
      · have h := (if_neg hb).symm.trans h
        refine Ev.run (pc' := 57) (ls' := [some (.ref 13), some (.int x1)]) (st' := [.int ((zi 224) ||| (zshr x1 (zi 12))), .ref 13]) (h' := mk s) 6 rfl ?_
        obtain ⟨s5, hq, h⟩ := zb0_some h
        refine Ev.call (M' := mm70) (v := none) (h' := mk s5) rfl rfl rfl (Nat.le_of_ble_eq_true rfl) (k70 hq) ?_
        refine Ev.run (pc' := 65) (ls' := [some (.ref 13), some (.int x1)]) (st' := [.int (zshr x1 (zi 6)), .ref 13]) (h' := mk s5) 4 rfl ?_
        obtain ⟨s6, hq, h⟩ := zb0_some h
        refine Ev.call (M' := mm82) (v := none) (h' := mk s6) rfl rfl rfl (Nat.le_of_ble_eq_true rfl) (k82 hq) ?_
        refine Ev.run (pc' := 70) (ls' := [some (.ref 13), some (.int x1)]) (st' := [.int x1, .ref 13]) (h' := mk s6) 2 rfl ?_
        obtain ⟨s7, hq, h⟩ := zb0_some h
        refine Ev.call (M' := mm82) (v := none) (h' := mk s7) rfl rfl rfl (Nat.le_of_ble_eq_true rfl) (k82 hq) ?_
        refine Ev.run (pc' := 109) (ls' := [some (.ref 13), some (.int x1)]) (st' := []) (h' := mk s7) 1 rfl ?_
        cases h
        exact Ev.fin rfl rfl
    · have h := (if_neg hb).symm.trans h
      refine Ev.run (pc' := 31) (ls' := [some (.ref 13), some (.int x1)]) (st' := [.int ((zi 192) ||| (zshr x1 (zi 6))), .ref 13]) (h' := mk s) 6 rfl ?_
      obtain ⟨s8, hq, h⟩ := zb0_some h
      refine Ev.call (M' := mm70) (v := none) (h' := mk s8) rfl rfl rfl (Nat.le_of_ble_eq_true rfl) (k70 hq) ?_
      refine Ev.run (pc' := 36) (ls' := [some (.ref 13), some (.int x1)]) (st' := [.int x1, .ref 13]) (h' := mk s8) 2 rfl ?_
      obtain ⟨s9, hq, h⟩ := zb0_some h
      refine Ev.call (M' := mm82) (v := none) (h' := mk s9) rfl rfl rfl (Nat.le_of_ble_eq_true rfl) (k82 hq) ?_
      refine Ev.run (pc' := 109) (ls' := [some (.ref 13), some (.int x1)]) (st' := []) (h' := mk s9) 1 rfl ?_
      cases h
      exact Ev.fin rfl rfl
  · have h := (if_neg hb).symm.trans h
    refine Ev.run (pc' := 9) (ls' := [some (.ref 13), some (.int x1)]) (st' := [.int x1, .ref 13]) (h' := mk s) 2 rfl ?_
    obtain ⟨s10, hq, h⟩ := zb0_some h
    refine Ev.call (M' := mm70) (v := none) (h' := mk s10) rfl rfl rfl (Nat.le_of_ble_eq_true rfl) (k70 hq) ?_
    refine Ev.run (pc' := 109) (ls' := [some (.ref 13), some (.int x1)]) (st' := []) (h' := mk s10) 1 rfl ?_
    cases h
    exact Ev.fin rfl rfl
/-! 101 F$RealWriter.split(JIII)V -/
def f101_111  (x5 : Int32) (x7 : Int32) (x8 : Int64) (y1 : Int64) (s : zS) : Option (zS) := if ¬ x8 = (zl 0) then some (setI (setI (setJ s 15 5 y1) 15 6 ((x5 + (r264 x7 (zi 1) (setJ s 15 5 y1))) - (zi 1))) 15 7 (zi 0)) else if x7 ≤ (zi 1) then some (setI (setI (setJ s 15 5 y1) 15 6 ((x5 + (r264 x7 (zi 1) (setJ s 15 5 y1))) - (zi 1))) 15 7 (zi 0)) else some (setI (setI (setJ s 15 5 y1) 15 6 ((x5 + (r264 x7 (zi 1) (setJ s 15 5 y1))) - (zi 1))) 15 7 (zi 1))
set_option maxRecDepth 100000 in
theorem k101_111 {X : mX} {D : Nat}   (x5 : Int32) (x7 : Int32) (x8 : Int64) (y1 : Int64) (s : zS) (r : zS) (o1 : Option Value) (o2 : Option Value) (o3 : Option Value) (o4 : Option Value) (o6 : Option Value)  (h : f101_111  x5 x7 x8 y1 s = some r) : Ev X (D + 1) mm101 111 [some (.ref 15), o1, o2, o3, o4, some (.int x5), o6, some (.int x7), some (.long x8), none] [.long y1, .ref 15] (mk s) (encV r) := by
  unfold f101_111 at h
  refine Ev.step (pc' := 114) rfl (put_7_5 rfl) ?_
  refine Ev.run (pc' := 120) (ls' := [some (.ref 15), o1, o2, o3, o4, some (.int x5), o6, some (.int x7), some (.long x8), none]) (st' := [.int (zi 1), .int x7, .int x5, .ref 15]) (h' := mk (setJ s 15 5 y1)) 4 rfl ?_
  refine Ev.call (M' := mm264) (v := some (.int (r264 x7 (zi 1) (setJ s 15 5 y1)))) (h' := mk (setJ s 15 5 y1)) rfl rfl rfl (Nat.le_of_ble_eq_true rfl) (k264 (x0 := x7) (x1 := (zi 1)) (s := setJ s 15 5 y1) (v := r264 x7 (zi 1) (setJ s 15 5 y1))  rfl) ?_
  refine Ev.run (pc' := 126) (ls' := [some (.ref 15), o1, o2, o3, o4, some (.int x5), o6, some (.int x7), some (.long x8), none]) (st' := [.int ((x5 + (r264 x7 (zi 1) (setJ s 15 5 y1))) - (zi 1)), .ref 15]) (h' := mk (setJ s 15 5 y1)) 3 rfl ?_
  refine Ev.step (pc' := 129) rfl (put_7_6 rfl) ?_
  refine Ev.run (pc' := 134) (ls' := [some (.ref 15), o1, o2, o3, o4, some (.int x5), o6, some (.int x7), some (.long x8), none]) (st' := [.int (lg_cmp x8 (zl 0)), .ref 15]) (h' := mk (setI (setJ s 15 5 y1) 15 6 ((x5 + (r264 x7 (zi 1) (setJ s 15 5 y1))) - (zi 1)))) 4 rfl ?_
  refine Ev.ifl_ne (t := 147) rfl rfl (fun hb => ?_) (fun hb => ?_)
  · have h := (if_pos hb).symm.trans h
    refine Ev.run (pc' := 148) (ls' := [some (.ref 15), o1, o2, o3, o4, some (.int x5), o6, some (.int x7), some (.long x8), none]) (st' := [.int (zi 0), .ref 15]) (h' := mk (setI (setJ s 15 5 y1) 15 6 ((x5 + (r264 x7 (zi 1) (setJ s 15 5 y1))) - (zi 1)))) 1 rfl ?_
    refine Ev.step (pc' := 151) rfl (put_7_7 (by decide) rfl) ?_
    cases h
    exact Ev.fin rfl rfl
  · have h := (if_neg hb).symm.trans h
    refine Ev.run (pc' := 140) (ls' := [some (.ref 15), o1, o2, o3, o4, some (.int x5), o6, some (.int x7), some (.long x8), none]) (st' := [.int (zi 1), .int x7, .ref 15]) (h' := mk (setI (setJ s 15 5 y1) 15 6 ((x5 + (r264 x7 (zi 1) (setJ s 15 5 y1))) - (zi 1)))) 2 rfl ?_
    refine Ev.icmp_le (t := 147) rfl rfl (fun hb => ?_) (fun hb => ?_)
    · have h := (if_pos hb).symm.trans h
      refine Ev.run (pc' := 148) (ls' := [some (.ref 15), o1, o2, o3, o4, some (.int x5), o6, some (.int x7), some (.long x8), none]) (st' := [.int (zi 0), .ref 15]) (h' := mk (setI (setJ s 15 5 y1) 15 6 ((x5 + (r264 x7 (zi 1) (setJ s 15 5 y1))) - (zi 1)))) 1 rfl ?_
      refine Ev.step (pc' := 151) rfl (put_7_7 (by decide) rfl) ?_
      cases h
      exact Ev.fin rfl rfl
    · have h := (if_neg hb).symm.trans h
      refine Ev.run (pc' := 148) (ls' := [some (.ref 15), o1, o2, o3, o4, some (.int x5), o6, some (.int x7), some (.long x8), none]) (st' := [.int (zi 1), .ref 15]) (h' := mk (setI (setJ s 15 5 y1) 15 6 ((x5 + (r264 x7 (zi 1) (setJ s 15 5 y1))) - (zi 1)))) 2 rfl ?_
      refine Ev.step (pc' := 151) rfl (put_7_7 (by decide) rfl) ?_
      cases h
      exact Ev.fin rfl rfl
def f101_91  (x3 : Int32) (x5 : Int32) (x7 : Int32) (x8 : Int64) (y1 : Int32) (s : zS) : Option (zS) := if mBit y1 then if ¬ x7 = zi 0 then f101_111 x5 x7 x8 (x8 ||| (zshlL (zl 1) x3)) (setI s 15 4 y1) else f101_111 x5 x7 x8 x8 (setI s 15 4 y1) else none
set_option maxRecDepth 100000 in
theorem k101_91 {X : mX} {D : Nat}   (x3 : Int32) (x5 : Int32) (x7 : Int32) (x8 : Int64) (y1 : Int32) (s : zS) (r : zS) (o1 : Option Value) (o2 : Option Value) (o4 : Option Value) (o6 : Option Value)  (h : f101_91  x3 x5 x7 x8 y1 s = some r) : Ev X (D + 1) mm101 91 [some (.ref 15), o1, o2, some (.int x3), o4, some (.int x5), o6, some (.int x7), some (.long x8), none] [.int y1, .ref 15] (mk s) (encV r) := by
  unfold f101_91 at h
  obtain ⟨hx, h⟩ := zif h
  refine Ev.step (pc' := 94) rfl (put_7_4 hx rfl) ?_
  refine Ev.run (pc' := 97) (ls' := [some (.ref 15), o1, o2, some (.int x3), o4, some (.int x5), o6, some (.int x7), some (.long x8), none]) (st' := [.int x7, .ref 15]) (h' := mk (setI s 15 4 y1)) 2 rfl ?_
  refine Ev.if_ne (t := 105) rfl rfl (fun hb => ?_) (fun hb => ?_)
  · have h := (if_pos hb).symm.trans h
    refine Ev.run (pc' := 111) (ls' := [some (.ref 15), o1, o2, some (.int x3), o4, some (.int x5), o6, some (.int x7), some (.long x8), none]) (st' := [.long (x8 ||| (zshlL (zl 1) x3)), .ref 15]) (h' := mk (setI s 15 4 y1)) 5 rfl ?_
    exact k101_111 x5 x7 x8 (x8 ||| (zshlL (zl 1) x3)) (setI s 15 4 y1) _ _ _ _ _ _ h
  · have h := (if_neg hb).symm.trans h
    refine Ev.run (pc' := 111) (ls' := [some (.ref 15), o1, o2, some (.int x3), o4, some (.int x5), o6, some (.int x7), some (.long x8), none]) (st' := [.long x8, .ref 15]) (h' := mk (setI s 15 4 y1)) 2 rfl ?_
    exact k101_111 x5 x7 x8 x8 (setI s 15 4 y1) _ _ _ _ _ _ h
def f101_68  (x3 : Int32) (x5 : Int32) (x6 : Int32) (x7 : Int32) (x8 : Int64) (y1 : Int32) (s : zS) : Option (zS) := if mBit y1 then if ¬ x7 = x6 then f101_91 x3 x5 x7 x8 (zi 0) (setI s 15 3 y1) else if ¬ x8 = (zl 0) then f101_91 x3 x5 x7 x8 (zi 0) (setI s 15 3 y1) else f101_91 x3 x5 x7 x8 (zi 1) (setI s 15 3 y1) else none
set_option maxRecDepth 100000 in
theorem k101_68 {X : mX} {D : Nat}   (x3 : Int32) (x5 : Int32) (x6 : Int32) (x7 : Int32) (x8 : Int64) (y1 : Int32) (s : zS) (r : zS) (o1 : Option Value) (o2 : Option Value) (o4 : Option Value)  (h : f101_68  x3 x5 x6 x7 x8 y1 s = some r) : Ev X (D + 1) mm101 68 [some (.ref 15), o1, o2, some (.int x3), o4, some (.int x5), some (.int x6), some (.int x7), some (.long x8), none] [.int y1, .ref 15] (mk s) (encV r) := by
  unfold f101_68 at h
  obtain ⟨hx, h⟩ := zif h
  refine Ev.step (pc' := 71) rfl (put_7_3 hx rfl) ?_
  refine Ev.run (pc' := 76) (ls' := [some (.ref 15), o1, o2, some (.int x3), o4, some (.int x5), some (.int x6), some (.int x7), some (.long x8), none]) (st' := [.int x6, .int x7, .ref 15]) (h' := mk (setI s 15 3 y1)) 3 rfl ?_
  refine Ev.icmp_ne (t := 90) rfl rfl (fun hb => ?_) (fun hb => ?_)
  · have h := (if_pos hb).symm.trans h
    refine Ev.run (pc' := 91) (ls' := [some (.ref 15), o1, o2, some (.int x3), o4, some (.int x5), some (.int x6), some (.int x7), some (.long x8), none]) (st' := [.int (zi 0), .ref 15]) (h' := mk (setI s 15 3 y1)) 1 rfl ?_
    exact k101_91 x3 x5 x7 x8 (zi 0) (setI s 15 3 y1) _ _ _ _ _ h
  · have h := (if_neg hb).symm.trans h
    refine Ev.run (pc' := 83) (ls' := [some (.ref 15), o1, o2, some (.int x3), o4, some (.int x5), some (.int x6), some (.int x7), some (.long x8), none]) (st' := [.int (lg_cmp x8 (zl 0)), .ref 15]) (h' := mk (setI s 15 3 y1)) 3 rfl ?_
    refine Ev.ifl_ne (t := 90) rfl rfl (fun hb => ?_) (fun hb => ?_)
    · have h := (if_pos hb).symm.trans h
      refine Ev.run (pc' := 91) (ls' := [some (.ref 15), o1, o2, some (.int x3), o4, some (.int x5), some (.int x6), some (.int x7), some (.long x8), none]) (st' := [.int (zi 0), .ref 15]) (h' := mk (setI s 15 3 y1)) 1 rfl ?_
      exact k101_91 x3 x5 x7 x8 (zi 0) (setI s 15 3 y1) _ _ _ _ _ h
    · have h := (if_neg hb).symm.trans h
      refine Ev.run (pc' := 91) (ls' := [some (.ref 15), o1, o2, some (.int x3), o4, some (.int x5), some (.int x6), some (.int x7), some (.long x8), none]) (st' := [.int (zi 1), .ref 15]) (h' := mk (setI s 15 3 y1)) 2 rfl ?_
      exact k101_91 x3 x5 x7 x8 (zi 1) (setI s 15 3 y1) _ _ _ _ _ h
def f101_45  (x3 : Int32) (x5 : Int32) (x6 : Int32) (x7 : Int32) (x8 : Int64) (y1 : Int32) (s : zS) : Option (zS) := if mBit y1 then if ¬ x7 = x6 then f101_68 x3 x5 x6 x7 x8 (zi 0) (setI s 15 2 y1) else if x8 = (zl 0) then f101_68 x3 x5 x6 x7 x8 (zi 0) (setI s 15 2 y1) else f101_68 x3 x5 x6 x7 x8 (zi 1) (setI s 15 2 y1) else none
set_option maxRecDepth 100000 in
theorem k101_45 {X : mX} {D : Nat}   (x3 : Int32) (x5 : Int32) (x6 : Int32) (x7 : Int32) (x8 : Int64) (y1 : Int32) (s : zS) (r : zS) (o1 : Option Value) (o2 : Option Value) (o4 : Option Value)  (h : f101_45  x3 x5 x6 x7 x8 y1 s = some r) : Ev X (D + 1) mm101 45 [some (.ref 15), o1, o2, some (.int x3), o4, some (.int x5), some (.int x6), some (.int x7), some (.long x8), none] [.int y1, .ref 15] (mk s) (encV r) := by
  unfold f101_45 at h
  obtain ⟨hx, h⟩ := zif h
  refine Ev.step (pc' := 48) rfl (put_7_2 hx rfl) ?_
  refine Ev.run (pc' := 53) (ls' := [some (.ref 15), o1, o2, some (.int x3), o4, some (.int x5), some (.int x6), some (.int x7), some (.long x8), none]) (st' := [.int x6, .int x7, .ref 15]) (h' := mk (setI s 15 2 y1)) 3 rfl ?_
  refine Ev.icmp_ne (t := 67) rfl rfl (fun hb => ?_) (fun hb => ?_)
  · have h := (if_pos hb).symm.trans h
    refine Ev.run (pc' := 68) (ls' := [some (.ref 15), o1, o2, some (.int x3), o4, some (.int x5), some (.int x6), some (.int x7), some (.long x8), none]) (st' := [.int (zi 0), .ref 15]) (h' := mk (setI s 15 2 y1)) 1 rfl ?_
    exact k101_68 x3 x5 x6 x7 x8 (zi 0) (setI s 15 2 y1) _ _ _ _ h
  · have h := (if_neg hb).symm.trans h
    refine Ev.run (pc' := 60) (ls' := [some (.ref 15), o1, o2, some (.int x3), o4, some (.int x5), some (.int x6), some (.int x7), some (.long x8), none]) (st' := [.int (lg_cmp x8 (zl 0)), .ref 15]) (h' := mk (setI s 15 2 y1)) 3 rfl ?_
    refine Ev.ifl_eq (t := 67) rfl rfl (fun hb => ?_) (fun hb => ?_)
    · have h := (if_pos hb).symm.trans h
      refine Ev.run (pc' := 68) (ls' := [some (.ref 15), o1, o2, some (.int x3), o4, some (.int x5), some (.int x6), some (.int x7), some (.long x8), none]) (st' := [.int (zi 0), .ref 15]) (h' := mk (setI s 15 2 y1)) 1 rfl ?_
      exact k101_68 x3 x5 x6 x7 x8 (zi 0) (setI s 15 2 y1) _ _ _ _ h
    · have h := (if_neg hb).symm.trans h
      refine Ev.run (pc' := 68) (ls' := [some (.ref 15), o1, o2, some (.int x3), o4, some (.int x5), some (.int x6), some (.int x7), some (.long x8), none]) (st' := [.int (zi 1), .ref 15]) (h' := mk (setI s 15 2 y1)) 2 rfl ?_
      exact k101_68 x3 x5 x6 x7 x8 (zi 1) (setI s 15 2 y1) _ _ _ _ h
def f101  (x1 : Int64) (x3 : Int32) (x4 : Int32) (x5 : Int32) (s : zS) : Option (zS) := if ((zushrL x1 (x3 + x4)) &&& (zl 1)) = (zl 0) then f101_45 x3 x5 ((zshl (zi 1) x4) - (zi 1)) ((zL2I (zushrL x1 x3)) &&& ((zshl (zi 1) x4) - (zi 1))) (x1 &&& ((zshlL (zl 1) x3) - (zl 1))) (zi 0) s else f101_45 x3 x5 ((zshl (zi 1) x4) - (zi 1)) ((zL2I (zushrL x1 x3)) &&& ((zshl (zi 1) x4) - (zi 1))) (x1 &&& ((zshlL (zl 1) x3) - (zl 1))) (zi 1) s
set_option maxRecDepth 100000 in
theorem k101 {X : mX} {D : Nat} {x1 : Int64} {x3 : Int32} {x4 : Int32} {x5 : Int32} {s : zS} {r : zS}  (h : f101 x1 x3 x4 x5 s = some r) : Ev X (D + 1) mm101 0 [some (.ref 15), some (.long x1), none, some (.int x3), some (.int x4), some (.int x5), none, none, none, none] [] (mk s) (encV r) := by
  unfold f101 at h
  refine Ev.run (pc' := 37) (ls' := [some (.ref 15), some (.long x1), none, some (.int x3), some (.int x4), some (.int x5), some (.int ((zshl (zi 1) x4) - (zi 1))), some (.int ((zL2I (zushrL x1 x3)) &&& ((zshl (zi 1) x4) - (zi 1)))), some (.long (x1 &&& ((zshlL (zl 1) x3) - (zl 1)))), none]) (st' := [.int (lg_cmp ((zushrL x1 (x3 + x4)) &&& (zl 1)) (zl 0)), .ref 15]) (h' := mk s) 31 rfl ?_
  refine Ev.ifl_eq (t := 44) rfl rfl (fun hb => ?_) (fun hb => ?_)
  · have h := (if_pos hb).symm.trans h
    refine Ev.run (pc' := 45) (ls' := [some (.ref 15), some (.long x1), none, some (.int x3), some (.int x4), some (.int x5), some (.int ((zshl (zi 1) x4) - (zi 1))), some (.int ((zL2I (zushrL x1 x3)) &&& ((zshl (zi 1) x4) - (zi 1)))), some (.long (x1 &&& ((zshlL (zl 1) x3) - (zl 1)))), none]) (st' := [.int (zi 0), .ref 15]) (h' := mk s) 1 rfl ?_
    exact k101_45 x3 x5 ((zshl (zi 1) x4) - (zi 1)) ((zL2I (zushrL x1 x3)) &&& ((zshl (zi 1) x4) - (zi 1))) (x1 &&& ((zshlL (zl 1) x3) - (zl 1))) (zi 0) s _ _ _ _ h
  · have h := (if_neg hb).symm.trans h
    refine Ev.run (pc' := 45) (ls' := [some (.ref 15), some (.long x1), none, some (.int x3), some (.int x4), some (.int x5), some (.int ((zshl (zi 1) x4) - (zi 1))), some (.int ((zL2I (zushrL x1 x3)) &&& ((zshl (zi 1) x4) - (zi 1)))), some (.long (x1 &&& ((zshlL (zl 1) x3) - (zl 1)))), none]) (st' := [.int (zi 1), .ref 15]) (h' := mk s) 2 rfl ?_
    exact k101_45 x3 x5 ((zshl (zi 1) x4) - (zi 1)) ((zL2I (zushrL x1 x3)) &&& ((zshl (zi 1) x4) - (zi 1))) (x1 &&& ((zshlL (zl 1) x3) - (zl 1))) (zi 1) s _ _ _ _ h
/-! 100 F$RealWriter.take(JZ)V -/
def f100  (x1 : Int64) (x3 : Int32) (s : zS) : Option (zS) := if x3 = zi 0 then zb0 (f101 x1 (zi 52) (zi 11) (zi (-1074)) s) (fun s1 => some s1) else zb0 (f101 (x1 &&& (zl 4294967295)) (zi 23) (zi 8) (zi (-149)) s) (fun s2 => some s2)
set_option maxRecDepth 100000 in
theorem k100 {X : mX} {D : Nat} {x1 : Int64} {x3 : Int32} {s : zS} {r : zS}  (h : f100 x1 x3 s = some r) : Ev X (D + 2) mm100 0 [some (.ref 15), some (.long x1), none, some (.int x3)] [] (mk s) (encV r) := by
  unfold f100 at h
  refine Ev.run (pc' := 1) (ls' := [some (.ref 15), some (.long x1), none, some (.int x3)]) (st' := [.int x3]) (h' := mk s) 1 rfl ?_
  refine Ev.if_eq (t := 23) rfl rfl (fun hb => ?_) (fun hb => ?_)
  · have h := (if_pos hb).symm.trans h
    refine Ev.run (pc' := 32) (ls' := [some (.ref 15), some (.long x1), none, some (.int x3)]) (st' := [.int (zi (-1074)), .int (zi 11), .int (zi 52), .long x1, .ref 15]) (h' := mk s) 5 rfl ?_
    obtain ⟨s1, hq, h⟩ := zb0_some h
    refine Ev.call (M' := mm101) (v := none) (h' := mk s1) rfl rfl rfl (Nat.le_of_ble_eq_true rfl) (k101 hq) ?_
    cases h
    exact Ev.fin rfl rfl
  · have h := (if_neg hb).symm.trans h
    refine Ev.run (pc' := 17) (ls' := [some (.ref 15), some (.long x1), none, some (.int x3)]) (st' := [.int (zi (-149)), .int (zi 8), .int (zi 23), .long (x1 &&& (zl 4294967295)), .ref 15]) (h' := mk s) 7 rfl ?_
    obtain ⟨s2, hq, h⟩ := zb0_some h
    refine Ev.call (M' := mm101) (v := none) (h' := mk s2) rfl rfl rfl (Nat.le_of_ble_eq_true rfl) (k101 hq) ?_
    refine Ev.run (pc' := 35) (ls' := [some (.ref 15), some (.long x1), none, some (.int x3)]) (st' := []) (h' := mk s2) 1 rfl ?_
    cases h
    exact Ev.fin rfl rfl
/-! 263 java.lang.Math.abs(I)I -/
def r263 (x0 : Int32) (s : zS) : Int32 := if x0 ≥ zi 0 then x0 else -x0
set_option maxRecDepth 100000 in
theorem k263 {X : mX} {D : Nat} {x0 : Int32} {s : zS} {v : Int32} (h : r263 x0 s = v) : Ev X D mm263 0 [some (.int x0)] [] (mk s) (encI (v, s)) := by
  unfold r263 at h
  refine Ev.run (pc' := 1) (ls' := [some (.int x0)]) (st' := [.int x0]) (h' := mk s) 1 rfl ?_
  refine Ev.if_ge (t := 9) rfl rfl (fun hb => ?_) (fun hb => ?_)
  · have h := (if_pos hb).symm.trans h
    refine Ev.run (pc' := 10) (ls' := [some (.int x0)]) (st' := [.int x0]) (h' := mk s) 1 rfl ?_
    subst h
    exact Ev.fin rfl rfl
  · have h := (if_neg hb).symm.trans h
    refine Ev.run (pc' := 10) (ls' := [some (.int x0)]) (st' := [.int (-x0)]) (h' := mk s) 3 rfl ?_
    subst h
    exact Ev.fin rfl rfl
/-! 114 F$Decimal.power(II)J -/
def b114_5 (rec5 : Int32 → Int32 → Int64 → Int32 → zS → Option (Int64 × zS)) (x0 : Int32) (x1 : Int32) (x2 : Int64) (x4 : Int32) (s : zS) : Option (Int64 × zS) := if x4 ≥ x1 then some (x2, s) else rec5 x0 x1 (x2 * (zI2L x0)) (x4 + zi 1) s
set_option maxRecDepth 100000 in
theorem kb114_5 {X : mX} {D : Nat} {rec5 : Int32 → Int32 → Int64 → Int32 → zS → Option (Int64 × zS)} (hrec5 : ∀ (x0 : Int32) (x1 : Int32) (x2 : Int64) (x4 : Int32) (s : zS) (r : Int64 × zS) , rec5 x0 x1 x2 x4 s = some r → Ev X D mm114 5 [some (.int x0), some (.int x1), some (.long x2), none, some (.int x4)] [] (mk s) (encL r)) (x0 : Int32) (x1 : Int32) (x2 : Int64) (x4 : Int32) (s : zS) (r : Int64 × zS)   (h : b114_5 rec5 x0 x1 x2 x4 s = some r) : Ev X D mm114 5 [some (.int x0), some (.int x1), some (.long x2), none, some (.int x4)] [] (mk s) (encL r) := by
  unfold b114_5 at h
  refine Ev.run (pc' := 8) (ls' := [some (.int x0), some (.int x1), some (.long x2), none, some (.int x4)]) (st' := [.int x1, .int x4]) (h' := mk s) 2 rfl ?_
  refine Ev.icmp_ge (t := 22) rfl rfl (fun hb => ?_) (fun hb => ?_)
  · have h := (if_pos hb).symm.trans h
    refine Ev.run (pc' := 23) (ls' := [some (.int x0), some (.int x1), some (.long x2), none, some (.int x4)]) (st' := [.long x2]) (h' := mk s) 1 rfl ?_
    cases h
    exact Ev.fin rfl rfl
  · have h := (if_neg hb).symm.trans h
    refine Ev.run (pc' := 5) (ls' := [some (.int x0), some (.int x1), some (.long (x2 * (zI2L x0))), none, some (.int (x4 + zi 1))]) (st' := []) (h' := mk s) 7 rfl ?_
    exact hrec5 x0 x1 (x2 * (zI2L x0)) (x4 + zi 1) s _ h
def f114_5  : Nat → Int32 → Int32 → Int64 → Int32 → zS → Option (Int64 × zS)
  | 0, _, _, _, _, _ => none
  | n + 1, x0, x1, x2, x4, s => b114_5 (f114_5 n) x0 x1 x2 x4 s
set_option maxRecDepth 100000 in
theorem k114_5 {X : mX} {D : Nat}   (n : Nat) : ∀ (x0 : Int32) (x1 : Int32) (x2 : Int64) (x4 : Int32) (s : zS) (r : Int64 × zS) , f114_5  n x0 x1 x2 x4 s = some r → Ev X D mm114 5 [some (.int x0), some (.int x1), some (.long x2), none, some (.int x4)] [] (mk s) (encL r) := by
  induction n with
  | zero => intro x0 x1 x2 x4 s r   h; cases h
  | succ n ih => intro x0 x1 x2 x4 s r   h; exact kb114_5  ih x0 x1 x2 x4 s r   h
def f114  (x0 : Int32) (x1 : Int32) (s : zS) : Option (Int64 × zS) := f114_5 zF x0 x1 (zl 1) (zi 0) s
set_option maxRecDepth 100000 in
theorem k114 {X : mX} {D : Nat} {x0 : Int32} {x1 : Int32} {s : zS} {r : Int64 × zS}  (h : f114 x0 x1 s = some r) : Ev X D mm114 0 [some (.int x0), some (.int x1), none, none, none] [] (mk s) (encL r) := by
  unfold f114 at h
  refine Ev.run (pc' := 5) (ls' := [some (.int x0), some (.int x1), some (.long (zl 1)), none, some (.int (zi 0))]) (st' := []) (h' := mk s) 4 rfl ?_
  exact k114_5 zF x0 x1 (zl 1) (zi 0) s _ h
/-! 115 F$Decimal.multiply(J)V -/
def b115_58 (rec58 : Int64 → Int32 → zS → Option (zS)) (x3 : Int64) (x5 : Int32) (s : zS) : Option (zS) := if x5 ≥ (zi 2) then some s else if x3 ≤ (zl 0) then some s else if (s.1 16 1) ≥ (zi 96) then some s else if mIx (s.1 16 1) 96 then rec58 (x3 / (zl 1000000000)) (x5 + zi 1) (setI (setK s 17 ((s.1 16 1).toNatClampNeg) (zremL x3 (zl 1000000000))) 16 1 ((s.1 16 1) + (zi 1))) else none
set_option maxRecDepth 100000 in
theorem kb115_58 {X : mX} {D : Nat} {rec58 : Int64 → Int32 → zS → Option (zS)} (hrec58 : ∀ (x3 : Int64) (x5 : Int32) (s : zS) (r : zS) (o1 : Option Value) (o6 : Option Value) (o7 : Option Value), rec58 x3 x5 s = some r → Ev X D mm115 58 [some (.ref 16), o1, none, some (.long x3), none, some (.int x5), o6, o7] [] (mk s) (encV r)) (x3 : Int64) (x5 : Int32) (s : zS) (r : zS) (o1 : Option Value) (o6 : Option Value) (o7 : Option Value)  (h : b115_58 rec58 x3 x5 s = some r) : Ev X D mm115 58 [some (.ref 16), o1, none, some (.long x3), none, some (.int x5), o6, o7] [] (mk s) (encV r) := by
  unfold b115_58 at h
  refine Ev.run (pc' := 61) (ls' := [some (.ref 16), o1, none, some (.long x3), none, some (.int x5), o6, o7]) (st' := [.int (zi 2), .int x5]) (h' := mk s) 2 rfl ?_
  refine Ev.icmp_ge (t := 115) rfl rfl (fun hb => ?_) (fun hb => ?_)
  · have h := (if_pos hb).symm.trans h
    cases h
    exact Ev.fin rfl rfl
  · have h := (if_neg hb).symm.trans h
    refine Ev.run (pc' := 67) (ls' := [some (.ref 16), o1, none, some (.long x3), none, some (.int x5), o6, o7]) (st' := [.int (lg_cmp x3 (zl 0))]) (h' := mk s) 3 rfl ?_
    refine Ev.ifl_le (t := 115) rfl rfl (fun hb => ?_) (fun hb => ?_)
    · have h := (if_pos hb).symm.trans h
      cases h
      exact Ev.fin rfl rfl
    · have h := (if_neg hb).symm.trans h
      refine Ev.run (pc' := 76) (ls' := [some (.ref 16), o1, none, some (.long x3), none, some (.int x5), o6, o7]) (st' := [.int (zi 96), .int (s.1 16 1)]) (h' := mk s) 3 rfl ?_
      refine Ev.icmp_ge (t := 115) rfl rfl (fun hb => ?_) (fun hb => ?_)
      · have h := (if_pos hb).symm.trans h
        cases h
        exact Ev.fin rfl rfl
      · have h := (if_neg hb).symm.trans h
        refine Ev.run (pc' := 92) (ls' := [some (.ref 16), o1, none, some (.long x3), none, some (.int x5), o6, o7]) (st' := [.long (zremL x3 (zl 1000000000)), .int (s.1 16 1), .ref 17]) (h' := mk s) 7 rfl ?_
        obtain ⟨hx, h⟩ := zif h
        refine Ev.step (pc' := 93) rfl (ast_17 hx) ?_
        refine Ev.run (pc' := 106) (ls' := [some (.ref 16), o1, none, some (.long (x3 / (zl 1000000000))), none, some (.int x5), o6, o7]) (st' := [.int ((s.1 16 1) + (zi 1)), .ref 16]) (h' := mk (setK s 17 ((s.1 16 1).toNatClampNeg) (zremL x3 (zl 1000000000)))) 9 rfl ?_
        refine Ev.step (pc' := 109) rfl (put_8_1 rfl) ?_
        refine Ev.run (pc' := 58) (ls' := [some (.ref 16), o1, none, some (.long (x3 / (zl 1000000000))), none, some (.int (x5 + zi 1)), o6, o7]) (st' := []) (h' := mk (setI (setK s 17 ((s.1 16 1).toNatClampNeg) (zremL x3 (zl 1000000000))) 16 1 ((s.1 16 1) + (zi 1)))) 2 rfl ?_
        exact hrec58 (x3 / (zl 1000000000)) (x5 + zi 1) (setI (setK s 17 ((s.1 16 1).toNatClampNeg) (zremL x3 (zl 1000000000))) 16 1 ((s.1 16 1) + (zi 1))) _ _ _ _ h
def f115_58  : Nat → Int64 → Int32 → zS → Option (zS)
  | 0, _, _, _ => none
  | n + 1, x3, x5, s => b115_58 (f115_58 n) x3 x5 s
set_option maxRecDepth 100000 in
theorem k115_58 {X : mX} {D : Nat}   (n : Nat) : ∀ (x3 : Int64) (x5 : Int32) (s : zS) (r : zS) (o1 : Option Value) (o6 : Option Value) (o7 : Option Value), f115_58  n x3 x5 s = some r → Ev X D mm115 58 [some (.ref 16), o1, none, some (.long x3), none, some (.int x5), o6, o7] [] (mk s) (encV r) := by
  induction n with
  | zero => intro x3 x5 s r o1 o6 o7  h; cases h
  | succ n ih => intro x3 x5 s r o1 o6 o7  h; exact kb115_58  ih x3 x5 s r o1 o6 o7  h
def b115_5 (rec5 : Int64 → Int64 → Int32 → zS → Option (zS)) (x1 : Int64) (x3 : Int64) (x5 : Int32) (s : zS) : Option (zS) := if x5 ≥ (s.1 16 1) then f115_58 zF x3 (zi 0) s else if mIx x5 96 then if mIx x5 96 then rec5 x1 ((((s.2.1 17 x5.toNatClampNeg) * x1) + x3) / (zl 1000000000)) (x5 + zi 1) (setK s 17 x5.toNatClampNeg ((((s.2.1 17 x5.toNatClampNeg) * x1) + x3) - (((((s.2.1 17 x5.toNatClampNeg) * x1) + x3) / (zl 1000000000)) * (zl 1000000000)))) else none else none
set_option maxRecDepth 100000 in
theorem kb115_5 {X : mX} {D : Nat} {rec5 : Int64 → Int64 → Int32 → zS → Option (zS)} (hrec5 : ∀ (x1 : Int64) (x3 : Int64) (x5 : Int32) (s : zS) (r : zS) (o6 : Option Value) (o7 : Option Value), rec5 x1 x3 x5 s = some r → Ev X D mm115 5 [some (.ref 16), some (.long x1), none, some (.long x3), none, some (.int x5), o6, o7] [] (mk s) (encV r)) (x1 : Int64) (x3 : Int64) (x5 : Int32) (s : zS) (r : zS) (o6 : Option Value) (o7 : Option Value)  (h : b115_5 rec5 x1 x3 x5 s = some r) : Ev X D mm115 5 [some (.ref 16), some (.long x1), none, some (.long x3), none, some (.int x5), o6, o7] [] (mk s) (encV r) := by
  unfold b115_5 at h
  refine Ev.run (pc' := 11) (ls' := [some (.ref 16), some (.long x1), none, some (.long x3), none, some (.int x5), o6, o7]) (st' := [.int (s.1 16 1), .int x5]) (h' := mk s) 3 rfl ?_
  refine Ev.icmp_ge (t := 55) rfl rfl (fun hb => ?_) (fun hb => ?_)
  · have h := (if_pos hb).symm.trans h
    refine Ev.run (pc' := 58) (ls' := [some (.ref 16), some (.long x1), none, some (.long x3), none, some (.int (zi 0)), o6, o7]) (st' := []) (h' := mk s) 2 rfl ?_
    exact k115_58 zF x3 (zi 0) s _ _ _ _ h
  · have h := (if_neg hb).symm.trans h
    refine Ev.run (pc' := 20) (ls' := [some (.ref 16), some (.long x1), none, some (.long x3), none, some (.int x5), o6, o7]) (st' := [.int x5, .ref 17]) (h' := mk s) 3 rfl ?_
    obtain ⟨hx, h⟩ := zif h
    refine Ev.step (pc' := 21) rfl (ald_l rfl hx) ?_
    refine Ev.run (pc' := 48) (ls' := [some (.ref 16), some (.long x1), none, some (.long ((((s.2.1 17 x5.toNatClampNeg) * x1) + x3) / (zl 1000000000))), none, some (.int x5), some (.long (((s.2.1 17 x5.toNatClampNeg) * x1) + x3)), none]) (st' := [.long ((((s.2.1 17 x5.toNatClampNeg) * x1) + x3) - (((((s.2.1 17 x5.toNatClampNeg) * x1) + x3) / (zl 1000000000)) * (zl 1000000000))), .int x5, .ref 17]) (h' := mk s) 17 rfl ?_
    obtain ⟨hx, h⟩ := zif h
    refine Ev.step (pc' := 49) rfl (ast_17 hx) ?_
    refine Ev.run (pc' := 5) (ls' := [some (.ref 16), some (.long x1), none, some (.long ((((s.2.1 17 x5.toNatClampNeg) * x1) + x3) / (zl 1000000000))), none, some (.int (x5 + zi 1)), some (.long (((s.2.1 17 x5.toNatClampNeg) * x1) + x3)), none]) (st' := []) (h' := mk (setK s 17 x5.toNatClampNeg ((((s.2.1 17 x5.toNatClampNeg) * x1) + x3) - (((((s.2.1 17 x5.toNatClampNeg) * x1) + x3) / (zl 1000000000)) * (zl 1000000000))))) 2 rfl ?_
    exact hrec5 x1 ((((s.2.1 17 x5.toNatClampNeg) * x1) + x3) / (zl 1000000000)) (x5 + zi 1) (setK s 17 x5.toNatClampNeg ((((s.2.1 17 x5.toNatClampNeg) * x1) + x3) - (((((s.2.1 17 x5.toNatClampNeg) * x1) + x3) / (zl 1000000000)) * (zl 1000000000)))) _ _ _ h
def f115_5  : Nat → Int64 → Int64 → Int32 → zS → Option (zS)
  | 0, _, _, _, _ => none
  | n + 1, x1, x3, x5, s => b115_5 (f115_5 n) x1 x3 x5 s
set_option maxRecDepth 100000 in
theorem k115_5 {X : mX} {D : Nat}   (n : Nat) : ∀ (x1 : Int64) (x3 : Int64) (x5 : Int32) (s : zS) (r : zS) (o6 : Option Value) (o7 : Option Value), f115_5  n x1 x3 x5 s = some r → Ev X D mm115 5 [some (.ref 16), some (.long x1), none, some (.long x3), none, some (.int x5), o6, o7] [] (mk s) (encV r) := by
  induction n with
  | zero => intro x1 x3 x5 s r o6 o7  h; cases h
  | succ n ih => intro x1 x3 x5 s r o6 o7  h; exact kb115_5  ih x1 x3 x5 s r o6 o7  h
def f115  (x1 : Int64) (s : zS) : Option (zS) := f115_5 zF x1 (zl 0) (zi 0) s
set_option maxRecDepth 100000 in
theorem k115 {X : mX} {D : Nat} {x1 : Int64} {s : zS} {r : zS}  (h : f115 x1 s = some r) : Ev X D mm115 0 [some (.ref 16), some (.long x1), none, none, none, none, none, none] [] (mk s) (encV r) := by
  unfold f115 at h
  refine Ev.run (pc' := 5) (ls' := [some (.ref 16), some (.long x1), none, some (.long (zl 0)), none, some (.int (zi 0)), none, none]) (st' := []) (h' := mk s) 4 rfl ?_
  exact k115_5 zF x1 (zl 0) (zi 0) s _ _ _ h
/-! 116 F$Decimal.spread(I)V -/
def f116_54 (rec19 : Int32 → Int32 → Int32 → zS → Option (zS)) (x1 : Int32) (x2 : Int32) (x3 : Int32) (x4 : Int32) (s : zS) : Option (zS) := if mIx (s.1 16 3) 864 then rec19 x1 x2 (x3 + zi (-1)) (setI (setB s 18 ((s.1 16 3).toNatClampNeg) (zI2B (zI2B x4))) 16 3 ((s.1 16 3) + (zi 1))) else none
set_option maxRecDepth 100000 in
theorem k116_54 {X : mX} {D : Nat} {rec19 : Int32 → Int32 → Int32 → zS → Option (zS)} (hrec19 : ∀ (x1 : Int32) (x2 : Int32) (x3 : Int32) (s : zS) (r : zS) (o4 : Option Value), rec19 x1 x2 x3 s = some r → Ev X D mm116 19 [some (.ref 16), some (.int x1), some (.int x2), some (.int x3), o4] [] (mk s) (encV r)) (x1 : Int32) (x2 : Int32) (x3 : Int32) (x4 : Int32) (s : zS) (r : zS)   (h : f116_54 rec19 x1 x2 x3 x4 s = some r) : Ev X D mm116 54 [some (.ref 16), some (.int x1), some (.int x2), some (.int x3), some (.int x4)] [] (mk s) (encV r) := by
  unfold f116_54 at h
  refine Ev.run (pc' := 65) (ls' := [some (.ref 16), some (.int x1), some (.int x2), some (.int x3), some (.int x4)]) (st' := [.int (zI2B x4), .int (s.1 16 3), .ref 18]) (h' := mk s) 6 rfl ?_
  obtain ⟨hx, h⟩ := zif h
  refine Ev.step (pc' := 66) rfl (ast_18 hx) ?_
  refine Ev.run (pc' := 73) (ls' := [some (.ref 16), some (.int x1), some (.int x2), some (.int x3), some (.int x4)]) (st' := [.int ((s.1 16 3) + (zi 1)), .ref 16]) (h' := mk (setB s 18 ((s.1 16 3).toNatClampNeg) (zI2B (zI2B x4)))) 5 rfl ?_
  refine Ev.step (pc' := 76) rfl (put_8_3 rfl) ?_
  refine Ev.run (pc' := 19) (ls' := [some (.ref 16), some (.int x1), some (.int x2), some (.int (x3 + zi (-1))), some (.int x4)]) (st' := []) (h' := mk (setI (setB s 18 ((s.1 16 3).toNatClampNeg) (zI2B (zI2B x4))) 16 3 ((s.1 16 3) + (zi 1)))) 2 rfl ?_
  exact hrec19 x1 x2 (x3 + zi (-1)) (setI (setB s 18 ((s.1 16 3).toNatClampNeg) (zI2B (zI2B x4))) 16 3 ((s.1 16 3) + (zi 1))) _ _ h
def b116_19 (rec12 : Int32 → Int32 → zS → Option (zS)) (rec19 : Int32 → Int32 → Int32 → zS → Option (zS)) (x1 : Int32) (x2 : Int32) (x3 : Int32) (s : zS) : Option (zS) := if x3 < zi 0 then rec12 x1 (x2 + zi (-1)) s else if mIx x2 96 then if mIx x3 19 then if ¬ (mTens x3.toNatClampNeg) = zl 0 then if (s.1 16 3) > zi 0 then f116_54 rec19 x1 x2 x3 (zL2I (zremL ((s.2.1 17 x2.toNatClampNeg) / (mTens x3.toNatClampNeg)) (zl 10))) s else if (zL2I (zremL ((s.2.1 17 x2.toNatClampNeg) / (mTens x3.toNatClampNeg)) (zl 10))) ≤ zi 0 then rec19 x1 x2 (x3 + zi (-1)) s else f116_54 rec19 x1 x2 x3 (zL2I (zremL ((s.2.1 17 x2.toNatClampNeg) / (mTens x3.toNatClampNeg)) (zl 10))) s else none else none else none
set_option maxRecDepth 100000 in
theorem kb116_19 {X : mX} {D : Nat} {rec12 : Int32 → Int32 → zS → Option (zS)} {rec19 : Int32 → Int32 → Int32 → zS → Option (zS)} (hrec12 : ∀ (x1 : Int32) (x2 : Int32) (s : zS) (r : zS) (o3 : Option Value) (o4 : Option Value), rec12 x1 x2 s = some r → Ev X D mm116 12 [some (.ref 16), some (.int x1), some (.int x2), o3, o4] [] (mk s) (encV r)) (hrec19 : ∀ (x1 : Int32) (x2 : Int32) (x3 : Int32) (s : zS) (r : zS) (o4 : Option Value), rec19 x1 x2 x3 s = some r → Ev X D mm116 19 [some (.ref 16), some (.int x1), some (.int x2), some (.int x3), o4] [] (mk s) (encV r)) (x1 : Int32) (x2 : Int32) (x3 : Int32) (s : zS) (r : zS) (o4 : Option Value)  (h : b116_19 rec12 rec19 x1 x2 x3 s = some r) : Ev X D mm116 19 [some (.ref 16), some (.int x1), some (.int x2), some (.int x3), o4] [] (mk s) (encV r) := by
  unfold b116_19 at h
  refine Ev.run (pc' := 20) (ls' := [some (.ref 16), some (.int x1), some (.int x2), some (.int x3), o4]) (st' := [.int x3]) (h' := mk s) 1 rfl ?_
  refine Ev.if_lt (t := 82) rfl rfl (fun hb => ?_) (fun hb => ?_)
  · have h := (if_pos hb).symm.trans h
    refine Ev.run (pc' := 12) (ls' := [some (.ref 16), some (.int x1), some (.int (x2 + zi (-1))), some (.int x3), o4]) (st' := []) (h' := mk s) 2 rfl ?_
    exact hrec12 x1 (x2 + zi (-1)) s _ _ _ h
  · have h := (if_neg hb).symm.trans h
    refine Ev.run (pc' := 28) (ls' := [some (.ref 16), some (.int x1), some (.int x2), some (.int x3), o4]) (st' := [.int x2, .ref 17]) (h' := mk s) 3 rfl ?_
    obtain ⟨hx, h⟩ := zif h
    refine Ev.step (pc' := 29) rfl (ald_l rfl hx) ?_
    refine Ev.run (pc' := 33) (ls' := [some (.ref 16), some (.int x1), some (.int x2), some (.int x3), o4]) (st' := [.int x3, .ref (mRO + 1), .long (s.2.1 17 x2.toNatClampNeg)]) (h' := mk s) 2 rfl ?_
    obtain ⟨hx, h⟩ := zif h
    refine Ev.step (pc' := 34) rfl (ald_l rfl hx) ?_
    obtain ⟨hx, h⟩ := zif h
    refine Ev.step (pc' := 35) rfl (ldiv_ok hx) ?_
    refine Ev.run (pc' := 46) (ls' := [some (.ref 16), some (.int x1), some (.int x2), some (.int x3), some (.int (zL2I (zremL ((s.2.1 17 x2.toNatClampNeg) / (mTens x3.toNatClampNeg)) (zl 10))))]) (st' := [.int (s.1 16 3)]) (h' := mk s) 6 rfl ?_
    refine Ev.if_gt (t := 54) rfl rfl (fun hb => ?_) (fun hb => ?_)
    · have h := (if_pos hb).symm.trans h
      exact k116_54 hrec19 x1 x2 x3 (zL2I (zremL ((s.2.1 17 x2.toNatClampNeg) / (mTens x3.toNatClampNeg)) (zl 10))) s _ h
    · have h := (if_neg hb).symm.trans h
      refine Ev.run (pc' := 51) (ls' := [some (.ref 16), some (.int x1), some (.int x2), some (.int x3), some (.int (zL2I (zremL ((s.2.1 17 x2.toNatClampNeg) / (mTens x3.toNatClampNeg)) (zl 10))))]) (st' := [.int (zL2I (zremL ((s.2.1 17 x2.toNatClampNeg) / (mTens x3.toNatClampNeg)) (zl 10)))]) (h' := mk s) 1 rfl ?_
      refine Ev.if_le (t := 76) rfl rfl (fun hb => ?_) (fun hb => ?_)
      · have h := (if_pos hb).symm.trans h
        refine Ev.run (pc' := 19) (ls' := [some (.ref 16), some (.int x1), some (.int x2), some (.int (x3 + zi (-1))), some (.int (zL2I (zremL ((s.2.1 17 x2.toNatClampNeg) / (mTens x3.toNatClampNeg)) (zl 10))))]) (st' := []) (h' := mk s) 2 rfl ?_
        exact hrec19 x1 x2 (x3 + zi (-1)) s _ _ h
      · have h := (if_neg hb).symm.trans h
        exact k116_54 hrec19 x1 x2 x3 (zL2I (zremL ((s.2.1 17 x2.toNatClampNeg) / (mTens x3.toNatClampNeg)) (zl 10))) s _ h
def f116_19 (rec12 : Int32 → Int32 → zS → Option (zS)) : Nat → Int32 → Int32 → Int32 → zS → Option (zS)
  | 0, _, _, _, _ => none
  | n + 1, x1, x2, x3, s => b116_19 rec12 (f116_19 rec12 n) x1 x2 x3 s
set_option maxRecDepth 100000 in
theorem k116_19 {X : mX} {D : Nat} {rec12 : Int32 → Int32 → zS → Option (zS)} (hrec12 : ∀ (x1 : Int32) (x2 : Int32) (s : zS) (r : zS) (o3 : Option Value) (o4 : Option Value), rec12 x1 x2 s = some r → Ev X D mm116 12 [some (.ref 16), some (.int x1), some (.int x2), o3, o4] [] (mk s) (encV r)) (n : Nat) : ∀ (x1 : Int32) (x2 : Int32) (x3 : Int32) (s : zS) (r : zS) (o4 : Option Value), f116_19 rec12 n x1 x2 x3 s = some r → Ev X D mm116 19 [some (.ref 16), some (.int x1), some (.int x2), some (.int x3), o4] [] (mk s) (encV r) := by
  induction n with
  | zero => intro x1 x2 x3 s r o4  h; cases h
  | succ n ih => intro x1 x2 x3 s r o4  h; exact kb116_19  hrec12 ih x1 x2 x3 s r o4  h
def b116_12 (rec12 : Int32 → Int32 → zS → Option (zS)) (x1 : Int32) (x2 : Int32) (s : zS) : Option (zS) := if x2 < zi 0 then if ¬ (s.1 16 3) = zi 0 then some (setI s 16 4 ((s.1 16 3) + x1)) else some (setI s 16 4 (zi 1)) else f116_19 rec12 zF x1 x2 (zi 8) s
set_option maxRecDepth 100000 in
theorem kb116_12 {X : mX} {D : Nat} {rec12 : Int32 → Int32 → zS → Option (zS)} (hrec12 : ∀ (x1 : Int32) (x2 : Int32) (s : zS) (r : zS) (o3 : Option Value) (o4 : Option Value), rec12 x1 x2 s = some r → Ev X D mm116 12 [some (.ref 16), some (.int x1), some (.int x2), o3, o4] [] (mk s) (encV r)) (x1 : Int32) (x2 : Int32) (s : zS) (r : zS) (o3 : Option Value) (o4 : Option Value)  (h : b116_12 rec12 x1 x2 s = some r) : Ev X D mm116 12 [some (.ref 16), some (.int x1), some (.int x2), o3, o4] [] (mk s) (encV r) := by
  unfold b116_12 at h
  refine Ev.run (pc' := 13) (ls' := [some (.ref 16), some (.int x1), some (.int x2), o3, o4]) (st' := [.int x2]) (h' := mk s) 1 rfl ?_
  refine Ev.if_lt (t := 88) rfl rfl (fun hb => ?_) (fun hb => ?_)
  · have h := (if_pos hb).symm.trans h
    refine Ev.run (pc' := 93) (ls' := [some (.ref 16), some (.int x1), some (.int x2), o3, o4]) (st' := [.int (s.1 16 3), .ref 16]) (h' := mk s) 3 rfl ?_
    refine Ev.if_ne (t := 100) rfl rfl (fun hb => ?_) (fun hb => ?_)
    · have h := (if_pos hb).symm.trans h
      refine Ev.run (pc' := 106) (ls' := [some (.ref 16), some (.int x1), some (.int x2), o3, o4]) (st' := [.int ((s.1 16 3) + x1), .ref 16]) (h' := mk s) 4 rfl ?_
      refine Ev.step (pc' := 109) rfl (put_8_4 rfl) ?_
      cases h
      exact Ev.fin rfl rfl
    · have h := (if_neg hb).symm.trans h
      refine Ev.run (pc' := 106) (ls' := [some (.ref 16), some (.int x1), some (.int x2), o3, o4]) (st' := [.int (zi 1), .ref 16]) (h' := mk s) 2 rfl ?_
      refine Ev.step (pc' := 109) rfl (put_8_4 rfl) ?_
      cases h
      exact Ev.fin rfl rfl
  · have h := (if_neg hb).symm.trans h
    refine Ev.run (pc' := 19) (ls' := [some (.ref 16), some (.int x1), some (.int x2), some (.int (zi 8)), o4]) (st' := []) (h' := mk s) 2 rfl ?_
    exact k116_19 hrec12 zF x1 x2 (zi 8) s _ _ h
def f116_12  : Nat → Int32 → Int32 → zS → Option (zS)
  | 0, _, _, _ => none
  | n + 1, x1, x2, s => b116_12 (f116_12 n) x1 x2 s
set_option maxRecDepth 100000 in
theorem k116_12 {X : mX} {D : Nat}   (n : Nat) : ∀ (x1 : Int32) (x2 : Int32) (s : zS) (r : zS) (o3 : Option Value) (o4 : Option Value), f116_12  n x1 x2 s = some r → Ev X D mm116 12 [some (.ref 16), some (.int x1), some (.int x2), o3, o4] [] (mk s) (encV r) := by
  induction n with
  | zero => intro x1 x2 s r o3 o4  h; cases h
  | succ n ih => intro x1 x2 s r o3 o4  h; exact kb116_12  ih x1 x2 s r o3 o4  h
def f116  (x1 : Int32) (s : zS) : Option (zS) := f116_12 zF x1 ((s.1 16 1) - (zi 1)) (setI s 16 3 (zi 0))
set_option maxRecDepth 100000 in
theorem k116 {X : mX} {D : Nat} {x1 : Int32} {s : zS} {r : zS}  (h : f116 x1 s = some r) : Ev X D mm116 0 [some (.ref 16), some (.int x1), none, none, none] [] (mk s) (encV r) := by
  unfold f116 at h
  refine Ev.run (pc' := 2) (ls' := [some (.ref 16), some (.int x1), none, none, none]) (st' := [.int (zi 0), .ref 16]) (h' := mk s) 2 rfl ?_
  refine Ev.step (pc' := 5) rfl (put_8_3 rfl) ?_
  refine Ev.run (pc' := 12) (ls' := [some (.ref 16), some (.int x1), some (.int ((s.1 16 1) - (zi 1))), none, none]) (st' := []) (h' := mk (setI s 16 3 (zi 0))) 5 rfl ?_
  exact k116_12 zF x1 ((s.1 16 1) - (zi 1)) (setI s 16 3 (zi 0)) _ _ _ h
/-! 113 F$Decimal.load(JI)V -/
def b113_149 (rec149 : Int32 → Int32 → Int32 → Int32 → zS → Option (zS)) (x6 : Int32) (x7 : Int32) (x8 : Int32) (x9 : Int32) (s : zS) : Option (zS) := if x9 ≤ zi 0 then zb0 (f116 (r265 x6 (zi 0) s) s) (fun s1 => some s1) else zb1 (f114 x7 (r265 x9 x8 s) s) (fun v3 s2 => zb0 (f115 v3 s2) (fun s4 => rec149 x6 x7 x8 (x9 - x8) s4))
set_option maxRecDepth 100000 in
theorem kb113_149 {X : mX} {D : Nat} {rec149 : Int32 → Int32 → Int32 → Int32 → zS → Option (zS)} (hrec149 : ∀ (x6 : Int32) (x7 : Int32) (x8 : Int32) (x9 : Int32) (s : zS) (r : zS) (o1 : Option Value) (o2 : Option Value) (o3 : Option Value) (o4 : Option Value) (o5 : Option Value), rec149 x6 x7 x8 x9 s = some r → Ev X (D + 1) mm113 149 [some (.ref 16), o1, o2, o3, o4, o5, some (.int x6), some (.int x7), some (.int x8), some (.int x9)] [] (mk s) (encV r)) (x6 : Int32) (x7 : Int32) (x8 : Int32) (x9 : Int32) (s : zS) (r : zS) (o1 : Option Value) (o2 : Option Value) (o3 : Option Value) (o4 : Option Value) (o5 : Option Value)  (h : b113_149 rec149 x6 x7 x8 x9 s = some r) : Ev X (D + 1) mm113 149 [some (.ref 16), o1, o2, o3, o4, o5, some (.int x6), some (.int x7), some (.int x8), some (.int x9)] [] (mk s) (encV r) := by
  unfold b113_149 at h
  refine Ev.run (pc' := 151) (ls' := [some (.ref 16), o1, o2, o3, o4, o5, some (.int x6), some (.int x7), some (.int x8), some (.int x9)]) (st' := [.int x9]) (h' := mk s) 1 rfl ?_
  refine Ev.if_le (t := 180) rfl rfl (fun hb => ?_) (fun hb => ?_)
  · have h := (if_pos hb).symm.trans h
    refine Ev.run (pc' := 184) (ls' := [some (.ref 16), o1, o2, o3, o4, o5, some (.int x6), some (.int x7), some (.int x8), some (.int x9)]) (st' := [.int (zi 0), .int x6, .ref 16]) (h' := mk s) 3 rfl ?_
    refine Ev.call (M' := mm265) (v := some (.int (r265 x6 (zi 0) s))) (h' := mk s) rfl rfl rfl (Nat.le_of_ble_eq_true rfl) (k265 (x0 := x6) (x1 := (zi 0)) (s := s) (v := r265 x6 (zi 0) s)  rfl) ?_
    obtain ⟨s1, hq, h⟩ := zb0_some h
    refine Ev.call (M' := mm116) (v := none) (h' := mk s1) rfl rfl rfl (Nat.le_of_ble_eq_true rfl) (k116 hq) ?_
    cases h
    exact Ev.fin rfl rfl
  · have h := (if_neg hb).symm.trans h
    refine Ev.run (pc' := 161) (ls' := [some (.ref 16), o1, o2, o3, o4, o5, some (.int x6), some (.int x7), some (.int x8), some (.int x9)]) (st' := [.int x8, .int x9, .int x7, .ref 16]) (h' := mk s) 4 rfl ?_
    refine Ev.call (M' := mm265) (v := some (.int (r265 x9 x8 s))) (h' := mk s) rfl rfl rfl (Nat.le_of_ble_eq_true rfl) (k265 (x0 := x9) (x1 := x8) (s := s) (v := r265 x9 x8 s)  rfl) ?_
    obtain ⟨v3, s2, hq, h⟩ := zb1_some h
    refine Ev.call (M' := mm114) (v := some (.long v3)) (h' := mk s2) rfl rfl rfl (Nat.le_of_ble_eq_true rfl) (k114 hq) ?_
    obtain ⟨s4, hq, h⟩ := zb0_some h
    refine Ev.call (M' := mm115) (v := none) (h' := mk s4) rfl rfl rfl (Nat.le_of_ble_eq_true rfl) (k115 hq) ?_
    refine Ev.run (pc' := 149) (ls' := [some (.ref 16), o1, o2, o3, o4, o5, some (.int x6), some (.int x7), some (.int x8), some (.int (x9 - x8))]) (st' := []) (h' := mk s4) 5 rfl ?_
    exact hrec149 x6 x7 x8 (x9 - x8) s4 _ _ _ _ _ _ h
def f113_149  : Nat → Int32 → Int32 → Int32 → Int32 → zS → Option (zS)
  | 0, _, _, _, _, _ => none
  | n + 1, x6, x7, x8, x9, s => b113_149 (f113_149 n) x6 x7 x8 x9 s
set_option maxRecDepth 100000 in
theorem k113_149 {X : mX} {D : Nat}   (n : Nat) : ∀ (x6 : Int32) (x7 : Int32) (x8 : Int32) (x9 : Int32) (s : zS) (r : zS) (o1 : Option Value) (o2 : Option Value) (o3 : Option Value) (o4 : Option Value) (o5 : Option Value), f113_149  n x6 x7 x8 x9 s = some r → Ev X (D + 1) mm113 149 [some (.ref 16), o1, o2, o3, o4, o5, some (.int x6), some (.int x7), some (.int x8), some (.int x9)] [] (mk s) (encV r) := by
  induction n with
  | zero => intro x6 x7 x8 x9 s r o1 o2 o3 o4 o5  h; cases h
  | succ n ih => intro x6 x7 x8 x9 s r o1 o2 o3 o4 o5  h; exact kb113_149  ih x6 x7 x8 x9 s r o1 o2 o3 o4 o5  h
def f113_140  (x6 : Int32) (x7 : Int32) (y0 : Int32) (s : zS) : Option (zS) := f113_149 zF x6 x7 y0 (r263 x6 s) s
set_option maxRecDepth 100000 in
theorem k113_140 {X : mX} {D : Nat}   (x6 : Int32) (x7 : Int32) (y0 : Int32) (s : zS) (r : zS) (o1 : Option Value) (o2 : Option Value) (o3 : Option Value) (o4 : Option Value) (o5 : Option Value) (o8 : Option Value) (o9 : Option Value)  (h : f113_140  x6 x7 y0 s = some r) : Ev X (D + 1) mm113 140 [some (.ref 16), o1, o2, o3, o4, o5, some (.int x6), some (.int x7), o8, o9] [.int y0] (mk s) (encV r) := by
  unfold f113_140 at h
  refine Ev.run (pc' := 144) (ls' := [some (.ref 16), o1, o2, o3, o4, o5, some (.int x6), some (.int x7), some (.int y0), o9]) (st' := [.int x6]) (h' := mk s) 2 rfl ?_
  refine Ev.call (M' := mm263) (v := some (.int (r263 x6 s))) (h' := mk s) rfl rfl rfl (Nat.le_of_ble_eq_true rfl) (k263 (x0 := x6) (s := s) (v := r263 x6 s)  rfl) ?_
  refine Ev.run (pc' := 149) (ls' := [some (.ref 16), o1, o2, o3, o4, o5, some (.int x6), some (.int x7), some (.int y0), some (.int (r263 x6 s))]) (st' := []) (h' := mk s) 1 rfl ?_
  exact k113_149 zF x6 x7 y0 (r263 x6 s) s _ _ _ _ _ _ h
def f113_126  (x6 : Int32) (y0 : Int32) (s : zS) : Option (zS) := if x6 ≥ zi 0 then f113_140 x6 y0 (zi 30) s else f113_140 x6 y0 (zi 13) s
set_option maxRecDepth 100000 in
theorem k113_126 {X : mX} {D : Nat}   (x6 : Int32) (y0 : Int32) (s : zS) (r : zS) (o1 : Option Value) (o2 : Option Value) (o3 : Option Value) (o4 : Option Value) (o5 : Option Value) (o7 : Option Value) (o8 : Option Value) (o9 : Option Value)  (h : f113_126  x6 y0 s = some r) : Ev X (D + 1) mm113 126 [some (.ref 16), o1, o2, o3, o4, o5, some (.int x6), o7, o8, o9] [.int y0] (mk s) (encV r) := by
  unfold f113_126 at h
  refine Ev.run (pc' := 130) (ls' := [some (.ref 16), o1, o2, o3, o4, o5, some (.int x6), some (.int y0), o8, o9]) (st' := [.int x6]) (h' := mk s) 2 rfl ?_
  refine Ev.if_ge (t := 138) rfl rfl (fun hb => ?_) (fun hb => ?_)
  · have h := (if_pos hb).symm.trans h
    refine Ev.run (pc' := 140) (ls' := [some (.ref 16), o1, o2, o3, o4, o5, some (.int x6), some (.int y0), o8, o9]) (st' := [.int (zi 30)]) (h' := mk s) 1 rfl ?_
    exact k113_140 x6 y0 (zi 30) s _ _ _ _ _ _ _ _ h
  · have h := (if_neg hb).symm.trans h
    refine Ev.run (pc' := 140) (ls' := [some (.ref 16), o1, o2, o3, o4, o5, some (.int x6), some (.int y0), o8, o9]) (st' := [.int (zi 13)]) (h' := mk s) 2 rfl ?_
    exact k113_140 x6 y0 (zi 13) s _ _ _ _ _ _ _ _ h
def f113_116  (x6 : Int32) (s : zS) : Option (zS) := if x6 ≥ zi 0 then f113_126 x6 (zi 2) s else f113_126 x6 (zi 5) s
set_option maxRecDepth 100000 in
theorem k113_116 {X : mX} {D : Nat}   (x6 : Int32) (s : zS) (r : zS) (o1 : Option Value) (o2 : Option Value) (o3 : Option Value) (o4 : Option Value) (o5 : Option Value) (o7 : Option Value) (o8 : Option Value) (o9 : Option Value)  (h : f113_116  x6 s = some r) : Ev X (D + 1) mm113 116 [some (.ref 16), o1, o2, o3, o4, o5, some (.int x6), o7, o8, o9] [] (mk s) (encV r) := by
  unfold f113_116 at h
  refine Ev.run (pc' := 118) (ls' := [some (.ref 16), o1, o2, o3, o4, o5, some (.int x6), o7, o8, o9]) (st' := [.int x6]) (h' := mk s) 1 rfl ?_
  refine Ev.if_ge (t := 125) rfl rfl (fun hb => ?_) (fun hb => ?_)
  · have h := (if_pos hb).symm.trans h
    refine Ev.run (pc' := 126) (ls' := [some (.ref 16), o1, o2, o3, o4, o5, some (.int x6), o7, o8, o9]) (st' := [.int (zi 2)]) (h' := mk s) 1 rfl ?_
    exact k113_126 x6 (zi 2) s _ _ _ _ _ _ _ _ _ h
  · have h := (if_neg hb).symm.trans h
    refine Ev.run (pc' := 126) (ls' := [some (.ref 16), o1, o2, o3, o4, o5, some (.int x6), o7, o8, o9]) (st' := [.int (zi 5)]) (h' := mk s) 2 rfl ?_
    exact k113_126 x6 (zi 5) s _ _ _ _ _ _ _ _ _ h
def b113_65 (rec65 : Int32 → Int64 → zS → Option (zS)) (x6 : Int32) (x7 : Int64) (s : zS) : Option (zS) := if x7 ≤ (zl 0) then f113_116 x6 s else if (s.1 16 1) ≥ (zi 3) then f113_116 x6 s else if mIx (s.1 16 1) 96 then rec65 x6 (x7 / (zl 1000000000)) (setI (setK s 17 ((s.1 16 1).toNatClampNeg) (zremL x7 (zl 1000000000))) 16 1 ((s.1 16 1) + (zi 1))) else none
set_option maxRecDepth 100000 in
theorem kb113_65 {X : mX} {D : Nat} {rec65 : Int32 → Int64 → zS → Option (zS)} (hrec65 : ∀ (x6 : Int32) (x7 : Int64) (s : zS) (r : zS) (o1 : Option Value) (o2 : Option Value) (o3 : Option Value) (o4 : Option Value) (o5 : Option Value) (o9 : Option Value), rec65 x6 x7 s = some r → Ev X (D + 1) mm113 65 [some (.ref 16), o1, o2, o3, o4, o5, some (.int x6), some (.long x7), none, o9] [] (mk s) (encV r)) (x6 : Int32) (x7 : Int64) (s : zS) (r : zS) (o1 : Option Value) (o2 : Option Value) (o3 : Option Value) (o4 : Option Value) (o5 : Option Value) (o9 : Option Value)  (h : b113_65 rec65 x6 x7 s = some r) : Ev X (D + 1) mm113 65 [some (.ref 16), o1, o2, o3, o4, o5, some (.int x6), some (.long x7), none, o9] [] (mk s) (encV r) := by
  unfold b113_65 at h
  refine Ev.run (pc' := 69) (ls' := [some (.ref 16), o1, o2, o3, o4, o5, some (.int x6), some (.long x7), none, o9]) (st' := [.int (lg_cmp x7 (zl 0))]) (h' := mk s) 3 rfl ?_
  refine Ev.ifl_le (t := 116) rfl rfl (fun hb => ?_) (fun hb => ?_)
  · have h := (if_pos hb).symm.trans h
    exact k113_116 x6 s _ _ _ _ _ _ _ _ _ h
  · have h := (if_neg hb).symm.trans h
    refine Ev.run (pc' := 77) (ls' := [some (.ref 16), o1, o2, o3, o4, o5, some (.int x6), some (.long x7), none, o9]) (st' := [.int (zi 3), .int (s.1 16 1)]) (h' := mk s) 3 rfl ?_
    refine Ev.icmp_ge (t := 116) rfl rfl (fun hb => ?_) (fun hb => ?_)
    · have h := (if_pos hb).symm.trans h
      exact k113_116 x6 s _ _ _ _ _ _ _ _ _ h
    · have h := (if_neg hb).symm.trans h
      refine Ev.run (pc' := 94) (ls' := [some (.ref 16), o1, o2, o3, o4, o5, some (.int x6), some (.long x7), none, o9]) (st' := [.long (zremL x7 (zl 1000000000)), .int (s.1 16 1), .ref 17]) (h' := mk s) 7 rfl ?_
      obtain ⟨hx, h⟩ := zif h
      refine Ev.step (pc' := 95) rfl (ast_17 hx) ?_
      refine Ev.run (pc' := 102) (ls' := [some (.ref 16), o1, o2, o3, o4, o5, some (.int x6), some (.long x7), none, o9]) (st' := [.int ((s.1 16 1) + (zi 1)), .ref 16]) (h' := mk (setK s 17 ((s.1 16 1).toNatClampNeg) (zremL x7 (zl 1000000000)))) 5 rfl ?_
      refine Ev.step (pc' := 105) rfl (put_8_1 rfl) ?_
      refine Ev.run (pc' := 65) (ls' := [some (.ref 16), o1, o2, o3, o4, o5, some (.int x6), some (.long (x7 / (zl 1000000000))), none, o9]) (st' := []) (h' := mk (setI (setK s 17 ((s.1 16 1).toNatClampNeg) (zremL x7 (zl 1000000000))) 16 1 ((s.1 16 1) + (zi 1)))) 5 rfl ?_
      exact hrec65 x6 (x7 / (zl 1000000000)) (setI (setK s 17 ((s.1 16 1).toNatClampNeg) (zremL x7 (zl 1000000000))) 16 1 ((s.1 16 1) + (zi 1))) _ _ _ _ _ _ _ h
def f113_65  : Nat → Int32 → Int64 → zS → Option (zS)
  | 0, _, _, _ => none
  | n + 1, x6, x7, s => b113_65 (f113_65 n) x6 x7 s
set_option maxRecDepth 100000 in
theorem k113_65 {X : mX} {D : Nat}   (n : Nat) : ∀ (x6 : Int32) (x7 : Int64) (s : zS) (r : zS) (o1 : Option Value) (o2 : Option Value) (o3 : Option Value) (o4 : Option Value) (o5 : Option Value) (o9 : Option Value), f113_65  n x6 x7 s = some r → Ev X (D + 1) mm113 65 [some (.ref 16), o1, o2, o3, o4, o5, some (.int x6), some (.long x7), none, o9] [] (mk s) (encV r) := by
  induction n with
  | zero => intro x6 x7 s r o1 o2 o3 o4 o5 o9  h; cases h
  | succ n ih => intro x6 x7 s r o1 o2 o3 o4 o5 o9  h; exact kb113_65  ih x6 x7 s r o1 o2 o3 o4 o5 o9  h
def b113_9 (rec9 : Int32 → Int64 → Int32 → Int32 → zS → Option (zS)) (x3 : Int32) (x4 : Int64) (x6 : Int32) (x7 : Int32) (s : zS) : Option (zS) := if x7 ≥ (zi 64) then f113_65 zF x6 x4 (setI s 16 1 (zi 0)) else if x6 ≥ zi 0 then f113_65 zF x6 x4 (setI s 16 1 (zi 0)) else if x4 = (zl 0) then f113_65 zF x6 x4 (setI s 16 1 (zi 0)) else if ¬ (zremL x4 (zl 2)) = (zl 0) then f113_65 zF x6 x4 (setI s 16 1 (zi 0)) else rec9 x3 (x4 / (zl 2)) (x6 + zi 1) (x7 + zi 1) s
set_option maxRecDepth 100000 in
theorem kb113_9 {X : mX} {D : Nat} {rec9 : Int32 → Int64 → Int32 → Int32 → zS → Option (zS)} (hrec9 : ∀ (x3 : Int32) (x4 : Int64) (x6 : Int32) (x7 : Int32) (s : zS) (r : zS) (o1 : Option Value) (o2 : Option Value) (o8 : Option Value) (o9 : Option Value), rec9 x3 x4 x6 x7 s = some r → Ev X (D + 1) mm113 9 [some (.ref 16), o1, o2, some (.int x3), some (.long x4), none, some (.int x6), some (.int x7), o8, o9] [] (mk s) (encV r)) (x3 : Int32) (x4 : Int64) (x6 : Int32) (x7 : Int32) (s : zS) (r : zS) (o1 : Option Value) (o2 : Option Value) (o8 : Option Value) (o9 : Option Value)  (h : b113_9 rec9 x3 x4 x6 x7 s = some r) : Ev X (D + 1) mm113 9 [some (.ref 16), o1, o2, some (.int x3), some (.long x4), none, some (.int x6), some (.int x7), o8, o9] [] (mk s) (encV r) := by
  unfold b113_9 at h
  refine Ev.run (pc' := 13) (ls' := [some (.ref 16), o1, o2, some (.int x3), some (.long x4), none, some (.int x6), some (.int x7), o8, o9]) (st' := [.int (zi 64), .int x7]) (h' := mk s) 2 rfl ?_
  refine Ev.icmp_ge (t := 56) rfl rfl (fun hb => ?_) (fun hb => ?_)
  · have h := (if_pos hb).symm.trans h
    refine Ev.run (pc' := 58) (ls' := [some (.ref 16), o1, o2, some (.int x3), some (.long x4), none, some (.int x6), some (.int x7), o8, o9]) (st' := [.int (zi 0), .ref 16]) (h' := mk s) 2 rfl ?_
    refine Ev.step (pc' := 61) rfl (put_8_1 rfl) ?_
    refine Ev.run (pc' := 65) (ls' := [some (.ref 16), o1, o2, some (.int x3), some (.long x4), none, some (.int x6), some (.long x4), none, o9]) (st' := []) (h' := mk (setI s 16 1 (zi 0))) 2 rfl ?_
    exact k113_65 zF x6 x4 (setI s 16 1 (zi 0)) _ _ _ _ _ _ _ h
  · have h := (if_neg hb).symm.trans h
    refine Ev.run (pc' := 18) (ls' := [some (.ref 16), o1, o2, some (.int x3), some (.long x4), none, some (.int x6), some (.int x7), o8, o9]) (st' := [.int x6]) (h' := mk s) 1 rfl ?_
    refine Ev.if_ge (t := 56) rfl rfl (fun hb => ?_) (fun hb => ?_)
    · have h := (if_pos hb).symm.trans h
      refine Ev.run (pc' := 58) (ls' := [some (.ref 16), o1, o2, some (.int x3), some (.long x4), none, some (.int x6), some (.int x7), o8, o9]) (st' := [.int (zi 0), .ref 16]) (h' := mk s) 2 rfl ?_
      refine Ev.step (pc' := 61) rfl (put_8_1 rfl) ?_
      refine Ev.run (pc' := 65) (ls' := [some (.ref 16), o1, o2, some (.int x3), some (.long x4), none, some (.int x6), some (.long x4), none, o9]) (st' := []) (h' := mk (setI s 16 1 (zi 0))) 2 rfl ?_
      exact k113_65 zF x6 x4 (setI s 16 1 (zi 0)) _ _ _ _ _ _ _ h
    · have h := (if_neg hb).symm.trans h
      refine Ev.run (pc' := 25) (ls' := [some (.ref 16), o1, o2, some (.int x3), some (.long x4), none, some (.int x6), some (.int x7), o8, o9]) (st' := [.int (lg_cmp x4 (zl 0))]) (h' := mk s) 3 rfl ?_
      refine Ev.ifl_eq (t := 56) rfl rfl (fun hb => ?_) (fun hb => ?_)
      · have h := (if_pos hb).symm.trans h
        refine Ev.run (pc' := 58) (ls' := [some (.ref 16), o1, o2, some (.int x3), some (.long x4), none, some (.int x6), some (.int x7), o8, o9]) (st' := [.int (zi 0), .ref 16]) (h' := mk s) 2 rfl ?_
        refine Ev.step (pc' := 61) rfl (put_8_1 rfl) ?_
        refine Ev.run (pc' := 65) (ls' := [some (.ref 16), o1, o2, some (.int x3), some (.long x4), none, some (.int x6), some (.long x4), none, o9]) (st' := []) (h' := mk (setI s 16 1 (zi 0))) 2 rfl ?_
        exact k113_65 zF x6 x4 (setI s 16 1 (zi 0)) _ _ _ _ _ _ _ h
      · have h := (if_neg hb).symm.trans h
        refine Ev.run (pc' := 36) (ls' := [some (.ref 16), o1, o2, some (.int x3), some (.long x4), none, some (.int x6), some (.int x7), o8, o9]) (st' := [.int (lg_cmp (zremL x4 (zl 2)) (zl 0))]) (h' := mk s) 5 rfl ?_
        refine Ev.ifl_ne (t := 56) rfl rfl (fun hb => ?_) (fun hb => ?_)
        · have h := (if_pos hb).symm.trans h
          refine Ev.run (pc' := 58) (ls' := [some (.ref 16), o1, o2, some (.int x3), some (.long x4), none, some (.int x6), some (.int x7), o8, o9]) (st' := [.int (zi 0), .ref 16]) (h' := mk s) 2 rfl ?_
          refine Ev.step (pc' := 61) rfl (put_8_1 rfl) ?_
          refine Ev.run (pc' := 65) (ls' := [some (.ref 16), o1, o2, some (.int x3), some (.long x4), none, some (.int x6), some (.long x4), none, o9]) (st' := []) (h' := mk (setI s 16 1 (zi 0))) 2 rfl ?_
          exact k113_65 zF x6 x4 (setI s 16 1 (zi 0)) _ _ _ _ _ _ _ h
        · have h := (if_neg hb).symm.trans h
          refine Ev.run (pc' := 9) (ls' := [some (.ref 16), o1, o2, some (.int x3), some (.long (x4 / (zl 2))), none, some (.int (x6 + zi 1)), some (.int (x7 + zi 1)), o8, o9]) (st' := []) (h' := mk s) 7 rfl ?_
          exact hrec9 x3 (x4 / (zl 2)) (x6 + zi 1) (x7 + zi 1) s _ _ _ _ _ h
def f113_9  : Nat → Int32 → Int64 → Int32 → Int32 → zS → Option (zS)
  | 0, _, _, _, _, _ => none
  | n + 1, x3, x4, x6, x7, s => b113_9 (f113_9 n) x3 x4 x6 x7 s
set_option maxRecDepth 100000 in
theorem k113_9 {X : mX} {D : Nat}   (n : Nat) : ∀ (x3 : Int32) (x4 : Int64) (x6 : Int32) (x7 : Int32) (s : zS) (r : zS) (o1 : Option Value) (o2 : Option Value) (o8 : Option Value) (o9 : Option Value), f113_9  n x3 x4 x6 x7 s = some r → Ev X (D + 1) mm113 9 [some (.ref 16), o1, o2, some (.int x3), some (.long x4), none, some (.int x6), some (.int x7), o8, o9] [] (mk s) (encV r) := by
  induction n with
  | zero => intro x3 x4 x6 x7 s r o1 o2 o8 o9  h; cases h
  | succ n ih => intro x3 x4 x6 x7 s r o1 o2 o8 o9  h; exact kb113_9  ih x3 x4 x6 x7 s r o1 o2 o8 o9  h
def f113  (x1 : Int64) (x3 : Int32) (s : zS) : Option (zS) := f113_9 zF x3 x1 x3 (zi 0) s
set_option maxRecDepth 100000 in
theorem k113 {X : mX} {D : Nat} {x1 : Int64} {x3 : Int32} {s : zS} {r : zS}  (h : f113 x1 x3 s = some r) : Ev X (D + 1) mm113 0 [some (.ref 16), some (.long x1), none, some (.int x3), none, none, none, none, none, none] [] (mk s) (encV r) := by
  unfold f113 at h
  refine Ev.run (pc' := 9) (ls' := [some (.ref 16), some (.long x1), none, some (.int x3), some (.long x1), none, some (.int x3), some (.int (zi 0)), none, none]) (st' := []) (h' := mk s) 6 rfl ?_
  exact k113_9 zF x3 x1 x3 (zi 0) s _ _ _ _ _ h
/-! 117 F$Decimal.point()I -/
def r117  (s : zS) : Int32 := s.1 16 4
set_option maxRecDepth 100000 in
theorem k117 {X : mX} {D : Nat}  {s : zS} {v : Int32} (h : r117  s = v) : Ev X D mm117 0 [some (.ref 16)] [] (mk s) (encI (v, s)) := by
  unfold r117 at h
  refine Ev.run (pc' := 4) (ls' := [some (.ref 16)]) (st' := [.int (s.1 16 4)]) (h' := mk s) 2 rfl ?_
  subst h
  exact Ev.fin rfl rfl
/-! 123 F$Decimal.headDigits(I)I -/
def r123 (x1 : Int32) (s : zS) : Int32 := r265 (r264 (((zi 18) - x1) + (s.1 16 4)) (zi 0) s) (zi 19) s
set_option maxRecDepth 100000 in
theorem k123 {X : mX} {D : Nat} {x1 : Int32} {s : zS} {v : Int32} (h : r123 x1 s = v) : Ev X (D + 1) mm123 0 [some (.ref 16), some (.int x1)] [] (mk s) (encI (v, s)) := by
  unfold r123 at h
  refine Ev.run (pc' := 10) (ls' := [some (.ref 16), some (.int x1)]) (st' := [.int (zi 0), .int (((zi 18) - x1) + (s.1 16 4))]) (h' := mk s) 7 rfl ?_
  refine Ev.call (M' := mm264) (v := some (.int (r264 (((zi 18) - x1) + (s.1 16 4)) (zi 0) s))) (h' := mk s) rfl rfl rfl (Nat.le_of_ble_eq_true rfl) (k264 (x0 := (((zi 18) - x1) + (s.1 16 4))) (x1 := (zi 0)) (s := s) (v := r264 (((zi 18) - x1) + (s.1 16 4)) (zi 0) s)  rfl) ?_
  refine Ev.run (pc' := 15) (ls' := [some (.ref 16), some (.int x1)]) (st' := [.int (zi 19), .int (r264 (((zi 18) - x1) + (s.1 16 4)) (zi 0) s)]) (h' := mk s) 1 rfl ?_
  refine Ev.call (M' := mm265) (v := some (.int (r265 (r264 (((zi 18) - x1) + (s.1 16 4)) (zi 0) s) (zi 19) s))) (h' := mk s) rfl rfl rfl (Nat.le_of_ble_eq_true rfl) (k265 (x0 := (r264 (((zi 18) - x1) + (s.1 16 4)) (zi 0) s)) (x1 := (zi 19)) (s := s) (v := r265 (r264 (((zi 18) - x1) + (s.1 16 4)) (zi 0) s) (zi 19) s)  rfl) ?_
  subst h
  exact Ev.fin rfl rfl
/-! 118 F$Decimal.digitAt(I)I -/
def f118  (x1 : Int32) (s : zS) : Option (Int32 × zS) := if x1 < zi 0 then some (zi 0, s) else if x1 < (s.1 16 3) then if mIx x1 864 then some (s.1 18 x1.toNatClampNeg, s) else none else some (zi 0, s)
set_option maxRecDepth 100000 in
theorem k118 {X : mX} {D : Nat} {x1 : Int32} {s : zS} {r : Int32 × zS}  (h : f118 x1 s = some r) : Ev X D mm118 0 [some (.ref 16), some (.int x1)] [] (mk s) (encI r) := by
  unfold f118 at h
  refine Ev.run (pc' := 1) (ls' := [some (.ref 16), some (.int x1)]) (st' := [.int x1]) (h' := mk s) 1 rfl ?_
  refine Ev.if_lt (t := 12) rfl rfl (fun hb => ?_) (fun hb => ?_)
  · have h := (if_pos hb).symm.trans h
    refine Ev.run (pc' := 22) (ls' := [some (.ref 16), some (.int x1)]) (st' := [.int (zi 0)]) (h' := mk s) 2 rfl ?_
    cases h
    exact Ev.fin rfl rfl
  · have h := (if_neg hb).symm.trans h
    refine Ev.run (pc' := 9) (ls' := [some (.ref 16), some (.int x1)]) (st' := [.int (s.1 16 3), .int x1]) (h' := mk s) 3 rfl ?_
    refine Ev.icmp_lt (t := 16) rfl rfl (fun hb => ?_) (fun hb => ?_)
    · have h := (if_pos hb).symm.trans h
      refine Ev.run (pc' := 21) (ls' := [some (.ref 16), some (.int x1)]) (st' := [.int x1, .ref 18]) (h' := mk s) 3 rfl ?_
      obtain ⟨hx, h⟩ := zif h
      refine Ev.step (pc' := 22) rfl (ald_b rfl hx) ?_
      cases h
      exact Ev.fin rfl rfl
    · have h := (if_neg hb).symm.trans h
      refine Ev.run (pc' := 22) (ls' := [some (.ref 16), some (.int x1)]) (st' := [.int (zi 0)]) (h' := mk s) 2 rfl ?_
      cases h
      exact Ev.fin rfl rfl
/-! 121 F$Decimal.head(I)J -/
def b121_5 (rec5 : Int32 → Int64 → Int32 → zS → Option (Int64 × zS)) (x1 : Int32) (x2 : Int64) (x4 : Int32) (s : zS) : Option (Int64 × zS) := if x4 ≥ (r123 x1 s) then some (x2, s) else zb1 (f118 x4 s) (fun v2 s1 => rec5 x1 ((x2 * (zl 10)) + (zI2L v2)) (x4 + zi 1) s1)
set_option maxRecDepth 100000 in
theorem kb121_5 {X : mX} {D : Nat} {rec5 : Int32 → Int64 → Int32 → zS → Option (Int64 × zS)} (hrec5 : ∀ (x1 : Int32) (x2 : Int64) (x4 : Int32) (s : zS) (r : Int64 × zS) , rec5 x1 x2 x4 s = some r → Ev X (D + 2) mm121 5 [some (.ref 16), some (.int x1), some (.long x2), none, some (.int x4)] [] (mk s) (encL r)) (x1 : Int32) (x2 : Int64) (x4 : Int32) (s : zS) (r : Int64 × zS)   (h : b121_5 rec5 x1 x2 x4 s = some r) : Ev X (D + 2) mm121 5 [some (.ref 16), some (.int x1), some (.long x2), none, some (.int x4)] [] (mk s) (encL r) := by
  unfold b121_5 at h
  refine Ev.run (pc' := 9) (ls' := [some (.ref 16), some (.int x1), some (.long x2), none, some (.int x4)]) (st' := [.int x1, .ref 16, .int x4]) (h' := mk s) 3 rfl ?_
  refine Ev.call (M' := mm123) (v := some (.int (r123 x1 s))) (h' := mk s) rfl rfl rfl (Nat.le_of_ble_eq_true rfl) (k123 (x1 := x1) (s := s) (v := r123 x1 s)  rfl) ?_
  refine Ev.icmp_ge (t := 35) rfl rfl (fun hb => ?_) (fun hb => ?_)
  · have h := (if_pos hb).symm.trans h
    refine Ev.run (pc' := 36) (ls' := [some (.ref 16), some (.int x1), some (.long x2), none, some (.int x4)]) (st' := [.long x2]) (h' := mk s) 1 rfl ?_
    cases h
    exact Ev.fin rfl rfl
  · have h := (if_neg hb).symm.trans h
    refine Ev.run (pc' := 23) (ls' := [some (.ref 16), some (.int x1), some (.long x2), none, some (.int x4)]) (st' := [.int x4, .ref 16, .long (x2 * (zl 10))]) (h' := mk s) 5 rfl ?_
    obtain ⟨v2, s1, hq, h⟩ := zb1_some h
    refine Ev.call (M' := mm118) (v := some (.int v2)) (h' := mk s1) rfl rfl rfl (Nat.le_of_ble_eq_true rfl) (k118 hq) ?_
    refine Ev.run (pc' := 5) (ls' := [some (.ref 16), some (.int x1), some (.long ((x2 * (zl 10)) + (zI2L v2))), none, some (.int (x4 + zi 1))]) (st' := []) (h' := mk s1) 5 rfl ?_
    exact hrec5 x1 ((x2 * (zl 10)) + (zI2L v2)) (x4 + zi 1) s1 _ h
def f121_5  : Nat → Int32 → Int64 → Int32 → zS → Option (Int64 × zS)
  | 0, _, _, _, _ => none
  | n + 1, x1, x2, x4, s => b121_5 (f121_5 n) x1 x2 x4 s
set_option maxRecDepth 100000 in
theorem k121_5 {X : mX} {D : Nat}   (n : Nat) : ∀ (x1 : Int32) (x2 : Int64) (x4 : Int32) (s : zS) (r : Int64 × zS) , f121_5  n x1 x2 x4 s = some r → Ev X (D + 2) mm121 5 [some (.ref 16), some (.int x1), some (.long x2), none, some (.int x4)] [] (mk s) (encL r) := by
  induction n with
  | zero => intro x1 x2 x4 s r   h; cases h
  | succ n ih => intro x1 x2 x4 s r   h; exact kb121_5  ih x1 x2 x4 s r   h
def f121  (x1 : Int32) (s : zS) : Option (Int64 × zS) := f121_5 zF x1 (zl 0) (zi 0) s
set_option maxRecDepth 100000 in
theorem k121 {X : mX} {D : Nat} {x1 : Int32} {s : zS} {r : Int64 × zS}  (h : f121 x1 s = some r) : Ev X (D + 2) mm121 0 [some (.ref 16), some (.int x1), none, none, none] [] (mk s) (encL r) := by
  unfold f121 at h
  refine Ev.run (pc' := 5) (ls' := [some (.ref 16), some (.int x1), some (.long (zl 0)), none, some (.int (zi 0))]) (st' := []) (h' := mk s) 4 rfl ?_
  exact k121_5 zF x1 (zl 0) (zi 0) s _ h
/-! 122 F$Decimal.goesOn(I)Z -/
def b122_6 (rec6 : Int32 → Int32 → zS → Option (Int32 × zS)) (x1 : Int32) (x2 : Int32) (s : zS) : Option (Int32 × zS) := if x2 ≥ (s.1 16 3) then some (zi 0, s) else zb1 (f118 x2 s) (fun v2 s1 => if v2 = zi 0 then rec6 x1 (x2 + zi 1) s1 else some (zi 1, s1))
set_option maxRecDepth 100000 in
theorem kb122_6 {X : mX} {D : Nat} {rec6 : Int32 → Int32 → zS → Option (Int32 × zS)} (hrec6 : ∀ (x1 : Int32) (x2 : Int32) (s : zS) (r : Int32 × zS) , rec6 x1 x2 s = some r → Ev X (D + 2) mm122 6 [some (.ref 16), some (.int x1), some (.int x2)] [] (mk s) (encI r)) (x1 : Int32) (x2 : Int32) (s : zS) (r : Int32 × zS)   (h : b122_6 rec6 x1 x2 s = some r) : Ev X (D + 2) mm122 6 [some (.ref 16), some (.int x1), some (.int x2)] [] (mk s) (encI r) := by
  unfold b122_6 at h
  refine Ev.run (pc' := 11) (ls' := [some (.ref 16), some (.int x1), some (.int x2)]) (st' := [.int (s.1 16 3), .int x2]) (h' := mk s) 3 rfl ?_
  refine Ev.icmp_ge (t := 30) rfl rfl (fun hb => ?_) (fun hb => ?_)
  · have h := (if_pos hb).symm.trans h
    refine Ev.run (pc' := 31) (ls' := [some (.ref 16), some (.int x1), some (.int x2)]) (st' := [.int (zi 0)]) (h' := mk s) 1 rfl ?_
    cases h
    exact Ev.fin rfl rfl
  · have h := (if_neg hb).symm.trans h
    refine Ev.run (pc' := 16) (ls' := [some (.ref 16), some (.int x1), some (.int x2)]) (st' := [.int x2, .ref 16]) (h' := mk s) 2 rfl ?_
    obtain ⟨v2, s1, hq, h⟩ := zb1_some h
    refine Ev.call (M' := mm118) (v := some (.int v2)) (h' := mk s1) rfl rfl rfl (Nat.le_of_ble_eq_true rfl) (k118 hq) ?_
    refine Ev.if_eq (t := 24) rfl rfl (fun hb => ?_) (fun hb => ?_)
    · have h := (if_pos hb).symm.trans h
      refine Ev.run (pc' := 6) (ls' := [some (.ref 16), some (.int x1), some (.int (x2 + zi 1))]) (st' := []) (h' := mk s1) 2 rfl ?_
      exact hrec6 x1 (x2 + zi 1) s1 _ h
    · have h := (if_neg hb).symm.trans h
      refine Ev.run (pc' := 23) (ls' := [some (.ref 16), some (.int x1), some (.int x2)]) (st' := [.int (zi 1)]) (h' := mk s1) 1 rfl ?_
      cases h
      exact Ev.fin rfl rfl
def f122_6  : Nat → Int32 → Int32 → zS → Option (Int32 × zS)
  | 0, _, _, _ => none
  | n + 1, x1, x2, s => b122_6 (f122_6 n) x1 x2 s
set_option maxRecDepth 100000 in
theorem k122_6 {X : mX} {D : Nat}   (n : Nat) : ∀ (x1 : Int32) (x2 : Int32) (s : zS) (r : Int32 × zS) , f122_6  n x1 x2 s = some r → Ev X (D + 2) mm122 6 [some (.ref 16), some (.int x1), some (.int x2)] [] (mk s) (encI r) := by
  induction n with
  | zero => intro x1 x2 s r   h; cases h
  | succ n ih => intro x1 x2 s r   h; exact kb122_6  ih x1 x2 s r   h
def f122  (x1 : Int32) (s : zS) : Option (Int32 × zS) := f122_6 zF x1 (r123 x1 s) s
set_option maxRecDepth 100000 in
theorem k122 {X : mX} {D : Nat} {x1 : Int32} {s : zS} {r : Int32 × zS}  (h : f122 x1 s = some r) : Ev X (D + 2) mm122 0 [some (.ref 16), some (.int x1), none] [] (mk s) (encI r) := by
  unfold f122 at h
  refine Ev.run (pc' := 2) (ls' := [some (.ref 16), some (.int x1), none]) (st' := [.int x1, .ref 16]) (h' := mk s) 2 rfl ?_
  refine Ev.call (M' := mm123) (v := some (.int (r123 x1 s))) (h' := mk s) rfl rfl rfl (Nat.le_of_ble_eq_true rfl) (k123 (x1 := x1) (s := s) (v := r123 x1 s)  rfl) ?_
  refine Ev.run (pc' := 6) (ls' := [some (.ref 16), some (.int x1), some (.int (r123 x1 s))]) (st' := []) (h' := mk s) 1 rfl ?_
  exact k122_6 zF x1 (r123 x1 s) s _ h
/-! 127 F$Shortest.readsFromBelow(J)Z -/
def r127 (x1 : Int64) (s : zS) : Int32 := if x1 > (s.2.1 19 2) then zi 1 else if ¬ x1 = (s.2.1 19 2) then zi 0 else if (s.1 19 6) = zi 0 then zi 0 else if ¬ (s.1 19 3) = zi 0 then zi 0 else zi 1
set_option maxRecDepth 100000 in
theorem k127 {X : mX} {D : Nat} {x1 : Int64} {s : zS} {v : Int32} (h : r127 x1 s = v) : Ev X D mm127 0 [some (.ref 19), some (.long x1), none] [] (mk s) (encI (v, s)) := by
  unfold r127 at h
  refine Ev.run (pc' := 6) (ls' := [some (.ref 19), some (.long x1), none]) (st' := [.int (lg_cmp x1 (s.2.1 19 2))]) (h' := mk s) 4 rfl ?_
  refine Ev.ifl_gt (t := 32) rfl rfl (fun hb => ?_) (fun hb => ?_)
  · have h := (if_pos hb).symm.trans h
    refine Ev.run (pc' := 37) (ls' := [some (.ref 19), some (.long x1), none]) (st' := [.int (zi 1)]) (h' := mk s) 2 rfl ?_
    subst h
    exact Ev.fin rfl rfl
  · have h := (if_neg hb).symm.trans h
    refine Ev.run (pc' := 15) (ls' := [some (.ref 19), some (.long x1), none]) (st' := [.int (lg_cmp x1 (s.2.1 19 2))]) (h' := mk s) 4 rfl ?_
    refine Ev.ifl_ne (t := 36) rfl rfl (fun hb => ?_) (fun hb => ?_)
    · have h := (if_pos hb).symm.trans h
      refine Ev.run (pc' := 37) (ls' := [some (.ref 19), some (.long x1), none]) (st' := [.int (zi 0)]) (h' := mk s) 1 rfl ?_
      subst h
      exact Ev.fin rfl rfl
    · have h := (if_neg hb).symm.trans h
      refine Ev.run (pc' := 22) (ls' := [some (.ref 19), some (.long x1), none]) (st' := [.int (s.1 19 6)]) (h' := mk s) 2 rfl ?_
      refine Ev.if_eq (t := 36) rfl rfl (fun hb => ?_) (fun hb => ?_)
      · have h := (if_pos hb).symm.trans h
        refine Ev.run (pc' := 37) (ls' := [some (.ref 19), some (.long x1), none]) (st' := [.int (zi 0)]) (h' := mk s) 1 rfl ?_
        subst h
        exact Ev.fin rfl rfl
      · have h := (if_neg hb).symm.trans h
        refine Ev.run (pc' := 29) (ls' := [some (.ref 19), some (.long x1), none]) (st' := [.int (s.1 19 3)]) (h' := mk s) 2 rfl ?_
        refine Ev.if_ne (t := 36) rfl rfl (fun hb => ?_) (fun hb => ?_)
        · have h := (if_pos hb).symm.trans h
          refine Ev.run (pc' := 37) (ls' := [some (.ref 19), some (.long x1), none]) (st' := [.int (zi 0)]) (h' := mk s) 1 rfl ?_
          subst h
          exact Ev.fin rfl rfl
        · have h := (if_neg hb).symm.trans h
          refine Ev.run (pc' := 37) (ls' := [some (.ref 19), some (.long x1), none]) (st' := [.int (zi 1)]) (h' := mk s) 2 rfl ?_
          subst h
          exact Ev.fin rfl rfl
/-! 128 F$Shortest.readsFromAbove(J)Z -/
def r128 (x1 : Int64) (s : zS) : Int32 := if x1 < (s.2.1 19 4) then zi 1 else if ¬ x1 = (s.2.1 19 4) then zi 0 else if ¬ (s.1 19 6) = zi 0 then zi 1 else if (s.1 19 5) = zi 0 then zi 0 else zi 1
set_option maxRecDepth 100000 in
theorem k128 {X : mX} {D : Nat} {x1 : Int64} {s : zS} {v : Int32} (h : r128 x1 s = v) : Ev X D mm128 0 [some (.ref 19), some (.long x1), none] [] (mk s) (encI (v, s)) := by
  unfold r128 at h
  refine Ev.run (pc' := 6) (ls' := [some (.ref 19), some (.long x1), none]) (st' := [.int (lg_cmp x1 (s.2.1 19 4))]) (h' := mk s) 4 rfl ?_
  refine Ev.ifl_lt (t := 32) rfl rfl (fun hb => ?_) (fun hb => ?_)
  · have h := (if_pos hb).symm.trans h
    refine Ev.run (pc' := 37) (ls' := [some (.ref 19), some (.long x1), none]) (st' := [.int (zi 1)]) (h' := mk s) 2 rfl ?_
    subst h
    exact Ev.fin rfl rfl
  · have h := (if_neg hb).symm.trans h
    refine Ev.run (pc' := 15) (ls' := [some (.ref 19), some (.long x1), none]) (st' := [.int (lg_cmp x1 (s.2.1 19 4))]) (h' := mk s) 4 rfl ?_
    refine Ev.ifl_ne (t := 36) rfl rfl (fun hb => ?_) (fun hb => ?_)
    · have h := (if_pos hb).symm.trans h
      refine Ev.run (pc' := 37) (ls' := [some (.ref 19), some (.long x1), none]) (st' := [.int (zi 0)]) (h' := mk s) 1 rfl ?_
      subst h
      exact Ev.fin rfl rfl
    · have h := (if_neg hb).symm.trans h
      refine Ev.run (pc' := 22) (ls' := [some (.ref 19), some (.long x1), none]) (st' := [.int (s.1 19 6)]) (h' := mk s) 2 rfl ?_
      refine Ev.if_ne (t := 32) rfl rfl (fun hb => ?_) (fun hb => ?_)
      · have h := (if_pos hb).symm.trans h
        refine Ev.run (pc' := 37) (ls' := [some (.ref 19), some (.long x1), none]) (st' := [.int (zi 1)]) (h' := mk s) 2 rfl ?_
        subst h
        exact Ev.fin rfl rfl
      · have h := (if_neg hb).symm.trans h
        refine Ev.run (pc' := 29) (ls' := [some (.ref 19), some (.long x1), none]) (st' := [.int (s.1 19 5)]) (h' := mk s) 2 rfl ?_
        refine Ev.if_eq (t := 36) rfl rfl (fun hb => ?_) (fun hb => ?_)
        · have h := (if_pos hb).symm.trans h
          refine Ev.run (pc' := 37) (ls' := [some (.ref 19), some (.long x1), none]) (st' := [.int (zi 0)]) (h' := mk s) 1 rfl ?_
          subst h
          exact Ev.fin rfl rfl
        · have h := (if_neg hb).symm.trans h
          refine Ev.run (pc' := 37) (ls' := [some (.ref 19), some (.long x1), none]) (st' := [.int (zi 1)]) (h' := mk s) 2 rfl ?_
          subst h
          exact Ev.fin rfl rfl
/-! 129 F$Shortest.nearer(JJJ)J -/
def f129_46  (x1 : Int64) (x3 : Int64) (x5 : Int64) (x7 : Int64) (s : zS) : Option (Int64 × zS) := if x7 < x5 then some (x1, s) else some (x3, s)
set_option maxRecDepth 100000 in
theorem k129_46 {X : mX} {D : Nat}   (x1 : Int64) (x3 : Int64) (x5 : Int64) (x7 : Int64) (s : zS) (r : Int64 × zS) (o0 : Option Value)  (h : f129_46  x1 x3 x5 x7 s = some r) : Ev X D mm129 46 [o0, some (.long x1), none, some (.long x3), none, some (.long x5), none, some (.long x7), none] [] (mk s) (encL r) := by
  unfold f129_46 at h
  refine Ev.run (pc' := 51) (ls' := [o0, some (.long x1), none, some (.long x3), none, some (.long x5), none, some (.long x7), none]) (st' := [.int (lg_cmp x7 x5)]) (h' := mk s) 3 rfl ?_
  refine Ev.ifl_lt (t := 58) rfl rfl (fun hb => ?_) (fun hb => ?_)
  · have h := (if_pos hb).symm.trans h
    refine Ev.run (pc' := 59) (ls' := [o0, some (.long x1), none, some (.long x3), none, some (.long x5), none, some (.long x7), none]) (st' := [.long x1]) (h' := mk s) 1 rfl ?_
    cases h
    exact Ev.fin rfl rfl
  · have h := (if_neg hb).symm.trans h
    refine Ev.run (pc' := 59) (ls' := [o0, some (.long x1), none, some (.long x3), none, some (.long x5), none, some (.long x7), none]) (st' := [.long x3]) (h' := mk s) 2 rfl ?_
    cases h
    exact Ev.fin rfl rfl
def f129  (x1 : Int64) (x3 : Int64) (x5 : Int64) (s : zS) : Option (Int64 × zS) := if ¬ ((zl 2) * ((s.2.1 19 0) - x1)) = x5 then f129_46 x1 x3 x5 ((zl 2) * ((s.2.1 19 0) - x1)) s else if ¬ (s.1 19 1) = zi 0 then f129_46 x1 x3 x5 ((zl 2) * ((s.2.1 19 0) - x1)) s else if ¬ x5 = zl 0 then if ¬ (zremL (x1 / x5) (zl 2)) = (zl 0) then some (x3, s) else some (x1, s) else none
set_option maxRecDepth 100000 in
theorem k129 {X : mX} {D : Nat} {x1 : Int64} {x3 : Int64} {x5 : Int64} {s : zS} {r : Int64 × zS}  (h : f129 x1 x3 x5 s = some r) : Ev X D mm129 0 [some (.ref 19), some (.long x1), none, some (.long x3), none, some (.long x5), none, none, none] [] (mk s) (encL r) := by
  unfold f129 at h
  refine Ev.run (pc' := 17) (ls' := [some (.ref 19), some (.long x1), none, some (.long x3), none, some (.long x5), none, some (.long ((zl 2) * ((s.2.1 19 0) - x1))), none]) (st' := [.int (lg_cmp ((zl 2) * ((s.2.1 19 0) - x1)) x5)]) (h' := mk s) 10 rfl ?_
  refine Ev.ifl_ne (t := 46) rfl rfl (fun hb => ?_) (fun hb => ?_)
  · have h := (if_pos hb).symm.trans h
    exact k129_46 x1 x3 x5 ((zl 2) * ((s.2.1 19 0) - x1)) s _ _ h
  · have h := (if_neg hb).symm.trans h
    refine Ev.run (pc' := 24) (ls' := [some (.ref 19), some (.long x1), none, some (.long x3), none, some (.long x5), none, some (.long ((zl 2) * ((s.2.1 19 0) - x1))), none]) (st' := [.int (s.1 19 1)]) (h' := mk s) 2 rfl ?_
    refine Ev.if_ne (t := 46) rfl rfl (fun hb => ?_) (fun hb => ?_)
    · have h := (if_pos hb).symm.trans h
      exact k129_46 x1 x3 x5 ((zl 2) * ((s.2.1 19 0) - x1)) s _ _ h
    · have h := (if_neg hb).symm.trans h
      refine Ev.run (pc' := 30) (ls' := [some (.ref 19), some (.long x1), none, some (.long x3), none, some (.long x5), none, some (.long ((zl 2) * ((s.2.1 19 0) - x1))), none]) (st' := [.long x5, .long x1]) (h' := mk s) 2 rfl ?_
      obtain ⟨hx, h⟩ := zif h
      refine Ev.step (pc' := 31) rfl (ldiv_ok hx) ?_
      refine Ev.run (pc' := 37) (ls' := [some (.ref 19), some (.long x1), none, some (.long x3), none, some (.long x5), none, some (.long ((zl 2) * ((s.2.1 19 0) - x1))), none]) (st' := [.int (lg_cmp (zremL (x1 / x5) (zl 2)) (zl 0))]) (h' := mk s) 4 rfl ?_
      refine Ev.ifl_ne (t := 44) rfl rfl (fun hb => ?_) (fun hb => ?_)
      · have h := (if_pos hb).symm.trans h
        refine Ev.run (pc' := 45) (ls' := [some (.ref 19), some (.long x1), none, some (.long x3), none, some (.long x5), none, some (.long ((zl 2) * ((s.2.1 19 0) - x1))), none]) (st' := [.long x3]) (h' := mk s) 1 rfl ?_
        cases h
        exact Ev.fin rfl rfl
      · have h := (if_neg hb).symm.trans h
        refine Ev.run (pc' := 45) (ls' := [some (.ref 19), some (.long x1), none, some (.long x3), none, some (.long x5), none, some (.long ((zl 2) * ((s.2.1 19 0) - x1))), none]) (st' := [.long x1]) (h' := mk s) 2 rfl ?_
        cases h
        exact Ev.fin rfl rfl
/-! 126 F$Shortest.find()J -/
def f126_142  (x4 : Int64) (x7 : Int64) (x9 : Int32) (s : zS) : Option (Int64 × zS) := if x9 = zi 0 then some (x7, s) else some (x4, s)
set_option maxRecDepth 100000 in
theorem k126_142 {X : mX} {D : Nat}   (x4 : Int64) (x7 : Int64) (x9 : Int32) (s : zS) (r : Int64 × zS) (o0 : Option Value) (o1 : Option Value) (o2 : Option Value) (o3 : Option Value) (o6 : Option Value) (o10 : Option Value)  (h : f126_142  x4 x7 x9 s = some r) : Ev X (D + 1) mm126 142 [o0, o1, o2, o3, some (.long x4), none, o6, some (.long x7), none, some (.int x9), o10] [] (mk s) (encL r) := by
  unfold f126_142 at h
  refine Ev.run (pc' := 144) (ls' := [o0, o1, o2, o3, some (.long x4), none, o6, some (.long x7), none, some (.int x9), o10]) (st' := [.int x9]) (h' := mk s) 1 rfl ?_
  refine Ev.if_eq (t := 152) rfl rfl (fun hb => ?_) (fun hb => ?_)
  · have h := (if_pos hb).symm.trans h
    refine Ev.run (pc' := 154) (ls' := [o0, o1, o2, o3, some (.long x4), none, o6, some (.long x7), none, some (.int x9), o10]) (st' := [.long x7]) (h' := mk s) 1 rfl ?_
    cases h
    exact Ev.fin rfl rfl
  · have h := (if_neg hb).symm.trans h
    refine Ev.run (pc' := 154) (ls' := [o0, o1, o2, o3, some (.long x4), none, o6, some (.long x7), none, some (.int x9), o10]) (st' := [.long x4]) (h' := mk s) 2 rfl ?_
    cases h
    exact Ev.fin rfl rfl
def f126_132 (rec2 : Int32 → zS → Option (Int64 × zS)) (x1 : Int32) (x4 : Int64) (x7 : Int64) (x9 : Int32) (x10 : Int32) (s : zS) : Option (Int64 × zS) := if ¬ x9 = zi 0 then f126_142 x4 x7 x9 s else if x10 = zi 0 then rec2 (x1 + zi 1) s else f126_142 x4 x7 x9 s
set_option maxRecDepth 100000 in
theorem k126_132 {X : mX} {D : Nat} {rec2 : Int32 → zS → Option (Int64 × zS)} (hrec2 : ∀ (x1 : Int32) (s : zS) (r : Int64 × zS) (o2 : Option Value) (o3 : Option Value) (o4 : Option Value) (o5 : Option Value) (o6 : Option Value) (o7 : Option Value) (o8 : Option Value) (o9 : Option Value) (o10 : Option Value), rec2 x1 s = some r → Ev X (D + 1) mm126 2 [some (.ref 19), some (.int x1), o2, o3, o4, o5, o6, o7, o8, o9, o10] [] (mk s) (encL r)) (x1 : Int32) (x4 : Int64) (x7 : Int64) (x9 : Int32) (x10 : Int32) (s : zS) (r : Int64 × zS) (o2 : Option Value) (o3 : Option Value) (o6 : Option Value)  (h : f126_132 rec2 x1 x4 x7 x9 x10 s = some r) : Ev X (D + 1) mm126 132 [some (.ref 19), some (.int x1), o2, o3, some (.long x4), none, o6, some (.long x7), none, some (.int x9), some (.int x10)] [] (mk s) (encL r) := by
  unfold f126_132 at h
  refine Ev.run (pc' := 134) (ls' := [some (.ref 19), some (.int x1), o2, o3, some (.long x4), none, o6, some (.long x7), none, some (.int x9), some (.int x10)]) (st' := [.int x9]) (h' := mk s) 1 rfl ?_
  refine Ev.if_ne (t := 142) rfl rfl (fun hb => ?_) (fun hb => ?_)
  · have h := (if_pos hb).symm.trans h
    exact k126_142 x4 x7 x9 s _ _ _ _ _ _ _ h
  · have h := (if_neg hb).symm.trans h
    refine Ev.run (pc' := 139) (ls' := [some (.ref 19), some (.int x1), o2, o3, some (.long x4), none, o6, some (.long x7), none, some (.int x9), some (.int x10)]) (st' := [.int x10]) (h' := mk s) 1 rfl ?_
    refine Ev.if_eq (t := 155) rfl rfl (fun hb => ?_) (fun hb => ?_)
    · have h := (if_pos hb).symm.trans h
      refine Ev.run (pc' := 2) (ls' := [some (.ref 19), some (.int (x1 + zi 1)), o2, o3, some (.long x4), none, o6, some (.long x7), none, some (.int x9), some (.int x10)]) (st' := []) (h' := mk s) 2 rfl ?_
      exact hrec2 (x1 + zi 1) s _ _ _ _ _ _ _ _ _ _ h
    · have h := (if_neg hb).symm.trans h
      exact k126_142 x4 x7 x9 s _ _ _ _ _ _ _ h
def f126_110 (rec2 : Int32 → zS → Option (Int64 × zS)) (x1 : Int32) (x2 : Int64) (x4 : Int64) (x7 : Int64) (x9 : Int32) (y0 : Int32) (s : zS) : Option (Int64 × zS) := if x9 = zi 0 then f126_132 rec2 x1 x4 x7 x9 y0 s else if y0 = zi 0 then f126_132 rec2 x1 x4 x7 x9 y0 s else zb1 (f129 x4 x7 x2 s) (fun v2 s1 => some (v2, s1))
set_option maxRecDepth 100000 in
theorem k126_110 {X : mX} {D : Nat} {rec2 : Int32 → zS → Option (Int64 × zS)} (hrec2 : ∀ (x1 : Int32) (s : zS) (r : Int64 × zS) (o2 : Option Value) (o3 : Option Value) (o4 : Option Value) (o5 : Option Value) (o6 : Option Value) (o7 : Option Value) (o8 : Option Value) (o9 : Option Value) (o10 : Option Value), rec2 x1 s = some r → Ev X (D + 1) mm126 2 [some (.ref 19), some (.int x1), o2, o3, o4, o5, o6, o7, o8, o9, o10] [] (mk s) (encL r)) (x1 : Int32) (x2 : Int64) (x4 : Int64) (x7 : Int64) (x9 : Int32) (y0 : Int32) (s : zS) (r : Int64 × zS) (o6 : Option Value) (o10 : Option Value)  (h : f126_110 rec2 x1 x2 x4 x7 x9 y0 s = some r) : Ev X (D + 1) mm126 110 [some (.ref 19), some (.int x1), some (.long x2), none, some (.long x4), none, o6, some (.long x7), none, some (.int x9), o10] [.int y0] (mk s) (encL r) := by
  unfold f126_110 at h
  refine Ev.run (pc' := 114) (ls' := [some (.ref 19), some (.int x1), some (.long x2), none, some (.long x4), none, o6, some (.long x7), none, some (.int x9), some (.int y0)]) (st' := [.int x9]) (h' := mk s) 2 rfl ?_
  refine Ev.if_eq (t := 132) rfl rfl (fun hb => ?_) (fun hb => ?_)
  · have h := (if_pos hb).symm.trans h
    exact k126_132 hrec2 x1 x4 x7 x9 y0 s _ _ _ _ h
  · have h := (if_neg hb).symm.trans h
    refine Ev.run (pc' := 119) (ls' := [some (.ref 19), some (.int x1), some (.long x2), none, some (.long x4), none, o6, some (.long x7), none, some (.int x9), some (.int y0)]) (st' := [.int y0]) (h' := mk s) 1 rfl ?_
    refine Ev.if_eq (t := 132) rfl rfl (fun hb => ?_) (fun hb => ?_)
    · have h := (if_pos hb).symm.trans h
      exact k126_132 hrec2 x1 x4 x7 x9 y0 s _ _ _ _ h
    · have h := (if_neg hb).symm.trans h
      refine Ev.run (pc' := 128) (ls' := [some (.ref 19), some (.int x1), some (.long x2), none, some (.long x4), none, o6, some (.long x7), none, some (.int x9), some (.int y0)]) (st' := [.long x2, .long x7, .long x4, .ref 19]) (h' := mk s) 4 rfl ?_
      obtain ⟨v2, s1, hq, h⟩ := zb1_some h
      refine Ev.call (M' := mm129) (v := some (.long v2)) (h' := mk s1) rfl rfl rfl (Nat.le_of_ble_eq_true rfl) (k129 hq) ?_
      cases h
      exact Ev.fin rfl rfl
def f126_89 (rec2 : Int32 → zS → Option (Int64 × zS)) (x1 : Int32) (x2 : Int64) (x4 : Int64) (x6 : Int32) (x7 : Int64) (y0 : Int32) (s : zS) : Option (Int64 × zS) := if ¬ x6 = zi 0 then f126_110 rec2 x1 x2 x4 x7 y0 (zi 1) s else if (r128 x7 s) = zi 0 then f126_110 rec2 x1 x2 x4 x7 y0 (zi 0) s else f126_110 rec2 x1 x2 x4 x7 y0 (zi 1) s
set_option maxRecDepth 100000 in
theorem k126_89 {X : mX} {D : Nat} {rec2 : Int32 → zS → Option (Int64 × zS)} (hrec2 : ∀ (x1 : Int32) (s : zS) (r : Int64 × zS) (o2 : Option Value) (o3 : Option Value) (o4 : Option Value) (o5 : Option Value) (o6 : Option Value) (o7 : Option Value) (o8 : Option Value) (o9 : Option Value) (o10 : Option Value), rec2 x1 s = some r → Ev X (D + 1) mm126 2 [some (.ref 19), some (.int x1), o2, o3, o4, o5, o6, o7, o8, o9, o10] [] (mk s) (encL r)) (x1 : Int32) (x2 : Int64) (x4 : Int64) (x6 : Int32) (x7 : Int64) (y0 : Int32) (s : zS) (r : Int64 × zS) (o9 : Option Value) (o10 : Option Value)  (h : f126_89 rec2 x1 x2 x4 x6 x7 y0 s = some r) : Ev X (D + 1) mm126 89 [some (.ref 19), some (.int x1), some (.long x2), none, some (.long x4), none, some (.int x6), some (.long x7), none, o9, o10] [.int y0] (mk s) (encL r) := by
  unfold f126_89 at h
  refine Ev.run (pc' := 93) (ls' := [some (.ref 19), some (.int x1), some (.long x2), none, some (.long x4), none, some (.int x6), some (.long x7), none, some (.int y0), o10]) (st' := [.int x6]) (h' := mk s) 2 rfl ?_
  refine Ev.if_ne (t := 105) rfl rfl (fun hb => ?_) (fun hb => ?_)
  · have h := (if_pos hb).symm.trans h
    refine Ev.run (pc' := 110) (ls' := [some (.ref 19), some (.int x1), some (.long x2), none, some (.long x4), none, some (.int x6), some (.long x7), none, some (.int y0), o10]) (st' := [.int (zi 1)]) (h' := mk s) 2 rfl ?_
    exact k126_110 hrec2 x1 x2 x4 x7 y0 (zi 1) s _ _ _ h
  · have h := (if_neg hb).symm.trans h
    refine Ev.run (pc' := 99) (ls' := [some (.ref 19), some (.int x1), some (.long x2), none, some (.long x4), none, some (.int x6), some (.long x7), none, some (.int y0), o10]) (st' := [.long x7, .ref 19]) (h' := mk s) 2 rfl ?_
    refine Ev.call (M' := mm128) (v := some (.int (r128 x7 s))) (h' := mk s) rfl rfl rfl (Nat.le_of_ble_eq_true rfl) (k128 (x1 := x7) (s := s) (v := r128 x7 s)  rfl) ?_
    refine Ev.if_eq (t := 109) rfl rfl (fun hb => ?_) (fun hb => ?_)
    · have h := (if_pos hb).symm.trans h
      refine Ev.run (pc' := 110) (ls' := [some (.ref 19), some (.int x1), some (.long x2), none, some (.long x4), none, some (.int x6), some (.long x7), none, some (.int y0), o10]) (st' := [.int (zi 0)]) (h' := mk s) 1 rfl ?_
      exact k126_110 hrec2 x1 x2 x4 x7 y0 (zi 0) s _ _ _ h
    · have h := (if_neg hb).symm.trans h
      refine Ev.run (pc' := 110) (ls' := [some (.ref 19), some (.int x1), some (.long x2), none, some (.long x4), none, some (.int x6), some (.long x7), none, some (.int y0), o10]) (st' := [.int (zi 1)]) (h' := mk s) 2 rfl ?_
      exact k126_110 hrec2 x1 x2 x4 x7 y0 (zi 1) s _ _ _ h
def f126_68 (rec2 : Int32 → zS → Option (Int64 × zS)) (x1 : Int32) (x2 : Int64) (x4 : Int64) (x6 : Int32) (y0 : Int64) (s : zS) : Option (Int64 × zS) := if ¬ x6 = zi 0 then f126_89 rec2 x1 x2 x4 x6 y0 (zi 1) s else if (r127 x4 s) = zi 0 then f126_89 rec2 x1 x2 x4 x6 y0 (zi 0) s else f126_89 rec2 x1 x2 x4 x6 y0 (zi 1) s
set_option maxRecDepth 100000 in
theorem k126_68 {X : mX} {D : Nat} {rec2 : Int32 → zS → Option (Int64 × zS)} (hrec2 : ∀ (x1 : Int32) (s : zS) (r : Int64 × zS) (o2 : Option Value) (o3 : Option Value) (o4 : Option Value) (o5 : Option Value) (o6 : Option Value) (o7 : Option Value) (o8 : Option Value) (o9 : Option Value) (o10 : Option Value), rec2 x1 s = some r → Ev X (D + 1) mm126 2 [some (.ref 19), some (.int x1), o2, o3, o4, o5, o6, o7, o8, o9, o10] [] (mk s) (encL r)) (x1 : Int32) (x2 : Int64) (x4 : Int64) (x6 : Int32) (y0 : Int64) (s : zS) (r : Int64 × zS) (o7 : Option Value) (o8 : Option Value) (o9 : Option Value) (o10 : Option Value)  (h : f126_68 rec2 x1 x2 x4 x6 y0 s = some r) : Ev X (D + 1) mm126 68 [some (.ref 19), some (.int x1), some (.long x2), none, some (.long x4), none, some (.int x6), o7, o8, o9, o10] [.long y0] (mk s) (encL r) := by
  unfold f126_68 at h
  refine Ev.run (pc' := 72) (ls' := [some (.ref 19), some (.int x1), some (.long x2), none, some (.long x4), none, some (.int x6), some (.long y0), none, o9, o10]) (st' := [.int x6]) (h' := mk s) 2 rfl ?_
  refine Ev.if_ne (t := 84) rfl rfl (fun hb => ?_) (fun hb => ?_)
  · have h := (if_pos hb).symm.trans h
    refine Ev.run (pc' := 89) (ls' := [some (.ref 19), some (.int x1), some (.long x2), none, some (.long x4), none, some (.int x6), some (.long y0), none, o9, o10]) (st' := [.int (zi 1)]) (h' := mk s) 2 rfl ?_
    exact k126_89 hrec2 x1 x2 x4 x6 y0 (zi 1) s _ _ _ h
  · have h := (if_neg hb).symm.trans h
    refine Ev.run (pc' := 78) (ls' := [some (.ref 19), some (.int x1), some (.long x2), none, some (.long x4), none, some (.int x6), some (.long y0), none, o9, o10]) (st' := [.long x4, .ref 19]) (h' := mk s) 2 rfl ?_
    refine Ev.call (M' := mm127) (v := some (.int (r127 x4 s))) (h' := mk s) rfl rfl rfl (Nat.le_of_ble_eq_true rfl) (k127 (x1 := x4) (s := s) (v := r127 x4 s)  rfl) ?_
    refine Ev.if_eq (t := 88) rfl rfl (fun hb => ?_) (fun hb => ?_)
    · have h := (if_pos hb).symm.trans h
      refine Ev.run (pc' := 89) (ls' := [some (.ref 19), some (.int x1), some (.long x2), none, some (.long x4), none, some (.int x6), some (.long y0), none, o9, o10]) (st' := [.int (zi 0)]) (h' := mk s) 1 rfl ?_
      exact k126_89 hrec2 x1 x2 x4 x6 y0 (zi 0) s _ _ _ h
    · have h := (if_neg hb).symm.trans h
      refine Ev.run (pc' := 89) (ls' := [some (.ref 19), some (.int x1), some (.long x2), none, some (.long x4), none, some (.int x6), some (.long y0), none, o9, o10]) (st' := [.int (zi 1)]) (h' := mk s) 2 rfl ?_
      exact k126_89 hrec2 x1 x2 x4 x6 y0 (zi 1) s _ _ _ h
def f126_52 (rec2 : Int32 → zS → Option (Int64 × zS)) (x1 : Int32) (x2 : Int64) (x4 : Int64) (y0 : Int32) (s : zS) : Option (Int64 × zS) := if y0 = zi 0 then f126_68 rec2 x1 x2 x4 y0 (x4 + x2) s else f126_68 rec2 x1 x2 x4 y0 x4 s
set_option maxRecDepth 100000 in
theorem k126_52 {X : mX} {D : Nat} {rec2 : Int32 → zS → Option (Int64 × zS)} (hrec2 : ∀ (x1 : Int32) (s : zS) (r : Int64 × zS) (o2 : Option Value) (o3 : Option Value) (o4 : Option Value) (o5 : Option Value) (o6 : Option Value) (o7 : Option Value) (o8 : Option Value) (o9 : Option Value) (o10 : Option Value), rec2 x1 s = some r → Ev X (D + 1) mm126 2 [some (.ref 19), some (.int x1), o2, o3, o4, o5, o6, o7, o8, o9, o10] [] (mk s) (encL r)) (x1 : Int32) (x2 : Int64) (x4 : Int64) (y0 : Int32) (s : zS) (r : Int64 × zS) (o6 : Option Value) (o7 : Option Value) (o8 : Option Value) (o9 : Option Value) (o10 : Option Value)  (h : f126_52 rec2 x1 x2 x4 y0 s = some r) : Ev X (D + 1) mm126 52 [some (.ref 19), some (.int x1), some (.long x2), none, some (.long x4), none, o6, o7, o8, o9, o10] [.int y0] (mk s) (encL r) := by
  unfold f126_52 at h
  refine Ev.run (pc' := 56) (ls' := [some (.ref 19), some (.int x1), some (.long x2), none, some (.long x4), none, some (.int y0), o7, o8, o9, o10]) (st' := [.int y0]) (h' := mk s) 2 rfl ?_
  refine Ev.if_eq (t := 64) rfl rfl (fun hb => ?_) (fun hb => ?_)
  · have h := (if_pos hb).symm.trans h
    refine Ev.run (pc' := 68) (ls' := [some (.ref 19), some (.int x1), some (.long x2), none, some (.long x4), none, some (.int y0), o7, o8, o9, o10]) (st' := [.long (x4 + x2)]) (h' := mk s) 3 rfl ?_
    exact k126_68 hrec2 x1 x2 x4 y0 (x4 + x2) s _ _ _ _ _ h
  · have h := (if_neg hb).symm.trans h
    refine Ev.run (pc' := 68) (ls' := [some (.ref 19), some (.int x1), some (.long x2), none, some (.long x4), none, some (.int y0), o7, o8, o9, o10]) (st' := [.long x4]) (h' := mk s) 2 rfl ?_
    exact k126_68 hrec2 x1 x2 x4 y0 x4 s _ _ _ _ _ h
def b126_2 (rec2 : Int32 → zS → Option (Int64 × zS)) (x1 : Int32) (s : zS) : Option (Int64 × zS) := if x1 ≥ (zi 17) then if mIx (zi 1) 19 then if ¬ (mTens ((zi 1).toNatClampNeg)) = zl 0 then zb1 (f129 ((s.2.1 19 0) - (zremL (s.2.1 19 0) (mTens ((zi 1).toNatClampNeg)))) (((s.2.1 19 0) - (zremL (s.2.1 19 0) (mTens ((zi 1).toNatClampNeg)))) + (mTens ((zi 1).toNatClampNeg))) (mTens ((zi 1).toNatClampNeg)) s) (fun v2 s1 => some (v2, s1)) else none else none else if mIx ((zi 18) - x1) 19 then if ¬ (mTens (((zi 18) - x1).toNatClampNeg)) = zl 0 then if ¬ ((s.2.1 19 0) - (zremL (s.2.1 19 0) (mTens (((zi 18) - x1).toNatClampNeg)))) = (s.2.1 19 0) then f126_52 rec2 x1 (mTens (((zi 18) - x1).toNatClampNeg)) ((s.2.1 19 0) - (zremL (s.2.1 19 0) (mTens (((zi 18) - x1).toNatClampNeg)))) (zi 0) s else if ¬ (s.1 19 1) = zi 0 then f126_52 rec2 x1 (mTens (((zi 18) - x1).toNatClampNeg)) ((s.2.1 19 0) - (zremL (s.2.1 19 0) (mTens (((zi 18) - x1).toNatClampNeg)))) (zi 0) s else f126_52 rec2 x1 (mTens (((zi 18) - x1).toNatClampNeg)) ((s.2.1 19 0) - (zremL (s.2.1 19 0) (mTens (((zi 18) - x1).toNatClampNeg)))) (zi 1) s else none else none
set_option maxRecDepth 100000 in
theorem kb126_2 {X : mX} {D : Nat} {rec2 : Int32 → zS → Option (Int64 × zS)} (hrec2 : ∀ (x1 : Int32) (s : zS) (r : Int64 × zS) (o2 : Option Value) (o3 : Option Value) (o4 : Option Value) (o5 : Option Value) (o6 : Option Value) (o7 : Option Value) (o8 : Option Value) (o9 : Option Value) (o10 : Option Value), rec2 x1 s = some r → Ev X (D + 1) mm126 2 [some (.ref 19), some (.int x1), o2, o3, o4, o5, o6, o7, o8, o9, o10] [] (mk s) (encL r)) (x1 : Int32) (s : zS) (r : Int64 × zS) (o2 : Option Value) (o3 : Option Value) (o4 : Option Value) (o5 : Option Value) (o6 : Option Value) (o7 : Option Value) (o8 : Option Value) (o9 : Option Value) (o10 : Option Value)  (h : b126_2 rec2 x1 s = some r) : Ev X (D + 1) mm126 2 [some (.ref 19), some (.int x1), o2, o3, o4, o5, o6, o7, o8, o9, o10] [] (mk s) (encL r) := by
  unfold b126_2 at h
  refine Ev.run (pc' := 5) (ls' := [some (.ref 19), some (.int x1), o2, o3, o4, o5, o6, o7, o8, o9, o10]) (st' := [.int (zi 17), .int x1]) (h' := mk s) 2 rfl ?_
  refine Ev.icmp_ge (t := 161) rfl rfl (fun hb => ?_) (fun hb => ?_)
  · have h := (if_pos hb).symm.trans h
    refine Ev.run (pc' := 165) (ls' := [some (.ref 19), some (.int x1), o2, o3, o4, o5, o6, o7, o8, o9, o10]) (st' := [.int (zi 1), .ref (mRO + 1)]) (h' := mk s) 2 rfl ?_
    obtain ⟨hx, h⟩ := zif h
    refine Ev.step (pc' := 166) rfl (ald_l rfl hx) ?_
    refine Ev.run (pc' := 176) (ls' := [some (.ref 19), some (.long (mTens ((zi 1).toNatClampNeg))), none, o3, o4, o5, o6, o7, o8, o9, o10]) (st' := [.long (mTens ((zi 1).toNatClampNeg)), .long (s.2.1 19 0), .long (s.2.1 19 0)]) (h' := mk s) 6 rfl ?_
    obtain ⟨hx, h⟩ := zif h
    refine Ev.step (pc' := 177) rfl (lrem_ok hx) ?_
    refine Ev.run (pc' := 185) (ls' := [some (.ref 19), some (.long (mTens ((zi 1).toNatClampNeg))), none, some (.long ((s.2.1 19 0) - (zremL (s.2.1 19 0) (mTens ((zi 1).toNatClampNeg))))), none, o5, o6, o7, o8, o9, o10]) (st' := [.long (mTens ((zi 1).toNatClampNeg)), .long (((s.2.1 19 0) - (zremL (s.2.1 19 0) (mTens ((zi 1).toNatClampNeg)))) + (mTens ((zi 1).toNatClampNeg))), .long ((s.2.1 19 0) - (zremL (s.2.1 19 0) (mTens ((zi 1).toNatClampNeg)))), .ref 19]) (h' := mk s) 8 rfl ?_
    obtain ⟨v2, s1, hq, h⟩ := zb1_some h
    refine Ev.call (M' := mm129) (v := some (.long v2)) (h' := mk s1) rfl rfl rfl (Nat.le_of_ble_eq_true rfl) (k129 hq) ?_
    cases h
    exact Ev.fin rfl rfl
  · have h := (if_neg hb).symm.trans h
    refine Ev.run (pc' := 15) (ls' := [some (.ref 19), some (.int x1), o2, o3, o4, o5, o6, o7, o8, o9, o10]) (st' := [.int ((zi 18) - x1), .ref (mRO + 1)]) (h' := mk s) 4 rfl ?_
    obtain ⟨hx, h⟩ := zif h
    refine Ev.step (pc' := 16) rfl (ald_l rfl hx) ?_
    refine Ev.run (pc' := 26) (ls' := [some (.ref 19), some (.int x1), some (.long (mTens (((zi 18) - x1).toNatClampNeg))), none, o4, o5, o6, o7, o8, o9, o10]) (st' := [.long (mTens (((zi 18) - x1).toNatClampNeg)), .long (s.2.1 19 0), .long (s.2.1 19 0)]) (h' := mk s) 6 rfl ?_
    obtain ⟨hx, h⟩ := zif h
    refine Ev.step (pc' := 27) rfl (lrem_ok hx) ?_
    refine Ev.run (pc' := 37) (ls' := [some (.ref 19), some (.int x1), some (.long (mTens (((zi 18) - x1).toNatClampNeg))), none, some (.long ((s.2.1 19 0) - (zremL (s.2.1 19 0) (mTens (((zi 18) - x1).toNatClampNeg))))), none, o6, o7, o8, o9, o10]) (st' := [.int (lg_cmp ((s.2.1 19 0) - (zremL (s.2.1 19 0) (mTens (((zi 18) - x1).toNatClampNeg)))) (s.2.1 19 0))]) (h' := mk s) 6 rfl ?_
    refine Ev.ifl_ne (t := 51) rfl rfl (fun hb => ?_) (fun hb => ?_)
    · have h := (if_pos hb).symm.trans h
      refine Ev.run (pc' := 52) (ls' := [some (.ref 19), some (.int x1), some (.long (mTens (((zi 18) - x1).toNatClampNeg))), none, some (.long ((s.2.1 19 0) - (zremL (s.2.1 19 0) (mTens (((zi 18) - x1).toNatClampNeg))))), none, o6, o7, o8, o9, o10]) (st' := [.int (zi 0)]) (h' := mk s) 1 rfl ?_
      exact k126_52 hrec2 x1 (mTens (((zi 18) - x1).toNatClampNeg)) ((s.2.1 19 0) - (zremL (s.2.1 19 0) (mTens (((zi 18) - x1).toNatClampNeg)))) (zi 0) s _ _ _ _ _ _ h
    · have h := (if_neg hb).symm.trans h
      refine Ev.run (pc' := 44) (ls' := [some (.ref 19), some (.int x1), some (.long (mTens (((zi 18) - x1).toNatClampNeg))), none, some (.long ((s.2.1 19 0) - (zremL (s.2.1 19 0) (mTens (((zi 18) - x1).toNatClampNeg))))), none, o6, o7, o8, o9, o10]) (st' := [.int (s.1 19 1)]) (h' := mk s) 2 rfl ?_
      refine Ev.if_ne (t := 51) rfl rfl (fun hb => ?_) (fun hb => ?_)
      · have h := (if_pos hb).symm.trans h
        refine Ev.run (pc' := 52) (ls' := [some (.ref 19), some (.int x1), some (.long (mTens (((zi 18) - x1).toNatClampNeg))), none, some (.long ((s.2.1 19 0) - (zremL (s.2.1 19 0) (mTens (((zi 18) - x1).toNatClampNeg))))), none, o6, o7, o8, o9, o10]) (st' := [.int (zi 0)]) (h' := mk s) 1 rfl ?_
        exact k126_52 hrec2 x1 (mTens (((zi 18) - x1).toNatClampNeg)) ((s.2.1 19 0) - (zremL (s.2.1 19 0) (mTens (((zi 18) - x1).toNatClampNeg)))) (zi 0) s _ _ _ _ _ _ h
      · have h := (if_neg hb).symm.trans h
        refine Ev.run (pc' := 52) (ls' := [some (.ref 19), some (.int x1), some (.long (mTens (((zi 18) - x1).toNatClampNeg))), none, some (.long ((s.2.1 19 0) - (zremL (s.2.1 19 0) (mTens (((zi 18) - x1).toNatClampNeg))))), none, o6, o7, o8, o9, o10]) (st' := [.int (zi 1)]) (h' := mk s) 2 rfl ?_
        exact k126_52 hrec2 x1 (mTens (((zi 18) - x1).toNatClampNeg)) ((s.2.1 19 0) - (zremL (s.2.1 19 0) (mTens (((zi 18) - x1).toNatClampNeg)))) (zi 1) s _ _ _ _ _ _ h
def f126_2  : Nat → Int32 → zS → Option (Int64 × zS)
  | 0, _, _ => none
  | n + 1, x1, s => b126_2 (f126_2 n) x1 s
set_option maxRecDepth 100000 in
theorem k126_2 {X : mX} {D : Nat}   (n : Nat) : ∀ (x1 : Int32) (s : zS) (r : Int64 × zS) (o2 : Option Value) (o3 : Option Value) (o4 : Option Value) (o5 : Option Value) (o6 : Option Value) (o7 : Option Value) (o8 : Option Value) (o9 : Option Value) (o10 : Option Value), f126_2  n x1 s = some r → Ev X (D + 1) mm126 2 [some (.ref 19), some (.int x1), o2, o3, o4, o5, o6, o7, o8, o9, o10] [] (mk s) (encL r) := by
  induction n with
  | zero => intro x1 s r o2 o3 o4 o5 o6 o7 o8 o9 o10  h; cases h
  | succ n ih => intro x1 s r o2 o3 o4 o5 o6 o7 o8 o9 o10  h; exact kb126_2  ih x1 s r o2 o3 o4 o5 o6 o7 o8 o9 o10  h
def f126   (s : zS) : Option (Int64 × zS) := f126_2 zF (zi 2) s
set_option maxRecDepth 100000 in
theorem k126 {X : mX} {D : Nat}  {s : zS} {r : Int64 × zS}  (h : f126  s = some r) : Ev X (D + 1) mm126 0 [some (.ref 19), none, none, none, none, none, none, none, none, none, none] [] (mk s) (encL r) := by
  unfold f126 at h
  refine Ev.run (pc' := 2) (ls' := [some (.ref 19), some (.int (zi 2)), none, none, none, none, none, none, none, none, none]) (st' := []) (h' := mk s) 2 rfl ?_
  exact k126_2 zF (zi 2) s _ _ _ _ _ _ _ _ _ _ h
/-! 132 F$Shortest.digitOf(JI)I -/
def f132_15  (x0 : Int64) (x2 : Int32) (y0 : Int32) (s : zS) : Option (Int32 × zS) := if y0 = zi 0 then some (zi 48, s) else if mIx ((zi 17) - x2) 19 then if ¬ (mTens (((zi 17) - x2).toNatClampNeg)) = zl 0 then some ((zi 48) + (zL2I (zremL (x0 / (mTens (((zi 17) - x2).toNatClampNeg))) (zl 10))), s) else none else none
set_option maxRecDepth 100000 in
theorem k132_15 {X : mX} {D : Nat}   (x0 : Int64) (x2 : Int32) (y0 : Int32) (s : zS) (r : Int32 × zS) (o3 : Option Value)  (h : f132_15  x0 x2 y0 s = some r) : Ev X D mm132 15 [some (.long x0), none, some (.int x2), o3] [.int y0] (mk s) (encI r) := by
  unfold f132_15 at h
  refine Ev.run (pc' := 17) (ls' := [some (.long x0), none, some (.int x2), some (.int y0)]) (st' := [.int y0]) (h' := mk s) 2 rfl ?_
  refine Ev.if_eq (t := 41) rfl rfl (fun hb => ?_) (fun hb => ?_)
  · have h := (if_pos hb).symm.trans h
    refine Ev.run (pc' := 43) (ls' := [some (.long x0), none, some (.int x2), some (.int y0)]) (st' := [.int (zi 48)]) (h' := mk s) 1 rfl ?_
    cases h
    exact Ev.fin rfl rfl
  · have h := (if_neg hb).symm.trans h
    refine Ev.run (pc' := 30) (ls' := [some (.long x0), none, some (.int x2), some (.int y0)]) (st' := [.int ((zi 17) - x2), .ref (mRO + 1), .long x0, .int (zi 48)]) (h' := mk s) 6 rfl ?_
    obtain ⟨hx, h⟩ := zif h
    refine Ev.step (pc' := 31) rfl (ald_l rfl hx) ?_
    obtain ⟨hx, h⟩ := zif h
    refine Ev.step (pc' := 32) rfl (ldiv_ok hx) ?_
    refine Ev.run (pc' := 43) (ls' := [some (.long x0), none, some (.int x2), some (.int y0)]) (st' := [.int ((zi 48) + (zL2I (zremL (x0 / (mTens (((zi 17) - x2).toNatClampNeg))) (zl 10))))]) (h' := mk s) 5 rfl ?_
    cases h
    exact Ev.fin rfl rfl
def f132  (x0 : Int64) (x2 : Int32) (s : zS) : Option (Int32 × zS) := if x2 < zi 0 then f132_15 x0 x2 (zi 0) s else if x2 ≥ (zi 18) then f132_15 x0 x2 (zi 0) s else f132_15 x0 x2 (zi 1) s
set_option maxRecDepth 100000 in
theorem k132 {X : mX} {D : Nat} {x0 : Int64} {x2 : Int32} {s : zS} {r : Int32 × zS}  (h : f132 x0 x2 s = some r) : Ev X D mm132 0 [some (.long x0), none, some (.int x2), none] [] (mk s) (encI r) := by
  unfold f132 at h
  refine Ev.run (pc' := 1) (ls' := [some (.long x0), none, some (.int x2), none]) (st' := [.int x2]) (h' := mk s) 1 rfl ?_
  refine Ev.if_lt (t := 14) rfl rfl (fun hb => ?_) (fun hb => ?_)
  · have h := (if_pos hb).symm.trans h
    refine Ev.run (pc' := 15) (ls' := [some (.long x0), none, some (.int x2), none]) (st' := [.int (zi 0)]) (h' := mk s) 1 rfl ?_
    exact k132_15 x0 x2 (zi 0) s _ _ h
  · have h := (if_neg hb).symm.trans h
    refine Ev.run (pc' := 7) (ls' := [some (.long x0), none, some (.int x2), none]) (st' := [.int (zi 18), .int x2]) (h' := mk s) 2 rfl ?_
    refine Ev.icmp_ge (t := 14) rfl rfl (fun hb => ?_) (fun hb => ?_)
    · have h := (if_pos hb).symm.trans h
      refine Ev.run (pc' := 15) (ls' := [some (.long x0), none, some (.int x2), none]) (st' := [.int (zi 0)]) (h' := mk s) 1 rfl ?_
      exact k132_15 x0 x2 (zi 0) s _ _ h
    · have h := (if_neg hb).symm.trans h
      refine Ev.run (pc' := 15) (ls' := [some (.long x0), none, some (.int x2), none]) (st' := [.int (zi 1)]) (h' := mk s) 2 rfl ?_
      exact k132_15 x0 x2 (zi 1) s _ _ h
/-! 131 F$Shortest.endOf(J)I -/
def b131_5 (rec5 : Int32 → Int64 → zS → Option (Int32 × zS)) (x2 : Int32) (x3 : Int64) (s : zS) : Option (Int32 × zS) := if x2 ≤ zi 0 then some (x2, s) else if ¬ (zremL x3 (zl 10)) = (zl 0) then some (x2, s) else rec5 (x2 + zi (-1)) (x3 / (zl 10)) s
set_option maxRecDepth 100000 in
theorem kb131_5 {X : mX} {D : Nat} {rec5 : Int32 → Int64 → zS → Option (Int32 × zS)} (hrec5 : ∀ (x2 : Int32) (x3 : Int64) (s : zS) (r : Int32 × zS) (o0 : Option Value), rec5 x2 x3 s = some r → Ev X D mm131 5 [o0, none, some (.int x2), some (.long x3), none] [] (mk s) (encI r)) (x2 : Int32) (x3 : Int64) (s : zS) (r : Int32 × zS) (o0 : Option Value)  (h : b131_5 rec5 x2 x3 s = some r) : Ev X D mm131 5 [o0, none, some (.int x2), some (.long x3), none] [] (mk s) (encI r) := by
  unfold b131_5 at h
  refine Ev.run (pc' := 6) (ls' := [o0, none, some (.int x2), some (.long x3), none]) (st' := [.int x2]) (h' := mk s) 1 rfl ?_
  refine Ev.if_le (t := 31) rfl rfl (fun hb => ?_) (fun hb => ?_)
  · have h := (if_pos hb).symm.trans h
    refine Ev.run (pc' := 32) (ls' := [o0, none, some (.int x2), some (.long x3), none]) (st' := [.int x2]) (h' := mk s) 1 rfl ?_
    cases h
    exact Ev.fin rfl rfl
  · have h := (if_neg hb).symm.trans h
    refine Ev.run (pc' := 16) (ls' := [o0, none, some (.int x2), some (.long x3), none]) (st' := [.int (lg_cmp (zremL x3 (zl 10)) (zl 0))]) (h' := mk s) 5 rfl ?_
    refine Ev.ifl_ne (t := 31) rfl rfl (fun hb => ?_) (fun hb => ?_)
    · have h := (if_pos hb).symm.trans h
      refine Ev.run (pc' := 32) (ls' := [o0, none, some (.int x2), some (.long x3), none]) (st' := [.int x2]) (h' := mk s) 1 rfl ?_
      cases h
      exact Ev.fin rfl rfl
    · have h := (if_neg hb).symm.trans h
      refine Ev.run (pc' := 5) (ls' := [o0, none, some (.int (x2 + zi (-1))), some (.long (x3 / (zl 10))), none]) (st' := []) (h' := mk s) 6 rfl ?_
      exact hrec5 (x2 + zi (-1)) (x3 / (zl 10)) s _ _ h
def f131_5  : Nat → Int32 → Int64 → zS → Option (Int32 × zS)
  | 0, _, _, _ => none
  | n + 1, x2, x3, s => b131_5 (f131_5 n) x2 x3 s
set_option maxRecDepth 100000 in
theorem k131_5 {X : mX} {D : Nat}   (n : Nat) : ∀ (x2 : Int32) (x3 : Int64) (s : zS) (r : Int32 × zS) (o0 : Option Value), f131_5  n x2 x3 s = some r → Ev X D mm131 5 [o0, none, some (.int x2), some (.long x3), none] [] (mk s) (encI r) := by
  induction n with
  | zero => intro x2 x3 s r o0  h; cases h
  | succ n ih => intro x2 x3 s r o0  h; exact kb131_5  ih x2 x3 s r o0  h
def f131  (x0 : Int64) (s : zS) : Option (Int32 × zS) := f131_5 zF (zi 18) x0 s
set_option maxRecDepth 100000 in
theorem k131 {X : mX} {D : Nat} {x0 : Int64} {s : zS} {r : Int32 × zS}  (h : f131 x0 s = some r) : Ev X D mm131 0 [some (.long x0), none, none, none, none] [] (mk s) (encI r) := by
  unfold f131 at h
  refine Ev.run (pc' := 5) (ls' := [some (.long x0), none, some (.int (zi 18)), some (.long x0), none]) (st' := []) (h' := mk s) 4 rfl ?_
  exact k131_5 zF (zi 18) x0 s _ _ h
/-! 130 F$Shortest.writePlain(LFormatPress$Piece;JI)V -/
def b130_44 (rec44 : Int64 → Int32 → Int32 → zS → Option (zS)) (x1 : Int64) (x3 : Int32) (x4 : Int32) (s : zS) : Option (zS) := zb1 (f131 x1 s) (fun v2 s1 => if x4 ≥ (r264 v2 (x3 + (zi 1)) s1) then some s1 else zb1 (f132 x1 x4 s1) (fun v4 s3 => zb0 (f70 v4 s3) (fun s5 => rec44 x1 x3 (x4 + zi 1) s5)))
set_option maxRecDepth 100000 in
theorem kb130_44 {X : mX} {D : Nat} {rec44 : Int64 → Int32 → Int32 → zS → Option (zS)} (hrec44 : ∀ (x1 : Int64) (x3 : Int32) (x4 : Int32) (s : zS) (r : zS) , rec44 x1 x3 x4 s = some r → Ev X (D + 1) mm130 44 [some (.ref 13), some (.long x1), none, some (.int x3), some (.int x4)] [] (mk s) (encV r)) (x1 : Int64) (x3 : Int32) (x4 : Int32) (s : zS) (r : zS)   (h : b130_44 rec44 x1 x3 x4 s = some r) : Ev X (D + 1) mm130 44 [some (.ref 13), some (.long x1), none, some (.int x3), some (.int x4)] [] (mk s) (encV r) := by
  unfold b130_44 at h
  refine Ev.run (pc' := 47) (ls' := [some (.ref 13), some (.long x1), none, some (.int x3), some (.int x4)]) (st' := [.long x1, .int x4]) (h' := mk s) 2 rfl ?_
  obtain ⟨v2, s1, hq, h⟩ := zb1_some h
  refine Ev.call (M' := mm131) (v := some (.int v2)) (h' := mk s1) rfl rfl rfl (Nat.le_of_ble_eq_true rfl) (k131 hq) ?_
  refine Ev.run (pc' := 53) (ls' := [some (.ref 13), some (.long x1), none, some (.int x3), some (.int x4)]) (st' := [.int (x3 + (zi 1)), .int v2, .int x4]) (h' := mk s1) 3 rfl ?_
  refine Ev.call (M' := mm264) (v := some (.int (r264 v2 (x3 + (zi 1)) s1))) (h' := mk s1) rfl rfl rfl (Nat.le_of_ble_eq_true rfl) (k264 (x0 := v2) (x1 := (x3 + (zi 1))) (s := s1) (v := r264 v2 (x3 + (zi 1)) s1)  rfl) ?_
  refine Ev.icmp_ge (t := 75) rfl rfl (fun hb => ?_) (fun hb => ?_)
  · have h := (if_pos hb).symm.trans h
    cases h
    exact Ev.fin rfl rfl
  · have h := (if_neg hb).symm.trans h
    refine Ev.run (pc' := 63) (ls' := [some (.ref 13), some (.long x1), none, some (.int x3), some (.int x4)]) (st' := [.int x4, .long x1, .ref 13]) (h' := mk s1) 3 rfl ?_
    obtain ⟨v4, s3, hq, h⟩ := zb1_some h
    refine Ev.call (M' := mm132) (v := some (.int v4)) (h' := mk s3) rfl rfl rfl (Nat.le_of_ble_eq_true rfl) (k132 hq) ?_
    obtain ⟨s5, hq, h⟩ := zb0_some h
    refine Ev.call (M' := mm70) (v := none) (h' := mk s5) rfl rfl rfl (Nat.le_of_ble_eq_true rfl) (k70 hq) ?_
    refine Ev.run (pc' := 44) (ls' := [some (.ref 13), some (.long x1), none, some (.int x3), some (.int (x4 + zi 1))]) (st' := []) (h' := mk s5) 2 rfl ?_
    exact hrec44 x1 x3 (x4 + zi 1) s5 _ h
def f130_44  : Nat → Int64 → Int32 → Int32 → zS → Option (zS)
  | 0, _, _, _, _ => none
  | n + 1, x1, x3, x4, s => b130_44 (f130_44 n) x1 x3 x4 s
set_option maxRecDepth 100000 in
theorem k130_44 {X : mX} {D : Nat}   (n : Nat) : ∀ (x1 : Int64) (x3 : Int32) (x4 : Int32) (s : zS) (r : zS) , f130_44  n x1 x3 x4 s = some r → Ev X (D + 1) mm130 44 [some (.ref 13), some (.long x1), none, some (.int x3), some (.int x4)] [] (mk s) (encV r) := by
  induction n with
  | zero => intro x1 x3 x4 s r   h; cases h
  | succ n ih => intro x1 x3 x4 s r   h; exact kb130_44  ih x1 x3 x4 s r   h
def b130_13 (rec13 : Int64 → Int32 → Int32 → zS → Option (zS)) (x1 : Int64) (x3 : Int32) (x4 : Int32) (s : zS) : Option (zS) := if x4 ≥ x3 then zb0 (f70 (zi 46) s) (fun s1 => f130_44 zF x1 x3 x3 s1) else zb1 (f132 x1 x4 s) (fun v3 s2 => zb0 (f70 v3 s2) (fun s4 => rec13 x1 x3 (x4 + zi 1) s4))
set_option maxRecDepth 100000 in
theorem kb130_13 {X : mX} {D : Nat} {rec13 : Int64 → Int32 → Int32 → zS → Option (zS)} (hrec13 : ∀ (x1 : Int64) (x3 : Int32) (x4 : Int32) (s : zS) (r : zS) , rec13 x1 x3 x4 s = some r → Ev X (D + 1) mm130 13 [some (.ref 13), some (.long x1), none, some (.int x3), some (.int x4)] [] (mk s) (encV r)) (x1 : Int64) (x3 : Int32) (x4 : Int32) (s : zS) (r : zS)   (h : b130_13 rec13 x1 x3 x4 s = some r) : Ev X (D + 1) mm130 13 [some (.ref 13), some (.long x1), none, some (.int x3), some (.int x4)] [] (mk s) (encV r) := by
  unfold b130_13 at h
  refine Ev.run (pc' := 16) (ls' := [some (.ref 13), some (.long x1), none, some (.int x3), some (.int x4)]) (st' := [.int x3, .int x4]) (h' := mk s) 2 rfl ?_
  refine Ev.icmp_ge (t := 35) rfl rfl (fun hb => ?_) (fun hb => ?_)
  · have h := (if_pos hb).symm.trans h
    refine Ev.run (pc' := 38) (ls' := [some (.ref 13), some (.long x1), none, some (.int x3), some (.int x4)]) (st' := [.int (zi 46), .ref 13]) (h' := mk s) 2 rfl ?_
    obtain ⟨s1, hq, h⟩ := zb0_some h
    refine Ev.call (M' := mm70) (v := none) (h' := mk s1) rfl rfl rfl (Nat.le_of_ble_eq_true rfl) (k70 hq) ?_
    refine Ev.run (pc' := 44) (ls' := [some (.ref 13), some (.long x1), none, some (.int x3), some (.int x3)]) (st' := []) (h' := mk s1) 2 rfl ?_
    exact k130_44 zF x1 x3 x3 s1 _ h
  · have h := (if_neg hb).symm.trans h
    refine Ev.run (pc' := 23) (ls' := [some (.ref 13), some (.long x1), none, some (.int x3), some (.int x4)]) (st' := [.int x4, .long x1, .ref 13]) (h' := mk s) 3 rfl ?_
    obtain ⟨v3, s2, hq, h⟩ := zb1_some h
    refine Ev.call (M' := mm132) (v := some (.int v3)) (h' := mk s2) rfl rfl rfl (Nat.le_of_ble_eq_true rfl) (k132 hq) ?_
    obtain ⟨s4, hq, h⟩ := zb0_some h
    refine Ev.call (M' := mm70) (v := none) (h' := mk s4) rfl rfl rfl (Nat.le_of_ble_eq_true rfl) (k70 hq) ?_
    refine Ev.run (pc' := 13) (ls' := [some (.ref 13), some (.long x1), none, some (.int x3), some (.int (x4 + zi 1))]) (st' := []) (h' := mk s4) 2 rfl ?_
    exact hrec13 x1 x3 (x4 + zi 1) s4 _ h
def f130_13  : Nat → Int64 → Int32 → Int32 → zS → Option (zS)
  | 0, _, _, _, _ => none
  | n + 1, x1, x3, x4, s => b130_13 (f130_13 n) x1 x3 x4 s
set_option maxRecDepth 100000 in
theorem k130_13 {X : mX} {D : Nat}   (n : Nat) : ∀ (x1 : Int64) (x3 : Int32) (x4 : Int32) (s : zS) (r : zS) , f130_13  n x1 x3 x4 s = some r → Ev X (D + 1) mm130 13 [some (.ref 13), some (.long x1), none, some (.int x3), some (.int x4)] [] (mk s) (encV r) := by
  induction n with
  | zero => intro x1 x3 x4 s r   h; cases h
  | succ n ih => intro x1 x3 x4 s r   h; exact kb130_13  ih x1 x3 x4 s r   h
def f130  (x1 : Int64) (x3 : Int32) (s : zS) : Option (zS) := if x3 > zi 0 then f130_13 zF x1 x3 (zi 0) s else zb0 (f70 (zi 48) s) (fun s1 => f130_13 zF x1 x3 (zi 0) s1)
set_option maxRecDepth 100000 in
theorem k130 {X : mX} {D : Nat} {x1 : Int64} {x3 : Int32} {s : zS} {r : zS}  (h : f130 x1 x3 s = some r) : Ev X (D + 1) mm130 0 [some (.ref 13), some (.long x1), none, some (.int x3), none] [] (mk s) (encV r) := by
  unfold f130 at h
  refine Ev.run (pc' := 1) (ls' := [some (.ref 13), some (.long x1), none, some (.int x3), none]) (st' := [.int x3]) (h' := mk s) 1 rfl ?_
  refine Ev.if_gt (t := 10) rfl rfl (fun hb => ?_) (fun hb => ?_)
  · have h := (if_pos hb).symm.trans h
    refine Ev.run (pc' := 13) (ls' := [some (.ref 13), some (.long x1), none, some (.int x3), some (.int (zi 0))]) (st' := []) (h' := mk s) 2 rfl ?_
    exact k130_13 zF x1 x3 (zi 0) s _ h
  · have h := (if_neg hb).symm.trans h
    refine Ev.run (pc' := 7) (ls' := [some (.ref 13), some (.long x1), none, some (.int x3), none]) (st' := [.int (zi 48), .ref 13]) (h' := mk s) 2 rfl ?_
    obtain ⟨s1, hq, h⟩ := zb0_some h
    refine Ev.call (M' := mm70) (v := none) (h' := mk s1) rfl rfl rfl (Nat.le_of_ble_eq_true rfl) (k70 hq) ?_
    refine Ev.run (pc' := 13) (ls' := [some (.ref 13), some (.long x1), none, some (.int x3), some (.int (zi 0))]) (st' := []) (h' := mk s1) 2 rfl ?_
    exact k130_13 zF x1 x3 (zi 0) s1 _ h
/-! 78 F$Piece.addSize(JIZ)V -/
def f78_84 (rec25 : Int32 → Int32 → Int64 → Int32 → Int32 → zS → Option (zS)) (x3 : Int32) (x4 : Int32) (x5 : Int64) (x7 : Int32) (x8 : Int32) (s : zS) : Option (zS) := if x7 = zi 0 then rec25 x3 x4 x5 x7 (x8 + zi (-1)) s else if x4 = zi 0 then rec25 x3 x4 x5 x7 (x8 + zi (-1)) s else if x8 ≤ zi 0 then rec25 x3 x4 x5 x7 (x8 + zi (-1)) s else if ¬ (zrem x8 (zi 3)) = zi 0 then rec25 x3 x4 x5 x7 (x8 + zi (-1)) s else zb0 (f70 (zi 44) s) (fun s1 => rec25 x3 x4 x5 x7 (x8 + zi (-1)) s1)
set_option maxRecDepth 100000 in
theorem k78_84 {X : mX} {D : Nat} {rec25 : Int32 → Int32 → Int64 → Int32 → Int32 → zS → Option (zS)} (hrec25 : ∀ (x3 : Int32) (x4 : Int32) (x5 : Int64) (x7 : Int32) (x8 : Int32) (s : zS) (r : zS) (o1 : Option Value) (o2 : Option Value) (o9 : Option Value), rec25 x3 x4 x5 x7 x8 s = some r → Ev X (D + 1) mm78 25 [some (.ref 13), o1, o2, some (.int x3), some (.int x4), some (.long x5), none, some (.int x7), some (.int x8), o9] [] (mk s) (encV r)) (x3 : Int32) (x4 : Int32) (x5 : Int64) (x7 : Int32) (x8 : Int32) (s : zS) (r : zS) (o1 : Option Value) (o2 : Option Value) (o9 : Option Value)  (h : f78_84 rec25 x3 x4 x5 x7 x8 s = some r) : Ev X (D + 1) mm78 84 [some (.ref 13), o1, o2, some (.int x3), some (.int x4), some (.long x5), none, some (.int x7), some (.int x8), o9] [] (mk s) (encV r) := by
  unfold f78_84 at h
  refine Ev.run (pc' := 86) (ls' := [some (.ref 13), o1, o2, some (.int x3), some (.int x4), some (.long x5), none, some (.int x7), some (.int x8), o9]) (st' := [.int x7]) (h' := mk s) 1 rfl ?_
  refine Ev.if_eq (t := 112) rfl rfl (fun hb => ?_) (fun hb => ?_)
  · have h := (if_pos hb).symm.trans h
    refine Ev.run (pc' := 25) (ls' := [some (.ref 13), o1, o2, some (.int x3), some (.int x4), some (.long x5), none, some (.int x7), some (.int (x8 + zi (-1))), o9]) (st' := []) (h' := mk s) 2 rfl ?_
    exact hrec25 x3 x4 x5 x7 (x8 + zi (-1)) s _ _ _ _ h
  · have h := (if_neg hb).symm.trans h
    refine Ev.run (pc' := 91) (ls' := [some (.ref 13), o1, o2, some (.int x3), some (.int x4), some (.long x5), none, some (.int x7), some (.int x8), o9]) (st' := [.int x4]) (h' := mk s) 1 rfl ?_
    refine Ev.if_eq (t := 112) rfl rfl (fun hb => ?_) (fun hb => ?_)
    · have h := (if_pos hb).symm.trans h
      refine Ev.run (pc' := 25) (ls' := [some (.ref 13), o1, o2, some (.int x3), some (.int x4), some (.long x5), none, some (.int x7), some (.int (x8 + zi (-1))), o9]) (st' := []) (h' := mk s) 2 rfl ?_
      exact hrec25 x3 x4 x5 x7 (x8 + zi (-1)) s _ _ _ _ h
    · have h := (if_neg hb).symm.trans h
      refine Ev.run (pc' := 96) (ls' := [some (.ref 13), o1, o2, some (.int x3), some (.int x4), some (.long x5), none, some (.int x7), some (.int x8), o9]) (st' := [.int x8]) (h' := mk s) 1 rfl ?_
      refine Ev.if_le (t := 112) rfl rfl (fun hb => ?_) (fun hb => ?_)
      · have h := (if_pos hb).symm.trans h
        refine Ev.run (pc' := 25) (ls' := [some (.ref 13), o1, o2, some (.int x3), some (.int x4), some (.long x5), none, some (.int x7), some (.int (x8 + zi (-1))), o9]) (st' := []) (h' := mk s) 2 rfl ?_
        exact hrec25 x3 x4 x5 x7 (x8 + zi (-1)) s _ _ _ _ h
      · have h := (if_neg hb).symm.trans h
        refine Ev.run (pc' := 103) (ls' := [some (.ref 13), o1, o2, some (.int x3), some (.int x4), some (.long x5), none, some (.int x7), some (.int x8), o9]) (st' := [.int (zrem x8 (zi 3))]) (h' := mk s) 3 rfl ?_
        refine Ev.if_ne (t := 112) rfl rfl (fun hb => ?_) (fun hb => ?_)
        · have h := (if_pos hb).symm.trans h
          refine Ev.run (pc' := 25) (ls' := [some (.ref 13), o1, o2, some (.int x3), some (.int x4), some (.long x5), none, some (.int x7), some (.int (x8 + zi (-1))), o9]) (st' := []) (h' := mk s) 2 rfl ?_
          exact hrec25 x3 x4 x5 x7 (x8 + zi (-1)) s _ _ _ _ h
        · have h := (if_neg hb).symm.trans h
          refine Ev.run (pc' := 109) (ls' := [some (.ref 13), o1, o2, some (.int x3), some (.int x4), some (.long x5), none, some (.int x7), some (.int x8), o9]) (st' := [.int (zi 44), .ref 13]) (h' := mk s) 2 rfl ?_
          obtain ⟨s1, hq, h⟩ := zb0_some h
          refine Ev.call (M' := mm70) (v := none) (h' := mk s1) rfl rfl rfl (Nat.le_of_ble_eq_true rfl) (k70 hq) ?_
          refine Ev.run (pc' := 25) (ls' := [some (.ref 13), o1, o2, some (.int x3), some (.int x4), some (.long x5), none, some (.int x7), some (.int (x8 + zi (-1))), o9]) (st' := []) (h' := mk s1) 2 rfl ?_
          exact hrec25 x3 x4 x5 x7 (x8 + zi (-1)) s1 _ _ _ _ h
def f78_68 (rec25 : Int32 → Int32 → Int64 → Int32 → Int32 → zS → Option (zS)) (x3 : Int32) (x4 : Int32) (x5 : Int64) (x8 : Int32) (x9 : Int32) (y0 : Int32) (s : zS) : Option (zS) := if y0 = zi 0 then f78_84 rec25 x3 x4 x5 y0 x8 s else zb0 (f70 ((zi 48) + x9) s) (fun s1 => f78_84 rec25 x3 x4 x5 y0 x8 s1)
set_option maxRecDepth 100000 in
theorem k78_68 {X : mX} {D : Nat} {rec25 : Int32 → Int32 → Int64 → Int32 → Int32 → zS → Option (zS)} (hrec25 : ∀ (x3 : Int32) (x4 : Int32) (x5 : Int64) (x7 : Int32) (x8 : Int32) (s : zS) (r : zS) (o1 : Option Value) (o2 : Option Value) (o9 : Option Value), rec25 x3 x4 x5 x7 x8 s = some r → Ev X (D + 1) mm78 25 [some (.ref 13), o1, o2, some (.int x3), some (.int x4), some (.long x5), none, some (.int x7), some (.int x8), o9] [] (mk s) (encV r)) (x3 : Int32) (x4 : Int32) (x5 : Int64) (x8 : Int32) (x9 : Int32) (y0 : Int32) (s : zS) (r : zS) (o1 : Option Value) (o2 : Option Value) (o7 : Option Value)  (h : f78_68 rec25 x3 x4 x5 x8 x9 y0 s = some r) : Ev X (D + 1) mm78 68 [some (.ref 13), o1, o2, some (.int x3), some (.int x4), some (.long x5), none, o7, some (.int x8), some (.int x9)] [.int y0] (mk s) (encV r) := by
  unfold f78_68 at h
  refine Ev.run (pc' := 72) (ls' := [some (.ref 13), o1, o2, some (.int x3), some (.int x4), some (.long x5), none, some (.int y0), some (.int x8), some (.int x9)]) (st' := [.int y0]) (h' := mk s) 2 rfl ?_
  refine Ev.if_eq (t := 84) rfl rfl (fun hb => ?_) (fun hb => ?_)
  · have h := (if_pos hb).symm.trans h
    exact k78_84 hrec25 x3 x4 x5 y0 x8 s _ _ _ _ h
  · have h := (if_neg hb).symm.trans h
    refine Ev.run (pc' := 81) (ls' := [some (.ref 13), o1, o2, some (.int x3), some (.int x4), some (.long x5), none, some (.int y0), some (.int x8), some (.int x9)]) (st' := [.int ((zi 48) + x9), .ref 13]) (h' := mk s) 4 rfl ?_
    obtain ⟨s1, hq, h⟩ := zb0_some h
    refine Ev.call (M' := mm70) (v := none) (h' := mk s1) rfl rfl rfl (Nat.le_of_ble_eq_true rfl) (k70 hq) ?_
    exact k78_84 hrec25 x3 x4 x5 y0 x8 s1 _ _ _ _ h
def b78_25 (rec25 : Int32 → Int32 → Int64 → Int32 → Int32 → zS → Option (zS)) (x3 : Int32) (x4 : Int32) (x5 : Int64) (x7 : Int32) (x8 : Int32) (s : zS) : Option (zS) := if x8 < zi 0 then some s else if mIx x8 19 then if ¬ (mTens x8.toNatClampNeg) = zl 0 then if ¬ x7 = zi 0 then f78_68 rec25 x3 x4 x5 x8 (zL2I (-(zremL (x5 / (mTens x8.toNatClampNeg)) (zl 10)))) (zi 1) s else if ¬ (zL2I (-(zremL (x5 / (mTens x8.toNatClampNeg)) (zl 10)))) = zi 0 then f78_68 rec25 x3 x4 x5 x8 (zL2I (-(zremL (x5 / (mTens x8.toNatClampNeg)) (zl 10)))) (zi 1) s else if x8 ≥ x3 then f78_68 rec25 x3 x4 x5 x8 (zL2I (-(zremL (x5 / (mTens x8.toNatClampNeg)) (zl 10)))) (zi 0) s else f78_68 rec25 x3 x4 x5 x8 (zL2I (-(zremL (x5 / (mTens x8.toNatClampNeg)) (zl 10)))) (zi 1) s else none else none
set_option maxRecDepth 100000 in
theorem kb78_25 {X : mX} {D : Nat} {rec25 : Int32 → Int32 → Int64 → Int32 → Int32 → zS → Option (zS)} (hrec25 : ∀ (x3 : Int32) (x4 : Int32) (x5 : Int64) (x7 : Int32) (x8 : Int32) (s : zS) (r : zS) (o1 : Option Value) (o2 : Option Value) (o9 : Option Value), rec25 x3 x4 x5 x7 x8 s = some r → Ev X (D + 1) mm78 25 [some (.ref 13), o1, o2, some (.int x3), some (.int x4), some (.long x5), none, some (.int x7), some (.int x8), o9] [] (mk s) (encV r)) (x3 : Int32) (x4 : Int32) (x5 : Int64) (x7 : Int32) (x8 : Int32) (s : zS) (r : zS) (o1 : Option Value) (o2 : Option Value) (o9 : Option Value)  (h : b78_25 rec25 x3 x4 x5 x7 x8 s = some r) : Ev X (D + 1) mm78 25 [some (.ref 13), o1, o2, some (.int x3), some (.int x4), some (.long x5), none, some (.int x7), some (.int x8), o9] [] (mk s) (encV r) := by
  unfold b78_25 at h
  refine Ev.run (pc' := 27) (ls' := [some (.ref 13), o1, o2, some (.int x3), some (.int x4), some (.long x5), none, some (.int x7), some (.int x8), o9]) (st' := [.int x8]) (h' := mk s) 1 rfl ?_
  refine Ev.if_lt (t := 118) rfl rfl (fun hb => ?_) (fun hb => ?_)
  · have h := (if_pos hb).symm.trans h
    cases h
    exact Ev.fin rfl rfl
  · have h := (if_neg hb).symm.trans h
    refine Ev.run (pc' := 37) (ls' := [some (.ref 13), o1, o2, some (.int x3), some (.int x4), some (.long x5), none, some (.int x7), some (.int x8), o9]) (st' := [.int x8, .ref (mRO + 1), .long x5]) (h' := mk s) 3 rfl ?_
    obtain ⟨hx, h⟩ := zif h
    refine Ev.step (pc' := 38) rfl (ald_l rfl hx) ?_
    obtain ⟨hx, h⟩ := zif h
    refine Ev.step (pc' := 39) rfl (ldiv_ok hx) ?_
    refine Ev.run (pc' := 49) (ls' := [some (.ref 13), o1, o2, some (.int x3), some (.int x4), some (.long x5), none, some (.int x7), some (.int x8), some (.int (zL2I (-(zremL (x5 / (mTens x8.toNatClampNeg)) (zl 10)))))]) (st' := [.int x7]) (h' := mk s) 6 rfl ?_
    refine Ev.if_ne (t := 63) rfl rfl (fun hb => ?_) (fun hb => ?_)
    · have h := (if_pos hb).symm.trans h
      refine Ev.run (pc' := 68) (ls' := [some (.ref 13), o1, o2, some (.int x3), some (.int x4), some (.long x5), none, some (.int x7), some (.int x8), some (.int (zL2I (-(zremL (x5 / (mTens x8.toNatClampNeg)) (zl 10)))))]) (st' := [.int (zi 1)]) (h' := mk s) 2 rfl ?_
      exact k78_68 hrec25 x3 x4 x5 x8 (zL2I (-(zremL (x5 / (mTens x8.toNatClampNeg)) (zl 10)))) (zi 1) s _ _ _ _ h
    · have h := (if_neg hb).symm.trans h
      refine Ev.run (pc' := 54) (ls' := [some (.ref 13), o1, o2, some (.int x3), some (.int x4), some (.long x5), none, some (.int x7), some (.int x8), some (.int (zL2I (-(zremL (x5 / (mTens x8.toNatClampNeg)) (zl 10)))))]) (st' := [.int (zL2I (-(zremL (x5 / (mTens x8.toNatClampNeg)) (zl 10))))]) (h' := mk s) 1 rfl ?_
      refine Ev.if_ne (t := 63) rfl rfl (fun hb => ?_) (fun hb => ?_)
      · have h := (if_pos hb).symm.trans h
        refine Ev.run (pc' := 68) (ls' := [some (.ref 13), o1, o2, some (.int x3), some (.int x4), some (.long x5), none, some (.int x7), some (.int x8), some (.int (zL2I (-(zremL (x5 / (mTens x8.toNatClampNeg)) (zl 10)))))]) (st' := [.int (zi 1)]) (h' := mk s) 2 rfl ?_
        exact k78_68 hrec25 x3 x4 x5 x8 (zL2I (-(zremL (x5 / (mTens x8.toNatClampNeg)) (zl 10)))) (zi 1) s _ _ _ _ h
      · have h := (if_neg hb).symm.trans h
        refine Ev.run (pc' := 60) (ls' := [some (.ref 13), o1, o2, some (.int x3), some (.int x4), some (.long x5), none, some (.int x7), some (.int x8), some (.int (zL2I (-(zremL (x5 / (mTens x8.toNatClampNeg)) (zl 10)))))]) (st' := [.int x3, .int x8]) (h' := mk s) 2 rfl ?_
        refine Ev.icmp_ge (t := 67) rfl rfl (fun hb => ?_) (fun hb => ?_)
        · have h := (if_pos hb).symm.trans h
          refine Ev.run (pc' := 68) (ls' := [some (.ref 13), o1, o2, some (.int x3), some (.int x4), some (.long x5), none, some (.int x7), some (.int x8), some (.int (zL2I (-(zremL (x5 / (mTens x8.toNatClampNeg)) (zl 10)))))]) (st' := [.int (zi 0)]) (h' := mk s) 1 rfl ?_
          exact k78_68 hrec25 x3 x4 x5 x8 (zL2I (-(zremL (x5 / (mTens x8.toNatClampNeg)) (zl 10)))) (zi 0) s _ _ _ _ h
        · have h := (if_neg hb).symm.trans h
          refine Ev.run (pc' := 68) (ls' := [some (.ref 13), o1, o2, some (.int x3), some (.int x4), some (.long x5), none, some (.int x7), some (.int x8), some (.int (zL2I (-(zremL (x5 / (mTens x8.toNatClampNeg)) (zl 10)))))]) (st' := [.int (zi 1)]) (h' := mk s) 2 rfl ?_
          exact k78_68 hrec25 x3 x4 x5 x8 (zL2I (-(zremL (x5 / (mTens x8.toNatClampNeg)) (zl 10)))) (zi 1) s _ _ _ _ h
def f78_25  : Nat → Int32 → Int32 → Int64 → Int32 → Int32 → zS → Option (zS)
  | 0, _, _, _, _, _, _ => none
  | n + 1, x3, x4, x5, x7, x8, s => b78_25 (f78_25 n) x3 x4 x5 x7 x8 s
set_option maxRecDepth 100000 in
theorem k78_25 {X : mX} {D : Nat}   (n : Nat) : ∀ (x3 : Int32) (x4 : Int32) (x5 : Int64) (x7 : Int32) (x8 : Int32) (s : zS) (r : zS) (o1 : Option Value) (o2 : Option Value) (o9 : Option Value), f78_25  n x3 x4 x5 x7 x8 s = some r → Ev X (D + 1) mm78 25 [some (.ref 13), o1, o2, some (.int x3), some (.int x4), some (.long x5), none, some (.int x7), some (.int x8), o9] [] (mk s) (encV r) := by
  induction n with
  | zero => intro x3 x4 x5 x7 x8 s r o1 o2 o9  h; cases h
  | succ n ih => intro x3 x4 x5 x7 x8 s r o1 o2 o9  h; exact kb78_25  ih x3 x4 x5 x7 x8 s r o1 o2 o9  h
def f78_12  (x3 : Int32) (x4 : Int32) (y0 : Int64) (s : zS) : Option (zS) := f78_25 zF x3 x4 y0 (zi 0) ((zi 19) - (zi 1)) s
set_option maxRecDepth 100000 in
theorem k78_12 {X : mX} {D : Nat}   (x3 : Int32) (x4 : Int32) (y0 : Int64) (s : zS) (r : zS) (o1 : Option Value) (o2 : Option Value) (o5 : Option Value) (o6 : Option Value) (o7 : Option Value) (o8 : Option Value) (o9 : Option Value)  (h : f78_12  x3 x4 y0 s = some r) : Ev X (D + 1) mm78 12 [some (.ref 13), o1, o2, some (.int x3), some (.int x4), o5, o6, o7, o8, o9] [.long y0] (mk s) (encV r) := by
  unfold f78_12 at h
  refine Ev.run (pc' := 25) (ls' := [some (.ref 13), o1, o2, some (.int x3), some (.int x4), some (.long y0), none, some (.int (zi 0)), some (.int ((zi 19) - (zi 1))), o9]) (st' := []) (h' := mk s) 8 rfl ?_
  exact k78_25 zF x3 x4 y0 (zi 0) ((zi 19) - (zi 1)) s _ _ _ _ h
def f78  (x1 : Int64) (x3 : Int32) (x4 : Int32) (s : zS) : Option (zS) := if x1 ≥ (zl 0) then f78_12 x3 x4 (-x1) s else f78_12 x3 x4 x1 s
set_option maxRecDepth 100000 in
theorem k78 {X : mX} {D : Nat} {x1 : Int64} {x3 : Int32} {x4 : Int32} {s : zS} {r : zS}  (h : f78 x1 x3 x4 s = some r) : Ev X (D + 1) mm78 0 [some (.ref 13), some (.long x1), none, some (.int x3), some (.int x4), none, none, none, none, none] [] (mk s) (encV r) := by
  unfold f78 at h
  refine Ev.run (pc' := 3) (ls' := [some (.ref 13), some (.long x1), none, some (.int x3), some (.int x4), none, none, none, none, none]) (st' := [.int (lg_cmp x1 (zl 0))]) (h' := mk s) 3 rfl ?_
  refine Ev.ifl_ge (t := 10) rfl rfl (fun hb => ?_) (fun hb => ?_)
  · have h := (if_pos hb).symm.trans h
    refine Ev.run (pc' := 12) (ls' := [some (.ref 13), some (.long x1), none, some (.int x3), some (.int x4), none, none, none, none, none]) (st' := [.long (-x1)]) (h' := mk s) 2 rfl ?_
    exact k78_12 x3 x4 (-x1) s _ _ _ _ _ _ _ _ h
  · have h := (if_neg hb).symm.trans h
    refine Ev.run (pc' := 12) (ls' := [some (.ref 13), some (.long x1), none, some (.int x3), some (.int x4), none, none, none, none, none]) (st' := [.long x1]) (h' := mk s) 2 rfl ?_
    exact k78_12 x3 x4 x1 s _ _ _ _ _ _ _ _ h
