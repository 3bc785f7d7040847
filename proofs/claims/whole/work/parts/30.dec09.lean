/-! decompiled methods, 9; printed by wip/gen/gen8.py -/
/-! 199 FModel.spec(I)I -/
def f199_520   (s : zS) : Option (Int32 × zS) := if (s.1 24 17) < zi 0 then some (zi 0, s) else if (zidx 59 (s.1 24 18)) < zi 0 then some (zi 0, s) else some (zi 7, s)
theorem k199_520 {X : mX} {D : Nat}    (s : zS) (r : Int32 × zS) (o1 : Option Value) (o2 : Option Value) (o3 : Option Value) (o4 : Option Value) (o5 : Option Value)  (h : f199_520   s = some r) : Ev X (D + 5) mm199 520 [some (.ref 24), o1, o2, o3, o4, o5] [] (mk s) (encI r) := by
  unfold f199_520 at h
  refine Ev.run (pc' := 524) (ls' := [some (.ref 24), o1, o2, o3, o4, o5]) (st' := [.int (s.1 24 17)]) (h' := mk s) 2 rfl ?_
  refine Ev.if_lt (t := 545) rfl rfl (fun hb => ?_) (fun hb => ?_)
  · have h := (if_pos hb).symm.trans h
    refine Ev.run (pc' := 546) (ls' := [some (.ref 24), o1, o2, o3, o4, o5]) (st' := [.int (zi 0)]) (h' := mk s) 1 rfl ?_
    cases h
    exact Ev.fin rfl rfl
  · have h := (if_neg hb).symm.trans h
    refine Ev.run (pc' := 534) (ls' := [some (.ref 24), o1, o2, o3, o4, o5]) (st' := [.int (s.1 24 18), .ref (mRO + 3 + 2 * 59)]) (h' := mk s) 3 rfl ?_
    refine Ev.call (M' := mm243) (as := [.ref (mRO + 3 + 2 * 59), .int (s.1 24 18)]) (rest := []) (v := some (.int (zidx 59 (s.1 24 18)))) (h' := mk s) rfl (litcall rfl rfl (by decide) rfl rfl) rfl (Nat.le_of_ble_eq_true rfl) (kindexof (by decide)) ?_
    refine Ev.if_lt (t := 545) rfl rfl (fun hb => ?_) (fun hb => ?_)
    · have h := (if_pos hb).symm.trans h
      refine Ev.run (pc' := 546) (ls' := [some (.ref 24), o1, o2, o3, o4, o5]) (st' := [.int (zi 0)]) (h' := mk s) 1 rfl ?_
      cases h
      exact Ev.fin rfl rfl
    · have h := (if_neg hb).symm.trans h
      refine Ev.run (pc' := 546) (ls' := [some (.ref 24), o1, o2, o3, o4, o5]) (st' := [.int (zi 7)]) (h' := mk s) 2 rfl ?_
      cases h
      exact Ev.fin rfl rfl
def f199_501   (s : zS) : Option (Int32 × zS) := if ¬ (s.1 24 18) = (zi 110) then f199_520 s else if (s.1 24 16) < zi 0 then f199_520 s else some (zi 6, s)
theorem k199_501 {X : mX} {D : Nat}    (s : zS) (r : Int32 × zS) (o1 : Option Value) (o2 : Option Value) (o3 : Option Value) (o4 : Option Value) (o5 : Option Value)  (h : f199_501   s = some r) : Ev X (D + 5) mm199 501 [some (.ref 24), o1, o2, o3, o4, o5] [] (mk s) (encI r) := by
  unfold f199_501 at h
  refine Ev.run (pc' := 507) (ls' := [some (.ref 24), o1, o2, o3, o4, o5]) (st' := [.int (zi 110), .int (s.1 24 18)]) (h' := mk s) 3 rfl ?_
  refine Ev.icmp_ne (t := 520) rfl rfl (fun hb => ?_) (fun hb => ?_)
  · have h := (if_pos hb).symm.trans h
    exact k199_520 s _ _ _ _ _ _ h
  · have h := (if_neg hb).symm.trans h
    refine Ev.run (pc' := 514) (ls' := [some (.ref 24), o1, o2, o3, o4, o5]) (st' := [.int (s.1 24 16)]) (h' := mk s) 2 rfl ?_
    refine Ev.if_lt (t := 520) rfl rfl (fun hb => ?_) (fun hb => ?_)
    · have h := (if_pos hb).symm.trans h
      exact k199_520 s _ _ _ _ _ _ h
    · have h := (if_neg hb).symm.trans h
      refine Ev.run (pc' := 519) (ls' := [some (.ref 24), o1, o2, o3, o4, o5]) (st' := [.int (zi 6)]) (h' := mk s) 1 rfl ?_
      cases h
      exact Ev.fin rfl rfl
def f199_476   (s : zS) : Option (Int32 × zS) := if (r180 (s.1 24 15) (zi 4) s) = zi 0 then f199_501 s else if (r180 (s.1 24 15) (zi 8) s) = zi 0 then f199_501 s else some (zi 5, s)
theorem k199_476 {X : mX} {D : Nat}    (s : zS) (r : Int32 × zS) (o1 : Option Value) (o2 : Option Value) (o3 : Option Value) (o4 : Option Value) (o5 : Option Value)  (h : f199_476   s = some r) : Ev X (D + 5) mm199 476 [some (.ref 24), o1, o2, o3, o4, o5] [] (mk s) (encI r) := by
  unfold f199_476 at h
  refine Ev.run (pc' := 481) (ls' := [some (.ref 24), o1, o2, o3, o4, o5]) (st' := [.int (zi 4), .int (s.1 24 15)]) (h' := mk s) 3 rfl ?_
  refine Ev.call (M' := mm180) (v := some (.int (r180 (s.1 24 15) (zi 4) s))) (h' := mk s) rfl rfl rfl (Nat.le_of_ble_eq_true rfl) (k180 (x0 := (s.1 24 15)) (x1 := (zi 4)) (s := s)  rfl) ?_
  refine Ev.if_eq (t := 501) rfl rfl (fun hb => ?_) (fun hb => ?_)
  · have h := (if_pos hb).symm.trans h
    exact k199_501 s _ _ _ _ _ _ h
  · have h := (if_neg hb).symm.trans h
    refine Ev.run (pc' := 493) (ls' := [some (.ref 24), o1, o2, o3, o4, o5]) (st' := [.int (zi 8), .int (s.1 24 15)]) (h' := mk s) 3 rfl ?_
    refine Ev.call (M' := mm180) (v := some (.int (r180 (s.1 24 15) (zi 8) s))) (h' := mk s) rfl rfl rfl (Nat.le_of_ble_eq_true rfl) (k180 (x0 := (s.1 24 15)) (x1 := (zi 8)) (s := s)  rfl) ?_
    refine Ev.if_eq (t := 501) rfl rfl (fun hb => ?_) (fun hb => ?_)
    · have h := (if_pos hb).symm.trans h
      exact k199_501 s _ _ _ _ _ _ h
    · have h := (if_neg hb).symm.trans h
      refine Ev.run (pc' := 500) (ls' := [some (.ref 24), o1, o2, o3, o4, o5]) (st' := [.int (zi 5)]) (h' := mk s) 1 rfl ?_
      cases h
      exact Ev.fin rfl rfl
def f199_453   (s : zS) : Option (Int32 × zS) := if (r180 (s.1 24 15) (zi 1) s) = zi 0 then f199_476 s else if ¬ (r180 (s.1 24 15) (zi 16) s) = zi 0 then some (zi 5, s) else f199_476 s
theorem k199_453 {X : mX} {D : Nat}    (s : zS) (r : Int32 × zS) (o1 : Option Value) (o2 : Option Value) (o3 : Option Value) (o4 : Option Value) (o5 : Option Value)  (h : f199_453   s = some r) : Ev X (D + 5) mm199 453 [some (.ref 24), o1, o2, o3, o4, o5] [] (mk s) (encI r) := by
  unfold f199_453 at h
  refine Ev.run (pc' := 458) (ls' := [some (.ref 24), o1, o2, o3, o4, o5]) (st' := [.int (zi 1), .int (s.1 24 15)]) (h' := mk s) 3 rfl ?_
  refine Ev.call (M' := mm180) (v := some (.int (r180 (s.1 24 15) (zi 1) s))) (h' := mk s) rfl rfl rfl (Nat.le_of_ble_eq_true rfl) (k180 (x0 := (s.1 24 15)) (x1 := (zi 1)) (s := s)  rfl) ?_
  refine Ev.if_eq (t := 476) rfl rfl (fun hb => ?_) (fun hb => ?_)
  · have h := (if_pos hb).symm.trans h
    exact k199_476 s _ _ _ _ _ _ h
  · have h := (if_neg hb).symm.trans h
    refine Ev.run (pc' := 470) (ls' := [some (.ref 24), o1, o2, o3, o4, o5]) (st' := [.int (zi 16), .int (s.1 24 15)]) (h' := mk s) 3 rfl ?_
    refine Ev.call (M' := mm180) (v := some (.int (r180 (s.1 24 15) (zi 16) s))) (h' := mk s) rfl rfl rfl (Nat.le_of_ble_eq_true rfl) (k180 (x0 := (s.1 24 15)) (x1 := (zi 16)) (s := s)  rfl) ?_
    refine Ev.if_ne (t := 499) rfl rfl (fun hb => ?_) (fun hb => ?_)
    · have h := (if_pos hb).symm.trans h
      refine Ev.run (pc' := 500) (ls' := [some (.ref 24), o1, o2, o3, o4, o5]) (st' := [.int (zi 5)]) (h' := mk s) 1 rfl ?_
      cases h
      exact Ev.fin rfl rfl
    · have h := (if_neg hb).symm.trans h
      exact k199_476 s _ _ _ _ _ _ h
def f199_399  (x2 : Int32) (x4 : Int32) (s : zS) : Option (Int32 × zS) := if x4 = zi 0 then if ((s.1 24 15) &&& ((r200 (s.1 24 18) (setI s 24 20 (x2 + (zi 1)))) ^^^ (zi (-1)))) = zi 0 then if (r180 (s.1 24 15) (zi 17) (setI s 24 20 (x2 + (zi 1)))) = zi 0 then f199_453 (setI s 24 20 (x2 + (zi 1))) else if (s.1 24 16) ≥ zi 0 then f199_453 (setI s 24 20 (x2 + (zi 1))) else some (zi 4, setI s 24 20 (x2 + (zi 1))) else some (zi 3, setI s 24 20 (x2 + (zi 1))) else some (zi 2, setI s 24 20 (x2 + (zi 1)))
theorem k199_399 {X : mX} {D : Nat}   (x2 : Int32) (x4 : Int32) (s : zS) (r : Int32 × zS) (o1 : Option Value) (o3 : Option Value) (o5 : Option Value)  (h : f199_399  x2 x4 s = some r) : Ev X (D + 5) mm199 399 [some (.ref 24), o1, some (.int x2), o3, some (.int x4), o5] [] (mk s) (encI r) := by
  unfold f199_399 at h
  refine Ev.run (pc' := 403) (ls' := [some (.ref 24), o1, some (.int x2), o3, some (.int x4), o5]) (st' := [.int (x2 + (zi 1)), .ref 24]) (h' := mk s) 4 rfl ?_
  refine Ev.step (pc' := 406) rfl (put_12_20 rfl) ?_
  refine Ev.run (pc' := 408) (ls' := [some (.ref 24), o1, some (.int x2), o3, some (.int x4), o5]) (st' := [.int x4]) (h' := mk (setI s 24 20 (x2 + (zi 1)))) 1 rfl ?_
  refine Ev.if_eq (t := 413) rfl rfl (fun hb => ?_) (fun hb => ?_)
  · have h := (if_pos hb).symm.trans h
    refine Ev.run (pc' := 421) (ls' := [some (.ref 24), o1, some (.int x2), o3, some (.int x4), o5]) (st' := [.int (s.1 24 18), .int (s.1 24 15)]) (h' := mk (setI s 24 20 (x2 + (zi 1)))) 4 rfl ?_
    refine Ev.call (M' := mm200) (v := some (.int (r200 (s.1 24 18) (setI s 24 20 (x2 + (zi 1)))))) (h' := mk (setI s 24 20 (x2 + (zi 1)))) rfl rfl rfl (Nat.le_of_ble_eq_true rfl) (k200 (x0 := (s.1 24 18)) (s := setI s 24 20 (x2 + (zi 1)))  rfl) ?_
    refine Ev.run (pc' := 427) (ls' := [some (.ref 24), o1, some (.int x2), o3, some (.int x4), o5]) (st' := [.int ((s.1 24 15) &&& ((r200 (s.1 24 18) (setI s 24 20 (x2 + (zi 1)))) ^^^ (zi (-1))))]) (h' := mk (setI s 24 20 (x2 + (zi 1)))) 3 rfl ?_
    refine Ev.if_eq (t := 432) rfl rfl (fun hb => ?_) (fun hb => ?_)
    · have h := (if_pos hb).symm.trans h
      refine Ev.run (pc' := 438) (ls' := [some (.ref 24), o1, some (.int x2), o3, some (.int x4), o5]) (st' := [.int (zi 17), .int (s.1 24 15)]) (h' := mk (setI s 24 20 (x2 + (zi 1)))) 3 rfl ?_
      refine Ev.call (M' := mm180) (v := some (.int (r180 (s.1 24 15) (zi 17) (setI s 24 20 (x2 + (zi 1)))))) (h' := mk (setI s 24 20 (x2 + (zi 1)))) rfl rfl rfl (Nat.le_of_ble_eq_true rfl) (k180 (x0 := (s.1 24 15)) (x1 := (zi 17)) (s := setI s 24 20 (x2 + (zi 1)))  rfl) ?_
      refine Ev.if_eq (t := 453) rfl rfl (fun hb => ?_) (fun hb => ?_)
      · have h := (if_pos hb).symm.trans h
        exact k199_453 (setI s 24 20 (x2 + (zi 1))) _ _ _ _ _ _ h
      · have h := (if_neg hb).symm.trans h
        refine Ev.run (pc' := 448) (ls' := [some (.ref 24), o1, some (.int x2), o3, some (.int x4), o5]) (st' := [.int (s.1 24 16)]) (h' := mk (setI s 24 20 (x2 + (zi 1)))) 2 rfl ?_
        refine Ev.if_ge (t := 453) rfl rfl (fun hb => ?_) (fun hb => ?_)
        · have h := (if_pos hb).symm.trans h
          exact k199_453 (setI s 24 20 (x2 + (zi 1))) _ _ _ _ _ _ h
        · have h := (if_neg hb).symm.trans h
          refine Ev.run (pc' := 452) (ls' := [some (.ref 24), o1, some (.int x2), o3, some (.int x4), o5]) (st' := [.int (zi 4)]) (h' := mk (setI s 24 20 (x2 + (zi 1)))) 1 rfl ?_
          cases h
          exact Ev.fin rfl rfl
    · have h := (if_neg hb).symm.trans h
      refine Ev.run (pc' := 431) (ls' := [some (.ref 24), o1, some (.int x2), o3, some (.int x4), o5]) (st' := [.int (zi 3)]) (h' := mk (setI s 24 20 (x2 + (zi 1)))) 1 rfl ?_
      cases h
      exact Ev.fin rfl rfl
  · have h := (if_neg hb).symm.trans h
    refine Ev.run (pc' := 412) (ls' := [some (.ref 24), o1, some (.int x2), o3, some (.int x4), o5]) (st' := [.int (zi 2)]) (h' := mk (setI s 24 20 (x2 + (zi 1)))) 1 rfl ?_
    cases h
    exact Ev.fin rfl rfl
def f199_348  (x1 : Int32) (x2 : Int32) (x4 : Int32) (y1 : Int32) (s : zS) : Option (Int32 × zS) := if ¬ y1 = (zi 116) then f199_399 x2 x4 (setI (setI s 24 18 y1) 24 19 (zi 0)) else zb1 (f195 (x2 + zi 1) (setI (setI s 24 18 y1) 24 19 (zi 0))) (fun v2 s1 => if v2 < zi 0 then some (zi 1, setI s1 24 19 v2) else if (zidx 58 v2) ≥ zi 0 then f199_399 (x2 + zi 1) x4 (setI s1 24 19 v2) else some (zi 1, setI s1 24 19 v2))
theorem k199_348 {X : mX} {D : Nat}   (x1 : Int32) (x2 : Int32) (x4 : Int32) (y1 : Int32) (s : zS) (r : Int32 × zS) (o3 : Option Value) (o5 : Option Value)  (h : f199_348  x1 x2 x4 y1 s = some r) : Ev X (D + 5) mm199 348 [some (.ref 24), some (.int x1), some (.int x2), o3, some (.int x4), o5] [.int y1, .ref 24] (mk s) (encI r) := by
  unfold f199_348 at h
  refine Ev.step (pc' := 351) rfl (put_12_18 rfl) ?_
  refine Ev.run (pc' := 353) (ls' := [some (.ref 24), some (.int x1), some (.int x2), o3, some (.int x4), o5]) (st' := [.int (zi 0), .ref 24]) (h' := mk (setI s 24 18 y1)) 2 rfl ?_
  refine Ev.step (pc' := 356) rfl (put_12_19 rfl) ?_
  refine Ev.run (pc' := 362) (ls' := [some (.ref 24), some (.int x1), some (.int x2), o3, some (.int x4), o5]) (st' := [.int (zi 116), .int y1]) (h' := mk (setI (setI s 24 18 y1) 24 19 (zi 0))) 3 rfl ?_
  refine Ev.icmp_ne (t := 399) rfl rfl (fun hb => ?_) (fun hb => ?_)
  · have h := (if_pos hb).symm.trans h
    exact k199_399 x2 x4 (setI (setI s 24 18 y1) 24 19 (zi 0)) _ _ _ _ h
  · have h := (if_neg hb).symm.trans h
    refine Ev.run (pc' := 371) (ls' := [some (.ref 24), some (.int x1), some (.int (x2 + zi 1)), o3, some (.int x4), o5]) (st' := [.int (x2 + zi 1), .ref 24, .ref 24]) (h' := mk (setI (setI s 24 18 y1) 24 19 (zi 0))) 4 rfl ?_
    obtain ⟨v2, s1, hq, h⟩ := zb1_some h
    refine Ev.call (M' := mm195) (v := some (.int v2)) (h' := mk s1) rfl rfl rfl (Nat.le_of_ble_eq_true rfl) (k195 hq) ?_
    refine Ev.step (pc' := 377) rfl (put_12_19 rfl) ?_
    refine Ev.run (pc' := 381) (ls' := [some (.ref 24), some (.int x1), some (.int (x2 + zi 1)), o3, some (.int x4), o5]) (st' := [.int v2]) (h' := mk (setI s1 24 19 v2)) 2 rfl ?_
    refine Ev.if_lt (t := 397) rfl rfl (fun hb => ?_) (fun hb => ?_)
    · have h := (if_pos hb).symm.trans h
      refine Ev.run (pc' := 398) (ls' := [some (.ref 24), some (.int x1), some (.int (x2 + zi 1)), o3, some (.int x4), o5]) (st' := [.int (zi 1)]) (h' := mk (setI s1 24 19 v2)) 1 rfl ?_
      cases h
      exact Ev.fin rfl rfl
    · have h := (if_neg hb).symm.trans h
      refine Ev.run (pc' := 391) (ls' := [some (.ref 24), some (.int x1), some (.int (x2 + zi 1)), o3, some (.int x4), o5]) (st' := [.int v2, .ref (mRO + 3 + 2 * 58)]) (h' := mk (setI s1 24 19 v2)) 3 rfl ?_
      refine Ev.call (M' := mm243) (as := [.ref (mRO + 3 + 2 * 58), .int v2]) (rest := []) (v := some (.int (zidx 58 v2))) (h' := mk (setI s1 24 19 v2)) rfl (litcall rfl rfl (by decide) rfl rfl) rfl (Nat.le_of_ble_eq_true rfl) (kindexof (by decide)) ?_
      refine Ev.if_ge (t := 399) rfl rfl (fun hb => ?_) (fun hb => ?_)
      · have h := (if_pos hb).symm.trans h
        exact k199_399 (x2 + zi 1) x4 (setI s1 24 19 v2) _ _ _ _ h
      · have h := (if_neg hb).symm.trans h
        refine Ev.run (pc' := 398) (ls' := [some (.ref 24), some (.int x1), some (.int (x2 + zi 1)), o3, some (.int x4), o5]) (st' := [.int (zi 1)]) (h' := mk (setI s1 24 19 v2)) 1 rfl ?_
        cases h
        exact Ev.fin rfl rfl
def f199_327  (x1 : Int32) (x2 : Int32) (x4 : Int32) (x5 : Int32) (y1 : Int32) (s : zS) : Option (Int32 × zS) := if mBit y1 then if y1 = zi 0 then f199_348 x1 x2 x4 x5 (setI s 24 22 y1) else f199_348 x1 x2 x4 (x5 + (zi 32)) (setI s 24 22 y1) else none
theorem k199_327 {X : mX} {D : Nat}   (x1 : Int32) (x2 : Int32) (x4 : Int32) (x5 : Int32) (y1 : Int32) (s : zS) (r : Int32 × zS) (o3 : Option Value)  (h : f199_327  x1 x2 x4 x5 y1 s = some r) : Ev X (D + 5) mm199 327 [some (.ref 24), some (.int x1), some (.int x2), o3, some (.int x4), some (.int x5)] [.int y1, .ref 24] (mk s) (encI r) := by
  unfold f199_327 at h
  obtain ⟨hx, h⟩ := zif h
  refine Ev.step (pc' := 330) rfl (put_12_22 hx rfl) ?_
  refine Ev.run (pc' := 335) (ls' := [some (.ref 24), some (.int x1), some (.int x2), o3, some (.int x4), some (.int x5)]) (st' := [.int y1, .ref 24]) (h' := mk (setI s 24 22 y1)) 3 rfl ?_
  refine Ev.if_eq (t := 346) rfl rfl (fun hb => ?_) (fun hb => ?_)
  · have h := (if_pos hb).symm.trans h
    refine Ev.run (pc' := 348) (ls' := [some (.ref 24), some (.int x1), some (.int x2), o3, some (.int x4), some (.int x5)]) (st' := [.int x5, .ref 24]) (h' := mk (setI s 24 22 y1)) 1 rfl ?_
    exact k199_348 x1 x2 x4 x5 (setI s 24 22 y1) _ _ _ h
  · have h := (if_neg hb).symm.trans h
    refine Ev.run (pc' := 348) (ls' := [some (.ref 24), some (.int x1), some (.int x2), o3, some (.int x4), some (.int x5)]) (st' := [.int (x5 + (zi 32)), .ref 24]) (h' := mk (setI s 24 22 y1)) 4 rfl ?_
    exact k199_348 x1 x2 x4 (x5 + (zi 32)) (setI s 24 22 y1) _ _ _ h
def f199_282  (x1 : Int32) (x2 : Int32) (x4 : Int32) (s : zS) : Option (Int32 × zS) := zb1 (f195 x2 s) (fun v2 s1 => if v2 < zi 0 then some (zi 1, s1) else if (zidx 57 v2) ≥ zi 0 then if v2 < (zi 65) then f199_327 x1 x2 x4 v2 (zi 0) s1 else if v2 > (zi 90) then f199_327 x1 x2 x4 v2 (zi 0) s1 else f199_327 x1 x2 x4 v2 (zi 1) s1 else some (zi 1, s1))
theorem k199_282 {X : mX} {D : Nat}   (x1 : Int32) (x2 : Int32) (x4 : Int32) (s : zS) (r : Int32 × zS) (o3 : Option Value) (o5 : Option Value)  (h : f199_282  x1 x2 x4 s = some r) : Ev X (D + 5) mm199 282 [some (.ref 24), some (.int x1), some (.int x2), o3, some (.int x4), o5] [] (mk s) (encI r) := by
  unfold f199_282 at h
  refine Ev.run (pc' := 284) (ls' := [some (.ref 24), some (.int x1), some (.int x2), o3, some (.int x4), o5]) (st' := [.int x2, .ref 24]) (h' := mk s) 2 rfl ?_
  obtain ⟨v2, s1, hq, h⟩ := zb1_some h
  refine Ev.call (M' := mm195) (v := some (.int v2)) (h' := mk s1) rfl rfl rfl (Nat.le_of_ble_eq_true rfl) (k195 hq) ?_
  refine Ev.run (pc' := 291) (ls' := [some (.ref 24), some (.int x1), some (.int x2), o3, some (.int x4), some (.int v2)]) (st' := [.int v2]) (h' := mk s1) 2 rfl ?_
  refine Ev.if_lt (t := 305) rfl rfl (fun hb => ?_) (fun hb => ?_)
  · have h := (if_pos hb).symm.trans h
    refine Ev.run (pc' := 306) (ls' := [some (.ref 24), some (.int x1), some (.int x2), o3, some (.int x4), some (.int v2)]) (st' := [.int (zi 1)]) (h' := mk s1) 1 rfl ?_
    cases h
    exact Ev.fin rfl rfl
  · have h := (if_neg hb).symm.trans h
    refine Ev.run (pc' := 299) (ls' := [some (.ref 24), some (.int x1), some (.int x2), o3, some (.int x4), some (.int v2)]) (st' := [.int v2, .ref (mRO + 3 + 2 * 57)]) (h' := mk s1) 2 rfl ?_
    refine Ev.call (M' := mm243) (as := [.ref (mRO + 3 + 2 * 57), .int v2]) (rest := []) (v := some (.int (zidx 57 v2))) (h' := mk s1) rfl (litcall rfl rfl (by decide) rfl rfl) rfl (Nat.le_of_ble_eq_true rfl) (kindexof (by decide)) ?_
    refine Ev.if_ge (t := 307) rfl rfl (fun hb => ?_) (fun hb => ?_)
    · have h := (if_pos hb).symm.trans h
      refine Ev.run (pc' := 312) (ls' := [some (.ref 24), some (.int x1), some (.int x2), o3, some (.int x4), some (.int v2)]) (st' := [.int (zi 65), .int v2, .ref 24]) (h' := mk s1) 3 rfl ?_
      refine Ev.icmp_lt (t := 326) rfl rfl (fun hb => ?_) (fun hb => ?_)
      · have h := (if_pos hb).symm.trans h
        refine Ev.run (pc' := 327) (ls' := [some (.ref 24), some (.int x1), some (.int x2), o3, some (.int x4), some (.int v2)]) (st' := [.int (zi 0), .ref 24]) (h' := mk s1) 1 rfl ?_
        exact k199_327 x1 x2 x4 v2 (zi 0) s1 _ _ h
      · have h := (if_neg hb).symm.trans h
        refine Ev.run (pc' := 319) (ls' := [some (.ref 24), some (.int x1), some (.int x2), o3, some (.int x4), some (.int v2)]) (st' := [.int (zi 90), .int v2, .ref 24]) (h' := mk s1) 2 rfl ?_
        refine Ev.icmp_gt (t := 326) rfl rfl (fun hb => ?_) (fun hb => ?_)
        · have h := (if_pos hb).symm.trans h
          refine Ev.run (pc' := 327) (ls' := [some (.ref 24), some (.int x1), some (.int x2), o3, some (.int x4), some (.int v2)]) (st' := [.int (zi 0), .ref 24]) (h' := mk s1) 1 rfl ?_
          exact k199_327 x1 x2 x4 v2 (zi 0) s1 _ _ h
        · have h := (if_neg hb).symm.trans h
          refine Ev.run (pc' := 327) (ls' := [some (.ref 24), some (.int x1), some (.int x2), o3, some (.int x4), some (.int v2)]) (st' := [.int (zi 1), .ref 24]) (h' := mk s1) 2 rfl ?_
          exact k199_327 x1 x2 x4 v2 (zi 1) s1 _ _ h
    · have h := (if_neg hb).symm.trans h
      refine Ev.run (pc' := 306) (ls' := [some (.ref 24), some (.int x1), some (.int x2), o3, some (.int x4), some (.int v2)]) (st' := [.int (zi 1)]) (h' := mk s1) 1 rfl ?_
      cases h
      exact Ev.fin rfl rfl
def f199_206  (x1 : Int32) (x3 : Int32) (x4 : Int32) (s : zS) : Option (Int32 × zS) := if (s.1 24 16) ≤ (zi 2000) then zb1 (f195 x3 s) (fun v2 s1 => if ¬ v2 = (zi 46) then f199_282 x1 x3 x4 s1 else zb1 (f197 (x3 + (zi 1)) s1) (fun v4 s3 => if v4 = (x3 + (zi 1)) then some (zi 1, s3) else if ((v4 - x3) - (zi 1)) ≤ (zi 4) then zb1 (f198 (x3 + (zi 1)) v4 s3) (fun v6 s5 => if v6 ≤ (zi 1100) then f199_282 x1 v4 x4 (setI s5 24 17 v6) else some (zi 1, setI s5 24 17 v6)) else some (zi 1, s3))) else some (zi 1, s)
theorem k199_206 {X : mX} {D : Nat}   (x1 : Int32) (x3 : Int32) (x4 : Int32) (s : zS) (r : Int32 × zS) (o2 : Option Value) (o5 : Option Value)  (h : f199_206  x1 x3 x4 s = some r) : Ev X (D + 5) mm199 206 [some (.ref 24), some (.int x1), o2, some (.int x3), some (.int x4), o5] [] (mk s) (encI r) := by
  unfold f199_206 at h
  refine Ev.run (pc' := 213) (ls' := [some (.ref 24), some (.int x1), o2, some (.int x3), some (.int x4), o5]) (st' := [.int (zi 2000), .int (s.1 24 16)]) (h' := mk s) 3 rfl ?_
  refine Ev.icmp_le (t := 218) rfl rfl (fun hb => ?_) (fun hb => ?_)
  · have h := (if_pos hb).symm.trans h
    refine Ev.run (pc' := 222) (ls' := [some (.ref 24), some (.int x1), some (.int x3), some (.int x3), some (.int x4), o5]) (st' := [.int x3, .ref 24]) (h' := mk s) 4 rfl ?_
    obtain ⟨v2, s1, hq, h⟩ := zb1_some h
    refine Ev.call (M' := mm195) (v := some (.int v2)) (h' := mk s1) rfl rfl rfl (Nat.le_of_ble_eq_true rfl) (k195 hq) ?_
    refine Ev.run (pc' := 227) (ls' := [some (.ref 24), some (.int x1), some (.int x3), some (.int x3), some (.int x4), o5]) (st' := [.int (zi 46), .int v2]) (h' := mk s1) 1 rfl ?_
    refine Ev.icmp_ne (t := 282) rfl rfl (fun hb => ?_) (fun hb => ?_)
    · have h := (if_pos hb).symm.trans h
      exact k199_282 x1 x3 x4 s1 _ _ _ h
    · have h := (if_neg hb).symm.trans h
      refine Ev.run (pc' := 234) (ls' := [some (.ref 24), some (.int x1), some (.int x3), some (.int x3), some (.int x4), o5]) (st' := [.int (x3 + (zi 1)), .ref 24]) (h' := mk s1) 4 rfl ?_
      obtain ⟨v4, s3, hq, h⟩ := zb1_some h
      refine Ev.call (M' := mm197) (v := some (.int v4)) (h' := mk s3) rfl rfl rfl (Nat.le_of_ble_eq_true rfl) (k197 hq) ?_
      refine Ev.run (pc' := 242) (ls' := [some (.ref 24), some (.int x1), some (.int x3), some (.int v4), some (.int x4), o5]) (st' := [.int (x3 + (zi 1)), .int v4]) (h' := mk s3) 5 rfl ?_
      refine Ev.icmp_eq (t := 254) rfl rfl (fun hb => ?_) (fun hb => ?_)
      · have h := (if_pos hb).symm.trans h
        refine Ev.run (pc' := 255) (ls' := [some (.ref 24), some (.int x1), some (.int x3), some (.int v4), some (.int x4), o5]) (st' := [.int (zi 1)]) (h' := mk s3) 1 rfl ?_
        cases h
        exact Ev.fin rfl rfl
      · have h := (if_neg hb).symm.trans h
        refine Ev.run (pc' := 251) (ls' := [some (.ref 24), some (.int x1), some (.int x3), some (.int v4), some (.int x4), o5]) (st' := [.int (zi 4), .int ((v4 - x3) - (zi 1))]) (h' := mk s3) 6 rfl ?_
        refine Ev.icmp_le (t := 256) rfl rfl (fun hb => ?_) (fun hb => ?_)
        · have h := (if_pos hb).symm.trans h
          refine Ev.run (pc' := 262) (ls' := [some (.ref 24), some (.int x1), some (.int x3), some (.int v4), some (.int x4), o5]) (st' := [.int v4, .int (x3 + (zi 1)), .ref 24, .ref 24]) (h' := mk s3) 6 rfl ?_
          obtain ⟨v6, s5, hq, h⟩ := zb1_some h
          refine Ev.call (M' := mm198) (v := some (.int v6)) (h' := mk s5) rfl rfl rfl (Nat.le_of_ble_eq_true rfl) (k198 hq) ?_
          refine Ev.step (pc' := 268) rfl (put_12_17 rfl) ?_
          refine Ev.run (pc' := 275) (ls' := [some (.ref 24), some (.int x1), some (.int x3), some (.int v4), some (.int x4), o5]) (st' := [.int (zi 1100), .int v6]) (h' := mk (setI s5 24 17 v6)) 3 rfl ?_
          refine Ev.icmp_le (t := 280) rfl rfl (fun hb => ?_) (fun hb => ?_)
          · have h := (if_pos hb).symm.trans h
            refine Ev.run (pc' := 282) (ls' := [some (.ref 24), some (.int x1), some (.int v4), some (.int v4), some (.int x4), o5]) (st' := []) (h' := mk (setI s5 24 17 v6)) 2 rfl ?_
            exact k199_282 x1 v4 x4 (setI s5 24 17 v6) _ _ _ h
          · have h := (if_neg hb).symm.trans h
            refine Ev.run (pc' := 279) (ls' := [some (.ref 24), some (.int x1), some (.int x3), some (.int v4), some (.int x4), o5]) (st' := [.int (zi 1)]) (h' := mk (setI s5 24 17 v6)) 1 rfl ?_
            cases h
            exact Ev.fin rfl rfl
        · have h := (if_neg hb).symm.trans h
          refine Ev.run (pc' := 255) (ls' := [some (.ref 24), some (.int x1), some (.int x3), some (.int v4), some (.int x4), o5]) (st' := [.int (zi 1)]) (h' := mk s3) 1 rfl ?_
          cases h
          exact Ev.fin rfl rfl
  · have h := (if_neg hb).symm.trans h
    refine Ev.run (pc' := 217) (ls' := [some (.ref 24), some (.int x1), o2, some (.int x3), some (.int x4), o5]) (st' := [.int (zi 1)]) (h' := mk s) 1 rfl ?_
    cases h
    exact Ev.fin rfl rfl
def f199_176  (x1 : Int32) (x2 : Int32) (x4 : Int32) (s : zS) : Option (Int32 × zS) := zb1 (f197 x2 s) (fun v2 s1 => if (v2 - x2) ≤ (zi 4) then if v2 ≤ x2 then f199_206 x1 v2 x4 s1 else zb1 (f198 x2 v2 s1) (fun v4 s3 => f199_206 x1 v2 x4 (setI s3 24 16 v4)) else some (zi 1, s1))
theorem k199_176 {X : mX} {D : Nat}   (x1 : Int32) (x2 : Int32) (x4 : Int32) (s : zS) (r : Int32 × zS) (o3 : Option Value) (o5 : Option Value)  (h : f199_176  x1 x2 x4 s = some r) : Ev X (D + 5) mm199 176 [some (.ref 24), some (.int x1), some (.int x2), o3, some (.int x4), o5] [] (mk s) (encI r) := by
  unfold f199_176 at h
  refine Ev.run (pc' := 178) (ls' := [some (.ref 24), some (.int x1), some (.int x2), o3, some (.int x4), o5]) (st' := [.int x2, .ref 24]) (h' := mk s) 2 rfl ?_
  obtain ⟨v2, s1, hq, h⟩ := zb1_some h
  refine Ev.call (M' := mm197) (v := some (.int v2)) (h' := mk s1) rfl rfl rfl (Nat.le_of_ble_eq_true rfl) (k197 hq) ?_
  refine Ev.run (pc' := 186) (ls' := [some (.ref 24), some (.int x1), some (.int x2), some (.int v2), some (.int x4), o5]) (st' := [.int (zi 4), .int (v2 - x2)]) (h' := mk s1) 5 rfl ?_
  refine Ev.icmp_le (t := 191) rfl rfl (fun hb => ?_) (fun hb => ?_)
  · have h := (if_pos hb).symm.trans h
    refine Ev.run (pc' := 193) (ls' := [some (.ref 24), some (.int x1), some (.int x2), some (.int v2), some (.int x4), o5]) (st' := [.int x2, .int v2]) (h' := mk s1) 2 rfl ?_
    refine Ev.icmp_le (t := 206) rfl rfl (fun hb => ?_) (fun hb => ?_)
    · have h := (if_pos hb).symm.trans h
      exact k199_206 x1 v2 x4 s1 _ _ _ h
    · have h := (if_neg hb).symm.trans h
      refine Ev.run (pc' := 200) (ls' := [some (.ref 24), some (.int x1), some (.int x2), some (.int v2), some (.int x4), o5]) (st' := [.int v2, .int x2, .ref 24, .ref 24]) (h' := mk s1) 4 rfl ?_
      obtain ⟨v4, s3, hq, h⟩ := zb1_some h
      refine Ev.call (M' := mm198) (v := some (.int v4)) (h' := mk s3) rfl rfl rfl (Nat.le_of_ble_eq_true rfl) (k198 hq) ?_
      refine Ev.step (pc' := 206) rfl (put_12_16 rfl) ?_
      exact k199_206 x1 v2 x4 (setI s3 24 16 v4) _ _ _ h
  · have h := (if_neg hb).symm.trans h
    refine Ev.run (pc' := 190) (ls' := [some (.ref 24), some (.int x1), some (.int x2), some (.int v2), some (.int x4), o5]) (st' := [.int (zi 1)]) (h' := mk s1) 1 rfl ?_
    cases h
    exact Ev.fin rfl rfl
def f199_156 (rec102 : Int32 → Int32 → Int32 → Int32 → zS → Option (Int32 × zS)) (x1 : Int32) (x2 : Int32) (x3 : Int32) (x5 : Int32) (y0 : Int32) (y1 : Int32) (s : zS) : Option (Int32 × zS) := rec102 x1 (x2 + zi 1) x3 (y0 ||| y1) (setI s 24 15 ((s.1 24 15) ||| x5))
theorem k199_156 {X : mX} {D : Nat} {rec102 : Int32 → Int32 → Int32 → Int32 → zS → Option (Int32 × zS)} (hrec102 : ∀ (x1 : Int32) (x2 : Int32) (x3 : Int32) (x4 : Int32) (s : zS) (r : Int32 × zS) (o5 : Option Value), rec102 x1 x2 x3 x4 s = some r → Ev X (D + 5) mm199 102 [some (.ref 24), some (.int x1), some (.int x2), some (.int x3), some (.int x4), o5] [] (mk s) (encI r)) (x1 : Int32) (x2 : Int32) (x3 : Int32) (x5 : Int32) (y0 : Int32) (y1 : Int32) (s : zS) (r : Int32 × zS) (o4 : Option Value)  (h : f199_156 rec102 x1 x2 x3 x5 y0 y1 s = some r) : Ev X (D + 5) mm199 156 [some (.ref 24), some (.int x1), some (.int x2), some (.int x3), o4, some (.int x5)] [.int y1, .int y0] (mk s) (encI r) := by
  unfold f199_156 at h
  refine Ev.run (pc' := 167) (ls' := [some (.ref 24), some (.int x1), some (.int x2), some (.int x3), some (.int (y0 ||| y1)), some (.int x5)]) (st' := [.int ((s.1 24 15) ||| x5), .ref 24]) (h' := mk s) 7 rfl ?_
  refine Ev.step (pc' := 170) rfl (put_12_15 rfl) ?_
  refine Ev.run (pc' := 102) (ls' := [some (.ref 24), some (.int x1), some (.int (x2 + zi 1)), some (.int x3), some (.int (y0 ||| y1)), some (.int x5)]) (st' := []) (h' := mk (setI s 24 15 ((s.1 24 15) ||| x5))) 2 rfl ?_
  exact hrec102 x1 (x2 + zi 1) x3 (y0 ||| y1) (setI s 24 15 ((s.1 24 15) ||| x5)) _ _ h
def b199_102 (rec102 : Int32 → Int32 → Int32 → Int32 → zS → Option (Int32 × zS)) (x1 : Int32) (x2 : Int32) (x3 : Int32) (x4 : Int32) (s : zS) : Option (Int32 × zS) := zb1 (f195 x2 s) (fun v2 s1 => if v2 < zi 0 then f199_176 x1 x2 x4 s1 else zb1 (f195 x2 s1) (fun v4 s3 => if (zidx 56 v4) < zi 0 then f199_176 x1 x2 x4 s3 else zb1 (f195 x2 s3) (fun v6 s5 => if ((s5.1 24 15) &&& (zshl (zi 1) (zidx 56 v6))) = zi 0 then f199_156 rec102 x1 x2 x3 (zshl (zi 1) (zidx 56 v6)) x4 (zi 0) s5 else f199_156 rec102 x1 x2 x3 (zshl (zi 1) (zidx 56 v6)) x4 (zi 1) s5)))
theorem kb199_102 {X : mX} {D : Nat} {rec102 : Int32 → Int32 → Int32 → Int32 → zS → Option (Int32 × zS)} (hrec102 : ∀ (x1 : Int32) (x2 : Int32) (x3 : Int32) (x4 : Int32) (s : zS) (r : Int32 × zS) (o5 : Option Value), rec102 x1 x2 x3 x4 s = some r → Ev X (D + 5) mm199 102 [some (.ref 24), some (.int x1), some (.int x2), some (.int x3), some (.int x4), o5] [] (mk s) (encI r)) (x1 : Int32) (x2 : Int32) (x3 : Int32) (x4 : Int32) (s : zS) (r : Int32 × zS) (o5 : Option Value)  (h : b199_102 rec102 x1 x2 x3 x4 s = some r) : Ev X (D + 5) mm199 102 [some (.ref 24), some (.int x1), some (.int x2), some (.int x3), some (.int x4), o5] [] (mk s) (encI r) := by
  unfold b199_102 at h
  refine Ev.run (pc' := 104) (ls' := [some (.ref 24), some (.int x1), some (.int x2), some (.int x3), some (.int x4), o5]) (st' := [.int x2, .ref 24]) (h' := mk s) 2 rfl ?_
  obtain ⟨v2, s1, hq, h⟩ := zb1_some h
  refine Ev.call (M' := mm195) (v := some (.int v2)) (h' := mk s1) rfl rfl rfl (Nat.le_of_ble_eq_true rfl) (k195 hq) ?_
  refine Ev.if_lt (t := 176) rfl rfl (fun hb => ?_) (fun hb => ?_)
  · have h := (if_pos hb).symm.trans h
    exact k199_176 x1 x2 x4 s1 _ _ _ h
  · have h := (if_neg hb).symm.trans h
    refine Ev.run (pc' := 115) (ls' := [some (.ref 24), some (.int x1), some (.int x2), some (.int x3), some (.int x4), o5]) (st' := [.int x2, .ref 24, .ref (mRO + 3 + 2 * 56)]) (h' := mk s1) 3 rfl ?_
    obtain ⟨v4, s3, hq, h⟩ := zb1_some h
    refine Ev.call (M' := mm195) (v := some (.int v4)) (h' := mk s3) rfl rfl rfl (Nat.le_of_ble_eq_true rfl) (k195 hq) ?_
    refine Ev.call (M' := mm243) (as := [.ref (mRO + 3 + 2 * 56), .int v4]) (rest := []) (v := some (.int (zidx 56 v4))) (h' := mk s3) rfl (litcall rfl rfl (by decide) rfl rfl) rfl (Nat.le_of_ble_eq_true rfl) (kindexof (by decide)) ?_
    refine Ev.if_lt (t := 176) rfl rfl (fun hb => ?_) (fun hb => ?_)
    · have h := (if_pos hb).symm.trans h
      exact k199_176 x1 x2 x4 s3 _ _ _ h
    · have h := (if_neg hb).symm.trans h
      refine Ev.run (pc' := 130) (ls' := [some (.ref 24), some (.int x1), some (.int x2), some (.int x3), some (.int x4), o5]) (st' := [.int x2, .ref 24, .ref (mRO + 3 + 2 * 56), .int (zi 1)]) (h' := mk s3) 4 rfl ?_
      obtain ⟨v6, s5, hq, h⟩ := zb1_some h
      refine Ev.call (M' := mm195) (v := some (.int v6)) (h' := mk s5) rfl rfl rfl (Nat.le_of_ble_eq_true rfl) (k195 hq) ?_
      refine Ev.call (M' := mm243) (as := [.ref (mRO + 3 + 2 * 56), .int v6]) (rest := [.int (zi 1)]) (v := some (.int (zidx 56 v6))) (h' := mk s5) rfl (litcall rfl rfl (by decide) rfl rfl) rfl (Nat.le_of_ble_eq_true rfl) (kindexof (by decide)) ?_
      refine Ev.run (pc' := 148) (ls' := [some (.ref 24), some (.int x1), some (.int x2), some (.int x3), some (.int x4), some (.int (zshl (zi 1) (zidx 56 v6)))]) (st' := [.int ((s5.1 24 15) &&& (zshl (zi 1) (zidx 56 v6))), .int x4]) (h' := mk s5) 7 rfl ?_
      refine Ev.if_eq (t := 155) rfl rfl (fun hb => ?_) (fun hb => ?_)
      · have h := (if_pos hb).symm.trans h
        refine Ev.run (pc' := 156) (ls' := [some (.ref 24), some (.int x1), some (.int x2), some (.int x3), some (.int x4), some (.int (zshl (zi 1) (zidx 56 v6)))]) (st' := [.int (zi 0), .int x4]) (h' := mk s5) 1 rfl ?_
        exact k199_156 hrec102 x1 x2 x3 (zshl (zi 1) (zidx 56 v6)) x4 (zi 0) s5 _ _ h
      · have h := (if_neg hb).symm.trans h
        refine Ev.run (pc' := 156) (ls' := [some (.ref 24), some (.int x1), some (.int x2), some (.int x3), some (.int x4), some (.int (zshl (zi 1) (zidx 56 v6)))]) (st' := [.int (zi 1), .int x4]) (h' := mk s5) 2 rfl ?_
        exact k199_156 hrec102 x1 x2 x3 (zshl (zi 1) (zidx 56 v6)) x4 (zi 1) s5 _ _ h
def f199_102  : Nat → Int32 → Int32 → Int32 → Int32 → zS → Option (Int32 × zS)
  | 0, _, _, _, _, _ => none
  | n + 1, x1, x2, x3, x4, s => b199_102 (f199_102 n) x1 x2 x3 x4 s
theorem k199_102 {X : mX} {D : Nat}   (n : Nat) : ∀ (x1 : Int32) (x2 : Int32) (x3 : Int32) (x4 : Int32) (s : zS) (r : Int32 × zS) (o5 : Option Value), f199_102  n x1 x2 x3 x4 s = some r → Ev X (D + 5) mm199 102 [some (.ref 24), some (.int x1), some (.int x2), some (.int x3), some (.int x4), o5] [] (mk s) (encI r) := by
  induction n with
  | zero => intro x1 x2 x3 x4 s r o5  h; cases h
  | succ n ih => intro x1 x2 x3 x4 s r o5  h; exact kb199_102  ih x1 x2 x3 x4 s r o5  h
def f199_84  (x1 : Int32) (x2 : Int32) (x3 : Int32) (x4 : Int32) (s : zS) : Option (Int32 × zS) := zb1 (f195 x2 s) (fun v2 s1 => if ¬ v2 = (zi 60) then f199_102 zF x1 x2 x3 x4 s1 else f199_102 zF x1 (x2 + zi 1) x3 x4 (setI s1 24 14 (zi (-1))))
theorem k199_84 {X : mX} {D : Nat}   (x1 : Int32) (x2 : Int32) (x3 : Int32) (x4 : Int32) (s : zS) (r : Int32 × zS) (o5 : Option Value)  (h : f199_84  x1 x2 x3 x4 s = some r) : Ev X (D + 5) mm199 84 [some (.ref 24), some (.int x1), some (.int x2), some (.int x3), some (.int x4), o5] [] (mk s) (encI r) := by
  unfold f199_84 at h
  refine Ev.run (pc' := 86) (ls' := [some (.ref 24), some (.int x1), some (.int x2), some (.int x3), some (.int x4), o5]) (st' := [.int x2, .ref 24]) (h' := mk s) 2 rfl ?_
  obtain ⟨v2, s1, hq, h⟩ := zb1_some h
  refine Ev.call (M' := mm195) (v := some (.int v2)) (h' := mk s1) rfl rfl rfl (Nat.le_of_ble_eq_true rfl) (k195 hq) ?_
  refine Ev.run (pc' := 91) (ls' := [some (.ref 24), some (.int x1), some (.int x2), some (.int x3), some (.int x4), o5]) (st' := [.int (zi 60), .int v2]) (h' := mk s1) 1 rfl ?_
  refine Ev.icmp_ne (t := 102) rfl rfl (fun hb => ?_) (fun hb => ?_)
  · have h := (if_pos hb).symm.trans h
    exact k199_102 zF x1 x2 x3 x4 s1 _ _ h
  · have h := (if_neg hb).symm.trans h
    refine Ev.run (pc' := 96) (ls' := [some (.ref 24), some (.int x1), some (.int x2), some (.int x3), some (.int x4), o5]) (st' := [.int (zi (-1)), .ref 24]) (h' := mk s1) 2 rfl ?_
    refine Ev.step (pc' := 99) rfl (put_12_14 rfl) ?_
    refine Ev.run (pc' := 102) (ls' := [some (.ref 24), some (.int x1), some (.int (x2 + zi 1)), some (.int x3), some (.int x4), o5]) (st' := []) (h' := mk (setI s1 24 14 (zi (-1)))) 1 rfl ?_
    exact k199_102 zF x1 (x2 + zi 1) x3 x4 (setI s1 24 14 (zi (-1))) _ _ h
def f199  (x1 : Int32) (s : zS) : Option (Int32 × zS) := zb1 (f197 (x1 + (zi 1)) s) (fun v2 s1 => if v2 ≤ (x1 + (zi 1)) then f199_84 x1 (x1 + (zi 1)) v2 (zi 0) (setI (setI (setI (setI s1 24 14 (zi 0)) 24 15 (zi 0)) 24 16 (zi (-1))) 24 17 (zi (-1))) else zb1 (f195 v2 (setI (setI (setI (setI s1 24 14 (zi 0)) 24 15 (zi 0)) 24 16 (zi (-1))) 24 17 (zi (-1)))) (fun v4 s3 => if ¬ v4 = (zi 36) then f199_84 x1 (x1 + (zi 1)) v2 (zi 0) s3 else if (v2 - (x1 + (zi 1))) > (zi 4) then some (zi 1, s3) else zb1 (f195 (x1 + (zi 1)) s3) (fun v6 s5 => if ¬ v6 = (zi 48) then zb1 (f198 (x1 + (zi 1)) v2 s5) (fun v8 s7 => f199_102 zF x1 (v2 + (zi 1)) v2 (zi 0) (setI s7 24 14 v8)) else some (zi 1, s5))))
theorem k199 {X : mX} {D : Nat} {x1 : Int32} {s : zS} {r : Int32 × zS}  (h : f199 x1 s = some r) : Ev X (D + 5) mm199 0 [some (.ref 24), some (.int x1), none, none, none, none] [] (mk s) (encI r) := by
  unfold f199 at h
  refine Ev.run (pc' := 6) (ls' := [some (.ref 24), some (.int x1), some (.int (x1 + (zi 1))), none, none, none]) (st' := [.int (x1 + (zi 1)), .ref 24]) (h' := mk s) 6 rfl ?_
  obtain ⟨v2, s1, hq, h⟩ := zb1_some h
  refine Ev.call (M' := mm197) (v := some (.int v2)) (h' := mk s1) rfl rfl rfl (Nat.le_of_ble_eq_true rfl) (k197 hq) ?_
  refine Ev.run (pc' := 12) (ls' := [some (.ref 24), some (.int x1), some (.int (x1 + (zi 1))), some (.int v2), none, none]) (st' := [.int (zi 0), .ref 24]) (h' := mk s1) 3 rfl ?_
  refine Ev.step (pc' := 15) rfl (put_12_14 rfl) ?_
  refine Ev.run (pc' := 17) (ls' := [some (.ref 24), some (.int x1), some (.int (x1 + (zi 1))), some (.int v2), none, none]) (st' := [.int (zi 0), .ref 24]) (h' := mk (setI s1 24 14 (zi 0))) 2 rfl ?_
  refine Ev.step (pc' := 20) rfl (put_12_15 rfl) ?_
  refine Ev.run (pc' := 22) (ls' := [some (.ref 24), some (.int x1), some (.int (x1 + (zi 1))), some (.int v2), none, none]) (st' := [.int (zi (-1)), .ref 24]) (h' := mk (setI (setI s1 24 14 (zi 0)) 24 15 (zi 0))) 2 rfl ?_
  refine Ev.step (pc' := 25) rfl (put_12_16 rfl) ?_
  refine Ev.run (pc' := 27) (ls' := [some (.ref 24), some (.int x1), some (.int (x1 + (zi 1))), some (.int v2), none, none]) (st' := [.int (zi (-1)), .ref 24]) (h' := mk (setI (setI (setI s1 24 14 (zi 0)) 24 15 (zi 0)) 24 16 (zi (-1)))) 2 rfl ?_
  refine Ev.step (pc' := 30) rfl (put_12_17 rfl) ?_
  refine Ev.run (pc' := 35) (ls' := [some (.ref 24), some (.int x1), some (.int (x1 + (zi 1))), some (.int v2), some (.int (zi 0)), none]) (st' := [.int (x1 + (zi 1)), .int v2]) (h' := mk (setI (setI (setI (setI s1 24 14 (zi 0)) 24 15 (zi 0)) 24 16 (zi (-1))) 24 17 (zi (-1)))) 4 rfl ?_
  refine Ev.icmp_le (t := 84) rfl rfl (fun hb => ?_) (fun hb => ?_)
  · have h := (if_pos hb).symm.trans h
    exact k199_84 x1 (x1 + (zi 1)) v2 (zi 0) (setI (setI (setI (setI s1 24 14 (zi 0)) 24 15 (zi 0)) 24 16 (zi (-1))) 24 17 (zi (-1))) _ _ h
  · have h := (if_neg hb).symm.trans h
    refine Ev.run (pc' := 40) (ls' := [some (.ref 24), some (.int x1), some (.int (x1 + (zi 1))), some (.int v2), some (.int (zi 0)), none]) (st' := [.int v2, .ref 24]) (h' := mk (setI (setI (setI (setI s1 24 14 (zi 0)) 24 15 (zi 0)) 24 16 (zi (-1))) 24 17 (zi (-1)))) 2 rfl ?_
    obtain ⟨v4, s3, hq, h⟩ := zb1_some h
    refine Ev.call (M' := mm195) (v := some (.int v4)) (h' := mk s3) rfl rfl rfl (Nat.le_of_ble_eq_true rfl) (k195 hq) ?_
    refine Ev.run (pc' := 45) (ls' := [some (.ref 24), some (.int x1), some (.int (x1 + (zi 1))), some (.int v2), some (.int (zi 0)), none]) (st' := [.int (zi 36), .int v4]) (h' := mk s3) 1 rfl ?_
    refine Ev.icmp_ne (t := 84) rfl rfl (fun hb => ?_) (fun hb => ?_)
    · have h := (if_pos hb).symm.trans h
      exact k199_84 x1 (x1 + (zi 1)) v2 (zi 0) s3 _ _ h
    · have h := (if_neg hb).symm.trans h
      refine Ev.run (pc' := 52) (ls' := [some (.ref 24), some (.int x1), some (.int (x1 + (zi 1))), some (.int v2), some (.int (zi 0)), none]) (st' := [.int (zi 4), .int (v2 - (x1 + (zi 1)))]) (h' := mk s3) 4 rfl ?_
      refine Ev.icmp_gt (t := 65) rfl rfl (fun hb => ?_) (fun hb => ?_)
      · have h := (if_pos hb).symm.trans h
        refine Ev.run (pc' := 66) (ls' := [some (.ref 24), some (.int x1), some (.int (x1 + (zi 1))), some (.int v2), some (.int (zi 0)), none]) (st' := [.int (zi 1)]) (h' := mk s3) 1 rfl ?_
        cases h
        exact Ev.fin rfl rfl
      · have h := (if_neg hb).symm.trans h
        refine Ev.run (pc' := 57) (ls' := [some (.ref 24), some (.int x1), some (.int (x1 + (zi 1))), some (.int v2), some (.int (zi 0)), none]) (st' := [.int (x1 + (zi 1)), .ref 24]) (h' := mk s3) 2 rfl ?_
        obtain ⟨v6, s5, hq, h⟩ := zb1_some h
        refine Ev.call (M' := mm195) (v := some (.int v6)) (h' := mk s5) rfl rfl rfl (Nat.le_of_ble_eq_true rfl) (k195 hq) ?_
        refine Ev.run (pc' := 62) (ls' := [some (.ref 24), some (.int x1), some (.int (x1 + (zi 1))), some (.int v2), some (.int (zi 0)), none]) (st' := [.int (zi 48), .int v6]) (h' := mk s5) 1 rfl ?_
        refine Ev.icmp_ne (t := 67) rfl rfl (fun hb => ?_) (fun hb => ?_)
        · have h := (if_pos hb).symm.trans h
          refine Ev.run (pc' := 71) (ls' := [some (.ref 24), some (.int x1), some (.int (x1 + (zi 1))), some (.int v2), some (.int (zi 0)), none]) (st' := [.int v2, .int (x1 + (zi 1)), .ref 24, .ref 24]) (h' := mk s5) 4 rfl ?_
          obtain ⟨v8, s7, hq, h⟩ := zb1_some h
          refine Ev.call (M' := mm198) (v := some (.int v8)) (h' := mk s7) rfl rfl rfl (Nat.le_of_ble_eq_true rfl) (k198 hq) ?_
          refine Ev.step (pc' := 77) rfl (put_12_14 rfl) ?_
          refine Ev.run (pc' := 102) (ls' := [some (.ref 24), some (.int x1), some (.int (v2 + (zi 1))), some (.int v2), some (.int (zi 0)), none]) (st' := []) (h' := mk (setI s7 24 14 v8)) 5 rfl ?_
          exact k199_102 zF x1 (v2 + (zi 1)) v2 (zi 0) (setI s7 24 14 v8) _ _ h
        · have h := (if_neg hb).symm.trans h
          refine Ev.run (pc' := 66) (ls' := [some (.ref 24), some (.int x1), some (.int (x1 + (zi 1))), some (.int v2), some (.int (zi 0)), none]) (st' := [.int (zi 1)]) (h' := mk s5) 1 rfl ?_
          cases h
          exact Ev.fin rfl rfl
/-! 201 FModel.argument()I -/
def f201_256  (x1 : Int32) (x2 : Int32) (x3 : Int32) (s : zS) : Option (Int32 × zS) := if ¬ x3 = zi 0 then if ¬ (s.1 24 18) = (zi 99) then some (zi 0, s) else if x2 < (zi 3) then some (zi 0, s) else if x2 ≥ (zi 6) then some (zi 0, s) else if mIx x1 24 then if (s.2.1 31 x1.toNatClampNeg) < (zl 0) then some (zi 10, s) else if mIx x1 24 then if (s.2.1 31 x1.toNatClampNeg) ≤ (zl 1114111) then some (zi 0, s) else some (zi 10, s) else none else none else some (zi 9, s)
theorem k201_256 {X : mX} {D : Nat}   (x1 : Int32) (x2 : Int32) (x3 : Int32) (s : zS) (r : Int32 × zS)   (h : f201_256  x1 x2 x3 s = some r) : Ev X D mm201 256 [some (.ref 24), some (.int x1), some (.int x2), some (.int x3)] [] (mk s) (encI r) := by
  unfold f201_256 at h
  refine Ev.run (pc' := 257) (ls' := [some (.ref 24), some (.int x1), some (.int x2), some (.int x3)]) (st' := [.int x3]) (h' := mk s) 1 rfl ?_
  refine Ev.if_ne (t := 263) rfl rfl (fun hb => ?_) (fun hb => ?_)
  · have h := (if_pos hb).symm.trans h
    refine Ev.run (pc' := 269) (ls' := [some (.ref 24), some (.int x1), some (.int x2), some (.int x3)]) (st' := [.int (zi 99), .int (s.1 24 18)]) (h' := mk s) 3 rfl ?_
    refine Ev.icmp_ne (t := 312) rfl rfl (fun hb => ?_) (fun hb => ?_)
    · have h := (if_pos hb).symm.trans h
      refine Ev.run (pc' := 313) (ls' := [some (.ref 24), some (.int x1), some (.int x2), some (.int x3)]) (st' := [.int (zi 0)]) (h' := mk s) 1 rfl ?_
      cases h
      exact Ev.fin rfl rfl
    · have h := (if_neg hb).symm.trans h
      refine Ev.run (pc' := 274) (ls' := [some (.ref 24), some (.int x1), some (.int x2), some (.int x3)]) (st' := [.int (zi 3), .int x2]) (h' := mk s) 2 rfl ?_
      refine Ev.icmp_lt (t := 312) rfl rfl (fun hb => ?_) (fun hb => ?_)
      · have h := (if_pos hb).symm.trans h
        refine Ev.run (pc' := 313) (ls' := [some (.ref 24), some (.int x1), some (.int x2), some (.int x3)]) (st' := [.int (zi 0)]) (h' := mk s) 1 rfl ?_
        cases h
        exact Ev.fin rfl rfl
      · have h := (if_neg hb).symm.trans h
        refine Ev.run (pc' := 280) (ls' := [some (.ref 24), some (.int x1), some (.int x2), some (.int x3)]) (st' := [.int (zi 6), .int x2]) (h' := mk s) 2 rfl ?_
        refine Ev.icmp_ge (t := 312) rfl rfl (fun hb => ?_) (fun hb => ?_)
        · have h := (if_pos hb).symm.trans h
          refine Ev.run (pc' := 313) (ls' := [some (.ref 24), some (.int x1), some (.int x2), some (.int x3)]) (st' := [.int (zi 0)]) (h' := mk s) 1 rfl ?_
          cases h
          exact Ev.fin rfl rfl
        · have h := (if_neg hb).symm.trans h
          refine Ev.run (pc' := 288) (ls' := [some (.ref 24), some (.int x1), some (.int x2), some (.int x3)]) (st' := [.int x1, .ref 31]) (h' := mk s) 3 rfl ?_
          obtain ⟨hx, h⟩ := zif h
          refine Ev.step (pc' := 289) rfl (ald_l rfl hx) ?_
          refine Ev.run (pc' := 291) (ls' := [some (.ref 24), some (.int x1), some (.int x2), some (.int x3)]) (st' := [.int (lg_cmp (s.2.1 31 x1.toNatClampNeg) (zl 0))]) (h' := mk s) 2 rfl ?_
          refine Ev.ifl_lt (t := 307) rfl rfl (fun hb => ?_) (fun hb => ?_)
          · have h := (if_pos hb).symm.trans h
            refine Ev.run (pc' := 313) (ls' := [some (.ref 24), some (.int x1), some (.int x2), some (.int x3)]) (st' := [.int (zi 10)]) (h' := mk s) 2 rfl ?_
            cases h
            exact Ev.fin rfl rfl
          · have h := (if_neg hb).symm.trans h
            refine Ev.run (pc' := 299) (ls' := [some (.ref 24), some (.int x1), some (.int x2), some (.int x3)]) (st' := [.int x1, .ref 31]) (h' := mk s) 3 rfl ?_
            obtain ⟨hx, h⟩ := zif h
            refine Ev.step (pc' := 300) rfl (ald_l rfl hx) ?_
            refine Ev.run (pc' := 304) (ls' := [some (.ref 24), some (.int x1), some (.int x2), some (.int x3)]) (st' := [.int (lg_cmp (s.2.1 31 x1.toNatClampNeg) (zl 1114111))]) (h' := mk s) 2 rfl ?_
            refine Ev.ifl_le (t := 312) rfl rfl (fun hb => ?_) (fun hb => ?_)
            · have h := (if_pos hb).symm.trans h
              refine Ev.run (pc' := 313) (ls' := [some (.ref 24), some (.int x1), some (.int x2), some (.int x3)]) (st' := [.int (zi 0)]) (h' := mk s) 1 rfl ?_
              cases h
              exact Ev.fin rfl rfl
            · have h := (if_neg hb).symm.trans h
              refine Ev.run (pc' := 313) (ls' := [some (.ref 24), some (.int x1), some (.int x2), some (.int x3)]) (st' := [.int (zi 10)]) (h' := mk s) 2 rfl ?_
              cases h
              exact Ev.fin rfl rfl
  · have h := (if_neg hb).symm.trans h
    refine Ev.run (pc' := 262) (ls' := [some (.ref 24), some (.int x1), some (.int x2), some (.int x3)]) (st' := [.int (zi 9)]) (h' := mk s) 1 rfl ?_
    cases h
    exact Ev.fin rfl rfl
def f201_233  (x1 : Int32) (x2 : Int32) (x3 : Int32) (s : zS) : Option (Int32 × zS) := if ¬ (s.1 24 18) = (zi 116) then f201_256 x1 x2 x3 s else if ¬ x2 = (zi 6) then f201_256 x1 x2 (x3 ||| (zi 0)) s else f201_256 x1 x2 (x3 ||| (zi 1)) s
theorem k201_233 {X : mX} {D : Nat}   (x1 : Int32) (x2 : Int32) (x3 : Int32) (s : zS) (r : Int32 × zS)   (h : f201_233  x1 x2 x3 s = some r) : Ev X D mm201 233 [some (.ref 24), some (.int x1), some (.int x2), some (.int x3)] [] (mk s) (encI r) := by
  unfold f201_233 at h
  refine Ev.run (pc' := 239) (ls' := [some (.ref 24), some (.int x1), some (.int x2), some (.int x3)]) (st' := [.int (zi 116), .int (s.1 24 18)]) (h' := mk s) 3 rfl ?_
  refine Ev.icmp_ne (t := 256) rfl rfl (fun hb => ?_) (fun hb => ?_)
  · have h := (if_pos hb).symm.trans h
    exact k201_256 x1 x2 x3 s _ h
  · have h := (if_neg hb).symm.trans h
    refine Ev.run (pc' := 246) (ls' := [some (.ref 24), some (.int x1), some (.int x2), some (.int x3)]) (st' := [.int (zi 6), .int x2, .int x3]) (h' := mk s) 3 rfl ?_
    refine Ev.icmp_ne (t := 253) rfl rfl (fun hb => ?_) (fun hb => ?_)
    · have h := (if_pos hb).symm.trans h
      refine Ev.run (pc' := 256) (ls' := [some (.ref 24), some (.int x1), some (.int x2), some (.int (x3 ||| (zi 0)))]) (st' := []) (h' := mk s) 3 rfl ?_
      exact k201_256 x1 x2 (x3 ||| (zi 0)) s _ h
    · have h := (if_neg hb).symm.trans h
      refine Ev.run (pc' := 256) (ls' := [some (.ref 24), some (.int x1), some (.int x2), some (.int (x3 ||| (zi 1)))]) (st' := []) (h' := mk s) 4 rfl ?_
      exact k201_256 x1 x2 (x3 ||| (zi 1)) s _ h
def f201_213  (x1 : Int32) (x2 : Int32) (x3 : Int32) (s : zS) : Option (Int32 × zS) := if x2 = (zi 7) then f201_233 x1 x2 (x3 ||| (zi 1)) s else if ¬ x2 = (zi 8) then f201_233 x1 x2 (x3 ||| (zi 0)) s else f201_233 x1 x2 (x3 ||| (zi 1)) s
theorem k201_213 {X : mX} {D : Nat}   (x1 : Int32) (x2 : Int32) (x3 : Int32) (s : zS) (r : Int32 × zS)   (h : f201_213  x1 x2 x3 s = some r) : Ev X D mm201 213 [some (.ref 24), some (.int x1), some (.int x2), some (.int x3)] [] (mk s) (encI r) := by
  unfold f201_213 at h
  refine Ev.run (pc' := 217) (ls' := [some (.ref 24), some (.int x1), some (.int x2), some (.int x3)]) (st' := [.int (zi 7), .int x2, .int x3]) (h' := mk s) 3 rfl ?_
  refine Ev.icmp_eq (t := 226) rfl rfl (fun hb => ?_) (fun hb => ?_)
  · have h := (if_pos hb).symm.trans h
    refine Ev.run (pc' := 233) (ls' := [some (.ref 24), some (.int x1), some (.int x2), some (.int (x3 ||| (zi 1)))]) (st' := []) (h' := mk s) 4 rfl ?_
    exact k201_233 x1 x2 (x3 ||| (zi 1)) s _ h
  · have h := (if_neg hb).symm.trans h
    refine Ev.run (pc' := 223) (ls' := [some (.ref 24), some (.int x1), some (.int x2), some (.int x3)]) (st' := [.int (zi 8), .int x2, .int x3]) (h' := mk s) 2 rfl ?_
    refine Ev.icmp_ne (t := 230) rfl rfl (fun hb => ?_) (fun hb => ?_)
    · have h := (if_pos hb).symm.trans h
      refine Ev.run (pc' := 233) (ls' := [some (.ref 24), some (.int x1), some (.int x2), some (.int (x3 ||| (zi 0)))]) (st' := []) (h' := mk s) 3 rfl ?_
      exact k201_233 x1 x2 (x3 ||| (zi 0)) s _ h
    · have h := (if_neg hb).symm.trans h
      refine Ev.run (pc' := 233) (ls' := [some (.ref 24), some (.int x1), some (.int x2), some (.int (x3 ||| (zi 1)))]) (st' := []) (h' := mk s) 4 rfl ?_
      exact k201_233 x1 x2 (x3 ||| (zi 1)) s _ h
def f201_204  (x1 : Int32) (x2 : Int32) (x3 : Int32) (s : zS) : Option (Int32 × zS) := if ¬ (s.1 24 18) = (zi 97) then f201_233 x1 x2 x3 s else f201_213 x1 x2 x3 s
theorem k201_204 {X : mX} {D : Nat}   (x1 : Int32) (x2 : Int32) (x3 : Int32) (s : zS) (r : Int32 × zS)   (h : f201_204  x1 x2 x3 s = some r) : Ev X D mm201 204 [some (.ref 24), some (.int x1), some (.int x2), some (.int x3)] [] (mk s) (encI r) := by
  unfold f201_204 at h
  refine Ev.run (pc' := 210) (ls' := [some (.ref 24), some (.int x1), some (.int x2), some (.int x3)]) (st' := [.int (zi 97), .int (s.1 24 18)]) (h' := mk s) 3 rfl ?_
  refine Ev.icmp_ne (t := 233) rfl rfl (fun hb => ?_) (fun hb => ?_)
  · have h := (if_pos hb).symm.trans h
    exact k201_233 x1 x2 x3 s _ h
  · have h := (if_neg hb).symm.trans h
    exact k201_213 x1 x2 x3 s _ h
def f201_186  (x1 : Int32) (x2 : Int32) (x3 : Int32) (s : zS) : Option (Int32 × zS) := if (s.1 24 18) < (zi 101) then f201_204 x1 x2 x3 s else if (s.1 24 18) ≤ (zi 103) then f201_213 x1 x2 x3 s else f201_204 x1 x2 x3 s
theorem k201_186 {X : mX} {D : Nat}   (x1 : Int32) (x2 : Int32) (x3 : Int32) (s : zS) (r : Int32 × zS)   (h : f201_186  x1 x2 x3 s = some r) : Ev X D mm201 186 [some (.ref 24), some (.int x1), some (.int x2), some (.int x3)] [] (mk s) (encI r) := by
  unfold f201_186 at h
  refine Ev.run (pc' := 192) (ls' := [some (.ref 24), some (.int x1), some (.int x2), some (.int x3)]) (st' := [.int (zi 101), .int (s.1 24 18)]) (h' := mk s) 3 rfl ?_
  refine Ev.icmp_lt (t := 204) rfl rfl (fun hb => ?_) (fun hb => ?_)
  · have h := (if_pos hb).symm.trans h
    exact k201_204 x1 x2 x3 s _ h
  · have h := (if_neg hb).symm.trans h
    refine Ev.run (pc' := 201) (ls' := [some (.ref 24), some (.int x1), some (.int x2), some (.int x3)]) (st' := [.int (zi 103), .int (s.1 24 18)]) (h' := mk s) 3 rfl ?_
    refine Ev.icmp_le (t := 213) rfl rfl (fun hb => ?_) (fun hb => ?_)
    · have h := (if_pos hb).symm.trans h
      exact k201_213 x1 x2 x3 s _ h
    · have h := (if_neg hb).symm.trans h
      exact k201_204 x1 x2 x3 s _ h
def f201_167  (x1 : Int32) (x2 : Int32) (x3 : Int32) (s : zS) : Option (Int32 × zS) := if x2 < (zi 3) then f201_186 x1 x2 (x3 ||| (zi 0)) s else if x2 > (zi 6) then f201_186 x1 x2 (x3 ||| (zi 0)) s else f201_186 x1 x2 (x3 ||| (zi 1)) s
theorem k201_167 {X : mX} {D : Nat}   (x1 : Int32) (x2 : Int32) (x3 : Int32) (s : zS) (r : Int32 × zS)   (h : f201_167  x1 x2 x3 s = some r) : Ev X D mm201 167 [some (.ref 24), some (.int x1), some (.int x2), some (.int x3)] [] (mk s) (encI r) := by
  unfold f201_167 at h
  refine Ev.run (pc' := 170) (ls' := [some (.ref 24), some (.int x1), some (.int x2), some (.int x3)]) (st' := [.int (zi 3), .int x2, .int x3]) (h' := mk s) 3 rfl ?_
  refine Ev.icmp_lt (t := 183) rfl rfl (fun hb => ?_) (fun hb => ?_)
  · have h := (if_pos hb).symm.trans h
    refine Ev.run (pc' := 186) (ls' := [some (.ref 24), some (.int x1), some (.int x2), some (.int (x3 ||| (zi 0)))]) (st' := []) (h' := mk s) 3 rfl ?_
    exact k201_186 x1 x2 (x3 ||| (zi 0)) s _ h
  · have h := (if_neg hb).symm.trans h
    refine Ev.run (pc' := 176) (ls' := [some (.ref 24), some (.int x1), some (.int x2), some (.int x3)]) (st' := [.int (zi 6), .int x2, .int x3]) (h' := mk s) 2 rfl ?_
    refine Ev.icmp_gt (t := 183) rfl rfl (fun hb => ?_) (fun hb => ?_)
    · have h := (if_pos hb).symm.trans h
      refine Ev.run (pc' := 186) (ls' := [some (.ref 24), some (.int x1), some (.int x2), some (.int (x3 ||| (zi 0)))]) (st' := []) (h' := mk s) 3 rfl ?_
      exact k201_186 x1 x2 (x3 ||| (zi 0)) s _ h
    · have h := (if_neg hb).symm.trans h
      refine Ev.run (pc' := 186) (ls' := [some (.ref 24), some (.int x1), some (.int x2), some (.int (x3 ||| (zi 1)))]) (st' := []) (h' := mk s) 4 rfl ?_
      exact k201_186 x1 x2 (x3 ||| (zi 1)) s _ h
def f201_140  (x1 : Int32) (x2 : Int32) (x3 : Int32) (s : zS) : Option (Int32 × zS) := if (s.1 24 18) = (zi 100) then f201_167 x1 x2 x3 s else if (s.1 24 18) = (zi 111) then f201_167 x1 x2 x3 s else if ¬ (s.1 24 18) = (zi 120) then f201_186 x1 x2 x3 s else f201_167 x1 x2 x3 s
theorem k201_140 {X : mX} {D : Nat}   (x1 : Int32) (x2 : Int32) (x3 : Int32) (s : zS) (r : Int32 × zS)   (h : f201_140  x1 x2 x3 s = some r) : Ev X D mm201 140 [some (.ref 24), some (.int x1), some (.int x2), some (.int x3)] [] (mk s) (encI r) := by
  unfold f201_140 at h
  refine Ev.run (pc' := 146) (ls' := [some (.ref 24), some (.int x1), some (.int x2), some (.int x3)]) (st' := [.int (zi 100), .int (s.1 24 18)]) (h' := mk s) 3 rfl ?_
  refine Ev.icmp_eq (t := 167) rfl rfl (fun hb => ?_) (fun hb => ?_)
  · have h := (if_pos hb).symm.trans h
    exact k201_167 x1 x2 x3 s _ h
  · have h := (if_neg hb).symm.trans h
    refine Ev.run (pc' := 155) (ls' := [some (.ref 24), some (.int x1), some (.int x2), some (.int x3)]) (st' := [.int (zi 111), .int (s.1 24 18)]) (h' := mk s) 3 rfl ?_
    refine Ev.icmp_eq (t := 167) rfl rfl (fun hb => ?_) (fun hb => ?_)
    · have h := (if_pos hb).symm.trans h
      exact k201_167 x1 x2 x3 s _ h
    · have h := (if_neg hb).symm.trans h
      refine Ev.run (pc' := 164) (ls' := [some (.ref 24), some (.int x1), some (.int x2), some (.int x3)]) (st' := [.int (zi 120), .int (s.1 24 18)]) (h' := mk s) 3 rfl ?_
      refine Ev.icmp_ne (t := 186) rfl rfl (fun hb => ?_) (fun hb => ?_)
      · have h := (if_pos hb).symm.trans h
        exact k201_186 x1 x2 x3 s _ h
      · have h := (if_neg hb).symm.trans h
        exact k201_167 x1 x2 x3 s _ h
def f201_111  (x1 : Int32) (x2 : Int32) (y0 : Int32) (s : zS) : Option (Int32 × zS) := if ¬ (s.1 24 18) = (zi 99) then f201_140 x1 x2 y0 s else if x2 < (zi 2) then f201_140 x1 x2 (y0 ||| (zi 0)) s else if x2 ≥ (zi 6) then f201_140 x1 x2 (y0 ||| (zi 0)) s else f201_140 x1 x2 (y0 ||| (zi 1)) s
theorem k201_111 {X : mX} {D : Nat}   (x1 : Int32) (x2 : Int32) (y0 : Int32) (s : zS) (r : Int32 × zS) (o3 : Option Value)  (h : f201_111  x1 x2 y0 s = some r) : Ev X D mm201 111 [some (.ref 24), some (.int x1), some (.int x2), o3] [.int y0] (mk s) (encI r) := by
  unfold f201_111 at h
  refine Ev.run (pc' := 118) (ls' := [some (.ref 24), some (.int x1), some (.int x2), some (.int y0)]) (st' := [.int (zi 99), .int (s.1 24 18)]) (h' := mk s) 4 rfl ?_
  refine Ev.icmp_ne (t := 140) rfl rfl (fun hb => ?_) (fun hb => ?_)
  · have h := (if_pos hb).symm.trans h
    exact k201_140 x1 x2 y0 s _ h
  · have h := (if_neg hb).symm.trans h
    refine Ev.run (pc' := 124) (ls' := [some (.ref 24), some (.int x1), some (.int x2), some (.int y0)]) (st' := [.int (zi 2), .int x2, .int y0]) (h' := mk s) 3 rfl ?_
    refine Ev.icmp_lt (t := 137) rfl rfl (fun hb => ?_) (fun hb => ?_)
    · have h := (if_pos hb).symm.trans h
      refine Ev.run (pc' := 140) (ls' := [some (.ref 24), some (.int x1), some (.int x2), some (.int (y0 ||| (zi 0)))]) (st' := []) (h' := mk s) 3 rfl ?_
      exact k201_140 x1 x2 (y0 ||| (zi 0)) s _ h
    · have h := (if_neg hb).symm.trans h
      refine Ev.run (pc' := 130) (ls' := [some (.ref 24), some (.int x1), some (.int x2), some (.int y0)]) (st' := [.int (zi 6), .int x2, .int y0]) (h' := mk s) 2 rfl ?_
      refine Ev.icmp_ge (t := 137) rfl rfl (fun hb => ?_) (fun hb => ?_)
      · have h := (if_pos hb).symm.trans h
        refine Ev.run (pc' := 140) (ls' := [some (.ref 24), some (.int x1), some (.int x2), some (.int (y0 ||| (zi 0)))]) (st' := []) (h' := mk s) 3 rfl ?_
        exact k201_140 x1 x2 (y0 ||| (zi 0)) s _ h
      · have h := (if_neg hb).symm.trans h
        refine Ev.run (pc' := 140) (ls' := [some (.ref 24), some (.int x1), some (.int x2), some (.int (y0 ||| (zi 1)))]) (st' := []) (h' := mk s) 4 rfl ?_
        exact k201_140 x1 x2 (y0 ||| (zi 1)) s _ h
def f201_67  (x1 : Int32) (s : zS) : Option (Int32 × zS) := if mIx x1 24 then if (s.1 29 x1.toNatClampNeg) = zi 0 then f201_111 x1 (s.1 29 x1.toNatClampNeg) (zi 1) (setI (setI s 24 37 x1) 24 35 x1) else if (s.1 24 18) = (zi 98) then f201_111 x1 (s.1 29 x1.toNatClampNeg) (zi 1) (setI (setI s 24 37 x1) 24 35 x1) else if ¬ (s.1 24 18) = (zi 115) then f201_111 x1 (s.1 29 x1.toNatClampNeg) (zi 0) (setI (setI s 24 37 x1) 24 35 x1) else f201_111 x1 (s.1 29 x1.toNatClampNeg) (zi 1) (setI (setI s 24 37 x1) 24 35 x1) else none
theorem k201_67 {X : mX} {D : Nat}   (x1 : Int32) (s : zS) (r : Int32 × zS) (o2 : Option Value) (o3 : Option Value)  (h : f201_67  x1 s = some r) : Ev X D mm201 67 [some (.ref 24), some (.int x1), o2, o3] [] (mk s) (encI r) := by
  unfold f201_67 at h
  refine Ev.run (pc' := 69) (ls' := [some (.ref 24), some (.int x1), o2, o3]) (st' := [.int x1, .ref 24]) (h' := mk s) 2 rfl ?_
  refine Ev.step (pc' := 72) rfl (put_12_37 rfl) ?_
  refine Ev.run (pc' := 74) (ls' := [some (.ref 24), some (.int x1), o2, o3]) (st' := [.int x1, .ref 24]) (h' := mk (setI s 24 37 x1)) 2 rfl ?_
  refine Ev.step (pc' := 77) rfl (put_12_35 rfl) ?_
  refine Ev.run (pc' := 82) (ls' := [some (.ref 24), some (.int x1), o2, o3]) (st' := [.int x1, .ref 29]) (h' := mk (setI (setI s 24 37 x1) 24 35 x1)) 3 rfl ?_
  obtain ⟨hx, h⟩ := zif h
  refine Ev.step (pc' := 83) rfl (ald_i rfl hx) ?_
  refine Ev.run (pc' := 85) (ls' := [some (.ref 24), some (.int x1), some (.int (s.1 29 x1.toNatClampNeg)), o3]) (st' := [.int (s.1 29 x1.toNatClampNeg)]) (h' := mk (setI (setI s 24 37 x1) 24 35 x1)) 2 rfl ?_
  refine Ev.if_eq (t := 106) rfl rfl (fun hb => ?_) (fun hb => ?_)
  · have h := (if_pos hb).symm.trans h
    refine Ev.run (pc' := 111) (ls' := [some (.ref 24), some (.int x1), some (.int (s.1 29 x1.toNatClampNeg)), o3]) (st' := [.int (zi 1)]) (h' := mk (setI (setI s 24 37 x1) 24 35 x1)) 2 rfl ?_
    exact k201_111 x1 (s.1 29 x1.toNatClampNeg) (zi 1) (setI (setI s 24 37 x1) 24 35 x1) _ _ h
  · have h := (if_neg hb).symm.trans h
    refine Ev.run (pc' := 94) (ls' := [some (.ref 24), some (.int x1), some (.int (s.1 29 x1.toNatClampNeg)), o3]) (st' := [.int (zi 98), .int (s.1 24 18)]) (h' := mk (setI (setI s 24 37 x1) 24 35 x1)) 3 rfl ?_
    refine Ev.icmp_eq (t := 106) rfl rfl (fun hb => ?_) (fun hb => ?_)
    · have h := (if_pos hb).symm.trans h
      refine Ev.run (pc' := 111) (ls' := [some (.ref 24), some (.int x1), some (.int (s.1 29 x1.toNatClampNeg)), o3]) (st' := [.int (zi 1)]) (h' := mk (setI (setI s 24 37 x1) 24 35 x1)) 2 rfl ?_
      exact k201_111 x1 (s.1 29 x1.toNatClampNeg) (zi 1) (setI (setI s 24 37 x1) 24 35 x1) _ _ h
    · have h := (if_neg hb).symm.trans h
      refine Ev.run (pc' := 103) (ls' := [some (.ref 24), some (.int x1), some (.int (s.1 29 x1.toNatClampNeg)), o3]) (st' := [.int (zi 115), .int (s.1 24 18)]) (h' := mk (setI (setI s 24 37 x1) 24 35 x1)) 3 rfl ?_
      refine Ev.icmp_ne (t := 110) rfl rfl (fun hb => ?_) (fun hb => ?_)
      · have h := (if_pos hb).symm.trans h
        refine Ev.run (pc' := 111) (ls' := [some (.ref 24), some (.int x1), some (.int (s.1 29 x1.toNatClampNeg)), o3]) (st' := [.int (zi 0)]) (h' := mk (setI (setI s 24 37 x1) 24 35 x1)) 1 rfl ?_
        exact k201_111 x1 (s.1 29 x1.toNatClampNeg) (zi 0) (setI (setI s 24 37 x1) 24 35 x1) _ _ h
      · have h := (if_neg hb).symm.trans h
        refine Ev.run (pc' := 111) (ls' := [some (.ref 24), some (.int x1), some (.int (s.1 29 x1.toNatClampNeg)), o3]) (st' := [.int (zi 1)]) (h' := mk (setI (setI s 24 37 x1) 24 35 x1)) 2 rfl ?_
        exact k201_111 x1 (s.1 29 x1.toNatClampNeg) (zi 1) (setI (setI s 24 37 x1) 24 35 x1) _ _ h
def f201_34  (y0 : Int32) (s : zS) : Option (Int32 × zS) := if y0 < zi 0 then some (zi 8, s) else if y0 < (s.1 24 13) then if ¬ (s.1 24 14) = zi 0 then f201_67 y0 s else f201_67 y0 (setI s 24 36 ((s.1 24 36) + (zi 1))) else some (zi 8, s)
theorem k201_34 {X : mX} {D : Nat}   (y0 : Int32) (s : zS) (r : Int32 × zS) (o1 : Option Value) (o2 : Option Value) (o3 : Option Value)  (h : f201_34  y0 s = some r) : Ev X D mm201 34 [some (.ref 24), o1, o2, o3] [.int y0] (mk s) (encI r) := by
  unfold f201_34 at h
  refine Ev.run (pc' := 36) (ls' := [some (.ref 24), some (.int y0), o2, o3]) (st' := [.int y0]) (h' := mk s) 2 rfl ?_
  refine Ev.if_lt (t := 47) rfl rfl (fun hb => ?_) (fun hb => ?_)
  · have h := (if_pos hb).symm.trans h
    refine Ev.run (pc' := 49) (ls' := [some (.ref 24), some (.int y0), o2, o3]) (st' := [.int (zi 8)]) (h' := mk s) 1 rfl ?_
    cases h
    exact Ev.fin rfl rfl
  · have h := (if_neg hb).symm.trans h
    refine Ev.run (pc' := 44) (ls' := [some (.ref 24), some (.int y0), o2, o3]) (st' := [.int (s.1 24 13), .int y0]) (h' := mk s) 3 rfl ?_
    refine Ev.icmp_lt (t := 50) rfl rfl (fun hb => ?_) (fun hb => ?_)
    · have h := (if_pos hb).symm.trans h
      refine Ev.run (pc' := 54) (ls' := [some (.ref 24), some (.int y0), o2, o3]) (st' := [.int (s.1 24 14)]) (h' := mk s) 2 rfl ?_
      refine Ev.if_ne (t := 67) rfl rfl (fun hb => ?_) (fun hb => ?_)
      · have h := (if_pos hb).symm.trans h
        exact k201_67 y0 s _ _ _ h
      · have h := (if_neg hb).symm.trans h
        refine Ev.run (pc' := 64) (ls' := [some (.ref 24), some (.int y0), o2, o3]) (st' := [.int ((s.1 24 36) + (zi 1)), .ref 24]) (h' := mk s) 5 rfl ?_
        refine Ev.step (pc' := 67) rfl (put_12_36 rfl) ?_
        exact k201_67 y0 (setI s 24 36 ((s.1 24 36) + (zi 1))) _ _ _ h
    · have h := (if_neg hb).symm.trans h
      refine Ev.run (pc' := 49) (ls' := [some (.ref 24), some (.int y0), o2, o3]) (st' := [.int (zi 8)]) (h' := mk s) 1 rfl ?_
      cases h
      exact Ev.fin rfl rfl
def f201   (s : zS) : Option (Int32 × zS) := if (s.1 24 14) ≤ zi 0 then if (s.1 24 14) ≥ zi 0 then f201_34 (s.1 24 36) s else f201_34 (s.1 24 37) s else f201_34 ((s.1 24 14) - (zi 1)) s
theorem k201 {X : mX} {D : Nat}  {s : zS} {r : Int32 × zS}  (h : f201  s = some r) : Ev X D mm201 0 [some (.ref 24), none, none, none] [] (mk s) (encI r) := by
  unfold f201 at h
  refine Ev.run (pc' := 4) (ls' := [some (.ref 24), none, none, none]) (st' := [.int (s.1 24 14)]) (h' := mk s) 2 rfl ?_
  refine Ev.if_le (t := 16) rfl rfl (fun hb => ?_) (fun hb => ?_)
  · have h := (if_pos hb).symm.trans h
    refine Ev.run (pc' := 20) (ls' := [some (.ref 24), none, none, none]) (st' := [.int (s.1 24 14)]) (h' := mk s) 2 rfl ?_
    refine Ev.if_ge (t := 30) rfl rfl (fun hb => ?_) (fun hb => ?_)
    · have h := (if_pos hb).symm.trans h
      refine Ev.run (pc' := 34) (ls' := [some (.ref 24), none, none, none]) (st' := [.int (s.1 24 36)]) (h' := mk s) 2 rfl ?_
      exact k201_34 (s.1 24 36) s _ _ _ _ h
    · have h := (if_neg hb).symm.trans h
      refine Ev.run (pc' := 34) (ls' := [some (.ref 24), none, none, none]) (st' := [.int (s.1 24 37)]) (h' := mk s) 3 rfl ?_
      exact k201_34 (s.1 24 37) s _ _ _ _ h
  · have h := (if_neg hb).symm.trans h
    refine Ev.run (pc' := 34) (ls' := [some (.ref 24), none, none, none]) (st' := [.int ((s.1 24 14) - (zi 1))]) (h' := mk s) 5 rfl ?_
    exact k201_34 ((s.1 24 14) - (zi 1)) s _ _ _ _ h
/-! 203 FModel.text(IJ)V -/
def f203_120  (y1 : Int64) (y2 : Int32) (s : zS) : Option (zS) := zb0 (f179 y1 y2 s) (fun s1 => some s1)
theorem k203_120 {X : mX} {D : Nat}   (y1 : Int64) (y2 : Int32) (s : zS) (r : zS) (o0 : Option Value) (o1 : Option Value) (o2 : Option Value) (o3 : Option Value) (o4 : Option Value)  (h : f203_120  y1 y2 s = some r) : Ev X (D + 7) mm203 120 [o0, o1, o2, o3, o4] [.int y2, .long y1, .ref 24] (mk s) (encV r) := by
  unfold f203_120 at h
  obtain ⟨s1, hq, h⟩ := zb0_some h
  refine Ev.call (M' := mm179) (v := none) (h' := mk s1) rfl rfl rfl (Nat.le_of_ble_eq_true rfl) (k179 hq) ?_
  cases h
  exact Ev.fin rfl rfl
def b203_64 (rec64 : Int32 → zS → Option (zS)) (x4 : Int32) (s : zS) : Option (zS) := if mIx (s.1 24 35) 24 then if x4 ≥ (s.1 30 ((s.1 24 35).toNatClampNeg)) then some s else if mIx (((zi 200) * (s.1 24 35)) + x4) 4800 then zb0 (f175 (s.1 28 ((((zi 200) * (s.1 24 35)) + x4).toNatClampNeg)) s) (fun s1 => rec64 (x4 + zi 1) s1) else none else none
theorem kb203_64 {X : mX} {D : Nat} {rec64 : Int32 → zS → Option (zS)} (hrec64 : ∀ (x4 : Int32) (s : zS) (r : zS) (o1 : Option Value) (o2 : Option Value), rec64 x4 s = some r → Ev X (D + 7) mm203 64 [some (.ref 24), o1, o2, none, some (.int x4)] [] (mk s) (encV r)) (x4 : Int32) (s : zS) (r : zS) (o1 : Option Value) (o2 : Option Value)  (h : b203_64 rec64 x4 s = some r) : Ev X (D + 7) mm203 64 [some (.ref 24), o1, o2, none, some (.int x4)] [] (mk s) (encV r) := by
  unfold b203_64 at h
  refine Ev.run (pc' := 74) (ls' := [some (.ref 24), o1, o2, none, some (.int x4)]) (st' := [.int (s.1 24 35), .ref 30, .int x4]) (h' := mk s) 5 rfl ?_
  obtain ⟨hx, h⟩ := zif h
  refine Ev.step (pc' := 75) rfl (ald_i rfl hx) ?_
  refine Ev.icmp_ge (t := 104) rfl rfl (fun hb => ?_) (fun hb => ?_)
  · have h := (if_pos hb).symm.trans h
    refine Ev.run (pc' := 123) (ls' := [some (.ref 24), o1, o2, none, some (.int x4)]) (st' := []) (h' := mk s) 1 rfl ?_
    cases h
    exact Ev.fin rfl rfl
  · have h := (if_neg hb).symm.trans h
    refine Ev.run (pc' := 94) (ls' := [some (.ref 24), o1, o2, none, some (.int x4)]) (st' := [.int (((zi 200) * (s.1 24 35)) + x4), .ref 28, .ref 24]) (h' := mk s) 9 rfl ?_
    obtain ⟨hx, h⟩ := zif h
    refine Ev.step (pc' := 95) rfl (ald_b rfl hx) ?_
    obtain ⟨s1, hq, h⟩ := zb0_some h
    refine Ev.call (M' := mm175) (v := none) (h' := mk s1) rfl rfl rfl (Nat.le_of_ble_eq_true rfl) (k175 hq) ?_
    refine Ev.run (pc' := 64) (ls' := [some (.ref 24), o1, o2, none, some (.int (x4 + zi 1))]) (st' := []) (h' := mk s1) 2 rfl ?_
    exact hrec64 (x4 + zi 1) s1 _ _ _ h
def f203_64  : Nat → Int32 → zS → Option (zS)
  | 0, _, _ => none
  | n + 1, x4, s => b203_64 (f203_64 n) x4 s
theorem k203_64 {X : mX} {D : Nat}   (n : Nat) : ∀ (x4 : Int32) (s : zS) (r : zS) (o1 : Option Value) (o2 : Option Value), f203_64  n x4 s = some r → Ev X (D + 7) mm203 64 [some (.ref 24), o1, o2, none, some (.int x4)] [] (mk s) (encV r) := by
  induction n with
  | zero => intro x4 s r o1 o2  h; cases h
  | succ n ih => intro x4 s r o1 o2  h; exact kb203_64  ih x4 s r o1 o2  h
def f203_21  (d1 : Nat) (s : zS) : Option (zS) := zb0 (f176 d1 s) (fun s1 => some s1)
theorem k203_21 {X : mX} {D : Nat}   (d1 : Nat) (s : zS) (r : zS) (o0 : Option Value) (o1 : Option Value) (o2 : Option Value) (o3 : Option Value) (o4 : Option Value) (hd1 : d1 < 78) (h : f203_21  d1 s = some r) : Ev X (D + 7) mm203 21 [o0, o1, o2, o3, o4] [.ref (mRO + 3 + 2 * d1), .ref 24] (mk s) (encV r) := by
  unfold f203_21 at h
  obtain ⟨s1, hq, h⟩ := zb0_some h
  refine Ev.call (M' := mm176) (v := none) (h' := mk s1) rfl rfl rfl (Nat.le_of_ble_eq_true rfl) (k176 hd1 hq) ?_
  refine Ev.run (pc' := 123) (ls' := [o0, o1, o2, o3, o4]) (st' := []) (h' := mk s1) 1 rfl ?_
  cases h
  exact Ev.fin rfl rfl
def f203  (x1 : Int32) (x2 : Int64) (s : zS) : Option (zS) := if ¬ x1 = (zi 1) then if ¬ x1 = (zi 2) then if x1 > (zi 6) then if ¬ x1 = (zi 9) then if ¬ x1 = (zi 8) then f203_120 x2 (zi 0) s else f203_120 x2 (zi 1) s else f203_64 zF (zi 0) s else zb0 (f194 x2 s) (fun s1 => some s1) else zb0 (f178 (zL2I x2) s) (fun s2 => some s2) else if ¬ x2 = (zl 0) then f203_21 61 s else f203_21 60 s
theorem k203 {X : mX} {D : Nat} {x1 : Int32} {x2 : Int64} {s : zS} {r : zS}  (h : f203 x1 x2 s = some r) : Ev X (D + 7) mm203 0 [some (.ref 24), some (.int x1), some (.long x2), none, none] [] (mk s) (encV r) := by
  unfold f203 at h
  refine Ev.run (pc' := 2) (ls' := [some (.ref 24), some (.int x1), some (.long x2), none, none]) (st' := [.int (zi 1), .int x1]) (h' := mk s) 2 rfl ?_
  refine Ev.icmp_ne (t := 27) rfl rfl (fun hb => ?_) (fun hb => ?_)
  · have h := (if_pos hb).symm.trans h
    refine Ev.run (pc' := 29) (ls' := [some (.ref 24), some (.int x1), some (.long x2), none, none]) (st' := [.int (zi 2), .int x1]) (h' := mk s) 2 rfl ?_
    refine Ev.icmp_ne (t := 41) rfl rfl (fun hb => ?_) (fun hb => ?_)
    · have h := (if_pos hb).symm.trans h
      refine Ev.run (pc' := 44) (ls' := [some (.ref 24), some (.int x1), some (.long x2), none, none]) (st' := [.int (zi 6), .int x1]) (h' := mk s) 2 rfl ?_
      refine Ev.icmp_gt (t := 55) rfl rfl (fun hb => ?_) (fun hb => ?_)
      · have h := (if_pos hb).symm.trans h
        refine Ev.run (pc' := 58) (ls' := [some (.ref 24), some (.int x1), some (.long x2), none, none]) (st' := [.int (zi 9), .int x1]) (h' := mk s) 2 rfl ?_
        refine Ev.icmp_ne (t := 107) rfl rfl (fun hb => ?_) (fun hb => ?_)
        · have h := (if_pos hb).symm.trans h
          refine Ev.run (pc' := 112) (ls' := [some (.ref 24), some (.int x1), some (.long x2), none, none]) (st' := [.int (zi 8), .int x1, .long x2, .ref 24]) (h' := mk s) 4 rfl ?_
          refine Ev.icmp_ne (t := 119) rfl rfl (fun hb => ?_) (fun hb => ?_)
          · have h := (if_pos hb).symm.trans h
            refine Ev.run (pc' := 120) (ls' := [some (.ref 24), some (.int x1), some (.long x2), none, none]) (st' := [.int (zi 0), .long x2, .ref 24]) (h' := mk s) 1 rfl ?_
            exact k203_120 x2 (zi 0) s _ _ _ _ _ _ h
          · have h := (if_neg hb).symm.trans h
            refine Ev.run (pc' := 120) (ls' := [some (.ref 24), some (.int x1), some (.long x2), none, none]) (st' := [.int (zi 1), .long x2, .ref 24]) (h' := mk s) 2 rfl ?_
            exact k203_120 x2 (zi 1) s _ _ _ _ _ _ h
        · have h := (if_neg hb).symm.trans h
          refine Ev.run (pc' := 64) (ls' := [some (.ref 24), some (.int x1), some (.long x2), none, some (.int (zi 0))]) (st' := []) (h' := mk s) 2 rfl ?_
          exact k203_64 zF (zi 0) s _ _ _ h
      · have h := (if_neg hb).symm.trans h
        refine Ev.run (pc' := 49) (ls' := [some (.ref 24), some (.int x1), some (.long x2), none, none]) (st' := [.long x2, .ref 24]) (h' := mk s) 2 rfl ?_
        obtain ⟨s1, hq, h⟩ := zb0_some h
        refine Ev.call (M' := mm194) (v := none) (h' := mk s1) rfl rfl rfl (Nat.le_of_ble_eq_true rfl) (k194 hq) ?_
        refine Ev.run (pc' := 123) (ls' := [some (.ref 24), some (.int x1), some (.long x2), none, none]) (st' := []) (h' := mk s1) 1 rfl ?_
        cases h
        exact Ev.fin rfl rfl
    · have h := (if_neg hb).symm.trans h
      refine Ev.run (pc' := 35) (ls' := [some (.ref 24), some (.int x1), some (.long x2), none, none]) (st' := [.int (zL2I x2), .ref 24]) (h' := mk s) 3 rfl ?_
      obtain ⟨s2, hq, h⟩ := zb0_some h
      refine Ev.call (M' := mm178) (v := none) (h' := mk s2) rfl rfl rfl (Nat.le_of_ble_eq_true rfl) (k178 hq) ?_
      refine Ev.run (pc' := 123) (ls' := [some (.ref 24), some (.int x1), some (.long x2), none, none]) (st' := []) (h' := mk s2) 1 rfl ?_
      cases h
      exact Ev.fin rfl rfl
  · have h := (if_neg hb).symm.trans h
    refine Ev.run (pc' := 9) (ls' := [some (.ref 24), some (.int x1), some (.long x2), none, none]) (st' := [.int (lg_cmp x2 (zl 0)), .ref 24]) (h' := mk s) 4 rfl ?_
    refine Ev.ifl_ne (t := 18) rfl rfl (fun hb => ?_) (fun hb => ?_)
    · have h := (if_pos hb).symm.trans h
      refine Ev.run (pc' := 21) (ls' := [some (.ref 24), some (.int x1), some (.long x2), none, none]) (st' := [.ref (mRO + 3 + 2 * 61), .ref 24]) (h' := mk s) 1 rfl ?_
      exact k203_21 61 s _ _ _ _ _ _ (by decide) h
    · have h := (if_neg hb).symm.trans h
      refine Ev.run (pc' := 21) (ls' := [some (.ref 24), some (.int x1), some (.long x2), none, none]) (st' := [.ref (mRO + 3 + 2 * 60), .ref 24]) (h' := mk s) 2 rfl ?_
      exact k203_21 60 s _ _ _ _ _ _ (by decide) h
/-! 202 FModel.make()V -/
def f202_222 (rec176 : Int32 → zS → Option (zS)) (x4 : Int32) (s : zS) : Option (zS) := rec176 x4 (setI s 24 31 ((s.1 24 31) + (zi 1)))
theorem k202_222 {X : mX} {D : Nat} {rec176 : Int32 → zS → Option (zS)} (hrec176 : ∀ (x4 : Int32) (s : zS) (r : zS) (o1 : Option Value) (o2 : Option Value), rec176 x4 s = some r → Ev X (D + 8) mm202 176 [some (.ref 24), o1, o2, none, some (.int x4)] [] (mk s) (encV r)) (x4 : Int32) (s : zS) (r : zS) (o1 : Option Value) (o2 : Option Value)  (h : f202_222 rec176 x4 s = some r) : Ev X (D + 8) mm202 222 [some (.ref 24), o1, o2, none, some (.int x4)] [] (mk s) (encV r) := by
  unfold f202_222 at h
  refine Ev.run (pc' := 229) (ls' := [some (.ref 24), o1, o2, none, some (.int x4)]) (st' := [.int ((s.1 24 31) + (zi 1)), .ref 24]) (h' := mk s) 5 rfl ?_
  refine Ev.step (pc' := 232) rfl (put_12_31 rfl) ?_
  refine Ev.run (pc' := 176) (ls' := [some (.ref 24), o1, o2, none, some (.int x4)]) (st' := []) (h' := mk (setI s 24 31 ((s.1 24 31) + (zi 1)))) 1 rfl ?_
  exact hrec176 x4 (setI s 24 31 ((s.1 24 31) + (zi 1))) _ _ _ h
def b202_190 (rec176 : Int32 → zS → Option (zS)) (rec190 : Int32 → zS → Option (zS)) (x4 : Int32) (s : zS) : Option (zS) := if x4 ≥ (s.1 24 30) then f202_222 rec176 x4 s else if mIx x4 12000 then if ¬ ((s.1 39 x4.toNatClampNeg) &&& (zi 192)) = (zi 128) then f202_222 rec176 x4 s else rec190 (x4 + zi 1) s else none
theorem kb202_190 {X : mX} {D : Nat} {rec176 : Int32 → zS → Option (zS)} {rec190 : Int32 → zS → Option (zS)} (hrec176 : ∀ (x4 : Int32) (s : zS) (r : zS) (o1 : Option Value) (o2 : Option Value), rec176 x4 s = some r → Ev X (D + 8) mm202 176 [some (.ref 24), o1, o2, none, some (.int x4)] [] (mk s) (encV r)) (hrec190 : ∀ (x4 : Int32) (s : zS) (r : zS) (o1 : Option Value) (o2 : Option Value), rec190 x4 s = some r → Ev X (D + 8) mm202 190 [some (.ref 24), o1, o2, none, some (.int x4)] [] (mk s) (encV r)) (x4 : Int32) (s : zS) (r : zS) (o1 : Option Value) (o2 : Option Value)  (h : b202_190 rec176 rec190 x4 s = some r) : Ev X (D + 8) mm202 190 [some (.ref 24), o1, o2, none, some (.int x4)] [] (mk s) (encV r) := by
  unfold b202_190 at h
  refine Ev.run (pc' := 196) (ls' := [some (.ref 24), o1, o2, none, some (.int x4)]) (st' := [.int (s.1 24 30), .int x4]) (h' := mk s) 3 rfl ?_
  refine Ev.icmp_ge (t := 222) rfl rfl (fun hb => ?_) (fun hb => ?_)
  · have h := (if_pos hb).symm.trans h
    exact k202_222 hrec176 x4 s _ _ _ h
  · have h := (if_neg hb).symm.trans h
    refine Ev.run (pc' := 205) (ls' := [some (.ref 24), o1, o2, none, some (.int x4)]) (st' := [.int x4, .ref 39]) (h' := mk s) 3 rfl ?_
    obtain ⟨hx, h⟩ := zif h
    refine Ev.step (pc' := 206) rfl (ald_b rfl hx) ?_
    refine Ev.run (pc' := 213) (ls' := [some (.ref 24), o1, o2, none, some (.int x4)]) (st' := [.int (zi 128), .int ((s.1 39 x4.toNatClampNeg) &&& (zi 192))]) (h' := mk s) 3 rfl ?_
    refine Ev.icmp_ne (t := 222) rfl rfl (fun hb => ?_) (fun hb => ?_)
    · have h := (if_pos hb).symm.trans h
      exact k202_222 hrec176 x4 s _ _ _ h
    · have h := (if_neg hb).symm.trans h
      refine Ev.run (pc' := 190) (ls' := [some (.ref 24), o1, o2, none, some (.int (x4 + zi 1))]) (st' := []) (h' := mk s) 2 rfl ?_
      exact hrec190 (x4 + zi 1) s _ _ _ h
def f202_190 (rec176 : Int32 → zS → Option (zS)) : Nat → Int32 → zS → Option (zS)
  | 0, _, _ => none
  | n + 1, x4, s => b202_190 rec176 (f202_190 rec176 n) x4 s
theorem k202_190 {X : mX} {D : Nat} {rec176 : Int32 → zS → Option (zS)} (hrec176 : ∀ (x4 : Int32) (s : zS) (r : zS) (o1 : Option Value) (o2 : Option Value), rec176 x4 s = some r → Ev X (D + 8) mm202 176 [some (.ref 24), o1, o2, none, some (.int x4)] [] (mk s) (encV r)) (n : Nat) : ∀ (x4 : Int32) (s : zS) (r : zS) (o1 : Option Value) (o2 : Option Value), f202_190 rec176 n x4 s = some r → Ev X (D + 8) mm202 190 [some (.ref 24), o1, o2, none, some (.int x4)] [] (mk s) (encV r) := by
  induction n with
  | zero => intro x4 s r o1 o2  h; cases h
  | succ n ih => intro x4 s r o1 o2  h; exact kb202_190  hrec176 ih x4 s r o1 o2  h
def b202_176 (rec176 : Int32 → zS → Option (zS)) (x4 : Int32) (s : zS) : Option (zS) := if (s.1 24 31) ≥ (s.1 24 17) then some (setI s 24 30 x4) else f202_190 rec176 zF (x4 + zi 1) s
theorem kb202_176 {X : mX} {D : Nat} {rec176 : Int32 → zS → Option (zS)} (hrec176 : ∀ (x4 : Int32) (s : zS) (r : zS) (o1 : Option Value) (o2 : Option Value), rec176 x4 s = some r → Ev X (D + 8) mm202 176 [some (.ref 24), o1, o2, none, some (.int x4)] [] (mk s) (encV r)) (x4 : Int32) (s : zS) (r : zS) (o1 : Option Value) (o2 : Option Value)  (h : b202_176 rec176 x4 s = some r) : Ev X (D + 8) mm202 176 [some (.ref 24), o1, o2, none, some (.int x4)] [] (mk s) (encV r) := by
  unfold b202_176 at h
  refine Ev.run (pc' := 184) (ls' := [some (.ref 24), o1, o2, none, some (.int x4)]) (st' := [.int (s.1 24 17), .int (s.1 24 31)]) (h' := mk s) 4 rfl ?_
  refine Ev.icmp_ge (t := 235) rfl rfl (fun hb => ?_) (fun hb => ?_)
  · have h := (if_pos hb).symm.trans h
    refine Ev.run (pc' := 238) (ls' := [some (.ref 24), o1, o2, none, some (.int x4)]) (st' := [.int x4, .ref 24]) (h' := mk s) 2 rfl ?_
    refine Ev.step (pc' := 241) rfl (put_12_30 rfl) ?_
    refine Ev.run (pc' := 340) (ls' := [some (.ref 24), o1, o2, none, some (.int x4)]) (st' := []) (h' := mk (setI s 24 30 x4)) 1 rfl ?_
    cases h
    exact Ev.fin rfl rfl
  · have h := (if_neg hb).symm.trans h
    refine Ev.run (pc' := 190) (ls' := [some (.ref 24), o1, o2, none, some (.int (x4 + zi 1))]) (st' := []) (h' := mk s) 1 rfl ?_
    exact k202_190 hrec176 zF (x4 + zi 1) s _ _ _ h
def f202_176  : Nat → Int32 → zS → Option (zS)
  | 0, _, _ => none
  | n + 1, x4, s => b202_176 (f202_176 n) x4 s
theorem k202_176 {X : mX} {D : Nat}   (n : Nat) : ∀ (x4 : Int32) (s : zS) (r : zS) (o1 : Option Value) (o2 : Option Value), f202_176  n x4 s = some r → Ev X (D + 8) mm202 176 [some (.ref 24), o1, o2, none, some (.int x4)] [] (mk s) (encV r) := by
  induction n with
  | zero => intro x4 s r o1 o2  h; cases h
  | succ n ih => intro x4 s r o1 o2  h; exact kb202_176  ih x4 s r o1 o2  h
def f202_150   (s : zS) : Option (zS) := if (s.1 24 17) < zi 0 then some s else if (s.1 24 31) ≤ (s.1 24 17) then some s else f202_176 zF (zi 0) (setI s 24 31 (zi 0))
theorem k202_150 {X : mX} {D : Nat}    (s : zS) (r : zS) (o1 : Option Value) (o2 : Option Value) (o4 : Option Value)  (h : f202_150   s = some r) : Ev X (D + 8) mm202 150 [some (.ref 24), o1, o2, none, o4] [] (mk s) (encV r) := by
  unfold f202_150 at h
  refine Ev.run (pc' := 154) (ls' := [some (.ref 24), o1, o2, none, o4]) (st' := [.int (s.1 24 17)]) (h' := mk s) 2 rfl ?_
  refine Ev.if_lt (t := 340) rfl rfl (fun hb => ?_) (fun hb => ?_)
  · have h := (if_pos hb).symm.trans h
    cases h
    exact Ev.fin rfl rfl
  · have h := (if_neg hb).symm.trans h
    refine Ev.run (pc' := 165) (ls' := [some (.ref 24), o1, o2, none, o4]) (st' := [.int (s.1 24 17), .int (s.1 24 31)]) (h' := mk s) 4 rfl ?_
    refine Ev.icmp_le (t := 340) rfl rfl (fun hb => ?_) (fun hb => ?_)
    · have h := (if_pos hb).symm.trans h
      cases h
      exact Ev.fin rfl rfl
    · have h := (if_neg hb).symm.trans h
      refine Ev.run (pc' := 170) (ls' := [some (.ref 24), o1, o2, none, o4]) (st' := [.int (zi 0), .ref 24]) (h' := mk s) 2 rfl ?_
      refine Ev.step (pc' := 173) rfl (put_12_31 rfl) ?_
      refine Ev.run (pc' := 176) (ls' := [some (.ref 24), o1, o2, none, some (.int (zi 0))]) (st' := []) (h' := mk (setI s 24 31 (zi 0))) 2 rfl ?_
      exact k202_176 zF (zi 0) (setI s 24 31 (zi 0)) _ _ _ h
def f202_124  (d1 : Nat) (s : zS) : Option (zS) := zb0 (f176 d1 s) (fun s1 => f202_150 s1)
theorem k202_124 {X : mX} {D : Nat}   (d1 : Nat) (s : zS) (r : zS) (o1 : Option Value) (o2 : Option Value) (o4 : Option Value) (hd1 : d1 < 78) (h : f202_124  d1 s = some r) : Ev X (D + 8) mm202 124 [some (.ref 24), o1, o2, none, o4] [.ref (mRO + 3 + 2 * d1), .ref 24] (mk s) (encV r) := by
  unfold f202_124 at h
  obtain ⟨s1, hq, h⟩ := zb0_some h
  refine Ev.call (M' := mm176) (v := none) (h' := mk s1) rfl rfl rfl (Nat.le_of_ble_eq_true rfl) (k176 hd1 hq) ?_
  refine Ev.run (pc' := 150) (ls' := [some (.ref 24), o1, o2, none, o4]) (st' := []) (h' := mk s1) 1 rfl ?_
  exact k202_150 s1 _ _ _ _ h
def f202_90  (x1 : Int32) (x2 : Int64) (s : zS) : Option (zS) := if ¬ (s.1 24 18) = (zi 98) then if ¬ x1 = zi 0 then zb0 (f203 x1 x2 s) (fun s1 => f202_150 s1) else zb0 (f176 62 s) (fun s2 => f202_150 s2) else if x1 = zi 0 then f202_124 60 s else if ¬ x1 = (zi 1) then f202_124 61 s else if ¬ x2 = (zl 0) then f202_124 61 s else f202_124 60 s
theorem k202_90 {X : mX} {D : Nat}   (x1 : Int32) (x2 : Int64) (s : zS) (r : zS) (o4 : Option Value)  (h : f202_90  x1 x2 s = some r) : Ev X (D + 8) mm202 90 [some (.ref 24), some (.int x1), some (.long x2), none, o4] [] (mk s) (encV r) := by
  unfold f202_90 at h
  refine Ev.run (pc' := 96) (ls' := [some (.ref 24), some (.int x1), some (.long x2), none, o4]) (st' := [.int (zi 98), .int (s.1 24 18)]) (h' := mk s) 3 rfl ?_
  refine Ev.icmp_ne (t := 130) rfl rfl (fun hb => ?_) (fun hb => ?_)
  · have h := (if_pos hb).symm.trans h
    refine Ev.run (pc' := 131) (ls' := [some (.ref 24), some (.int x1), some (.long x2), none, o4]) (st' := [.int x1]) (h' := mk s) 1 rfl ?_
    refine Ev.if_ne (t := 144) rfl rfl (fun hb => ?_) (fun hb => ?_)
    · have h := (if_pos hb).symm.trans h
      refine Ev.run (pc' := 147) (ls' := [some (.ref 24), some (.int x1), some (.long x2), none, o4]) (st' := [.long x2, .int x1, .ref 24]) (h' := mk s) 3 rfl ?_
      obtain ⟨s1, hq, h⟩ := zb0_some h
      refine Ev.call (M' := mm203) (v := none) (h' := mk s1) rfl rfl rfl (Nat.le_of_ble_eq_true rfl) (k203 hq) ?_
      exact k202_150 s1 _ _ _ _ h
    · have h := (if_neg hb).symm.trans h
      refine Ev.run (pc' := 138) (ls' := [some (.ref 24), some (.int x1), some (.long x2), none, o4]) (st' := [.ref (mRO + 3 + 2 * 62), .ref 24]) (h' := mk s) 2 rfl ?_
      obtain ⟨s2, hq, h⟩ := zb0_some h
      refine Ev.call (M' := mm176) (v := none) (h' := mk s2) rfl rfl rfl (Nat.le_of_ble_eq_true rfl) (k176 (by decide) hq) ?_
      refine Ev.run (pc' := 150) (ls' := [some (.ref 24), some (.int x1), some (.long x2), none, o4]) (st' := []) (h' := mk s2) 1 rfl ?_
      exact k202_150 s2 _ _ _ _ h
  · have h := (if_neg hb).symm.trans h
    refine Ev.run (pc' := 101) (ls' := [some (.ref 24), some (.int x1), some (.long x2), none, o4]) (st' := [.int x1, .ref 24]) (h' := mk s) 2 rfl ?_
    refine Ev.if_eq (t := 115) rfl rfl (fun hb => ?_) (fun hb => ?_)
    · have h := (if_pos hb).symm.trans h
      refine Ev.run (pc' := 124) (ls' := [some (.ref 24), some (.int x1), some (.long x2), none, o4]) (st' := [.ref (mRO + 3 + 2 * 60), .ref 24]) (h' := mk s) 2 rfl ?_
      exact k202_124 60 s _ _ _ _ (by decide) h
    · have h := (if_neg hb).symm.trans h
      refine Ev.run (pc' := 106) (ls' := [some (.ref 24), some (.int x1), some (.long x2), none, o4]) (st' := [.int (zi 1), .int x1, .ref 24]) (h' := mk s) 2 rfl ?_
      refine Ev.icmp_ne (t := 121) rfl rfl (fun hb => ?_) (fun hb => ?_)
      · have h := (if_pos hb).symm.trans h
        refine Ev.run (pc' := 124) (ls' := [some (.ref 24), some (.int x1), some (.long x2), none, o4]) (st' := [.ref (mRO + 3 + 2 * 61), .ref 24]) (h' := mk s) 1 rfl ?_
        exact k202_124 61 s _ _ _ _ (by decide) h
      · have h := (if_neg hb).symm.trans h
        refine Ev.run (pc' := 112) (ls' := [some (.ref 24), some (.int x1), some (.long x2), none, o4]) (st' := [.int (lg_cmp x2 (zl 0)), .ref 24]) (h' := mk s) 3 rfl ?_
        refine Ev.ifl_ne (t := 121) rfl rfl (fun hb => ?_) (fun hb => ?_)
        · have h := (if_pos hb).symm.trans h
          refine Ev.run (pc' := 124) (ls' := [some (.ref 24), some (.int x1), some (.long x2), none, o4]) (st' := [.ref (mRO + 3 + 2 * 61), .ref 24]) (h' := mk s) 1 rfl ?_
          exact k202_124 61 s _ _ _ _ (by decide) h
        · have h := (if_neg hb).symm.trans h
          refine Ev.run (pc' := 124) (ls' := [some (.ref 24), some (.int x1), some (.long x2), none, o4]) (st' := [.ref (mRO + 3 + 2 * 60), .ref 24]) (h' := mk s) 2 rfl ?_
          exact k202_124 60 s _ _ _ _ (by decide) h
def f202_49  (x1 : Int32) (y0 : Int64) (s : zS) : Option (zS) := if ¬ (s.1 24 18) = (zi 37) then if (s.1 24 18) = (zi 98) then f202_90 x1 y0 s else if x1 = zi 0 then f202_90 x1 y0 s else if ¬ (s.1 24 18) = (zi 115) then if ¬ (s.1 24 18) = (zi 99) then if ¬ (s.1 24 18) = (zi 100) then if ¬ (s.1 24 18) = (zi 111) then if ¬ (s.1 24 18) = (zi 120) then if ¬ (s.1 24 18) = (zi 116) then zb0 (f184 s) (fun s1 => some s1) else zb0 (ftime1 (s.1 24 19) s) (fun s2 => some s2) else zb0 (f183 (zi 16) s) (fun s3 => some s3) else zb0 (f183 (zi 8) s) (fun s4 => some s4) else zb0 (f183 (zi 10) s) (fun s5 => some s5) else zb0 (f178 (zL2I y0) s) (fun s6 => some s6) else f202_90 x1 y0 s else zb0 (f175 (zi 37) s) (fun s7 => some s7)
theorem k202_49 {X : mX} {D : Nat}   (x1 : Int32) (y0 : Int64) (s : zS) (r : zS) (o2 : Option Value) (o3 : Option Value) (o4 : Option Value)  (h : f202_49  x1 y0 s = some r) : Ev X (D + 8) mm202 49 [some (.ref 24), some (.int x1), o2, o3, o4] [.long y0] (mk s) (encV r) := by
  unfold f202_49 at h
  refine Ev.run (pc' := 56) (ls' := [some (.ref 24), some (.int x1), some (.long y0), none, o4]) (st' := [.int (zi 37), .int (s.1 24 18)]) (h' := mk s) 4 rfl ?_
  refine Ev.icmp_ne (t := 68) rfl rfl (fun hb => ?_) (fun hb => ?_)
  · have h := (if_pos hb).symm.trans h
    refine Ev.run (pc' := 74) (ls' := [some (.ref 24), some (.int x1), some (.long y0), none, o4]) (st' := [.int (zi 98), .int (s.1 24 18)]) (h' := mk s) 3 rfl ?_
    refine Ev.icmp_eq (t := 90) rfl rfl (fun hb => ?_) (fun hb => ?_)
    · have h := (if_pos hb).symm.trans h
      exact k202_90 x1 y0 s _ _ h
    · have h := (if_neg hb).symm.trans h
      refine Ev.run (pc' := 78) (ls' := [some (.ref 24), some (.int x1), some (.long y0), none, o4]) (st' := [.int x1]) (h' := mk s) 1 rfl ?_
      refine Ev.if_eq (t := 90) rfl rfl (fun hb => ?_) (fun hb => ?_)
      · have h := (if_pos hb).symm.trans h
        exact k202_90 x1 y0 s _ _ h
      · have h := (if_neg hb).symm.trans h
        refine Ev.run (pc' := 87) (ls' := [some (.ref 24), some (.int x1), some (.long y0), none, o4]) (st' := [.int (zi 115), .int (s.1 24 18)]) (h' := mk s) 3 rfl ?_
        refine Ev.icmp_ne (t := 244) rfl rfl (fun hb => ?_) (fun hb => ?_)
        · have h := (if_pos hb).symm.trans h
          refine Ev.run (pc' := 250) (ls' := [some (.ref 24), some (.int x1), some (.long y0), none, o4]) (st' := [.int (zi 99), .int (s.1 24 18)]) (h' := mk s) 3 rfl ?_
          refine Ev.icmp_ne (t := 262) rfl rfl (fun hb => ?_) (fun hb => ?_)
          · have h := (if_pos hb).symm.trans h
            refine Ev.run (pc' := 268) (ls' := [some (.ref 24), some (.int x1), some (.long y0), none, o4]) (st' := [.int (zi 100), .int (s.1 24 18)]) (h' := mk s) 3 rfl ?_
            refine Ev.icmp_ne (t := 280) rfl rfl (fun hb => ?_) (fun hb => ?_)
            · have h := (if_pos hb).symm.trans h
              refine Ev.run (pc' := 286) (ls' := [some (.ref 24), some (.int x1), some (.long y0), none, o4]) (st' := [.int (zi 111), .int (s.1 24 18)]) (h' := mk s) 3 rfl ?_
              refine Ev.icmp_ne (t := 298) rfl rfl (fun hb => ?_) (fun hb => ?_)
              · have h := (if_pos hb).symm.trans h
                refine Ev.run (pc' := 304) (ls' := [some (.ref 24), some (.int x1), some (.long y0), none, o4]) (st' := [.int (zi 120), .int (s.1 24 18)]) (h' := mk s) 3 rfl ?_
                refine Ev.icmp_ne (t := 316) rfl rfl (fun hb => ?_) (fun hb => ?_)
                · have h := (if_pos hb).symm.trans h
                  refine Ev.run (pc' := 322) (ls' := [some (.ref 24), some (.int x1), some (.long y0), none, o4]) (st' := [.int (zi 116), .int (s.1 24 18)]) (h' := mk s) 3 rfl ?_
                  refine Ev.icmp_ne (t := 336) rfl rfl (fun hb => ?_) (fun hb => ?_)
                  · have h := (if_pos hb).symm.trans h
                    refine Ev.run (pc' := 337) (ls' := [some (.ref 24), some (.int x1), some (.long y0), none, o4]) (st' := [.ref 24]) (h' := mk s) 1 rfl ?_
                    obtain ⟨s1, hq, h⟩ := zb0_some h
                    refine Ev.call (M' := mm184) (v := none) (h' := mk s1) rfl rfl rfl (Nat.le_of_ble_eq_true rfl) (k184 hq) ?_
                    cases h
                    exact Ev.fin rfl rfl
                  · have h := (if_neg hb).symm.trans h
                    refine Ev.run (pc' := 330) (ls' := [some (.ref 24), some (.int x1), some (.long y0), none, o4]) (st' := [.int (s.1 24 19), .ref 24]) (h' := mk s) 3 rfl ?_
                    obtain ⟨s2, hq, h⟩ := zb0_some h
                    refine Ev.call (M' := mm192) (v := none) (h' := mk s2) rfl rfl rfl (Nat.le_of_ble_eq_true rfl) (ktime1 hq) ?_
                    refine Ev.run (pc' := 340) (ls' := [some (.ref 24), some (.int x1), some (.long y0), none, o4]) (st' := []) (h' := mk s2) 1 rfl ?_
                    cases h
                    exact Ev.fin rfl rfl
                · have h := (if_neg hb).symm.trans h
                  refine Ev.run (pc' := 310) (ls' := [some (.ref 24), some (.int x1), some (.long y0), none, o4]) (st' := [.int (zi 16), .ref 24]) (h' := mk s) 2 rfl ?_
                  obtain ⟨s3, hq, h⟩ := zb0_some h
                  refine Ev.call (M' := mm183) (v := none) (h' := mk s3) rfl rfl rfl (Nat.le_of_ble_eq_true rfl) (k183 hq) ?_
                  refine Ev.run (pc' := 340) (ls' := [some (.ref 24), some (.int x1), some (.long y0), none, o4]) (st' := []) (h' := mk s3) 1 rfl ?_
                  cases h
                  exact Ev.fin rfl rfl
              · have h := (if_neg hb).symm.trans h
                refine Ev.run (pc' := 292) (ls' := [some (.ref 24), some (.int x1), some (.long y0), none, o4]) (st' := [.int (zi 8), .ref 24]) (h' := mk s) 2 rfl ?_
                obtain ⟨s4, hq, h⟩ := zb0_some h
                refine Ev.call (M' := mm183) (v := none) (h' := mk s4) rfl rfl rfl (Nat.le_of_ble_eq_true rfl) (k183 hq) ?_
                refine Ev.run (pc' := 340) (ls' := [some (.ref 24), some (.int x1), some (.long y0), none, o4]) (st' := []) (h' := mk s4) 1 rfl ?_
                cases h
                exact Ev.fin rfl rfl
            · have h := (if_neg hb).symm.trans h
              refine Ev.run (pc' := 274) (ls' := [some (.ref 24), some (.int x1), some (.long y0), none, o4]) (st' := [.int (zi 10), .ref 24]) (h' := mk s) 2 rfl ?_
              obtain ⟨s5, hq, h⟩ := zb0_some h
              refine Ev.call (M' := mm183) (v := none) (h' := mk s5) rfl rfl rfl (Nat.le_of_ble_eq_true rfl) (k183 hq) ?_
              refine Ev.run (pc' := 340) (ls' := [some (.ref 24), some (.int x1), some (.long y0), none, o4]) (st' := []) (h' := mk s5) 1 rfl ?_
              cases h
              exact Ev.fin rfl rfl
          · have h := (if_neg hb).symm.trans h
            refine Ev.run (pc' := 256) (ls' := [some (.ref 24), some (.int x1), some (.long y0), none, o4]) (st' := [.int (zL2I y0), .ref 24]) (h' := mk s) 3 rfl ?_
            obtain ⟨s6, hq, h⟩ := zb0_some h
            refine Ev.call (M' := mm178) (v := none) (h' := mk s6) rfl rfl rfl (Nat.le_of_ble_eq_true rfl) (k178 hq) ?_
            refine Ev.run (pc' := 340) (ls' := [some (.ref 24), some (.int x1), some (.long y0), none, o4]) (st' := []) (h' := mk s6) 1 rfl ?_
            cases h
            exact Ev.fin rfl rfl
        · have h := (if_neg hb).symm.trans h
          exact k202_90 x1 y0 s _ _ h
  · have h := (if_neg hb).symm.trans h
    refine Ev.run (pc' := 62) (ls' := [some (.ref 24), some (.int x1), some (.long y0), none, o4]) (st' := [.int (zi 37), .ref 24]) (h' := mk s) 2 rfl ?_
    obtain ⟨s7, hq, h⟩ := zb0_some h
    refine Ev.call (M' := mm175) (v := none) (h' := mk s7) rfl rfl rfl (Nat.le_of_ble_eq_true rfl) (k175 hq) ?_
    refine Ev.run (pc' := 340) (ls' := [some (.ref 24), some (.int x1), some (.long y0), none, o4]) (st' := []) (h' := mk s7) 1 rfl ?_
    cases h
    exact Ev.fin rfl rfl
def f202_31  (y0 : Int32) (s : zS) : Option (zS) := if y0 ≥ zi 0 then if mIx (s.1 24 35) 24 then f202_49 y0 (s.2.1 31 ((s.1 24 35).toNatClampNeg)) s else none else f202_49 y0 (zl 0) s
theorem k202_31 {X : mX} {D : Nat}   (y0 : Int32) (s : zS) (r : zS) (o1 : Option Value) (o2 : Option Value) (o3 : Option Value) (o4 : Option Value)  (h : f202_31  y0 s = some r) : Ev X (D + 8) mm202 31 [some (.ref 24), o1, o2, o3, o4] [.int y0] (mk s) (encV r) := by
  unfold f202_31 at h
  refine Ev.run (pc' := 33) (ls' := [some (.ref 24), some (.int y0), o2, o3, o4]) (st' := [.int y0]) (h' := mk s) 2 rfl ?_
  refine Ev.if_ge (t := 40) rfl rfl (fun hb => ?_) (fun hb => ?_)
  · have h := (if_pos hb).symm.trans h
    refine Ev.run (pc' := 48) (ls' := [some (.ref 24), some (.int y0), o2, o3, o4]) (st' := [.int (s.1 24 35), .ref 31]) (h' := mk s) 4 rfl ?_
    obtain ⟨hx, h⟩ := zif h
    refine Ev.step (pc' := 49) rfl (ald_l rfl hx) ?_
    exact k202_49 y0 (s.2.1 31 ((s.1 24 35).toNatClampNeg)) s _ _ _ _ h
  · have h := (if_neg hb).symm.trans h
    refine Ev.run (pc' := 49) (ls' := [some (.ref 24), some (.int y0), o2, o3, o4]) (st' := [.long (zl 0)]) (h' := mk s) 2 rfl ?_
    exact k202_49 y0 (zl 0) s _ _ _ _ h
def f202   (s : zS) : Option (zS) := if (s.1 24 18) = (zi 37) then f202_31 (zi (-1)) s else if ¬ (s.1 24 18) = (zi 110) then if mIx (s.1 24 35) 24 then f202_31 (s.1 29 ((s.1 24 35).toNatClampNeg)) s else none else f202_31 (zi (-1)) s
theorem k202 {X : mX} {D : Nat}  {s : zS} {r : zS}  (h : f202  s = some r) : Ev X (D + 8) mm202 0 [some (.ref 24), none, none, none, none] [] (mk s) (encV r) := by
  unfold f202 at h
  refine Ev.run (pc' := 6) (ls' := [some (.ref 24), none, none, none, none]) (st' := [.int (zi 37), .int (s.1 24 18)]) (h' := mk s) 3 rfl ?_
  refine Ev.icmp_eq (t := 18) rfl rfl (fun hb => ?_) (fun hb => ?_)
  · have h := (if_pos hb).symm.trans h
    refine Ev.run (pc' := 31) (ls' := [some (.ref 24), none, none, none, none]) (st' := [.int (zi (-1))]) (h' := mk s) 2 rfl ?_
    exact k202_31 (zi (-1)) s _ _ _ _ _ h
  · have h := (if_neg hb).symm.trans h
    refine Ev.run (pc' := 15) (ls' := [some (.ref 24), none, none, none, none]) (st' := [.int (zi 110), .int (s.1 24 18)]) (h' := mk s) 3 rfl ?_
    refine Ev.icmp_ne (t := 22) rfl rfl (fun hb => ?_) (fun hb => ?_)
    · have h := (if_pos hb).symm.trans h
      refine Ev.run (pc' := 30) (ls' := [some (.ref 24), none, none, none, none]) (st' := [.int (s.1 24 35), .ref 29]) (h' := mk s) 4 rfl ?_
      obtain ⟨hx, h⟩ := zif h
      refine Ev.step (pc' := 31) rfl (ald_i rfl hx) ?_
      exact k202_31 (s.1 29 ((s.1 24 35).toNatClampNeg)) s _ _ _ _ _ h
    · have h := (if_neg hb).symm.trans h
      refine Ev.run (pc' := 31) (ls' := [some (.ref 24), none, none, none, none]) (st' := [.int (zi (-1))]) (h' := mk s) 2 rfl ?_
      exact k202_31 (zi (-1)) s _ _ _ _ _ h
/-! 204 FModel.one()I -/
def b204_244 (rec244 : Int32 → Int32 → zS → Option (Int32 × zS)) (x2 : Int32) (x3 : Int32) (s : zS) : Option (Int32 × zS) := if x3 ≥ x2 then some (zi 0, s) else if mIx (s.1 24 6) 10000 then rec244 x2 (x3 + zi 1) (setB (setI s 24 6 ((s.1 24 6) + (zi 1))) 27 ((s.1 24 6).toNatClampNeg) (zI2B (zi 32))) else none
theorem kb204_244 {X : mX} {D : Nat} {rec244 : Int32 → Int32 → zS → Option (Int32 × zS)} (hrec244 : ∀ (x2 : Int32) (x3 : Int32) (s : zS) (r : Int32 × zS) (o1 : Option Value) (o4 : Option Value), rec244 x2 x3 s = some r → Ev X (D + 9) mm204 244 [some (.ref 24), o1, some (.int x2), some (.int x3), o4] [] (mk s) (encI r)) (x2 : Int32) (x3 : Int32) (s : zS) (r : Int32 × zS) (o1 : Option Value) (o4 : Option Value)  (h : b204_244 rec244 x2 x3 s = some r) : Ev X (D + 9) mm204 244 [some (.ref 24), o1, some (.int x2), some (.int x3), o4] [] (mk s) (encI r) := by
  unfold b204_244 at h
  refine Ev.run (pc' := 246) (ls' := [some (.ref 24), o1, some (.int x2), some (.int x3), o4]) (st' := [.int x2, .int x3]) (h' := mk s) 2 rfl ?_
  refine Ev.icmp_ge (t := 273) rfl rfl (fun hb => ?_) (fun hb => ?_)
  · have h := (if_pos hb).symm.trans h
    refine Ev.run (pc' := 274) (ls' := [some (.ref 24), o1, some (.int x2), some (.int x3), o4]) (st' := [.int (zi 0)]) (h' := mk s) 1 rfl ?_
    cases h
    exact Ev.fin rfl rfl
  · have h := (if_neg hb).symm.trans h
    refine Ev.run (pc' := 261) (ls' := [some (.ref 24), o1, some (.int x2), some (.int x3), o4]) (st' := [.int ((s.1 24 6) + (zi 1)), .ref 24, .int (s.1 24 6), .ref 27]) (h' := mk s) 8 rfl ?_
    refine Ev.step (pc' := 264) rfl (put_12_6 rfl) ?_
    refine Ev.run (pc' := 266) (ls' := [some (.ref 24), o1, some (.int x2), some (.int x3), o4]) (st' := [.int (zi 32), .int (s.1 24 6), .ref 27]) (h' := mk (setI s 24 6 ((s.1 24 6) + (zi 1)))) 1 rfl ?_
    obtain ⟨hx, h⟩ := zif h
    refine Ev.step (pc' := 267) rfl (ast_27 hx) ?_
    refine Ev.run (pc' := 244) (ls' := [some (.ref 24), o1, some (.int x2), some (.int (x3 + zi 1)), o4]) (st' := []) (h' := mk (setB (setI s 24 6 ((s.1 24 6) + (zi 1))) 27 ((s.1 24 6).toNatClampNeg) (zI2B (zi 32)))) 2 rfl ?_
    exact hrec244 x2 (x3 + zi 1) (setB (setI s 24 6 ((s.1 24 6) + (zi 1))) 27 ((s.1 24 6).toNatClampNeg) (zI2B (zi 32))) _ _ _ h
def f204_244  : Nat → Int32 → Int32 → zS → Option (Int32 × zS)
  | 0, _, _, _ => none
  | n + 1, x2, x3, s => b204_244 (f204_244 n) x2 x3 s
theorem k204_244 {X : mX} {D : Nat}   (n : Nat) : ∀ (x2 : Int32) (x3 : Int32) (s : zS) (r : Int32 × zS) (o1 : Option Value) (o4 : Option Value), f204_244  n x2 x3 s = some r → Ev X (D + 9) mm204 244 [some (.ref 24), o1, some (.int x2), some (.int x3), o4] [] (mk s) (encI r) := by
  induction n with
  | zero => intro x2 x3 s r o1 o4  h; cases h
  | succ n ih => intro x2 x3 s r o1 o4  h; exact kb204_244  ih x2 x3 s r o1 o4  h
def f204_223 (rec161 : Int32 → Int32 → zS → Option (Int32 × zS)) (x2 : Int32) (x3 : Int32) (y1 : Int32) (y2 : Int32) (s : zS) : Option (Int32 × zS) := if mIx y1 10000 then rec161 x2 (x3 + zi 1) (setB s 27 y1.toNatClampNeg (zI2B (zI2B y2))) else none
theorem k204_223 {X : mX} {D : Nat} {rec161 : Int32 → Int32 → zS → Option (Int32 × zS)} (hrec161 : ∀ (x2 : Int32) (x3 : Int32) (s : zS) (r : Int32 × zS) (o1 : Option Value) (o4 : Option Value), rec161 x2 x3 s = some r → Ev X (D + 9) mm204 161 [some (.ref 24), o1, some (.int x2), some (.int x3), o4] [] (mk s) (encI r)) (x2 : Int32) (x3 : Int32) (y1 : Int32) (y2 : Int32) (s : zS) (r : Int32 × zS) (o1 : Option Value) (o4 : Option Value)  (h : f204_223 rec161 x2 x3 y1 y2 s = some r) : Ev X (D + 9) mm204 223 [some (.ref 24), o1, some (.int x2), some (.int x3), o4] [.int y2, .int y1, .ref 27] (mk s) (encI r) := by
  unfold f204_223 at h
  refine Ev.run (pc' := 224) (ls' := [some (.ref 24), o1, some (.int x2), some (.int x3), o4]) (st' := [.int (zI2B y2), .int y1, .ref 27]) (h' := mk s) 1 rfl ?_
  obtain ⟨hx, h⟩ := zif h
  refine Ev.step (pc' := 225) rfl (ast_27 hx) ?_
  refine Ev.run (pc' := 161) (ls' := [some (.ref 24), o1, some (.int x2), some (.int (x3 + zi 1)), o4]) (st' := []) (h' := mk (setB s 27 y1.toNatClampNeg (zI2B (zI2B y2)))) 2 rfl ?_
  exact hrec161 x2 (x3 + zi 1) (setB s 27 y1.toNatClampNeg (zI2B (zI2B y2))) _ _ _ h
def b204_161 (rec161 : Int32 → Int32 → zS → Option (Int32 × zS)) (x2 : Int32) (x3 : Int32) (s : zS) : Option (Int32 × zS) := if x3 ≥ (s.1 24 30) then if (r180 (s.1 24 15) (zi 1) s) = zi 0 then some (zi 0, s) else f204_244 zF x2 (zi 0) s else if mIx x3 12000 then if (s.1 24 22) = zi 0 then f204_223 rec161 x2 x3 (s.1 24 6) (s.1 39 x3.toNatClampNeg) (setI s 24 6 ((s.1 24 6) + (zi 1))) else if (s.1 39 x3.toNatClampNeg) < (zi 97) then f204_223 rec161 x2 x3 (s.1 24 6) (s.1 39 x3.toNatClampNeg) (setI s 24 6 ((s.1 24 6) + (zi 1))) else if (s.1 39 x3.toNatClampNeg) > (zi 122) then f204_223 rec161 x2 x3 (s.1 24 6) (s.1 39 x3.toNatClampNeg) (setI s 24 6 ((s.1 24 6) + (zi 1))) else f204_223 rec161 x2 x3 (s.1 24 6) ((s.1 39 x3.toNatClampNeg) - (zi 32)) (setI s 24 6 ((s.1 24 6) + (zi 1))) else none
theorem kb204_161 {X : mX} {D : Nat} {rec161 : Int32 → Int32 → zS → Option (Int32 × zS)} (hrec161 : ∀ (x2 : Int32) (x3 : Int32) (s : zS) (r : Int32 × zS) (o1 : Option Value) (o4 : Option Value), rec161 x2 x3 s = some r → Ev X (D + 9) mm204 161 [some (.ref 24), o1, some (.int x2), some (.int x3), o4] [] (mk s) (encI r)) (x2 : Int32) (x3 : Int32) (s : zS) (r : Int32 × zS) (o1 : Option Value) (o4 : Option Value)  (h : b204_161 rec161 x2 x3 s = some r) : Ev X (D + 9) mm204 161 [some (.ref 24), o1, some (.int x2), some (.int x3), o4] [] (mk s) (encI r) := by
  unfold b204_161 at h
  refine Ev.run (pc' := 166) (ls' := [some (.ref 24), o1, some (.int x2), some (.int x3), o4]) (st' := [.int (s.1 24 30), .int x3]) (h' := mk s) 3 rfl ?_
  refine Ev.icmp_ge (t := 231) rfl rfl (fun hb => ?_) (fun hb => ?_)
  · have h := (if_pos hb).symm.trans h
    refine Ev.run (pc' := 236) (ls' := [some (.ref 24), o1, some (.int x2), some (.int x3), o4]) (st' := [.int (zi 1), .int (s.1 24 15)]) (h' := mk s) 3 rfl ?_
    refine Ev.call (M' := mm180) (v := some (.int (r180 (s.1 24 15) (zi 1) s))) (h' := mk s) rfl rfl rfl (Nat.le_of_ble_eq_true rfl) (k180 (x0 := (s.1 24 15)) (x1 := (zi 1)) (s := s)  rfl) ?_
    refine Ev.if_eq (t := 273) rfl rfl (fun hb => ?_) (fun hb => ?_)
    · have h := (if_pos hb).symm.trans h
      refine Ev.run (pc' := 274) (ls' := [some (.ref 24), o1, some (.int x2), some (.int x3), o4]) (st' := [.int (zi 0)]) (h' := mk s) 1 rfl ?_
      cases h
      exact Ev.fin rfl rfl
    · have h := (if_neg hb).symm.trans h
      refine Ev.run (pc' := 244) (ls' := [some (.ref 24), o1, some (.int x2), some (.int (zi 0)), o4]) (st' := []) (h' := mk s) 2 rfl ?_
      exact k204_244 zF x2 (zi 0) s _ _ _ h
  · have h := (if_neg hb).symm.trans h
    refine Ev.run (pc' := 174) (ls' := [some (.ref 24), o1, some (.int x2), some (.int x3), o4]) (st' := [.int x3, .ref 39]) (h' := mk s) 3 rfl ?_
    obtain ⟨hx, h⟩ := zif h
    refine Ev.step (pc' := 175) rfl (ald_b rfl hx) ?_
    refine Ev.run (pc' := 189) (ls' := [some (.ref 24), o1, some (.int x2), some (.int x3), some (.int (s.1 39 x3.toNatClampNeg))]) (st' := [.int ((s.1 24 6) + (zi 1)), .ref 24, .int (s.1 24 6), .ref 27]) (h' := mk s) 9 rfl ?_
    refine Ev.step (pc' := 192) rfl (put_12_6 rfl) ?_
    refine Ev.run (pc' := 196) (ls' := [some (.ref 24), o1, some (.int x2), some (.int x3), some (.int (s.1 39 x3.toNatClampNeg))]) (st' := [.int (s.1 24 22), .int (s.1 24 6), .ref 27]) (h' := mk (setI s 24 6 ((s.1 24 6) + (zi 1)))) 2 rfl ?_
    refine Ev.if_eq (t := 221) rfl rfl (fun hb => ?_) (fun hb => ?_)
    · have h := (if_pos hb).symm.trans h
      refine Ev.run (pc' := 223) (ls' := [some (.ref 24), o1, some (.int x2), some (.int x3), some (.int (s.1 39 x3.toNatClampNeg))]) (st' := [.int (s.1 39 x3.toNatClampNeg), .int (s.1 24 6), .ref 27]) (h' := mk (setI s 24 6 ((s.1 24 6) + (zi 1)))) 1 rfl ?_
      exact k204_223 hrec161 x2 x3 (s.1 24 6) (s.1 39 x3.toNatClampNeg) (setI s 24 6 ((s.1 24 6) + (zi 1))) _ _ _ h
    · have h := (if_neg hb).symm.trans h
      refine Ev.run (pc' := 203) (ls' := [some (.ref 24), o1, some (.int x2), some (.int x3), some (.int (s.1 39 x3.toNatClampNeg))]) (st' := [.int (zi 97), .int (s.1 39 x3.toNatClampNeg), .int (s.1 24 6), .ref 27]) (h' := mk (setI s 24 6 ((s.1 24 6) + (zi 1)))) 2 rfl ?_
      refine Ev.icmp_lt (t := 221) rfl rfl (fun hb => ?_) (fun hb => ?_)
      · have h := (if_pos hb).symm.trans h
        refine Ev.run (pc' := 223) (ls' := [some (.ref 24), o1, some (.int x2), some (.int x3), some (.int (s.1 39 x3.toNatClampNeg))]) (st' := [.int (s.1 39 x3.toNatClampNeg), .int (s.1 24 6), .ref 27]) (h' := mk (setI s 24 6 ((s.1 24 6) + (zi 1)))) 1 rfl ?_
        exact k204_223 hrec161 x2 x3 (s.1 24 6) (s.1 39 x3.toNatClampNeg) (setI s 24 6 ((s.1 24 6) + (zi 1))) _ _ _ h
      · have h := (if_neg hb).symm.trans h
        refine Ev.run (pc' := 210) (ls' := [some (.ref 24), o1, some (.int x2), some (.int x3), some (.int (s.1 39 x3.toNatClampNeg))]) (st' := [.int (zi 122), .int (s.1 39 x3.toNatClampNeg), .int (s.1 24 6), .ref 27]) (h' := mk (setI s 24 6 ((s.1 24 6) + (zi 1)))) 2 rfl ?_
        refine Ev.icmp_gt (t := 221) rfl rfl (fun hb => ?_) (fun hb => ?_)
        · have h := (if_pos hb).symm.trans h
          refine Ev.run (pc' := 223) (ls' := [some (.ref 24), o1, some (.int x2), some (.int x3), some (.int (s.1 39 x3.toNatClampNeg))]) (st' := [.int (s.1 39 x3.toNatClampNeg), .int (s.1 24 6), .ref 27]) (h' := mk (setI s 24 6 ((s.1 24 6) + (zi 1)))) 1 rfl ?_
          exact k204_223 hrec161 x2 x3 (s.1 24 6) (s.1 39 x3.toNatClampNeg) (setI s 24 6 ((s.1 24 6) + (zi 1))) _ _ _ h
        · have h := (if_neg hb).symm.trans h
          refine Ev.run (pc' := 223) (ls' := [some (.ref 24), o1, some (.int x2), some (.int x3), some (.int (s.1 39 x3.toNatClampNeg))]) (st' := [.int ((s.1 39 x3.toNatClampNeg) - (zi 32)), .int (s.1 24 6), .ref 27]) (h' := mk (setI s 24 6 ((s.1 24 6) + (zi 1)))) 4 rfl ?_
          exact k204_223 hrec161 x2 x3 (s.1 24 6) ((s.1 39 x3.toNatClampNeg) - (zi 32)) (setI s 24 6 ((s.1 24 6) + (zi 1))) _ _ _ h
def f204_161  : Nat → Int32 → Int32 → zS → Option (Int32 × zS)
  | 0, _, _, _ => none
  | n + 1, x2, x3, s => b204_161 (f204_161 n) x2 x3 s
theorem k204_161 {X : mX} {D : Nat}   (n : Nat) : ∀ (x2 : Int32) (x3 : Int32) (s : zS) (r : Int32 × zS) (o1 : Option Value) (o4 : Option Value), f204_161  n x2 x3 s = some r → Ev X (D + 9) mm204 161 [some (.ref 24), o1, some (.int x2), some (.int x3), o4] [] (mk s) (encI r) := by
  induction n with
  | zero => intro x2 x3 s r o1 o4  h; cases h
  | succ n ih => intro x2 x3 s r o1 o4  h; exact kb204_161  ih x2 x3 s r o1 o4  h
def b204_130 (rec130 : Int32 → Int32 → zS → Option (Int32 × zS)) (x2 : Int32) (x3 : Int32) (s : zS) : Option (Int32 × zS) := if x3 ≥ x2 then f204_161 zF x2 (zi 0) s else if mIx (s.1 24 6) 10000 then rec130 x2 (x3 + zi 1) (setB (setI s 24 6 ((s.1 24 6) + (zi 1))) 27 ((s.1 24 6).toNatClampNeg) (zI2B (zi 32))) else none
theorem kb204_130 {X : mX} {D : Nat} {rec130 : Int32 → Int32 → zS → Option (Int32 × zS)} (hrec130 : ∀ (x2 : Int32) (x3 : Int32) (s : zS) (r : Int32 × zS) (o1 : Option Value) (o4 : Option Value), rec130 x2 x3 s = some r → Ev X (D + 9) mm204 130 [some (.ref 24), o1, some (.int x2), some (.int x3), o4] [] (mk s) (encI r)) (x2 : Int32) (x3 : Int32) (s : zS) (r : Int32 × zS) (o1 : Option Value) (o4 : Option Value)  (h : b204_130 rec130 x2 x3 s = some r) : Ev X (D + 9) mm204 130 [some (.ref 24), o1, some (.int x2), some (.int x3), o4] [] (mk s) (encI r) := by
  unfold b204_130 at h
  refine Ev.run (pc' := 132) (ls' := [some (.ref 24), o1, some (.int x2), some (.int x3), o4]) (st' := [.int x2, .int x3]) (h' := mk s) 2 rfl ?_
  refine Ev.icmp_ge (t := 159) rfl rfl (fun hb => ?_) (fun hb => ?_)
  · have h := (if_pos hb).symm.trans h
    refine Ev.run (pc' := 161) (ls' := [some (.ref 24), o1, some (.int x2), some (.int (zi 0)), o4]) (st' := []) (h' := mk s) 2 rfl ?_
    exact k204_161 zF x2 (zi 0) s _ _ _ h
  · have h := (if_neg hb).symm.trans h
    refine Ev.run (pc' := 147) (ls' := [some (.ref 24), o1, some (.int x2), some (.int x3), o4]) (st' := [.int ((s.1 24 6) + (zi 1)), .ref 24, .int (s.1 24 6), .ref 27]) (h' := mk s) 8 rfl ?_
    refine Ev.step (pc' := 150) rfl (put_12_6 rfl) ?_
    refine Ev.run (pc' := 152) (ls' := [some (.ref 24), o1, some (.int x2), some (.int x3), o4]) (st' := [.int (zi 32), .int (s.1 24 6), .ref 27]) (h' := mk (setI s 24 6 ((s.1 24 6) + (zi 1)))) 1 rfl ?_
    obtain ⟨hx, h⟩ := zif h
    refine Ev.step (pc' := 153) rfl (ast_27 hx) ?_
    refine Ev.run (pc' := 130) (ls' := [some (.ref 24), o1, some (.int x2), some (.int (x3 + zi 1)), o4]) (st' := []) (h' := mk (setB (setI s 24 6 ((s.1 24 6) + (zi 1))) 27 ((s.1 24 6).toNatClampNeg) (zI2B (zi 32)))) 2 rfl ?_
    exact hrec130 x2 (x3 + zi 1) (setB (setI s 24 6 ((s.1 24 6) + (zi 1))) 27 ((s.1 24 6).toNatClampNeg) (zI2B (zi 32))) _ _ _ h
def f204_130  : Nat → Int32 → Int32 → zS → Option (Int32 × zS)
  | 0, _, _, _ => none
  | n + 1, x2, x3, s => b204_130 (f204_130 n) x2 x3 s
theorem k204_130 {X : mX} {D : Nat}   (n : Nat) : ∀ (x2 : Int32) (x3 : Int32) (s : zS) (r : Int32 × zS) (o1 : Option Value) (o4 : Option Value), f204_130  n x2 x3 s = some r → Ev X (D + 9) mm204 130 [some (.ref 24), o1, some (.int x2), some (.int x3), o4] [] (mk s) (encI r) := by
  induction n with
  | zero => intro x2 x3 s r o1 o4  h; cases h
  | succ n ih => intro x2 x3 s r o1 o4  h; exact kb204_130  ih x2 x3 s r o1 o4  h
def f204_62  (y0 : Int32) (s : zS) : Option (Int32 × zS) := if y0 ≤ zi 0 then zb0 (f202 (setI (setI s 24 30 (zi 0)) 24 31 (zi 0))) (fun s1 => if (((s1.1 24 6) + (s1.1 24 30)) + (r264 (zi 0) ((s1.1 24 16) - (s1.1 24 31)) s1)) ≤ (zi 6000) then if ¬ (r180 (s1.1 24 15) (zi 1) s1) = zi 0 then f204_161 zF (r264 (zi 0) ((s1.1 24 16) - (s1.1 24 31)) s1) (zi 0) s1 else f204_130 zF (r264 (zi 0) ((s1.1 24 16) - (s1.1 24 31)) s1) (zi 0) s1 else some (zi 11, s1)) else some (y0, s)
theorem k204_62 {X : mX} {D : Nat}   (y0 : Int32) (s : zS) (r : Int32 × zS) (o1 : Option Value) (o2 : Option Value) (o3 : Option Value) (o4 : Option Value)  (h : f204_62  y0 s = some r) : Ev X (D + 9) mm204 62 [some (.ref 24), o1, o2, o3, o4] [.int y0] (mk s) (encI r) := by
  unfold f204_62 at h
  refine Ev.run (pc' := 64) (ls' := [some (.ref 24), some (.int y0), o2, o3, o4]) (st' := [.int y0]) (h' := mk s) 2 rfl ?_
  refine Ev.if_le (t := 69) rfl rfl (fun hb => ?_) (fun hb => ?_)
  · have h := (if_pos hb).symm.trans h
    refine Ev.run (pc' := 71) (ls' := [some (.ref 24), some (.int y0), o2, o3, o4]) (st' := [.int (zi 0), .ref 24]) (h' := mk s) 2 rfl ?_
    refine Ev.step (pc' := 74) rfl (put_12_30 rfl) ?_
    refine Ev.run (pc' := 76) (ls' := [some (.ref 24), some (.int y0), o2, o3, o4]) (st' := [.int (zi 0), .ref 24]) (h' := mk (setI s 24 30 (zi 0))) 2 rfl ?_
    refine Ev.step (pc' := 79) rfl (put_12_31 rfl) ?_
    refine Ev.run (pc' := 80) (ls' := [some (.ref 24), some (.int y0), o2, o3, o4]) (st' := [.ref 24]) (h' := mk (setI (setI s 24 30 (zi 0)) 24 31 (zi 0))) 1 rfl ?_
    obtain ⟨s1, hq, h⟩ := zb0_some h
    refine Ev.call (M' := mm202) (v := none) (h' := mk s1) rfl rfl rfl (Nat.le_of_ble_eq_true rfl) (k202 hq) ?_
    refine Ev.run (pc' := 93) (ls' := [some (.ref 24), some (.int y0), o2, o3, o4]) (st' := [.int ((s1.1 24 16) - (s1.1 24 31)), .int (zi 0)]) (h' := mk s1) 6 rfl ?_
    refine Ev.call (M' := mm264) (v := some (.int (r264 (zi 0) ((s1.1 24 16) - (s1.1 24 31)) s1))) (h' := mk s1) rfl rfl rfl (Nat.le_of_ble_eq_true rfl) (k264 (x0 := (zi 0)) (x1 := ((s1.1 24 16) - (s1.1 24 31))) (s := s1)  rfl) ?_
    refine Ev.run (pc' := 111) (ls' := [some (.ref 24), some (.int y0), some (.int (r264 (zi 0) ((s1.1 24 16) - (s1.1 24 31)) s1)), o3, o4]) (st' := [.int (zi 6000), .int (((s1.1 24 6) + (s1.1 24 30)) + (r264 (zi 0) ((s1.1 24 16) - (s1.1 24 31)) s1))]) (h' := mk s1) 9 rfl ?_
    refine Ev.icmp_le (t := 117) rfl rfl (fun hb => ?_) (fun hb => ?_)
    · have h := (if_pos hb).symm.trans h
      refine Ev.run (pc' := 122) (ls' := [some (.ref 24), some (.int y0), some (.int (r264 (zi 0) ((s1.1 24 16) - (s1.1 24 31)) s1)), o3, o4]) (st' := [.int (zi 1), .int (s1.1 24 15)]) (h' := mk s1) 3 rfl ?_
      refine Ev.call (M' := mm180) (v := some (.int (r180 (s1.1 24 15) (zi 1) s1))) (h' := mk s1) rfl rfl rfl (Nat.le_of_ble_eq_true rfl) (k180 (x0 := (s1.1 24 15)) (x1 := (zi 1)) (s := s1)  rfl) ?_
      refine Ev.if_ne (t := 159) rfl rfl (fun hb => ?_) (fun hb => ?_)
      · have h := (if_pos hb).symm.trans h
        refine Ev.run (pc' := 161) (ls' := [some (.ref 24), some (.int y0), some (.int (r264 (zi 0) ((s1.1 24 16) - (s1.1 24 31)) s1)), some (.int (zi 0)), o4]) (st' := []) (h' := mk s1) 2 rfl ?_
        exact k204_161 zF (r264 (zi 0) ((s1.1 24 16) - (s1.1 24 31)) s1) (zi 0) s1 _ _ _ h
      · have h := (if_neg hb).symm.trans h
        refine Ev.run (pc' := 130) (ls' := [some (.ref 24), some (.int y0), some (.int (r264 (zi 0) ((s1.1 24 16) - (s1.1 24 31)) s1)), some (.int (zi 0)), o4]) (st' := []) (h' := mk s1) 2 rfl ?_
        exact k204_130 zF (r264 (zi 0) ((s1.1 24 16) - (s1.1 24 31)) s1) (zi 0) s1 _ _ _ h
    · have h := (if_neg hb).symm.trans h
      refine Ev.run (pc' := 116) (ls' := [some (.ref 24), some (.int y0), some (.int (r264 (zi 0) ((s1.1 24 16) - (s1.1 24 31)) s1)), o3, o4]) (st' := [.int (zi 11)]) (h' := mk s1) 1 rfl ?_
      cases h
      exact Ev.fin rfl rfl
  · have h := (if_neg hb).symm.trans h
    refine Ev.run (pc' := 68) (ls' := [some (.ref 24), some (.int y0), o2, o3, o4]) (st' := [.int y0]) (h' := mk s) 1 rfl ?_
    cases h
    exact Ev.fin rfl rfl
def f204   (s : zS) : Option (Int32 × zS) := if ¬ (s.1 24 18) = (zi 110) then if ¬ (s.1 24 18) = (zi 37) then zb1 (f201 s) (fun v2 s1 => f204_62 v2 s1) else f204_62 (zi 0) s else if ¬ (s.1 24 6) = (zi 6000) then if mIx (s.1 24 6) 10000 then some (zi 0, setI (setB s 27 ((s.1 24 6).toNatClampNeg) (zI2B (zi 10))) 24 6 ((s.1 24 6) + (zi 1))) else none else some (zi 11, s)
theorem k204 {X : mX} {D : Nat}  {s : zS} {r : Int32 × zS}  (h : f204  s = some r) : Ev X (D + 9) mm204 0 [some (.ref 24), none, none, none, none] [] (mk s) (encI r) := by
  unfold f204 at h
  refine Ev.run (pc' := 6) (ls' := [some (.ref 24), none, none, none, none]) (st' := [.int (zi 110), .int (s.1 24 18)]) (h' := mk s) 3 rfl ?_
  refine Ev.icmp_ne (t := 45) rfl rfl (fun hb => ?_) (fun hb => ?_)
  · have h := (if_pos hb).symm.trans h
    refine Ev.run (pc' := 51) (ls' := [some (.ref 24), none, none, none, none]) (st' := [.int (zi 37), .int (s.1 24 18)]) (h' := mk s) 3 rfl ?_
    refine Ev.icmp_ne (t := 58) rfl rfl (fun hb => ?_) (fun hb => ?_)
    · have h := (if_pos hb).symm.trans h
      refine Ev.run (pc' := 59) (ls' := [some (.ref 24), none, none, none, none]) (st' := [.ref 24]) (h' := mk s) 1 rfl ?_
      obtain ⟨v2, s1, hq, h⟩ := zb1_some h
      refine Ev.call (M' := mm201) (v := some (.int v2)) (h' := mk s1) rfl rfl rfl (Nat.le_of_ble_eq_true rfl) (k201 hq) ?_
      exact k204_62 v2 s1 _ _ _ _ _ h
    · have h := (if_neg hb).symm.trans h
      refine Ev.run (pc' := 62) (ls' := [some (.ref 24), none, none, none, none]) (st' := [.int (zi 0)]) (h' := mk s) 2 rfl ?_
      exact k204_62 (zi 0) s _ _ _ _ _ h
  · have h := (if_neg hb).symm.trans h
    refine Ev.run (pc' := 16) (ls' := [some (.ref 24), none, none, none, none]) (st' := [.int (zi 6000), .int (s.1 24 6)]) (h' := mk s) 3 rfl ?_
    refine Ev.icmp_ne (t := 22) rfl rfl (fun hb => ?_) (fun hb => ?_)
    · have h := (if_pos hb).symm.trans h
      refine Ev.run (pc' := 32) (ls' := [some (.ref 24), none, none, none, none]) (st' := [.int (zi 10), .int (s.1 24 6), .ref 27]) (h' := mk s) 5 rfl ?_
      obtain ⟨hx, h⟩ := zif h
      refine Ev.step (pc' := 33) rfl (ast_27 hx) ?_
      refine Ev.run (pc' := 40) (ls' := [some (.ref 24), none, none, none, none]) (st' := [.int ((s.1 24 6) + (zi 1)), .ref 24]) (h' := mk (setB s 27 ((s.1 24 6).toNatClampNeg) (zI2B (zi 10)))) 5 rfl ?_
      refine Ev.step (pc' := 43) rfl (put_12_6 rfl) ?_
      refine Ev.run (pc' := 44) (ls' := [some (.ref 24), none, none, none, none]) (st' := [.int (zi 0)]) (h' := mk (setI (setB s 27 ((s.1 24 6).toNatClampNeg) (zI2B (zi 10))) 24 6 ((s.1 24 6) + (zi 1)))) 1 rfl ?_
      cases h
      exact Ev.fin rfl rfl
    · have h := (if_neg hb).symm.trans h
      refine Ev.run (pc' := 21) (ls' := [some (.ref 24), none, none, none, none]) (st' := [.int (zi 11)]) (h' := mk s) 1 rfl ?_
      cases h
      exact Ev.fin rfl rfl
/-! 205 FModel.rowAt(I)I -/
def f205  (x1 : Int32) (s : zS) : Option (Int32 × zS) := if x1 ≥ (s.1 24 39) then some (zi (-1), s) else if mIx x1 800 then some (s.1 25 x1.toNatClampNeg, s) else none
theorem k205 {X : mX} {D : Nat} {x1 : Int32} {s : zS} {r : Int32 × zS}  (h : f205 x1 s = some r) : Ev X D mm205 0 [some (.ref 24), some (.int x1)] [] (mk s) (encI r) := by
  unfold f205 at h
  refine Ev.run (pc' := 5) (ls' := [some (.ref 24), some (.int x1)]) (st' := [.int (s.1 24 39), .int x1]) (h' := mk s) 3 rfl ?_
  refine Ev.icmp_ge (t := 17) rfl rfl (fun hb => ?_) (fun hb => ?_)
  · have h := (if_pos hb).symm.trans h
    refine Ev.run (pc' := 18) (ls' := [some (.ref 24), some (.int x1)]) (st' := [.int (zi (-1))]) (h' := mk s) 1 rfl ?_
    cases h
    exact Ev.fin rfl rfl
  · have h := (if_neg hb).symm.trans h
    refine Ev.run (pc' := 13) (ls' := [some (.ref 24), some (.int x1)]) (st' := [.int x1, .ref 25]) (h' := mk s) 3 rfl ?_
    obtain ⟨hx, h⟩ := zif h
    refine Ev.step (pc' := 14) rfl (ald_b rfl hx) ?_
    refine Ev.run (pc' := 18) (ls' := [some (.ref 24), some (.int x1)]) (st' := [.int (s.1 25 x1.toNatClampNeg)]) (h' := mk s) 1 rfl ?_
    cases h
    exact Ev.fin rfl rfl
/-! 206 FModel.hexOf(I)I -/
def f206_36  (x0 : Int32) (s : zS) : Option (Int32 × zS) := if x0 < (zi 65) then some (zi (-1), s) else if x0 > (zi 70) then some (zi (-1), s) else some ((x0 - (zi 65)) + (zi 10), s)
theorem k206_36 {X : mX} {D : Nat}   (x0 : Int32) (s : zS) (r : Int32 × zS)   (h : f206_36  x0 s = some r) : Ev X (D + 1) mm206 36 [some (.int x0)] [] (mk s) (encI r) := by
  unfold f206_36 at h
  refine Ev.run (pc' := 39) (ls' := [some (.int x0)]) (st' := [.int (zi 65), .int x0]) (h' := mk s) 2 rfl ?_
  refine Ev.icmp_lt (t := 58) rfl rfl (fun hb => ?_) (fun hb => ?_)
  · have h := (if_pos hb).symm.trans h
    refine Ev.run (pc' := 59) (ls' := [some (.int x0)]) (st' := [.int (zi (-1))]) (h' := mk s) 1 rfl ?_
    cases h
    exact Ev.fin rfl rfl
  · have h := (if_neg hb).symm.trans h
    refine Ev.run (pc' := 45) (ls' := [some (.int x0)]) (st' := [.int (zi 70), .int x0]) (h' := mk s) 2 rfl ?_
    refine Ev.icmp_gt (t := 58) rfl rfl (fun hb => ?_) (fun hb => ?_)
    · have h := (if_pos hb).symm.trans h
      refine Ev.run (pc' := 59) (ls' := [some (.int x0)]) (st' := [.int (zi (-1))]) (h' := mk s) 1 rfl ?_
      cases h
      exact Ev.fin rfl rfl
    · have h := (if_neg hb).symm.trans h
      refine Ev.run (pc' := 59) (ls' := [some (.int x0)]) (st' := [.int ((x0 - (zi 65)) + (zi 10))]) (h' := mk s) 6 rfl ?_
      cases h
      exact Ev.fin rfl rfl
def f206  (x0 : Int32) (s : zS) : Option (Int32 × zS) := if (r196 x0 s) = zi 0 then if x0 < (zi 97) then f206_36 x0 s else if x0 > (zi 102) then f206_36 x0 s else some ((x0 - (zi 97)) + (zi 10), s) else some (x0 - (zi 48), s)
theorem k206 {X : mX} {D : Nat} {x0 : Int32} {s : zS} {r : Int32 × zS}  (h : f206 x0 s = some r) : Ev X (D + 1) mm206 0 [some (.int x0)] [] (mk s) (encI r) := by
  unfold f206 at h
  refine Ev.run (pc' := 1) (ls' := [some (.int x0)]) (st' := [.int x0]) (h' := mk s) 1 rfl ?_
  refine Ev.call (M' := mm196) (v := some (.int (r196 x0 s))) (h' := mk s) rfl rfl rfl (Nat.le_of_ble_eq_true rfl) (k196 (x0 := x0) (s := s)  rfl) ?_
  refine Ev.if_eq (t := 14) rfl rfl (fun hb => ?_) (fun hb => ?_)
  · have h := (if_pos hb).symm.trans h
    refine Ev.run (pc' := 17) (ls' := [some (.int x0)]) (st' := [.int (zi 97), .int x0]) (h' := mk s) 2 rfl ?_
    refine Ev.icmp_lt (t := 36) rfl rfl (fun hb => ?_) (fun hb => ?_)
    · have h := (if_pos hb).symm.trans h
      exact k206_36 x0 s _ h
    · have h := (if_neg hb).symm.trans h
      refine Ev.run (pc' := 23) (ls' := [some (.int x0)]) (st' := [.int (zi 102), .int x0]) (h' := mk s) 2 rfl ?_
      refine Ev.icmp_gt (t := 36) rfl rfl (fun hb => ?_) (fun hb => ?_)
      · have h := (if_pos hb).symm.trans h
        exact k206_36 x0 s _ h
      · have h := (if_neg hb).symm.trans h
        refine Ev.run (pc' := 59) (ls' := [some (.int x0)]) (st' := [.int ((x0 - (zi 97)) + (zi 10))]) (h' := mk s) 6 rfl ?_
        cases h
        exact Ev.fin rfl rfl
  · have h := (if_neg hb).symm.trans h
    refine Ev.run (pc' := 59) (ls' := [some (.int x0)]) (st' := [.int (x0 - (zi 48))]) (h' := mk s) 4 rfl ?_
    cases h
    exact Ev.fin rfl rfl
/-! 207 FModel.isWord(Ljava.lang.String;)Z -/
def b207_20 (rec20 : Nat → Int32 → zS → Option (Int32 × zS)) (c1 : Nat) (x2 : Int32) (s : zS) : Option (Int32 × zS) := if x2 ≥ (zlen c1) then some (zi 1, s) else if mIx ((s.1 24 38) + x2) 800 then if mIx x2 (zlenN c1) then if (s.1 25 (((s.1 24 38) + x2).toNatClampNeg)) = (zchr c1 x2) then rec20 c1 (x2 + zi 1) s else some (zi 0, s) else none else none
theorem kb207_20 {X : mX} {D : Nat} {rec20 : Nat → Int32 → zS → Option (Int32 × zS)} (hrec20 : ∀ (c1 : Nat) (x2 : Int32) (s : zS) (r : Int32 × zS) , c1 < 78 → rec20 c1 x2 s = some r → Ev X (D + 5) mm207 20 [some (.ref 24), some (.ref (mRO + 3 + 2 * c1)), some (.int x2)] [] (mk s) (encI r)) (c1 : Nat) (x2 : Int32) (s : zS) (r : Int32 × zS)  (hc1 : c1 < 78) (h : b207_20 rec20 c1 x2 s = some r) : Ev X (D + 5) mm207 20 [some (.ref 24), some (.ref (mRO + 3 + 2 * c1)), some (.int x2)] [] (mk s) (encI r) := by
  unfold b207_20 at h
  refine Ev.run (pc' := 22) (ls' := [some (.ref 24), some (.ref (mRO + 3 + 2 * c1)), some (.int x2)]) (st' := [.ref (mRO + 3 + 2 * c1), .int x2]) (h' := mk s) 2 rfl ?_
  refine Ev.call (M' := mm241) (as := [.ref (mRO + 3 + 2 * c1)]) (rest := [.int x2]) (v := some (.int (zlen c1))) (h' := mk s) rfl (litcall rfl rfl hc1 rfl rfl) rfl (Nat.le_of_ble_eq_true rfl) (kstrlen hc1) ?_
  refine Ev.icmp_ge (t := 55) rfl rfl (fun hb => ?_) (fun hb => ?_)
  · have h := (if_pos hb).symm.trans h
    refine Ev.run (pc' := 56) (ls' := [some (.ref 24), some (.ref (mRO + 3 + 2 * c1)), some (.int x2)]) (st' := [.int (zi 1)]) (h' := mk s) 1 rfl ?_
    cases h
    exact Ev.fin rfl rfl
  · have h := (if_neg hb).symm.trans h
    refine Ev.run (pc' := 38) (ls' := [some (.ref 24), some (.ref (mRO + 3 + 2 * c1)), some (.int x2)]) (st' := [.int ((s.1 24 38) + x2), .ref 25]) (h' := mk s) 6 rfl ?_
    obtain ⟨hx, h⟩ := zif h
    refine Ev.step (pc' := 39) rfl (ald_b rfl hx) ?_
    refine Ev.run (pc' := 41) (ls' := [some (.ref 24), some (.ref (mRO + 3 + 2 * c1)), some (.int x2)]) (st' := [.int x2, .ref (mRO + 3 + 2 * c1), .int (s.1 25 (((s.1 24 38) + x2).toNatClampNeg))]) (h' := mk s) 2 rfl ?_
    obtain ⟨hx, h⟩ := zif h
    refine Ev.call (M' := mm242) (as := [.ref (mRO + 3 + 2 * c1), .int x2]) (rest := [.int (s.1 25 (((s.1 24 38) + x2).toNatClampNeg))]) (v := some (.int (zchr c1 x2))) (h' := mk s) rfl (litcall rfl rfl hc1 rfl rfl) rfl (Nat.le_of_ble_eq_true rfl) (kcharat hc1 hx) ?_
    refine Ev.icmp_eq (t := 49) rfl rfl (fun hb => ?_) (fun hb => ?_)
    · have h := (if_pos hb).symm.trans h
      refine Ev.run (pc' := 20) (ls' := [some (.ref 24), some (.ref (mRO + 3 + 2 * c1)), some (.int (x2 + zi 1))]) (st' := []) (h' := mk s) 2 rfl ?_
      exact hrec20 c1 (x2 + zi 1) s _ hc1 h
    · have h := (if_neg hb).symm.trans h
      refine Ev.run (pc' := 48) (ls' := [some (.ref 24), some (.ref (mRO + 3 + 2 * c1)), some (.int x2)]) (st' := [.int (zi 0)]) (h' := mk s) 1 rfl ?_
      cases h
      exact Ev.fin rfl rfl
def f207_20  : Nat → Nat → Int32 → zS → Option (Int32 × zS)
  | 0, _, _, _ => none
  | n + 1, c1, x2, s => b207_20 (f207_20 n) c1 x2 s
theorem k207_20 {X : mX} {D : Nat}   (n : Nat) : ∀ (c1 : Nat) (x2 : Int32) (s : zS) (r : Int32 × zS) , c1 < 78 → f207_20  n c1 x2 s = some r → Ev X (D + 5) mm207 20 [some (.ref 24), some (.ref (mRO + 3 + 2 * c1)), some (.int x2)] [] (mk s) (encI r) := by
  induction n with
  | zero => intro c1 x2 s r  hc1 h; cases h
  | succ n ih => intro c1 x2 s r  hc1 h; exact kb207_20  ih c1 x2 s r  hc1 h
def f207  (c1 : Nat) (s : zS) : Option (Int32 × zS) := if ((s.1 24 39) - (s.1 24 38)) = (zlen c1) then f207_20 zF c1 (zi 0) s else some (zi 0, s)
theorem k207 {X : mX} {D : Nat} {c1 : Nat} {s : zS} {r : Int32 × zS} (hc1 : c1 < 78) (h : f207 c1 s = some r) : Ev X (D + 5) mm207 0 [some (.ref 24), some (.ref (mRO + 3 + 2 * c1)), none] [] (mk s) (encI r) := by
  unfold f207 at h
  refine Ev.run (pc' := 10) (ls' := [some (.ref 24), some (.ref (mRO + 3 + 2 * c1)), none]) (st' := [.ref (mRO + 3 + 2 * c1), .int ((s.1 24 39) - (s.1 24 38))]) (h' := mk s) 6 rfl ?_
  refine Ev.call (M' := mm241) (as := [.ref (mRO + 3 + 2 * c1)]) (rest := [.int ((s.1 24 39) - (s.1 24 38))]) (v := some (.int (zlen c1))) (h' := mk s) rfl (litcall rfl rfl hc1 rfl rfl) rfl (Nat.le_of_ble_eq_true rfl) (kstrlen hc1) ?_
  refine Ev.icmp_eq (t := 18) rfl rfl (fun hb => ?_) (fun hb => ?_)
  · have h := (if_pos hb).symm.trans h
    refine Ev.run (pc' := 20) (ls' := [some (.ref 24), some (.ref (mRO + 3 + 2 * c1)), some (.int (zi 0))]) (st' := []) (h' := mk s) 2 rfl ?_
    exact k207_20 zF c1 (zi 0) s _ hc1 h
  · have h := (if_neg hb).symm.trans h
    refine Ev.run (pc' := 17) (ls' := [some (.ref 24), some (.ref (mRO + 3 + 2 * c1)), none]) (st' := [.int (zi 0)]) (h' := mk s) 1 rfl ?_
    cases h
    exact Ev.fin rfl rfl
