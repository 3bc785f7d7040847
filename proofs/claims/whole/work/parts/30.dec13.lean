/-! decompiled methods, 13; printed by wip/gen/gen8.py -/
/-! 256 FLaw.law([I)Z -/
def f256_720 (X : mX) (rec23 : Int32 → zS → Option (Int32 × zS)) (x4 : Int32) (x5 : Int32) (y1 : Int32) (s : zS) : Option (Int32 × zS) := zb1 (f228 y1 s) (fun v2 s1 => if (r162 s1) = x5 then if ¬ x5 = zi 0 then rec23 (x4 + zi 5) s1 else if mIx (zi 0) 1 then if (s1.2.1 41 ((zi 0).toNatClampNeg)) = v2 then rec23 (x4 + zi 5) s1 else some (zi 0, s1) else none else some (zi 0, s1))
set_option maxRecDepth 100000 in
theorem k256_720 {X : mX} {D : Nat} {rec23 : Int32 → zS → Option (Int32 × zS)} (hrec23 : ∀ (x4 : Int32) (s : zS) (r : Int32 × zS) (o5 : Option Value) (o6 : Option Value) (o7 : Option Value), rec23 x4 s = some r → Ev X (D + 14) mm256 23 [some (.ref mRO), some (.ref 0), some (.ref 24), some (.ref 41), some (.int x4), o5, o6, o7] [] (mk s) (encI r)) (x4 : Int32) (x5 : Int32) (y1 : Int32) (s : zS) (r : Int32 × zS) (o6 : Option Value) (o7 : Option Value)  (h : f256_720 X rec23 x4 x5 y1 s = some r) : Ev X (D + 14) mm256 720 [some (.ref mRO), some (.ref 0), some (.ref 24), some (.ref 41), some (.int x4), some (.int x5), o6, o7] [.int y1, .ref 24] (mk s) (encI r) := by
  unfold f256_720 at h
  obtain ⟨v2, s1, hq, h⟩ := zb1_some h
  refine Ev.call (M' := mm228) (v := some (.long v2)) (h' := mk s1) rfl rfl rfl (Nat.le_of_ble_eq_true rfl) (k228 hq) ?_
  refine Ev.run (pc' := 726) (ls' := [some (.ref mRO), some (.ref 0), some (.ref 24), some (.ref 41), some (.int x4), some (.int x5), some (.long v2), none]) (st' := [.ref 24]) (h' := mk s1) 2 rfl ?_
  refine Ev.call (M' := mm162) (v := some (.int (r162 s1))) (h' := mk s1) rfl rfl rfl (Nat.le_of_ble_eq_true rfl) (k162  (s := s1) (v := r162 s1)  rfl) ?_
  refine Ev.run (pc' := 731) (ls' := [some (.ref mRO), some (.ref 0), some (.ref 24), some (.ref 41), some (.int x4), some (.int x5), some (.long v2), none]) (st' := [.int x5, .int (r162 s1)]) (h' := mk s1) 1 rfl ?_
  refine Ev.icmp_eq (t := 736) rfl rfl (fun hb => ?_) (fun hb => ?_)
  · have h := (if_pos hb).symm.trans h
    refine Ev.run (pc' := 738) (ls' := [some (.ref mRO), some (.ref 0), some (.ref 24), some (.ref 41), some (.int x4), some (.int x5), some (.long v2), none]) (st' := [.int x5]) (h' := mk s1) 1 rfl ?_
    refine Ev.if_ne (t := 752) rfl rfl (fun hb => ?_) (fun hb => ?_)
    · have h := (if_pos hb).symm.trans h
      refine Ev.run (pc' := 23) (ls' := [some (.ref mRO), some (.ref 0), some (.ref 24), some (.ref 41), some (.int (x4 + zi 5)), some (.int x5), some (.long v2), none]) (st' := []) (h' := mk s1) 3 rfl ?_
      exact hrec23 (x4 + zi 5) s1 _ _ _ _ h
    · have h := (if_neg hb).symm.trans h
      refine Ev.run (pc' := 743) (ls' := [some (.ref mRO), some (.ref 0), some (.ref 24), some (.ref 41), some (.int x4), some (.int x5), some (.long v2), none]) (st' := [.int (zi 0), .ref 41]) (h' := mk s1) 2 rfl ?_
      obtain ⟨hx, h⟩ := zif h
      refine Ev.step (pc' := 744) rfl (ald_l rfl hx) ?_
      refine Ev.run (pc' := 747) (ls' := [some (.ref mRO), some (.ref 0), some (.ref 24), some (.ref 41), some (.int x4), some (.int x5), some (.long v2), none]) (st' := [.int (lg_cmp (s1.2.1 41 ((zi 0).toNatClampNeg)) v2)]) (h' := mk s1) 2 rfl ?_
      refine Ev.ifl_eq (t := 752) rfl rfl (fun hb => ?_) (fun hb => ?_)
      · have h := (if_pos hb).symm.trans h
        refine Ev.run (pc' := 23) (ls' := [some (.ref mRO), some (.ref 0), some (.ref 24), some (.ref 41), some (.int (x4 + zi 5)), some (.int x5), some (.long v2), none]) (st' := []) (h' := mk s1) 3 rfl ?_
        exact hrec23 (x4 + zi 5) s1 _ _ _ _ h
      · have h := (if_neg hb).symm.trans h
        refine Ev.run (pc' := 751) (ls' := [some (.ref mRO), some (.ref 0), some (.ref 24), some (.ref 41), some (.int x4), some (.int x5), some (.long v2), none]) (st' := [.int (zi 0)]) (h' := mk s1) 1 rfl ?_
        first | (obtain rfl := Option.some.inj h) | (cases h)
        exact Ev.fin rfl rfl
  · have h := (if_neg hb).symm.trans h
    refine Ev.run (pc' := 735) (ls' := [some (.ref mRO), some (.ref 0), some (.ref 24), some (.ref 41), some (.int x4), some (.int x5), some (.long v2), none]) (st' := [.int (zi 0)]) (h' := mk s1) 1 rfl ?_
    first | (obtain rfl := Option.some.inj h) | (cases h)
    exact Ev.fin rfl rfl
def f256_699 (X : mX) (rec23 : Int32 → zS → Option (Int32 × zS)) (x4 : Int32) (y1 : Int32) (s : zS) : Option (Int32 × zS) := zb1 (f255 y1 s) (fun v2 s1 => if mIx (x4 + (zi 1)) X.1 then if (X.2 ((x4 + (zi 1)).toNatClampNeg)) = zi 0 then f256_720 X rec23 x4 v2 (zi 0) s1 else f256_720 X rec23 x4 v2 (zi 1) s1 else none)
set_option maxRecDepth 100000 in
theorem k256_699 {X : mX} {D : Nat} {rec23 : Int32 → zS → Option (Int32 × zS)} (hrec23 : ∀ (x4 : Int32) (s : zS) (r : Int32 × zS) (o5 : Option Value) (o6 : Option Value) (o7 : Option Value), rec23 x4 s = some r → Ev X (D + 14) mm256 23 [some (.ref mRO), some (.ref 0), some (.ref 24), some (.ref 41), some (.int x4), o5, o6, o7] [] (mk s) (encI r)) (x4 : Int32) (y1 : Int32) (s : zS) (r : Int32 × zS) (o5 : Option Value) (o6 : Option Value) (o7 : Option Value)  (h : f256_699 X rec23 x4 y1 s = some r) : Ev X (D + 14) mm256 699 [some (.ref mRO), some (.ref 0), some (.ref 24), some (.ref 41), some (.int x4), o5, o6, o7] [.int y1, .ref 0] (mk s) (encI r) := by
  unfold f256_699 at h
  refine Ev.run (pc' := 700) (ls' := [some (.ref mRO), some (.ref 0), some (.ref 24), some (.ref 41), some (.int x4), o5, o6, o7]) (st' := [.ref 41, .int y1, .ref 0]) (h' := mk s) 1 rfl ?_
  obtain ⟨v2, s1, hq, h⟩ := zb1_some h
  refine Ev.call (M' := mm255) (v := some (.int v2)) (h' := mk s1) rfl rfl rfl (Nat.le_of_ble_eq_true rfl) (k255 hq) ?_
  refine Ev.run (pc' := 711) (ls' := [some (.ref mRO), some (.ref 0), some (.ref 24), some (.ref 41), some (.int x4), some (.int v2), o6, o7]) (st' := [.int (x4 + (zi 1)), .ref mRO, .ref 24]) (h' := mk s1) 6 rfl ?_
  obtain ⟨hx, h⟩ := zif h
  refine Ev.step (pc' := 712) rfl (ald_i rfl hx) ?_
  refine Ev.if_eq (t := 719) rfl rfl (fun hb => ?_) (fun hb => ?_)
  · have h := (if_pos hb).symm.trans h
    refine Ev.run (pc' := 720) (ls' := [some (.ref mRO), some (.ref 0), some (.ref 24), some (.ref 41), some (.int x4), some (.int v2), o6, o7]) (st' := [.int (zi 0), .ref 24]) (h' := mk s1) 1 rfl ?_
    exact k256_720 hrec23 x4 v2 (zi 0) s1 _ _ _ h
  · have h := (if_neg hb).symm.trans h
    refine Ev.run (pc' := 720) (ls' := [some (.ref mRO), some (.ref 0), some (.ref 24), some (.ref 41), some (.int x4), some (.int v2), o6, o7]) (st' := [.int (zi 1), .ref 24]) (h' := mk s1) 2 rfl ?_
    exact k256_720 hrec23 x4 v2 (zi 1) s1 _ _ _ h
def f256_465 (X : mX) (rec23 : Int32 → zS → Option (Int32 × zS)) (x4 : Int32) (x5 : Int32) (y1 : Int64) (y2 : Int32) (s : zS) : Option (Int32 × zS) := zb1 (f221 y1 y2 s) (fun v2 s1 => if (r162 s1) = x5 then if ¬ x5 = zi 0 then rec23 (x4 + zi 5) s1 else if mIx (zi 0) 1 then if (s1.2.1 41 ((zi 0).toNatClampNeg)) = (zI2L v2) then rec23 (x4 + zi 5) s1 else some (zi 0, s1) else none else some (zi 0, s1))
set_option maxRecDepth 100000 in
theorem k256_465 {X : mX} {D : Nat} {rec23 : Int32 → zS → Option (Int32 × zS)} (hrec23 : ∀ (x4 : Int32) (s : zS) (r : Int32 × zS) (o5 : Option Value) (o6 : Option Value) (o7 : Option Value), rec23 x4 s = some r → Ev X (D + 14) mm256 23 [some (.ref mRO), some (.ref 0), some (.ref 24), some (.ref 41), some (.int x4), o5, o6, o7] [] (mk s) (encI r)) (x4 : Int32) (x5 : Int32) (y1 : Int64) (y2 : Int32) (s : zS) (r : Int32 × zS) (o6 : Option Value) (o7 : Option Value)  (h : f256_465 X rec23 x4 x5 y1 y2 s = some r) : Ev X (D + 14) mm256 465 [some (.ref mRO), some (.ref 0), some (.ref 24), some (.ref 41), some (.int x4), some (.int x5), o6, o7] [.int y2, .long y1, .ref 24] (mk s) (encI r) := by
  unfold f256_465 at h
  obtain ⟨v2, s1, hq, h⟩ := zb1_some h
  refine Ev.call (M' := mm221) (v := some (.int v2)) (h' := mk s1) rfl rfl rfl (Nat.le_of_ble_eq_true rfl) (k221 hq) ?_
  refine Ev.run (pc' := 471) (ls' := [some (.ref mRO), some (.ref 0), some (.ref 24), some (.ref 41), some (.int x4), some (.int x5), some (.int v2), o7]) (st' := [.ref 24]) (h' := mk s1) 2 rfl ?_
  refine Ev.call (M' := mm162) (v := some (.int (r162 s1))) (h' := mk s1) rfl rfl rfl (Nat.le_of_ble_eq_true rfl) (k162  (s := s1) (v := r162 s1)  rfl) ?_
  refine Ev.run (pc' := 476) (ls' := [some (.ref mRO), some (.ref 0), some (.ref 24), some (.ref 41), some (.int x4), some (.int x5), some (.int v2), o7]) (st' := [.int x5, .int (r162 s1)]) (h' := mk s1) 1 rfl ?_
  refine Ev.icmp_eq (t := 481) rfl rfl (fun hb => ?_) (fun hb => ?_)
  · have h := (if_pos hb).symm.trans h
    refine Ev.run (pc' := 483) (ls' := [some (.ref mRO), some (.ref 0), some (.ref 24), some (.ref 41), some (.int x4), some (.int x5), some (.int v2), o7]) (st' := [.int x5]) (h' := mk s1) 1 rfl ?_
    refine Ev.if_ne (t := 498) rfl rfl (fun hb => ?_) (fun hb => ?_)
    · have h := (if_pos hb).symm.trans h
      refine Ev.run (pc' := 23) (ls' := [some (.ref mRO), some (.ref 0), some (.ref 24), some (.ref 41), some (.int (x4 + zi 5)), some (.int x5), some (.int v2), o7]) (st' := []) (h' := mk s1) 3 rfl ?_
      exact hrec23 (x4 + zi 5) s1 _ _ _ _ h
    · have h := (if_neg hb).symm.trans h
      refine Ev.run (pc' := 488) (ls' := [some (.ref mRO), some (.ref 0), some (.ref 24), some (.ref 41), some (.int x4), some (.int x5), some (.int v2), o7]) (st' := [.int (zi 0), .ref 41]) (h' := mk s1) 2 rfl ?_
      obtain ⟨hx, h⟩ := zif h
      refine Ev.step (pc' := 489) rfl (ald_l rfl hx) ?_
      refine Ev.run (pc' := 493) (ls' := [some (.ref mRO), some (.ref 0), some (.ref 24), some (.ref 41), some (.int x4), some (.int x5), some (.int v2), o7]) (st' := [.int (lg_cmp (s1.2.1 41 ((zi 0).toNatClampNeg)) (zI2L v2))]) (h' := mk s1) 3 rfl ?_
      refine Ev.ifl_eq (t := 498) rfl rfl (fun hb => ?_) (fun hb => ?_)
      · have h := (if_pos hb).symm.trans h
        refine Ev.run (pc' := 23) (ls' := [some (.ref mRO), some (.ref 0), some (.ref 24), some (.ref 41), some (.int (x4 + zi 5)), some (.int x5), some (.int v2), o7]) (st' := []) (h' := mk s1) 3 rfl ?_
        exact hrec23 (x4 + zi 5) s1 _ _ _ _ h
      · have h := (if_neg hb).symm.trans h
        refine Ev.run (pc' := 497) (ls' := [some (.ref mRO), some (.ref 0), some (.ref 24), some (.ref 41), some (.int x4), some (.int x5), some (.int v2), o7]) (st' := [.int (zi 0)]) (h' := mk s1) 1 rfl ?_
        first | (obtain rfl := Option.some.inj h) | (cases h)
        exact Ev.fin rfl rfl
  · have h := (if_neg hb).symm.trans h
    refine Ev.run (pc' := 480) (ls' := [some (.ref mRO), some (.ref 0), some (.ref 24), some (.ref 41), some (.int x4), some (.int x5), some (.int v2), o7]) (st' := [.int (zi 0)]) (h' := mk s1) 1 rfl ?_
    first | (obtain rfl := Option.some.inj h) | (cases h)
    exact Ev.fin rfl rfl
def f256_422 (X : mX) (rec23 : Int32 → zS → Option (Int32 × zS)) (x4 : Int32) (y1 : Int64) (y2 : Int32) (s : zS) : Option (Int32 × zS) := zb1 (f251 y1 y2 s) (fun v2 s1 => if mIx (x4 + (zi 1)) X.1 then if mIx (x4 + (zi 2)) X.1 then if mIx (x4 + (zi 3)) X.1 then if (X.2 ((x4 + (zi 3)).toNatClampNeg)) = zi 0 then f256_465 X rec23 x4 v2 ((zshlL (zI2L (X.2 ((x4 + (zi 1)).toNatClampNeg))) (zi 32)) ||| ((zI2L (X.2 ((x4 + (zi 2)).toNatClampNeg))) &&& (zl 4294967295))) (zi 0) s1 else f256_465 X rec23 x4 v2 ((zshlL (zI2L (X.2 ((x4 + (zi 1)).toNatClampNeg))) (zi 32)) ||| ((zI2L (X.2 ((x4 + (zi 2)).toNatClampNeg))) &&& (zl 4294967295))) (zi 1) s1 else none else none else none)
set_option maxRecDepth 100000 in
theorem k256_422 {X : mX} {D : Nat} {rec23 : Int32 → zS → Option (Int32 × zS)} (hrec23 : ∀ (x4 : Int32) (s : zS) (r : Int32 × zS) (o5 : Option Value) (o6 : Option Value) (o7 : Option Value), rec23 x4 s = some r → Ev X (D + 14) mm256 23 [some (.ref mRO), some (.ref 0), some (.ref 24), some (.ref 41), some (.int x4), o5, o6, o7] [] (mk s) (encI r)) (x4 : Int32) (y1 : Int64) (y2 : Int32) (s : zS) (r : Int32 × zS) (o5 : Option Value) (o6 : Option Value) (o7 : Option Value)  (h : f256_422 X rec23 x4 y1 y2 s = some r) : Ev X (D + 14) mm256 422 [some (.ref mRO), some (.ref 0), some (.ref 24), some (.ref 41), some (.int x4), o5, o6, o7] [.int y2, .long y1, .ref 0] (mk s) (encI r) := by
  unfold f256_422 at h
  refine Ev.run (pc' := 423) (ls' := [some (.ref mRO), some (.ref 0), some (.ref 24), some (.ref 41), some (.int x4), o5, o6, o7]) (st' := [.ref 41, .int y2, .long y1, .ref 0]) (h' := mk s) 1 rfl ?_
  obtain ⟨v2, s1, hq, h⟩ := zb1_some h
  refine Ev.call (M' := mm251) (v := some (.int v2)) (h' := mk s1) rfl rfl rfl (Nat.le_of_ble_eq_true rfl) (k251 hq) ?_
  refine Ev.run (pc' := 434) (ls' := [some (.ref mRO), some (.ref 0), some (.ref 24), some (.ref 41), some (.int x4), some (.int v2), o6, o7]) (st' := [.int (x4 + (zi 1)), .ref mRO, .ref 24]) (h' := mk s1) 6 rfl ?_
  obtain ⟨hx, h⟩ := zif h
  refine Ev.step (pc' := 435) rfl (ald_i rfl hx) ?_
  refine Ev.run (pc' := 444) (ls' := [some (.ref mRO), some (.ref 0), some (.ref 24), some (.ref 41), some (.int x4), some (.int v2), o6, o7]) (st' := [.int (x4 + (zi 2)), .ref mRO, .long (zshlL (zI2L (X.2 ((x4 + (zi 1)).toNatClampNeg))) (zi 32)), .ref 24]) (h' := mk s1) 7 rfl ?_
  obtain ⟨hx, h⟩ := zif h
  refine Ev.step (pc' := 445) rfl (ald_i rfl hx) ?_
  refine Ev.run (pc' := 456) (ls' := [some (.ref mRO), some (.ref 0), some (.ref 24), some (.ref 41), some (.int x4), some (.int v2), o6, o7]) (st' := [.int (x4 + (zi 3)), .ref mRO, .long ((zshlL (zI2L (X.2 ((x4 + (zi 1)).toNatClampNeg))) (zi 32)) ||| ((zI2L (X.2 ((x4 + (zi 2)).toNatClampNeg))) &&& (zl 4294967295))), .ref 24]) (h' := mk s1) 8 rfl ?_
  obtain ⟨hx, h⟩ := zif h
  refine Ev.step (pc' := 457) rfl (ald_i rfl hx) ?_
  refine Ev.if_eq (t := 464) rfl rfl (fun hb => ?_) (fun hb => ?_)
  · have h := (if_pos hb).symm.trans h
    refine Ev.run (pc' := 465) (ls' := [some (.ref mRO), some (.ref 0), some (.ref 24), some (.ref 41), some (.int x4), some (.int v2), o6, o7]) (st' := [.int (zi 0), .long ((zshlL (zI2L (X.2 ((x4 + (zi 1)).toNatClampNeg))) (zi 32)) ||| ((zI2L (X.2 ((x4 + (zi 2)).toNatClampNeg))) &&& (zl 4294967295))), .ref 24]) (h' := mk s1) 1 rfl ?_
    exact k256_465 hrec23 x4 v2 ((zshlL (zI2L (X.2 ((x4 + (zi 1)).toNatClampNeg))) (zi 32)) ||| ((zI2L (X.2 ((x4 + (zi 2)).toNatClampNeg))) &&& (zl 4294967295))) (zi 0) s1 _ _ _ h
  · have h := (if_neg hb).symm.trans h
    refine Ev.run (pc' := 465) (ls' := [some (.ref mRO), some (.ref 0), some (.ref 24), some (.ref 41), some (.int x4), some (.int v2), o6, o7]) (st' := [.int (zi 1), .long ((zshlL (zI2L (X.2 ((x4 + (zi 1)).toNatClampNeg))) (zi 32)) ||| ((zI2L (X.2 ((x4 + (zi 2)).toNatClampNeg))) &&& (zl 4294967295))), .ref 24]) (h' := mk s1) 2 rfl ?_
    exact k256_465 hrec23 x4 v2 ((zshlL (zI2L (X.2 ((x4 + (zi 1)).toNatClampNeg))) (zi 32)) ||| ((zI2L (X.2 ((x4 + (zi 2)).toNatClampNeg))) &&& (zl 4294967295))) (zi 1) s1 _ _ _ h
def f256_192 (X : mX) (rec23 : Int32 → zS → Option (Int32 × zS)) (x4 : Int32) (x5 : Int32) (y1 : Int64) (y2 : Int32) (y3 : Int32) (s : zS) : Option (Int32 × zS) := zb1 (f216 y1 y2 y3 s) (fun v2 s1 => if (r162 s1) = x5 then if ¬ x5 = zi 0 then rec23 (x4 + zi 5) s1 else if mIx (zi 0) 1 then if (s1.2.1 41 ((zi 0).toNatClampNeg)) = (zI2L v2) then rec23 (x4 + zi 5) s1 else some (zi 0, s1) else none else some (zi 0, s1))
set_option maxRecDepth 100000 in
theorem k256_192 {X : mX} {D : Nat} {rec23 : Int32 → zS → Option (Int32 × zS)} (hrec23 : ∀ (x4 : Int32) (s : zS) (r : Int32 × zS) (o5 : Option Value) (o6 : Option Value) (o7 : Option Value), rec23 x4 s = some r → Ev X (D + 14) mm256 23 [some (.ref mRO), some (.ref 0), some (.ref 24), some (.ref 41), some (.int x4), o5, o6, o7] [] (mk s) (encI r)) (x4 : Int32) (x5 : Int32) (y1 : Int64) (y2 : Int32) (y3 : Int32) (s : zS) (r : Int32 × zS) (o6 : Option Value) (o7 : Option Value)  (h : f256_192 X rec23 x4 x5 y1 y2 y3 s = some r) : Ev X (D + 14) mm256 192 [some (.ref mRO), some (.ref 0), some (.ref 24), some (.ref 41), some (.int x4), some (.int x5), o6, o7] [.int y3, .int y2, .long y1, .ref 24] (mk s) (encI r) := by
  unfold f256_192 at h
  obtain ⟨v2, s1, hq, h⟩ := zb1_some h
  refine Ev.call (M' := mm216) (v := some (.int v2)) (h' := mk s1) rfl rfl rfl (Nat.le_of_ble_eq_true rfl) (k216 hq) ?_
  refine Ev.run (pc' := 198) (ls' := [some (.ref mRO), some (.ref 0), some (.ref 24), some (.ref 41), some (.int x4), some (.int x5), some (.int v2), o7]) (st' := [.ref 24]) (h' := mk s1) 2 rfl ?_
  refine Ev.call (M' := mm162) (v := some (.int (r162 s1))) (h' := mk s1) rfl rfl rfl (Nat.le_of_ble_eq_true rfl) (k162  (s := s1) (v := r162 s1)  rfl) ?_
  refine Ev.run (pc' := 203) (ls' := [some (.ref mRO), some (.ref 0), some (.ref 24), some (.ref 41), some (.int x4), some (.int x5), some (.int v2), o7]) (st' := [.int x5, .int (r162 s1)]) (h' := mk s1) 1 rfl ?_
  refine Ev.icmp_eq (t := 208) rfl rfl (fun hb => ?_) (fun hb => ?_)
  · have h := (if_pos hb).symm.trans h
    refine Ev.run (pc' := 210) (ls' := [some (.ref mRO), some (.ref 0), some (.ref 24), some (.ref 41), some (.int x4), some (.int x5), some (.int v2), o7]) (st' := [.int x5]) (h' := mk s1) 1 rfl ?_
    refine Ev.if_ne (t := 225) rfl rfl (fun hb => ?_) (fun hb => ?_)
    · have h := (if_pos hb).symm.trans h
      refine Ev.run (pc' := 23) (ls' := [some (.ref mRO), some (.ref 0), some (.ref 24), some (.ref 41), some (.int (x4 + zi 5)), some (.int x5), some (.int v2), o7]) (st' := []) (h' := mk s1) 3 rfl ?_
      exact hrec23 (x4 + zi 5) s1 _ _ _ _ h
    · have h := (if_neg hb).symm.trans h
      refine Ev.run (pc' := 215) (ls' := [some (.ref mRO), some (.ref 0), some (.ref 24), some (.ref 41), some (.int x4), some (.int x5), some (.int v2), o7]) (st' := [.int (zi 0), .ref 41]) (h' := mk s1) 2 rfl ?_
      obtain ⟨hx, h⟩ := zif h
      refine Ev.step (pc' := 216) rfl (ald_l rfl hx) ?_
      refine Ev.run (pc' := 220) (ls' := [some (.ref mRO), some (.ref 0), some (.ref 24), some (.ref 41), some (.int x4), some (.int x5), some (.int v2), o7]) (st' := [.int (lg_cmp (s1.2.1 41 ((zi 0).toNatClampNeg)) (zI2L v2))]) (h' := mk s1) 3 rfl ?_
      refine Ev.ifl_eq (t := 225) rfl rfl (fun hb => ?_) (fun hb => ?_)
      · have h := (if_pos hb).symm.trans h
        refine Ev.run (pc' := 23) (ls' := [some (.ref mRO), some (.ref 0), some (.ref 24), some (.ref 41), some (.int (x4 + zi 5)), some (.int x5), some (.int v2), o7]) (st' := []) (h' := mk s1) 3 rfl ?_
        exact hrec23 (x4 + zi 5) s1 _ _ _ _ h
      · have h := (if_neg hb).symm.trans h
        refine Ev.run (pc' := 224) (ls' := [some (.ref mRO), some (.ref 0), some (.ref 24), some (.ref 41), some (.int x4), some (.int x5), some (.int v2), o7]) (st' := [.int (zi 0)]) (h' := mk s1) 1 rfl ?_
        first | (obtain rfl := Option.some.inj h) | (cases h)
        exact Ev.fin rfl rfl
  · have h := (if_neg hb).symm.trans h
    refine Ev.run (pc' := 207) (ls' := [some (.ref mRO), some (.ref 0), some (.ref 24), some (.ref 41), some (.int x4), some (.int x5), some (.int v2), o7]) (st' := [.int (zi 0)]) (h' := mk s1) 1 rfl ?_
    first | (obtain rfl := Option.some.inj h) | (cases h)
    exact Ev.fin rfl rfl
def f256_143 (X : mX) (rec23 : Int32 → zS → Option (Int32 × zS)) (x4 : Int32) (y1 : Int64) (y2 : Int32) (y3 : Int32) (s : zS) : Option (Int32 × zS) := zb1 (f248 y1 y2 y3 s) (fun v2 s1 => if mIx (x4 + (zi 1)) X.1 then if mIx (x4 + (zi 2)) X.1 then if mIx (x4 + (zi 3)) X.1 then if mIx (x4 + (zi 4)) X.1 then if (X.2 ((x4 + (zi 4)).toNatClampNeg)) = zi 0 then f256_192 X rec23 x4 v2 ((zshlL (zI2L (X.2 ((x4 + (zi 1)).toNatClampNeg))) (zi 32)) ||| ((zI2L (X.2 ((x4 + (zi 2)).toNatClampNeg))) &&& (zl 4294967295))) (X.2 ((x4 + (zi 3)).toNatClampNeg)) (zi 0) s1 else f256_192 X rec23 x4 v2 ((zshlL (zI2L (X.2 ((x4 + (zi 1)).toNatClampNeg))) (zi 32)) ||| ((zI2L (X.2 ((x4 + (zi 2)).toNatClampNeg))) &&& (zl 4294967295))) (X.2 ((x4 + (zi 3)).toNatClampNeg)) (zi 1) s1 else none else none else none else none)
set_option maxRecDepth 100000 in
theorem k256_143 {X : mX} {D : Nat} {rec23 : Int32 → zS → Option (Int32 × zS)} (hrec23 : ∀ (x4 : Int32) (s : zS) (r : Int32 × zS) (o5 : Option Value) (o6 : Option Value) (o7 : Option Value), rec23 x4 s = some r → Ev X (D + 14) mm256 23 [some (.ref mRO), some (.ref 0), some (.ref 24), some (.ref 41), some (.int x4), o5, o6, o7] [] (mk s) (encI r)) (x4 : Int32) (y1 : Int64) (y2 : Int32) (y3 : Int32) (s : zS) (r : Int32 × zS) (o5 : Option Value) (o6 : Option Value) (o7 : Option Value)  (h : f256_143 X rec23 x4 y1 y2 y3 s = some r) : Ev X (D + 14) mm256 143 [some (.ref mRO), some (.ref 0), some (.ref 24), some (.ref 41), some (.int x4), o5, o6, o7] [.int y3, .int y2, .long y1, .ref 0] (mk s) (encI r) := by
  unfold f256_143 at h
  refine Ev.run (pc' := 144) (ls' := [some (.ref mRO), some (.ref 0), some (.ref 24), some (.ref 41), some (.int x4), o5, o6, o7]) (st' := [.ref 41, .int y3, .int y2, .long y1, .ref 0]) (h' := mk s) 1 rfl ?_
  obtain ⟨v2, s1, hq, h⟩ := zb1_some h
  refine Ev.call (M' := mm248) (v := some (.int v2)) (h' := mk s1) rfl rfl rfl (Nat.le_of_ble_eq_true rfl) (k248 hq) ?_
  refine Ev.run (pc' := 155) (ls' := [some (.ref mRO), some (.ref 0), some (.ref 24), some (.ref 41), some (.int x4), some (.int v2), o6, o7]) (st' := [.int (x4 + (zi 1)), .ref mRO, .ref 24]) (h' := mk s1) 6 rfl ?_
  obtain ⟨hx, h⟩ := zif h
  refine Ev.step (pc' := 156) rfl (ald_i rfl hx) ?_
  refine Ev.run (pc' := 165) (ls' := [some (.ref mRO), some (.ref 0), some (.ref 24), some (.ref 41), some (.int x4), some (.int v2), o6, o7]) (st' := [.int (x4 + (zi 2)), .ref mRO, .long (zshlL (zI2L (X.2 ((x4 + (zi 1)).toNatClampNeg))) (zi 32)), .ref 24]) (h' := mk s1) 7 rfl ?_
  obtain ⟨hx, h⟩ := zif h
  refine Ev.step (pc' := 166) rfl (ald_i rfl hx) ?_
  refine Ev.run (pc' := 177) (ls' := [some (.ref mRO), some (.ref 0), some (.ref 24), some (.ref 41), some (.int x4), some (.int v2), o6, o7]) (st' := [.int (x4 + (zi 3)), .ref mRO, .long ((zshlL (zI2L (X.2 ((x4 + (zi 1)).toNatClampNeg))) (zi 32)) ||| ((zI2L (X.2 ((x4 + (zi 2)).toNatClampNeg))) &&& (zl 4294967295))), .ref 24]) (h' := mk s1) 8 rfl ?_
  obtain ⟨hx, h⟩ := zif h
  refine Ev.step (pc' := 178) rfl (ald_i rfl hx) ?_
  refine Ev.run (pc' := 183) (ls' := [some (.ref mRO), some (.ref 0), some (.ref 24), some (.ref 41), some (.int x4), some (.int v2), o6, o7]) (st' := [.int (x4 + (zi 4)), .ref mRO, .int (X.2 ((x4 + (zi 3)).toNatClampNeg)), .long ((zshlL (zI2L (X.2 ((x4 + (zi 1)).toNatClampNeg))) (zi 32)) ||| ((zI2L (X.2 ((x4 + (zi 2)).toNatClampNeg))) &&& (zl 4294967295))), .ref 24]) (h' := mk s1) 4 rfl ?_
  obtain ⟨hx, h⟩ := zif h
  refine Ev.step (pc' := 184) rfl (ald_i rfl hx) ?_
  refine Ev.if_eq (t := 191) rfl rfl (fun hb => ?_) (fun hb => ?_)
  · have h := (if_pos hb).symm.trans h
    refine Ev.run (pc' := 192) (ls' := [some (.ref mRO), some (.ref 0), some (.ref 24), some (.ref 41), some (.int x4), some (.int v2), o6, o7]) (st' := [.int (zi 0), .int (X.2 ((x4 + (zi 3)).toNatClampNeg)), .long ((zshlL (zI2L (X.2 ((x4 + (zi 1)).toNatClampNeg))) (zi 32)) ||| ((zI2L (X.2 ((x4 + (zi 2)).toNatClampNeg))) &&& (zl 4294967295))), .ref 24]) (h' := mk s1) 1 rfl ?_
    exact k256_192 hrec23 x4 v2 ((zshlL (zI2L (X.2 ((x4 + (zi 1)).toNatClampNeg))) (zi 32)) ||| ((zI2L (X.2 ((x4 + (zi 2)).toNatClampNeg))) &&& (zl 4294967295))) (X.2 ((x4 + (zi 3)).toNatClampNeg)) (zi 0) s1 _ _ _ h
  · have h := (if_neg hb).symm.trans h
    refine Ev.run (pc' := 192) (ls' := [some (.ref mRO), some (.ref 0), some (.ref 24), some (.ref 41), some (.int x4), some (.int v2), o6, o7]) (st' := [.int (zi 1), .int (X.2 ((x4 + (zi 3)).toNatClampNeg)), .long ((zshlL (zI2L (X.2 ((x4 + (zi 1)).toNatClampNeg))) (zi 32)) ||| ((zI2L (X.2 ((x4 + (zi 2)).toNatClampNeg))) &&& (zl 4294967295))), .ref 24]) (h' := mk s1) 2 rfl ?_
    exact k256_192 hrec23 x4 v2 ((zshlL (zI2L (X.2 ((x4 + (zi 1)).toNatClampNeg))) (zi 32)) ||| ((zI2L (X.2 ((x4 + (zi 2)).toNatClampNeg))) &&& (zl 4294967295))) (X.2 ((x4 + (zi 3)).toNatClampNeg)) (zi 1) s1 _ _ _ h
def b256_23 (X : mX) (rec23 : Int32 → zS → Option (Int32 × zS)) (x4 : Int32) (s : zS) : Option (Int32 × zS) := if x4 > ((Int32.ofNat X.1) - (zi 5)) then some (zi 1, s) else if mIx x4 X.1 then if ((X.2 x4.toNatClampNeg) &&& (zi 15)) = zi 0 then if mIx (x4 + (zi 1)) X.1 then if mIx (x4 + (zi 2)) X.1 then if mIx (x4 + (zi 3)) X.1 then if mIx (x4 + (zi 4)) X.1 then if (X.2 ((x4 + (zi 4)).toNatClampNeg)) = zi 0 then f256_143 X rec23 x4 ((zshlL (zI2L (X.2 ((x4 + (zi 1)).toNatClampNeg))) (zi 32)) ||| ((zI2L (X.2 ((x4 + (zi 2)).toNatClampNeg))) &&& (zl 4294967295))) (X.2 ((x4 + (zi 3)).toNatClampNeg)) (zi 0) s else f256_143 X rec23 x4 ((zshlL (zI2L (X.2 ((x4 + (zi 1)).toNatClampNeg))) (zi 32)) ||| ((zI2L (X.2 ((x4 + (zi 2)).toNatClampNeg))) &&& (zl 4294967295))) (X.2 ((x4 + (zi 3)).toNatClampNeg)) (zi 1) s else none else none else none else none else if ((X.2 x4.toNatClampNeg) &&& (zi 15)) = zi 1 then zb1 (f249 s) (fun v2 s1 => zb1 (f217 s1) (fun v4 s3 => if (r162 s3) = v2 then if ¬ v2 = zi 0 then rec23 (x4 + zi 5) s3 else if mIx (zi 0) 1 then if (s3.2.1 41 ((zi 0).toNatClampNeg)) = (zI2L v4) then rec23 (x4 + zi 5) s3 else some (zi 0, s3) else none else some (zi 0, s3))) else if ((X.2 x4.toNatClampNeg) &&& (zi 15)) = zi 2 then zb1 (f3 s) (fun v6 s5 => zb1 (f218 s5) (fun v8 s7 => if v6 = v8 then rec23 (x4 + zi 5) s7 else some (zi 0, s7))) else if ((X.2 x4.toNatClampNeg) &&& (zi 15)) = zi 3 then if mIx (x4 + (zi 1)) X.1 then if mIx (x4 + (zi 2)) X.1 then if mIx (x4 + (zi 3)) X.1 then zb1 (f250 (X.2 ((x4 + (zi 1)).toNatClampNeg)) ((zshlL (zI2L (X.2 ((x4 + (zi 2)).toNatClampNeg))) (zi 32)) ||| ((zI2L (X.2 ((x4 + (zi 3)).toNatClampNeg))) &&& (zl 4294967295))) s) (fun v10 s9 => if mIx (x4 + (zi 1)) X.1 then if mIx (x4 + (zi 2)) X.1 then if mIx (x4 + (zi 3)) X.1 then zb1 (f220 (X.2 ((x4 + (zi 1)).toNatClampNeg)) ((zshlL (zI2L (X.2 ((x4 + (zi 2)).toNatClampNeg))) (zi 32)) ||| ((zI2L (X.2 ((x4 + (zi 3)).toNatClampNeg))) &&& (zl 4294967295))) s9) (fun v12 s11 => if (r162 s11) = v10 then if ¬ v10 = zi 0 then rec23 (x4 + zi 5) s11 else if mIx (zi 0) 1 then if (s11.2.1 41 ((zi 0).toNatClampNeg)) = (zI2L v12) then rec23 (x4 + zi 5) s11 else some (zi 0, s11) else none else some (zi 0, s11)) else none else none else none) else none else none else none else if ((X.2 x4.toNatClampNeg) &&& (zi 15)) = zi 4 then if mIx (x4 + (zi 1)) X.1 then if mIx (x4 + (zi 2)) X.1 then if mIx (x4 + (zi 3)) X.1 then if (X.2 ((x4 + (zi 3)).toNatClampNeg)) = zi 0 then f256_422 X rec23 x4 ((zshlL (zI2L (X.2 ((x4 + (zi 1)).toNatClampNeg))) (zi 32)) ||| ((zI2L (X.2 ((x4 + (zi 2)).toNatClampNeg))) &&& (zl 4294967295))) (zi 0) s else f256_422 X rec23 x4 ((zshlL (zI2L (X.2 ((x4 + (zi 1)).toNatClampNeg))) (zi 32)) ||| ((zI2L (X.2 ((x4 + (zi 2)).toNatClampNeg))) &&& (zl 4294967295))) (zi 1) s else none else none else none else if ((X.2 x4.toNatClampNeg) &&& (zi 15)) = zi 5 then zb1 (f252 s) (fun v14 s13 => zb1 (f222 s13) (fun v16 s15 => if (r162 s15) = v14 then if ¬ v14 = zi 0 then rec23 (x4 + zi 5) s15 else if mIx (zi 0) 1 then if (s15.2.1 41 ((zi 0).toNatClampNeg)) = (zI2L v16) then rec23 (x4 + zi 5) s15 else some (zi 0, s15) else none else some (zi 0, s15))) else if ((X.2 x4.toNatClampNeg) &&& (zi 15)) = zi 6 then zb1 (f253 s) (fun v18 s17 => zb1 (f223 s17) (fun v20 s19 => if (r162 s19) = v18 then if ¬ v18 = zi 0 then rec23 (x4 + zi 5) s19 else if mIx (zi 0) 1 then if (s19.2.1 41 ((zi 0).toNatClampNeg)) = (zI2L v20) then rec23 (x4 + zi 5) s19 else some (zi 0, s19) else none else some (zi 0, s19))) else if ((X.2 x4.toNatClampNeg) &&& (zi 15)) = zi 7 then zb1 (f224 s) (fun v22 s21 => if (r8 s) = v22 then rec23 (x4 + zi 5) s21 else some (zi 0, s21)) else if ((X.2 x4.toNatClampNeg) &&& (zi 15)) = zi 8 then zb1 (f225 s) (fun v24 s23 => if (r9 s) = v24 then rec23 (x4 + zi 5) s23 else some (zi 0, s23)) else if ((X.2 x4.toNatClampNeg) &&& (zi 15)) = zi 9 then if mIx (x4 + (zi 1)) X.1 then zb1 (f254 (X.2 ((x4 + (zi 1)).toNatClampNeg)) s) (fun v26 s25 => if mIx (x4 + (zi 1)) X.1 then zb1 (f226 (X.2 ((x4 + (zi 1)).toNatClampNeg)) s25) (fun v28 s27 => if (r162 s27) = v26 then if ¬ v26 = zi 0 then rec23 (x4 + zi 5) s27 else if mIx (zi 0) 1 then if (s27.2.1 41 ((zi 0).toNatClampNeg)) = v28 then rec23 (x4 + zi 5) s27 else some (zi 0, s27) else none else some (zi 0, s27)) else none) else none else if ((X.2 x4.toNatClampNeg) &&& (zi 15)) = zi 10 then zb1 (f11 s) (fun v30 s29 => zb1 (f227 s29) (fun v32 s31 => if v30 = v32 then rec23 (x4 + zi 5) s31 else some (zi 0, s31))) else if ((X.2 x4.toNatClampNeg) &&& (zi 15)) = zi 11 then if mIx (x4 + (zi 1)) X.1 then if (X.2 ((x4 + (zi 1)).toNatClampNeg)) = zi 0 then f256_699 X rec23 x4 (zi 0) s else f256_699 X rec23 x4 (zi 1) s else none else rec23 (x4 + zi 5) s else none
set_option maxRecDepth 100000 in
theorem kb256_23 {X : mX} {D : Nat} {rec23 : Int32 → zS → Option (Int32 × zS)} (hrec23 : ∀ (x4 : Int32) (s : zS) (r : Int32 × zS) (o5 : Option Value) (o6 : Option Value) (o7 : Option Value), rec23 x4 s = some r → Ev X (D + 14) mm256 23 [some (.ref mRO), some (.ref 0), some (.ref 24), some (.ref 41), some (.int x4), o5, o6, o7] [] (mk s) (encI r)) (x4 : Int32) (s : zS) (r : Int32 × zS) (o5 : Option Value) (o6 : Option Value) (o7 : Option Value)  (h : b256_23 X rec23 x4 s = some r) : Ev X (D + 14) mm256 23 [some (.ref mRO), some (.ref 0), some (.ref 24), some (.ref 41), some (.int x4), o5, o6, o7] [] (mk s) (encI r) := by
  unfold b256_23 at h
  refine Ev.run (pc' := 29) (ls' := [some (.ref mRO), some (.ref 0), some (.ref 24), some (.ref 41), some (.int x4), o5, o6, o7]) (st' := [.int ((Int32.ofNat X.1) - (zi 5)), .int x4]) (h' := mk s) 5 rfl ?_
  refine Ev.icmp_gt (t := 761) rfl rfl (fun hb => ?_) (fun hb => ?_)
  · have h := (if_pos hb).symm.trans h
    refine Ev.run (pc' := 762) (ls' := [some (.ref mRO), some (.ref 0), some (.ref 24), some (.ref 41), some (.int x4), o5, o6, o7]) (st' := [.int (zi 1)]) (h' := mk s) 1 rfl ?_
    first | (obtain rfl := Option.some.inj h) | (cases h)
    exact Ev.fin rfl rfl
  · have h := (if_neg hb).symm.trans h
    refine Ev.run (pc' := 35) (ls' := [some (.ref mRO), some (.ref 0), some (.ref 24), some (.ref 41), some (.int x4), o5, o6, o7]) (st' := [.int x4, .ref mRO]) (h' := mk s) 2 rfl ?_
    obtain ⟨hx, h⟩ := zif h
    refine Ev.step (pc' := 36) rfl (ald_i rfl hx) ?_
    refine Ev.run (pc' := 39) (ls' := [some (.ref mRO), some (.ref 0), some (.ref 24), some (.ref 41), some (.int x4), o5, o6, o7]) (st' := [.int ((X.2 x4.toNatClampNeg) &&& (zi 15))]) (h' := mk s) 2 rfl ?_
    by_cases hb : ((X.2 x4.toNatClampNeg) &&& (zi 15)) = zi 0
    · have h := (if_pos hb).symm.trans h
      refine Ev.tsw (t := 100) (k := 0) rfl hb (by rfl) ?_
      refine Ev.run (pc' := 106) (ls' := [some (.ref mRO), some (.ref 0), some (.ref 24), some (.ref 41), some (.int x4), o5, o6, o7]) (st' := [.int (x4 + (zi 1)), .ref mRO, .ref 0]) (h' := mk s) 5 rfl ?_
      obtain ⟨hx, h⟩ := zif h
      refine Ev.step (pc' := 107) rfl (ald_i rfl hx) ?_
      refine Ev.run (pc' := 116) (ls' := [some (.ref mRO), some (.ref 0), some (.ref 24), some (.ref 41), some (.int x4), o5, o6, o7]) (st' := [.int (x4 + (zi 2)), .ref mRO, .long (zshlL (zI2L (X.2 ((x4 + (zi 1)).toNatClampNeg))) (zi 32)), .ref 0]) (h' := mk s) 7 rfl ?_
      obtain ⟨hx, h⟩ := zif h
      refine Ev.step (pc' := 117) rfl (ald_i rfl hx) ?_
      refine Ev.run (pc' := 128) (ls' := [some (.ref mRO), some (.ref 0), some (.ref 24), some (.ref 41), some (.int x4), o5, o6, o7]) (st' := [.int (x4 + (zi 3)), .ref mRO, .long ((zshlL (zI2L (X.2 ((x4 + (zi 1)).toNatClampNeg))) (zi 32)) ||| ((zI2L (X.2 ((x4 + (zi 2)).toNatClampNeg))) &&& (zl 4294967295))), .ref 0]) (h' := mk s) 8 rfl ?_
      obtain ⟨hx, h⟩ := zif h
      refine Ev.step (pc' := 129) rfl (ald_i rfl hx) ?_
      refine Ev.run (pc' := 134) (ls' := [some (.ref mRO), some (.ref 0), some (.ref 24), some (.ref 41), some (.int x4), o5, o6, o7]) (st' := [.int (x4 + (zi 4)), .ref mRO, .int (X.2 ((x4 + (zi 3)).toNatClampNeg)), .long ((zshlL (zI2L (X.2 ((x4 + (zi 1)).toNatClampNeg))) (zi 32)) ||| ((zI2L (X.2 ((x4 + (zi 2)).toNatClampNeg))) &&& (zl 4294967295))), .ref 0]) (h' := mk s) 4 rfl ?_
      obtain ⟨hx, h⟩ := zif h
      refine Ev.step (pc' := 135) rfl (ald_i rfl hx) ?_
      refine Ev.if_eq (t := 142) rfl rfl (fun hb => ?_) (fun hb => ?_)
      · have h := (if_pos hb).symm.trans h
        refine Ev.run (pc' := 143) (ls' := [some (.ref mRO), some (.ref 0), some (.ref 24), some (.ref 41), some (.int x4), o5, o6, o7]) (st' := [.int (zi 0), .int (X.2 ((x4 + (zi 3)).toNatClampNeg)), .long ((zshlL (zI2L (X.2 ((x4 + (zi 1)).toNatClampNeg))) (zi 32)) ||| ((zI2L (X.2 ((x4 + (zi 2)).toNatClampNeg))) &&& (zl 4294967295))), .ref 0]) (h' := mk s) 1 rfl ?_
        exact k256_143 hrec23 x4 ((zshlL (zI2L (X.2 ((x4 + (zi 1)).toNatClampNeg))) (zi 32)) ||| ((zI2L (X.2 ((x4 + (zi 2)).toNatClampNeg))) &&& (zl 4294967295))) (X.2 ((x4 + (zi 3)).toNatClampNeg)) (zi 0) s _ _ _ _ h
      · have h := (if_neg hb).symm.trans h
        refine Ev.run (pc' := 143) (ls' := [some (.ref mRO), some (.ref 0), some (.ref 24), some (.ref 41), some (.int x4), o5, o6, o7]) (st' := [.int (zi 1), .int (X.2 ((x4 + (zi 3)).toNatClampNeg)), .long ((zshlL (zI2L (X.2 ((x4 + (zi 1)).toNatClampNeg))) (zi 32)) ||| ((zI2L (X.2 ((x4 + (zi 2)).toNatClampNeg))) &&& (zl 4294967295))), .ref 0]) (h' := mk s) 2 rfl ?_
        exact k256_143 hrec23 x4 ((zshlL (zI2L (X.2 ((x4 + (zi 1)).toNatClampNeg))) (zi 32)) ||| ((zI2L (X.2 ((x4 + (zi 2)).toNatClampNeg))) &&& (zl 4294967295))) (X.2 ((x4 + (zi 3)).toNatClampNeg)) (zi 1) s _ _ _ _ h
    have h := (if_neg hb).symm.trans h
    have n_0 := hb
    clear hb
    by_cases hb : ((X.2 x4.toNatClampNeg) &&& (zi 15)) = zi 1
    · have h := (if_pos hb).symm.trans h
      refine Ev.tsw (t := 228) (k := 1) rfl hb (by rfl) ?_
      refine Ev.run (pc' := 230) (ls' := [some (.ref mRO), some (.ref 0), some (.ref 24), some (.ref 41), some (.int x4), o5, o6, o7]) (st' := [.ref 41, .ref 0]) (h' := mk s) 2 rfl ?_
      obtain ⟨v2, s1, hq, h⟩ := zb1_some h
      refine Ev.call (M' := mm249) (v := some (.int v2)) (h' := mk s1) rfl rfl rfl (Nat.le_of_ble_eq_true rfl) (k249 hq) ?_
      refine Ev.run (pc' := 236) (ls' := [some (.ref mRO), some (.ref 0), some (.ref 24), some (.ref 41), some (.int x4), some (.int v2), o6, o7]) (st' := [.ref 24]) (h' := mk s1) 2 rfl ?_
      obtain ⟨v4, s3, hq, h⟩ := zb1_some h
      refine Ev.call (M' := mm217) (v := some (.int v4)) (h' := mk s3) rfl rfl rfl (Nat.le_of_ble_eq_true rfl) (k217 hq) ?_
      refine Ev.run (pc' := 242) (ls' := [some (.ref mRO), some (.ref 0), some (.ref 24), some (.ref 41), some (.int x4), some (.int v2), some (.int v4), o7]) (st' := [.ref 24]) (h' := mk s3) 2 rfl ?_
      refine Ev.call (M' := mm162) (v := some (.int (r162 s3))) (h' := mk s3) rfl rfl rfl (Nat.le_of_ble_eq_true rfl) (k162  (s := s3) (v := r162 s3)  rfl) ?_
      refine Ev.run (pc' := 247) (ls' := [some (.ref mRO), some (.ref 0), some (.ref 24), some (.ref 41), some (.int x4), some (.int v2), some (.int v4), o7]) (st' := [.int v2, .int (r162 s3)]) (h' := mk s3) 1 rfl ?_
      refine Ev.icmp_eq (t := 252) rfl rfl (fun hb => ?_) (fun hb => ?_)
      · have h := (if_pos hb).symm.trans h
        refine Ev.run (pc' := 254) (ls' := [some (.ref mRO), some (.ref 0), some (.ref 24), some (.ref 41), some (.int x4), some (.int v2), some (.int v4), o7]) (st' := [.int v2]) (h' := mk s3) 1 rfl ?_
        refine Ev.if_ne (t := 269) rfl rfl (fun hb => ?_) (fun hb => ?_)
        · have h := (if_pos hb).symm.trans h
          refine Ev.run (pc' := 23) (ls' := [some (.ref mRO), some (.ref 0), some (.ref 24), some (.ref 41), some (.int (x4 + zi 5)), some (.int v2), some (.int v4), o7]) (st' := []) (h' := mk s3) 3 rfl ?_
          exact hrec23 (x4 + zi 5) s3 _ _ _ _ h
        · have h := (if_neg hb).symm.trans h
          refine Ev.run (pc' := 259) (ls' := [some (.ref mRO), some (.ref 0), some (.ref 24), some (.ref 41), some (.int x4), some (.int v2), some (.int v4), o7]) (st' := [.int (zi 0), .ref 41]) (h' := mk s3) 2 rfl ?_
          obtain ⟨hx, h⟩ := zif h
          refine Ev.step (pc' := 260) rfl (ald_l rfl hx) ?_
          refine Ev.run (pc' := 264) (ls' := [some (.ref mRO), some (.ref 0), some (.ref 24), some (.ref 41), some (.int x4), some (.int v2), some (.int v4), o7]) (st' := [.int (lg_cmp (s3.2.1 41 ((zi 0).toNatClampNeg)) (zI2L v4))]) (h' := mk s3) 3 rfl ?_
          refine Ev.ifl_eq (t := 269) rfl rfl (fun hb => ?_) (fun hb => ?_)
          · have h := (if_pos hb).symm.trans h
            refine Ev.run (pc' := 23) (ls' := [some (.ref mRO), some (.ref 0), some (.ref 24), some (.ref 41), some (.int (x4 + zi 5)), some (.int v2), some (.int v4), o7]) (st' := []) (h' := mk s3) 3 rfl ?_
            exact hrec23 (x4 + zi 5) s3 _ _ _ _ h
          · have h := (if_neg hb).symm.trans h
            refine Ev.run (pc' := 268) (ls' := [some (.ref mRO), some (.ref 0), some (.ref 24), some (.ref 41), some (.int x4), some (.int v2), some (.int v4), o7]) (st' := [.int (zi 0)]) (h' := mk s3) 1 rfl ?_
            first | (obtain rfl := Option.some.inj h) | (cases h)
            exact Ev.fin rfl rfl
      · have h := (if_neg hb).symm.trans h
        refine Ev.run (pc' := 251) (ls' := [some (.ref mRO), some (.ref 0), some (.ref 24), some (.ref 41), some (.int x4), some (.int v2), some (.int v4), o7]) (st' := [.int (zi 0)]) (h' := mk s3) 1 rfl ?_
        first | (obtain rfl := Option.some.inj h) | (cases h)
        exact Ev.fin rfl rfl
    have h := (if_neg hb).symm.trans h
    have n_1 := hb
    clear hb
    by_cases hb : ((X.2 x4.toNatClampNeg) &&& (zi 15)) = zi 2
    · have h := (if_pos hb).symm.trans h
      refine Ev.tsw (t := 272) (k := 2) rfl hb (by rfl) ?_
      refine Ev.run (pc' := 273) (ls' := [some (.ref mRO), some (.ref 0), some (.ref 24), some (.ref 41), some (.int x4), o5, o6, o7]) (st' := [.ref 0]) (h' := mk s) 1 rfl ?_
      obtain ⟨v6, s5, hq, h⟩ := zb1_some h
      refine Ev.call (M' := mm3) (v := some (.int v6)) (h' := mk s5) rfl rfl rfl (Nat.le_of_ble_eq_true rfl) (k3 hq) ?_
      refine Ev.run (pc' := 277) (ls' := [some (.ref mRO), some (.ref 0), some (.ref 24), some (.ref 41), some (.int x4), o5, o6, o7]) (st' := [.ref 24, .int v6]) (h' := mk s5) 1 rfl ?_
      obtain ⟨v8, s7, hq, h⟩ := zb1_some h
      refine Ev.call (M' := mm218) (v := some (.int v8)) (h' := mk s7) rfl rfl rfl (Nat.le_of_ble_eq_true rfl) (k218 hq) ?_
      refine Ev.icmp_eq (t := 755) rfl rfl (fun hb => ?_) (fun hb => ?_)
      · have h := (if_pos hb).symm.trans h
        refine Ev.run (pc' := 23) (ls' := [some (.ref mRO), some (.ref 0), some (.ref 24), some (.ref 41), some (.int (x4 + zi 5)), o5, o6, o7]) (st' := []) (h' := mk s7) 2 rfl ?_
        exact hrec23 (x4 + zi 5) s7 _ _ _ _ h
      · have h := (if_neg hb).symm.trans h
        refine Ev.run (pc' := 284) (ls' := [some (.ref mRO), some (.ref 0), some (.ref 24), some (.ref 41), some (.int x4), o5, o6, o7]) (st' := [.int (zi 0)]) (h' := mk s7) 1 rfl ?_
        first | (obtain rfl := Option.some.inj h) | (cases h)
        exact Ev.fin rfl rfl
    have h := (if_neg hb).symm.trans h
    have n_2 := hb
    clear hb
    by_cases hb : ((X.2 x4.toNatClampNeg) &&& (zi 15)) = zi 3
    · have h := (if_pos hb).symm.trans h
      refine Ev.tsw (t := 285) (k := 3) rfl hb (by rfl) ?_
      refine Ev.run (pc' := 291) (ls' := [some (.ref mRO), some (.ref 0), some (.ref 24), some (.ref 41), some (.int x4), o5, o6, o7]) (st' := [.int (x4 + (zi 1)), .ref mRO, .ref 0]) (h' := mk s) 5 rfl ?_
      obtain ⟨hx, h⟩ := zif h
      refine Ev.step (pc' := 292) rfl (ald_i rfl hx) ?_
      refine Ev.run (pc' := 297) (ls' := [some (.ref mRO), some (.ref 0), some (.ref 24), some (.ref 41), some (.int x4), o5, o6, o7]) (st' := [.int (x4 + (zi 2)), .ref mRO, .int (X.2 ((x4 + (zi 1)).toNatClampNeg)), .ref 0]) (h' := mk s) 4 rfl ?_
      obtain ⟨hx, h⟩ := zif h
      refine Ev.step (pc' := 298) rfl (ald_i rfl hx) ?_
      refine Ev.run (pc' := 307) (ls' := [some (.ref mRO), some (.ref 0), some (.ref 24), some (.ref 41), some (.int x4), o5, o6, o7]) (st' := [.int (x4 + (zi 3)), .ref mRO, .long (zshlL (zI2L (X.2 ((x4 + (zi 2)).toNatClampNeg))) (zi 32)), .int (X.2 ((x4 + (zi 1)).toNatClampNeg)), .ref 0]) (h' := mk s) 7 rfl ?_
      obtain ⟨hx, h⟩ := zif h
      refine Ev.step (pc' := 308) rfl (ald_i rfl hx) ?_
      refine Ev.run (pc' := 315) (ls' := [some (.ref mRO), some (.ref 0), some (.ref 24), some (.ref 41), some (.int x4), o5, o6, o7]) (st' := [.ref 41, .long ((zshlL (zI2L (X.2 ((x4 + (zi 2)).toNatClampNeg))) (zi 32)) ||| ((zI2L (X.2 ((x4 + (zi 3)).toNatClampNeg))) &&& (zl 4294967295))), .int (X.2 ((x4 + (zi 1)).toNatClampNeg)), .ref 0]) (h' := mk s) 5 rfl ?_
      obtain ⟨v10, s9, hq, h⟩ := zb1_some h
      refine Ev.call (M' := mm250) (v := some (.int v10)) (h' := mk s9) rfl rfl rfl (Nat.le_of_ble_eq_true rfl) (k250 hq) ?_
      refine Ev.run (pc' := 326) (ls' := [some (.ref mRO), some (.ref 0), some (.ref 24), some (.ref 41), some (.int x4), some (.int v10), o6, o7]) (st' := [.int (x4 + (zi 1)), .ref mRO, .ref 24]) (h' := mk s9) 6 rfl ?_
      obtain ⟨hx, h⟩ := zif h
      refine Ev.step (pc' := 327) rfl (ald_i rfl hx) ?_
      refine Ev.run (pc' := 332) (ls' := [some (.ref mRO), some (.ref 0), some (.ref 24), some (.ref 41), some (.int x4), some (.int v10), o6, o7]) (st' := [.int (x4 + (zi 2)), .ref mRO, .int (X.2 ((x4 + (zi 1)).toNatClampNeg)), .ref 24]) (h' := mk s9) 4 rfl ?_
      obtain ⟨hx, h⟩ := zif h
      refine Ev.step (pc' := 333) rfl (ald_i rfl hx) ?_
      refine Ev.run (pc' := 342) (ls' := [some (.ref mRO), some (.ref 0), some (.ref 24), some (.ref 41), some (.int x4), some (.int v10), o6, o7]) (st' := [.int (x4 + (zi 3)), .ref mRO, .long (zshlL (zI2L (X.2 ((x4 + (zi 2)).toNatClampNeg))) (zi 32)), .int (X.2 ((x4 + (zi 1)).toNatClampNeg)), .ref 24]) (h' := mk s9) 7 rfl ?_
      obtain ⟨hx, h⟩ := zif h
      refine Ev.step (pc' := 343) rfl (ald_i rfl hx) ?_
      refine Ev.run (pc' := 349) (ls' := [some (.ref mRO), some (.ref 0), some (.ref 24), some (.ref 41), some (.int x4), some (.int v10), o6, o7]) (st' := [.long ((zshlL (zI2L (X.2 ((x4 + (zi 2)).toNatClampNeg))) (zi 32)) ||| ((zI2L (X.2 ((x4 + (zi 3)).toNatClampNeg))) &&& (zl 4294967295))), .int (X.2 ((x4 + (zi 1)).toNatClampNeg)), .ref 24]) (h' := mk s9) 4 rfl ?_
      obtain ⟨v12, s11, hq, h⟩ := zb1_some h
      refine Ev.call (M' := mm220) (v := some (.int v12)) (h' := mk s11) rfl rfl rfl (Nat.le_of_ble_eq_true rfl) (k220 hq) ?_
      refine Ev.run (pc' := 355) (ls' := [some (.ref mRO), some (.ref 0), some (.ref 24), some (.ref 41), some (.int x4), some (.int v10), some (.int v12), o7]) (st' := [.ref 24]) (h' := mk s11) 2 rfl ?_
      refine Ev.call (M' := mm162) (v := some (.int (r162 s11))) (h' := mk s11) rfl rfl rfl (Nat.le_of_ble_eq_true rfl) (k162  (s := s11) (v := r162 s11)  rfl) ?_
      refine Ev.run (pc' := 360) (ls' := [some (.ref mRO), some (.ref 0), some (.ref 24), some (.ref 41), some (.int x4), some (.int v10), some (.int v12), o7]) (st' := [.int v10, .int (r162 s11)]) (h' := mk s11) 1 rfl ?_
      refine Ev.icmp_eq (t := 365) rfl rfl (fun hb => ?_) (fun hb => ?_)
      · have h := (if_pos hb).symm.trans h
        refine Ev.run (pc' := 367) (ls' := [some (.ref mRO), some (.ref 0), some (.ref 24), some (.ref 41), some (.int x4), some (.int v10), some (.int v12), o7]) (st' := [.int v10]) (h' := mk s11) 1 rfl ?_
        refine Ev.if_ne (t := 382) rfl rfl (fun hb => ?_) (fun hb => ?_)
        · have h := (if_pos hb).symm.trans h
          refine Ev.run (pc' := 23) (ls' := [some (.ref mRO), some (.ref 0), some (.ref 24), some (.ref 41), some (.int (x4 + zi 5)), some (.int v10), some (.int v12), o7]) (st' := []) (h' := mk s11) 3 rfl ?_
          exact hrec23 (x4 + zi 5) s11 _ _ _ _ h
        · have h := (if_neg hb).symm.trans h
          refine Ev.run (pc' := 372) (ls' := [some (.ref mRO), some (.ref 0), some (.ref 24), some (.ref 41), some (.int x4), some (.int v10), some (.int v12), o7]) (st' := [.int (zi 0), .ref 41]) (h' := mk s11) 2 rfl ?_
          obtain ⟨hx, h⟩ := zif h
          refine Ev.step (pc' := 373) rfl (ald_l rfl hx) ?_
          refine Ev.run (pc' := 377) (ls' := [some (.ref mRO), some (.ref 0), some (.ref 24), some (.ref 41), some (.int x4), some (.int v10), some (.int v12), o7]) (st' := [.int (lg_cmp (s11.2.1 41 ((zi 0).toNatClampNeg)) (zI2L v12))]) (h' := mk s11) 3 rfl ?_
          refine Ev.ifl_eq (t := 382) rfl rfl (fun hb => ?_) (fun hb => ?_)
          · have h := (if_pos hb).symm.trans h
            refine Ev.run (pc' := 23) (ls' := [some (.ref mRO), some (.ref 0), some (.ref 24), some (.ref 41), some (.int (x4 + zi 5)), some (.int v10), some (.int v12), o7]) (st' := []) (h' := mk s11) 3 rfl ?_
            exact hrec23 (x4 + zi 5) s11 _ _ _ _ h
          · have h := (if_neg hb).symm.trans h
            refine Ev.run (pc' := 381) (ls' := [some (.ref mRO), some (.ref 0), some (.ref 24), some (.ref 41), some (.int x4), some (.int v10), some (.int v12), o7]) (st' := [.int (zi 0)]) (h' := mk s11) 1 rfl ?_
            first | (obtain rfl := Option.some.inj h) | (cases h)
            exact Ev.fin rfl rfl
      · have h := (if_neg hb).symm.trans h
        refine Ev.run (pc' := 364) (ls' := [some (.ref mRO), some (.ref 0), some (.ref 24), some (.ref 41), some (.int x4), some (.int v10), some (.int v12), o7]) (st' := [.int (zi 0)]) (h' := mk s11) 1 rfl ?_
        first | (obtain rfl := Option.some.inj h) | (cases h)
        exact Ev.fin rfl rfl
    have h := (if_neg hb).symm.trans h
    have n_3 := hb
    clear hb
    by_cases hb : ((X.2 x4.toNatClampNeg) &&& (zi 15)) = zi 4
    · have h := (if_pos hb).symm.trans h
      refine Ev.tsw (t := 385) (k := 4) rfl hb (by rfl) ?_
      refine Ev.run (pc' := 391) (ls' := [some (.ref mRO), some (.ref 0), some (.ref 24), some (.ref 41), some (.int x4), o5, o6, o7]) (st' := [.int (x4 + (zi 1)), .ref mRO, .ref 0]) (h' := mk s) 5 rfl ?_
      obtain ⟨hx, h⟩ := zif h
      refine Ev.step (pc' := 392) rfl (ald_i rfl hx) ?_
      refine Ev.run (pc' := 401) (ls' := [some (.ref mRO), some (.ref 0), some (.ref 24), some (.ref 41), some (.int x4), o5, o6, o7]) (st' := [.int (x4 + (zi 2)), .ref mRO, .long (zshlL (zI2L (X.2 ((x4 + (zi 1)).toNatClampNeg))) (zi 32)), .ref 0]) (h' := mk s) 7 rfl ?_
      obtain ⟨hx, h⟩ := zif h
      refine Ev.step (pc' := 402) rfl (ald_i rfl hx) ?_
      refine Ev.run (pc' := 413) (ls' := [some (.ref mRO), some (.ref 0), some (.ref 24), some (.ref 41), some (.int x4), o5, o6, o7]) (st' := [.int (x4 + (zi 3)), .ref mRO, .long ((zshlL (zI2L (X.2 ((x4 + (zi 1)).toNatClampNeg))) (zi 32)) ||| ((zI2L (X.2 ((x4 + (zi 2)).toNatClampNeg))) &&& (zl 4294967295))), .ref 0]) (h' := mk s) 8 rfl ?_
      obtain ⟨hx, h⟩ := zif h
      refine Ev.step (pc' := 414) rfl (ald_i rfl hx) ?_
      refine Ev.if_eq (t := 421) rfl rfl (fun hb => ?_) (fun hb => ?_)
      · have h := (if_pos hb).symm.trans h
        refine Ev.run (pc' := 422) (ls' := [some (.ref mRO), some (.ref 0), some (.ref 24), some (.ref 41), some (.int x4), o5, o6, o7]) (st' := [.int (zi 0), .long ((zshlL (zI2L (X.2 ((x4 + (zi 1)).toNatClampNeg))) (zi 32)) ||| ((zI2L (X.2 ((x4 + (zi 2)).toNatClampNeg))) &&& (zl 4294967295))), .ref 0]) (h' := mk s) 1 rfl ?_
        exact k256_422 hrec23 x4 ((zshlL (zI2L (X.2 ((x4 + (zi 1)).toNatClampNeg))) (zi 32)) ||| ((zI2L (X.2 ((x4 + (zi 2)).toNatClampNeg))) &&& (zl 4294967295))) (zi 0) s _ _ _ _ h
      · have h := (if_neg hb).symm.trans h
        refine Ev.run (pc' := 422) (ls' := [some (.ref mRO), some (.ref 0), some (.ref 24), some (.ref 41), some (.int x4), o5, o6, o7]) (st' := [.int (zi 1), .long ((zshlL (zI2L (X.2 ((x4 + (zi 1)).toNatClampNeg))) (zi 32)) ||| ((zI2L (X.2 ((x4 + (zi 2)).toNatClampNeg))) &&& (zl 4294967295))), .ref 0]) (h' := mk s) 2 rfl ?_
        exact k256_422 hrec23 x4 ((zshlL (zI2L (X.2 ((x4 + (zi 1)).toNatClampNeg))) (zi 32)) ||| ((zI2L (X.2 ((x4 + (zi 2)).toNatClampNeg))) &&& (zl 4294967295))) (zi 1) s _ _ _ _ h
    have h := (if_neg hb).symm.trans h
    have n_4 := hb
    clear hb
    by_cases hb : ((X.2 x4.toNatClampNeg) &&& (zi 15)) = zi 5
    · have h := (if_pos hb).symm.trans h
      refine Ev.tsw (t := 501) (k := 5) rfl hb (by rfl) ?_
      refine Ev.run (pc' := 503) (ls' := [some (.ref mRO), some (.ref 0), some (.ref 24), some (.ref 41), some (.int x4), o5, o6, o7]) (st' := [.ref 41, .ref 0]) (h' := mk s) 2 rfl ?_
      obtain ⟨v14, s13, hq, h⟩ := zb1_some h
      refine Ev.call (M' := mm252) (v := some (.int v14)) (h' := mk s13) rfl rfl rfl (Nat.le_of_ble_eq_true rfl) (k252 hq) ?_
      refine Ev.run (pc' := 509) (ls' := [some (.ref mRO), some (.ref 0), some (.ref 24), some (.ref 41), some (.int x4), some (.int v14), o6, o7]) (st' := [.ref 24]) (h' := mk s13) 2 rfl ?_
      obtain ⟨v16, s15, hq, h⟩ := zb1_some h
      refine Ev.call (M' := mm222) (v := some (.int v16)) (h' := mk s15) rfl rfl rfl (Nat.le_of_ble_eq_true rfl) (k222 hq) ?_
      refine Ev.run (pc' := 515) (ls' := [some (.ref mRO), some (.ref 0), some (.ref 24), some (.ref 41), some (.int x4), some (.int v14), some (.int v16), o7]) (st' := [.ref 24]) (h' := mk s15) 2 rfl ?_
      refine Ev.call (M' := mm162) (v := some (.int (r162 s15))) (h' := mk s15) rfl rfl rfl (Nat.le_of_ble_eq_true rfl) (k162  (s := s15) (v := r162 s15)  rfl) ?_
      refine Ev.run (pc' := 520) (ls' := [some (.ref mRO), some (.ref 0), some (.ref 24), some (.ref 41), some (.int x4), some (.int v14), some (.int v16), o7]) (st' := [.int v14, .int (r162 s15)]) (h' := mk s15) 1 rfl ?_
      refine Ev.icmp_eq (t := 525) rfl rfl (fun hb => ?_) (fun hb => ?_)
      · have h := (if_pos hb).symm.trans h
        refine Ev.run (pc' := 527) (ls' := [some (.ref mRO), some (.ref 0), some (.ref 24), some (.ref 41), some (.int x4), some (.int v14), some (.int v16), o7]) (st' := [.int v14]) (h' := mk s15) 1 rfl ?_
        refine Ev.if_ne (t := 542) rfl rfl (fun hb => ?_) (fun hb => ?_)
        · have h := (if_pos hb).symm.trans h
          refine Ev.run (pc' := 23) (ls' := [some (.ref mRO), some (.ref 0), some (.ref 24), some (.ref 41), some (.int (x4 + zi 5)), some (.int v14), some (.int v16), o7]) (st' := []) (h' := mk s15) 3 rfl ?_
          exact hrec23 (x4 + zi 5) s15 _ _ _ _ h
        · have h := (if_neg hb).symm.trans h
          refine Ev.run (pc' := 532) (ls' := [some (.ref mRO), some (.ref 0), some (.ref 24), some (.ref 41), some (.int x4), some (.int v14), some (.int v16), o7]) (st' := [.int (zi 0), .ref 41]) (h' := mk s15) 2 rfl ?_
          obtain ⟨hx, h⟩ := zif h
          refine Ev.step (pc' := 533) rfl (ald_l rfl hx) ?_
          refine Ev.run (pc' := 537) (ls' := [some (.ref mRO), some (.ref 0), some (.ref 24), some (.ref 41), some (.int x4), some (.int v14), some (.int v16), o7]) (st' := [.int (lg_cmp (s15.2.1 41 ((zi 0).toNatClampNeg)) (zI2L v16))]) (h' := mk s15) 3 rfl ?_
          refine Ev.ifl_eq (t := 542) rfl rfl (fun hb => ?_) (fun hb => ?_)
          · have h := (if_pos hb).symm.trans h
            refine Ev.run (pc' := 23) (ls' := [some (.ref mRO), some (.ref 0), some (.ref 24), some (.ref 41), some (.int (x4 + zi 5)), some (.int v14), some (.int v16), o7]) (st' := []) (h' := mk s15) 3 rfl ?_
            exact hrec23 (x4 + zi 5) s15 _ _ _ _ h
          · have h := (if_neg hb).symm.trans h
            refine Ev.run (pc' := 541) (ls' := [some (.ref mRO), some (.ref 0), some (.ref 24), some (.ref 41), some (.int x4), some (.int v14), some (.int v16), o7]) (st' := [.int (zi 0)]) (h' := mk s15) 1 rfl ?_
            first | (obtain rfl := Option.some.inj h) | (cases h)
            exact Ev.fin rfl rfl
      · have h := (if_neg hb).symm.trans h
        refine Ev.run (pc' := 524) (ls' := [some (.ref mRO), some (.ref 0), some (.ref 24), some (.ref 41), some (.int x4), some (.int v14), some (.int v16), o7]) (st' := [.int (zi 0)]) (h' := mk s15) 1 rfl ?_
        first | (obtain rfl := Option.some.inj h) | (cases h)
        exact Ev.fin rfl rfl
    have h := (if_neg hb).symm.trans h
    have n_5 := hb
    clear hb
    by_cases hb : ((X.2 x4.toNatClampNeg) &&& (zi 15)) = zi 6
    · have h := (if_pos hb).symm.trans h
      refine Ev.tsw (t := 545) (k := 6) rfl hb (by rfl) ?_
      refine Ev.run (pc' := 547) (ls' := [some (.ref mRO), some (.ref 0), some (.ref 24), some (.ref 41), some (.int x4), o5, o6, o7]) (st' := [.ref 41, .ref 0]) (h' := mk s) 2 rfl ?_
      obtain ⟨v18, s17, hq, h⟩ := zb1_some h
      refine Ev.call (M' := mm253) (v := some (.int v18)) (h' := mk s17) rfl rfl rfl (Nat.le_of_ble_eq_true rfl) (k253 hq) ?_
      refine Ev.run (pc' := 553) (ls' := [some (.ref mRO), some (.ref 0), some (.ref 24), some (.ref 41), some (.int x4), some (.int v18), o6, o7]) (st' := [.ref 24]) (h' := mk s17) 2 rfl ?_
      obtain ⟨v20, s19, hq, h⟩ := zb1_some h
      refine Ev.call (M' := mm223) (v := some (.int v20)) (h' := mk s19) rfl rfl rfl (Nat.le_of_ble_eq_true rfl) (k223 hq) ?_
      refine Ev.run (pc' := 559) (ls' := [some (.ref mRO), some (.ref 0), some (.ref 24), some (.ref 41), some (.int x4), some (.int v18), some (.int v20), o7]) (st' := [.ref 24]) (h' := mk s19) 2 rfl ?_
      refine Ev.call (M' := mm162) (v := some (.int (r162 s19))) (h' := mk s19) rfl rfl rfl (Nat.le_of_ble_eq_true rfl) (k162  (s := s19) (v := r162 s19)  rfl) ?_
      refine Ev.run (pc' := 564) (ls' := [some (.ref mRO), some (.ref 0), some (.ref 24), some (.ref 41), some (.int x4), some (.int v18), some (.int v20), o7]) (st' := [.int v18, .int (r162 s19)]) (h' := mk s19) 1 rfl ?_
      refine Ev.icmp_eq (t := 569) rfl rfl (fun hb => ?_) (fun hb => ?_)
      · have h := (if_pos hb).symm.trans h
        refine Ev.run (pc' := 571) (ls' := [some (.ref mRO), some (.ref 0), some (.ref 24), some (.ref 41), some (.int x4), some (.int v18), some (.int v20), o7]) (st' := [.int v18]) (h' := mk s19) 1 rfl ?_
        refine Ev.if_ne (t := 586) rfl rfl (fun hb => ?_) (fun hb => ?_)
        · have h := (if_pos hb).symm.trans h
          refine Ev.run (pc' := 23) (ls' := [some (.ref mRO), some (.ref 0), some (.ref 24), some (.ref 41), some (.int (x4 + zi 5)), some (.int v18), some (.int v20), o7]) (st' := []) (h' := mk s19) 3 rfl ?_
          exact hrec23 (x4 + zi 5) s19 _ _ _ _ h
        · have h := (if_neg hb).symm.trans h
          refine Ev.run (pc' := 576) (ls' := [some (.ref mRO), some (.ref 0), some (.ref 24), some (.ref 41), some (.int x4), some (.int v18), some (.int v20), o7]) (st' := [.int (zi 0), .ref 41]) (h' := mk s19) 2 rfl ?_
          obtain ⟨hx, h⟩ := zif h
          refine Ev.step (pc' := 577) rfl (ald_l rfl hx) ?_
          refine Ev.run (pc' := 581) (ls' := [some (.ref mRO), some (.ref 0), some (.ref 24), some (.ref 41), some (.int x4), some (.int v18), some (.int v20), o7]) (st' := [.int (lg_cmp (s19.2.1 41 ((zi 0).toNatClampNeg)) (zI2L v20))]) (h' := mk s19) 3 rfl ?_
          refine Ev.ifl_eq (t := 586) rfl rfl (fun hb => ?_) (fun hb => ?_)
          · have h := (if_pos hb).symm.trans h
            refine Ev.run (pc' := 23) (ls' := [some (.ref mRO), some (.ref 0), some (.ref 24), some (.ref 41), some (.int (x4 + zi 5)), some (.int v18), some (.int v20), o7]) (st' := []) (h' := mk s19) 3 rfl ?_
            exact hrec23 (x4 + zi 5) s19 _ _ _ _ h
          · have h := (if_neg hb).symm.trans h
            refine Ev.run (pc' := 585) (ls' := [some (.ref mRO), some (.ref 0), some (.ref 24), some (.ref 41), some (.int x4), some (.int v18), some (.int v20), o7]) (st' := [.int (zi 0)]) (h' := mk s19) 1 rfl ?_
            first | (obtain rfl := Option.some.inj h) | (cases h)
            exact Ev.fin rfl rfl
      · have h := (if_neg hb).symm.trans h
        refine Ev.run (pc' := 568) (ls' := [some (.ref mRO), some (.ref 0), some (.ref 24), some (.ref 41), some (.int x4), some (.int v18), some (.int v20), o7]) (st' := [.int (zi 0)]) (h' := mk s19) 1 rfl ?_
        first | (obtain rfl := Option.some.inj h) | (cases h)
        exact Ev.fin rfl rfl
    have h := (if_neg hb).symm.trans h
    have n_6 := hb
    clear hb
    by_cases hb : ((X.2 x4.toNatClampNeg) &&& (zi 15)) = zi 7
    · have h := (if_pos hb).symm.trans h
      refine Ev.tsw (t := 589) (k := 7) rfl hb (by rfl) ?_
      refine Ev.run (pc' := 590) (ls' := [some (.ref mRO), some (.ref 0), some (.ref 24), some (.ref 41), some (.int x4), o5, o6, o7]) (st' := [.ref 0]) (h' := mk s) 1 rfl ?_
      refine Ev.call (M' := mm8) (v := some (.int (r8 s))) (h' := mk s) rfl rfl rfl (Nat.le_of_ble_eq_true rfl) (k8  (s := s) (v := r8 s)  rfl) ?_
      refine Ev.run (pc' := 594) (ls' := [some (.ref mRO), some (.ref 0), some (.ref 24), some (.ref 41), some (.int x4), o5, o6, o7]) (st' := [.ref 24, .int (r8 s)]) (h' := mk s) 1 rfl ?_
      obtain ⟨v22, s21, hq, h⟩ := zb1_some h
      refine Ev.call (M' := mm224) (v := some (.int v22)) (h' := mk s21) rfl rfl rfl (Nat.le_of_ble_eq_true rfl) (k224 hq) ?_
      refine Ev.icmp_eq (t := 755) rfl rfl (fun hb => ?_) (fun hb => ?_)
      · have h := (if_pos hb).symm.trans h
        refine Ev.run (pc' := 23) (ls' := [some (.ref mRO), some (.ref 0), some (.ref 24), some (.ref 41), some (.int (x4 + zi 5)), o5, o6, o7]) (st' := []) (h' := mk s21) 2 rfl ?_
        exact hrec23 (x4 + zi 5) s21 _ _ _ _ h
      · have h := (if_neg hb).symm.trans h
        refine Ev.run (pc' := 601) (ls' := [some (.ref mRO), some (.ref 0), some (.ref 24), some (.ref 41), some (.int x4), o5, o6, o7]) (st' := [.int (zi 0)]) (h' := mk s21) 1 rfl ?_
        first | (obtain rfl := Option.some.inj h) | (cases h)
        exact Ev.fin rfl rfl
    have h := (if_neg hb).symm.trans h
    have n_7 := hb
    clear hb
    by_cases hb : ((X.2 x4.toNatClampNeg) &&& (zi 15)) = zi 8
    · have h := (if_pos hb).symm.trans h
      refine Ev.tsw (t := 602) (k := 8) rfl hb (by rfl) ?_
      refine Ev.run (pc' := 603) (ls' := [some (.ref mRO), some (.ref 0), some (.ref 24), some (.ref 41), some (.int x4), o5, o6, o7]) (st' := [.ref 0]) (h' := mk s) 1 rfl ?_
      refine Ev.call (M' := mm9) (v := some (.int (r9 s))) (h' := mk s) rfl rfl rfl (Nat.le_of_ble_eq_true rfl) (k9  (s := s) (v := r9 s)  rfl) ?_
      refine Ev.run (pc' := 607) (ls' := [some (.ref mRO), some (.ref 0), some (.ref 24), some (.ref 41), some (.int x4), o5, o6, o7]) (st' := [.ref 24, .int (r9 s)]) (h' := mk s) 1 rfl ?_
      obtain ⟨v24, s23, hq, h⟩ := zb1_some h
      refine Ev.call (M' := mm225) (v := some (.int v24)) (h' := mk s23) rfl rfl rfl (Nat.le_of_ble_eq_true rfl) (k225 hq) ?_
      refine Ev.icmp_eq (t := 755) rfl rfl (fun hb => ?_) (fun hb => ?_)
      · have h := (if_pos hb).symm.trans h
        refine Ev.run (pc' := 23) (ls' := [some (.ref mRO), some (.ref 0), some (.ref 24), some (.ref 41), some (.int (x4 + zi 5)), o5, o6, o7]) (st' := []) (h' := mk s23) 2 rfl ?_
        exact hrec23 (x4 + zi 5) s23 _ _ _ _ h
      · have h := (if_neg hb).symm.trans h
        refine Ev.run (pc' := 614) (ls' := [some (.ref mRO), some (.ref 0), some (.ref 24), some (.ref 41), some (.int x4), o5, o6, o7]) (st' := [.int (zi 0)]) (h' := mk s23) 1 rfl ?_
        first | (obtain rfl := Option.some.inj h) | (cases h)
        exact Ev.fin rfl rfl
    have h := (if_neg hb).symm.trans h
    have n_8 := hb
    clear hb
    by_cases hb : ((X.2 x4.toNatClampNeg) &&& (zi 15)) = zi 9
    · have h := (if_pos hb).symm.trans h
      refine Ev.tsw (t := 615) (k := 9) rfl hb (by rfl) ?_
      refine Ev.run (pc' := 621) (ls' := [some (.ref mRO), some (.ref 0), some (.ref 24), some (.ref 41), some (.int x4), o5, o6, o7]) (st' := [.int (x4 + (zi 1)), .ref mRO, .ref 0]) (h' := mk s) 5 rfl ?_
      obtain ⟨hx, h⟩ := zif h
      refine Ev.step (pc' := 622) rfl (ald_i rfl hx) ?_
      refine Ev.run (pc' := 623) (ls' := [some (.ref mRO), some (.ref 0), some (.ref 24), some (.ref 41), some (.int x4), o5, o6, o7]) (st' := [.ref 41, .int (X.2 ((x4 + (zi 1)).toNatClampNeg)), .ref 0]) (h' := mk s) 1 rfl ?_
      obtain ⟨v26, s25, hq, h⟩ := zb1_some h
      refine Ev.call (M' := mm254) (v := some (.int v26)) (h' := mk s25) rfl rfl rfl (Nat.le_of_ble_eq_true rfl) (k254 hq) ?_
      refine Ev.run (pc' := 634) (ls' := [some (.ref mRO), some (.ref 0), some (.ref 24), some (.ref 41), some (.int x4), some (.int v26), o6, o7]) (st' := [.int (x4 + (zi 1)), .ref mRO, .ref 24]) (h' := mk s25) 6 rfl ?_
      obtain ⟨hx, h⟩ := zif h
      refine Ev.step (pc' := 635) rfl (ald_i rfl hx) ?_
      obtain ⟨v28, s27, hq, h⟩ := zb1_some h
      refine Ev.call (M' := mm226) (v := some (.long v28)) (h' := mk s27) rfl rfl rfl (Nat.le_of_ble_eq_true rfl) (k226 hq) ?_
      refine Ev.run (pc' := 641) (ls' := [some (.ref mRO), some (.ref 0), some (.ref 24), some (.ref 41), some (.int x4), some (.int v26), some (.long v28), none]) (st' := [.ref 24]) (h' := mk s27) 2 rfl ?_
      refine Ev.call (M' := mm162) (v := some (.int (r162 s27))) (h' := mk s27) rfl rfl rfl (Nat.le_of_ble_eq_true rfl) (k162  (s := s27) (v := r162 s27)  rfl) ?_
      refine Ev.run (pc' := 646) (ls' := [some (.ref mRO), some (.ref 0), some (.ref 24), some (.ref 41), some (.int x4), some (.int v26), some (.long v28), none]) (st' := [.int v26, .int (r162 s27)]) (h' := mk s27) 1 rfl ?_
      refine Ev.icmp_eq (t := 651) rfl rfl (fun hb => ?_) (fun hb => ?_)
      · have h := (if_pos hb).symm.trans h
        refine Ev.run (pc' := 653) (ls' := [some (.ref mRO), some (.ref 0), some (.ref 24), some (.ref 41), some (.int x4), some (.int v26), some (.long v28), none]) (st' := [.int v26]) (h' := mk s27) 1 rfl ?_
        refine Ev.if_ne (t := 667) rfl rfl (fun hb => ?_) (fun hb => ?_)
        · have h := (if_pos hb).symm.trans h
          refine Ev.run (pc' := 23) (ls' := [some (.ref mRO), some (.ref 0), some (.ref 24), some (.ref 41), some (.int (x4 + zi 5)), some (.int v26), some (.long v28), none]) (st' := []) (h' := mk s27) 3 rfl ?_
          exact hrec23 (x4 + zi 5) s27 _ _ _ _ h
        · have h := (if_neg hb).symm.trans h
          refine Ev.run (pc' := 658) (ls' := [some (.ref mRO), some (.ref 0), some (.ref 24), some (.ref 41), some (.int x4), some (.int v26), some (.long v28), none]) (st' := [.int (zi 0), .ref 41]) (h' := mk s27) 2 rfl ?_
          obtain ⟨hx, h⟩ := zif h
          refine Ev.step (pc' := 659) rfl (ald_l rfl hx) ?_
          refine Ev.run (pc' := 662) (ls' := [some (.ref mRO), some (.ref 0), some (.ref 24), some (.ref 41), some (.int x4), some (.int v26), some (.long v28), none]) (st' := [.int (lg_cmp (s27.2.1 41 ((zi 0).toNatClampNeg)) v28)]) (h' := mk s27) 2 rfl ?_
          refine Ev.ifl_eq (t := 667) rfl rfl (fun hb => ?_) (fun hb => ?_)
          · have h := (if_pos hb).symm.trans h
            refine Ev.run (pc' := 23) (ls' := [some (.ref mRO), some (.ref 0), some (.ref 24), some (.ref 41), some (.int (x4 + zi 5)), some (.int v26), some (.long v28), none]) (st' := []) (h' := mk s27) 3 rfl ?_
            exact hrec23 (x4 + zi 5) s27 _ _ _ _ h
          · have h := (if_neg hb).symm.trans h
            refine Ev.run (pc' := 666) (ls' := [some (.ref mRO), some (.ref 0), some (.ref 24), some (.ref 41), some (.int x4), some (.int v26), some (.long v28), none]) (st' := [.int (zi 0)]) (h' := mk s27) 1 rfl ?_
            first | (obtain rfl := Option.some.inj h) | (cases h)
            exact Ev.fin rfl rfl
      · have h := (if_neg hb).symm.trans h
        refine Ev.run (pc' := 650) (ls' := [some (.ref mRO), some (.ref 0), some (.ref 24), some (.ref 41), some (.int x4), some (.int v26), some (.long v28), none]) (st' := [.int (zi 0)]) (h' := mk s27) 1 rfl ?_
        first | (obtain rfl := Option.some.inj h) | (cases h)
        exact Ev.fin rfl rfl
    have h := (if_neg hb).symm.trans h
    have n_9 := hb
    clear hb
    by_cases hb : ((X.2 x4.toNatClampNeg) &&& (zi 15)) = zi 10
    · have h := (if_pos hb).symm.trans h
      refine Ev.tsw (t := 670) (k := 10) rfl hb (by rfl) ?_
      refine Ev.run (pc' := 671) (ls' := [some (.ref mRO), some (.ref 0), some (.ref 24), some (.ref 41), some (.int x4), o5, o6, o7]) (st' := [.ref 0]) (h' := mk s) 1 rfl ?_
      obtain ⟨v30, s29, hq, h⟩ := zb1_some h
      refine Ev.call (M' := mm11) (v := some (.long v30)) (h' := mk s29) rfl rfl rfl (Nat.le_of_ble_eq_true rfl) (k11 hq) ?_
      refine Ev.run (pc' := 675) (ls' := [some (.ref mRO), some (.ref 0), some (.ref 24), some (.ref 41), some (.int x4), o5, o6, o7]) (st' := [.ref 24, .long v30]) (h' := mk s29) 1 rfl ?_
      obtain ⟨v32, s31, hq, h⟩ := zb1_some h
      refine Ev.call (M' := mm227) (v := some (.long v32)) (h' := mk s31) rfl rfl rfl (Nat.le_of_ble_eq_true rfl) (k227 hq) ?_
      refine Ev.run (pc' := 679) (ls' := [some (.ref mRO), some (.ref 0), some (.ref 24), some (.ref 41), some (.int x4), o5, o6, o7]) (st' := [.int (lg_cmp v30 v32)]) (h' := mk s31) 1 rfl ?_
      refine Ev.ifl_eq (t := 755) rfl rfl (fun hb => ?_) (fun hb => ?_)
      · have h := (if_pos hb).symm.trans h
        refine Ev.run (pc' := 23) (ls' := [some (.ref mRO), some (.ref 0), some (.ref 24), some (.ref 41), some (.int (x4 + zi 5)), o5, o6, o7]) (st' := []) (h' := mk s31) 2 rfl ?_
        exact hrec23 (x4 + zi 5) s31 _ _ _ _ h
      · have h := (if_neg hb).symm.trans h
        refine Ev.run (pc' := 683) (ls' := [some (.ref mRO), some (.ref 0), some (.ref 24), some (.ref 41), some (.int x4), o5, o6, o7]) (st' := [.int (zi 0)]) (h' := mk s31) 1 rfl ?_
        first | (obtain rfl := Option.some.inj h) | (cases h)
        exact Ev.fin rfl rfl
    have h := (if_neg hb).symm.trans h
    have n_10 := hb
    clear hb
    by_cases hb : ((X.2 x4.toNatClampNeg) &&& (zi 15)) = zi 11
    · have h := (if_pos hb).symm.trans h
      refine Ev.tsw (t := 684) (k := 11) rfl hb (by rfl) ?_
      refine Ev.run (pc' := 690) (ls' := [some (.ref mRO), some (.ref 0), some (.ref 24), some (.ref 41), some (.int x4), o5, o6, o7]) (st' := [.int (x4 + (zi 1)), .ref mRO, .ref 0]) (h' := mk s) 5 rfl ?_
      obtain ⟨hx, h⟩ := zif h
      refine Ev.step (pc' := 691) rfl (ald_i rfl hx) ?_
      refine Ev.if_eq (t := 698) rfl rfl (fun hb => ?_) (fun hb => ?_)
      · have h := (if_pos hb).symm.trans h
        refine Ev.run (pc' := 699) (ls' := [some (.ref mRO), some (.ref 0), some (.ref 24), some (.ref 41), some (.int x4), o5, o6, o7]) (st' := [.int (zi 0), .ref 0]) (h' := mk s) 1 rfl ?_
        exact k256_699 hrec23 x4 (zi 0) s _ _ _ _ h
      · have h := (if_neg hb).symm.trans h
        refine Ev.run (pc' := 699) (ls' := [some (.ref mRO), some (.ref 0), some (.ref 24), some (.ref 41), some (.int x4), o5, o6, o7]) (st' := [.int (zi 1), .ref 0]) (h' := mk s) 2 rfl ?_
        exact k256_699 hrec23 x4 (zi 1) s _ _ _ _ h
    have h := (if_neg hb).symm.trans h
    have n_11 := hb
    clear hb
    refine Ev.tswd (t := 755) rfl (by rfl) (by decide) (fun q hq hx => ?_) ?_
    · have hq : q < 12 := hq
      have hq2 : q = 0 ∨ q = 1 ∨ q = 2 ∨ q = 3 ∨ q = 4 ∨ q = 5 ∨ q = 6 ∨ q = 7 ∨ q = 8 ∨ q = 9 ∨ q = 10 ∨ q = 11 := by omega
      rcases hq2 with rfl | rfl | rfl | rfl | rfl | rfl | rfl | rfl | rfl | rfl | rfl | rfl
      · exact absurd (zi_of_toInt hx) n_0
      · exact absurd (zi_of_toInt hx) n_1
      · exact absurd (zi_of_toInt hx) n_2
      · exact absurd (zi_of_toInt hx) n_3
      · exact absurd (zi_of_toInt hx) n_4
      · exact absurd (zi_of_toInt hx) n_5
      · exact absurd (zi_of_toInt hx) n_6
      · exact absurd (zi_of_toInt hx) n_7
      · exact absurd (zi_of_toInt hx) n_8
      · exact absurd (zi_of_toInt hx) n_9
      · exact absurd (zi_of_toInt hx) n_10
      · exact absurd (zi_of_toInt hx) n_11
    · refine Ev.run (pc' := 23) (ls' := [some (.ref mRO), some (.ref 0), some (.ref 24), some (.ref 41), some (.int (x4 + zi 5)), o5, o6, o7]) (st' := []) (h' := mk s) 2 rfl ?_
      exact hrec23 (x4 + zi 5) s _ _ _ _ h
def f256_23 (X : mX)  : Nat → Int32 → zS → Option (Int32 × zS)
  | 0, _, _ => none
  | n + 1, x4, s => b256_23 X (f256_23 X n) x4 s
set_option maxRecDepth 100000 in
theorem k256_23 {X : mX} {D : Nat}   (n : Nat) : ∀ (x4 : Int32) (s : zS) (r : Int32 × zS) (o5 : Option Value) (o6 : Option Value) (o7 : Option Value), f256_23 X  n x4 s = some r → Ev X (D + 14) mm256 23 [some (.ref mRO), some (.ref 0), some (.ref 24), some (.ref 41), some (.int x4), o5, o6, o7] [] (mk s) (encI r) := by
  induction n with
  | zero => intro x4 s r o5 o6 o7  h; cases h
  | succ n ih => intro x4 s r o5 o6 o7  h; exact kb256_23  ih x4 s r o5 o6 o7  h
