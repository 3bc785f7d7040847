/-! decompiled methods, 6; printed by wip/gen/gen8.py -/
/-! 135 F$NumberReader.take(Z)Z -/
def f135_215  (y2 : Int64) (s : zS) : Option (Int32 × zS) := some (zi 1, setJ s 21 10 (r147 y2 s))
set_option maxRecDepth 100000 in
theorem k135_215 {X : mX} {D : Nat}   (y2 : Int64) (s : zS) (r : Int32 × zS) (o0 : Option Value) (o1 : Option Value) (o2 : Option Value) (o3 : Option Value)  (h : f135_215  y2 s = some r) : Ev X (D + 6) mm135 215 [o0, o1, o2, o3] [.long y2, .ref 21, .ref 21] (mk s) (encI r) := by
  unfold f135_215 at h
  refine Ev.call (M' := mm147) (v := some (.long (r147 y2 s))) (h' := mk s) rfl rfl rfl (Nat.le_of_ble_eq_true rfl) (k147 (x1 := y2) (s := s) (v := r147 y2 s)  rfl) ?_
  refine Ev.step (pc' := 221) rfl (put_10_10 rfl) ?_
  refine Ev.run (pc' := 222) (ls' := [o0, o1, o2, o3]) (st' := [.int (zi 1)]) (h' := mk (setJ s 21 10 (r147 y2 s))) 1 rfl ?_
  first | (obtain rfl := Option.some.inj h) | (cases h)
  exact Ev.fin rfl rfl
def f135_176  (x2 : Int32) (y0 : Int32) (s : zS) : Option (Int32 × zS) := zb0 (f144 s) (fun s1 => if y0 = zi 0 then some (zi 0, s1) else if (s1.1 21 3) ≥ (s1.1 21 4) then if x2 = zi 0 then zb1 (f146 s1) (fun v3 s2 => f135_215 v3 s2) else zb1 (f145 s1) (fun v5 s4 => f135_215 v5 s4) else some (zi 0, s1))
set_option maxRecDepth 100000 in
theorem k135_176 {X : mX} {D : Nat}   (x2 : Int32) (y0 : Int32) (s : zS) (r : Int32 × zS) (o1 : Option Value) (o3 : Option Value)  (h : f135_176  x2 y0 s = some r) : Ev X (D + 6) mm135 176 [some (.ref 21), o1, some (.int x2), o3] [.int y0] (mk s) (encI r) := by
  unfold f135_176 at h
  refine Ev.run (pc' := 178) (ls' := [some (.ref 21), o1, some (.int x2), some (.int y0)]) (st' := [.ref 21]) (h' := mk s) 2 rfl ?_
  obtain ⟨s1, hq, h⟩ := zb0_some h
  refine Ev.call (M' := mm144) (v := none) (h' := mk s1) rfl rfl rfl (Nat.le_of_ble_eq_true rfl) (k144 hq) ?_
  refine Ev.run (pc' := 182) (ls' := [some (.ref 21), o1, some (.int x2), some (.int y0)]) (st' := [.int y0]) (h' := mk s1) 1 rfl ?_
  refine Ev.if_eq (t := 196) rfl rfl (fun hb => ?_) (fun hb => ?_)
  · have h := (if_pos hb).symm.trans h
    refine Ev.run (pc' := 197) (ls' := [some (.ref 21), o1, some (.int x2), some (.int y0)]) (st' := [.int (zi 0)]) (h' := mk s1) 1 rfl ?_
    first | (obtain rfl := Option.some.inj h) | (cases h)
    exact Ev.fin rfl rfl
  · have h := (if_neg hb).symm.trans h
    refine Ev.run (pc' := 193) (ls' := [some (.ref 21), o1, some (.int x2), some (.int y0)]) (st' := [.int (s1.1 21 4), .int (s1.1 21 3)]) (h' := mk s1) 4 rfl ?_
    refine Ev.icmp_ge (t := 198) rfl rfl (fun hb => ?_) (fun hb => ?_)
    · have h := (if_pos hb).symm.trans h
      refine Ev.run (pc' := 201) (ls' := [some (.ref 21), o1, some (.int x2), some (.int y0)]) (st' := [.int x2, .ref 21, .ref 21]) (h' := mk s1) 3 rfl ?_
      refine Ev.if_eq (t := 211) rfl rfl (fun hb => ?_) (fun hb => ?_)
      · have h := (if_pos hb).symm.trans h
        refine Ev.run (pc' := 212) (ls' := [some (.ref 21), o1, some (.int x2), some (.int y0)]) (st' := [.ref 21, .ref 21, .ref 21]) (h' := mk s1) 1 rfl ?_
        obtain ⟨v3, s2, hq, h⟩ := zb1_some h
        refine Ev.call (M' := mm146) (v := some (.long v3)) (h' := mk s2) rfl rfl rfl (Nat.le_of_ble_eq_true rfl) (k146 hq) ?_
        exact k135_215 v3 s2 _ _ _ _ _ h
      · have h := (if_neg hb).symm.trans h
        refine Ev.run (pc' := 205) (ls' := [some (.ref 21), o1, some (.int x2), some (.int y0)]) (st' := [.ref 21, .ref 21, .ref 21]) (h' := mk s1) 1 rfl ?_
        obtain ⟨v5, s4, hq, h⟩ := zb1_some h
        refine Ev.call (M' := mm145) (v := some (.long v5)) (h' := mk s4) rfl rfl rfl (Nat.le_of_ble_eq_true rfl) (k145 hq) ?_
        refine Ev.run (pc' := 215) (ls' := [some (.ref 21), o1, some (.int x2), some (.int y0)]) (st' := [.long v5, .ref 21, .ref 21]) (h' := mk s4) 1 rfl ?_
        exact k135_215 v5 s4 _ _ _ _ _ h
    · have h := (if_neg hb).symm.trans h
      refine Ev.run (pc' := 197) (ls' := [some (.ref 21), o1, some (.int x2), some (.int y0)]) (st' := [.int (zi 0)]) (h' := mk s1) 1 rfl ?_
      first | (obtain rfl := Option.some.inj h) | (cases h)
      exact Ev.fin rfl rfl
def f135_153  (x2 : Int32) (y1 : Int32) (s : zS) : Option (Int32 × zS) := zb0 (f140 y1 s) (fun s1 => zb1 (f143 x2 s1) (fun v3 s2 => if v3 = zi 0 then f135_176 x2 (zi 0) s2 else if (s2.1 21 6) ≤ zi 0 then f135_176 x2 (zi 0) s2 else f135_176 x2 (zi 1) s2))
set_option maxRecDepth 100000 in
theorem k135_153 {X : mX} {D : Nat}   (x2 : Int32) (y1 : Int32) (s : zS) (r : Int32 × zS) (o1 : Option Value) (o3 : Option Value)  (h : f135_153  x2 y1 s = some r) : Ev X (D + 6) mm135 153 [some (.ref 21), o1, some (.int x2), o3] [.int y1, .ref 21] (mk s) (encI r) := by
  unfold f135_153 at h
  obtain ⟨s1, hq, h⟩ := zb0_some h
  refine Ev.call (M' := mm140) (v := none) (h' := mk s1) rfl rfl rfl (Nat.le_of_ble_eq_true rfl) (k140 hq) ?_
  refine Ev.run (pc' := 158) (ls' := [some (.ref 21), o1, some (.int x2), o3]) (st' := [.int x2, .ref 21]) (h' := mk s1) 2 rfl ?_
  obtain ⟨v3, s2, hq, h⟩ := zb1_some h
  refine Ev.call (M' := mm143) (v := some (.int v3)) (h' := mk s2) rfl rfl rfl (Nat.le_of_ble_eq_true rfl) (k143 hq) ?_
  refine Ev.if_eq (t := 175) rfl rfl (fun hb => ?_) (fun hb => ?_)
  · have h := (if_pos hb).symm.trans h
    refine Ev.run (pc' := 176) (ls' := [some (.ref 21), o1, some (.int x2), o3]) (st' := [.int (zi 0)]) (h' := mk s2) 1 rfl ?_
    exact k135_176 x2 (zi 0) s2 _ _ _ h
  · have h := (if_neg hb).symm.trans h
    refine Ev.run (pc' := 168) (ls' := [some (.ref 21), o1, some (.int x2), o3]) (st' := [.int (s2.1 21 6)]) (h' := mk s2) 2 rfl ?_
    refine Ev.if_le (t := 175) rfl rfl (fun hb => ?_) (fun hb => ?_)
    · have h := (if_pos hb).symm.trans h
      refine Ev.run (pc' := 176) (ls' := [some (.ref 21), o1, some (.int x2), o3]) (st' := [.int (zi 0)]) (h' := mk s2) 1 rfl ?_
      exact k135_176 x2 (zi 0) s2 _ _ _ h
    · have h := (if_neg hb).symm.trans h
      refine Ev.run (pc' := 176) (ls' := [some (.ref 21), o1, some (.int x2), o3]) (st' := [.int (zi 1)]) (h' := mk s2) 2 rfl ?_
      exact k135_176 x2 (zi 1) s2 _ _ _ h
def f135_137  (x2 : Int32) (y1 : Int32) (y2 : Int32) (s : zS) : Option (Int32 × zS) := if x2 = zi 0 then f135_153 x2 (zi 10) (setI s 21 3 (y1 + y2)) else f135_153 x2 (zi 16) (setI s 21 3 (y1 + y2))
set_option maxRecDepth 100000 in
theorem k135_137 {X : mX} {D : Nat}   (x2 : Int32) (y1 : Int32) (y2 : Int32) (s : zS) (r : Int32 × zS) (o1 : Option Value) (o3 : Option Value)  (h : f135_137  x2 y1 y2 s = some r) : Ev X (D + 6) mm135 137 [some (.ref 21), o1, some (.int x2), o3] [.int y2, .int y1, .ref 21] (mk s) (encI r) := by
  unfold f135_137 at h
  refine Ev.run (pc' := 138) (ls' := [some (.ref 21), o1, some (.int x2), o3]) (st' := [.int (y1 + y2), .ref 21]) (h' := mk s) 1 rfl ?_
  refine Ev.step (pc' := 141) rfl (put_10_3 rfl) ?_
  refine Ev.run (pc' := 143) (ls' := [some (.ref 21), o1, some (.int x2), o3]) (st' := [.int x2, .ref 21]) (h' := mk (setI s 21 3 (y1 + y2))) 2 rfl ?_
  refine Ev.if_eq (t := 151) rfl rfl (fun hb => ?_) (fun hb => ?_)
  · have h := (if_pos hb).symm.trans h
    refine Ev.run (pc' := 153) (ls' := [some (.ref 21), o1, some (.int x2), o3]) (st' := [.int (zi 10), .ref 21]) (h' := mk (setI s 21 3 (y1 + y2))) 1 rfl ?_
    exact k135_153 x2 (zi 10) (setI s 21 3 (y1 + y2)) _ _ _ h
  · have h := (if_neg hb).symm.trans h
    refine Ev.run (pc' := 153) (ls' := [some (.ref 21), o1, some (.int x2), o3]) (st' := [.int (zi 16), .ref 21]) (h' := mk (setI s 21 3 (y1 + y2))) 2 rfl ?_
    exact k135_153 x2 (zi 16) (setI s 21 3 (y1 + y2)) _ _ _ h
def f135_122  (x1 : Int32) (y0 : Int32) (s : zS) : Option (Int32 × zS) := if y0 = zi 0 then f135_137 y0 (s.1 21 3) (zi 0) s else f135_137 y0 (s.1 21 3) (zi 2) s
set_option maxRecDepth 100000 in
theorem k135_122 {X : mX} {D : Nat}   (x1 : Int32) (y0 : Int32) (s : zS) (r : Int32 × zS) (o2 : Option Value) (o3 : Option Value)  (h : f135_122  x1 y0 s = some r) : Ev X (D + 6) mm135 122 [some (.ref 21), some (.int x1), o2, o3] [.int y0] (mk s) (encI r) := by
  unfold f135_122 at h
  refine Ev.run (pc' := 129) (ls' := [some (.ref 21), some (.int x1), some (.int y0), o3]) (st' := [.int y0, .int (s.1 21 3), .ref 21]) (h' := mk s) 5 rfl ?_
  refine Ev.if_eq (t := 136) rfl rfl (fun hb => ?_) (fun hb => ?_)
  · have h := (if_pos hb).symm.trans h
    refine Ev.run (pc' := 137) (ls' := [some (.ref 21), some (.int x1), some (.int y0), o3]) (st' := [.int (zi 0), .int (s.1 21 3), .ref 21]) (h' := mk s) 1 rfl ?_
    exact k135_137 y0 (s.1 21 3) (zi 0) s _ _ _ h
  · have h := (if_neg hb).symm.trans h
    refine Ev.run (pc' := 137) (ls' := [some (.ref 21), some (.int x1), some (.int y0), o3]) (st' := [.int (zi 2), .int (s.1 21 3), .ref 21]) (h' := mk s) 2 rfl ?_
    exact k135_137 y0 (s.1 21 3) (zi 2) s _ _ _ h
def f135  (x1 : Int32) (s : zS) : Option (Int32 × zS) := if mBit x1 then zb0 (f136 (setI s 21 2 x1)) (fun s1 => zb1 (f138 s1) (fun v3 s2 => if mBit v3 then zb1 (f139 53 (setI s2 21 5 v3)) (fun v5 s4 => if v5 = zi 0 then zb1 (f139 54 s4) (fun v7 s6 => if v7 = zi 0 then zb1 (f137 s6) (fun v9 s8 => if ¬ v9 = (zi 48) then f135_122 x1 (zi 0) s8 else if ((s8.1 21 3) + (zi 1)) ≥ (s8.1 21 4) then f135_122 x1 (zi 0) s8 else zb1 (f17 1 ((s8.1 21 3) + (zi 1)) s8) (fun v11 s10 => if ¬ (v11 ||| (zi 32)) = (zi 120) then f135_122 x1 (zi 0) s10 else f135_122 x1 (zi 1) s10)) else some (zi 1, setJ s6 21 10 (r147 (r149 (s6.1 21 2) s6) s6))) else if (s4.1 21 2) = zi 0 then some (zi 1, setJ s4 21 10 (zl 9221120237041090560)) else some (zi 1, setJ s4 21 10 (zl 2143289344))) else none)) else none
set_option maxRecDepth 100000 in
theorem k135 {X : mX} {D : Nat} {x1 : Int32} {s : zS} {r : Int32 × zS}  (h : f135 x1 s = some r) : Ev X (D + 6) mm135 0 [some (.ref 21), some (.int x1), none, none] [] (mk s) (encI r) := by
  unfold f135 at h
  refine Ev.run (pc' := 2) (ls' := [some (.ref 21), some (.int x1), none, none]) (st' := [.int x1, .ref 21]) (h' := mk s) 2 rfl ?_
  obtain ⟨hx, h⟩ := zif h
  refine Ev.step (pc' := 5) rfl (put_10_2 hx rfl) ?_
  refine Ev.run (pc' := 6) (ls' := [some (.ref 21), some (.int x1), none, none]) (st' := [.ref 21]) (h' := mk (setI s 21 2 x1)) 1 rfl ?_
  obtain ⟨s1, hq, h⟩ := zb0_some h
  refine Ev.call (M' := mm136) (v := none) (h' := mk s1) rfl rfl rfl (Nat.le_of_ble_eq_true rfl) (k136 hq) ?_
  refine Ev.run (pc' := 11) (ls' := [some (.ref 21), some (.int x1), none, none]) (st' := [.ref 21, .ref 21]) (h' := mk s1) 2 rfl ?_
  obtain ⟨v3, s2, hq, h⟩ := zb1_some h
  refine Ev.call (M' := mm138) (v := some (.int v3)) (h' := mk s2) rfl rfl rfl (Nat.le_of_ble_eq_true rfl) (k138 hq) ?_
  obtain ⟨hx, h⟩ := zif h
  refine Ev.step (pc' := 17) rfl (put_10_5 hx rfl) ?_
  refine Ev.run (pc' := 20) (ls' := [some (.ref 21), some (.int x1), none, none]) (st' := [.ref (mRO + 3 + 2 * 53), .ref 21]) (h' := mk (setI s2 21 5 v3)) 2 rfl ?_
  obtain ⟨v5, s4, hq, h⟩ := zb1_some h
  refine Ev.call (M' := mm139) (v := some (.int v5)) (h' := mk s4) rfl rfl rfl (Nat.le_of_ble_eq_true rfl) (k139 (by decide) hq) ?_
  refine Ev.if_eq (t := 48) rfl rfl (fun hb => ?_) (fun hb => ?_)
  · have h := (if_pos hb).symm.trans h
    refine Ev.run (pc' := 51) (ls' := [some (.ref 21), some (.int x1), none, none]) (st' := [.ref (mRO + 3 + 2 * 54), .ref 21]) (h' := mk s4) 2 rfl ?_
    obtain ⟨v7, s6, hq, h⟩ := zb1_some h
    refine Ev.call (M' := mm139) (v := some (.int v7)) (h' := mk s6) rfl rfl rfl (Nat.le_of_ble_eq_true rfl) (k139 (by decide) hq) ?_
    refine Ev.if_eq (t := 74) rfl rfl (fun hb => ?_) (fun hb => ?_)
    · have h := (if_pos hb).symm.trans h
      refine Ev.run (pc' := 75) (ls' := [some (.ref 21), some (.int x1), none, none]) (st' := [.ref 21]) (h' := mk s6) 1 rfl ?_
      obtain ⟨v9, s8, hq, h⟩ := zb1_some h
      refine Ev.call (M' := mm137) (v := some (.int v9)) (h' := mk s8) rfl rfl rfl (Nat.le_of_ble_eq_true rfl) (k137 hq) ?_
      refine Ev.run (pc' := 80) (ls' := [some (.ref 21), some (.int x1), none, none]) (st' := [.int (zi 48), .int v9]) (h' := mk s8) 1 rfl ?_
      refine Ev.icmp_ne (t := 121) rfl rfl (fun hb => ?_) (fun hb => ?_)
      · have h := (if_pos hb).symm.trans h
        refine Ev.run (pc' := 122) (ls' := [some (.ref 21), some (.int x1), none, none]) (st' := [.int (zi 0)]) (h' := mk s8) 1 rfl ?_
        exact k135_122 x1 (zi 0) s8 _ _ _ h
      · have h := (if_neg hb).symm.trans h
        refine Ev.run (pc' := 93) (ls' := [some (.ref 21), some (.int x1), none, none]) (st' := [.int (s8.1 21 4), .int ((s8.1 21 3) + (zi 1))]) (h' := mk s8) 6 rfl ?_
        refine Ev.icmp_ge (t := 121) rfl rfl (fun hb => ?_) (fun hb => ?_)
        · have h := (if_pos hb).symm.trans h
          refine Ev.run (pc' := 122) (ls' := [some (.ref 21), some (.int x1), none, none]) (st' := [.int (zi 0)]) (h' := mk s8) 1 rfl ?_
          exact k135_122 x1 (zi 0) s8 _ _ _ h
        · have h := (if_neg hb).symm.trans h
          refine Ev.run (pc' := 106) (ls' := [some (.ref 21), some (.int x1), none, none]) (st' := [.int ((s8.1 21 3) + (zi 1)), .ref 1]) (h' := mk s8) 6 rfl ?_
          obtain ⟨v11, s10, hq, h⟩ := zb1_some h
          refine Ev.call (M' := mm17) (v := some (.int v11)) (h' := mk s10) rfl rfl rfl (Nat.le_of_ble_eq_true rfl) (k17 (by decide) hq) ?_
          refine Ev.run (pc' := 114) (ls' := [some (.ref 21), some (.int x1), none, none]) (st' := [.int (zi 120), .int (v11 ||| (zi 32))]) (h' := mk s10) 3 rfl ?_
          refine Ev.icmp_ne (t := 121) rfl rfl (fun hb => ?_) (fun hb => ?_)
          · have h := (if_pos hb).symm.trans h
            refine Ev.run (pc' := 122) (ls' := [some (.ref 21), some (.int x1), none, none]) (st' := [.int (zi 0)]) (h' := mk s10) 1 rfl ?_
            exact k135_122 x1 (zi 0) s10 _ _ _ h
          · have h := (if_neg hb).symm.trans h
            refine Ev.run (pc' := 122) (ls' := [some (.ref 21), some (.int x1), none, none]) (st' := [.int (zi 1)]) (h' := mk s10) 2 rfl ?_
            exact k135_122 x1 (zi 1) s10 _ _ _ h
    · have h := (if_neg hb).symm.trans h
      refine Ev.run (pc' := 63) (ls' := [some (.ref 21), some (.int x1), none, none]) (st' := [.int (s6.1 21 2), .ref 21, .ref 21]) (h' := mk s6) 4 rfl ?_
      refine Ev.call (M' := mm149) (v := some (.long (r149 (s6.1 21 2) s6))) (h' := mk s6) rfl rfl rfl (Nat.le_of_ble_eq_true rfl) (k149 (x0 := (s6.1 21 2)) (s := s6) (v := r149 (s6.1 21 2) s6)  rfl) ?_
      refine Ev.call (M' := mm147) (v := some (.long (r147 (r149 (s6.1 21 2) s6) s6))) (h' := mk s6) rfl rfl rfl (Nat.le_of_ble_eq_true rfl) (k147 (x1 := (r149 (s6.1 21 2) s6)) (s := s6) (v := r147 (r149 (s6.1 21 2) s6) s6)  rfl) ?_
      refine Ev.step (pc' := 72) rfl (put_10_10 rfl) ?_
      refine Ev.run (pc' := 73) (ls' := [some (.ref 21), some (.int x1), none, none]) (st' := [.int (zi 1)]) (h' := mk (setJ s6 21 10 (r147 (r149 (s6.1 21 2) s6) s6))) 1 rfl ?_
      first | (obtain rfl := Option.some.inj h) | (cases h)
      exact Ev.fin rfl rfl
  · have h := (if_neg hb).symm.trans h
    refine Ev.run (pc' := 31) (ls' := [some (.ref 21), some (.int x1), none, none]) (st' := [.int (s4.1 21 2), .ref 21]) (h' := mk s4) 3 rfl ?_
    refine Ev.if_eq (t := 40) rfl rfl (fun hb => ?_) (fun hb => ?_)
    · have h := (if_pos hb).symm.trans h
      refine Ev.run (pc' := 43) (ls' := [some (.ref 21), some (.int x1), none, none]) (st' := [.long (zl 9221120237041090560), .ref 21]) (h' := mk s4) 1 rfl ?_
      refine Ev.step (pc' := 46) rfl (put_10_10 rfl) ?_
      refine Ev.run (pc' := 47) (ls' := [some (.ref 21), some (.int x1), none, none]) (st' := [.int (zi 1)]) (h' := mk (setJ s4 21 10 (zl 9221120237041090560))) 1 rfl ?_
      first | (obtain rfl := Option.some.inj h) | (cases h)
      exact Ev.fin rfl rfl
    · have h := (if_neg hb).symm.trans h
      refine Ev.run (pc' := 43) (ls' := [some (.ref 21), some (.int x1), none, none]) (st' := [.long (zl 2143289344), .ref 21]) (h' := mk s4) 2 rfl ?_
      refine Ev.step (pc' := 46) rfl (put_10_10 rfl) ?_
      refine Ev.run (pc' := 47) (ls' := [some (.ref 21), some (.int x1), none, none]) (st' := [.int (zi 1)]) (h' := mk (setJ s4 21 10 (zl 2143289344))) 1 rfl ?_
      first | (obtain rfl := Option.some.inj h) | (cases h)
      exact Ev.fin rfl rfl
/-! 134 F$NumberReader.bits()J -/
def r134  (s : zS) : Int64 := s.2.1 21 10
set_option maxRecDepth 100000 in
theorem k134 {X : mX} {D : Nat}  {s : zS} {v : Int64} (h : r134  s = v) : Ev X D mm134 0 [some (.ref 21)] [] (mk s) (encL (v, s)) := by
  unfold r134 at h
  refine Ev.run (pc' := 4) (ls' := [some (.ref 21)]) (st' := [.long (s.2.1 21 10)]) (h' := mk s) 2 rfl ?_
  subst h
  exact Ev.fin rfl rfl
/-! 12 F.read(Z)J -/
def f12  (x1 : Int32) (s : zS) : Option ((Int64 ⊕ Nat) × zS) := zb1 (f135 x1 s) (fun v2 s1 => zb0 (f21 1 s1) (fun s3 => if ¬ v2 = zi 0 then some (.inl (r134 s3), s3) else if s3.2.2 < 600000 then some (.inr 0, thr s3) else none))
set_option maxRecDepth 100000 in
theorem k12 {X : mX} {D : Nat} {x1 : Int32} {s : zS} {r : (Int64 ⊕ Nat) × zS}  (h : f12 x1 s = some r) : Ev X (D + 7) mm12 0 [some (.ref 0), some (.int x1), none] [] (mk s) (encTL r) := by
  unfold f12 at h
  refine Ev.run (pc' := 5) (ls' := [some (.ref 0), some (.int x1), none]) (st' := [.int x1, .ref 21]) (h' := mk s) 3 rfl ?_
  obtain ⟨v2, s1, hq, h⟩ := zb1_some h
  refine Ev.call (M' := mm135) (v := some (.int v2)) (h' := mk s1) rfl rfl rfl (Nat.le_of_ble_eq_true rfl) (k135 hq) ?_
  refine Ev.run (pc' := 13) (ls' := [some (.ref 0), some (.int x1), some (.int v2)]) (st' := [.ref 1]) (h' := mk s1) 3 rfl ?_
  obtain ⟨s3, hq, h⟩ := zb0_some h
  refine Ev.call (M' := mm21) (v := none) (h' := mk s3) rfl rfl rfl (Nat.le_of_ble_eq_true rfl) (k21 (by decide) hq) ?_
  refine Ev.run (pc' := 17) (ls' := [some (.ref 0), some (.int x1), some (.int v2)]) (st' := [.int v2]) (h' := mk s3) 1 rfl ?_
  refine Ev.if_ne (t := 30) rfl rfl (fun hb => ?_) (fun hb => ?_)
  · have h := (if_pos hb).symm.trans h
    refine Ev.run (pc' := 34) (ls' := [some (.ref 0), some (.int x1), some (.int v2)]) (st' := [.ref 21]) (h' := mk s3) 2 rfl ?_
    refine Ev.call (M' := mm134) (v := some (.long (r134 s3))) (h' := mk s3) rfl rfl rfl (Nat.le_of_ble_eq_true rfl) (k134  (s := s3) (v := r134 s3)  rfl) ?_
    first | (obtain rfl := Option.some.inj h) | (cases h)
    exact Ev.fin rfl rfl
  · have h := (if_neg hb).symm.trans h
    obtain ⟨hx, h⟩ := zif h
    first | (obtain rfl := Option.some.inj h) | (cases h)
    exact Ev.throws rfl rfl rfl rfl rfl rfl rfl rfl rfl (by decide) hx
/-! 162 FModel.thrown()I -/
def r162  (s : zS) : Int32 := s.1 24 9
set_option maxRecDepth 100000 in
theorem k162 {X : mX} {D : Nat}  {s : zS} {v : Int32} (h : r162  s = v) : Ev X D mm162 0 [some (.ref 24)] [] (mk s) (encI (v, s)) := by
  unfold r162 at h
  refine Ev.run (pc' := 4) (ls' := [some (.ref 24)]) (st' := [.int (s.1 24 9)]) (h' := mk s) 2 rfl ?_
  subst h
  exact Ev.fin rfl rfl
/-! 236 FModel$Decimal.isZero()Z -/
def b236_5 (aa : Nat) (rec5 : Int32 → zS → Option (Int32 × zS)) (x1 : Int32) (s : zS) : Option (Int32 × zS) := if x1 ≥ (s.1 aa 2) then some (zi 1, s) else if mIx x1 465 then if (s.1 (aa + 1) x1.toNatClampNeg) = zi 0 then rec5 (x1 + zi 1) s else some (zi 0, s) else none
set_option maxRecDepth 100000 in
theorem kb236_5 {X : mX} {D : Nat} {aa : Nat} {rec5 : Int32 → zS → Option (Int32 × zS)} (haa : zMdec aa) (hrec5 : ∀ (x1 : Int32) (s : zS) (r : Int32 × zS) , rec5 x1 s = some r → Ev X D mm236 5 [some (.ref aa), some (.int x1)] [] (mk s) (encI r)) (x1 : Int32) (s : zS) (r : Int32 × zS)   (h : b236_5 aa rec5 x1 s = some r) : Ev X D mm236 5 [some (.ref aa), some (.int x1)] [] (mk s) (encI r) := by
  rcases haa with rfl | rfl | rfl
  · unfold b236_5 at h
    refine Ev.run (pc' := 10) (ls' := [some (.ref 32), some (.int x1)]) (st' := [.int (s.1 32 2), .int x1]) (h' := mk s) 3 rfl ?_
    refine Ev.icmp_ge (t := 30) rfl rfl (fun hb => ?_) (fun hb => ?_)
    · have h := (if_pos hb).symm.trans h
      refine Ev.run (pc' := 31) (ls' := [some (.ref 32), some (.int x1)]) (st' := [.int (zi 1)]) (h' := mk s) 1 rfl ?_
      first | (obtain rfl := Option.some.inj h) | (cases h)
      exact Ev.fin rfl rfl
    · have h := (if_neg hb).symm.trans h
      refine Ev.run (pc' := 18) (ls' := [some (.ref 32), some (.int x1)]) (st' := [.int x1, .ref (32 + 1)]) (h' := mk s) 3 rfl ?_
      obtain ⟨hx, h⟩ := zif h
      refine Ev.step (pc' := 19) rfl (ald_i rfl hx) ?_
      refine Ev.if_eq (t := 24) rfl rfl (fun hb => ?_) (fun hb => ?_)
      · have h := (if_pos hb).symm.trans h
        refine Ev.run (pc' := 5) (ls' := [some (.ref 32), some (.int (x1 + zi 1))]) (st' := []) (h' := mk s) 2 rfl ?_
        exact hrec5 (x1 + zi 1) s _ h
      · have h := (if_neg hb).symm.trans h
        refine Ev.run (pc' := 23) (ls' := [some (.ref 32), some (.int x1)]) (st' := [.int (zi 0)]) (h' := mk s) 1 rfl ?_
        first | (obtain rfl := Option.some.inj h) | (cases h)
        exact Ev.fin rfl rfl
  · unfold b236_5 at h
    refine Ev.run (pc' := 10) (ls' := [some (.ref 34), some (.int x1)]) (st' := [.int (s.1 34 2), .int x1]) (h' := mk s) 3 rfl ?_
    refine Ev.icmp_ge (t := 30) rfl rfl (fun hb => ?_) (fun hb => ?_)
    · have h := (if_pos hb).symm.trans h
      refine Ev.run (pc' := 31) (ls' := [some (.ref 34), some (.int x1)]) (st' := [.int (zi 1)]) (h' := mk s) 1 rfl ?_
      first | (obtain rfl := Option.some.inj h) | (cases h)
      exact Ev.fin rfl rfl
    · have h := (if_neg hb).symm.trans h
      refine Ev.run (pc' := 18) (ls' := [some (.ref 34), some (.int x1)]) (st' := [.int x1, .ref (34 + 1)]) (h' := mk s) 3 rfl ?_
      obtain ⟨hx, h⟩ := zif h
      refine Ev.step (pc' := 19) rfl (ald_i rfl hx) ?_
      refine Ev.if_eq (t := 24) rfl rfl (fun hb => ?_) (fun hb => ?_)
      · have h := (if_pos hb).symm.trans h
        refine Ev.run (pc' := 5) (ls' := [some (.ref 34), some (.int (x1 + zi 1))]) (st' := []) (h' := mk s) 2 rfl ?_
        exact hrec5 (x1 + zi 1) s _ h
      · have h := (if_neg hb).symm.trans h
        refine Ev.run (pc' := 23) (ls' := [some (.ref 34), some (.int x1)]) (st' := [.int (zi 0)]) (h' := mk s) 1 rfl ?_
        first | (obtain rfl := Option.some.inj h) | (cases h)
        exact Ev.fin rfl rfl
  · unfold b236_5 at h
    refine Ev.run (pc' := 10) (ls' := [some (.ref 36), some (.int x1)]) (st' := [.int (s.1 36 2), .int x1]) (h' := mk s) 3 rfl ?_
    refine Ev.icmp_ge (t := 30) rfl rfl (fun hb => ?_) (fun hb => ?_)
    · have h := (if_pos hb).symm.trans h
      refine Ev.run (pc' := 31) (ls' := [some (.ref 36), some (.int x1)]) (st' := [.int (zi 1)]) (h' := mk s) 1 rfl ?_
      first | (obtain rfl := Option.some.inj h) | (cases h)
      exact Ev.fin rfl rfl
    · have h := (if_neg hb).symm.trans h
      refine Ev.run (pc' := 18) (ls' := [some (.ref 36), some (.int x1)]) (st' := [.int x1, .ref (36 + 1)]) (h' := mk s) 3 rfl ?_
      obtain ⟨hx, h⟩ := zif h
      refine Ev.step (pc' := 19) rfl (ald_i rfl hx) ?_
      refine Ev.if_eq (t := 24) rfl rfl (fun hb => ?_) (fun hb => ?_)
      · have h := (if_pos hb).symm.trans h
        refine Ev.run (pc' := 5) (ls' := [some (.ref 36), some (.int (x1 + zi 1))]) (st' := []) (h' := mk s) 2 rfl ?_
        exact hrec5 (x1 + zi 1) s _ h
      · have h := (if_neg hb).symm.trans h
        refine Ev.run (pc' := 23) (ls' := [some (.ref 36), some (.int x1)]) (st' := [.int (zi 0)]) (h' := mk s) 1 rfl ?_
        first | (obtain rfl := Option.some.inj h) | (cases h)
        exact Ev.fin rfl rfl
def f236_5 (aa : Nat)  : Nat → Int32 → zS → Option (Int32 × zS)
  | 0, _, _ => none
  | n + 1, x1, s => b236_5 aa (f236_5 aa n) x1 s
set_option maxRecDepth 100000 in
theorem k236_5 {X : mX} {D : Nat} {aa : Nat}  (haa : zMdec aa)  (n : Nat) : ∀ (x1 : Int32) (s : zS) (r : Int32 × zS) , f236_5 aa  n x1 s = some r → Ev X D mm236 5 [some (.ref aa), some (.int x1)] [] (mk s) (encI r) := by
  induction n with
  | zero => intro x1 s r   h; cases h
  | succ n ih => intro x1 s r   h; exact kb236_5 haa ih x1 s r   h
def f236 (aa : Nat)   (s : zS) : Option (Int32 × zS) := f236_5 aa zF (s.1 aa 1) s
set_option maxRecDepth 100000 in
theorem k236 {X : mX} {D : Nat} {aa : Nat}  {s : zS} {r : Int32 × zS} (haa : zMdec aa)  (h : f236 aa  s = some r) : Ev X D mm236 0 [some (.ref aa), none] [] (mk s) (encI r) := by
  rcases haa with rfl | rfl | rfl
  · unfold f236 at h
    refine Ev.run (pc' := 5) (ls' := [some (.ref 32), some (.int (s.1 32 1))]) (st' := []) (h' := mk s) 3 rfl ?_
    exact k236_5 (by decide) zF (s.1 32 1) s _ h
  · unfold f236 at h
    refine Ev.run (pc' := 5) (ls' := [some (.ref 34), some (.int (s.1 34 1))]) (st' := []) (h' := mk s) 3 rfl ?_
    exact k236_5 (by decide) zF (s.1 34 1) s _ h
  · unfold f236 at h
    refine Ev.run (pc' := 5) (ls' := [some (.ref 36), some (.int (s.1 36 1))]) (st' := []) (h' := mk s) 3 rfl ?_
    exact k236_5 (by decide) zF (s.1 36 1) s _ h
/-! 235 FModel$Decimal.digit(I)I -/
def b235_76 (aa : Nat) (rec76 : Int32 → Int32 → Int32 → zS → Option (Int32 × zS)) (x3 : Int32) (x4 : Int32) (x5 : Int32) (s : zS) : Option (Int32 × zS) := if x5 ≥ x3 then some (zrem x4 (zi 10), s) else rec76 x3 (x4 / (zi 10)) (x5 + zi 1) s
set_option maxRecDepth 100000 in
theorem kb235_76 {X : mX} {D : Nat} {aa : Nat} {rec76 : Int32 → Int32 → Int32 → zS → Option (Int32 × zS)} (haa : zMdec aa) (hrec76 : ∀ (x3 : Int32) (x4 : Int32) (x5 : Int32) (s : zS) (r : Int32 × zS) (o0 : Option Value) (o1 : Option Value) (o2 : Option Value), rec76 x3 x4 x5 s = some r → Ev X D mm235 76 [o0, o1, o2, some (.int x3), some (.int x4), some (.int x5)] [] (mk s) (encI r)) (x3 : Int32) (x4 : Int32) (x5 : Int32) (s : zS) (r : Int32 × zS) (o0 : Option Value) (o1 : Option Value) (o2 : Option Value)  (h : b235_76 aa rec76 x3 x4 x5 s = some r) : Ev X D mm235 76 [o0, o1, o2, some (.int x3), some (.int x4), some (.int x5)] [] (mk s) (encI r) := by
  rcases haa with rfl | rfl | rfl
  · unfold b235_76 at h
    refine Ev.run (pc' := 79) (ls' := [o0, o1, o2, some (.int x3), some (.int x4), some (.int x5)]) (st' := [.int x3, .int x5]) (h' := mk s) 2 rfl ?_
    refine Ev.icmp_ge (t := 95) rfl rfl (fun hb => ?_) (fun hb => ?_)
    · have h := (if_pos hb).symm.trans h
      refine Ev.run (pc' := 100) (ls' := [o0, o1, o2, some (.int x3), some (.int x4), some (.int x5)]) (st' := [.int (zrem x4 (zi 10))]) (h' := mk s) 3 rfl ?_
      first | (obtain rfl := Option.some.inj h) | (cases h)
      exact Ev.fin rfl rfl
    · have h := (if_neg hb).symm.trans h
      refine Ev.run (pc' := 76) (ls' := [o0, o1, o2, some (.int x3), some (.int (x4 / (zi 10))), some (.int (x5 + zi 1))]) (st' := []) (h' := mk s) 6 rfl ?_
      exact hrec76 x3 (x4 / (zi 10)) (x5 + zi 1) s _ _ _ _ h
  · unfold b235_76 at h
    refine Ev.run (pc' := 79) (ls' := [o0, o1, o2, some (.int x3), some (.int x4), some (.int x5)]) (st' := [.int x3, .int x5]) (h' := mk s) 2 rfl ?_
    refine Ev.icmp_ge (t := 95) rfl rfl (fun hb => ?_) (fun hb => ?_)
    · have h := (if_pos hb).symm.trans h
      refine Ev.run (pc' := 100) (ls' := [o0, o1, o2, some (.int x3), some (.int x4), some (.int x5)]) (st' := [.int (zrem x4 (zi 10))]) (h' := mk s) 3 rfl ?_
      first | (obtain rfl := Option.some.inj h) | (cases h)
      exact Ev.fin rfl rfl
    · have h := (if_neg hb).symm.trans h
      refine Ev.run (pc' := 76) (ls' := [o0, o1, o2, some (.int x3), some (.int (x4 / (zi 10))), some (.int (x5 + zi 1))]) (st' := []) (h' := mk s) 6 rfl ?_
      exact hrec76 x3 (x4 / (zi 10)) (x5 + zi 1) s _ _ _ _ h
  · unfold b235_76 at h
    refine Ev.run (pc' := 79) (ls' := [o0, o1, o2, some (.int x3), some (.int x4), some (.int x5)]) (st' := [.int x3, .int x5]) (h' := mk s) 2 rfl ?_
    refine Ev.icmp_ge (t := 95) rfl rfl (fun hb => ?_) (fun hb => ?_)
    · have h := (if_pos hb).symm.trans h
      refine Ev.run (pc' := 100) (ls' := [o0, o1, o2, some (.int x3), some (.int x4), some (.int x5)]) (st' := [.int (zrem x4 (zi 10))]) (h' := mk s) 3 rfl ?_
      first | (obtain rfl := Option.some.inj h) | (cases h)
      exact Ev.fin rfl rfl
    · have h := (if_neg hb).symm.trans h
      refine Ev.run (pc' := 76) (ls' := [o0, o1, o2, some (.int x3), some (.int (x4 / (zi 10))), some (.int (x5 + zi 1))]) (st' := []) (h' := mk s) 6 rfl ?_
      exact hrec76 x3 (x4 / (zi 10)) (x5 + zi 1) s _ _ _ _ h
def f235_76 (aa : Nat)  : Nat → Int32 → Int32 → Int32 → zS → Option (Int32 × zS)
  | 0, _, _, _, _ => none
  | n + 1, x3, x4, x5, s => b235_76 aa (f235_76 aa n) x3 x4 x5 s
set_option maxRecDepth 100000 in
theorem k235_76 {X : mX} {D : Nat} {aa : Nat}  (haa : zMdec aa)  (n : Nat) : ∀ (x3 : Int32) (x4 : Int32) (x5 : Int32) (s : zS) (r : Int32 × zS) (o0 : Option Value) (o1 : Option Value) (o2 : Option Value), f235_76 aa  n x3 x4 x5 s = some r → Ev X D mm235 76 [o0, o1, o2, some (.int x3), some (.int x4), some (.int x5)] [] (mk s) (encI r) := by
  induction n with
  | zero => intro x3 x4 x5 s r o0 o1 o2  h; cases h
  | succ n ih => intro x3 x4 x5 s r o0 o1 o2  h; exact kb235_76 haa ih x3 x4 x5 s r o0 o1 o2  h
def f235_46 (aa : Nat)  (x2 : Int32) (y0 : Int32) (s : zS) : Option (Int32 × zS) := if x2 < (s.1 aa 1) then some (zi 0, s) else if x2 < (s.1 aa 2) then if mIx x2 465 then f235_76 aa zF y0 (s.1 (aa + 1) x2.toNatClampNeg) (zi 0) s else none else some (zi 0, s)
set_option maxRecDepth 100000 in
theorem k235_46 {X : mX} {D : Nat} {aa : Nat}  (haa : zMdec aa)  (x2 : Int32) (y0 : Int32) (s : zS) (r : Int32 × zS) (o1 : Option Value) (o3 : Option Value) (o4 : Option Value) (o5 : Option Value)  (h : f235_46 aa  x2 y0 s = some r) : Ev X D mm235 46 [some (.ref aa), o1, some (.int x2), o3, o4, o5] [.int y0] (mk s) (encI r) := by
  rcases haa with rfl | rfl | rfl
  · unfold f235_46 at h
    refine Ev.run (pc' := 52) (ls' := [some (.ref 32), o1, some (.int x2), some (.int y0), o4, o5]) (st' := [.int (s.1 32 1), .int x2]) (h' := mk s) 4 rfl ?_
    refine Ev.icmp_lt (t := 63) rfl rfl (fun hb => ?_) (fun hb => ?_)
    · have h := (if_pos hb).symm.trans h
      refine Ev.run (pc' := 64) (ls' := [some (.ref 32), o1, some (.int x2), some (.int y0), o4, o5]) (st' := [.int (zi 0)]) (h' := mk s) 1 rfl ?_
      first | (obtain rfl := Option.some.inj h) | (cases h)
      exact Ev.fin rfl rfl
    · have h := (if_neg hb).symm.trans h
      refine Ev.run (pc' := 60) (ls' := [some (.ref 32), o1, some (.int x2), some (.int y0), o4, o5]) (st' := [.int (s.1 32 2), .int x2]) (h' := mk s) 3 rfl ?_
      refine Ev.icmp_lt (t := 65) rfl rfl (fun hb => ?_) (fun hb => ?_)
      · have h := (if_pos hb).symm.trans h
        refine Ev.run (pc' := 70) (ls' := [some (.ref 32), o1, some (.int x2), some (.int y0), o4, o5]) (st' := [.int x2, .ref (32 + 1)]) (h' := mk s) 3 rfl ?_
        obtain ⟨hx, h⟩ := zif h
        refine Ev.step (pc' := 71) rfl (ald_i rfl hx) ?_
        refine Ev.run (pc' := 76) (ls' := [some (.ref 32), o1, some (.int x2), some (.int y0), some (.int (s.1 (32 + 1) x2.toNatClampNeg)), some (.int (zi 0))]) (st' := []) (h' := mk s) 3 rfl ?_
        exact k235_76 (by decide) zF y0 (s.1 (32 + 1) x2.toNatClampNeg) (zi 0) s _ _ _ _ h
      · have h := (if_neg hb).symm.trans h
        refine Ev.run (pc' := 64) (ls' := [some (.ref 32), o1, some (.int x2), some (.int y0), o4, o5]) (st' := [.int (zi 0)]) (h' := mk s) 1 rfl ?_
        first | (obtain rfl := Option.some.inj h) | (cases h)
        exact Ev.fin rfl rfl
  · unfold f235_46 at h
    refine Ev.run (pc' := 52) (ls' := [some (.ref 34), o1, some (.int x2), some (.int y0), o4, o5]) (st' := [.int (s.1 34 1), .int x2]) (h' := mk s) 4 rfl ?_
    refine Ev.icmp_lt (t := 63) rfl rfl (fun hb => ?_) (fun hb => ?_)
    · have h := (if_pos hb).symm.trans h
      refine Ev.run (pc' := 64) (ls' := [some (.ref 34), o1, some (.int x2), some (.int y0), o4, o5]) (st' := [.int (zi 0)]) (h' := mk s) 1 rfl ?_
      first | (obtain rfl := Option.some.inj h) | (cases h)
      exact Ev.fin rfl rfl
    · have h := (if_neg hb).symm.trans h
      refine Ev.run (pc' := 60) (ls' := [some (.ref 34), o1, some (.int x2), some (.int y0), o4, o5]) (st' := [.int (s.1 34 2), .int x2]) (h' := mk s) 3 rfl ?_
      refine Ev.icmp_lt (t := 65) rfl rfl (fun hb => ?_) (fun hb => ?_)
      · have h := (if_pos hb).symm.trans h
        refine Ev.run (pc' := 70) (ls' := [some (.ref 34), o1, some (.int x2), some (.int y0), o4, o5]) (st' := [.int x2, .ref (34 + 1)]) (h' := mk s) 3 rfl ?_
        obtain ⟨hx, h⟩ := zif h
        refine Ev.step (pc' := 71) rfl (ald_i rfl hx) ?_
        refine Ev.run (pc' := 76) (ls' := [some (.ref 34), o1, some (.int x2), some (.int y0), some (.int (s.1 (34 + 1) x2.toNatClampNeg)), some (.int (zi 0))]) (st' := []) (h' := mk s) 3 rfl ?_
        exact k235_76 (by decide) zF y0 (s.1 (34 + 1) x2.toNatClampNeg) (zi 0) s _ _ _ _ h
      · have h := (if_neg hb).symm.trans h
        refine Ev.run (pc' := 64) (ls' := [some (.ref 34), o1, some (.int x2), some (.int y0), o4, o5]) (st' := [.int (zi 0)]) (h' := mk s) 1 rfl ?_
        first | (obtain rfl := Option.some.inj h) | (cases h)
        exact Ev.fin rfl rfl
  · unfold f235_46 at h
    refine Ev.run (pc' := 52) (ls' := [some (.ref 36), o1, some (.int x2), some (.int y0), o4, o5]) (st' := [.int (s.1 36 1), .int x2]) (h' := mk s) 4 rfl ?_
    refine Ev.icmp_lt (t := 63) rfl rfl (fun hb => ?_) (fun hb => ?_)
    · have h := (if_pos hb).symm.trans h
      refine Ev.run (pc' := 64) (ls' := [some (.ref 36), o1, some (.int x2), some (.int y0), o4, o5]) (st' := [.int (zi 0)]) (h' := mk s) 1 rfl ?_
      first | (obtain rfl := Option.some.inj h) | (cases h)
      exact Ev.fin rfl rfl
    · have h := (if_neg hb).symm.trans h
      refine Ev.run (pc' := 60) (ls' := [some (.ref 36), o1, some (.int x2), some (.int y0), o4, o5]) (st' := [.int (s.1 36 2), .int x2]) (h' := mk s) 3 rfl ?_
      refine Ev.icmp_lt (t := 65) rfl rfl (fun hb => ?_) (fun hb => ?_)
      · have h := (if_pos hb).symm.trans h
        refine Ev.run (pc' := 70) (ls' := [some (.ref 36), o1, some (.int x2), some (.int y0), o4, o5]) (st' := [.int x2, .ref (36 + 1)]) (h' := mk s) 3 rfl ?_
        obtain ⟨hx, h⟩ := zif h
        refine Ev.step (pc' := 71) rfl (ald_i rfl hx) ?_
        refine Ev.run (pc' := 76) (ls' := [some (.ref 36), o1, some (.int x2), some (.int y0), some (.int (s.1 (36 + 1) x2.toNatClampNeg)), some (.int (zi 0))]) (st' := []) (h' := mk s) 3 rfl ?_
        exact k235_76 (by decide) zF y0 (s.1 (36 + 1) x2.toNatClampNeg) (zi 0) s _ _ _ _ h
      · have h := (if_neg hb).symm.trans h
        refine Ev.run (pc' := 64) (ls' := [some (.ref 36), o1, some (.int x2), some (.int y0), o4, o5]) (st' := [.int (zi 0)]) (h' := mk s) 1 rfl ?_
        first | (obtain rfl := Option.some.inj h) | (cases h)
        exact Ev.fin rfl rfl
def f235_24 (aa : Nat)  (x1 : Int32) (y0 : Int32) (s : zS) : Option (Int32 × zS) := if x1 < zi 0 then f235_46 aa y0 ((zi 8) - (zrem ((-x1) - (zi 1)) (zi 9))) s else f235_46 aa y0 (zrem x1 (zi 9)) s
set_option maxRecDepth 100000 in
theorem k235_24 {X : mX} {D : Nat} {aa : Nat}  (haa : zMdec aa)  (x1 : Int32) (y0 : Int32) (s : zS) (r : Int32 × zS) (o2 : Option Value) (o3 : Option Value) (o4 : Option Value) (o5 : Option Value)  (h : f235_24 aa  x1 y0 s = some r) : Ev X D mm235 24 [some (.ref aa), some (.int x1), o2, o3, o4, o5] [.int y0] (mk s) (encI r) := by
  rcases haa with rfl | rfl | rfl
  · unfold f235_24 at h
    refine Ev.run (pc' := 26) (ls' := [some (.ref 32), some (.int x1), some (.int y0), o3, o4, o5]) (st' := [.int x1]) (h' := mk s) 2 rfl ?_
    refine Ev.if_lt (t := 36) rfl rfl (fun hb => ?_) (fun hb => ?_)
    · have h := (if_pos hb).symm.trans h
      refine Ev.run (pc' := 46) (ls' := [some (.ref 32), some (.int x1), some (.int y0), o3, o4, o5]) (st' := [.int ((zi 8) - (zrem ((-x1) - (zi 1)) (zi 9)))]) (h' := mk s) 8 rfl ?_
      exact k235_46 (by decide) y0 ((zi 8) - (zrem ((-x1) - (zi 1)) (zi 9))) s _ _ _ _ _ h
    · have h := (if_neg hb).symm.trans h
      refine Ev.run (pc' := 46) (ls' := [some (.ref 32), some (.int x1), some (.int y0), o3, o4, o5]) (st' := [.int (zrem x1 (zi 9))]) (h' := mk s) 4 rfl ?_
      exact k235_46 (by decide) y0 (zrem x1 (zi 9)) s _ _ _ _ _ h
  · unfold f235_24 at h
    refine Ev.run (pc' := 26) (ls' := [some (.ref 34), some (.int x1), some (.int y0), o3, o4, o5]) (st' := [.int x1]) (h' := mk s) 2 rfl ?_
    refine Ev.if_lt (t := 36) rfl rfl (fun hb => ?_) (fun hb => ?_)
    · have h := (if_pos hb).symm.trans h
      refine Ev.run (pc' := 46) (ls' := [some (.ref 34), some (.int x1), some (.int y0), o3, o4, o5]) (st' := [.int ((zi 8) - (zrem ((-x1) - (zi 1)) (zi 9)))]) (h' := mk s) 8 rfl ?_
      exact k235_46 (by decide) y0 ((zi 8) - (zrem ((-x1) - (zi 1)) (zi 9))) s _ _ _ _ _ h
    · have h := (if_neg hb).symm.trans h
      refine Ev.run (pc' := 46) (ls' := [some (.ref 34), some (.int x1), some (.int y0), o3, o4, o5]) (st' := [.int (zrem x1 (zi 9))]) (h' := mk s) 4 rfl ?_
      exact k235_46 (by decide) y0 (zrem x1 (zi 9)) s _ _ _ _ _ h
  · unfold f235_24 at h
    refine Ev.run (pc' := 26) (ls' := [some (.ref 36), some (.int x1), some (.int y0), o3, o4, o5]) (st' := [.int x1]) (h' := mk s) 2 rfl ?_
    refine Ev.if_lt (t := 36) rfl rfl (fun hb => ?_) (fun hb => ?_)
    · have h := (if_pos hb).symm.trans h
      refine Ev.run (pc' := 46) (ls' := [some (.ref 36), some (.int x1), some (.int y0), o3, o4, o5]) (st' := [.int ((zi 8) - (zrem ((-x1) - (zi 1)) (zi 9)))]) (h' := mk s) 8 rfl ?_
      exact k235_46 (by decide) y0 ((zi 8) - (zrem ((-x1) - (zi 1)) (zi 9))) s _ _ _ _ _ h
    · have h := (if_neg hb).symm.trans h
      refine Ev.run (pc' := 46) (ls' := [some (.ref 36), some (.int x1), some (.int y0), o3, o4, o5]) (st' := [.int (zrem x1 (zi 9))]) (h' := mk s) 4 rfl ?_
      exact k235_46 (by decide) y0 (zrem x1 (zi 9)) s _ _ _ _ _ h
def f235 (aa : Nat)  (x1 : Int32) (s : zS) : Option (Int32 × zS) := if x1 < zi 0 then f235_24 aa x1 ((zi 45) + (((-x1) - (zi 1)) / (zi 9))) s else f235_24 aa x1 ((zi 44) - (x1 / (zi 9))) s
set_option maxRecDepth 100000 in
theorem k235 {X : mX} {D : Nat} {aa : Nat} {x1 : Int32} {s : zS} {r : Int32 × zS} (haa : zMdec aa)  (h : f235 aa x1 s = some r) : Ev X D mm235 0 [some (.ref aa), some (.int x1), none, none, none, none] [] (mk s) (encI r) := by
  rcases haa with rfl | rfl | rfl
  · unfold f235 at h
    refine Ev.run (pc' := 1) (ls' := [some (.ref 32), some (.int x1), none, none, none, none]) (st' := [.int x1]) (h' := mk s) 1 rfl ?_
    refine Ev.if_lt (t := 14) rfl rfl (fun hb => ?_) (fun hb => ?_)
    · have h := (if_pos hb).symm.trans h
      refine Ev.run (pc' := 24) (ls' := [some (.ref 32), some (.int x1), none, none, none, none]) (st' := [.int ((zi 45) + (((-x1) - (zi 1)) / (zi 9)))]) (h' := mk s) 8 rfl ?_
      exact k235_24 (by decide) x1 ((zi 45) + (((-x1) - (zi 1)) / (zi 9))) s _ _ _ _ _ h
    · have h := (if_neg hb).symm.trans h
      refine Ev.run (pc' := 24) (ls' := [some (.ref 32), some (.int x1), none, none, none, none]) (st' := [.int ((zi 44) - (x1 / (zi 9)))]) (h' := mk s) 6 rfl ?_
      exact k235_24 (by decide) x1 ((zi 44) - (x1 / (zi 9))) s _ _ _ _ _ h
  · unfold f235 at h
    refine Ev.run (pc' := 1) (ls' := [some (.ref 34), some (.int x1), none, none, none, none]) (st' := [.int x1]) (h' := mk s) 1 rfl ?_
    refine Ev.if_lt (t := 14) rfl rfl (fun hb => ?_) (fun hb => ?_)
    · have h := (if_pos hb).symm.trans h
      refine Ev.run (pc' := 24) (ls' := [some (.ref 34), some (.int x1), none, none, none, none]) (st' := [.int ((zi 45) + (((-x1) - (zi 1)) / (zi 9)))]) (h' := mk s) 8 rfl ?_
      exact k235_24 (by decide) x1 ((zi 45) + (((-x1) - (zi 1)) / (zi 9))) s _ _ _ _ _ h
    · have h := (if_neg hb).symm.trans h
      refine Ev.run (pc' := 24) (ls' := [some (.ref 34), some (.int x1), none, none, none, none]) (st' := [.int ((zi 44) - (x1 / (zi 9)))]) (h' := mk s) 6 rfl ?_
      exact k235_24 (by decide) x1 ((zi 44) - (x1 / (zi 9))) s _ _ _ _ _ h
  · unfold f235 at h
    refine Ev.run (pc' := 1) (ls' := [some (.ref 36), some (.int x1), none, none, none, none]) (st' := [.int x1]) (h' := mk s) 1 rfl ?_
    refine Ev.if_lt (t := 14) rfl rfl (fun hb => ?_) (fun hb => ?_)
    · have h := (if_pos hb).symm.trans h
      refine Ev.run (pc' := 24) (ls' := [some (.ref 36), some (.int x1), none, none, none, none]) (st' := [.int ((zi 45) + (((-x1) - (zi 1)) / (zi 9)))]) (h' := mk s) 8 rfl ?_
      exact k235_24 (by decide) x1 ((zi 45) + (((-x1) - (zi 1)) / (zi 9))) s _ _ _ _ _ h
    · have h := (if_neg hb).symm.trans h
      refine Ev.run (pc' := 24) (ls' := [some (.ref 36), some (.int x1), none, none, none, none]) (st' := [.int ((zi 44) - (x1 / (zi 9)))]) (h' := mk s) 6 rfl ?_
      exact k235_24 (by decide) x1 ((zi 44) - (x1 / (zi 9))) s _ _ _ _ _ h
/-! 237 FModel$Decimal.top()I -/
def b237_31 (aa : Nat) (rec31 : Int32 → Int32 → zS → Option (Int32 × zS)) (x1 : Int32) (x2 : Int32) (s : zS) : Option (Int32 × zS) := zb1 (f235 aa x2 s) (fun v2 s1 => if ¬ v2 = zi 0 then some (x2, s1) else rec31 x1 (x2 + zi (-1)) s1)
set_option maxRecDepth 100000 in
theorem kb237_31 {X : mX} {D : Nat} {aa : Nat} {rec31 : Int32 → Int32 → zS → Option (Int32 × zS)} (haa : zMdec aa) (hrec31 : ∀ (x1 : Int32) (x2 : Int32) (s : zS) (r : Int32 × zS) , rec31 x1 x2 s = some r → Ev X (D + 1) mm237 31 [some (.ref aa), some (.int x1), some (.int x2)] [] (mk s) (encI r)) (x1 : Int32) (x2 : Int32) (s : zS) (r : Int32 × zS)   (h : b237_31 aa rec31 x1 x2 s = some r) : Ev X (D + 1) mm237 31 [some (.ref aa), some (.int x1), some (.int x2)] [] (mk s) (encI r) := by
  rcases haa with rfl | rfl | rfl
  · unfold b237_31 at h
    refine Ev.run (pc' := 33) (ls' := [some (.ref 32), some (.int x1), some (.int x2)]) (st' := [.int x2, .ref 32]) (h' := mk s) 2 rfl ?_
    obtain ⟨v2, s1, hq, h⟩ := zb1_some h
    refine Ev.call (M' := mm235) (v := some (.int v2)) (h' := mk s1) rfl rfl rfl (Nat.le_of_ble_eq_true rfl) (k235 (by decide) hq) ?_
    refine Ev.if_ne (t := 45) rfl rfl (fun hb => ?_) (fun hb => ?_)
    · have h := (if_pos hb).symm.trans h
      refine Ev.run (pc' := 46) (ls' := [some (.ref 32), some (.int x1), some (.int x2)]) (st' := [.int x2]) (h' := mk s1) 1 rfl ?_
      first | (obtain rfl := Option.some.inj h) | (cases h)
      exact Ev.fin rfl rfl
    · have h := (if_neg hb).symm.trans h
      refine Ev.run (pc' := 31) (ls' := [some (.ref 32), some (.int x1), some (.int (x2 + zi (-1)))]) (st' := []) (h' := mk s1) 2 rfl ?_
      exact hrec31 x1 (x2 + zi (-1)) s1 _ h
  · unfold b237_31 at h
    refine Ev.run (pc' := 33) (ls' := [some (.ref 34), some (.int x1), some (.int x2)]) (st' := [.int x2, .ref 34]) (h' := mk s) 2 rfl ?_
    obtain ⟨v2, s1, hq, h⟩ := zb1_some h
    refine Ev.call (M' := mm235) (v := some (.int v2)) (h' := mk s1) rfl rfl rfl (Nat.le_of_ble_eq_true rfl) (k235 (by decide) hq) ?_
    refine Ev.if_ne (t := 45) rfl rfl (fun hb => ?_) (fun hb => ?_)
    · have h := (if_pos hb).symm.trans h
      refine Ev.run (pc' := 46) (ls' := [some (.ref 34), some (.int x1), some (.int x2)]) (st' := [.int x2]) (h' := mk s1) 1 rfl ?_
      first | (obtain rfl := Option.some.inj h) | (cases h)
      exact Ev.fin rfl rfl
    · have h := (if_neg hb).symm.trans h
      refine Ev.run (pc' := 31) (ls' := [some (.ref 34), some (.int x1), some (.int (x2 + zi (-1)))]) (st' := []) (h' := mk s1) 2 rfl ?_
      exact hrec31 x1 (x2 + zi (-1)) s1 _ h
  · unfold b237_31 at h
    refine Ev.run (pc' := 33) (ls' := [some (.ref 36), some (.int x1), some (.int x2)]) (st' := [.int x2, .ref 36]) (h' := mk s) 2 rfl ?_
    obtain ⟨v2, s1, hq, h⟩ := zb1_some h
    refine Ev.call (M' := mm235) (v := some (.int v2)) (h' := mk s1) rfl rfl rfl (Nat.le_of_ble_eq_true rfl) (k235 (by decide) hq) ?_
    refine Ev.if_ne (t := 45) rfl rfl (fun hb => ?_) (fun hb => ?_)
    · have h := (if_pos hb).symm.trans h
      refine Ev.run (pc' := 46) (ls' := [some (.ref 36), some (.int x1), some (.int x2)]) (st' := [.int x2]) (h' := mk s1) 1 rfl ?_
      first | (obtain rfl := Option.some.inj h) | (cases h)
      exact Ev.fin rfl rfl
    · have h := (if_neg hb).symm.trans h
      refine Ev.run (pc' := 31) (ls' := [some (.ref 36), some (.int x1), some (.int (x2 + zi (-1)))]) (st' := []) (h' := mk s1) 2 rfl ?_
      exact hrec31 x1 (x2 + zi (-1)) s1 _ h
def f237_31 (aa : Nat)  : Nat → Int32 → Int32 → zS → Option (Int32 × zS)
  | 0, _, _, _ => none
  | n + 1, x1, x2, s => b237_31 aa (f237_31 aa n) x1 x2 s
set_option maxRecDepth 100000 in
theorem k237_31 {X : mX} {D : Nat} {aa : Nat}  (haa : zMdec aa)  (n : Nat) : ∀ (x1 : Int32) (x2 : Int32) (s : zS) (r : Int32 × zS) , f237_31 aa  n x1 x2 s = some r → Ev X (D + 1) mm237 31 [some (.ref aa), some (.int x1), some (.int x2)] [] (mk s) (encI r) := by
  induction n with
  | zero => intro x1 x2 s r   h; cases h
  | succ n ih => intro x1 x2 s r   h; exact kb237_31 haa ih x1 x2 s r   h
def b237_5 (aa : Nat) (rec5 : Int32 → zS → Option (Int32 × zS)) (x1 : Int32) (s : zS) : Option (Int32 × zS) := if mIx x1 465 then if ¬ (s.1 (aa + 1) x1.toNatClampNeg) = zi 0 then f237_31 aa zF x1 (((zi 9) * ((zi 44) - x1)) + (zi 8)) s else rec5 (x1 + zi 1) s else none
set_option maxRecDepth 100000 in
theorem kb237_5 {X : mX} {D : Nat} {aa : Nat} {rec5 : Int32 → zS → Option (Int32 × zS)} (haa : zMdec aa) (hrec5 : ∀ (x1 : Int32) (s : zS) (r : Int32 × zS) (o2 : Option Value), rec5 x1 s = some r → Ev X (D + 1) mm237 5 [some (.ref aa), some (.int x1), o2] [] (mk s) (encI r)) (x1 : Int32) (s : zS) (r : Int32 × zS) (o2 : Option Value)  (h : b237_5 aa rec5 x1 s = some r) : Ev X (D + 1) mm237 5 [some (.ref aa), some (.int x1), o2] [] (mk s) (encI r) := by
  rcases haa with rfl | rfl | rfl
  · unfold b237_5 at h
    refine Ev.run (pc' := 10) (ls' := [some (.ref 32), some (.int x1), o2]) (st' := [.int x1, .ref (32 + 1)]) (h' := mk s) 3 rfl ?_
    obtain ⟨hx, h⟩ := zif h
    refine Ev.step (pc' := 11) rfl (ald_i rfl hx) ?_
    refine Ev.if_ne (t := 20) rfl rfl (fun hb => ?_) (fun hb => ?_)
    · have h := (if_pos hb).symm.trans h
      refine Ev.run (pc' := 31) (ls' := [some (.ref 32), some (.int x1), some (.int (((zi 9) * ((zi 44) - x1)) + (zi 8)))]) (st' := []) (h' := mk s) 8 rfl ?_
      exact k237_31 (by decide) zF x1 (((zi 9) * ((zi 44) - x1)) + (zi 8)) s _ h
    · have h := (if_neg hb).symm.trans h
      refine Ev.run (pc' := 5) (ls' := [some (.ref 32), some (.int (x1 + zi 1)), o2]) (st' := []) (h' := mk s) 2 rfl ?_
      exact hrec5 (x1 + zi 1) s _ _ h
  · unfold b237_5 at h
    refine Ev.run (pc' := 10) (ls' := [some (.ref 34), some (.int x1), o2]) (st' := [.int x1, .ref (34 + 1)]) (h' := mk s) 3 rfl ?_
    obtain ⟨hx, h⟩ := zif h
    refine Ev.step (pc' := 11) rfl (ald_i rfl hx) ?_
    refine Ev.if_ne (t := 20) rfl rfl (fun hb => ?_) (fun hb => ?_)
    · have h := (if_pos hb).symm.trans h
      refine Ev.run (pc' := 31) (ls' := [some (.ref 34), some (.int x1), some (.int (((zi 9) * ((zi 44) - x1)) + (zi 8)))]) (st' := []) (h' := mk s) 8 rfl ?_
      exact k237_31 (by decide) zF x1 (((zi 9) * ((zi 44) - x1)) + (zi 8)) s _ h
    · have h := (if_neg hb).symm.trans h
      refine Ev.run (pc' := 5) (ls' := [some (.ref 34), some (.int (x1 + zi 1)), o2]) (st' := []) (h' := mk s) 2 rfl ?_
      exact hrec5 (x1 + zi 1) s _ _ h
  · unfold b237_5 at h
    refine Ev.run (pc' := 10) (ls' := [some (.ref 36), some (.int x1), o2]) (st' := [.int x1, .ref (36 + 1)]) (h' := mk s) 3 rfl ?_
    obtain ⟨hx, h⟩ := zif h
    refine Ev.step (pc' := 11) rfl (ald_i rfl hx) ?_
    refine Ev.if_ne (t := 20) rfl rfl (fun hb => ?_) (fun hb => ?_)
    · have h := (if_pos hb).symm.trans h
      refine Ev.run (pc' := 31) (ls' := [some (.ref 36), some (.int x1), some (.int (((zi 9) * ((zi 44) - x1)) + (zi 8)))]) (st' := []) (h' := mk s) 8 rfl ?_
      exact k237_31 (by decide) zF x1 (((zi 9) * ((zi 44) - x1)) + (zi 8)) s _ h
    · have h := (if_neg hb).symm.trans h
      refine Ev.run (pc' := 5) (ls' := [some (.ref 36), some (.int (x1 + zi 1)), o2]) (st' := []) (h' := mk s) 2 rfl ?_
      exact hrec5 (x1 + zi 1) s _ _ h
def f237_5 (aa : Nat)  : Nat → Int32 → zS → Option (Int32 × zS)
  | 0, _, _ => none
  | n + 1, x1, s => b237_5 aa (f237_5 aa n) x1 s
set_option maxRecDepth 100000 in
theorem k237_5 {X : mX} {D : Nat} {aa : Nat}  (haa : zMdec aa)  (n : Nat) : ∀ (x1 : Int32) (s : zS) (r : Int32 × zS) (o2 : Option Value), f237_5 aa  n x1 s = some r → Ev X (D + 1) mm237 5 [some (.ref aa), some (.int x1), o2] [] (mk s) (encI r) := by
  induction n with
  | zero => intro x1 s r o2  h; cases h
  | succ n ih => intro x1 s r o2  h; exact kb237_5 haa ih x1 s r o2  h
def f237 (aa : Nat)   (s : zS) : Option (Int32 × zS) := f237_5 aa zF (s.1 aa 1) s
set_option maxRecDepth 100000 in
theorem k237 {X : mX} {D : Nat} {aa : Nat}  {s : zS} {r : Int32 × zS} (haa : zMdec aa)  (h : f237 aa  s = some r) : Ev X (D + 1) mm237 0 [some (.ref aa), none, none] [] (mk s) (encI r) := by
  rcases haa with rfl | rfl | rfl
  · unfold f237 at h
    refine Ev.run (pc' := 5) (ls' := [some (.ref 32), some (.int (s.1 32 1)), none]) (st' := []) (h' := mk s) 3 rfl ?_
    exact k237_5 (by decide) zF (s.1 32 1) s _ _ h
  · unfold f237 at h
    refine Ev.run (pc' := 5) (ls' := [some (.ref 34), some (.int (s.1 34 1)), none]) (st' := []) (h' := mk s) 3 rfl ?_
    exact k237_5 (by decide) zF (s.1 34 1) s _ _ h
  · unfold f237 at h
    refine Ev.run (pc' := 5) (ls' := [some (.ref 36), some (.int (s.1 36 1)), none]) (st' := []) (h' := mk s) 3 rfl ?_
    exact k237_5 (by decide) zF (s.1 36 1) s _ _ h
/-! 164 FModel.raise()V -/
def b164_56 (rec56 : Int32 → Int32 → zS → Option (zS)) (x1 : Int32) (x2 : Int32) (s : zS) : Option (zS) := if x2 ≤ zi 0 then if mIx (zi 0) 2400 then some (setI (setI (setB s 38 ((zi 0).toNatClampNeg) (zI2B (zi 1))) 24 28 ((s.1 24 28) + (zi 1))) 24 27 ((s.1 24 27) + (zi 1))) else none else if mIx (x2 - (zi 1)) 2400 then if mIx x2 2400 then rec56 x1 (x2 + zi (-1)) (setB s 38 x2.toNatClampNeg (zI2B (s.1 38 ((x2 - (zi 1)).toNatClampNeg)))) else none else none
set_option maxRecDepth 100000 in
theorem kb164_56 {X : mX} {D : Nat} {rec56 : Int32 → Int32 → zS → Option (zS)} (hrec56 : ∀ (x1 : Int32) (x2 : Int32) (s : zS) (r : zS) , rec56 x1 x2 s = some r → Ev X D mm164 56 [some (.ref 24), some (.int x1), some (.int x2)] [] (mk s) (encV r)) (x1 : Int32) (x2 : Int32) (s : zS) (r : zS)   (h : b164_56 rec56 x1 x2 s = some r) : Ev X D mm164 56 [some (.ref 24), some (.int x1), some (.int x2)] [] (mk s) (encV r) := by
  unfold b164_56 at h
  refine Ev.run (pc' := 57) (ls' := [some (.ref 24), some (.int x1), some (.int x2)]) (st' := [.int x2]) (h' := mk s) 1 rfl ?_
  refine Ev.if_le (t := 80) rfl rfl (fun hb => ?_) (fun hb => ?_)
  · have h := (if_pos hb).symm.trans h
    refine Ev.run (pc' := 86) (ls' := [some (.ref 24), some (.int x1), some (.int x2)]) (st' := [.int (zi 1), .int (zi 0), .ref 38]) (h' := mk s) 4 rfl ?_
    obtain ⟨hx, h⟩ := zif h
    refine Ev.step (pc' := 87) rfl (ast_38 hx) ?_
    refine Ev.run (pc' := 94) (ls' := [some (.ref 24), some (.int x1), some (.int x2)]) (st' := [.int ((s.1 24 28) + (zi 1)), .ref 24]) (h' := mk (setB s 38 ((zi 0).toNatClampNeg) (zI2B (zi 1)))) 5 rfl ?_
    refine Ev.step (pc' := 97) rfl (put_12_28 rfl) ?_
    refine Ev.run (pc' := 104) (ls' := [some (.ref 24), some (.int x1), some (.int x2)]) (st' := [.int ((s.1 24 27) + (zi 1)), .ref 24]) (h' := mk (setI (setB s 38 ((zi 0).toNatClampNeg) (zI2B (zi 1))) 24 28 ((s.1 24 28) + (zi 1)))) 5 rfl ?_
    refine Ev.step (pc' := 107) rfl (put_12_27 rfl) ?_
    first | (obtain rfl := Option.some.inj h) | (cases h)
    exact Ev.fin rfl rfl
  · have h := (if_neg hb).symm.trans h
    refine Ev.run (pc' := 72) (ls' := [some (.ref 24), some (.int x1), some (.int x2)]) (st' := [.int (x2 - (zi 1)), .ref 38, .int x2, .ref 38]) (h' := mk s) 8 rfl ?_
    obtain ⟨hx, h⟩ := zif h
    refine Ev.step (pc' := 73) rfl (ald_b rfl hx) ?_
    obtain ⟨hx, h⟩ := zif h
    refine Ev.step (pc' := 74) rfl (ast_38 hx) ?_
    refine Ev.run (pc' := 56) (ls' := [some (.ref 24), some (.int x1), some (.int (x2 + zi (-1)))]) (st' := []) (h' := mk (setB s 38 x2.toNatClampNeg (zI2B (s.1 38 ((x2 - (zi 1)).toNatClampNeg))))) 2 rfl ?_
    exact hrec56 x1 (x2 + zi (-1)) (setB s 38 x2.toNatClampNeg (zI2B (s.1 38 ((x2 - (zi 1)).toNatClampNeg)))) _ h
def f164_56  : Nat → Int32 → Int32 → zS → Option (zS)
  | 0, _, _, _ => none
  | n + 1, x1, x2, s => b164_56 (f164_56 n) x1 x2 s
set_option maxRecDepth 100000 in
theorem k164_56 {X : mX} {D : Nat}   (n : Nat) : ∀ (x1 : Int32) (x2 : Int32) (s : zS) (r : zS) , f164_56  n x1 x2 s = some r → Ev X D mm164 56 [some (.ref 24), some (.int x1), some (.int x2)] [] (mk s) (encV r) := by
  induction n with
  | zero => intro x1 x2 s r   h; cases h
  | succ n ih => intro x1 x2 s r   h; exact kb164_56  ih x1 x2 s r   h
def f164_35  (x1 : Int32) (s : zS) : Option (zS) := if x1 < zi 0 then f164_56 zF x1 (s.1 24 28) s else if mIx x1 2400 then if mIx x1 2400 then some (setB s 38 x1.toNatClampNeg (zI2B (zI2B ((s.1 38 x1.toNatClampNeg) + (zi 1))))) else none else none
set_option maxRecDepth 100000 in
theorem k164_35 {X : mX} {D : Nat}   (x1 : Int32) (s : zS) (r : zS) (o2 : Option Value)  (h : f164_35  x1 s = some r) : Ev X D mm164 35 [some (.ref 24), some (.int x1), o2] [] (mk s) (encV r) := by
  unfold f164_35 at h
  refine Ev.run (pc' := 36) (ls' := [some (.ref 24), some (.int x1), o2]) (st' := [.int x1]) (h' := mk s) 1 rfl ?_
  refine Ev.if_lt (t := 51) rfl rfl (fun hb => ?_) (fun hb => ?_)
  · have h := (if_pos hb).symm.trans h
    refine Ev.run (pc' := 56) (ls' := [some (.ref 24), some (.int x1), some (.int (s.1 24 28))]) (st' := []) (h' := mk s) 3 rfl ?_
    exact k164_56 zF x1 (s.1 24 28) s _ h
  · have h := (if_neg hb).symm.trans h
    refine Ev.run (pc' := 45) (ls' := [some (.ref 24), some (.int x1), o2]) (st' := [.int x1, .ref 38, .int x1, .ref 38]) (h' := mk s) 4 rfl ?_
    obtain ⟨hx, h⟩ := zif h
    refine Ev.step (pc' := 46) rfl (ald_b rfl hx) ?_
    refine Ev.run (pc' := 49) (ls' := [some (.ref 24), some (.int x1), o2]) (st' := [.int (zI2B ((s.1 38 x1.toNatClampNeg) + (zi 1))), .int x1, .ref 38]) (h' := mk s) 3 rfl ?_
    obtain ⟨hx, h⟩ := zif h
    refine Ev.step (pc' := 50) rfl (ast_38 hx) ?_
    first | (obtain rfl := Option.some.inj h) | (cases h)
    exact Ev.fin rfl rfl
def b164_7 (rec7 : Int32 → zS → Option (zS)) (x1 : Int32) (s : zS) : Option (zS) := if x1 < zi 0 then f164_35 x1 s else if mIx x1 2400 then if ¬ (s.1 38 x1.toNatClampNeg) = (zi 9) then f164_35 x1 s else if mIx x1 2400 then rec7 (x1 + zi (-1)) (setB s 38 x1.toNatClampNeg (zI2B (zi 0))) else none else none
set_option maxRecDepth 100000 in
theorem kb164_7 {X : mX} {D : Nat} {rec7 : Int32 → zS → Option (zS)} (hrec7 : ∀ (x1 : Int32) (s : zS) (r : zS) (o2 : Option Value), rec7 x1 s = some r → Ev X D mm164 7 [some (.ref 24), some (.int x1), o2] [] (mk s) (encV r)) (x1 : Int32) (s : zS) (r : zS) (o2 : Option Value)  (h : b164_7 rec7 x1 s = some r) : Ev X D mm164 7 [some (.ref 24), some (.int x1), o2] [] (mk s) (encV r) := by
  unfold b164_7 at h
  refine Ev.run (pc' := 8) (ls' := [some (.ref 24), some (.int x1), o2]) (st' := [.int x1]) (h' := mk s) 1 rfl ?_
  refine Ev.if_lt (t := 35) rfl rfl (fun hb => ?_) (fun hb => ?_)
  · have h := (if_pos hb).symm.trans h
    exact k164_35 x1 s _ _ h
  · have h := (if_neg hb).symm.trans h
    refine Ev.run (pc' := 16) (ls' := [some (.ref 24), some (.int x1), o2]) (st' := [.int x1, .ref 38]) (h' := mk s) 3 rfl ?_
    obtain ⟨hx, h⟩ := zif h
    refine Ev.step (pc' := 17) rfl (ald_b rfl hx) ?_
    refine Ev.run (pc' := 19) (ls' := [some (.ref 24), some (.int x1), o2]) (st' := [.int (zi 9), .int (s.1 38 x1.toNatClampNeg)]) (h' := mk s) 1 rfl ?_
    refine Ev.icmp_ne (t := 35) rfl rfl (fun hb => ?_) (fun hb => ?_)
    · have h := (if_pos hb).symm.trans h
      exact k164_35 x1 s _ _ h
    · have h := (if_neg hb).symm.trans h
      refine Ev.run (pc' := 28) (ls' := [some (.ref 24), some (.int x1), o2]) (st' := [.int (zi 0), .int x1, .ref 38]) (h' := mk s) 4 rfl ?_
      obtain ⟨hx, h⟩ := zif h
      refine Ev.step (pc' := 29) rfl (ast_38 hx) ?_
      refine Ev.run (pc' := 7) (ls' := [some (.ref 24), some (.int (x1 + zi (-1))), o2]) (st' := []) (h' := mk (setB s 38 x1.toNatClampNeg (zI2B (zi 0)))) 2 rfl ?_
      exact hrec7 (x1 + zi (-1)) (setB s 38 x1.toNatClampNeg (zI2B (zi 0))) _ _ h
def f164_7  : Nat → Int32 → zS → Option (zS)
  | 0, _, _ => none
  | n + 1, x1, s => b164_7 (f164_7 n) x1 s
set_option maxRecDepth 100000 in
theorem k164_7 {X : mX} {D : Nat}   (n : Nat) : ∀ (x1 : Int32) (s : zS) (r : zS) (o2 : Option Value), f164_7  n x1 s = some r → Ev X D mm164 7 [some (.ref 24), some (.int x1), o2] [] (mk s) (encV r) := by
  induction n with
  | zero => intro x1 s r o2  h; cases h
  | succ n ih => intro x1 s r o2  h; exact kb164_7  ih x1 s r o2  h
def f164   (s : zS) : Option (zS) := f164_7 zF ((s.1 24 28) - (zi 1)) s
set_option maxRecDepth 100000 in
theorem k164 {X : mX} {D : Nat}  {s : zS} {r : zS}  (h : f164  s = some r) : Ev X D mm164 0 [some (.ref 24), none, none] [] (mk s) (encV r) := by
  unfold f164 at h
  refine Ev.run (pc' := 7) (ls' := [some (.ref 24), some (.int ((s.1 24 28) - (zi 1))), none]) (st' := []) (h' := mk s) 5 rfl ?_
  exact k164_7 zF ((s.1 24 28) - (zi 1)) s _ _ h
/-! 163 FModel.rounded(I)V -/
def b163_43 (rec43 : Int32 → Int32 → zS → Option (zS)) (x1 : Int32) (x2 : Int32) (s : zS) : Option (zS) := if x2 ≥ (s.1 24 28) then zb1 (f235 32 (x1 - (zi 1)) s) (fun v2 s1 => if v2 < (zi 5) then some s1 else zb0 (f164 s1) (fun s3 => some s3)) else zb1 (f235 32 ((s.1 24 27) - x2) s) (fun v5 s4 => if mIx x2 2400 then rec43 x1 (x2 + zi 1) (setB s4 38 x2.toNatClampNeg (zI2B (zI2B v5))) else none)
set_option maxRecDepth 100000 in
theorem kb163_43 {X : mX} {D : Nat} {rec43 : Int32 → Int32 → zS → Option (zS)} (hrec43 : ∀ (x1 : Int32) (x2 : Int32) (s : zS) (r : zS) , rec43 x1 x2 s = some r → Ev X (D + 2) mm163 43 [some (.ref 24), some (.int x1), some (.int x2)] [] (mk s) (encV r)) (x1 : Int32) (x2 : Int32) (s : zS) (r : zS)   (h : b163_43 rec43 x1 x2 s = some r) : Ev X (D + 2) mm163 43 [some (.ref 24), some (.int x1), some (.int x2)] [] (mk s) (encV r) := by
  unfold b163_43 at h
  refine Ev.run (pc' := 48) (ls' := [some (.ref 24), some (.int x1), some (.int x2)]) (st' := [.int (s.1 24 28), .int x2]) (h' := mk s) 3 rfl ?_
  refine Ev.icmp_ge (t := 77) rfl rfl (fun hb => ?_) (fun hb => ?_)
  · have h := (if_pos hb).symm.trans h
    refine Ev.run (pc' := 84) (ls' := [some (.ref 24), some (.int x1), some (.int x2)]) (st' := [.int (x1 - (zi 1)), .ref 32]) (h' := mk s) 5 rfl ?_
    obtain ⟨v2, s1, hq, h⟩ := zb1_some h
    refine Ev.call (M' := mm235) (v := some (.int v2)) (h' := mk s1) rfl rfl rfl (Nat.le_of_ble_eq_true rfl) (k235 (by decide) hq) ?_
    refine Ev.run (pc' := 88) (ls' := [some (.ref 24), some (.int x1), some (.int x2)]) (st' := [.int (zi 5), .int v2]) (h' := mk s1) 1 rfl ?_
    refine Ev.icmp_lt (t := 95) rfl rfl (fun hb => ?_) (fun hb => ?_)
    · have h := (if_pos hb).symm.trans h
      first | (obtain rfl := Option.some.inj h) | (cases h)
      exact Ev.fin rfl rfl
    · have h := (if_neg hb).symm.trans h
      refine Ev.run (pc' := 92) (ls' := [some (.ref 24), some (.int x1), some (.int x2)]) (st' := [.ref 24]) (h' := mk s1) 1 rfl ?_
      obtain ⟨s3, hq, h⟩ := zb0_some h
      refine Ev.call (M' := mm164) (v := none) (h' := mk s3) rfl rfl rfl (Nat.le_of_ble_eq_true rfl) (k164 hq) ?_
      first | (obtain rfl := Option.some.inj h) | (cases h)
      exact Ev.fin rfl rfl
  · have h := (if_neg hb).symm.trans h
    refine Ev.run (pc' := 66) (ls' := [some (.ref 24), some (.int x1), some (.int x2)]) (st' := [.int ((s.1 24 27) - x2), .ref 32, .int x2, .ref 38]) (h' := mk s) 9 rfl ?_
    obtain ⟨v5, s4, hq, h⟩ := zb1_some h
    refine Ev.call (M' := mm235) (v := some (.int v5)) (h' := mk s4) rfl rfl rfl (Nat.le_of_ble_eq_true rfl) (k235 (by decide) hq) ?_
    refine Ev.run (pc' := 70) (ls' := [some (.ref 24), some (.int x1), some (.int x2)]) (st' := [.int (zI2B v5), .int x2, .ref 38]) (h' := mk s4) 1 rfl ?_
    obtain ⟨hx, h⟩ := zif h
    refine Ev.step (pc' := 71) rfl (ast_38 hx) ?_
    refine Ev.run (pc' := 43) (ls' := [some (.ref 24), some (.int x1), some (.int (x2 + zi 1))]) (st' := []) (h' := mk (setB s4 38 x2.toNatClampNeg (zI2B (zI2B v5)))) 2 rfl ?_
    exact hrec43 x1 (x2 + zi 1) (setB s4 38 x2.toNatClampNeg (zI2B (zI2B v5))) _ h
def f163_43  : Nat → Int32 → Int32 → zS → Option (zS)
  | 0, _, _, _ => none
  | n + 1, x1, x2, s => b163_43 (f163_43 n) x1 x2 s
set_option maxRecDepth 100000 in
theorem k163_43 {X : mX} {D : Nat}   (n : Nat) : ∀ (x1 : Int32) (x2 : Int32) (s : zS) (r : zS) , f163_43  n x1 x2 s = some r → Ev X (D + 2) mm163 43 [some (.ref 24), some (.int x1), some (.int x2)] [] (mk s) (encV r) := by
  induction n with
  | zero => intro x1 x2 s r   h; cases h
  | succ n ih => intro x1 x2 s r   h; exact kb163_43  ih x1 x2 s r   h
def f163_26  (x1 : Int32) (y1 : Int32) (s : zS) : Option (zS) := f163_43 zF x1 (zi 0) (setI (setI s 24 27 y1) 24 28 ((y1 - x1) + (zi 1)))
set_option maxRecDepth 100000 in
theorem k163_26 {X : mX} {D : Nat}   (x1 : Int32) (y1 : Int32) (s : zS) (r : zS) (o2 : Option Value)  (h : f163_26  x1 y1 s = some r) : Ev X (D + 2) mm163 26 [some (.ref 24), some (.int x1), o2] [.int y1, .ref 24] (mk s) (encV r) := by
  unfold f163_26 at h
  refine Ev.step (pc' := 29) rfl (put_12_27 rfl) ?_
  refine Ev.run (pc' := 38) (ls' := [some (.ref 24), some (.int x1), o2]) (st' := [.int ((y1 - x1) + (zi 1)), .ref 24]) (h' := mk (setI s 24 27 y1)) 7 rfl ?_
  refine Ev.step (pc' := 41) rfl (put_12_28 rfl) ?_
  refine Ev.run (pc' := 43) (ls' := [some (.ref 24), some (.int x1), some (.int (zi 0))]) (st' := []) (h' := mk (setI (setI s 24 27 y1) 24 28 ((y1 - x1) + (zi 1)))) 2 rfl ?_
  exact k163_43 zF x1 (zi 0) (setI (setI s 24 27 y1) 24 28 ((y1 - x1) + (zi 1))) _ h
def f163  (x1 : Int32) (s : zS) : Option (zS) := zb1 (f236 32 s) (fun v2 s1 => if v2 = zi 0 then zb1 (f237 32 s1) (fun v4 s3 => f163_26 x1 (r264 v4 x1 s3) s3) else f163_26 x1 x1 s1)
set_option maxRecDepth 100000 in
theorem k163 {X : mX} {D : Nat} {x1 : Int32} {s : zS} {r : zS}  (h : f163 x1 s = some r) : Ev X (D + 2) mm163 0 [some (.ref 24), some (.int x1), none] [] (mk s) (encV r) := by
  unfold f163 at h
  refine Ev.run (pc' := 5) (ls' := [some (.ref 24), some (.int x1), none]) (st' := [.ref 32, .ref 24]) (h' := mk s) 3 rfl ?_
  obtain ⟨v2, s1, hq, h⟩ := zb1_some h
  refine Ev.call (M' := mm236) (v := some (.int v2)) (h' := mk s1) rfl rfl rfl (Nat.le_of_ble_eq_true rfl) (k236 (by decide) hq) ?_
  refine Ev.if_eq (t := 15) rfl rfl (fun hb => ?_) (fun hb => ?_)
  · have h := (if_pos hb).symm.trans h
    refine Ev.run (pc' := 19) (ls' := [some (.ref 24), some (.int x1), none]) (st' := [.ref 32, .ref 24]) (h' := mk s1) 2 rfl ?_
    obtain ⟨v4, s3, hq, h⟩ := zb1_some h
    refine Ev.call (M' := mm237) (v := some (.int v4)) (h' := mk s3) rfl rfl rfl (Nat.le_of_ble_eq_true rfl) (k237 (by decide) hq) ?_
    refine Ev.run (pc' := 23) (ls' := [some (.ref 24), some (.int x1), none]) (st' := [.int x1, .int v4, .ref 24]) (h' := mk s3) 1 rfl ?_
    refine Ev.call (M' := mm264) (v := some (.int (r264 v4 x1 s3))) (h' := mk s3) rfl rfl rfl (Nat.le_of_ble_eq_true rfl) (k264 (x0 := v4) (x1 := x1) (s := s3) (v := r264 v4 x1 s3)  rfl) ?_
    exact k163_26 x1 (r264 v4 x1 s3) s3 _ _ h
  · have h := (if_neg hb).symm.trans h
    refine Ev.run (pc' := 26) (ls' := [some (.ref 24), some (.int x1), none]) (st' := [.int x1, .ref 24]) (h' := mk s1) 2 rfl ?_
    exact k163_26 x1 x1 s1 _ _ h
/-! 165 FModel.digitOf(I)I -/
def f165  (x1 : Int32) (s : zS) : Option (Int32 × zS) := if ((s.1 24 27) - x1) < zi 0 then some (zi 0, s) else if ((s.1 24 27) - x1) < (s.1 24 28) then if mIx ((s.1 24 27) - x1) 2400 then some (s.1 38 (((s.1 24 27) - x1).toNatClampNeg), s) else none else some (zi 0, s)
set_option maxRecDepth 100000 in
theorem k165 {X : mX} {D : Nat} {x1 : Int32} {s : zS} {r : Int32 × zS}  (h : f165 x1 s = some r) : Ev X D mm165 0 [some (.ref 24), some (.int x1), none] [] (mk s) (encI r) := by
  unfold f165 at h
  refine Ev.run (pc' := 8) (ls' := [some (.ref 24), some (.int x1), some (.int ((s.1 24 27) - x1))]) (st' := [.int ((s.1 24 27) - x1)]) (h' := mk s) 6 rfl ?_
  refine Ev.if_lt (t := 19) rfl rfl (fun hb => ?_) (fun hb => ?_)
  · have h := (if_pos hb).symm.trans h
    refine Ev.run (pc' := 29) (ls' := [some (.ref 24), some (.int x1), some (.int ((s.1 24 27) - x1))]) (st' := [.int (zi 0)]) (h' := mk s) 2 rfl ?_
    first | (obtain rfl := Option.some.inj h) | (cases h)
    exact Ev.fin rfl rfl
  · have h := (if_neg hb).symm.trans h
    refine Ev.run (pc' := 16) (ls' := [some (.ref 24), some (.int x1), some (.int ((s.1 24 27) - x1))]) (st' := [.int (s.1 24 28), .int ((s.1 24 27) - x1)]) (h' := mk s) 3 rfl ?_
    refine Ev.icmp_lt (t := 23) rfl rfl (fun hb => ?_) (fun hb => ?_)
    · have h := (if_pos hb).symm.trans h
      refine Ev.run (pc' := 28) (ls' := [some (.ref 24), some (.int x1), some (.int ((s.1 24 27) - x1))]) (st' := [.int ((s.1 24 27) - x1), .ref 38]) (h' := mk s) 3 rfl ?_
      obtain ⟨hx, h⟩ := zif h
      refine Ev.step (pc' := 29) rfl (ald_b rfl hx) ?_
      first | (obtain rfl := Option.some.inj h) | (cases h)
      exact Ev.fin rfl rfl
    · have h := (if_neg hb).symm.trans h
      refine Ev.run (pc' := 29) (ls' := [some (.ref 24), some (.int x1), some (.int ((s.1 24 27) - x1))]) (st' := [.int (zi 0)]) (h' := mk s) 2 rfl ?_
      first | (obtain rfl := Option.some.inj h) | (cases h)
      exact Ev.fin rfl rfl
/-! 166 FModel.mantissa(J)J -/
def r166 (x0 : Int64) (s : zS) : Int64 := if ¬ ((zshrL x0 (zi 52)) &&& (zl 2047)) = (zl 0) then (x0 &&& (zl 4503599627370495)) ||| (zl 4503599627370496) else x0 &&& (zl 4503599627370495)
set_option maxRecDepth 100000 in
theorem k166 {X : mX} {D : Nat} {x0 : Int64} {s : zS} {v : Int64} (h : r166 x0 s = v) : Ev X D mm166 0 [some (.long x0), none, none, none] [] (mk s) (encL (v, s)) := by
  unfold r166 at h
  refine Ev.run (pc' := 16) (ls' := [some (.long x0), none, some (.long (x0 &&& (zl 4503599627370495))), none]) (st' := [.int (lg_cmp ((zshrL x0 (zi 52)) &&& (zl 2047)) (zl 0))]) (h' := mk s) 11 rfl ?_
  refine Ev.ifl_ne (t := 23) rfl rfl (fun hb => ?_) (fun hb => ?_)
  · have h := (if_pos hb).symm.trans h
    refine Ev.run (pc' := 28) (ls' := [some (.long x0), none, some (.long (x0 &&& (zl 4503599627370495))), none]) (st' := [.long ((x0 &&& (zl 4503599627370495)) ||| (zl 4503599627370496))]) (h' := mk s) 3 rfl ?_
    subst h
    exact Ev.fin rfl rfl
  · have h := (if_neg hb).symm.trans h
    refine Ev.run (pc' := 28) (ls' := [some (.long x0), none, some (.long (x0 &&& (zl 4503599627370495))), none]) (st' := [.long (x0 &&& (zl 4503599627370495))]) (h' := mk s) 2 rfl ?_
    subst h
    exact Ev.fin rfl rfl
/-! 167 FModel.exponent(J)I -/
def r167 (x0 : Int64) (s : zS) : Int32 := (r264 (zL2I ((zshrL x0 (zi 52)) &&& (zl 2047))) (zi 1) s) - (zi 1075)
set_option maxRecDepth 100000 in
theorem k167 {X : mX} {D : Nat} {x0 : Int64} {s : zS} {v : Int32} (h : r167 x0 s = v) : Ev X (D + 1) mm167 0 [some (.long x0), none] [] (mk s) (encI (v, s)) := by
  unfold r167 at h
  refine Ev.run (pc' := 10) (ls' := [some (.long x0), none]) (st' := [.int (zi 1), .int (zL2I ((zshrL x0 (zi 52)) &&& (zl 2047)))]) (h' := mk s) 7 rfl ?_
  refine Ev.call (M' := mm264) (v := some (.int (r264 (zL2I ((zshrL x0 (zi 52)) &&& (zl 2047))) (zi 1) s))) (h' := mk s) rfl rfl rfl (Nat.le_of_ble_eq_true rfl) (k264 (x0 := (zL2I ((zshrL x0 (zi 52)) &&& (zl 2047)))) (x1 := (zi 1)) (s := s) (v := r264 (zL2I ((zshrL x0 (zi 52)) &&& (zl 2047))) (zi 1) s)  rfl) ?_
  refine Ev.run (pc' := 17) (ls' := [some (.long x0), none]) (st' := [.int ((r264 (zL2I ((zshrL x0 (zi 52)) &&& (zl 2047))) (zi 1) s) - (zi 1075))]) (h' := mk s) 2 rfl ?_
  subst h
  exact Ev.fin rfl rfl
/-! 168 FModel.isNaN(J)Z -/
def r168 (x0 : Int64) (s : zS) : Int32 := if (x0 &&& (zl 9223372036854775807)) ≤ (zl 9218868437227405312) then zi 0 else zi 1
set_option maxRecDepth 100000 in
theorem k168 {X : mX} {D : Nat} {x0 : Int64} {s : zS} {v : Int32} (h : r168 x0 s = v) : Ev X D mm168 0 [some (.long x0), none] [] (mk s) (encI (v, s)) := by
  unfold r168 at h
  refine Ev.run (pc' := 9) (ls' := [some (.long x0), none]) (st' := [.int (lg_cmp (x0 &&& (zl 9223372036854775807)) (zl 9218868437227405312))]) (h' := mk s) 5 rfl ?_
  refine Ev.ifl_le (t := 16) rfl rfl (fun hb => ?_) (fun hb => ?_)
  · have h := (if_pos hb).symm.trans h
    refine Ev.run (pc' := 17) (ls' := [some (.long x0), none]) (st' := [.int (zi 0)]) (h' := mk s) 1 rfl ?_
    subst h
    exact Ev.fin rfl rfl
  · have h := (if_neg hb).symm.trans h
    refine Ev.run (pc' := 17) (ls' := [some (.long x0), none]) (st' := [.int (zi 1)]) (h' := mk s) 2 rfl ?_
    subst h
    exact Ev.fin rfl rfl
/-! 169 FModel.isFar(J)Z -/
def r169 (x0 : Int64) (s : zS) : Int32 := if ¬ (x0 &&& (zl 9223372036854775807)) = (zl 9218868437227405312) then zi 0 else zi 1
set_option maxRecDepth 100000 in
theorem k169 {X : mX} {D : Nat} {x0 : Int64} {s : zS} {v : Int32} (h : r169 x0 s = v) : Ev X D mm169 0 [some (.long x0), none] [] (mk s) (encI (v, s)) := by
  unfold r169 at h
  refine Ev.run (pc' := 9) (ls' := [some (.long x0), none]) (st' := [.int (lg_cmp (x0 &&& (zl 9223372036854775807)) (zl 9218868437227405312))]) (h' := mk s) 5 rfl ?_
  refine Ev.ifl_ne (t := 16) rfl rfl (fun hb => ?_) (fun hb => ?_)
  · have h := (if_pos hb).symm.trans h
    refine Ev.run (pc' := 17) (ls' := [some (.long x0), none]) (st' := [.int (zi 0)]) (h' := mk s) 1 rfl ?_
    subst h
    exact Ev.fin rfl rfl
  · have h := (if_neg hb).symm.trans h
    refine Ev.run (pc' := 17) (ls' := [some (.long x0), none]) (st' := [.int (zi 1)]) (h' := mk s) 2 rfl ?_
    subst h
    exact Ev.fin rfl rfl
/-! 170 FModel.wide(I)J -/
def b170_96 (rec96 : Int64 → Int64 → Int32 → Int32 → zS → Option (Int64 × zS)) (x1 : Int64) (x3 : Int64) (x5 : Int32) (x6 : Int32) (s : zS) : Option (Int64 × zS) := if ¬ (zshrL x3 (zi 52)) = (zl 0) then some ((x1 ||| (zshlL (zI2L x6) (zi 52))) ||| (x3 &&& (zl 4503599627370495)), s) else rec96 x1 (zshlL x3 (zi 1)) x5 (x6 + zi (-1)) s
set_option maxRecDepth 100000 in
theorem kb170_96 {X : mX} {D : Nat} {rec96 : Int64 → Int64 → Int32 → Int32 → zS → Option (Int64 × zS)} (hrec96 : ∀ (x1 : Int64) (x3 : Int64) (x5 : Int32) (x6 : Int32) (s : zS) (r : Int64 × zS) (o0 : Option Value), rec96 x1 x3 x5 x6 s = some r → Ev X (D + 1) mm170 96 [o0, some (.long x1), none, some (.long x3), none, some (.int x5), some (.int x6)] [] (mk s) (encL r)) (x1 : Int64) (x3 : Int64) (x5 : Int32) (x6 : Int32) (s : zS) (r : Int64 × zS) (o0 : Option Value)  (h : b170_96 rec96 x1 x3 x5 x6 s = some r) : Ev X (D + 1) mm170 96 [o0, some (.long x1), none, some (.long x3), none, some (.int x5), some (.int x6)] [] (mk s) (encL r) := by
  unfold b170_96 at h
  refine Ev.run (pc' := 102) (ls' := [o0, some (.long x1), none, some (.long x3), none, some (.int x5), some (.int x6)]) (st' := [.int (lg_cmp (zshrL x3 (zi 52)) (zl 0))]) (h' := mk s) 5 rfl ?_
  refine Ev.ifl_ne (t := 115) rfl rfl (fun hb => ?_) (fun hb => ?_)
  · have h := (if_pos hb).symm.trans h
    refine Ev.run (pc' := 129) (ls' := [o0, some (.long x1), none, some (.long x3), none, some (.int x5), some (.int x6)]) (st' := [.long ((x1 ||| (zshlL (zI2L x6) (zi 52))) ||| (x3 &&& (zl 4503599627370495)))]) (h' := mk s) 10 rfl ?_
    first | (obtain rfl := Option.some.inj h) | (cases h)
    exact Ev.fin rfl rfl
  · have h := (if_neg hb).symm.trans h
    refine Ev.run (pc' := 96) (ls' := [o0, some (.long x1), none, some (.long (zshlL x3 (zi 1))), none, some (.int x5), some (.int (x6 + zi (-1)))]) (st' := []) (h' := mk s) 6 rfl ?_
    exact hrec96 x1 (zshlL x3 (zi 1)) x5 (x6 + zi (-1)) s _ _ h
def f170_96  : Nat → Int64 → Int64 → Int32 → Int32 → zS → Option (Int64 × zS)
  | 0, _, _, _, _, _ => none
  | n + 1, x1, x3, x5, x6, s => b170_96 (f170_96 n) x1 x3 x5 x6 s
set_option maxRecDepth 100000 in
theorem k170_96 {X : mX} {D : Nat}   (n : Nat) : ∀ (x1 : Int64) (x3 : Int64) (x5 : Int32) (x6 : Int32) (s : zS) (r : Int64 × zS) (o0 : Option Value), f170_96  n x1 x3 x5 x6 s = some r → Ev X (D + 1) mm170 96 [o0, some (.long x1), none, some (.long x3), none, some (.int x5), some (.int x6)] [] (mk s) (encL r) := by
  induction n with
  | zero => intro x1 x3 x5 x6 s r o0  h; cases h
  | succ n ih => intro x1 x3 x5 x6 s r o0  h; exact kb170_96  ih x1 x3 x5 x6 s r o0  h
def f170_57  (x1 : Int64) (x3 : Int64) (x5 : Int32) (s : zS) : Option (Int64 × zS) := if x5 ≤ zi 0 then f170_96 zF x1 (zshlL x3 (zi 29)) x5 (((r264 x5 (zi 1) s) + (zi 1023)) - (zi 127)) s else some ((x1 ||| (zshlL (zI2L (((r264 x5 (zi 1) s) + (zi 1023)) - (zi 127))) (zi 52))) ||| (zshlL x3 (zi 29)), s)
set_option maxRecDepth 100000 in
theorem k170_57 {X : mX} {D : Nat}   (x1 : Int64) (x3 : Int64) (x5 : Int32) (s : zS) (r : Int64 × zS) (o0 : Option Value) (o6 : Option Value)  (h : f170_57  x1 x3 x5 s = some r) : Ev X (D + 1) mm170 57 [o0, some (.long x1), none, some (.long x3), none, some (.int x5), o6] [] (mk s) (encL r) := by
  unfold f170_57 at h
  refine Ev.run (pc' := 60) (ls' := [o0, some (.long x1), none, some (.long x3), none, some (.int x5), o6]) (st' := [.int (zi 1), .int x5]) (h' := mk s) 2 rfl ?_
  refine Ev.call (M' := mm264) (v := some (.int (r264 x5 (zi 1) s))) (h' := mk s) rfl rfl rfl (Nat.le_of_ble_eq_true rfl) (k264 (x0 := x5) (x1 := (zi 1)) (s := s) (v := r264 x5 (zi 1) s)  rfl) ?_
  refine Ev.run (pc' := 74) (ls' := [o0, some (.long x1), none, some (.long x3), none, some (.int x5), some (.int (((r264 x5 (zi 1) s) + (zi 1023)) - (zi 127)))]) (st' := [.int x5]) (h' := mk s) 6 rfl ?_
  refine Ev.if_le (t := 91) rfl rfl (fun hb => ?_) (fun hb => ?_)
  · have h := (if_pos hb).symm.trans h
    refine Ev.run (pc' := 96) (ls' := [o0, some (.long x1), none, some (.long (zshlL x3 (zi 29))), none, some (.int x5), some (.int (((r264 x5 (zi 1) s) + (zi 1023)) - (zi 127)))]) (st' := []) (h' := mk s) 4 rfl ?_
    exact k170_96 zF x1 (zshlL x3 (zi 29)) x5 (((r264 x5 (zi 1) s) + (zi 1023)) - (zi 127)) s _ _ h
  · have h := (if_neg hb).symm.trans h
    refine Ev.run (pc' := 90) (ls' := [o0, some (.long x1), none, some (.long x3), none, some (.int x5), some (.int (((r264 x5 (zi 1) s) + (zi 1023)) - (zi 127)))]) (st' := [.long ((x1 ||| (zshlL (zI2L (((r264 x5 (zi 1) s) + (zi 1023)) - (zi 127))) (zi 52))) ||| (zshlL x3 (zi 29)))]) (h' := mk s) 10 rfl ?_
    first | (obtain rfl := Option.some.inj h) | (cases h)
    exact Ev.fin rfl rfl
def f170  (x0 : Int32) (s : zS) : Option (Int64 × zS) := if ¬ ((zshr x0 (zi 23)) &&& (zi 255)) = (zi 255) then if ¬ ((zshr x0 (zi 23)) &&& (zi 255)) = zi 0 then f170_57 (zshlL (zI2L (zushr x0 (zi 31))) (zi 63)) (zI2L (x0 &&& (zi 8388607))) ((zshr x0 (zi 23)) &&& (zi 255)) s else if ¬ (zI2L (x0 &&& (zi 8388607))) = (zl 0) then f170_57 (zshlL (zI2L (zushr x0 (zi 31))) (zi 63)) (zI2L (x0 &&& (zi 8388607))) ((zshr x0 (zi 23)) &&& (zi 255)) s else some (zshlL (zI2L (zushr x0 (zi 31))) (zi 63), s) else some (((zshlL (zI2L (zushr x0 (zi 31))) (zi 63)) ||| (zl 9218868437227405312)) ||| (zshlL (zI2L (x0 &&& (zi 8388607))) (zi 29)), s)
set_option maxRecDepth 100000 in
theorem k170 {X : mX} {D : Nat} {x0 : Int32} {s : zS} {r : Int64 × zS}  (h : f170 x0 s = some r) : Ev X (D + 1) mm170 0 [some (.int x0), none, none, none, none, none, none] [] (mk s) (encL r) := by
  unfold f170 at h
  refine Ev.run (pc' := 30) (ls' := [some (.int x0), some (.long (zshlL (zI2L (zushr x0 (zi 31))) (zi 63))), none, some (.long (zI2L (x0 &&& (zi 8388607)))), none, some (.int ((zshr x0 (zi 23)) &&& (zi 255))), none]) (st' := [.int (zi 255), .int ((zshr x0 (zi 23)) &&& (zi 255))]) (h' := mk s) 20 rfl ?_
  refine Ev.icmp_ne (t := 44) rfl rfl (fun hb => ?_) (fun hb => ?_)
  · have h := (if_pos hb).symm.trans h
    refine Ev.run (pc' := 46) (ls' := [some (.int x0), some (.long (zshlL (zI2L (zushr x0 (zi 31))) (zi 63))), none, some (.long (zI2L (x0 &&& (zi 8388607)))), none, some (.int ((zshr x0 (zi 23)) &&& (zi 255))), none]) (st' := [.int ((zshr x0 (zi 23)) &&& (zi 255))]) (h' := mk s) 1 rfl ?_
    refine Ev.if_ne (t := 57) rfl rfl (fun hb => ?_) (fun hb => ?_)
    · have h := (if_pos hb).symm.trans h
      exact k170_57 (zshlL (zI2L (zushr x0 (zi 31))) (zi 63)) (zI2L (x0 &&& (zi 8388607))) ((zshr x0 (zi 23)) &&& (zi 255)) s _ _ _ h
    · have h := (if_neg hb).symm.trans h
      refine Ev.run (pc' := 52) (ls' := [some (.int x0), some (.long (zshlL (zI2L (zushr x0 (zi 31))) (zi 63))), none, some (.long (zI2L (x0 &&& (zi 8388607)))), none, some (.int ((zshr x0 (zi 23)) &&& (zi 255))), none]) (st' := [.int (lg_cmp (zI2L (x0 &&& (zi 8388607))) (zl 0))]) (h' := mk s) 3 rfl ?_
      refine Ev.ifl_ne (t := 57) rfl rfl (fun hb => ?_) (fun hb => ?_)
      · have h := (if_pos hb).symm.trans h
        exact k170_57 (zshlL (zI2L (zushr x0 (zi 31))) (zi 63)) (zI2L (x0 &&& (zi 8388607))) ((zshr x0 (zi 23)) &&& (zi 255)) s _ _ _ h
      · have h := (if_neg hb).symm.trans h
        refine Ev.run (pc' := 56) (ls' := [some (.int x0), some (.long (zshlL (zI2L (zushr x0 (zi 31))) (zi 63))), none, some (.long (zI2L (x0 &&& (zi 8388607)))), none, some (.int ((zshr x0 (zi 23)) &&& (zi 255))), none]) (st' := [.long (zshlL (zI2L (zushr x0 (zi 31))) (zi 63))]) (h' := mk s) 1 rfl ?_
        first | (obtain rfl := Option.some.inj h) | (cases h)
        exact Ev.fin rfl rfl
  · have h := (if_neg hb).symm.trans h
    refine Ev.run (pc' := 43) (ls' := [some (.int x0), some (.long (zshlL (zI2L (zushr x0 (zi 31))) (zi 63))), none, some (.long (zI2L (x0 &&& (zi 8388607)))), none, some (.int ((zshr x0 (zi 23)) &&& (zi 255))), none]) (st' := [.long (((zshlL (zI2L (zushr x0 (zi 31))) (zi 63)) ||| (zl 9218868437227405312)) ||| (zshlL (zI2L (x0 &&& (zi 8388607))) (zi 29)))]) (h' := mk s) 7 rfl ?_
    first | (obtain rfl := Option.some.inj h) | (cases h)
    exact Ev.fin rfl rfl
/-! 230 FModel$Decimal.clear()V -/
def b230_5 (aa : Nat) (rec5 : Int32 → zS → Option (zS)) (x1 : Int32) (s : zS) : Option (zS) := if x1 ≥ (s.1 aa 2) then some (setI (setI s aa 1 (zi 45)) aa 2 (zi 45)) else if mIx x1 465 then rec5 (x1 + zi 1) (setB s (aa + 1) x1.toNatClampNeg (zi 0)) else none
set_option maxRecDepth 100000 in
theorem kb230_5 {X : mX} {D : Nat} {aa : Nat} {rec5 : Int32 → zS → Option (zS)} (haa : zMdec aa) (hrec5 : ∀ (x1 : Int32) (s : zS) (r : zS) , rec5 x1 s = some r → Ev X D mm230 5 [some (.ref aa), some (.int x1)] [] (mk s) (encV r)) (x1 : Int32) (s : zS) (r : zS)   (h : b230_5 aa rec5 x1 s = some r) : Ev X D mm230 5 [some (.ref aa), some (.int x1)] [] (mk s) (encV r) := by
  rcases haa with rfl | rfl | rfl
  · unfold b230_5 at h
    refine Ev.run (pc' := 10) (ls' := [some (.ref 32), some (.int x1)]) (st' := [.int (s.1 32 2), .int x1]) (h' := mk s) 3 rfl ?_
    refine Ev.icmp_ge (t := 26) rfl rfl (fun hb => ?_) (fun hb => ?_)
    · have h := (if_pos hb).symm.trans h
      refine Ev.run (pc' := 29) (ls' := [some (.ref 32), some (.int x1)]) (st' := [.int (zi 45), .ref 32]) (h' := mk s) 2 rfl ?_
      refine Ev.step (pc' := 32) rfl (put_13_1 (by decide) rfl) ?_
      refine Ev.run (pc' := 35) (ls' := [some (.ref 32), some (.int x1)]) (st' := [.int (zi 45), .ref 32]) (h' := mk (setI s 32 1 (zi 45))) 2 rfl ?_
      refine Ev.step (pc' := 38) rfl (put_13_2 (by decide) rfl) ?_
      first | (obtain rfl := Option.some.inj h) | (cases h)
      exact Ev.fin rfl rfl
    · have h := (if_neg hb).symm.trans h
      refine Ev.run (pc' := 19) (ls' := [some (.ref 32), some (.int x1)]) (st' := [.int (zi 0), .int x1, .ref (32 + 1)]) (h' := mk s) 4 rfl ?_
      obtain ⟨hx, h⟩ := zif h
      refine Ev.step (pc' := 20) rfl (astM (by decide) hx) ?_
      refine Ev.run (pc' := 5) (ls' := [some (.ref 32), some (.int (x1 + zi 1))]) (st' := []) (h' := mk (setB s (32 + 1) x1.toNatClampNeg (zi 0))) 2 rfl ?_
      exact hrec5 (x1 + zi 1) (setB s (32 + 1) x1.toNatClampNeg (zi 0)) _ h
  · unfold b230_5 at h
    refine Ev.run (pc' := 10) (ls' := [some (.ref 34), some (.int x1)]) (st' := [.int (s.1 34 2), .int x1]) (h' := mk s) 3 rfl ?_
    refine Ev.icmp_ge (t := 26) rfl rfl (fun hb => ?_) (fun hb => ?_)
    · have h := (if_pos hb).symm.trans h
      refine Ev.run (pc' := 29) (ls' := [some (.ref 34), some (.int x1)]) (st' := [.int (zi 45), .ref 34]) (h' := mk s) 2 rfl ?_
      refine Ev.step (pc' := 32) rfl (put_13_1 (by decide) rfl) ?_
      refine Ev.run (pc' := 35) (ls' := [some (.ref 34), some (.int x1)]) (st' := [.int (zi 45), .ref 34]) (h' := mk (setI s 34 1 (zi 45))) 2 rfl ?_
      refine Ev.step (pc' := 38) rfl (put_13_2 (by decide) rfl) ?_
      first | (obtain rfl := Option.some.inj h) | (cases h)
      exact Ev.fin rfl rfl
    · have h := (if_neg hb).symm.trans h
      refine Ev.run (pc' := 19) (ls' := [some (.ref 34), some (.int x1)]) (st' := [.int (zi 0), .int x1, .ref (34 + 1)]) (h' := mk s) 4 rfl ?_
      obtain ⟨hx, h⟩ := zif h
      refine Ev.step (pc' := 20) rfl (astM (by decide) hx) ?_
      refine Ev.run (pc' := 5) (ls' := [some (.ref 34), some (.int (x1 + zi 1))]) (st' := []) (h' := mk (setB s (34 + 1) x1.toNatClampNeg (zi 0))) 2 rfl ?_
      exact hrec5 (x1 + zi 1) (setB s (34 + 1) x1.toNatClampNeg (zi 0)) _ h
  · unfold b230_5 at h
    refine Ev.run (pc' := 10) (ls' := [some (.ref 36), some (.int x1)]) (st' := [.int (s.1 36 2), .int x1]) (h' := mk s) 3 rfl ?_
    refine Ev.icmp_ge (t := 26) rfl rfl (fun hb => ?_) (fun hb => ?_)
    · have h := (if_pos hb).symm.trans h
      refine Ev.run (pc' := 29) (ls' := [some (.ref 36), some (.int x1)]) (st' := [.int (zi 45), .ref 36]) (h' := mk s) 2 rfl ?_
      refine Ev.step (pc' := 32) rfl (put_13_1 (by decide) rfl) ?_
      refine Ev.run (pc' := 35) (ls' := [some (.ref 36), some (.int x1)]) (st' := [.int (zi 45), .ref 36]) (h' := mk (setI s 36 1 (zi 45))) 2 rfl ?_
      refine Ev.step (pc' := 38) rfl (put_13_2 (by decide) rfl) ?_
      first | (obtain rfl := Option.some.inj h) | (cases h)
      exact Ev.fin rfl rfl
    · have h := (if_neg hb).symm.trans h
      refine Ev.run (pc' := 19) (ls' := [some (.ref 36), some (.int x1)]) (st' := [.int (zi 0), .int x1, .ref (36 + 1)]) (h' := mk s) 4 rfl ?_
      obtain ⟨hx, h⟩ := zif h
      refine Ev.step (pc' := 20) rfl (astM (by decide) hx) ?_
      refine Ev.run (pc' := 5) (ls' := [some (.ref 36), some (.int (x1 + zi 1))]) (st' := []) (h' := mk (setB s (36 + 1) x1.toNatClampNeg (zi 0))) 2 rfl ?_
      exact hrec5 (x1 + zi 1) (setB s (36 + 1) x1.toNatClampNeg (zi 0)) _ h
def f230_5 (aa : Nat)  : Nat → Int32 → zS → Option (zS)
  | 0, _, _ => none
  | n + 1, x1, s => b230_5 aa (f230_5 aa n) x1 s
set_option maxRecDepth 100000 in
theorem k230_5 {X : mX} {D : Nat} {aa : Nat}  (haa : zMdec aa)  (n : Nat) : ∀ (x1 : Int32) (s : zS) (r : zS) , f230_5 aa  n x1 s = some r → Ev X D mm230 5 [some (.ref aa), some (.int x1)] [] (mk s) (encV r) := by
  induction n with
  | zero => intro x1 s r   h; cases h
  | succ n ih => intro x1 s r   h; exact kb230_5 haa ih x1 s r   h
def f230 (aa : Nat)   (s : zS) : Option (zS) := f230_5 aa zF (s.1 aa 1) s
set_option maxRecDepth 100000 in
theorem k230 {X : mX} {D : Nat} {aa : Nat}  {s : zS} {r : zS} (haa : zMdec aa)  (h : f230 aa  s = some r) : Ev X D mm230 0 [some (.ref aa), none] [] (mk s) (encV r) := by
  rcases haa with rfl | rfl | rfl
  · unfold f230 at h
    refine Ev.run (pc' := 5) (ls' := [some (.ref 32), some (.int (s.1 32 1))]) (st' := []) (h' := mk s) 3 rfl ?_
    exact k230_5 (by decide) zF (s.1 32 1) s _ h
  · unfold f230 at h
    refine Ev.run (pc' := 5) (ls' := [some (.ref 34), some (.int (s.1 34 1))]) (st' := []) (h' := mk s) 3 rfl ?_
    exact k230_5 (by decide) zF (s.1 34 1) s _ h
  · unfold f230 at h
    refine Ev.run (pc' := 5) (ls' := [some (.ref 36), some (.int (s.1 36 1))]) (st' := []) (h' := mk s) 3 rfl ?_
    exact k230_5 (by decide) zF (s.1 36 1) s _ h
/-! 231 FModel$Decimal.set(J)V -/
def b231_10 (aa : Nat) (rec10 : Int64 → Int32 → zS → Option (zS)) (x3 : Int64) (x5 : Int32) (s : zS) : Option (zS) := if x3 ≤ (zl 0) then some (setI s aa 1 x5) else if mIx (x5 + zi (-1)) 465 then rec10 (x3 / (zl 1000000000)) (x5 + zi (-1)) (setB s (aa + 1) ((x5 + zi (-1)).toNatClampNeg) (zL2I (zremL x3 (zl 1000000000)))) else none
set_option maxRecDepth 100000 in
theorem kb231_10 {X : mX} {D : Nat} {aa : Nat} {rec10 : Int64 → Int32 → zS → Option (zS)} (haa : zMdec aa) (hrec10 : ∀ (x3 : Int64) (x5 : Int32) (s : zS) (r : zS) (o1 : Option Value), rec10 x3 x5 s = some r → Ev X (D + 1) mm231 10 [some (.ref aa), o1, none, some (.long x3), none, some (.int x5)] [] (mk s) (encV r)) (x3 : Int64) (x5 : Int32) (s : zS) (r : zS) (o1 : Option Value)  (h : b231_10 aa rec10 x3 x5 s = some r) : Ev X (D + 1) mm231 10 [some (.ref aa), o1, none, some (.long x3), none, some (.int x5)] [] (mk s) (encV r) := by
  rcases haa with rfl | rfl | rfl
  · unfold b231_10 at h
    refine Ev.run (pc' := 13) (ls' := [some (.ref 32), o1, none, some (.long x3), none, some (.int x5)]) (st' := [.int (lg_cmp x3 (zl 0))]) (h' := mk s) 3 rfl ?_
    refine Ev.ifl_le (t := 41) rfl rfl (fun hb => ?_) (fun hb => ?_)
    · have h := (if_pos hb).symm.trans h
      refine Ev.run (pc' := 44) (ls' := [some (.ref 32), o1, none, some (.long x3), none, some (.int x5)]) (st' := [.int x5, .ref 32]) (h' := mk s) 2 rfl ?_
      refine Ev.step (pc' := 47) rfl (put_13_1 (by decide) rfl) ?_
      first | (obtain rfl := Option.some.inj h) | (cases h)
      exact Ev.fin rfl rfl
    · have h := (if_neg hb).symm.trans h
      refine Ev.run (pc' := 31) (ls' := [some (.ref 32), o1, none, some (.long x3), none, some (.int (x5 + zi (-1)))]) (st' := [.int (zL2I (zremL x3 (zl 1000000000))), .int (x5 + zi (-1)), .ref (32 + 1)]) (h' := mk s) 8 rfl ?_
      obtain ⟨hx, h⟩ := zif h
      refine Ev.step (pc' := 32) rfl (astM (by decide) hx) ?_
      refine Ev.run (pc' := 10) (ls' := [some (.ref 32), o1, none, some (.long (x3 / (zl 1000000000))), none, some (.int (x5 + zi (-1)))]) (st' := []) (h' := mk (setB s (32 + 1) ((x5 + zi (-1)).toNatClampNeg) (zL2I (zremL x3 (zl 1000000000))))) 5 rfl ?_
      exact hrec10 (x3 / (zl 1000000000)) (x5 + zi (-1)) (setB s (32 + 1) ((x5 + zi (-1)).toNatClampNeg) (zL2I (zremL x3 (zl 1000000000)))) _ _ h
  · unfold b231_10 at h
    refine Ev.run (pc' := 13) (ls' := [some (.ref 34), o1, none, some (.long x3), none, some (.int x5)]) (st' := [.int (lg_cmp x3 (zl 0))]) (h' := mk s) 3 rfl ?_
    refine Ev.ifl_le (t := 41) rfl rfl (fun hb => ?_) (fun hb => ?_)
    · have h := (if_pos hb).symm.trans h
      refine Ev.run (pc' := 44) (ls' := [some (.ref 34), o1, none, some (.long x3), none, some (.int x5)]) (st' := [.int x5, .ref 34]) (h' := mk s) 2 rfl ?_
      refine Ev.step (pc' := 47) rfl (put_13_1 (by decide) rfl) ?_
      first | (obtain rfl := Option.some.inj h) | (cases h)
      exact Ev.fin rfl rfl
    · have h := (if_neg hb).symm.trans h
      refine Ev.run (pc' := 31) (ls' := [some (.ref 34), o1, none, some (.long x3), none, some (.int (x5 + zi (-1)))]) (st' := [.int (zL2I (zremL x3 (zl 1000000000))), .int (x5 + zi (-1)), .ref (34 + 1)]) (h' := mk s) 8 rfl ?_
      obtain ⟨hx, h⟩ := zif h
      refine Ev.step (pc' := 32) rfl (astM (by decide) hx) ?_
      refine Ev.run (pc' := 10) (ls' := [some (.ref 34), o1, none, some (.long (x3 / (zl 1000000000))), none, some (.int (x5 + zi (-1)))]) (st' := []) (h' := mk (setB s (34 + 1) ((x5 + zi (-1)).toNatClampNeg) (zL2I (zremL x3 (zl 1000000000))))) 5 rfl ?_
      exact hrec10 (x3 / (zl 1000000000)) (x5 + zi (-1)) (setB s (34 + 1) ((x5 + zi (-1)).toNatClampNeg) (zL2I (zremL x3 (zl 1000000000)))) _ _ h
  · unfold b231_10 at h
    refine Ev.run (pc' := 13) (ls' := [some (.ref 36), o1, none, some (.long x3), none, some (.int x5)]) (st' := [.int (lg_cmp x3 (zl 0))]) (h' := mk s) 3 rfl ?_
    refine Ev.ifl_le (t := 41) rfl rfl (fun hb => ?_) (fun hb => ?_)
    · have h := (if_pos hb).symm.trans h
      refine Ev.run (pc' := 44) (ls' := [some (.ref 36), o1, none, some (.long x3), none, some (.int x5)]) (st' := [.int x5, .ref 36]) (h' := mk s) 2 rfl ?_
      refine Ev.step (pc' := 47) rfl (put_13_1 (by decide) rfl) ?_
      first | (obtain rfl := Option.some.inj h) | (cases h)
      exact Ev.fin rfl rfl
    · have h := (if_neg hb).symm.trans h
      refine Ev.run (pc' := 31) (ls' := [some (.ref 36), o1, none, some (.long x3), none, some (.int (x5 + zi (-1)))]) (st' := [.int (zL2I (zremL x3 (zl 1000000000))), .int (x5 + zi (-1)), .ref (36 + 1)]) (h' := mk s) 8 rfl ?_
      obtain ⟨hx, h⟩ := zif h
      refine Ev.step (pc' := 32) rfl (astM (by decide) hx) ?_
      refine Ev.run (pc' := 10) (ls' := [some (.ref 36), o1, none, some (.long (x3 / (zl 1000000000))), none, some (.int (x5 + zi (-1)))]) (st' := []) (h' := mk (setB s (36 + 1) ((x5 + zi (-1)).toNatClampNeg) (zL2I (zremL x3 (zl 1000000000))))) 5 rfl ?_
      exact hrec10 (x3 / (zl 1000000000)) (x5 + zi (-1)) (setB s (36 + 1) ((x5 + zi (-1)).toNatClampNeg) (zL2I (zremL x3 (zl 1000000000)))) _ _ h
def f231_10 (aa : Nat)  : Nat → Int64 → Int32 → zS → Option (zS)
  | 0, _, _, _ => none
  | n + 1, x3, x5, s => b231_10 aa (f231_10 aa n) x3 x5 s
set_option maxRecDepth 100000 in
theorem k231_10 {X : mX} {D : Nat} {aa : Nat}  (haa : zMdec aa)  (n : Nat) : ∀ (x3 : Int64) (x5 : Int32) (s : zS) (r : zS) (o1 : Option Value), f231_10 aa  n x3 x5 s = some r → Ev X (D + 1) mm231 10 [some (.ref aa), o1, none, some (.long x3), none, some (.int x5)] [] (mk s) (encV r) := by
  induction n with
  | zero => intro x3 x5 s r o1  h; cases h
  | succ n ih => intro x3 x5 s r o1  h; exact kb231_10 haa ih x3 x5 s r o1  h
def f231 (aa : Nat)  (x1 : Int64) (s : zS) : Option (zS) := zb0 (f230 aa s) (fun s1 => f231_10 aa zF x1 (zi 45) s1)
set_option maxRecDepth 100000 in
theorem k231 {X : mX} {D : Nat} {aa : Nat} {x1 : Int64} {s : zS} {r : zS} (haa : zMdec aa)  (h : f231 aa x1 s = some r) : Ev X (D + 1) mm231 0 [some (.ref aa), some (.long x1), none, none, none, none] [] (mk s) (encV r) := by
  rcases haa with rfl | rfl | rfl
  · unfold f231 at h
    refine Ev.run (pc' := 1) (ls' := [some (.ref 32), some (.long x1), none, none, none, none]) (st' := [.ref 32]) (h' := mk s) 1 rfl ?_
    obtain ⟨s1, hq, h⟩ := zb0_some h
    refine Ev.call (M' := mm230) (v := none) (h' := mk s1) rfl rfl rfl (Nat.le_of_ble_eq_true rfl) (k230 (by decide) hq) ?_
    refine Ev.run (pc' := 10) (ls' := [some (.ref 32), some (.long x1), none, some (.long x1), none, some (.int (zi 45))]) (st' := []) (h' := mk s1) 4 rfl ?_
    exact k231_10 (by decide) zF x1 (zi 45) s1 _ _ h
  · unfold f231 at h
    refine Ev.run (pc' := 1) (ls' := [some (.ref 34), some (.long x1), none, none, none, none]) (st' := [.ref 34]) (h' := mk s) 1 rfl ?_
    obtain ⟨s1, hq, h⟩ := zb0_some h
    refine Ev.call (M' := mm230) (v := none) (h' := mk s1) rfl rfl rfl (Nat.le_of_ble_eq_true rfl) (k230 (by decide) hq) ?_
    refine Ev.run (pc' := 10) (ls' := [some (.ref 34), some (.long x1), none, some (.long x1), none, some (.int (zi 45))]) (st' := []) (h' := mk s1) 4 rfl ?_
    exact k231_10 (by decide) zF x1 (zi 45) s1 _ _ h
  · unfold f231 at h
    refine Ev.run (pc' := 1) (ls' := [some (.ref 36), some (.long x1), none, none, none, none]) (st' := [.ref 36]) (h' := mk s) 1 rfl ?_
    obtain ⟨s1, hq, h⟩ := zb0_some h
    refine Ev.call (M' := mm230) (v := none) (h' := mk s1) rfl rfl rfl (Nat.le_of_ble_eq_true rfl) (k230 (by decide) hq) ?_
    refine Ev.run (pc' := 10) (ls' := [some (.ref 36), some (.long x1), none, some (.long x1), none, some (.int (zi 45))]) (st' := []) (h' := mk s1) 4 rfl ?_
    exact k231_10 (by decide) zF x1 (zi 45) s1 _ _ h
/-! 232 FModel$Decimal.twice()V -/
def b232_82 (aa : Nat) (rec82 : zS → Option (zS))  (s : zS) : Option (zS) := if (s.1 aa 2) ≤ (s.1 aa 1) then some s else if mIx ((s.1 aa 2) - (zi 1)) 465 then if ¬ (s.1 (aa + 1) (((s.1 aa 2) - (zi 1)).toNatClampNeg)) = zi 0 then some s else rec82 (setI s aa 2 ((s.1 aa 2) - (zi 1))) else none
set_option maxRecDepth 100000 in
theorem kb232_82 {X : mX} {D : Nat} {aa : Nat} {rec82 : zS → Option (zS)} (haa : zMdec aa) (hrec82 : ∀  (s : zS) (r : zS) (o1 : Option Value) (o2 : Option Value) (o3 : Option Value), rec82  s = some r → Ev X D mm232 82 [some (.ref aa), o1, o2, o3] [] (mk s) (encV r))  (s : zS) (r : zS) (o1 : Option Value) (o2 : Option Value) (o3 : Option Value)  (h : b232_82 aa rec82  s = some r) : Ev X D mm232 82 [some (.ref aa), o1, o2, o3] [] (mk s) (encV r) := by
  rcases haa with rfl | rfl | rfl
  · unfold b232_82 at h
    refine Ev.run (pc' := 90) (ls' := [some (.ref 32), o1, o2, o3]) (st' := [.int (s.1 32 1), .int (s.1 32 2)]) (h' := mk s) 4 rfl ?_
    refine Ev.icmp_le (t := 120) rfl rfl (fun hb => ?_) (fun hb => ?_)
    · have h := (if_pos hb).symm.trans h
      first | (obtain rfl := Option.some.inj h) | (cases h)
      exact Ev.fin rfl rfl
    · have h := (if_neg hb).symm.trans h
      refine Ev.run (pc' := 103) (ls' := [some (.ref 32), o1, o2, o3]) (st' := [.int ((s.1 32 2) - (zi 1)), .ref (32 + 1)]) (h' := mk s) 6 rfl ?_
      obtain ⟨hx, h⟩ := zif h
      refine Ev.step (pc' := 104) rfl (ald_i rfl hx) ?_
      refine Ev.if_ne (t := 120) rfl rfl (fun hb => ?_) (fun hb => ?_)
      · have h := (if_pos hb).symm.trans h
        first | (obtain rfl := Option.some.inj h) | (cases h)
        exact Ev.fin rfl rfl
      · have h := (if_neg hb).symm.trans h
        refine Ev.run (pc' := 114) (ls' := [some (.ref 32), o1, o2, o3]) (st' := [.int ((s.1 32 2) - (zi 1)), .ref 32]) (h' := mk s) 5 rfl ?_
        refine Ev.step (pc' := 117) rfl (put_13_2 (by decide) rfl) ?_
        refine Ev.run (pc' := 82) (ls' := [some (.ref 32), o1, o2, o3]) (st' := []) (h' := mk (setI s 32 2 ((s.1 32 2) - (zi 1)))) 1 rfl ?_
        exact hrec82 (setI s 32 2 ((s.1 32 2) - (zi 1))) _ _ _ _ h
  · unfold b232_82 at h
    refine Ev.run (pc' := 90) (ls' := [some (.ref 34), o1, o2, o3]) (st' := [.int (s.1 34 1), .int (s.1 34 2)]) (h' := mk s) 4 rfl ?_
    refine Ev.icmp_le (t := 120) rfl rfl (fun hb => ?_) (fun hb => ?_)
    · have h := (if_pos hb).symm.trans h
      first | (obtain rfl := Option.some.inj h) | (cases h)
      exact Ev.fin rfl rfl
    · have h := (if_neg hb).symm.trans h
      refine Ev.run (pc' := 103) (ls' := [some (.ref 34), o1, o2, o3]) (st' := [.int ((s.1 34 2) - (zi 1)), .ref (34 + 1)]) (h' := mk s) 6 rfl ?_
      obtain ⟨hx, h⟩ := zif h
      refine Ev.step (pc' := 104) rfl (ald_i rfl hx) ?_
      refine Ev.if_ne (t := 120) rfl rfl (fun hb => ?_) (fun hb => ?_)
      · have h := (if_pos hb).symm.trans h
        first | (obtain rfl := Option.some.inj h) | (cases h)
        exact Ev.fin rfl rfl
      · have h := (if_neg hb).symm.trans h
        refine Ev.run (pc' := 114) (ls' := [some (.ref 34), o1, o2, o3]) (st' := [.int ((s.1 34 2) - (zi 1)), .ref 34]) (h' := mk s) 5 rfl ?_
        refine Ev.step (pc' := 117) rfl (put_13_2 (by decide) rfl) ?_
        refine Ev.run (pc' := 82) (ls' := [some (.ref 34), o1, o2, o3]) (st' := []) (h' := mk (setI s 34 2 ((s.1 34 2) - (zi 1)))) 1 rfl ?_
        exact hrec82 (setI s 34 2 ((s.1 34 2) - (zi 1))) _ _ _ _ h
  · unfold b232_82 at h
    refine Ev.run (pc' := 90) (ls' := [some (.ref 36), o1, o2, o3]) (st' := [.int (s.1 36 1), .int (s.1 36 2)]) (h' := mk s) 4 rfl ?_
    refine Ev.icmp_le (t := 120) rfl rfl (fun hb => ?_) (fun hb => ?_)
    · have h := (if_pos hb).symm.trans h
      first | (obtain rfl := Option.some.inj h) | (cases h)
      exact Ev.fin rfl rfl
    · have h := (if_neg hb).symm.trans h
      refine Ev.run (pc' := 103) (ls' := [some (.ref 36), o1, o2, o3]) (st' := [.int ((s.1 36 2) - (zi 1)), .ref (36 + 1)]) (h' := mk s) 6 rfl ?_
      obtain ⟨hx, h⟩ := zif h
      refine Ev.step (pc' := 104) rfl (ald_i rfl hx) ?_
      refine Ev.if_ne (t := 120) rfl rfl (fun hb => ?_) (fun hb => ?_)
      · have h := (if_pos hb).symm.trans h
        first | (obtain rfl := Option.some.inj h) | (cases h)
        exact Ev.fin rfl rfl
      · have h := (if_neg hb).symm.trans h
        refine Ev.run (pc' := 114) (ls' := [some (.ref 36), o1, o2, o3]) (st' := [.int ((s.1 36 2) - (zi 1)), .ref 36]) (h' := mk s) 5 rfl ?_
        refine Ev.step (pc' := 117) rfl (put_13_2 (by decide) rfl) ?_
        refine Ev.run (pc' := 82) (ls' := [some (.ref 36), o1, o2, o3]) (st' := []) (h' := mk (setI s 36 2 ((s.1 36 2) - (zi 1)))) 1 rfl ?_
        exact hrec82 (setI s 36 2 ((s.1 36 2) - (zi 1))) _ _ _ _ h
def f232_82 (aa : Nat)  : Nat → zS → Option (zS)
  | 0, _ => none
  | n + 1, s => b232_82 aa (f232_82 aa n)  s
set_option maxRecDepth 100000 in
theorem k232_82 {X : mX} {D : Nat} {aa : Nat}  (haa : zMdec aa)  (n : Nat) : ∀  (s : zS) (r : zS) (o1 : Option Value) (o2 : Option Value) (o3 : Option Value), f232_82 aa  n  s = some r → Ev X D mm232 82 [some (.ref aa), o1, o2, o3] [] (mk s) (encV r) := by
  induction n with
  | zero => intro  s r o1 o2 o3  h; cases h
  | succ n ih => intro  s r o1 o2 o3  h; exact kb232_82 haa ih  s r o1 o2 o3  h
def f232_39 (aa : Nat) (rec9 : Int32 → Int32 → zS → Option (zS)) (x2 : Int32) (x3 : Int32) (y0 : Int32) (s : zS) : Option (zS) := if mIx x2 465 then rec9 y0 (x2 + zi (-1)) (setB s (aa + 1) x2.toNatClampNeg (x3 - (y0 * (zi 1000000000)))) else none
set_option maxRecDepth 100000 in
theorem k232_39 {X : mX} {D : Nat} {aa : Nat} {rec9 : Int32 → Int32 → zS → Option (zS)} (haa : zMdec aa) (hrec9 : ∀ (x1 : Int32) (x2 : Int32) (s : zS) (r : zS) (o3 : Option Value), rec9 x1 x2 s = some r → Ev X D mm232 9 [some (.ref aa), some (.int x1), some (.int x2), o3] [] (mk s) (encV r)) (x2 : Int32) (x3 : Int32) (y0 : Int32) (s : zS) (r : zS) (o1 : Option Value)  (h : f232_39 aa rec9 x2 x3 y0 s = some r) : Ev X D mm232 39 [some (.ref aa), o1, some (.int x2), some (.int x3)] [.int y0] (mk s) (encV r) := by
  rcases haa with rfl | rfl | rfl
  · unfold f232_39 at h
    refine Ev.run (pc' := 51) (ls' := [some (.ref 32), some (.int y0), some (.int x2), some (.int x3)]) (st' := [.int (x3 - (y0 * (zi 1000000000))), .int x2, .ref (32 + 1)]) (h' := mk s) 9 rfl ?_
    obtain ⟨hx, h⟩ := zif h
    refine Ev.step (pc' := 52) rfl (astM (by decide) hx) ?_
    refine Ev.run (pc' := 9) (ls' := [some (.ref 32), some (.int y0), some (.int (x2 + zi (-1))), some (.int x3)]) (st' := []) (h' := mk (setB s (32 + 1) x2.toNatClampNeg (x3 - (y0 * (zi 1000000000))))) 2 rfl ?_
    exact hrec9 y0 (x2 + zi (-1)) (setB s (32 + 1) x2.toNatClampNeg (x3 - (y0 * (zi 1000000000)))) _ _ h
  · unfold f232_39 at h
    refine Ev.run (pc' := 51) (ls' := [some (.ref 34), some (.int y0), some (.int x2), some (.int x3)]) (st' := [.int (x3 - (y0 * (zi 1000000000))), .int x2, .ref (34 + 1)]) (h' := mk s) 9 rfl ?_
    obtain ⟨hx, h⟩ := zif h
    refine Ev.step (pc' := 52) rfl (astM (by decide) hx) ?_
    refine Ev.run (pc' := 9) (ls' := [some (.ref 34), some (.int y0), some (.int (x2 + zi (-1))), some (.int x3)]) (st' := []) (h' := mk (setB s (34 + 1) x2.toNatClampNeg (x3 - (y0 * (zi 1000000000))))) 2 rfl ?_
    exact hrec9 y0 (x2 + zi (-1)) (setB s (34 + 1) x2.toNatClampNeg (x3 - (y0 * (zi 1000000000)))) _ _ h
  · unfold f232_39 at h
    refine Ev.run (pc' := 51) (ls' := [some (.ref 36), some (.int y0), some (.int x2), some (.int x3)]) (st' := [.int (x3 - (y0 * (zi 1000000000))), .int x2, .ref (36 + 1)]) (h' := mk s) 9 rfl ?_
    obtain ⟨hx, h⟩ := zif h
    refine Ev.step (pc' := 52) rfl (astM (by decide) hx) ?_
    refine Ev.run (pc' := 9) (ls' := [some (.ref 36), some (.int y0), some (.int (x2 + zi (-1))), some (.int x3)]) (st' := []) (h' := mk (setB s (36 + 1) x2.toNatClampNeg (x3 - (y0 * (zi 1000000000))))) 2 rfl ?_
    exact hrec9 y0 (x2 + zi (-1)) (setB s (36 + 1) x2.toNatClampNeg (x3 - (y0 * (zi 1000000000)))) _ _ h
def b232_9 (aa : Nat) (rec9 : Int32 → Int32 → zS → Option (zS)) (x1 : Int32) (x2 : Int32) (s : zS) : Option (zS) := if x2 < (s.1 aa 1) then if x1 ≤ zi 0 then f232_82 aa zF s else if mIx ((s.1 aa 1) - (zi 1)) 465 then f232_82 aa zF (setB (setI s aa 1 ((s.1 aa 1) - (zi 1))) (aa + 1) (((s.1 aa 1) - (zi 1)).toNatClampNeg) (zi 1)) else none else if mIx x2 465 then if (((zi 2) * (s.1 (aa + 1) x2.toNatClampNeg)) + x1) < (zi 1000000000) then f232_39 aa rec9 x2 (((zi 2) * (s.1 (aa + 1) x2.toNatClampNeg)) + x1) (zi 0) s else f232_39 aa rec9 x2 (((zi 2) * (s.1 (aa + 1) x2.toNatClampNeg)) + x1) (zi 1) s else none
set_option maxRecDepth 100000 in
theorem kb232_9 {X : mX} {D : Nat} {aa : Nat} {rec9 : Int32 → Int32 → zS → Option (zS)} (haa : zMdec aa) (hrec9 : ∀ (x1 : Int32) (x2 : Int32) (s : zS) (r : zS) (o3 : Option Value), rec9 x1 x2 s = some r → Ev X D mm232 9 [some (.ref aa), some (.int x1), some (.int x2), o3] [] (mk s) (encV r)) (x1 : Int32) (x2 : Int32) (s : zS) (r : zS) (o3 : Option Value)  (h : b232_9 aa rec9 x1 x2 s = some r) : Ev X D mm232 9 [some (.ref aa), some (.int x1), some (.int x2), o3] [] (mk s) (encV r) := by
  rcases haa with rfl | rfl | rfl
  · unfold b232_9 at h
    refine Ev.run (pc' := 14) (ls' := [some (.ref 32), some (.int x1), some (.int x2), o3]) (st' := [.int (s.1 32 1), .int x2]) (h' := mk s) 3 rfl ?_
    refine Ev.icmp_lt (t := 58) rfl rfl (fun hb => ?_) (fun hb => ?_)
    · have h := (if_pos hb).symm.trans h
      refine Ev.run (pc' := 59) (ls' := [some (.ref 32), some (.int x1), some (.int x2), o3]) (st' := [.int x1]) (h' := mk s) 1 rfl ?_
      refine Ev.if_le (t := 82) rfl rfl (fun hb => ?_) (fun hb => ?_)
      · have h := (if_pos hb).symm.trans h
        exact k232_82 (by decide) zF s _ _ _ _ h
      · have h := (if_neg hb).symm.trans h
        refine Ev.run (pc' := 69) (ls' := [some (.ref 32), some (.int x1), some (.int x2), o3]) (st' := [.int ((s.1 32 1) - (zi 1)), .ref 32]) (h' := mk s) 5 rfl ?_
        refine Ev.step (pc' := 72) rfl (put_13_1 (by decide) rfl) ?_
        refine Ev.run (pc' := 81) (ls' := [some (.ref 32), some (.int x1), some (.int x2), o3]) (st' := [.int (zi 1), .int ((s.1 32 1) - (zi 1)), .ref (32 + 1)]) (h' := mk (setI s 32 1 ((s.1 32 1) - (zi 1)))) 5 rfl ?_
        obtain ⟨hx, h⟩ := zif h
        refine Ev.step (pc' := 82) rfl (astM (by decide) hx) ?_
        exact k232_82 (by decide) zF (setB (setI s 32 1 ((s.1 32 1) - (zi 1))) (32 + 1) (((s.1 32 1) - (zi 1)).toNatClampNeg) (zi 1)) _ _ _ _ h
    · have h := (if_neg hb).symm.trans h
      refine Ev.run (pc' := 23) (ls' := [some (.ref 32), some (.int x1), some (.int x2), o3]) (st' := [.int x2, .ref (32 + 1), .int (zi 2)]) (h' := mk s) 4 rfl ?_
      obtain ⟨hx, h⟩ := zif h
      refine Ev.step (pc' := 24) rfl (ald_i rfl hx) ?_
      refine Ev.run (pc' := 31) (ls' := [some (.ref 32), some (.int x1), some (.int x2), some (.int (((zi 2) * (s.1 (32 + 1) x2.toNatClampNeg)) + x1))]) (st' := [.int (zi 1000000000), .int (((zi 2) * (s.1 (32 + 1) x2.toNatClampNeg)) + x1)]) (h' := mk s) 6 rfl ?_
      refine Ev.icmp_lt (t := 38) rfl rfl (fun hb => ?_) (fun hb => ?_)
      · have h := (if_pos hb).symm.trans h
        refine Ev.run (pc' := 39) (ls' := [some (.ref 32), some (.int x1), some (.int x2), some (.int (((zi 2) * (s.1 (32 + 1) x2.toNatClampNeg)) + x1))]) (st' := [.int (zi 0)]) (h' := mk s) 1 rfl ?_
        exact k232_39 (by decide) hrec9 x2 (((zi 2) * (s.1 (32 + 1) x2.toNatClampNeg)) + x1) (zi 0) s _ _ h
      · have h := (if_neg hb).symm.trans h
        refine Ev.run (pc' := 39) (ls' := [some (.ref 32), some (.int x1), some (.int x2), some (.int (((zi 2) * (s.1 (32 + 1) x2.toNatClampNeg)) + x1))]) (st' := [.int (zi 1)]) (h' := mk s) 2 rfl ?_
        exact k232_39 (by decide) hrec9 x2 (((zi 2) * (s.1 (32 + 1) x2.toNatClampNeg)) + x1) (zi 1) s _ _ h
  · unfold b232_9 at h
    refine Ev.run (pc' := 14) (ls' := [some (.ref 34), some (.int x1), some (.int x2), o3]) (st' := [.int (s.1 34 1), .int x2]) (h' := mk s) 3 rfl ?_
    refine Ev.icmp_lt (t := 58) rfl rfl (fun hb => ?_) (fun hb => ?_)
    · have h := (if_pos hb).symm.trans h
      refine Ev.run (pc' := 59) (ls' := [some (.ref 34), some (.int x1), some (.int x2), o3]) (st' := [.int x1]) (h' := mk s) 1 rfl ?_
      refine Ev.if_le (t := 82) rfl rfl (fun hb => ?_) (fun hb => ?_)
      · have h := (if_pos hb).symm.trans h
        exact k232_82 (by decide) zF s _ _ _ _ h
      · have h := (if_neg hb).symm.trans h
        refine Ev.run (pc' := 69) (ls' := [some (.ref 34), some (.int x1), some (.int x2), o3]) (st' := [.int ((s.1 34 1) - (zi 1)), .ref 34]) (h' := mk s) 5 rfl ?_
        refine Ev.step (pc' := 72) rfl (put_13_1 (by decide) rfl) ?_
        refine Ev.run (pc' := 81) (ls' := [some (.ref 34), some (.int x1), some (.int x2), o3]) (st' := [.int (zi 1), .int ((s.1 34 1) - (zi 1)), .ref (34 + 1)]) (h' := mk (setI s 34 1 ((s.1 34 1) - (zi 1)))) 5 rfl ?_
        obtain ⟨hx, h⟩ := zif h
        refine Ev.step (pc' := 82) rfl (astM (by decide) hx) ?_
        exact k232_82 (by decide) zF (setB (setI s 34 1 ((s.1 34 1) - (zi 1))) (34 + 1) (((s.1 34 1) - (zi 1)).toNatClampNeg) (zi 1)) _ _ _ _ h
    · have h := (if_neg hb).symm.trans h
      refine Ev.run (pc' := 23) (ls' := [some (.ref 34), some (.int x1), some (.int x2), o3]) (st' := [.int x2, .ref (34 + 1), .int (zi 2)]) (h' := mk s) 4 rfl ?_
      obtain ⟨hx, h⟩ := zif h
      refine Ev.step (pc' := 24) rfl (ald_i rfl hx) ?_
      refine Ev.run (pc' := 31) (ls' := [some (.ref 34), some (.int x1), some (.int x2), some (.int (((zi 2) * (s.1 (34 + 1) x2.toNatClampNeg)) + x1))]) (st' := [.int (zi 1000000000), .int (((zi 2) * (s.1 (34 + 1) x2.toNatClampNeg)) + x1)]) (h' := mk s) 6 rfl ?_
      refine Ev.icmp_lt (t := 38) rfl rfl (fun hb => ?_) (fun hb => ?_)
      · have h := (if_pos hb).symm.trans h
        refine Ev.run (pc' := 39) (ls' := [some (.ref 34), some (.int x1), some (.int x2), some (.int (((zi 2) * (s.1 (34 + 1) x2.toNatClampNeg)) + x1))]) (st' := [.int (zi 0)]) (h' := mk s) 1 rfl ?_
        exact k232_39 (by decide) hrec9 x2 (((zi 2) * (s.1 (34 + 1) x2.toNatClampNeg)) + x1) (zi 0) s _ _ h
      · have h := (if_neg hb).symm.trans h
        refine Ev.run (pc' := 39) (ls' := [some (.ref 34), some (.int x1), some (.int x2), some (.int (((zi 2) * (s.1 (34 + 1) x2.toNatClampNeg)) + x1))]) (st' := [.int (zi 1)]) (h' := mk s) 2 rfl ?_
        exact k232_39 (by decide) hrec9 x2 (((zi 2) * (s.1 (34 + 1) x2.toNatClampNeg)) + x1) (zi 1) s _ _ h
  · unfold b232_9 at h
    refine Ev.run (pc' := 14) (ls' := [some (.ref 36), some (.int x1), some (.int x2), o3]) (st' := [.int (s.1 36 1), .int x2]) (h' := mk s) 3 rfl ?_
    refine Ev.icmp_lt (t := 58) rfl rfl (fun hb => ?_) (fun hb => ?_)
    · have h := (if_pos hb).symm.trans h
      refine Ev.run (pc' := 59) (ls' := [some (.ref 36), some (.int x1), some (.int x2), o3]) (st' := [.int x1]) (h' := mk s) 1 rfl ?_
      refine Ev.if_le (t := 82) rfl rfl (fun hb => ?_) (fun hb => ?_)
      · have h := (if_pos hb).symm.trans h
        exact k232_82 (by decide) zF s _ _ _ _ h
      · have h := (if_neg hb).symm.trans h
        refine Ev.run (pc' := 69) (ls' := [some (.ref 36), some (.int x1), some (.int x2), o3]) (st' := [.int ((s.1 36 1) - (zi 1)), .ref 36]) (h' := mk s) 5 rfl ?_
        refine Ev.step (pc' := 72) rfl (put_13_1 (by decide) rfl) ?_
        refine Ev.run (pc' := 81) (ls' := [some (.ref 36), some (.int x1), some (.int x2), o3]) (st' := [.int (zi 1), .int ((s.1 36 1) - (zi 1)), .ref (36 + 1)]) (h' := mk (setI s 36 1 ((s.1 36 1) - (zi 1)))) 5 rfl ?_
        obtain ⟨hx, h⟩ := zif h
        refine Ev.step (pc' := 82) rfl (astM (by decide) hx) ?_
        exact k232_82 (by decide) zF (setB (setI s 36 1 ((s.1 36 1) - (zi 1))) (36 + 1) (((s.1 36 1) - (zi 1)).toNatClampNeg) (zi 1)) _ _ _ _ h
    · have h := (if_neg hb).symm.trans h
      refine Ev.run (pc' := 23) (ls' := [some (.ref 36), some (.int x1), some (.int x2), o3]) (st' := [.int x2, .ref (36 + 1), .int (zi 2)]) (h' := mk s) 4 rfl ?_
      obtain ⟨hx, h⟩ := zif h
      refine Ev.step (pc' := 24) rfl (ald_i rfl hx) ?_
      refine Ev.run (pc' := 31) (ls' := [some (.ref 36), some (.int x1), some (.int x2), some (.int (((zi 2) * (s.1 (36 + 1) x2.toNatClampNeg)) + x1))]) (st' := [.int (zi 1000000000), .int (((zi 2) * (s.1 (36 + 1) x2.toNatClampNeg)) + x1)]) (h' := mk s) 6 rfl ?_
      refine Ev.icmp_lt (t := 38) rfl rfl (fun hb => ?_) (fun hb => ?_)
      · have h := (if_pos hb).symm.trans h
        refine Ev.run (pc' := 39) (ls' := [some (.ref 36), some (.int x1), some (.int x2), some (.int (((zi 2) * (s.1 (36 + 1) x2.toNatClampNeg)) + x1))]) (st' := [.int (zi 0)]) (h' := mk s) 1 rfl ?_
        exact k232_39 (by decide) hrec9 x2 (((zi 2) * (s.1 (36 + 1) x2.toNatClampNeg)) + x1) (zi 0) s _ _ h
      · have h := (if_neg hb).symm.trans h
        refine Ev.run (pc' := 39) (ls' := [some (.ref 36), some (.int x1), some (.int x2), some (.int (((zi 2) * (s.1 (36 + 1) x2.toNatClampNeg)) + x1))]) (st' := [.int (zi 1)]) (h' := mk s) 2 rfl ?_
        exact k232_39 (by decide) hrec9 x2 (((zi 2) * (s.1 (36 + 1) x2.toNatClampNeg)) + x1) (zi 1) s _ _ h
def f232_9 (aa : Nat)  : Nat → Int32 → Int32 → zS → Option (zS)
  | 0, _, _, _ => none
  | n + 1, x1, x2, s => b232_9 aa (f232_9 aa n) x1 x2 s
set_option maxRecDepth 100000 in
theorem k232_9 {X : mX} {D : Nat} {aa : Nat}  (haa : zMdec aa)  (n : Nat) : ∀ (x1 : Int32) (x2 : Int32) (s : zS) (r : zS) (o3 : Option Value), f232_9 aa  n x1 x2 s = some r → Ev X D mm232 9 [some (.ref aa), some (.int x1), some (.int x2), o3] [] (mk s) (encV r) := by
  induction n with
  | zero => intro x1 x2 s r o3  h; cases h
  | succ n ih => intro x1 x2 s r o3  h; exact kb232_9 haa ih x1 x2 s r o3  h
def f232 (aa : Nat)   (s : zS) : Option (zS) := f232_9 aa zF (zi 0) ((s.1 aa 2) - (zi 1)) s
set_option maxRecDepth 100000 in
theorem k232 {X : mX} {D : Nat} {aa : Nat}  {s : zS} {r : zS} (haa : zMdec aa)  (h : f232 aa  s = some r) : Ev X D mm232 0 [some (.ref aa), none, none, none] [] (mk s) (encV r) := by
  rcases haa with rfl | rfl | rfl
  · unfold f232 at h
    refine Ev.run (pc' := 9) (ls' := [some (.ref 32), some (.int (zi 0)), some (.int ((s.1 32 2) - (zi 1))), none]) (st' := []) (h' := mk s) 7 rfl ?_
    exact k232_9 (by decide) zF (zi 0) ((s.1 32 2) - (zi 1)) s _ _ h
  · unfold f232 at h
    refine Ev.run (pc' := 9) (ls' := [some (.ref 34), some (.int (zi 0)), some (.int ((s.1 34 2) - (zi 1))), none]) (st' := []) (h' := mk s) 7 rfl ?_
    exact k232_9 (by decide) zF (zi 0) ((s.1 34 2) - (zi 1)) s _ _ h
  · unfold f232 at h
    refine Ev.run (pc' := 9) (ls' := [some (.ref 36), some (.int (zi 0)), some (.int ((s.1 36 2) - (zi 1))), none]) (st' := []) (h' := mk s) 7 rfl ?_
    exact k232_9 (by decide) zF (zi 0) ((s.1 36 2) - (zi 1)) s _ _ h
/-! 233 FModel$Decimal.half()V -/
def b233_82 (aa : Nat) (rec82 : zS → Option (zS))  (s : zS) : Option (zS) := if (s.1 aa 1) ≥ (s.1 aa 2) then some s else if mIx (s.1 aa 1) 465 then if ¬ (s.1 (aa + 1) ((s.1 aa 1).toNatClampNeg)) = zi 0 then some s else rec82 (setI s aa 1 ((s.1 aa 1) + (zi 1))) else none
set_option maxRecDepth 100000 in
theorem kb233_82 {X : mX} {D : Nat} {aa : Nat} {rec82 : zS → Option (zS)} (haa : zMdec aa) (hrec82 : ∀  (s : zS) (r : zS) (o1 : Option Value) (o2 : Option Value) (o3 : Option Value), rec82  s = some r → Ev X D mm233 82 [some (.ref aa), o1, o2, o3] [] (mk s) (encV r))  (s : zS) (r : zS) (o1 : Option Value) (o2 : Option Value) (o3 : Option Value)  (h : b233_82 aa rec82  s = some r) : Ev X D mm233 82 [some (.ref aa), o1, o2, o3] [] (mk s) (encV r) := by
  rcases haa with rfl | rfl | rfl
  · unfold b233_82 at h
    refine Ev.run (pc' := 90) (ls' := [some (.ref 32), o1, o2, o3]) (st' := [.int (s.1 32 2), .int (s.1 32 1)]) (h' := mk s) 4 rfl ?_
    refine Ev.icmp_ge (t := 118) rfl rfl (fun hb => ?_) (fun hb => ?_)
    · have h := (if_pos hb).symm.trans h
      first | (obtain rfl := Option.some.inj h) | (cases h)
      exact Ev.fin rfl rfl
    · have h := (if_neg hb).symm.trans h
      refine Ev.run (pc' := 101) (ls' := [some (.ref 32), o1, o2, o3]) (st' := [.int (s.1 32 1), .ref (32 + 1)]) (h' := mk s) 4 rfl ?_
      obtain ⟨hx, h⟩ := zif h
      refine Ev.step (pc' := 102) rfl (ald_i rfl hx) ?_
      refine Ev.if_ne (t := 118) rfl rfl (fun hb => ?_) (fun hb => ?_)
      · have h := (if_pos hb).symm.trans h
        first | (obtain rfl := Option.some.inj h) | (cases h)
        exact Ev.fin rfl rfl
      · have h := (if_neg hb).symm.trans h
        refine Ev.run (pc' := 112) (ls' := [some (.ref 32), o1, o2, o3]) (st' := [.int ((s.1 32 1) + (zi 1)), .ref 32]) (h' := mk s) 5 rfl ?_
        refine Ev.step (pc' := 115) rfl (put_13_1 (by decide) rfl) ?_
        refine Ev.run (pc' := 82) (ls' := [some (.ref 32), o1, o2, o3]) (st' := []) (h' := mk (setI s 32 1 ((s.1 32 1) + (zi 1)))) 1 rfl ?_
        exact hrec82 (setI s 32 1 ((s.1 32 1) + (zi 1))) _ _ _ _ h
  · unfold b233_82 at h
    refine Ev.run (pc' := 90) (ls' := [some (.ref 34), o1, o2, o3]) (st' := [.int (s.1 34 2), .int (s.1 34 1)]) (h' := mk s) 4 rfl ?_
    refine Ev.icmp_ge (t := 118) rfl rfl (fun hb => ?_) (fun hb => ?_)
    · have h := (if_pos hb).symm.trans h
      first | (obtain rfl := Option.some.inj h) | (cases h)
      exact Ev.fin rfl rfl
    · have h := (if_neg hb).symm.trans h
      refine Ev.run (pc' := 101) (ls' := [some (.ref 34), o1, o2, o3]) (st' := [.int (s.1 34 1), .ref (34 + 1)]) (h' := mk s) 4 rfl ?_
      obtain ⟨hx, h⟩ := zif h
      refine Ev.step (pc' := 102) rfl (ald_i rfl hx) ?_
      refine Ev.if_ne (t := 118) rfl rfl (fun hb => ?_) (fun hb => ?_)
      · have h := (if_pos hb).symm.trans h
        first | (obtain rfl := Option.some.inj h) | (cases h)
        exact Ev.fin rfl rfl
      · have h := (if_neg hb).symm.trans h
        refine Ev.run (pc' := 112) (ls' := [some (.ref 34), o1, o2, o3]) (st' := [.int ((s.1 34 1) + (zi 1)), .ref 34]) (h' := mk s) 5 rfl ?_
        refine Ev.step (pc' := 115) rfl (put_13_1 (by decide) rfl) ?_
        refine Ev.run (pc' := 82) (ls' := [some (.ref 34), o1, o2, o3]) (st' := []) (h' := mk (setI s 34 1 ((s.1 34 1) + (zi 1)))) 1 rfl ?_
        exact hrec82 (setI s 34 1 ((s.1 34 1) + (zi 1))) _ _ _ _ h
  · unfold b233_82 at h
    refine Ev.run (pc' := 90) (ls' := [some (.ref 36), o1, o2, o3]) (st' := [.int (s.1 36 2), .int (s.1 36 1)]) (h' := mk s) 4 rfl ?_
    refine Ev.icmp_ge (t := 118) rfl rfl (fun hb => ?_) (fun hb => ?_)
    · have h := (if_pos hb).symm.trans h
      first | (obtain rfl := Option.some.inj h) | (cases h)
      exact Ev.fin rfl rfl
    · have h := (if_neg hb).symm.trans h
      refine Ev.run (pc' := 101) (ls' := [some (.ref 36), o1, o2, o3]) (st' := [.int (s.1 36 1), .ref (36 + 1)]) (h' := mk s) 4 rfl ?_
      obtain ⟨hx, h⟩ := zif h
      refine Ev.step (pc' := 102) rfl (ald_i rfl hx) ?_
      refine Ev.if_ne (t := 118) rfl rfl (fun hb => ?_) (fun hb => ?_)
      · have h := (if_pos hb).symm.trans h
        first | (obtain rfl := Option.some.inj h) | (cases h)
        exact Ev.fin rfl rfl
      · have h := (if_neg hb).symm.trans h
        refine Ev.run (pc' := 112) (ls' := [some (.ref 36), o1, o2, o3]) (st' := [.int ((s.1 36 1) + (zi 1)), .ref 36]) (h' := mk s) 5 rfl ?_
        refine Ev.step (pc' := 115) rfl (put_13_1 (by decide) rfl) ?_
        refine Ev.run (pc' := 82) (ls' := [some (.ref 36), o1, o2, o3]) (st' := []) (h' := mk (setI s 36 1 ((s.1 36 1) + (zi 1)))) 1 rfl ?_
        exact hrec82 (setI s 36 1 ((s.1 36 1) + (zi 1))) _ _ _ _ h
def f233_82 (aa : Nat)  : Nat → zS → Option (zS)
  | 0, _ => none
  | n + 1, s => b233_82 aa (f233_82 aa n)  s
set_option maxRecDepth 100000 in
theorem k233_82 {X : mX} {D : Nat} {aa : Nat}  (haa : zMdec aa)  (n : Nat) : ∀  (s : zS) (r : zS) (o1 : Option Value) (o2 : Option Value) (o3 : Option Value), f233_82 aa  n  s = some r → Ev X D mm233 82 [some (.ref aa), o1, o2, o3] [] (mk s) (encV r) := by
  induction n with
  | zero => intro  s r o1 o2 o3  h; cases h
  | succ n ih => intro  s r o1 o2 o3  h; exact kb233_82 haa ih  s r o1 o2 o3  h
def b233_7 (aa : Nat) (rec7 : Int32 → Int32 → zS → Option (zS)) (x1 : Int32) (x2 : Int32) (s : zS) : Option (zS) := if x2 ≥ (s.1 aa 2) then if x1 ≤ zi 0 then f233_82 aa zF s else if mIx (s.1 aa 2) 465 then f233_82 aa zF (setI (setB s (aa + 1) ((s.1 aa 2).toNatClampNeg) (zi 500000000)) aa 2 ((s.1 aa 2) + (zi 1))) else none else if mIx x2 465 then if mIx x2 465 then if mIx x2 465 then rec7 ((s.1 (aa + 1) x2.toNatClampNeg) &&& (zi 1)) (x2 + zi 1) (setB s (aa + 1) x2.toNatClampNeg (zL2I (((zI2L (s.1 (aa + 1) x2.toNatClampNeg)) + ((zI2L x1) * (zl 1000000000))) / (zl 2)))) else none else none else none
set_option maxRecDepth 100000 in
theorem kb233_7 {X : mX} {D : Nat} {aa : Nat} {rec7 : Int32 → Int32 → zS → Option (zS)} (haa : zMdec aa) (hrec7 : ∀ (x1 : Int32) (x2 : Int32) (s : zS) (r : zS) (o3 : Option Value), rec7 x1 x2 s = some r → Ev X D mm233 7 [some (.ref aa), some (.int x1), some (.int x2), o3] [] (mk s) (encV r)) (x1 : Int32) (x2 : Int32) (s : zS) (r : zS) (o3 : Option Value)  (h : b233_7 aa rec7 x1 x2 s = some r) : Ev X D mm233 7 [some (.ref aa), some (.int x1), some (.int x2), o3] [] (mk s) (encV r) := by
  rcases haa with rfl | rfl | rfl
  · unfold b233_7 at h
    refine Ev.run (pc' := 12) (ls' := [some (.ref 32), some (.int x1), some (.int x2), o3]) (st' := [.int (s.1 32 2), .int x2]) (h' := mk s) 3 rfl ?_
    refine Ev.icmp_ge (t := 57) rfl rfl (fun hb => ?_) (fun hb => ?_)
    · have h := (if_pos hb).symm.trans h
      refine Ev.run (pc' := 58) (ls' := [some (.ref 32), some (.int x1), some (.int x2), o3]) (st' := [.int x1]) (h' := mk s) 1 rfl ?_
      refine Ev.if_le (t := 82) rfl rfl (fun hb => ?_) (fun hb => ?_)
      · have h := (if_pos hb).symm.trans h
        exact k233_82 (by decide) zF s _ _ _ _ h
      · have h := (if_neg hb).symm.trans h
        refine Ev.run (pc' := 71) (ls' := [some (.ref 32), some (.int x1), some (.int x2), o3]) (st' := [.int (zi 500000000), .int (s.1 32 2), .ref (32 + 1)]) (h' := mk s) 5 rfl ?_
        obtain ⟨hx, h⟩ := zif h
        refine Ev.step (pc' := 72) rfl (astM (by decide) hx) ?_
        refine Ev.run (pc' := 79) (ls' := [some (.ref 32), some (.int x1), some (.int x2), o3]) (st' := [.int ((s.1 32 2) + (zi 1)), .ref 32]) (h' := mk (setB s (32 + 1) ((s.1 32 2).toNatClampNeg) (zi 500000000))) 5 rfl ?_
        refine Ev.step (pc' := 82) rfl (put_13_2 (by decide) rfl) ?_
        exact k233_82 (by decide) zF (setI (setB s (32 + 1) ((s.1 32 2).toNatClampNeg) (zi 500000000)) 32 2 ((s.1 32 2) + (zi 1))) _ _ _ _ h
    · have h := (if_neg hb).symm.trans h
      refine Ev.run (pc' := 20) (ls' := [some (.ref 32), some (.int x1), some (.int x2), o3]) (st' := [.int x2, .ref (32 + 1)]) (h' := mk s) 3 rfl ?_
      obtain ⟨hx, h⟩ := zif h
      refine Ev.step (pc' := 21) rfl (ald_i rfl hx) ?_
      refine Ev.run (pc' := 40) (ls' := [some (.ref 32), some (.int x1), some (.int x2), some (.int (zL2I (((zI2L (s.1 (32 + 1) x2.toNatClampNeg)) + ((zI2L x1) * (zl 1000000000))) / (zl 2))))]) (st' := [.int x2, .ref (32 + 1)]) (h' := mk s) 13 rfl ?_
      obtain ⟨hx, h⟩ := zif h
      refine Ev.step (pc' := 41) rfl (ald_i rfl hx) ?_
      refine Ev.run (pc' := 50) (ls' := [some (.ref 32), some (.int ((s.1 (32 + 1) x2.toNatClampNeg) &&& (zi 1))), some (.int x2), some (.int (zL2I (((zI2L (s.1 (32 + 1) x2.toNatClampNeg)) + ((zI2L x1) * (zl 1000000000))) / (zl 2))))]) (st' := [.int (zL2I (((zI2L (s.1 (32 + 1) x2.toNatClampNeg)) + ((zI2L x1) * (zl 1000000000))) / (zl 2))), .int x2, .ref (32 + 1)]) (h' := mk s) 7 rfl ?_
      obtain ⟨hx, h⟩ := zif h
      refine Ev.step (pc' := 51) rfl (astM (by decide) hx) ?_
      refine Ev.run (pc' := 7) (ls' := [some (.ref 32), some (.int ((s.1 (32 + 1) x2.toNatClampNeg) &&& (zi 1))), some (.int (x2 + zi 1)), some (.int (zL2I (((zI2L (s.1 (32 + 1) x2.toNatClampNeg)) + ((zI2L x1) * (zl 1000000000))) / (zl 2))))]) (st' := []) (h' := mk (setB s (32 + 1) x2.toNatClampNeg (zL2I (((zI2L (s.1 (32 + 1) x2.toNatClampNeg)) + ((zI2L x1) * (zl 1000000000))) / (zl 2))))) 2 rfl ?_
      exact hrec7 ((s.1 (32 + 1) x2.toNatClampNeg) &&& (zi 1)) (x2 + zi 1) (setB s (32 + 1) x2.toNatClampNeg (zL2I (((zI2L (s.1 (32 + 1) x2.toNatClampNeg)) + ((zI2L x1) * (zl 1000000000))) / (zl 2)))) _ _ h
  · unfold b233_7 at h
    refine Ev.run (pc' := 12) (ls' := [some (.ref 34), some (.int x1), some (.int x2), o3]) (st' := [.int (s.1 34 2), .int x2]) (h' := mk s) 3 rfl ?_
    refine Ev.icmp_ge (t := 57) rfl rfl (fun hb => ?_) (fun hb => ?_)
    · have h := (if_pos hb).symm.trans h
      refine Ev.run (pc' := 58) (ls' := [some (.ref 34), some (.int x1), some (.int x2), o3]) (st' := [.int x1]) (h' := mk s) 1 rfl ?_
      refine Ev.if_le (t := 82) rfl rfl (fun hb => ?_) (fun hb => ?_)
      · have h := (if_pos hb).symm.trans h
        exact k233_82 (by decide) zF s _ _ _ _ h
      · have h := (if_neg hb).symm.trans h
        refine Ev.run (pc' := 71) (ls' := [some (.ref 34), some (.int x1), some (.int x2), o3]) (st' := [.int (zi 500000000), .int (s.1 34 2), .ref (34 + 1)]) (h' := mk s) 5 rfl ?_
        obtain ⟨hx, h⟩ := zif h
        refine Ev.step (pc' := 72) rfl (astM (by decide) hx) ?_
        refine Ev.run (pc' := 79) (ls' := [some (.ref 34), some (.int x1), some (.int x2), o3]) (st' := [.int ((s.1 34 2) + (zi 1)), .ref 34]) (h' := mk (setB s (34 + 1) ((s.1 34 2).toNatClampNeg) (zi 500000000))) 5 rfl ?_
        refine Ev.step (pc' := 82) rfl (put_13_2 (by decide) rfl) ?_
        exact k233_82 (by decide) zF (setI (setB s (34 + 1) ((s.1 34 2).toNatClampNeg) (zi 500000000)) 34 2 ((s.1 34 2) + (zi 1))) _ _ _ _ h
    · have h := (if_neg hb).symm.trans h
      refine Ev.run (pc' := 20) (ls' := [some (.ref 34), some (.int x1), some (.int x2), o3]) (st' := [.int x2, .ref (34 + 1)]) (h' := mk s) 3 rfl ?_
      obtain ⟨hx, h⟩ := zif h
      refine Ev.step (pc' := 21) rfl (ald_i rfl hx) ?_
      refine Ev.run (pc' := 40) (ls' := [some (.ref 34), some (.int x1), some (.int x2), some (.int (zL2I (((zI2L (s.1 (34 + 1) x2.toNatClampNeg)) + ((zI2L x1) * (zl 1000000000))) / (zl 2))))]) (st' := [.int x2, .ref (34 + 1)]) (h' := mk s) 13 rfl ?_
      obtain ⟨hx, h⟩ := zif h
      refine Ev.step (pc' := 41) rfl (ald_i rfl hx) ?_
      refine Ev.run (pc' := 50) (ls' := [some (.ref 34), some (.int ((s.1 (34 + 1) x2.toNatClampNeg) &&& (zi 1))), some (.int x2), some (.int (zL2I (((zI2L (s.1 (34 + 1) x2.toNatClampNeg)) + ((zI2L x1) * (zl 1000000000))) / (zl 2))))]) (st' := [.int (zL2I (((zI2L (s.1 (34 + 1) x2.toNatClampNeg)) + ((zI2L x1) * (zl 1000000000))) / (zl 2))), .int x2, .ref (34 + 1)]) (h' := mk s) 7 rfl ?_
      obtain ⟨hx, h⟩ := zif h
      refine Ev.step (pc' := 51) rfl (astM (by decide) hx) ?_
      refine Ev.run (pc' := 7) (ls' := [some (.ref 34), some (.int ((s.1 (34 + 1) x2.toNatClampNeg) &&& (zi 1))), some (.int (x2 + zi 1)), some (.int (zL2I (((zI2L (s.1 (34 + 1) x2.toNatClampNeg)) + ((zI2L x1) * (zl 1000000000))) / (zl 2))))]) (st' := []) (h' := mk (setB s (34 + 1) x2.toNatClampNeg (zL2I (((zI2L (s.1 (34 + 1) x2.toNatClampNeg)) + ((zI2L x1) * (zl 1000000000))) / (zl 2))))) 2 rfl ?_
      exact hrec7 ((s.1 (34 + 1) x2.toNatClampNeg) &&& (zi 1)) (x2 + zi 1) (setB s (34 + 1) x2.toNatClampNeg (zL2I (((zI2L (s.1 (34 + 1) x2.toNatClampNeg)) + ((zI2L x1) * (zl 1000000000))) / (zl 2)))) _ _ h
  · unfold b233_7 at h
    refine Ev.run (pc' := 12) (ls' := [some (.ref 36), some (.int x1), some (.int x2), o3]) (st' := [.int (s.1 36 2), .int x2]) (h' := mk s) 3 rfl ?_
    refine Ev.icmp_ge (t := 57) rfl rfl (fun hb => ?_) (fun hb => ?_)
    · have h := (if_pos hb).symm.trans h
      refine Ev.run (pc' := 58) (ls' := [some (.ref 36), some (.int x1), some (.int x2), o3]) (st' := [.int x1]) (h' := mk s) 1 rfl ?_
      refine Ev.if_le (t := 82) rfl rfl (fun hb => ?_) (fun hb => ?_)
      · have h := (if_pos hb).symm.trans h
        exact k233_82 (by decide) zF s _ _ _ _ h
      · have h := (if_neg hb).symm.trans h
        refine Ev.run (pc' := 71) (ls' := [some (.ref 36), some (.int x1), some (.int x2), o3]) (st' := [.int (zi 500000000), .int (s.1 36 2), .ref (36 + 1)]) (h' := mk s) 5 rfl ?_
        obtain ⟨hx, h⟩ := zif h
        refine Ev.step (pc' := 72) rfl (astM (by decide) hx) ?_
        refine Ev.run (pc' := 79) (ls' := [some (.ref 36), some (.int x1), some (.int x2), o3]) (st' := [.int ((s.1 36 2) + (zi 1)), .ref 36]) (h' := mk (setB s (36 + 1) ((s.1 36 2).toNatClampNeg) (zi 500000000))) 5 rfl ?_
        refine Ev.step (pc' := 82) rfl (put_13_2 (by decide) rfl) ?_
        exact k233_82 (by decide) zF (setI (setB s (36 + 1) ((s.1 36 2).toNatClampNeg) (zi 500000000)) 36 2 ((s.1 36 2) + (zi 1))) _ _ _ _ h
    · have h := (if_neg hb).symm.trans h
      refine Ev.run (pc' := 20) (ls' := [some (.ref 36), some (.int x1), some (.int x2), o3]) (st' := [.int x2, .ref (36 + 1)]) (h' := mk s) 3 rfl ?_
      obtain ⟨hx, h⟩ := zif h
      refine Ev.step (pc' := 21) rfl (ald_i rfl hx) ?_
      refine Ev.run (pc' := 40) (ls' := [some (.ref 36), some (.int x1), some (.int x2), some (.int (zL2I (((zI2L (s.1 (36 + 1) x2.toNatClampNeg)) + ((zI2L x1) * (zl 1000000000))) / (zl 2))))]) (st' := [.int x2, .ref (36 + 1)]) (h' := mk s) 13 rfl ?_
      obtain ⟨hx, h⟩ := zif h
      refine Ev.step (pc' := 41) rfl (ald_i rfl hx) ?_
      refine Ev.run (pc' := 50) (ls' := [some (.ref 36), some (.int ((s.1 (36 + 1) x2.toNatClampNeg) &&& (zi 1))), some (.int x2), some (.int (zL2I (((zI2L (s.1 (36 + 1) x2.toNatClampNeg)) + ((zI2L x1) * (zl 1000000000))) / (zl 2))))]) (st' := [.int (zL2I (((zI2L (s.1 (36 + 1) x2.toNatClampNeg)) + ((zI2L x1) * (zl 1000000000))) / (zl 2))), .int x2, .ref (36 + 1)]) (h' := mk s) 7 rfl ?_
      obtain ⟨hx, h⟩ := zif h
      refine Ev.step (pc' := 51) rfl (astM (by decide) hx) ?_
      refine Ev.run (pc' := 7) (ls' := [some (.ref 36), some (.int ((s.1 (36 + 1) x2.toNatClampNeg) &&& (zi 1))), some (.int (x2 + zi 1)), some (.int (zL2I (((zI2L (s.1 (36 + 1) x2.toNatClampNeg)) + ((zI2L x1) * (zl 1000000000))) / (zl 2))))]) (st' := []) (h' := mk (setB s (36 + 1) x2.toNatClampNeg (zL2I (((zI2L (s.1 (36 + 1) x2.toNatClampNeg)) + ((zI2L x1) * (zl 1000000000))) / (zl 2))))) 2 rfl ?_
      exact hrec7 ((s.1 (36 + 1) x2.toNatClampNeg) &&& (zi 1)) (x2 + zi 1) (setB s (36 + 1) x2.toNatClampNeg (zL2I (((zI2L (s.1 (36 + 1) x2.toNatClampNeg)) + ((zI2L x1) * (zl 1000000000))) / (zl 2)))) _ _ h
def f233_7 (aa : Nat)  : Nat → Int32 → Int32 → zS → Option (zS)
  | 0, _, _, _ => none
  | n + 1, x1, x2, s => b233_7 aa (f233_7 aa n) x1 x2 s
set_option maxRecDepth 100000 in
theorem k233_7 {X : mX} {D : Nat} {aa : Nat}  (haa : zMdec aa)  (n : Nat) : ∀ (x1 : Int32) (x2 : Int32) (s : zS) (r : zS) (o3 : Option Value), f233_7 aa  n x1 x2 s = some r → Ev X D mm233 7 [some (.ref aa), some (.int x1), some (.int x2), o3] [] (mk s) (encV r) := by
  induction n with
  | zero => intro x1 x2 s r o3  h; cases h
  | succ n ih => intro x1 x2 s r o3  h; exact kb233_7 haa ih x1 x2 s r o3  h
def f233 (aa : Nat)   (s : zS) : Option (zS) := f233_7 aa zF (zi 0) (s.1 aa 1) s
set_option maxRecDepth 100000 in
theorem k233 {X : mX} {D : Nat} {aa : Nat}  {s : zS} {r : zS} (haa : zMdec aa)  (h : f233 aa  s = some r) : Ev X D mm233 0 [some (.ref aa), none, none, none] [] (mk s) (encV r) := by
  rcases haa with rfl | rfl | rfl
  · unfold f233 at h
    refine Ev.run (pc' := 7) (ls' := [some (.ref 32), some (.int (zi 0)), some (.int (s.1 32 1)), none]) (st' := []) (h' := mk s) 5 rfl ?_
    exact k233_7 (by decide) zF (zi 0) (s.1 32 1) s _ _ h
  · unfold f233 at h
    refine Ev.run (pc' := 7) (ls' := [some (.ref 34), some (.int (zi 0)), some (.int (s.1 34 1)), none]) (st' := []) (h' := mk s) 5 rfl ?_
    exact k233_7 (by decide) zF (zi 0) (s.1 34 1) s _ _ h
  · unfold f233 at h
    refine Ev.run (pc' := 7) (ls' := [some (.ref 36), some (.int (zi 0)), some (.int (s.1 36 1)), none]) (st' := []) (h' := mk s) 5 rfl ?_
    exact k233_7 (by decide) zF (zi 0) (s.1 36 1) s _ _ h
