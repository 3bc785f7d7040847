/-! decompiled methods, 8; printed by wip/gen/gen8.py -/
/-! 182 FModel.laid(ZZZ)V -/
def b182_282 (rec282 : Int32 → Int32 → Int32 → Int32 → zS → Option (zS)) (x5 : Int32) (x6 : Int32) (x9 : Int32) (x10 : Int32) (s : zS) : Option (zS) := if x10 ≥ (s.1 24 33) then if x9 = zi 0 then some s else zb0 (f175 (zi 41) s) (fun s1 => some s1) else if mIx x10 6000 then zb0 (f175 (s.1 40 x10.toNatClampNeg) s) (fun s2 => if x6 = zi 0 then rec282 x5 x6 x9 (x10 + zi 1) s2 else if x10 ≥ (x5 - (zi 1)) then rec282 x5 x6 x9 (x10 + zi 1) s2 else if ¬ (zrem ((x5 - (zi 1)) - x10) (zi 3)) = zi 0 then rec282 x5 x6 x9 (x10 + zi 1) s2 else zb0 (f175 (zi 44) s2) (fun s3 => rec282 x5 x6 x9 (x10 + zi 1) s3)) else none
set_option maxRecDepth 100000 in
theorem kb182_282 {X : mX} {D : Nat} {rec282 : Int32 → Int32 → Int32 → Int32 → zS → Option (zS)} (hrec282 : ∀ (x5 : Int32) (x6 : Int32) (x9 : Int32) (x10 : Int32) (s : zS) (r : zS) (o1 : Option Value) (o2 : Option Value) (o3 : Option Value) (o4 : Option Value) (o7 : Option Value) (o8 : Option Value), rec282 x5 x6 x9 x10 s = some r → Ev X (D + 6) mm182 282 [some (.ref 24), o1, o2, o3, o4, some (.int x5), some (.int x6), o7, o8, some (.int x9), some (.int x10)] [] (mk s) (encV r)) (x5 : Int32) (x6 : Int32) (x9 : Int32) (x10 : Int32) (s : zS) (r : zS) (o1 : Option Value) (o2 : Option Value) (o3 : Option Value) (o4 : Option Value) (o7 : Option Value) (o8 : Option Value)  (h : b182_282 rec282 x5 x6 x9 x10 s = some r) : Ev X (D + 6) mm182 282 [some (.ref 24), o1, o2, o3, o4, some (.int x5), some (.int x6), o7, o8, some (.int x9), some (.int x10)] [] (mk s) (encV r) := by
  unfold b182_282 at h
  refine Ev.run (pc' := 288) (ls' := [some (.ref 24), o1, o2, o3, o4, some (.int x5), some (.int x6), o7, o8, some (.int x9), some (.int x10)]) (st' := [.int (s.1 24 33), .int x10]) (h' := mk s) 3 rfl ?_
  refine Ev.icmp_ge (t := 340) rfl rfl (fun hb => ?_) (fun hb => ?_)
  · have h := (if_pos hb).symm.trans h
    refine Ev.run (pc' := 342) (ls' := [some (.ref 24), o1, o2, o3, o4, some (.int x5), some (.int x6), o7, o8, some (.int x9), some (.int x10)]) (st' := [.int x9]) (h' := mk s) 1 rfl ?_
    refine Ev.if_eq (t := 351) rfl rfl (fun hb => ?_) (fun hb => ?_)
    · have h := (if_pos hb).symm.trans h
      first | (obtain rfl := Option.some.inj h) | (cases h)
      exact Ev.fin rfl rfl
    · have h := (if_neg hb).symm.trans h
      refine Ev.run (pc' := 348) (ls' := [some (.ref 24), o1, o2, o3, o4, some (.int x5), some (.int x6), o7, o8, some (.int x9), some (.int x10)]) (st' := [.int (zi 41), .ref 24]) (h' := mk s) 2 rfl ?_
      obtain ⟨s1, hq, h⟩ := zb0_some h
      refine Ev.call (M' := mm175) (v := none) (h' := mk s1) rfl rfl rfl (Nat.le_of_ble_eq_true rfl) (k175 hq) ?_
      first | (obtain rfl := Option.some.inj h) | (cases h)
      exact Ev.fin rfl rfl
  · have h := (if_neg hb).symm.trans h
    refine Ev.run (pc' := 298) (ls' := [some (.ref 24), o1, o2, o3, o4, some (.int x5), some (.int x6), o7, o8, some (.int x9), some (.int x10)]) (st' := [.int x10, .ref 40, .ref 24]) (h' := mk s) 4 rfl ?_
    obtain ⟨hx, h⟩ := zif h
    refine Ev.step (pc' := 299) rfl (ald_b rfl hx) ?_
    obtain ⟨s2, hq, h⟩ := zb0_some h
    refine Ev.call (M' := mm175) (v := none) (h' := mk s2) rfl rfl rfl (Nat.le_of_ble_eq_true rfl) (k175 hq) ?_
    refine Ev.run (pc' := 304) (ls' := [some (.ref 24), o1, o2, o3, o4, some (.int x5), some (.int x6), o7, o8, some (.int x9), some (.int x10)]) (st' := [.int x6]) (h' := mk s2) 1 rfl ?_
    refine Ev.if_eq (t := 334) rfl rfl (fun hb => ?_) (fun hb => ?_)
    · have h := (if_pos hb).symm.trans h
      refine Ev.run (pc' := 282) (ls' := [some (.ref 24), o1, o2, o3, o4, some (.int x5), some (.int x6), o7, o8, some (.int x9), some (.int (x10 + zi 1))]) (st' := []) (h' := mk s2) 2 rfl ?_
      exact hrec282 x5 x6 x9 (x10 + zi 1) s2 _ _ _ _ _ _ _ h
    · have h := (if_neg hb).symm.trans h
      refine Ev.run (pc' := 313) (ls' := [some (.ref 24), o1, o2, o3, o4, some (.int x5), some (.int x6), o7, o8, some (.int x9), some (.int x10)]) (st' := [.int (x5 - (zi 1)), .int x10]) (h' := mk s2) 4 rfl ?_
      refine Ev.icmp_ge (t := 334) rfl rfl (fun hb => ?_) (fun hb => ?_)
      · have h := (if_pos hb).symm.trans h
        refine Ev.run (pc' := 282) (ls' := [some (.ref 24), o1, o2, o3, o4, some (.int x5), some (.int x6), o7, o8, some (.int x9), some (.int (x10 + zi 1))]) (st' := []) (h' := mk s2) 2 rfl ?_
        exact hrec282 x5 x6 x9 (x10 + zi 1) s2 _ _ _ _ _ _ _ h
      · have h := (if_neg hb).symm.trans h
        refine Ev.run (pc' := 325) (ls' := [some (.ref 24), o1, o2, o3, o4, some (.int x5), some (.int x6), o7, o8, some (.int x9), some (.int x10)]) (st' := [.int (zrem ((x5 - (zi 1)) - x10) (zi 3))]) (h' := mk s2) 7 rfl ?_
        refine Ev.if_ne (t := 334) rfl rfl (fun hb => ?_) (fun hb => ?_)
        · have h := (if_pos hb).symm.trans h
          refine Ev.run (pc' := 282) (ls' := [some (.ref 24), o1, o2, o3, o4, some (.int x5), some (.int x6), o7, o8, some (.int x9), some (.int (x10 + zi 1))]) (st' := []) (h' := mk s2) 2 rfl ?_
          exact hrec282 x5 x6 x9 (x10 + zi 1) s2 _ _ _ _ _ _ _ h
        · have h := (if_neg hb).symm.trans h
          refine Ev.run (pc' := 331) (ls' := [some (.ref 24), o1, o2, o3, o4, some (.int x5), some (.int x6), o7, o8, some (.int x9), some (.int x10)]) (st' := [.int (zi 44), .ref 24]) (h' := mk s2) 2 rfl ?_
          obtain ⟨s3, hq, h⟩ := zb0_some h
          refine Ev.call (M' := mm175) (v := none) (h' := mk s3) rfl rfl rfl (Nat.le_of_ble_eq_true rfl) (k175 hq) ?_
          refine Ev.run (pc' := 282) (ls' := [some (.ref 24), o1, o2, o3, o4, some (.int x5), some (.int x6), o7, o8, some (.int x9), some (.int (x10 + zi 1))]) (st' := []) (h' := mk s3) 2 rfl ?_
          exact hrec282 x5 x6 x9 (x10 + zi 1) s3 _ _ _ _ _ _ _ h
def f182_282  : Nat → Int32 → Int32 → Int32 → Int32 → zS → Option (zS)
  | 0, _, _, _, _, _ => none
  | n + 1, x5, x6, x9, x10, s => b182_282 (f182_282 n) x5 x6 x9 x10 s
set_option maxRecDepth 100000 in
theorem k182_282 {X : mX} {D : Nat}   (n : Nat) : ∀ (x5 : Int32) (x6 : Int32) (x9 : Int32) (x10 : Int32) (s : zS) (r : zS) (o1 : Option Value) (o2 : Option Value) (o3 : Option Value) (o4 : Option Value) (o7 : Option Value) (o8 : Option Value), f182_282  n x5 x6 x9 x10 s = some r → Ev X (D + 6) mm182 282 [some (.ref 24), o1, o2, o3, o4, some (.int x5), some (.int x6), o7, o8, some (.int x9), some (.int x10)] [] (mk s) (encV r) := by
  induction n with
  | zero => intro x5 x6 x9 x10 s r o1 o2 o3 o4 o7 o8  h; cases h
  | succ n ih => intro x5 x6 x9 x10 s r o1 o2 o3 o4 o7 o8  h; exact kb182_282  ih x5 x6 x9 x10 s r o1 o2 o3 o4 o7 o8  h
def b182_258 (rec258 : Int32 → Int32 → Int32 → Int32 → zS → Option (zS)) (x5 : Int32) (x6 : Int32) (x9 : Int32) (x10 : Int32) (s : zS) : Option (zS) := if x10 ≥ (s.1 24 16) then f182_282 zF x5 x6 x9 (zi 0) s else zb0 (f175 (zi 48) s) (fun s1 => rec258 x5 x6 x9 (x10 + zi 1) s1)
set_option maxRecDepth 100000 in
theorem kb182_258 {X : mX} {D : Nat} {rec258 : Int32 → Int32 → Int32 → Int32 → zS → Option (zS)} (hrec258 : ∀ (x5 : Int32) (x6 : Int32) (x9 : Int32) (x10 : Int32) (s : zS) (r : zS) (o1 : Option Value) (o2 : Option Value) (o3 : Option Value) (o4 : Option Value) (o7 : Option Value) (o8 : Option Value), rec258 x5 x6 x9 x10 s = some r → Ev X (D + 6) mm182 258 [some (.ref 24), o1, o2, o3, o4, some (.int x5), some (.int x6), o7, o8, some (.int x9), some (.int x10)] [] (mk s) (encV r)) (x5 : Int32) (x6 : Int32) (x9 : Int32) (x10 : Int32) (s : zS) (r : zS) (o1 : Option Value) (o2 : Option Value) (o3 : Option Value) (o4 : Option Value) (o7 : Option Value) (o8 : Option Value)  (h : b182_258 rec258 x5 x6 x9 x10 s = some r) : Ev X (D + 6) mm182 258 [some (.ref 24), o1, o2, o3, o4, some (.int x5), some (.int x6), o7, o8, some (.int x9), some (.int x10)] [] (mk s) (encV r) := by
  unfold b182_258 at h
  refine Ev.run (pc' := 264) (ls' := [some (.ref 24), o1, o2, o3, o4, some (.int x5), some (.int x6), o7, o8, some (.int x9), some (.int x10)]) (st' := [.int (s.1 24 16), .int x10]) (h' := mk s) 3 rfl ?_
  refine Ev.icmp_ge (t := 279) rfl rfl (fun hb => ?_) (fun hb => ?_)
  · have h := (if_pos hb).symm.trans h
    refine Ev.run (pc' := 282) (ls' := [some (.ref 24), o1, o2, o3, o4, some (.int x5), some (.int x6), o7, o8, some (.int x9), some (.int (zi 0))]) (st' := []) (h' := mk s) 2 rfl ?_
    exact k182_282 zF x5 x6 x9 (zi 0) s _ _ _ _ _ _ _ h
  · have h := (if_neg hb).symm.trans h
    refine Ev.run (pc' := 270) (ls' := [some (.ref 24), o1, o2, o3, o4, some (.int x5), some (.int x6), o7, o8, some (.int x9), some (.int x10)]) (st' := [.int (zi 48), .ref 24]) (h' := mk s) 2 rfl ?_
    obtain ⟨s1, hq, h⟩ := zb0_some h
    refine Ev.call (M' := mm175) (v := none) (h' := mk s1) rfl rfl rfl (Nat.le_of_ble_eq_true rfl) (k175 hq) ?_
    refine Ev.run (pc' := 258) (ls' := [some (.ref 24), o1, o2, o3, o4, some (.int x5), some (.int x6), o7, o8, some (.int x9), some (.int (x10 + zi 1))]) (st' := []) (h' := mk s1) 2 rfl ?_
    exact hrec258 x5 x6 x9 (x10 + zi 1) s1 _ _ _ _ _ _ _ h
def f182_258  : Nat → Int32 → Int32 → Int32 → Int32 → zS → Option (zS)
  | 0, _, _, _, _, _ => none
  | n + 1, x5, x6, x9, x10, s => b182_258 (f182_258 n) x5 x6 x9 x10 s
set_option maxRecDepth 100000 in
theorem k182_258 {X : mX} {D : Nat}   (n : Nat) : ∀ (x5 : Int32) (x6 : Int32) (x9 : Int32) (x10 : Int32) (s : zS) (r : zS) (o1 : Option Value) (o2 : Option Value) (o3 : Option Value) (o4 : Option Value) (o7 : Option Value) (o8 : Option Value), f182_258  n x5 x6 x9 x10 s = some r → Ev X (D + 6) mm182 258 [some (.ref 24), o1, o2, o3, o4, some (.int x5), some (.int x6), o7, o8, some (.int x9), some (.int x10)] [] (mk s) (encV r) := by
  induction n with
  | zero => intro x5 x6 x9 x10 s r o1 o2 o3 o4 o7 o8  h; cases h
  | succ n ih => intro x5 x6 x9 x10 s r o1 o2 o3 o4 o7 o8  h; exact kb182_258  ih x5 x6 x9 x10 s r o1 o2 o3 o4 o7 o8  h
def f182_240  (x3 : Int32) (x4 : Int32) (x5 : Int32) (x6 : Int32) (x7 : Int32) (x9 : Int32) (s : zS) : Option (zS) := if (r180 x4 (zi 16) s) = zi 0 then f182_282 zF x5 x6 x9 (zi 0) s else if x3 = zi 0 then f182_282 zF x5 x6 x9 (zi 0) s else f182_258 zF x5 x6 x9 x7 s
set_option maxRecDepth 100000 in
theorem k182_240 {X : mX} {D : Nat}   (x3 : Int32) (x4 : Int32) (x5 : Int32) (x6 : Int32) (x7 : Int32) (x9 : Int32) (s : zS) (r : zS) (o1 : Option Value) (o2 : Option Value) (o8 : Option Value) (o10 : Option Value)  (h : f182_240  x3 x4 x5 x6 x7 x9 s = some r) : Ev X (D + 6) mm182 240 [some (.ref 24), o1, o2, some (.int x3), some (.int x4), some (.int x5), some (.int x6), some (.int x7), o8, some (.int x9), o10] [] (mk s) (encV r) := by
  unfold f182_240 at h
  refine Ev.run (pc' := 244) (ls' := [some (.ref 24), o1, o2, some (.int x3), some (.int x4), some (.int x5), some (.int x6), some (.int x7), o8, some (.int x9), o10]) (st' := [.int (zi 16), .int x4]) (h' := mk s) 2 rfl ?_
  refine Ev.call (M' := mm180) (v := some (.int (r180 x4 (zi 16) s))) (h' := mk s) rfl rfl rfl (Nat.le_of_ble_eq_true rfl) (k180 (x0 := x4) (x1 := (zi 16)) (s := s) (v := r180 x4 (zi 16) s)  rfl) ?_
  refine Ev.if_eq (t := 279) rfl rfl (fun hb => ?_) (fun hb => ?_)
  · have h := (if_pos hb).symm.trans h
    refine Ev.run (pc' := 282) (ls' := [some (.ref 24), o1, o2, some (.int x3), some (.int x4), some (.int x5), some (.int x6), some (.int x7), o8, some (.int x9), some (.int (zi 0))]) (st' := []) (h' := mk s) 2 rfl ?_
    exact k182_282 zF x5 x6 x9 (zi 0) s _ _ _ _ _ _ _ h
  · have h := (if_neg hb).symm.trans h
    refine Ev.run (pc' := 251) (ls' := [some (.ref 24), o1, o2, some (.int x3), some (.int x4), some (.int x5), some (.int x6), some (.int x7), o8, some (.int x9), o10]) (st' := [.int x3]) (h' := mk s) 1 rfl ?_
    refine Ev.if_eq (t := 279) rfl rfl (fun hb => ?_) (fun hb => ?_)
    · have h := (if_pos hb).symm.trans h
      refine Ev.run (pc' := 282) (ls' := [some (.ref 24), o1, o2, some (.int x3), some (.int x4), some (.int x5), some (.int x6), some (.int x7), o8, some (.int x9), some (.int (zi 0))]) (st' := []) (h' := mk s) 2 rfl ?_
      exact k182_282 zF x5 x6 x9 (zi 0) s _ _ _ _ _ _ _ h
    · have h := (if_neg hb).symm.trans h
      refine Ev.run (pc' := 258) (ls' := [some (.ref 24), o1, o2, some (.int x3), some (.int x4), some (.int x5), some (.int x6), some (.int x7), o8, some (.int x9), some (.int x7)]) (st' := []) (h' := mk s) 2 rfl ?_
      exact k182_258 zF x5 x6 x9 x7 s _ _ _ _ _ _ _ h
def f182_230  (x2 : Int32) (x3 : Int32) (x4 : Int32) (x5 : Int32) (x6 : Int32) (x7 : Int32) (x9 : Int32) (s : zS) : Option (zS) := if x2 = zi 0 then f182_240 x3 x4 x5 x6 x7 x9 s else zb0 (f176 66 s) (fun s1 => f182_240 x3 x4 x5 x6 x7 x9 s1)
set_option maxRecDepth 100000 in
theorem k182_230 {X : mX} {D : Nat}   (x2 : Int32) (x3 : Int32) (x4 : Int32) (x5 : Int32) (x6 : Int32) (x7 : Int32) (x9 : Int32) (s : zS) (r : zS) (o1 : Option Value) (o8 : Option Value) (o10 : Option Value)  (h : f182_230  x2 x3 x4 x5 x6 x7 x9 s = some r) : Ev X (D + 6) mm182 230 [some (.ref 24), o1, some (.int x2), some (.int x3), some (.int x4), some (.int x5), some (.int x6), some (.int x7), o8, some (.int x9), o10] [] (mk s) (encV r) := by
  unfold f182_230 at h
  refine Ev.run (pc' := 231) (ls' := [some (.ref 24), o1, some (.int x2), some (.int x3), some (.int x4), some (.int x5), some (.int x6), some (.int x7), o8, some (.int x9), o10]) (st' := [.int x2]) (h' := mk s) 1 rfl ?_
  refine Ev.if_eq (t := 240) rfl rfl (fun hb => ?_) (fun hb => ?_)
  · have h := (if_pos hb).symm.trans h
    exact k182_240 x3 x4 x5 x6 x7 x9 s _ _ _ _ _ h
  · have h := (if_neg hb).symm.trans h
    refine Ev.run (pc' := 237) (ls' := [some (.ref 24), o1, some (.int x2), some (.int x3), some (.int x4), some (.int x5), some (.int x6), some (.int x7), o8, some (.int x9), o10]) (st' := [.ref (mRO + 3 + 2 * 66), .ref 24]) (h' := mk s) 2 rfl ?_
    obtain ⟨s1, hq, h⟩ := zb0_some h
    refine Ev.call (M' := mm176) (v := none) (h' := mk s1) rfl rfl rfl (Nat.le_of_ble_eq_true rfl) (k176 (by decide) hq) ?_
    exact k182_240 x3 x4 x5 x6 x7 x9 s1 _ _ _ _ _ h
def f182_190  (x2 : Int32) (x3 : Int32) (x4 : Int32) (x5 : Int32) (x6 : Int32) (x7 : Int32) (x9 : Int32) (y1 : Int32) (s : zS) : Option (zS) := zb0 (f175 y1 s) (fun s1 => f182_230 x2 x3 x4 x5 x6 x7 x9 s1)
set_option maxRecDepth 100000 in
theorem k182_190 {X : mX} {D : Nat}   (x2 : Int32) (x3 : Int32) (x4 : Int32) (x5 : Int32) (x6 : Int32) (x7 : Int32) (x9 : Int32) (y1 : Int32) (s : zS) (r : zS) (o1 : Option Value) (o8 : Option Value) (o10 : Option Value)  (h : f182_190  x2 x3 x4 x5 x6 x7 x9 y1 s = some r) : Ev X (D + 6) mm182 190 [some (.ref 24), o1, some (.int x2), some (.int x3), some (.int x4), some (.int x5), some (.int x6), some (.int x7), o8, some (.int x9), o10] [.int y1, .ref 24] (mk s) (encV r) := by
  unfold f182_190 at h
  obtain ⟨s1, hq, h⟩ := zb0_some h
  refine Ev.call (M' := mm175) (v := none) (h' := mk s1) rfl rfl rfl (Nat.le_of_ble_eq_true rfl) (k175 hq) ?_
  refine Ev.run (pc' := 230) (ls' := [some (.ref 24), o1, some (.int x2), some (.int x3), some (.int x4), some (.int x5), some (.int x6), some (.int x7), o8, some (.int x9), o10]) (st' := []) (h' := mk s1) 1 rfl ?_
  exact k182_230 x2 x3 x4 x5 x6 x7 x9 s1 _ _ _ _ h
def f182_173  (x1 : Int32) (x2 : Int32) (x3 : Int32) (x4 : Int32) (x5 : Int32) (x6 : Int32) (x7 : Int32) (x9 : Int32) (s : zS) : Option (zS) := if x1 = zi 0 then if (r180 x4 (zi 4) s) = zi 0 then if (r180 x4 (zi 8) s) = zi 0 then f182_230 x2 x3 x4 x5 x6 x7 x9 s else zb0 (f175 (zi 32) s) (fun s1 => f182_230 x2 x3 x4 x5 x6 x7 x9 s1) else zb0 (f175 (zi 43) s) (fun s2 => f182_230 x2 x3 x4 x5 x6 x7 x9 s2) else if x9 = zi 0 then f182_190 x2 x3 x4 x5 x6 x7 x9 (zi 45) s else f182_190 x2 x3 x4 x5 x6 x7 x9 (zi 40) s
set_option maxRecDepth 100000 in
theorem k182_173 {X : mX} {D : Nat}   (x1 : Int32) (x2 : Int32) (x3 : Int32) (x4 : Int32) (x5 : Int32) (x6 : Int32) (x7 : Int32) (x9 : Int32) (s : zS) (r : zS) (o8 : Option Value) (o10 : Option Value)  (h : f182_173  x1 x2 x3 x4 x5 x6 x7 x9 s = some r) : Ev X (D + 6) mm182 173 [some (.ref 24), some (.int x1), some (.int x2), some (.int x3), some (.int x4), some (.int x5), some (.int x6), some (.int x7), o8, some (.int x9), o10] [] (mk s) (encV r) := by
  unfold f182_173 at h
  refine Ev.run (pc' := 174) (ls' := [some (.ref 24), some (.int x1), some (.int x2), some (.int x3), some (.int x4), some (.int x5), some (.int x6), some (.int x7), o8, some (.int x9), o10]) (st' := [.int x1]) (h' := mk s) 1 rfl ?_
  refine Ev.if_eq (t := 196) rfl rfl (fun hb => ?_) (fun hb => ?_)
  · have h := (if_pos hb).symm.trans h
    refine Ev.run (pc' := 199) (ls' := [some (.ref 24), some (.int x1), some (.int x2), some (.int x3), some (.int x4), some (.int x5), some (.int x6), some (.int x7), o8, some (.int x9), o10]) (st' := [.int (zi 4), .int x4]) (h' := mk s) 2 rfl ?_
    refine Ev.call (M' := mm180) (v := some (.int (r180 x4 (zi 4) s))) (h' := mk s) rfl rfl rfl (Nat.le_of_ble_eq_true rfl) (k180 (x0 := x4) (x1 := (zi 4)) (s := s) (v := r180 x4 (zi 4) s)  rfl) ?_
    refine Ev.if_eq (t := 214) rfl rfl (fun hb => ?_) (fun hb => ?_)
    · have h := (if_pos hb).symm.trans h
      refine Ev.run (pc' := 218) (ls' := [some (.ref 24), some (.int x1), some (.int x2), some (.int x3), some (.int x4), some (.int x5), some (.int x6), some (.int x7), o8, some (.int x9), o10]) (st' := [.int (zi 8), .int x4]) (h' := mk s) 2 rfl ?_
      refine Ev.call (M' := mm180) (v := some (.int (r180 x4 (zi 8) s))) (h' := mk s) rfl rfl rfl (Nat.le_of_ble_eq_true rfl) (k180 (x0 := x4) (x1 := (zi 8)) (s := s) (v := r180 x4 (zi 8) s)  rfl) ?_
      refine Ev.if_eq (t := 230) rfl rfl (fun hb => ?_) (fun hb => ?_)
      · have h := (if_pos hb).symm.trans h
        exact k182_230 x2 x3 x4 x5 x6 x7 x9 s _ _ _ _ h
      · have h := (if_neg hb).symm.trans h
        refine Ev.run (pc' := 227) (ls' := [some (.ref 24), some (.int x1), some (.int x2), some (.int x3), some (.int x4), some (.int x5), some (.int x6), some (.int x7), o8, some (.int x9), o10]) (st' := [.int (zi 32), .ref 24]) (h' := mk s) 2 rfl ?_
        obtain ⟨s1, hq, h⟩ := zb0_some h
        refine Ev.call (M' := mm175) (v := none) (h' := mk s1) rfl rfl rfl (Nat.le_of_ble_eq_true rfl) (k175 hq) ?_
        exact k182_230 x2 x3 x4 x5 x6 x7 x9 s1 _ _ _ _ h
    · have h := (if_neg hb).symm.trans h
      refine Ev.run (pc' := 208) (ls' := [some (.ref 24), some (.int x1), some (.int x2), some (.int x3), some (.int x4), some (.int x5), some (.int x6), some (.int x7), o8, some (.int x9), o10]) (st' := [.int (zi 43), .ref 24]) (h' := mk s) 2 rfl ?_
      obtain ⟨s2, hq, h⟩ := zb0_some h
      refine Ev.call (M' := mm175) (v := none) (h' := mk s2) rfl rfl rfl (Nat.le_of_ble_eq_true rfl) (k175 hq) ?_
      refine Ev.run (pc' := 230) (ls' := [some (.ref 24), some (.int x1), some (.int x2), some (.int x3), some (.int x4), some (.int x5), some (.int x6), some (.int x7), o8, some (.int x9), o10]) (st' := []) (h' := mk s2) 1 rfl ?_
      exact k182_230 x2 x3 x4 x5 x6 x7 x9 s2 _ _ _ _ h
  · have h := (if_neg hb).symm.trans h
    refine Ev.run (pc' := 180) (ls' := [some (.ref 24), some (.int x1), some (.int x2), some (.int x3), some (.int x4), some (.int x5), some (.int x6), some (.int x7), o8, some (.int x9), o10]) (st' := [.int x9, .ref 24]) (h' := mk s) 2 rfl ?_
    refine Ev.if_eq (t := 188) rfl rfl (fun hb => ?_) (fun hb => ?_)
    · have h := (if_pos hb).symm.trans h
      refine Ev.run (pc' := 190) (ls' := [some (.ref 24), some (.int x1), some (.int x2), some (.int x3), some (.int x4), some (.int x5), some (.int x6), some (.int x7), o8, some (.int x9), o10]) (st' := [.int (zi 45), .ref 24]) (h' := mk s) 1 rfl ?_
      exact k182_190 x2 x3 x4 x5 x6 x7 x9 (zi 45) s _ _ _ _ h
    · have h := (if_neg hb).symm.trans h
      refine Ev.run (pc' := 190) (ls' := [some (.ref 24), some (.int x1), some (.int x2), some (.int x3), some (.int x4), some (.int x5), some (.int x6), some (.int x7), o8, some (.int x9), o10]) (st' := [.int (zi 40), .ref 24]) (h' := mk s) 2 rfl ?_
      exact k182_190 x2 x3 x4 x5 x6 x7 x9 (zi 40) s _ _ _ _ h
def f182_165  (x1 : Int32) (x2 : Int32) (x3 : Int32) (x4 : Int32) (x5 : Int32) (x6 : Int32) (x7 : Int32) (x9 : Int32) (s : zS) : Option (zS) := if x9 = zi 0 then f182_173 x1 x2 x3 x4 x5 x6 x7 x9 s else f182_173 x1 x2 x3 x4 x5 x6 (x7 + zi 1) x9 s
set_option maxRecDepth 100000 in
theorem k182_165 {X : mX} {D : Nat}   (x1 : Int32) (x2 : Int32) (x3 : Int32) (x4 : Int32) (x5 : Int32) (x6 : Int32) (x7 : Int32) (x9 : Int32) (s : zS) (r : zS) (o8 : Option Value) (o10 : Option Value)  (h : f182_165  x1 x2 x3 x4 x5 x6 x7 x9 s = some r) : Ev X (D + 6) mm182 165 [some (.ref 24), some (.int x1), some (.int x2), some (.int x3), some (.int x4), some (.int x5), some (.int x6), some (.int x7), o8, some (.int x9), o10] [] (mk s) (encV r) := by
  unfold f182_165 at h
  refine Ev.run (pc' := 167) (ls' := [some (.ref 24), some (.int x1), some (.int x2), some (.int x3), some (.int x4), some (.int x5), some (.int x6), some (.int x7), o8, some (.int x9), o10]) (st' := [.int x9]) (h' := mk s) 1 rfl ?_
  refine Ev.if_eq (t := 173) rfl rfl (fun hb => ?_) (fun hb => ?_)
  · have h := (if_pos hb).symm.trans h
    exact k182_173 x1 x2 x3 x4 x5 x6 x7 x9 s _ _ _ h
  · have h := (if_neg hb).symm.trans h
    refine Ev.run (pc' := 173) (ls' := [some (.ref 24), some (.int x1), some (.int x2), some (.int x3), some (.int x4), some (.int x5), some (.int x6), some (.int (x7 + zi 1)), o8, some (.int x9), o10]) (st' := []) (h' := mk s) 1 rfl ?_
    exact k182_173 x1 x2 x3 x4 x5 x6 (x7 + zi 1) x9 s _ _ _ h
def f182_155  (x1 : Int32) (x2 : Int32) (x3 : Int32) (x4 : Int32) (x5 : Int32) (x6 : Int32) (x7 : Int32) (x8 : Int32) (y0 : Int32) (s : zS) : Option (zS) := if x8 = zi 0 then f182_165 x1 x2 x3 x4 x5 x6 x7 y0 s else f182_165 x1 x2 x3 x4 x5 x6 (x7 + zi 1) y0 s
set_option maxRecDepth 100000 in
theorem k182_155 {X : mX} {D : Nat}   (x1 : Int32) (x2 : Int32) (x3 : Int32) (x4 : Int32) (x5 : Int32) (x6 : Int32) (x7 : Int32) (x8 : Int32) (y0 : Int32) (s : zS) (r : zS) (o9 : Option Value) (o10 : Option Value)  (h : f182_155  x1 x2 x3 x4 x5 x6 x7 x8 y0 s = some r) : Ev X (D + 6) mm182 155 [some (.ref 24), some (.int x1), some (.int x2), some (.int x3), some (.int x4), some (.int x5), some (.int x6), some (.int x7), some (.int x8), o9, o10] [.int y0] (mk s) (encV r) := by
  unfold f182_155 at h
  refine Ev.run (pc' := 159) (ls' := [some (.ref 24), some (.int x1), some (.int x2), some (.int x3), some (.int x4), some (.int x5), some (.int x6), some (.int x7), some (.int x8), some (.int y0), o10]) (st' := [.int x8]) (h' := mk s) 2 rfl ?_
  refine Ev.if_eq (t := 165) rfl rfl (fun hb => ?_) (fun hb => ?_)
  · have h := (if_pos hb).symm.trans h
    exact k182_165 x1 x2 x3 x4 x5 x6 x7 y0 s _ _ _ h
  · have h := (if_neg hb).symm.trans h
    refine Ev.run (pc' := 165) (ls' := [some (.ref 24), some (.int x1), some (.int x2), some (.int x3), some (.int x4), some (.int x5), some (.int x6), some (.int (x7 + zi 1)), some (.int x8), some (.int y0), o10]) (st' := []) (h' := mk s) 1 rfl ?_
    exact k182_165 x1 x2 x3 x4 x5 x6 (x7 + zi 1) y0 s _ _ _ h
def f182_134  (x1 : Int32) (x2 : Int32) (x3 : Int32) (x4 : Int32) (x5 : Int32) (x6 : Int32) (x7 : Int32) (y0 : Int32) (s : zS) : Option (zS) := if x1 = zi 0 then f182_155 x1 x2 x3 x4 x5 x6 x7 y0 (zi 0) s else if (r180 x4 (zi 64) s) = zi 0 then f182_155 x1 x2 x3 x4 x5 x6 x7 y0 (zi 0) s else f182_155 x1 x2 x3 x4 x5 x6 x7 y0 (zi 1) s
set_option maxRecDepth 100000 in
theorem k182_134 {X : mX} {D : Nat}   (x1 : Int32) (x2 : Int32) (x3 : Int32) (x4 : Int32) (x5 : Int32) (x6 : Int32) (x7 : Int32) (y0 : Int32) (s : zS) (r : zS) (o8 : Option Value) (o9 : Option Value) (o10 : Option Value)  (h : f182_134  x1 x2 x3 x4 x5 x6 x7 y0 s = some r) : Ev X (D + 6) mm182 134 [some (.ref 24), some (.int x1), some (.int x2), some (.int x3), some (.int x4), some (.int x5), some (.int x6), some (.int x7), o8, o9, o10] [.int y0] (mk s) (encV r) := by
  unfold f182_134 at h
  refine Ev.run (pc' := 137) (ls' := [some (.ref 24), some (.int x1), some (.int x2), some (.int x3), some (.int x4), some (.int x5), some (.int x6), some (.int x7), some (.int y0), o9, o10]) (st' := [.int x1]) (h' := mk s) 2 rfl ?_
  refine Ev.if_eq (t := 154) rfl rfl (fun hb => ?_) (fun hb => ?_)
  · have h := (if_pos hb).symm.trans h
    refine Ev.run (pc' := 155) (ls' := [some (.ref 24), some (.int x1), some (.int x2), some (.int x3), some (.int x4), some (.int x5), some (.int x6), some (.int x7), some (.int y0), o9, o10]) (st' := [.int (zi 0)]) (h' := mk s) 1 rfl ?_
    exact k182_155 x1 x2 x3 x4 x5 x6 x7 y0 (zi 0) s _ _ _ h
  · have h := (if_neg hb).symm.trans h
    refine Ev.run (pc' := 144) (ls' := [some (.ref 24), some (.int x1), some (.int x2), some (.int x3), some (.int x4), some (.int x5), some (.int x6), some (.int x7), some (.int y0), o9, o10]) (st' := [.int (zi 64), .int x4]) (h' := mk s) 2 rfl ?_
    refine Ev.call (M' := mm180) (v := some (.int (r180 x4 (zi 64) s))) (h' := mk s) rfl rfl rfl (Nat.le_of_ble_eq_true rfl) (k180 (x0 := x4) (x1 := (zi 64)) (s := s) (v := r180 x4 (zi 64) s)  rfl) ?_
    refine Ev.if_eq (t := 154) rfl rfl (fun hb => ?_) (fun hb => ?_)
    · have h := (if_pos hb).symm.trans h
      refine Ev.run (pc' := 155) (ls' := [some (.ref 24), some (.int x1), some (.int x2), some (.int x3), some (.int x4), some (.int x5), some (.int x6), some (.int x7), some (.int y0), o9, o10]) (st' := [.int (zi 0)]) (h' := mk s) 1 rfl ?_
      exact k182_155 x1 x2 x3 x4 x5 x6 x7 y0 (zi 0) s _ _ _ h
    · have h := (if_neg hb).symm.trans h
      refine Ev.run (pc' := 155) (ls' := [some (.ref 24), some (.int x1), some (.int x2), some (.int x3), some (.int x4), some (.int x5), some (.int x6), some (.int x7), some (.int y0), o9, o10]) (st' := [.int (zi 1)]) (h' := mk s) 2 rfl ?_
      exact k182_155 x1 x2 x3 x4 x5 x6 x7 y0 (zi 1) s _ _ _ h
def f182_103  (x1 : Int32) (x2 : Int32) (x3 : Int32) (x4 : Int32) (x5 : Int32) (x6 : Int32) (y0 : Int32) (y1 : Int32) (s : zS) : Option (zS) := if ¬ x1 = zi 0 then f182_134 x1 x2 x3 x4 x5 x6 (y0 + y1) (zi 1) s else if ¬ (r180 x4 (zi 4) s) = zi 0 then f182_134 x1 x2 x3 x4 x5 x6 (y0 + y1) (zi 1) s else if (r180 x4 (zi 8) s) = zi 0 then f182_134 x1 x2 x3 x4 x5 x6 (y0 + y1) (zi 0) s else f182_134 x1 x2 x3 x4 x5 x6 (y0 + y1) (zi 1) s
set_option maxRecDepth 100000 in
theorem k182_103 {X : mX} {D : Nat}   (x1 : Int32) (x2 : Int32) (x3 : Int32) (x4 : Int32) (x5 : Int32) (x6 : Int32) (y0 : Int32) (y1 : Int32) (s : zS) (r : zS) (o7 : Option Value) (o8 : Option Value) (o9 : Option Value) (o10 : Option Value)  (h : f182_103  x1 x2 x3 x4 x5 x6 y0 y1 s = some r) : Ev X (D + 6) mm182 103 [some (.ref 24), some (.int x1), some (.int x2), some (.int x3), some (.int x4), some (.int x5), some (.int x6), o7, o8, o9, o10] [.int y1, .int y0] (mk s) (encV r) := by
  unfold f182_103 at h
  refine Ev.run (pc' := 107) (ls' := [some (.ref 24), some (.int x1), some (.int x2), some (.int x3), some (.int x4), some (.int x5), some (.int x6), some (.int (y0 + y1)), o8, o9, o10]) (st' := [.int x1]) (h' := mk s) 3 rfl ?_
  refine Ev.if_ne (t := 129) rfl rfl (fun hb => ?_) (fun hb => ?_)
  · have h := (if_pos hb).symm.trans h
    refine Ev.run (pc' := 134) (ls' := [some (.ref 24), some (.int x1), some (.int x2), some (.int x3), some (.int x4), some (.int x5), some (.int x6), some (.int (y0 + y1)), o8, o9, o10]) (st' := [.int (zi 1)]) (h' := mk s) 2 rfl ?_
    exact k182_134 x1 x2 x3 x4 x5 x6 (y0 + y1) (zi 1) s _ _ _ _ h
  · have h := (if_neg hb).symm.trans h
    refine Ev.run (pc' := 113) (ls' := [some (.ref 24), some (.int x1), some (.int x2), some (.int x3), some (.int x4), some (.int x5), some (.int x6), some (.int (y0 + y1)), o8, o9, o10]) (st' := [.int (zi 4), .int x4]) (h' := mk s) 2 rfl ?_
    refine Ev.call (M' := mm180) (v := some (.int (r180 x4 (zi 4) s))) (h' := mk s) rfl rfl rfl (Nat.le_of_ble_eq_true rfl) (k180 (x0 := x4) (x1 := (zi 4)) (s := s) (v := r180 x4 (zi 4) s)  rfl) ?_
    refine Ev.if_ne (t := 129) rfl rfl (fun hb => ?_) (fun hb => ?_)
    · have h := (if_pos hb).symm.trans h
      refine Ev.run (pc' := 134) (ls' := [some (.ref 24), some (.int x1), some (.int x2), some (.int x3), some (.int x4), some (.int x5), some (.int x6), some (.int (y0 + y1)), o8, o9, o10]) (st' := [.int (zi 1)]) (h' := mk s) 2 rfl ?_
      exact k182_134 x1 x2 x3 x4 x5 x6 (y0 + y1) (zi 1) s _ _ _ _ h
    · have h := (if_neg hb).symm.trans h
      refine Ev.run (pc' := 123) (ls' := [some (.ref 24), some (.int x1), some (.int x2), some (.int x3), some (.int x4), some (.int x5), some (.int x6), some (.int (y0 + y1)), o8, o9, o10]) (st' := [.int (zi 8), .int x4]) (h' := mk s) 2 rfl ?_
      refine Ev.call (M' := mm180) (v := some (.int (r180 x4 (zi 8) s))) (h' := mk s) rfl rfl rfl (Nat.le_of_ble_eq_true rfl) (k180 (x0 := x4) (x1 := (zi 8)) (s := s) (v := r180 x4 (zi 8) s)  rfl) ?_
      refine Ev.if_eq (t := 133) rfl rfl (fun hb => ?_) (fun hb => ?_)
      · have h := (if_pos hb).symm.trans h
        refine Ev.run (pc' := 134) (ls' := [some (.ref 24), some (.int x1), some (.int x2), some (.int x3), some (.int x4), some (.int x5), some (.int x6), some (.int (y0 + y1)), o8, o9, o10]) (st' := [.int (zi 0)]) (h' := mk s) 1 rfl ?_
        exact k182_134 x1 x2 x3 x4 x5 x6 (y0 + y1) (zi 0) s _ _ _ _ h
      · have h := (if_neg hb).symm.trans h
        refine Ev.run (pc' := 134) (ls' := [some (.ref 24), some (.int x1), some (.int x2), some (.int x3), some (.int x4), some (.int x5), some (.int x6), some (.int (y0 + y1)), o8, o9, o10]) (st' := [.int (zi 1)]) (h' := mk s) 2 rfl ?_
        exact k182_134 x1 x2 x3 x4 x5 x6 (y0 + y1) (zi 1) s _ _ _ _ h
def f182_93  (x1 : Int32) (x2 : Int32) (x3 : Int32) (x4 : Int32) (x5 : Int32) (x6 : Int32) (y0 : Int32) (y1 : Int32) (s : zS) : Option (zS) := if x2 = zi 0 then f182_103 x1 x2 x3 x4 x5 x6 (y0 + y1) (zi 0) s else f182_103 x1 x2 x3 x4 x5 x6 (y0 + y1) (zi 2) s
set_option maxRecDepth 100000 in
theorem k182_93 {X : mX} {D : Nat}   (x1 : Int32) (x2 : Int32) (x3 : Int32) (x4 : Int32) (x5 : Int32) (x6 : Int32) (y0 : Int32) (y1 : Int32) (s : zS) (r : zS) (o7 : Option Value) (o8 : Option Value) (o9 : Option Value) (o10 : Option Value)  (h : f182_93  x1 x2 x3 x4 x5 x6 y0 y1 s = some r) : Ev X (D + 6) mm182 93 [some (.ref 24), some (.int x1), some (.int x2), some (.int x3), some (.int x4), some (.int x5), some (.int x6), o7, o8, o9, o10] [.int y1, .int y0] (mk s) (encV r) := by
  unfold f182_93 at h
  refine Ev.run (pc' := 95) (ls' := [some (.ref 24), some (.int x1), some (.int x2), some (.int x3), some (.int x4), some (.int x5), some (.int x6), o7, o8, o9, o10]) (st' := [.int x2, .int (y0 + y1)]) (h' := mk s) 2 rfl ?_
  refine Ev.if_eq (t := 102) rfl rfl (fun hb => ?_) (fun hb => ?_)
  · have h := (if_pos hb).symm.trans h
    refine Ev.run (pc' := 103) (ls' := [some (.ref 24), some (.int x1), some (.int x2), some (.int x3), some (.int x4), some (.int x5), some (.int x6), o7, o8, o9, o10]) (st' := [.int (zi 0), .int (y0 + y1)]) (h' := mk s) 1 rfl ?_
    exact k182_103 x1 x2 x3 x4 x5 x6 (y0 + y1) (zi 0) s _ _ _ _ _ h
  · have h := (if_neg hb).symm.trans h
    refine Ev.run (pc' := 103) (ls' := [some (.ref 24), some (.int x1), some (.int x2), some (.int x3), some (.int x4), some (.int x5), some (.int x6), o7, o8, o9, o10]) (st' := [.int (zi 2), .int (y0 + y1)]) (h' := mk s) 2 rfl ?_
    exact k182_103 x1 x2 x3 x4 x5 x6 (y0 + y1) (zi 2) s _ _ _ _ _ h
def f182_67  (x1 : Int32) (x2 : Int32) (x3 : Int32) (x4 : Int32) (x5 : Int32) (y0 : Int32) (s : zS) : Option (zS) := if y0 = zi 0 then f182_93 x1 x2 x3 x4 x5 y0 (s.1 24 33) (zi 0) s else if x5 ≤ zi 0 then f182_93 x1 x2 x3 x4 x5 y0 (s.1 24 33) (zi 0) s else f182_93 x1 x2 x3 x4 x5 y0 (s.1 24 33) ((x5 - (zi 1)) / (zi 3)) s
set_option maxRecDepth 100000 in
theorem k182_67 {X : mX} {D : Nat}   (x1 : Int32) (x2 : Int32) (x3 : Int32) (x4 : Int32) (x5 : Int32) (y0 : Int32) (s : zS) (r : zS) (o6 : Option Value) (o7 : Option Value) (o8 : Option Value) (o9 : Option Value) (o10 : Option Value)  (h : f182_67  x1 x2 x3 x4 x5 y0 s = some r) : Ev X (D + 6) mm182 67 [some (.ref 24), some (.int x1), some (.int x2), some (.int x3), some (.int x4), some (.int x5), o6, o7, o8, o9, o10] [.int y0] (mk s) (encV r) := by
  unfold f182_67 at h
  refine Ev.run (pc' := 75) (ls' := [some (.ref 24), some (.int x1), some (.int x2), some (.int x3), some (.int x4), some (.int x5), some (.int y0), o7, o8, o9, o10]) (st' := [.int y0, .int (s.1 24 33)]) (h' := mk s) 4 rfl ?_
  refine Ev.if_eq (t := 92) rfl rfl (fun hb => ?_) (fun hb => ?_)
  · have h := (if_pos hb).symm.trans h
    refine Ev.run (pc' := 93) (ls' := [some (.ref 24), some (.int x1), some (.int x2), some (.int x3), some (.int x4), some (.int x5), some (.int y0), o7, o8, o9, o10]) (st' := [.int (zi 0), .int (s.1 24 33)]) (h' := mk s) 1 rfl ?_
    exact k182_93 x1 x2 x3 x4 x5 y0 (s.1 24 33) (zi 0) s _ _ _ _ _ h
  · have h := (if_neg hb).symm.trans h
    refine Ev.run (pc' := 80) (ls' := [some (.ref 24), some (.int x1), some (.int x2), some (.int x3), some (.int x4), some (.int x5), some (.int y0), o7, o8, o9, o10]) (st' := [.int x5, .int (s.1 24 33)]) (h' := mk s) 1 rfl ?_
    refine Ev.if_le (t := 92) rfl rfl (fun hb => ?_) (fun hb => ?_)
    · have h := (if_pos hb).symm.trans h
      refine Ev.run (pc' := 93) (ls' := [some (.ref 24), some (.int x1), some (.int x2), some (.int x3), some (.int x4), some (.int x5), some (.int y0), o7, o8, o9, o10]) (st' := [.int (zi 0), .int (s.1 24 33)]) (h' := mk s) 1 rfl ?_
      exact k182_93 x1 x2 x3 x4 x5 y0 (s.1 24 33) (zi 0) s _ _ _ _ _ h
    · have h := (if_neg hb).symm.trans h
      refine Ev.run (pc' := 93) (ls' := [some (.ref 24), some (.int x1), some (.int x2), some (.int x3), some (.int x4), some (.int x5), some (.int y0), o7, o8, o9, o10]) (st' := [.int ((x5 - (zi 1)) / (zi 3)), .int (s.1 24 33)]) (h' := mk s) 6 rfl ?_
      exact k182_93 x1 x2 x3 x4 x5 y0 (s.1 24 33) ((x5 - (zi 1)) / (zi 3)) s _ _ _ _ _ h
def f182_48  (x1 : Int32) (x2 : Int32) (x3 : Int32) (x4 : Int32) (x5 : Int32) (s : zS) : Option (zS) := if (r180 x4 (zi 32) s) = zi 0 then f182_67 x1 x2 x3 x4 x5 (zi 0) s else if x3 = zi 0 then f182_67 x1 x2 x3 x4 x5 (zi 0) s else f182_67 x1 x2 x3 x4 x5 (zi 1) s
set_option maxRecDepth 100000 in
theorem k182_48 {X : mX} {D : Nat}   (x1 : Int32) (x2 : Int32) (x3 : Int32) (x4 : Int32) (x5 : Int32) (s : zS) (r : zS) (o6 : Option Value) (o7 : Option Value) (o8 : Option Value) (o9 : Option Value) (o10 : Option Value)  (h : f182_48  x1 x2 x3 x4 x5 s = some r) : Ev X (D + 6) mm182 48 [some (.ref 24), some (.int x1), some (.int x2), some (.int x3), some (.int x4), some (.int x5), o6, o7, o8, o9, o10] [] (mk s) (encV r) := by
  unfold f182_48 at h
  refine Ev.run (pc' := 52) (ls' := [some (.ref 24), some (.int x1), some (.int x2), some (.int x3), some (.int x4), some (.int x5), o6, o7, o8, o9, o10]) (st' := [.int (zi 32), .int x4]) (h' := mk s) 2 rfl ?_
  refine Ev.call (M' := mm180) (v := some (.int (r180 x4 (zi 32) s))) (h' := mk s) rfl rfl rfl (Nat.le_of_ble_eq_true rfl) (k180 (x0 := x4) (x1 := (zi 32)) (s := s) (v := r180 x4 (zi 32) s)  rfl) ?_
  refine Ev.if_eq (t := 66) rfl rfl (fun hb => ?_) (fun hb => ?_)
  · have h := (if_pos hb).symm.trans h
    refine Ev.run (pc' := 67) (ls' := [some (.ref 24), some (.int x1), some (.int x2), some (.int x3), some (.int x4), some (.int x5), o6, o7, o8, o9, o10]) (st' := [.int (zi 0)]) (h' := mk s) 1 rfl ?_
    exact k182_67 x1 x2 x3 x4 x5 (zi 0) s _ _ _ _ _ _ h
  · have h := (if_neg hb).symm.trans h
    refine Ev.run (pc' := 59) (ls' := [some (.ref 24), some (.int x1), some (.int x2), some (.int x3), some (.int x4), some (.int x5), o6, o7, o8, o9, o10]) (st' := [.int x3]) (h' := mk s) 1 rfl ?_
    refine Ev.if_eq (t := 66) rfl rfl (fun hb => ?_) (fun hb => ?_)
    · have h := (if_pos hb).symm.trans h
      refine Ev.run (pc' := 67) (ls' := [some (.ref 24), some (.int x1), some (.int x2), some (.int x3), some (.int x4), some (.int x5), o6, o7, o8, o9, o10]) (st' := [.int (zi 0)]) (h' := mk s) 1 rfl ?_
      exact k182_67 x1 x2 x3 x4 x5 (zi 0) s _ _ _ _ _ _ h
    · have h := (if_neg hb).symm.trans h
      refine Ev.run (pc' := 67) (ls' := [some (.ref 24), some (.int x1), some (.int x2), some (.int x3), some (.int x4), some (.int x5), o6, o7, o8, o9, o10]) (st' := [.int (zi 1)]) (h' := mk s) 2 rfl ?_
      exact k182_67 x1 x2 x3 x4 x5 (zi 1) s _ _ _ _ _ _ h
def b182_9 (rec9 : Int32 → Int32 → Int32 → Int32 → Int32 → zS → Option (zS)) (x1 : Int32) (x2 : Int32) (x3 : Int32) (x4 : Int32) (x5 : Int32) (s : zS) : Option (zS) := if x5 ≥ (s.1 24 33) then f182_48 x1 x2 x3 x4 x5 s else if mIx x5 6000 then if (s.1 40 x5.toNatClampNeg) < (zi 48) then f182_48 x1 x2 x3 x4 x5 s else if mIx x5 6000 then if (s.1 40 x5.toNatClampNeg) > (zi 57) then f182_48 x1 x2 x3 x4 x5 s else rec9 x1 x2 x3 x4 (x5 + zi 1) s else none else none
set_option maxRecDepth 100000 in
theorem kb182_9 {X : mX} {D : Nat} {rec9 : Int32 → Int32 → Int32 → Int32 → Int32 → zS → Option (zS)} (hrec9 : ∀ (x1 : Int32) (x2 : Int32) (x3 : Int32) (x4 : Int32) (x5 : Int32) (s : zS) (r : zS) (o6 : Option Value) (o7 : Option Value) (o8 : Option Value) (o9 : Option Value) (o10 : Option Value), rec9 x1 x2 x3 x4 x5 s = some r → Ev X (D + 6) mm182 9 [some (.ref 24), some (.int x1), some (.int x2), some (.int x3), some (.int x4), some (.int x5), o6, o7, o8, o9, o10] [] (mk s) (encV r)) (x1 : Int32) (x2 : Int32) (x3 : Int32) (x4 : Int32) (x5 : Int32) (s : zS) (r : zS) (o6 : Option Value) (o7 : Option Value) (o8 : Option Value) (o9 : Option Value) (o10 : Option Value)  (h : b182_9 rec9 x1 x2 x3 x4 x5 s = some r) : Ev X (D + 6) mm182 9 [some (.ref 24), some (.int x1), some (.int x2), some (.int x3), some (.int x4), some (.int x5), o6, o7, o8, o9, o10] [] (mk s) (encV r) := by
  unfold b182_9 at h
  refine Ev.run (pc' := 15) (ls' := [some (.ref 24), some (.int x1), some (.int x2), some (.int x3), some (.int x4), some (.int x5), o6, o7, o8, o9, o10]) (st' := [.int (s.1 24 33), .int x5]) (h' := mk s) 3 rfl ?_
  refine Ev.icmp_ge (t := 48) rfl rfl (fun hb => ?_) (fun hb => ?_)
  · have h := (if_pos hb).symm.trans h
    exact k182_48 x1 x2 x3 x4 x5 s _ _ _ _ _ _ h
  · have h := (if_neg hb).symm.trans h
    refine Ev.run (pc' := 24) (ls' := [some (.ref 24), some (.int x1), some (.int x2), some (.int x3), some (.int x4), some (.int x5), o6, o7, o8, o9, o10]) (st' := [.int x5, .ref 40]) (h' := mk s) 3 rfl ?_
    obtain ⟨hx, h⟩ := zif h
    refine Ev.step (pc' := 25) rfl (ald_b rfl hx) ?_
    refine Ev.run (pc' := 27) (ls' := [some (.ref 24), some (.int x1), some (.int x2), some (.int x3), some (.int x4), some (.int x5), o6, o7, o8, o9, o10]) (st' := [.int (zi 48), .int (s.1 40 x5.toNatClampNeg)]) (h' := mk s) 1 rfl ?_
    refine Ev.icmp_lt (t := 48) rfl rfl (fun hb => ?_) (fun hb => ?_)
    · have h := (if_pos hb).symm.trans h
      exact k182_48 x1 x2 x3 x4 x5 s _ _ _ _ _ _ h
    · have h := (if_neg hb).symm.trans h
      refine Ev.run (pc' := 36) (ls' := [some (.ref 24), some (.int x1), some (.int x2), some (.int x3), some (.int x4), some (.int x5), o6, o7, o8, o9, o10]) (st' := [.int x5, .ref 40]) (h' := mk s) 3 rfl ?_
      obtain ⟨hx, h⟩ := zif h
      refine Ev.step (pc' := 37) rfl (ald_b rfl hx) ?_
      refine Ev.run (pc' := 39) (ls' := [some (.ref 24), some (.int x1), some (.int x2), some (.int x3), some (.int x4), some (.int x5), o6, o7, o8, o9, o10]) (st' := [.int (zi 57), .int (s.1 40 x5.toNatClampNeg)]) (h' := mk s) 1 rfl ?_
      refine Ev.icmp_gt (t := 48) rfl rfl (fun hb => ?_) (fun hb => ?_)
      · have h := (if_pos hb).symm.trans h
        exact k182_48 x1 x2 x3 x4 x5 s _ _ _ _ _ _ h
      · have h := (if_neg hb).symm.trans h
        refine Ev.run (pc' := 9) (ls' := [some (.ref 24), some (.int x1), some (.int x2), some (.int x3), some (.int x4), some (.int (x5 + zi 1)), o6, o7, o8, o9, o10]) (st' := []) (h' := mk s) 2 rfl ?_
        exact hrec9 x1 x2 x3 x4 (x5 + zi 1) s _ _ _ _ _ _ h
def f182_9  : Nat → Int32 → Int32 → Int32 → Int32 → Int32 → zS → Option (zS)
  | 0, _, _, _, _, _, _ => none
  | n + 1, x1, x2, x3, x4, x5, s => b182_9 (f182_9 n) x1 x2 x3 x4 x5 s
set_option maxRecDepth 100000 in
theorem k182_9 {X : mX} {D : Nat}   (n : Nat) : ∀ (x1 : Int32) (x2 : Int32) (x3 : Int32) (x4 : Int32) (x5 : Int32) (s : zS) (r : zS) (o6 : Option Value) (o7 : Option Value) (o8 : Option Value) (o9 : Option Value) (o10 : Option Value), f182_9  n x1 x2 x3 x4 x5 s = some r → Ev X (D + 6) mm182 9 [some (.ref 24), some (.int x1), some (.int x2), some (.int x3), some (.int x4), some (.int x5), o6, o7, o8, o9, o10] [] (mk s) (encV r) := by
  induction n with
  | zero => intro x1 x2 x3 x4 x5 s r o6 o7 o8 o9 o10  h; cases h
  | succ n ih => intro x1 x2 x3 x4 x5 s r o6 o7 o8 o9 o10  h; exact kb182_9  ih x1 x2 x3 x4 x5 s r o6 o7 o8 o9 o10  h
def f182  (x1 : Int32) (x2 : Int32) (x3 : Int32) (s : zS) : Option (zS) := f182_9 zF x1 x2 x3 (s.1 24 15) (zi 0) s
set_option maxRecDepth 100000 in
theorem k182 {X : mX} {D : Nat} {x1 : Int32} {x2 : Int32} {x3 : Int32} {s : zS} {r : zS}  (h : f182 x1 x2 x3 s = some r) : Ev X (D + 6) mm182 0 [some (.ref 24), some (.int x1), some (.int x2), some (.int x3), none, none, none, none, none, none, none] [] (mk s) (encV r) := by
  unfold f182 at h
  refine Ev.run (pc' := 9) (ls' := [some (.ref 24), some (.int x1), some (.int x2), some (.int x3), some (.int (s.1 24 15)), some (.int (zi 0)), none, none, none, none, none]) (st' := []) (h' := mk s) 5 rfl ?_
  exact k182_9 zF x1 x2 x3 (s.1 24 15) (zi 0) s _ _ _ _ _ _ h
/-! 183 FModel.whole(I)V -/
def f183_318  (y1 : Int32) (y2 : Int32) (s : zS) : Option (zS) := zb0 (f182 y1 y2 (zi 1) s) (fun s1 => some s1)
set_option maxRecDepth 100000 in
theorem k183_318 {X : mX} {D : Nat}   (y1 : Int32) (y2 : Int32) (s : zS) (r : zS) (o0 : Option Value) (o1 : Option Value) (o2 : Option Value) (o3 : Option Value) (o4 : Option Value) (o5 : Option Value) (o6 : Option Value) (o7 : Option Value) (o8 : Option Value) (o9 : Option Value) (o10 : Option Value)  (h : f183_318  y1 y2 s = some r) : Ev X (D + 7) mm183 318 [o0, o1, o2, o3, o4, o5, o6, o7, o8, o9, o10] [.int y2, .int y1, .ref 24] (mk s) (encV r) := by
  unfold f183_318 at h
  refine Ev.run (pc' := 319) (ls' := [o0, o1, o2, o3, o4, o5, o6, o7, o8, o9, o10]) (st' := [.int (zi 1), .int y2, .int y1, .ref 24]) (h' := mk s) 1 rfl ?_
  obtain ⟨s1, hq, h⟩ := zb0_some h
  refine Ev.call (M' := mm182) (v := none) (h' := mk s1) rfl rfl rfl (Nat.le_of_ble_eq_true rfl) (k182 hq) ?_
  first | (obtain rfl := Option.some.inj h) | (cases h)
  exact Ev.fin rfl rfl
def f183_281 (rec238 : Int32 → Int64 → Int32 → Int32 → Int32 → zS → Option (zS)) (x1 : Int32) (x3 : Int64) (x6 : Int32) (x7 : Int32) (x8 : Int32) (y1 : Int32) (s : zS) : Option (zS) := zb0 (f181 y1 s) (fun s1 => rec238 x1 x3 x6 x7 (x8 - x6) s1)
set_option maxRecDepth 100000 in
theorem k183_281 {X : mX} {D : Nat} {rec238 : Int32 → Int64 → Int32 → Int32 → Int32 → zS → Option (zS)} (hrec238 : ∀ (x1 : Int32) (x3 : Int64) (x6 : Int32) (x7 : Int32) (x8 : Int32) (s : zS) (r : zS) (o2 : Option Value) (o5 : Option Value) (o9 : Option Value) (o10 : Option Value), rec238 x1 x3 x6 x7 x8 s = some r → Ev X (D + 7) mm183 238 [some (.ref 24), some (.int x1), o2, some (.long x3), none, o5, some (.int x6), some (.int x7), some (.int x8), o9, o10] [] (mk s) (encV r)) (x1 : Int32) (x3 : Int64) (x6 : Int32) (x7 : Int32) (x8 : Int32) (y1 : Int32) (s : zS) (r : zS) (o2 : Option Value) (o5 : Option Value) (o9 : Option Value) (o10 : Option Value)  (h : f183_281 rec238 x1 x3 x6 x7 x8 y1 s = some r) : Ev X (D + 7) mm183 281 [some (.ref 24), some (.int x1), o2, some (.long x3), none, o5, some (.int x6), some (.int x7), some (.int x8), o9, o10] [.int y1, .ref 24] (mk s) (encV r) := by
  unfold f183_281 at h
  obtain ⟨s1, hq, h⟩ := zb0_some h
  refine Ev.call (M' := mm181) (v := none) (h' := mk s1) rfl rfl rfl (Nat.le_of_ble_eq_true rfl) (k181 hq) ?_
  refine Ev.run (pc' := 238) (ls' := [some (.ref 24), some (.int x1), o2, some (.long x3), none, o5, some (.int x6), some (.int x7), some (.int (x8 - x6)), o9, o10]) (st' := []) (h' := mk s1) 5 rfl ?_
  exact hrec238 x1 x3 x6 x7 (x8 - x6) s1 _ _ _ _ _ h
def b183_238 (rec238 : Int32 → Int64 → Int32 → Int32 → Int32 → zS → Option (zS)) (x1 : Int32) (x3 : Int64) (x6 : Int32) (x7 : Int32) (x8 : Int32) (s : zS) : Option (zS) := if x8 < zi 0 then if ¬ x1 = (zi 16) then f183_318 (zi 0) (zi 0) s else if (r180 (s.1 24 15) (zi 2) s) = zi 0 then f183_318 (zi 0) (zi 0) s else f183_318 (zi 0) (zi 1) s else if ((zL2I (zushrL x3 x8)) &&& ((zshl (zi 1) x6) - (zi 1))) ≥ (zi 10) then f183_281 rec238 x1 x3 x6 x7 x8 (((zi 97) + ((zL2I (zushrL x3 x8)) &&& ((zshl (zi 1) x6) - (zi 1)))) - (zi 10)) s else f183_281 rec238 x1 x3 x6 x7 x8 ((zi 48) + ((zL2I (zushrL x3 x8)) &&& ((zshl (zi 1) x6) - (zi 1)))) s
set_option maxRecDepth 100000 in
theorem kb183_238 {X : mX} {D : Nat} {rec238 : Int32 → Int64 → Int32 → Int32 → Int32 → zS → Option (zS)} (hrec238 : ∀ (x1 : Int32) (x3 : Int64) (x6 : Int32) (x7 : Int32) (x8 : Int32) (s : zS) (r : zS) (o2 : Option Value) (o5 : Option Value) (o9 : Option Value) (o10 : Option Value), rec238 x1 x3 x6 x7 x8 s = some r → Ev X (D + 7) mm183 238 [some (.ref 24), some (.int x1), o2, some (.long x3), none, o5, some (.int x6), some (.int x7), some (.int x8), o9, o10] [] (mk s) (encV r)) (x1 : Int32) (x3 : Int64) (x6 : Int32) (x7 : Int32) (x8 : Int32) (s : zS) (r : zS) (o2 : Option Value) (o5 : Option Value) (o9 : Option Value) (o10 : Option Value)  (h : b183_238 rec238 x1 x3 x6 x7 x8 s = some r) : Ev X (D + 7) mm183 238 [some (.ref 24), some (.int x1), o2, some (.long x3), none, o5, some (.int x6), some (.int x7), some (.int x8), o9, o10] [] (mk s) (encV r) := by
  unfold b183_238 at h
  refine Ev.run (pc' := 240) (ls' := [some (.ref 24), some (.int x1), o2, some (.long x3), none, o5, some (.int x6), some (.int x7), some (.int x8), o9, o10]) (st' := [.int x8]) (h' := mk s) 1 rfl ?_
  refine Ev.if_lt (t := 294) rfl rfl (fun hb => ?_) (fun hb => ?_)
  · have h := (if_pos hb).symm.trans h
    refine Ev.run (pc' := 299) (ls' := [some (.ref 24), some (.int x1), o2, some (.long x3), none, o5, some (.int x6), some (.int x7), some (.int x8), o9, o10]) (st' := [.int (zi 16), .int x1, .int (zi 0), .ref 24]) (h' := mk s) 4 rfl ?_
    refine Ev.icmp_ne (t := 317) rfl rfl (fun hb => ?_) (fun hb => ?_)
    · have h := (if_pos hb).symm.trans h
      refine Ev.run (pc' := 318) (ls' := [some (.ref 24), some (.int x1), o2, some (.long x3), none, o5, some (.int x6), some (.int x7), some (.int x8), o9, o10]) (st' := [.int (zi 0), .int (zi 0), .ref 24]) (h' := mk s) 1 rfl ?_
      exact k183_318 (zi 0) (zi 0) s _ _ _ _ _ _ _ _ _ _ _ _ h
    · have h := (if_neg hb).symm.trans h
      refine Ev.run (pc' := 307) (ls' := [some (.ref 24), some (.int x1), o2, some (.long x3), none, o5, some (.int x6), some (.int x7), some (.int x8), o9, o10]) (st' := [.int (zi 2), .int (s.1 24 15), .int (zi 0), .ref 24]) (h' := mk s) 3 rfl ?_
      refine Ev.call (M' := mm180) (v := some (.int (r180 (s.1 24 15) (zi 2) s))) (h' := mk s) rfl rfl rfl (Nat.le_of_ble_eq_true rfl) (k180 (x0 := (s.1 24 15)) (x1 := (zi 2)) (s := s) (v := r180 (s.1 24 15) (zi 2) s)  rfl) ?_
      refine Ev.if_eq (t := 317) rfl rfl (fun hb => ?_) (fun hb => ?_)
      · have h := (if_pos hb).symm.trans h
        refine Ev.run (pc' := 318) (ls' := [some (.ref 24), some (.int x1), o2, some (.long x3), none, o5, some (.int x6), some (.int x7), some (.int x8), o9, o10]) (st' := [.int (zi 0), .int (zi 0), .ref 24]) (h' := mk s) 1 rfl ?_
        exact k183_318 (zi 0) (zi 0) s _ _ _ _ _ _ _ _ _ _ _ _ h
      · have h := (if_neg hb).symm.trans h
        refine Ev.run (pc' := 318) (ls' := [some (.ref 24), some (.int x1), o2, some (.long x3), none, o5, some (.int x6), some (.int x7), some (.int x8), o9, o10]) (st' := [.int (zi 1), .int (zi 0), .ref 24]) (h' := mk s) 2 rfl ?_
        exact k183_318 (zi 0) (zi 1) s _ _ _ _ _ _ _ _ _ _ _ _ h
  · have h := (if_neg hb).symm.trans h
    refine Ev.run (pc' := 262) (ls' := [some (.ref 24), some (.int x1), o2, some (.long x3), none, o5, some (.int x6), some (.int x7), some (.int x8), some (.int ((zL2I (zushrL x3 x8)) &&& ((zshl (zi 1) x6) - (zi 1)))), o10]) (st' := [.int (zi 10), .int ((zL2I (zushrL x3 x8)) &&& ((zshl (zi 1) x6) - (zi 1))), .ref 24]) (h' := mk s) 14 rfl ?_
    refine Ev.icmp_ge (t := 273) rfl rfl (fun hb => ?_) (fun hb => ?_)
    · have h := (if_pos hb).symm.trans h
      refine Ev.run (pc' := 281) (ls' := [some (.ref 24), some (.int x1), o2, some (.long x3), none, o5, some (.int x6), some (.int x7), some (.int x8), some (.int ((zL2I (zushrL x3 x8)) &&& ((zshl (zi 1) x6) - (zi 1)))), o10]) (st' := [.int (((zi 97) + ((zL2I (zushrL x3 x8)) &&& ((zshl (zi 1) x6) - (zi 1)))) - (zi 10)), .ref 24]) (h' := mk s) 5 rfl ?_
      exact k183_281 hrec238 x1 x3 x6 x7 x8 (((zi 97) + ((zL2I (zushrL x3 x8)) &&& ((zshl (zi 1) x6) - (zi 1)))) - (zi 10)) s _ _ _ _ _ h
    · have h := (if_neg hb).symm.trans h
      refine Ev.run (pc' := 281) (ls' := [some (.ref 24), some (.int x1), o2, some (.long x3), none, o5, some (.int x6), some (.int x7), some (.int x8), some (.int ((zL2I (zushrL x3 x8)) &&& ((zshl (zi 1) x6) - (zi 1)))), o10]) (st' := [.int ((zi 48) + ((zL2I (zushrL x3 x8)) &&& ((zshl (zi 1) x6) - (zi 1)))), .ref 24]) (h' := mk s) 4 rfl ?_
      exact k183_281 hrec238 x1 x3 x6 x7 x8 ((zi 48) + ((zL2I (zushrL x3 x8)) &&& ((zshl (zi 1) x6) - (zi 1)))) s _ _ _ _ _ h
def f183_238  : Nat → Int32 → Int64 → Int32 → Int32 → Int32 → zS → Option (zS)
  | 0, _, _, _, _, _, _ => none
  | n + 1, x1, x3, x6, x7, x8, s => b183_238 (f183_238 n) x1 x3 x6 x7 x8 s
set_option maxRecDepth 100000 in
theorem k183_238 {X : mX} {D : Nat}   (n : Nat) : ∀ (x1 : Int32) (x3 : Int64) (x6 : Int32) (x7 : Int32) (x8 : Int32) (s : zS) (r : zS) (o2 : Option Value) (o5 : Option Value) (o9 : Option Value) (o10 : Option Value), f183_238  n x1 x3 x6 x7 x8 s = some r → Ev X (D + 7) mm183 238 [some (.ref 24), some (.int x1), o2, some (.long x3), none, o5, some (.int x6), some (.int x7), some (.int x8), o9, o10] [] (mk s) (encV r) := by
  induction n with
  | zero => intro x1 x3 x6 x7 x8 s r o2 o5 o9 o10  h; cases h
  | succ n ih => intro x1 x3 x6 x7 x8 s r o2 o5 o9 o10  h; exact kb183_238  ih x1 x3 x6 x7 x8 s r o2 o5 o9 o10  h
def b183_208 (rec208 : Int32 → Int64 → Int32 → Int32 → zS → Option (zS)) (x1 : Int32) (x3 : Int64) (x6 : Int32) (x7 : Int32) (s : zS) : Option (zS) := if x7 ≤ zi 0 then if ¬ x6 = zi 0 then f183_238 zF x1 x3 x6 x7 ((x7 / x6) * x6) s else none else if ¬ (zushrL x3 x7) = (zl 0) then if ¬ x6 = zi 0 then f183_238 zF x1 x3 x6 x7 ((x7 / x6) * x6) s else none else rec208 x1 x3 x6 (x7 + zi (-1)) s
set_option maxRecDepth 100000 in
theorem kb183_208 {X : mX} {D : Nat} {rec208 : Int32 → Int64 → Int32 → Int32 → zS → Option (zS)} (hrec208 : ∀ (x1 : Int32) (x3 : Int64) (x6 : Int32) (x7 : Int32) (s : zS) (r : zS) (o2 : Option Value) (o5 : Option Value) (o8 : Option Value) (o9 : Option Value) (o10 : Option Value), rec208 x1 x3 x6 x7 s = some r → Ev X (D + 7) mm183 208 [some (.ref 24), some (.int x1), o2, some (.long x3), none, o5, some (.int x6), some (.int x7), o8, o9, o10] [] (mk s) (encV r)) (x1 : Int32) (x3 : Int64) (x6 : Int32) (x7 : Int32) (s : zS) (r : zS) (o2 : Option Value) (o5 : Option Value) (o8 : Option Value) (o9 : Option Value) (o10 : Option Value)  (h : b183_208 rec208 x1 x3 x6 x7 s = some r) : Ev X (D + 7) mm183 208 [some (.ref 24), some (.int x1), o2, some (.long x3), none, o5, some (.int x6), some (.int x7), o8, o9, o10] [] (mk s) (encV r) := by
  unfold b183_208 at h
  refine Ev.run (pc' := 210) (ls' := [some (.ref 24), some (.int x1), o2, some (.long x3), none, o5, some (.int x6), some (.int x7), o8, o9, o10]) (st' := [.int x7]) (h' := mk s) 1 rfl ?_
  refine Ev.if_le (t := 228) rfl rfl (fun hb => ?_) (fun hb => ?_)
  · have h := (if_pos hb).symm.trans h
    refine Ev.run (pc' := 232) (ls' := [some (.ref 24), some (.int x1), o2, some (.long x3), none, o5, some (.int x6), some (.int x7), o8, o9, o10]) (st' := [.int x6, .int x7]) (h' := mk s) 2 rfl ?_
    obtain ⟨hx, h⟩ := zif h
    refine Ev.step (pc' := 233) rfl (idiv_ok hx) ?_
    refine Ev.run (pc' := 238) (ls' := [some (.ref 24), some (.int x1), o2, some (.long x3), none, o5, some (.int x6), some (.int x7), some (.int ((x7 / x6) * x6)), o9, o10]) (st' := []) (h' := mk s) 3 rfl ?_
    exact k183_238 zF x1 x3 x6 x7 ((x7 / x6) * x6) s _ _ _ _ _ h
  · have h := (if_neg hb).symm.trans h
    refine Ev.run (pc' := 219) (ls' := [some (.ref 24), some (.int x1), o2, some (.long x3), none, o5, some (.int x6), some (.int x7), o8, o9, o10]) (st' := [.int (lg_cmp (zushrL x3 x7) (zl 0))]) (h' := mk s) 5 rfl ?_
    refine Ev.ifl_ne (t := 228) rfl rfl (fun hb => ?_) (fun hb => ?_)
    · have h := (if_pos hb).symm.trans h
      refine Ev.run (pc' := 232) (ls' := [some (.ref 24), some (.int x1), o2, some (.long x3), none, o5, some (.int x6), some (.int x7), o8, o9, o10]) (st' := [.int x6, .int x7]) (h' := mk s) 2 rfl ?_
      obtain ⟨hx, h⟩ := zif h
      refine Ev.step (pc' := 233) rfl (idiv_ok hx) ?_
      refine Ev.run (pc' := 238) (ls' := [some (.ref 24), some (.int x1), o2, some (.long x3), none, o5, some (.int x6), some (.int x7), some (.int ((x7 / x6) * x6)), o9, o10]) (st' := []) (h' := mk s) 3 rfl ?_
      exact k183_238 zF x1 x3 x6 x7 ((x7 / x6) * x6) s _ _ _ _ _ h
    · have h := (if_neg hb).symm.trans h
      refine Ev.run (pc' := 208) (ls' := [some (.ref 24), some (.int x1), o2, some (.long x3), none, o5, some (.int x6), some (.int (x7 + zi (-1))), o8, o9, o10]) (st' := []) (h' := mk s) 2 rfl ?_
      exact hrec208 x1 x3 x6 (x7 + zi (-1)) s _ _ _ _ _ _ h
def f183_208  : Nat → Int32 → Int64 → Int32 → Int32 → zS → Option (zS)
  | 0, _, _, _, _, _ => none
  | n + 1, x1, x3, x6, x7, s => b183_208 (f183_208 n) x1 x3 x6 x7 s
set_option maxRecDepth 100000 in
theorem k183_208 {X : mX} {D : Nat}   (n : Nat) : ∀ (x1 : Int32) (x3 : Int64) (x6 : Int32) (x7 : Int32) (s : zS) (r : zS) (o2 : Option Value) (o5 : Option Value) (o8 : Option Value) (o9 : Option Value) (o10 : Option Value), f183_208  n x1 x3 x6 x7 s = some r → Ev X (D + 7) mm183 208 [some (.ref 24), some (.int x1), o2, some (.long x3), none, o5, some (.int x6), some (.int x7), o8, o9, o10] [] (mk s) (encV r) := by
  induction n with
  | zero => intro x1 x3 x6 x7 s r o2 o5 o8 o9 o10  h; cases h
  | succ n ih => intro x1 x3 x6 x7 s r o2 o5 o8 o9 o10  h; exact kb183_208  ih x1 x3 x6 x7 s r o2 o5 o8 o9 o10  h
def f183_181  (x1 : Int32) (x3 : Int64) (x6 : Int32) (s : zS) : Option (zS) := if ¬ x1 = (zi 8) then f183_208 zF x1 x3 x6 (zi 63) s else if (r180 (s.1 24 15) (zi 2) s) = zi 0 then f183_208 zF x1 x3 x6 (zi 63) s else zb0 (f181 (zi 48) s) (fun s1 => f183_208 zF x1 x3 x6 (zi 63) s1)
set_option maxRecDepth 100000 in
theorem k183_181 {X : mX} {D : Nat}   (x1 : Int32) (x3 : Int64) (x6 : Int32) (s : zS) (r : zS) (o2 : Option Value) (o5 : Option Value) (o7 : Option Value) (o8 : Option Value) (o9 : Option Value) (o10 : Option Value)  (h : f183_181  x1 x3 x6 s = some r) : Ev X (D + 7) mm183 181 [some (.ref 24), some (.int x1), o2, some (.long x3), none, o5, some (.int x6), o7, o8, o9, o10] [] (mk s) (encV r) := by
  unfold f183_181 at h
  refine Ev.run (pc' := 184) (ls' := [some (.ref 24), some (.int x1), o2, some (.long x3), none, o5, some (.int x6), o7, o8, o9, o10]) (st' := [.int (zi 8), .int x1]) (h' := mk s) 2 rfl ?_
  refine Ev.icmp_ne (t := 204) rfl rfl (fun hb => ?_) (fun hb => ?_)
  · have h := (if_pos hb).symm.trans h
    refine Ev.run (pc' := 208) (ls' := [some (.ref 24), some (.int x1), o2, some (.long x3), none, o5, some (.int x6), some (.int (zi 63)), o8, o9, o10]) (st' := []) (h' := mk s) 2 rfl ?_
    exact k183_208 zF x1 x3 x6 (zi 63) s _ _ _ _ _ _ h
  · have h := (if_neg hb).symm.trans h
    refine Ev.run (pc' := 192) (ls' := [some (.ref 24), some (.int x1), o2, some (.long x3), none, o5, some (.int x6), o7, o8, o9, o10]) (st' := [.int (zi 2), .int (s.1 24 15)]) (h' := mk s) 3 rfl ?_
    refine Ev.call (M' := mm180) (v := some (.int (r180 (s.1 24 15) (zi 2) s))) (h' := mk s) rfl rfl rfl (Nat.le_of_ble_eq_true rfl) (k180 (x0 := (s.1 24 15)) (x1 := (zi 2)) (s := s) (v := r180 (s.1 24 15) (zi 2) s)  rfl) ?_
    refine Ev.if_eq (t := 204) rfl rfl (fun hb => ?_) (fun hb => ?_)
    · have h := (if_pos hb).symm.trans h
      refine Ev.run (pc' := 208) (ls' := [some (.ref 24), some (.int x1), o2, some (.long x3), none, o5, some (.int x6), some (.int (zi 63)), o8, o9, o10]) (st' := []) (h' := mk s) 2 rfl ?_
      exact k183_208 zF x1 x3 x6 (zi 63) s _ _ _ _ _ _ h
    · have h := (if_neg hb).symm.trans h
      refine Ev.run (pc' := 201) (ls' := [some (.ref 24), some (.int x1), o2, some (.long x3), none, o5, some (.int x6), o7, o8, o9, o10]) (st' := [.int (zi 48), .ref 24]) (h' := mk s) 2 rfl ?_
      obtain ⟨s1, hq, h⟩ := zb0_some h
      refine Ev.call (M' := mm181) (v := none) (h' := mk s1) rfl rfl rfl (Nat.le_of_ble_eq_true rfl) (k181 hq) ?_
      refine Ev.run (pc' := 208) (ls' := [some (.ref 24), some (.int x1), o2, some (.long x3), none, o5, some (.int x6), some (.int (zi 63)), o8, o9, o10]) (st' := []) (h' := mk s1) 2 rfl ?_
      exact k183_208 zF x1 x3 x6 (zi 63) s1 _ _ _ _ _ _ h
def f183_163  (x1 : Int32) (x2 : Int32) (x3 : Int64) (x5 : Int32) (y0 : Int32) (s : zS) : Option (zS) := if x5 ≥ (zi 64) then f183_181 x1 x3 y0 s else f183_181 x1 (x3 &&& ((zshlL (zl 1) x5) - (zl 1))) y0 s
set_option maxRecDepth 100000 in
theorem k183_163 {X : mX} {D : Nat}   (x1 : Int32) (x2 : Int32) (x3 : Int64) (x5 : Int32) (y0 : Int32) (s : zS) (r : zS) (o6 : Option Value) (o7 : Option Value) (o8 : Option Value) (o9 : Option Value) (o10 : Option Value)  (h : f183_163  x1 x2 x3 x5 y0 s = some r) : Ev X (D + 7) mm183 163 [some (.ref 24), some (.int x1), some (.int x2), some (.long x3), none, some (.int x5), o6, o7, o8, o9, o10] [.int y0] (mk s) (encV r) := by
  unfold f183_163 at h
  refine Ev.run (pc' := 169) (ls' := [some (.ref 24), some (.int x1), some (.int x2), some (.long x3), none, some (.int x5), some (.int y0), o7, o8, o9, o10]) (st' := [.int (zi 64), .int x5]) (h' := mk s) 3 rfl ?_
  refine Ev.icmp_ge (t := 181) rfl rfl (fun hb => ?_) (fun hb => ?_)
  · have h := (if_pos hb).symm.trans h
    exact k183_181 x1 x3 y0 s _ _ _ _ _ _ _ h
  · have h := (if_neg hb).symm.trans h
    refine Ev.run (pc' := 181) (ls' := [some (.ref 24), some (.int x1), some (.int x2), some (.long (x3 &&& ((zshlL (zl 1) x5) - (zl 1)))), none, some (.int x5), some (.int y0), o7, o8, o9, o10]) (st' := []) (h' := mk s) 8 rfl ?_
    exact k183_181 x1 (x3 &&& ((zshlL (zl 1) x5) - (zl 1))) y0 s _ _ _ _ _ _ _ h
def f183_120 (rec85 : Int32 → Int64 → Int64 → zS → Option (zS)) (x5 : Int32) (x6 : Int64) (x8 : Int64) (y1 : Int32) (y2 : Int32) (s : zS) : Option (zS) := zb0 (f181 (y1 + y2) s) (fun s1 => rec85 x5 x6 (x8 / (zl 10)) s1)
set_option maxRecDepth 100000 in
theorem k183_120 {X : mX} {D : Nat} {rec85 : Int32 → Int64 → Int64 → zS → Option (zS)} (hrec85 : ∀ (x5 : Int32) (x6 : Int64) (x8 : Int64) (s : zS) (r : zS) (o1 : Option Value) (o2 : Option Value) (o3 : Option Value) (o4 : Option Value) (o10 : Option Value), rec85 x5 x6 x8 s = some r → Ev X (D + 7) mm183 85 [some (.ref 24), o1, o2, o3, o4, some (.int x5), some (.long x6), none, some (.long x8), none, o10] [] (mk s) (encV r)) (x5 : Int32) (x6 : Int64) (x8 : Int64) (y1 : Int32) (y2 : Int32) (s : zS) (r : zS) (o1 : Option Value) (o2 : Option Value) (o3 : Option Value) (o4 : Option Value) (o10 : Option Value)  (h : f183_120 rec85 x5 x6 x8 y1 y2 s = some r) : Ev X (D + 7) mm183 120 [some (.ref 24), o1, o2, o3, o4, some (.int x5), some (.long x6), none, some (.long x8), none, o10] [.int y2, .int y1, .ref 24] (mk s) (encV r) := by
  unfold f183_120 at h
  refine Ev.run (pc' := 121) (ls' := [some (.ref 24), o1, o2, o3, o4, some (.int x5), some (.long x6), none, some (.long x8), none, o10]) (st' := [.int (y1 + y2), .ref 24]) (h' := mk s) 1 rfl ?_
  obtain ⟨s1, hq, h⟩ := zb0_some h
  refine Ev.call (M' := mm181) (v := none) (h' := mk s1) rfl rfl rfl (Nat.le_of_ble_eq_true rfl) (k181 hq) ?_
  refine Ev.run (pc' := 85) (ls' := [some (.ref 24), o1, o2, o3, o4, some (.int x5), some (.long x6), none, some (.long (x8 / (zl 10))), none, o10]) (st' := []) (h' := mk s1) 5 rfl ?_
  exact hrec85 x5 x6 (x8 / (zl 10)) s1 _ _ _ _ _ _ h
def b183_85 (rec85 : Int32 → Int64 → Int64 → zS → Option (zS)) (x5 : Int32) (x6 : Int64) (x8 : Int64) (s : zS) : Option (zS) := if x8 ≤ (zl 0) then zb0 (f182 x5 (zi 0) (zi 1) s) (fun s1 => some s1) else if ¬ x8 = zl 0 then if (zL2I (zremL (x6 / x8) (zl 10))) ≥ zi 0 then f183_120 rec85 x5 x6 x8 (zi 48) (zL2I (zremL (x6 / x8) (zl 10))) s else f183_120 rec85 x5 x6 x8 (zi 48) (-(zL2I (zremL (x6 / x8) (zl 10)))) s else none
set_option maxRecDepth 100000 in
theorem kb183_85 {X : mX} {D : Nat} {rec85 : Int32 → Int64 → Int64 → zS → Option (zS)} (hrec85 : ∀ (x5 : Int32) (x6 : Int64) (x8 : Int64) (s : zS) (r : zS) (o1 : Option Value) (o2 : Option Value) (o3 : Option Value) (o4 : Option Value) (o10 : Option Value), rec85 x5 x6 x8 s = some r → Ev X (D + 7) mm183 85 [some (.ref 24), o1, o2, o3, o4, some (.int x5), some (.long x6), none, some (.long x8), none, o10] [] (mk s) (encV r)) (x5 : Int32) (x6 : Int64) (x8 : Int64) (s : zS) (r : zS) (o1 : Option Value) (o2 : Option Value) (o3 : Option Value) (o4 : Option Value) (o10 : Option Value)  (h : b183_85 rec85 x5 x6 x8 s = some r) : Ev X (D + 7) mm183 85 [some (.ref 24), o1, o2, o3, o4, some (.int x5), some (.long x6), none, some (.long x8), none, o10] [] (mk s) (encV r) := by
  unfold b183_85 at h
  refine Ev.run (pc' := 89) (ls' := [some (.ref 24), o1, o2, o3, o4, some (.int x5), some (.long x6), none, some (.long x8), none, o10]) (st' := [.int (lg_cmp x8 (zl 0))]) (h' := mk s) 3 rfl ?_
  refine Ev.ifl_le (t := 135) rfl rfl (fun hb => ?_) (fun hb => ?_)
  · have h := (if_pos hb).symm.trans h
    refine Ev.run (pc' := 140) (ls' := [some (.ref 24), o1, o2, o3, o4, some (.int x5), some (.long x6), none, some (.long x8), none, o10]) (st' := [.int (zi 1), .int (zi 0), .int x5, .ref 24]) (h' := mk s) 4 rfl ?_
    obtain ⟨s1, hq, h⟩ := zb0_some h
    refine Ev.call (M' := mm182) (v := none) (h' := mk s1) rfl rfl rfl (Nat.le_of_ble_eq_true rfl) (k182 hq) ?_
    first | (obtain rfl := Option.some.inj h) | (cases h)
    exact Ev.fin rfl rfl
  · have h := (if_neg hb).symm.trans h
    refine Ev.run (pc' := 96) (ls' := [some (.ref 24), o1, o2, o3, o4, some (.int x5), some (.long x6), none, some (.long x8), none, o10]) (st' := [.long x8, .long x6]) (h' := mk s) 2 rfl ?_
    obtain ⟨hx, h⟩ := zif h
    refine Ev.step (pc' := 97) rfl (ldiv_ok hx) ?_
    refine Ev.run (pc' := 109) (ls' := [some (.ref 24), o1, o2, o3, o4, some (.int x5), some (.long x6), none, some (.long x8), none, some (.int (zL2I (zremL (x6 / x8) (zl 10))))]) (st' := [.int (zL2I (zremL (x6 / x8) (zl 10))), .int (zi 48), .ref 24]) (h' := mk s) 7 rfl ?_
    refine Ev.if_ge (t := 118) rfl rfl (fun hb => ?_) (fun hb => ?_)
    · have h := (if_pos hb).symm.trans h
      refine Ev.run (pc' := 120) (ls' := [some (.ref 24), o1, o2, o3, o4, some (.int x5), some (.long x6), none, some (.long x8), none, some (.int (zL2I (zremL (x6 / x8) (zl 10))))]) (st' := [.int (zL2I (zremL (x6 / x8) (zl 10))), .int (zi 48), .ref 24]) (h' := mk s) 1 rfl ?_
      exact k183_120 hrec85 x5 x6 x8 (zi 48) (zL2I (zremL (x6 / x8) (zl 10))) s _ _ _ _ _ _ h
    · have h := (if_neg hb).symm.trans h
      refine Ev.run (pc' := 120) (ls' := [some (.ref 24), o1, o2, o3, o4, some (.int x5), some (.long x6), none, some (.long x8), none, some (.int (zL2I (zremL (x6 / x8) (zl 10))))]) (st' := [.int (-(zL2I (zremL (x6 / x8) (zl 10)))), .int (zi 48), .ref 24]) (h' := mk s) 3 rfl ?_
      exact k183_120 hrec85 x5 x6 x8 (zi 48) (-(zL2I (zremL (x6 / x8) (zl 10)))) s _ _ _ _ _ _ h
def f183_85  : Nat → Int32 → Int64 → Int64 → zS → Option (zS)
  | 0, _, _, _, _ => none
  | n + 1, x5, x6, x8, s => b183_85 (f183_85 n) x5 x6 x8 s
set_option maxRecDepth 100000 in
theorem k183_85 {X : mX} {D : Nat}   (n : Nat) : ∀ (x5 : Int32) (x6 : Int64) (x8 : Int64) (s : zS) (r : zS) (o1 : Option Value) (o2 : Option Value) (o3 : Option Value) (o4 : Option Value) (o10 : Option Value), f183_85  n x5 x6 x8 s = some r → Ev X (D + 7) mm183 85 [some (.ref 24), o1, o2, o3, o4, some (.int x5), some (.long x6), none, some (.long x8), none, o10] [] (mk s) (encV r) := by
  induction n with
  | zero => intro x5 x6 x8 s r o1 o2 o3 o4 o10  h; cases h
  | succ n ih => intro x5 x6 x8 s r o1 o2 o3 o4 o10  h; exact kb183_85  ih x5 x6 x8 s r o1 o2 o3 o4 o10  h
def b183_50 (rec50 : Int32 → Int64 → Int64 → zS → Option (zS)) (x5 : Int32) (x6 : Int64) (x8 : Int64) (s : zS) : Option (zS) := if ¬ x8 = zl 0 then if (x6 / x8) > (zl 9) then rec50 x5 x6 (x8 * (zl 10)) s else if ¬ x8 = zl 0 then if (x6 / x8) ≥ (zl (-9)) then f183_85 zF x5 x6 x8 s else rec50 x5 x6 (x8 * (zl 10)) s else none else none
set_option maxRecDepth 100000 in
theorem kb183_50 {X : mX} {D : Nat} {rec50 : Int32 → Int64 → Int64 → zS → Option (zS)} (hrec50 : ∀ (x5 : Int32) (x6 : Int64) (x8 : Int64) (s : zS) (r : zS) (o1 : Option Value) (o2 : Option Value) (o3 : Option Value) (o4 : Option Value) (o10 : Option Value), rec50 x5 x6 x8 s = some r → Ev X (D + 7) mm183 50 [some (.ref 24), o1, o2, o3, o4, some (.int x5), some (.long x6), none, some (.long x8), none, o10] [] (mk s) (encV r)) (x5 : Int32) (x6 : Int64) (x8 : Int64) (s : zS) (r : zS) (o1 : Option Value) (o2 : Option Value) (o3 : Option Value) (o4 : Option Value) (o10 : Option Value)  (h : b183_50 rec50 x5 x6 x8 s = some r) : Ev X (D + 7) mm183 50 [some (.ref 24), o1, o2, o3, o4, some (.int x5), some (.long x6), none, some (.long x8), none, o10] [] (mk s) (encV r) := by
  unfold b183_50 at h
  refine Ev.run (pc' := 54) (ls' := [some (.ref 24), o1, o2, o3, o4, some (.int x5), some (.long x6), none, some (.long x8), none, o10]) (st' := [.long x8, .long x6]) (h' := mk s) 2 rfl ?_
  obtain ⟨hx, h⟩ := zif h
  refine Ev.step (pc' := 55) rfl (ldiv_ok hx) ?_
  refine Ev.run (pc' := 59) (ls' := [some (.ref 24), o1, o2, o3, o4, some (.int x5), some (.long x6), none, some (.long x8), none, o10]) (st' := [.int (lg_cmp (x6 / x8) (zl 9))]) (h' := mk s) 2 rfl ?_
  refine Ev.ifl_gt (t := 74) rfl rfl (fun hb => ?_) (fun hb => ?_)
  · have h := (if_pos hb).symm.trans h
    refine Ev.run (pc' := 50) (ls' := [some (.ref 24), o1, o2, o3, o4, some (.int x5), some (.long x6), none, some (.long (x8 * (zl 10))), none, o10]) (st' := []) (h' := mk s) 5 rfl ?_
    exact hrec50 x5 x6 (x8 * (zl 10)) s _ _ _ _ _ _ h
  · have h := (if_neg hb).symm.trans h
    refine Ev.run (pc' := 66) (ls' := [some (.ref 24), o1, o2, o3, o4, some (.int x5), some (.long x6), none, some (.long x8), none, o10]) (st' := [.long x8, .long x6]) (h' := mk s) 2 rfl ?_
    obtain ⟨hx, h⟩ := zif h
    refine Ev.step (pc' := 67) rfl (ldiv_ok hx) ?_
    refine Ev.run (pc' := 71) (ls' := [some (.ref 24), o1, o2, o3, o4, some (.int x5), some (.long x6), none, some (.long x8), none, o10]) (st' := [.int (lg_cmp (x6 / x8) (zl (-9)))]) (h' := mk s) 2 rfl ?_
    refine Ev.ifl_ge (t := 85) rfl rfl (fun hb => ?_) (fun hb => ?_)
    · have h := (if_pos hb).symm.trans h
      exact k183_85 zF x5 x6 x8 s _ _ _ _ _ _ h
    · have h := (if_neg hb).symm.trans h
      refine Ev.run (pc' := 50) (ls' := [some (.ref 24), o1, o2, o3, o4, some (.int x5), some (.long x6), none, some (.long (x8 * (zl 10))), none, o10]) (st' := []) (h' := mk s) 5 rfl ?_
      exact hrec50 x5 x6 (x8 * (zl 10)) s _ _ _ _ _ _ h
def f183_50  : Nat → Int32 → Int64 → Int64 → zS → Option (zS)
  | 0, _, _, _, _ => none
  | n + 1, x5, x6, x8, s => b183_50 (f183_50 n) x5 x6 x8 s
set_option maxRecDepth 100000 in
theorem k183_50 {X : mX} {D : Nat}   (n : Nat) : ∀ (x5 : Int32) (x6 : Int64) (x8 : Int64) (s : zS) (r : zS) (o1 : Option Value) (o2 : Option Value) (o3 : Option Value) (o4 : Option Value) (o10 : Option Value), f183_50  n x5 x6 x8 s = some r → Ev X (D + 7) mm183 50 [some (.ref 24), o1, o2, o3, o4, some (.int x5), some (.long x6), none, some (.long x8), none, o10] [] (mk s) (encV r) := by
  induction n with
  | zero => intro x5 x6 x8 s r o1 o2 o3 o4 o10  h; cases h
  | succ n ih => intro x5 x6 x8 s r o1 o2 o3 o4 o10  h; exact kb183_50  ih x5 x6 x8 s r o1 o2 o3 o4 o10  h
def f183  (x1 : Int32) (s : zS) : Option (zS) := if mIx (s.1 24 35) 24 then if mIx (s.1 24 35) 24 then if ¬ x1 = (zi 10) then if ¬ x1 = (zi 8) then f183_163 x1 (s.1 29 ((s.1 24 35).toNatClampNeg)) (s.2.1 31 ((s.1 24 35).toNatClampNeg)) (zshl (zi 8) ((s.1 29 ((s.1 24 35).toNatClampNeg)) - (zi 3))) (zi 4) (setI s 24 33 (zi 0)) else f183_163 x1 (s.1 29 ((s.1 24 35).toNatClampNeg)) (s.2.1 31 ((s.1 24 35).toNatClampNeg)) (zshl (zi 8) ((s.1 29 ((s.1 24 35).toNatClampNeg)) - (zi 3))) (zi 3) (setI s 24 33 (zi 0)) else if (s.2.1 31 ((s.1 24 35).toNatClampNeg)) ≥ (zl 0) then f183_50 zF (zi 0) (s.2.1 31 ((s.1 24 35).toNatClampNeg)) (zl 1) (setI s 24 33 (zi 0)) else f183_50 zF (zi 1) (s.2.1 31 ((s.1 24 35).toNatClampNeg)) (zl 1) (setI s 24 33 (zi 0)) else none else none
set_option maxRecDepth 100000 in
theorem k183 {X : mX} {D : Nat} {x1 : Int32} {s : zS} {r : zS}  (h : f183 x1 s = some r) : Ev X (D + 7) mm183 0 [some (.ref 24), some (.int x1), none, none, none, none, none, none, none, none, none] [] (mk s) (encV r) := by
  unfold f183 at h
  refine Ev.run (pc' := 8) (ls' := [some (.ref 24), some (.int x1), none, none, none, none, none, none, none, none, none]) (st' := [.int (s.1 24 35), .ref 29]) (h' := mk s) 4 rfl ?_
  obtain ⟨hx, h⟩ := zif h
  refine Ev.step (pc' := 9) rfl (ald_i rfl hx) ?_
  refine Ev.run (pc' := 18) (ls' := [some (.ref 24), some (.int x1), some (.int (s.1 29 ((s.1 24 35).toNatClampNeg))), none, none, none, none, none, none, none, none]) (st' := [.int (s.1 24 35), .ref 31]) (h' := mk s) 5 rfl ?_
  obtain ⟨hx, h⟩ := zif h
  refine Ev.step (pc' := 19) rfl (ald_l rfl hx) ?_
  refine Ev.run (pc' := 22) (ls' := [some (.ref 24), some (.int x1), some (.int (s.1 29 ((s.1 24 35).toNatClampNeg))), some (.long (s.2.1 31 ((s.1 24 35).toNatClampNeg))), none, none, none, none, none, none, none]) (st' := [.int (zi 0), .ref 24]) (h' := mk s) 3 rfl ?_
  refine Ev.step (pc' := 25) rfl (put_12_33 rfl) ?_
  refine Ev.run (pc' := 28) (ls' := [some (.ref 24), some (.int x1), some (.int (s.1 29 ((s.1 24 35).toNatClampNeg))), some (.long (s.2.1 31 ((s.1 24 35).toNatClampNeg))), none, none, none, none, none, none, none]) (st' := [.int (zi 10), .int x1]) (h' := mk (setI s 24 33 (zi 0))) 2 rfl ?_
  refine Ev.icmp_ne (t := 144) rfl rfl (fun hb => ?_) (fun hb => ?_)
  · have h := (if_pos hb).symm.trans h
    refine Ev.run (pc' := 155) (ls' := [some (.ref 24), some (.int x1), some (.int (s.1 29 ((s.1 24 35).toNatClampNeg))), some (.long (s.2.1 31 ((s.1 24 35).toNatClampNeg))), none, some (.int (zshl (zi 8) ((s.1 29 ((s.1 24 35).toNatClampNeg)) - (zi 3)))), none, none, none, none, none]) (st' := [.int (zi 8), .int x1]) (h' := mk (setI s 24 33 (zi 0))) 8 rfl ?_
    refine Ev.icmp_ne (t := 162) rfl rfl (fun hb => ?_) (fun hb => ?_)
    · have h := (if_pos hb).symm.trans h
      refine Ev.run (pc' := 163) (ls' := [some (.ref 24), some (.int x1), some (.int (s.1 29 ((s.1 24 35).toNatClampNeg))), some (.long (s.2.1 31 ((s.1 24 35).toNatClampNeg))), none, some (.int (zshl (zi 8) ((s.1 29 ((s.1 24 35).toNatClampNeg)) - (zi 3)))), none, none, none, none, none]) (st' := [.int (zi 4)]) (h' := mk (setI s 24 33 (zi 0))) 1 rfl ?_
      exact k183_163 x1 (s.1 29 ((s.1 24 35).toNatClampNeg)) (s.2.1 31 ((s.1 24 35).toNatClampNeg)) (zshl (zi 8) ((s.1 29 ((s.1 24 35).toNatClampNeg)) - (zi 3))) (zi 4) (setI s 24 33 (zi 0)) _ _ _ _ _ _ h
    · have h := (if_neg hb).symm.trans h
      refine Ev.run (pc' := 163) (ls' := [some (.ref 24), some (.int x1), some (.int (s.1 29 ((s.1 24 35).toNatClampNeg))), some (.long (s.2.1 31 ((s.1 24 35).toNatClampNeg))), none, some (.int (zshl (zi 8) ((s.1 29 ((s.1 24 35).toNatClampNeg)) - (zi 3)))), none, none, none, none, none]) (st' := [.int (zi 3)]) (h' := mk (setI s 24 33 (zi 0))) 2 rfl ?_
      exact k183_163 x1 (s.1 29 ((s.1 24 35).toNatClampNeg)) (s.2.1 31 ((s.1 24 35).toNatClampNeg)) (zshl (zi 8) ((s.1 29 ((s.1 24 35).toNatClampNeg)) - (zi 3))) (zi 3) (setI s 24 33 (zi 0)) _ _ _ _ _ _ h
  · have h := (if_neg hb).symm.trans h
    refine Ev.run (pc' := 34) (ls' := [some (.ref 24), some (.int x1), some (.int (s.1 29 ((s.1 24 35).toNatClampNeg))), some (.long (s.2.1 31 ((s.1 24 35).toNatClampNeg))), none, none, none, none, none, none, none]) (st' := [.int (lg_cmp (s.2.1 31 ((s.1 24 35).toNatClampNeg)) (zl 0))]) (h' := mk (setI s 24 33 (zi 0))) 3 rfl ?_
    refine Ev.ifl_ge (t := 41) rfl rfl (fun hb => ?_) (fun hb => ?_)
    · have h := (if_pos hb).symm.trans h
      refine Ev.run (pc' := 50) (ls' := [some (.ref 24), some (.int x1), some (.int (s.1 29 ((s.1 24 35).toNatClampNeg))), some (.long (s.2.1 31 ((s.1 24 35).toNatClampNeg))), none, some (.int (zi 0)), some (.long (s.2.1 31 ((s.1 24 35).toNatClampNeg))), none, some (.long (zl 1)), none, none]) (st' := []) (h' := mk (setI s 24 33 (zi 0))) 6 rfl ?_
      exact k183_50 zF (zi 0) (s.2.1 31 ((s.1 24 35).toNatClampNeg)) (zl 1) (setI s 24 33 (zi 0)) _ _ _ _ _ _ h
    · have h := (if_neg hb).symm.trans h
      refine Ev.run (pc' := 50) (ls' := [some (.ref 24), some (.int x1), some (.int (s.1 29 ((s.1 24 35).toNatClampNeg))), some (.long (s.2.1 31 ((s.1 24 35).toNatClampNeg))), none, some (.int (zi 1)), some (.long (s.2.1 31 ((s.1 24 35).toNatClampNeg))), none, some (.long (zl 1)), none, none]) (st' := []) (h' := mk (setI s 24 33 (zi 0))) 7 rfl ?_
      exact k183_50 zF (zi 1) (s.2.1 31 ((s.1 24 35).toNatClampNeg)) (zl 1) (setI s 24 33 (zi 0)) _ _ _ _ _ _ h
/-! 188 FModel.hex(J)V -/
def f188_419  (x9 : Int32) (s : zS) : Option (zS) := zb0 (f181 ((zi 48) + (zrem x9 (zi 10))) s) (fun s1 => some s1)
set_option maxRecDepth 100000 in
theorem k188_419 {X : mX} {D : Nat}   (x9 : Int32) (s : zS) (r : zS) (o1 : Option Value) (o2 : Option Value) (o3 : Option Value) (o4 : Option Value) (o5 : Option Value) (o6 : Option Value) (o7 : Option Value) (o8 : Option Value) (o10 : Option Value) (o11 : Option Value) (o12 : Option Value) (o13 : Option Value) (o14 : Option Value) (o15 : Option Value)  (h : f188_419  x9 s = some r) : Ev X (D + 1) mm188 419 [some (.ref 24), o1, o2, o3, o4, o5, o6, o7, o8, some (.int x9), o10, o11, o12, o13, o14, o15] [] (mk s) (encV r) := by
  unfold f188_419 at h
  refine Ev.run (pc' := 428) (ls' := [some (.ref 24), o1, o2, o3, o4, o5, o6, o7, o8, some (.int x9), o10, o11, o12, o13, o14, o15]) (st' := [.int ((zi 48) + (zrem x9 (zi 10))), .ref 24]) (h' := mk s) 6 rfl ?_
  obtain ⟨s1, hq, h⟩ := zb0_some h
  refine Ev.call (M' := mm181) (v := none) (h' := mk s1) rfl rfl rfl (Nat.le_of_ble_eq_true rfl) (k181 hq) ?_
  first | (obtain rfl := Option.some.inj h) | (cases h)
  exact Ev.fin rfl rfl
def f188_397  (x9 : Int32) (s : zS) : Option (zS) := if x9 ≤ (zi 9) then f188_419 x9 s else zb0 (f181 ((zi 48) + (zrem (x9 / (zi 10)) (zi 10))) s) (fun s1 => f188_419 x9 s1)
set_option maxRecDepth 100000 in
theorem k188_397 {X : mX} {D : Nat}   (x9 : Int32) (s : zS) (r : zS) (o1 : Option Value) (o2 : Option Value) (o3 : Option Value) (o4 : Option Value) (o5 : Option Value) (o6 : Option Value) (o7 : Option Value) (o8 : Option Value) (o10 : Option Value) (o11 : Option Value) (o12 : Option Value) (o13 : Option Value) (o14 : Option Value) (o15 : Option Value)  (h : f188_397  x9 s = some r) : Ev X (D + 1) mm188 397 [some (.ref 24), o1, o2, o3, o4, o5, o6, o7, o8, some (.int x9), o10, o11, o12, o13, o14, o15] [] (mk s) (encV r) := by
  unfold f188_397 at h
  refine Ev.run (pc' := 401) (ls' := [some (.ref 24), o1, o2, o3, o4, o5, o6, o7, o8, some (.int x9), o10, o11, o12, o13, o14, o15]) (st' := [.int (zi 9), .int x9]) (h' := mk s) 2 rfl ?_
  refine Ev.icmp_le (t := 419) rfl rfl (fun hb => ?_) (fun hb => ?_)
  · have h := (if_pos hb).symm.trans h
    exact k188_419 x9 s _ _ _ _ _ _ _ _ _ _ _ _ _ _ _ h
  · have h := (if_neg hb).symm.trans h
    refine Ev.run (pc' := 416) (ls' := [some (.ref 24), o1, o2, o3, o4, o5, o6, o7, o8, some (.int x9), o10, o11, o12, o13, o14, o15]) (st' := [.int ((zi 48) + (zrem (x9 / (zi 10)) (zi 10))), .ref 24]) (h' := mk s) 8 rfl ?_
    obtain ⟨s1, hq, h⟩ := zb0_some h
    refine Ev.call (M' := mm181) (v := none) (h' := mk s1) rfl rfl rfl (Nat.le_of_ble_eq_true rfl) (k181 hq) ?_
    exact k188_419 x9 s1 _ _ _ _ _ _ _ _ _ _ _ _ _ _ _ h
def f188_375  (x9 : Int32) (s : zS) : Option (zS) := if x9 ≤ (zi 99) then f188_397 x9 s else zb0 (f181 ((zi 48) + (zrem (x9 / (zi 100)) (zi 10))) s) (fun s1 => f188_397 x9 s1)
set_option maxRecDepth 100000 in
theorem k188_375 {X : mX} {D : Nat}   (x9 : Int32) (s : zS) (r : zS) (o1 : Option Value) (o2 : Option Value) (o3 : Option Value) (o4 : Option Value) (o5 : Option Value) (o6 : Option Value) (o7 : Option Value) (o8 : Option Value) (o10 : Option Value) (o11 : Option Value) (o12 : Option Value) (o13 : Option Value) (o14 : Option Value) (o15 : Option Value)  (h : f188_375  x9 s = some r) : Ev X (D + 1) mm188 375 [some (.ref 24), o1, o2, o3, o4, o5, o6, o7, o8, some (.int x9), o10, o11, o12, o13, o14, o15] [] (mk s) (encV r) := by
  unfold f188_375 at h
  refine Ev.run (pc' := 379) (ls' := [some (.ref 24), o1, o2, o3, o4, o5, o6, o7, o8, some (.int x9), o10, o11, o12, o13, o14, o15]) (st' := [.int (zi 99), .int x9]) (h' := mk s) 2 rfl ?_
  refine Ev.icmp_le (t := 397) rfl rfl (fun hb => ?_) (fun hb => ?_)
  · have h := (if_pos hb).symm.trans h
    exact k188_397 x9 s _ _ _ _ _ _ _ _ _ _ _ _ _ _ _ h
  · have h := (if_neg hb).symm.trans h
    refine Ev.run (pc' := 394) (ls' := [some (.ref 24), o1, o2, o3, o4, o5, o6, o7, o8, some (.int x9), o10, o11, o12, o13, o14, o15]) (st' := [.int ((zi 48) + (zrem (x9 / (zi 100)) (zi 10))), .ref 24]) (h' := mk s) 8 rfl ?_
    obtain ⟨s1, hq, h⟩ := zb0_some h
    refine Ev.call (M' := mm181) (v := none) (h' := mk s1) rfl rfl rfl (Nat.le_of_ble_eq_true rfl) (k181 hq) ?_
    exact k188_397 x9 s1 _ _ _ _ _ _ _ _ _ _ _ _ _ _ _ h
def f188_352  (x8 : Int32) (y0 : Int32) (s : zS) : Option (zS) := if y0 ≤ (zi 999) then f188_375 y0 s else zb0 (f181 ((zi 48) + (y0 / (zi 1000))) s) (fun s1 => f188_375 y0 s1)
set_option maxRecDepth 100000 in
theorem k188_352 {X : mX} {D : Nat}   (x8 : Int32) (y0 : Int32) (s : zS) (r : zS) (o1 : Option Value) (o2 : Option Value) (o3 : Option Value) (o4 : Option Value) (o5 : Option Value) (o6 : Option Value) (o7 : Option Value) (o9 : Option Value) (o10 : Option Value) (o11 : Option Value) (o12 : Option Value) (o13 : Option Value) (o14 : Option Value) (o15 : Option Value)  (h : f188_352  x8 y0 s = some r) : Ev X (D + 1) mm188 352 [some (.ref 24), o1, o2, o3, o4, o5, o6, o7, some (.int x8), o9, o10, o11, o12, o13, o14, o15] [.int y0] (mk s) (encV r) := by
  unfold f188_352 at h
  refine Ev.run (pc' := 359) (ls' := [some (.ref 24), o1, o2, o3, o4, o5, o6, o7, some (.int x8), some (.int y0), o10, o11, o12, o13, o14, o15]) (st' := [.int (zi 999), .int y0]) (h' := mk s) 3 rfl ?_
  refine Ev.icmp_le (t := 375) rfl rfl (fun hb => ?_) (fun hb => ?_)
  · have h := (if_pos hb).symm.trans h
    exact k188_375 y0 s _ _ _ _ _ _ _ _ _ _ _ _ _ _ _ h
  · have h := (if_neg hb).symm.trans h
    refine Ev.run (pc' := 372) (ls' := [some (.ref 24), o1, o2, o3, o4, o5, o6, o7, some (.int x8), some (.int y0), o10, o11, o12, o13, o14, o15]) (st' := [.int ((zi 48) + (y0 / (zi 1000))), .ref 24]) (h' := mk s) 6 rfl ?_
    obtain ⟨s1, hq, h⟩ := zb0_some h
    refine Ev.call (M' := mm181) (v := none) (h' := mk s1) rfl rfl rfl (Nat.le_of_ble_eq_true rfl) (k181 hq) ?_
    exact k188_375 y0 s1 _ _ _ _ _ _ _ _ _ _ _ _ _ _ _ h
def f188_339  (x8 : Int32) (s : zS) : Option (zS) := if x8 ≥ zi 0 then f188_352 x8 x8 s else f188_352 x8 (-x8) s
set_option maxRecDepth 100000 in
theorem k188_339 {X : mX} {D : Nat}   (x8 : Int32) (s : zS) (r : zS) (o1 : Option Value) (o2 : Option Value) (o3 : Option Value) (o4 : Option Value) (o5 : Option Value) (o6 : Option Value) (o7 : Option Value) (o9 : Option Value) (o10 : Option Value) (o11 : Option Value) (o12 : Option Value) (o13 : Option Value) (o14 : Option Value) (o15 : Option Value)  (h : f188_339  x8 s = some r) : Ev X (D + 1) mm188 339 [some (.ref 24), o1, o2, o3, o4, o5, o6, o7, some (.int x8), o9, o10, o11, o12, o13, o14, o15] [] (mk s) (encV r) := by
  unfold f188_339 at h
  refine Ev.run (pc' := 341) (ls' := [some (.ref 24), o1, o2, o3, o4, o5, o6, o7, some (.int x8), o9, o10, o11, o12, o13, o14, o15]) (st' := [.int x8]) (h' := mk s) 1 rfl ?_
  refine Ev.if_ge (t := 350) rfl rfl (fun hb => ?_) (fun hb => ?_)
  · have h := (if_pos hb).symm.trans h
    refine Ev.run (pc' := 352) (ls' := [some (.ref 24), o1, o2, o3, o4, o5, o6, o7, some (.int x8), o9, o10, o11, o12, o13, o14, o15]) (st' := [.int x8]) (h' := mk s) 1 rfl ?_
    exact k188_352 x8 x8 s _ _ _ _ _ _ _ _ _ _ _ _ _ _ _ h
  · have h := (if_neg hb).symm.trans h
    refine Ev.run (pc' := 352) (ls' := [some (.ref 24), o1, o2, o3, o4, o5, o6, o7, some (.int x8), o9, o10, o11, o12, o13, o14, o15]) (st' := [.int (-x8)]) (h' := mk s) 3 rfl ?_
    exact k188_352 x8 (-x8) s _ _ _ _ _ _ _ _ _ _ _ _ _ _ _ h
def f188_313 (rec255 : Int32 → Int64 → Int32 → Int32 → zS → Option (zS)) (x4 : Int32) (x5 : Int64) (x8 : Int32) (x9 : Int32) (y1 : Int32) (s : zS) : Option (zS) := zb0 (f181 y1 s) (fun s1 => rec255 x4 x5 x8 (x9 + zi 1) s1)
set_option maxRecDepth 100000 in
theorem k188_313 {X : mX} {D : Nat} {rec255 : Int32 → Int64 → Int32 → Int32 → zS → Option (zS)} (hrec255 : ∀ (x4 : Int32) (x5 : Int64) (x8 : Int32) (x9 : Int32) (s : zS) (r : zS) (o1 : Option Value) (o2 : Option Value) (o3 : Option Value) (o7 : Option Value) (o10 : Option Value) (o11 : Option Value) (o12 : Option Value) (o13 : Option Value) (o14 : Option Value) (o15 : Option Value), rec255 x4 x5 x8 x9 s = some r → Ev X (D + 1) mm188 255 [some (.ref 24), o1, o2, o3, some (.int x4), some (.long x5), none, o7, some (.int x8), some (.int x9), o10, o11, o12, o13, o14, o15] [] (mk s) (encV r)) (x4 : Int32) (x5 : Int64) (x8 : Int32) (x9 : Int32) (y1 : Int32) (s : zS) (r : zS) (o1 : Option Value) (o2 : Option Value) (o3 : Option Value) (o7 : Option Value) (o10 : Option Value) (o11 : Option Value) (o12 : Option Value) (o13 : Option Value) (o14 : Option Value) (o15 : Option Value)  (h : f188_313 rec255 x4 x5 x8 x9 y1 s = some r) : Ev X (D + 1) mm188 313 [some (.ref 24), o1, o2, o3, some (.int x4), some (.long x5), none, o7, some (.int x8), some (.int x9), o10, o11, o12, o13, o14, o15] [.int y1, .ref 24] (mk s) (encV r) := by
  unfold f188_313 at h
  obtain ⟨s1, hq, h⟩ := zb0_some h
  refine Ev.call (M' := mm181) (v := none) (h' := mk s1) rfl rfl rfl (Nat.le_of_ble_eq_true rfl) (k181 hq) ?_
  refine Ev.run (pc' := 255) (ls' := [some (.ref 24), o1, o2, o3, some (.int x4), some (.long x5), none, o7, some (.int x8), some (.int (x9 + zi 1)), o10, o11, o12, o13, o14, o15]) (st' := []) (h' := mk s1) 2 rfl ?_
  exact hrec255 x4 x5 x8 (x9 + zi 1) s1 _ _ _ _ _ _ _ _ _ _ _ h
def f188_287 (rec255 : Int32 → Int64 → Int32 → Int32 → zS → Option (zS)) (x4 : Int32) (x5 : Int64) (x8 : Int32) (x9 : Int32) (y0 : Int32) (s : zS) : Option (zS) := if y0 ≥ (zi 10) then f188_313 rec255 x4 x5 x8 x9 (((zi 97) + y0) - (zi 10)) s else f188_313 rec255 x4 x5 x8 x9 ((zi 48) + y0) s
set_option maxRecDepth 100000 in
theorem k188_287 {X : mX} {D : Nat} {rec255 : Int32 → Int64 → Int32 → Int32 → zS → Option (zS)} (hrec255 : ∀ (x4 : Int32) (x5 : Int64) (x8 : Int32) (x9 : Int32) (s : zS) (r : zS) (o1 : Option Value) (o2 : Option Value) (o3 : Option Value) (o7 : Option Value) (o10 : Option Value) (o11 : Option Value) (o12 : Option Value) (o13 : Option Value) (o14 : Option Value) (o15 : Option Value), rec255 x4 x5 x8 x9 s = some r → Ev X (D + 1) mm188 255 [some (.ref 24), o1, o2, o3, some (.int x4), some (.long x5), none, o7, some (.int x8), some (.int x9), o10, o11, o12, o13, o14, o15] [] (mk s) (encV r)) (x4 : Int32) (x5 : Int64) (x8 : Int32) (x9 : Int32) (y0 : Int32) (s : zS) (r : zS) (o1 : Option Value) (o2 : Option Value) (o3 : Option Value) (o7 : Option Value) (o10 : Option Value) (o11 : Option Value) (o12 : Option Value) (o13 : Option Value) (o14 : Option Value) (o15 : Option Value)  (h : f188_287 rec255 x4 x5 x8 x9 y0 s = some r) : Ev X (D + 1) mm188 287 [some (.ref 24), o1, o2, o3, some (.int x4), some (.long x5), none, o7, some (.int x8), some (.int x9), o10, o11, o12, o13, o14, o15] [.int y0] (mk s) (encV r) := by
  unfold f188_287 at h
  refine Ev.run (pc' := 294) (ls' := [some (.ref 24), o1, o2, o3, some (.int x4), some (.long x5), none, o7, some (.int x8), some (.int x9), some (.int y0), o11, o12, o13, o14, o15]) (st' := [.int (zi 10), .int y0, .ref 24]) (h' := mk s) 4 rfl ?_
  refine Ev.icmp_ge (t := 305) rfl rfl (fun hb => ?_) (fun hb => ?_)
  · have h := (if_pos hb).symm.trans h
    refine Ev.run (pc' := 313) (ls' := [some (.ref 24), o1, o2, o3, some (.int x4), some (.long x5), none, o7, some (.int x8), some (.int x9), some (.int y0), o11, o12, o13, o14, o15]) (st' := [.int (((zi 97) + y0) - (zi 10)), .ref 24]) (h' := mk s) 5 rfl ?_
    exact k188_313 hrec255 x4 x5 x8 x9 (((zi 97) + y0) - (zi 10)) s _ _ _ _ _ _ _ _ _ _ _ h
  · have h := (if_neg hb).symm.trans h
    refine Ev.run (pc' := 313) (ls' := [some (.ref 24), o1, o2, o3, some (.int x4), some (.long x5), none, o7, some (.int x8), some (.int x9), some (.int y0), o11, o12, o13, o14, o15]) (st' := [.int ((zi 48) + y0), .ref 24]) (h' := mk s) 4 rfl ?_
    exact k188_313 hrec255 x4 x5 x8 x9 ((zi 48) + y0) s _ _ _ _ _ _ _ _ _ _ _ h
def b188_255 (rec255 : Int32 → Int64 → Int32 → Int32 → zS → Option (zS)) (x4 : Int32) (x5 : Int64) (x8 : Int32) (x9 : Int32) (s : zS) : Option (zS) := if x9 > x4 then zb0 (f181 (zi 112) s) (fun s1 => if x8 ≥ zi 0 then f188_339 x8 s1 else zb0 (f181 (zi 45) s1) (fun s2 => f188_339 x8 s2)) else if x9 ≤ (zi 13) then f188_287 rec255 x4 x5 x8 x9 ((zL2I (zshrL x5 ((zi 52) - ((zi 4) * x9)))) &&& (zi 15)) s else f188_287 rec255 x4 x5 x8 x9 (zi 0) s
set_option maxRecDepth 100000 in
theorem kb188_255 {X : mX} {D : Nat} {rec255 : Int32 → Int64 → Int32 → Int32 → zS → Option (zS)} (hrec255 : ∀ (x4 : Int32) (x5 : Int64) (x8 : Int32) (x9 : Int32) (s : zS) (r : zS) (o1 : Option Value) (o2 : Option Value) (o3 : Option Value) (o7 : Option Value) (o10 : Option Value) (o11 : Option Value) (o12 : Option Value) (o13 : Option Value) (o14 : Option Value) (o15 : Option Value), rec255 x4 x5 x8 x9 s = some r → Ev X (D + 1) mm188 255 [some (.ref 24), o1, o2, o3, some (.int x4), some (.long x5), none, o7, some (.int x8), some (.int x9), o10, o11, o12, o13, o14, o15] [] (mk s) (encV r)) (x4 : Int32) (x5 : Int64) (x8 : Int32) (x9 : Int32) (s : zS) (r : zS) (o1 : Option Value) (o2 : Option Value) (o3 : Option Value) (o7 : Option Value) (o10 : Option Value) (o11 : Option Value) (o12 : Option Value) (o13 : Option Value) (o14 : Option Value) (o15 : Option Value)  (h : b188_255 rec255 x4 x5 x8 x9 s = some r) : Ev X (D + 1) mm188 255 [some (.ref 24), o1, o2, o3, some (.int x4), some (.long x5), none, o7, some (.int x8), some (.int x9), o10, o11, o12, o13, o14, o15] [] (mk s) (encV r) := by
  unfold b188_255 at h
  refine Ev.run (pc' := 259) (ls' := [some (.ref 24), o1, o2, o3, some (.int x4), some (.long x5), none, o7, some (.int x8), some (.int x9), o10, o11, o12, o13, o14, o15]) (st' := [.int x4, .int x9]) (h' := mk s) 2 rfl ?_
  refine Ev.icmp_gt (t := 322) rfl rfl (fun hb => ?_) (fun hb => ?_)
  · have h := (if_pos hb).symm.trans h
    refine Ev.run (pc' := 325) (ls' := [some (.ref 24), o1, o2, o3, some (.int x4), some (.long x5), none, o7, some (.int x8), some (.int x9), o10, o11, o12, o13, o14, o15]) (st' := [.int (zi 112), .ref 24]) (h' := mk s) 2 rfl ?_
    obtain ⟨s1, hq, h⟩ := zb0_some h
    refine Ev.call (M' := mm181) (v := none) (h' := mk s1) rfl rfl rfl (Nat.le_of_ble_eq_true rfl) (k181 hq) ?_
    refine Ev.run (pc' := 330) (ls' := [some (.ref 24), o1, o2, o3, some (.int x4), some (.long x5), none, o7, some (.int x8), some (.int x9), o10, o11, o12, o13, o14, o15]) (st' := [.int x8]) (h' := mk s1) 1 rfl ?_
    refine Ev.if_ge (t := 339) rfl rfl (fun hb => ?_) (fun hb => ?_)
    · have h := (if_pos hb).symm.trans h
      exact k188_339 x8 s1 _ _ _ _ _ _ _ _ _ _ _ _ _ _ _ h
    · have h := (if_neg hb).symm.trans h
      refine Ev.run (pc' := 336) (ls' := [some (.ref 24), o1, o2, o3, some (.int x4), some (.long x5), none, o7, some (.int x8), some (.int x9), o10, o11, o12, o13, o14, o15]) (st' := [.int (zi 45), .ref 24]) (h' := mk s1) 2 rfl ?_
      obtain ⟨s2, hq, h⟩ := zb0_some h
      refine Ev.call (M' := mm181) (v := none) (h' := mk s2) rfl rfl rfl (Nat.le_of_ble_eq_true rfl) (k181 hq) ?_
      exact k188_339 x8 s2 _ _ _ _ _ _ _ _ _ _ _ _ _ _ _ h
  · have h := (if_neg hb).symm.trans h
    refine Ev.run (pc' := 266) (ls' := [some (.ref 24), o1, o2, o3, some (.int x4), some (.long x5), none, o7, some (.int x8), some (.int x9), o10, o11, o12, o13, o14, o15]) (st' := [.int (zi 13), .int x9]) (h' := mk s) 2 rfl ?_
    refine Ev.icmp_le (t := 273) rfl rfl (fun hb => ?_) (fun hb => ?_)
    · have h := (if_pos hb).symm.trans h
      refine Ev.run (pc' := 286) (ls' := [some (.ref 24), o1, o2, o3, some (.int x4), some (.long x5), none, o7, some (.int x8), some (.int x9), o10, o11, o12, o13, o14, o15]) (st' := [.int (zi 15), .int (zL2I (zshrL x5 ((zi 52) - ((zi 4) * x9))))]) (h' := mk s) 9 rfl ?_
      refine Ev.run (pc' := 287) (ls' := [some (.ref 24), o1, o2, o3, some (.int x4), some (.long x5), none, o7, some (.int x8), some (.int x9), o10, o11, o12, o13, o14, o15]) (st' := [.int ((zL2I (zshrL x5 ((zi 52) - ((zi 4) * x9)))) &&& (zi 15))]) (h' := mk s) 1 rfl ?_
      exact k188_287 hrec255 x4 x5 x8 x9 ((zL2I (zshrL x5 ((zi 52) - ((zi 4) * x9)))) &&& (zi 15)) s _ _ _ _ _ _ _ _ _ _ _ h
    · have h := (if_neg hb).symm.trans h
      refine Ev.run (pc' := 287) (ls' := [some (.ref 24), o1, o2, o3, some (.int x4), some (.long x5), none, o7, some (.int x8), some (.int x9), o10, o11, o12, o13, o14, o15]) (st' := [.int (zi 0)]) (h' := mk s) 2 rfl ?_
      exact k188_287 hrec255 x4 x5 x8 x9 (zi 0) s _ _ _ _ _ _ _ _ _ _ _ h
def f188_255  : Nat → Int32 → Int64 → Int32 → Int32 → zS → Option (zS)
  | 0, _, _, _, _, _ => none
  | n + 1, x4, x5, x8, x9, s => b188_255 (f188_255 n) x4 x5 x8 x9 s
set_option maxRecDepth 100000 in
theorem k188_255 {X : mX} {D : Nat}   (n : Nat) : ∀ (x4 : Int32) (x5 : Int64) (x8 : Int32) (x9 : Int32) (s : zS) (r : zS) (o1 : Option Value) (o2 : Option Value) (o3 : Option Value) (o7 : Option Value) (o10 : Option Value) (o11 : Option Value) (o12 : Option Value) (o13 : Option Value) (o14 : Option Value) (o15 : Option Value), f188_255  n x4 x5 x8 x9 s = some r → Ev X (D + 1) mm188 255 [some (.ref 24), o1, o2, o3, some (.int x4), some (.long x5), none, o7, some (.int x8), some (.int x9), o10, o11, o12, o13, o14, o15] [] (mk s) (encV r) := by
  induction n with
  | zero => intro x4 x5 x8 x9 s r o1 o2 o3 o7 o10 o11 o12 o13 o14 o15  h; cases h
  | succ n ih => intro x4 x5 x8 x9 s r o1 o2 o3 o7 o10 o11 o12 o13 o14 o15  h; exact kb188_255  ih x4 x5 x8 x9 s r o1 o2 o3 o7 o10 o11 o12 o13 o14 o15  h
def f188_237  (x4 : Int32) (x5 : Int64) (x7 : Int32) (x8 : Int32) (s : zS) : Option (zS) := zb0 (f181 ((zi 48) + x7) s) (fun s1 => zb0 (f181 (zi 46) s1) (fun s2 => f188_255 zF x4 x5 x8 (zi 1) s2))
set_option maxRecDepth 100000 in
theorem k188_237 {X : mX} {D : Nat}   (x4 : Int32) (x5 : Int64) (x7 : Int32) (x8 : Int32) (s : zS) (r : zS) (o1 : Option Value) (o2 : Option Value) (o3 : Option Value) (o9 : Option Value) (o10 : Option Value) (o11 : Option Value) (o12 : Option Value) (o13 : Option Value) (o14 : Option Value) (o15 : Option Value)  (h : f188_237  x4 x5 x7 x8 s = some r) : Ev X (D + 1) mm188 237 [some (.ref 24), o1, o2, o3, some (.int x4), some (.long x5), none, some (.int x7), some (.int x8), o9, o10, o11, o12, o13, o14, o15] [] (mk s) (encV r) := by
  unfold f188_237 at h
  refine Ev.run (pc' := 243) (ls' := [some (.ref 24), o1, o2, o3, some (.int x4), some (.long x5), none, some (.int x7), some (.int x8), o9, o10, o11, o12, o13, o14, o15]) (st' := [.int ((zi 48) + x7), .ref 24]) (h' := mk s) 4 rfl ?_
  obtain ⟨s1, hq, h⟩ := zb0_some h
  refine Ev.call (M' := mm181) (v := none) (h' := mk s1) rfl rfl rfl (Nat.le_of_ble_eq_true rfl) (k181 hq) ?_
  refine Ev.run (pc' := 249) (ls' := [some (.ref 24), o1, o2, o3, some (.int x4), some (.long x5), none, some (.int x7), some (.int x8), o9, o10, o11, o12, o13, o14, o15]) (st' := [.int (zi 46), .ref 24]) (h' := mk s1) 2 rfl ?_
  obtain ⟨s2, hq, h⟩ := zb0_some h
  refine Ev.call (M' := mm181) (v := none) (h' := mk s2) rfl rfl rfl (Nat.le_of_ble_eq_true rfl) (k181 hq) ?_
  refine Ev.run (pc' := 255) (ls' := [some (.ref 24), o1, o2, o3, some (.int x4), some (.long x5), none, some (.int x7), some (.int x8), some (.int (zi 1)), o10, o11, o12, o13, o14, o15]) (st' := []) (h' := mk s2) 2 rfl ?_
  exact k188_255 zF x4 x5 x8 (zi 1) s2 _ _ _ _ _ _ _ _ _ _ _ h
def b188_206 (rec206 : Int32 → Int32 → Int64 → Int32 → Int32 → zS → Option (zS)) (x3 : Int32) (x4 : Int32) (x5 : Int64) (x7 : Int32) (x8 : Int32) (s : zS) : Option (zS) := if x4 ≤ (zi 1) then f188_237 x4 x5 x7 x8 s else if ¬ ((zshrL x5 ((zi 52) - ((zi 4) * x4))) &&& (zl 15)) = (zl 0) then f188_237 x4 x5 x7 x8 s else rec206 x3 (x4 + zi (-1)) x5 x7 x8 s
set_option maxRecDepth 100000 in
theorem kb188_206 {X : mX} {D : Nat} {rec206 : Int32 → Int32 → Int64 → Int32 → Int32 → zS → Option (zS)} (hrec206 : ∀ (x3 : Int32) (x4 : Int32) (x5 : Int64) (x7 : Int32) (x8 : Int32) (s : zS) (r : zS) (o1 : Option Value) (o2 : Option Value) (o9 : Option Value) (o10 : Option Value) (o11 : Option Value) (o12 : Option Value) (o13 : Option Value) (o14 : Option Value) (o15 : Option Value), rec206 x3 x4 x5 x7 x8 s = some r → Ev X (D + 1) mm188 206 [some (.ref 24), o1, o2, some (.int x3), some (.int x4), some (.long x5), none, some (.int x7), some (.int x8), o9, o10, o11, o12, o13, o14, o15] [] (mk s) (encV r)) (x3 : Int32) (x4 : Int32) (x5 : Int64) (x7 : Int32) (x8 : Int32) (s : zS) (r : zS) (o1 : Option Value) (o2 : Option Value) (o9 : Option Value) (o10 : Option Value) (o11 : Option Value) (o12 : Option Value) (o13 : Option Value) (o14 : Option Value) (o15 : Option Value)  (h : b188_206 rec206 x3 x4 x5 x7 x8 s = some r) : Ev X (D + 1) mm188 206 [some (.ref 24), o1, o2, some (.int x3), some (.int x4), some (.long x5), none, some (.int x7), some (.int x8), o9, o10, o11, o12, o13, o14, o15] [] (mk s) (encV r) := by
  unfold b188_206 at h
  refine Ev.run (pc' := 209) (ls' := [some (.ref 24), o1, o2, some (.int x3), some (.int x4), some (.long x5), none, some (.int x7), some (.int x8), o9, o10, o11, o12, o13, o14, o15]) (st' := [.int (zi 1), .int x4]) (h' := mk s) 2 rfl ?_
  refine Ev.icmp_le (t := 237) rfl rfl (fun hb => ?_) (fun hb => ?_)
  · have h := (if_pos hb).symm.trans h
    exact k188_237 x4 x5 x7 x8 s _ _ _ _ _ _ _ _ _ _ _ h
  · have h := (if_neg hb).symm.trans h
    refine Ev.run (pc' := 226) (ls' := [some (.ref 24), o1, o2, some (.int x3), some (.int x4), some (.long x5), none, some (.int x7), some (.int x8), o9, o10, o11, o12, o13, o14, o15]) (st' := [.long ((zshrL x5 ((zi 52) - ((zi 4) * x4))) &&& (zl 15))]) (h' := mk s) 9 rfl ?_
    refine Ev.run (pc' := 228) (ls' := [some (.ref 24), o1, o2, some (.int x3), some (.int x4), some (.long x5), none, some (.int x7), some (.int x8), o9, o10, o11, o12, o13, o14, o15]) (st' := [.int (lg_cmp ((zshrL x5 ((zi 52) - ((zi 4) * x4))) &&& (zl 15)) (zl 0))]) (h' := mk s) 2 rfl ?_
    refine Ev.ifl_ne (t := 237) rfl rfl (fun hb => ?_) (fun hb => ?_)
    · have h := (if_pos hb).symm.trans h
      exact k188_237 x4 x5 x7 x8 s _ _ _ _ _ _ _ _ _ _ _ h
    · have h := (if_neg hb).symm.trans h
      refine Ev.run (pc' := 206) (ls' := [some (.ref 24), o1, o2, some (.int x3), some (.int (x4 + zi (-1))), some (.long x5), none, some (.int x7), some (.int x8), o9, o10, o11, o12, o13, o14, o15]) (st' := []) (h' := mk s) 2 rfl ?_
      exact hrec206 x3 (x4 + zi (-1)) x5 x7 x8 s _ _ _ _ _ _ _ _ _ _ h
def f188_206  : Nat → Int32 → Int32 → Int64 → Int32 → Int32 → zS → Option (zS)
  | 0, _, _, _, _, _, _ => none
  | n + 1, x3, x4, x5, x7, x8, s => b188_206 (f188_206 n) x3 x4 x5 x7 x8 s
set_option maxRecDepth 100000 in
theorem k188_206 {X : mX} {D : Nat}   (n : Nat) : ∀ (x3 : Int32) (x4 : Int32) (x5 : Int64) (x7 : Int32) (x8 : Int32) (s : zS) (r : zS) (o1 : Option Value) (o2 : Option Value) (o9 : Option Value) (o10 : Option Value) (o11 : Option Value) (o12 : Option Value) (o13 : Option Value) (o14 : Option Value) (o15 : Option Value), f188_206  n x3 x4 x5 x7 x8 s = some r → Ev X (D + 1) mm188 206 [some (.ref 24), o1, o2, some (.int x3), some (.int x4), some (.long x5), none, some (.int x7), some (.int x8), o9, o10, o11, o12, o13, o14, o15] [] (mk s) (encV r) := by
  induction n with
  | zero => intro x3 x4 x5 x7 x8 s r o1 o2 o9 o10 o11 o12 o13 o14 o15  h; cases h
  | succ n ih => intro x3 x4 x5 x7 x8 s r o1 o2 o9 o10 o11 o12 o13 o14 o15  h; exact kb188_206  ih x3 x4 x5 x7 x8 s r o1 o2 o9 o10 o11 o12 o13 o14 o15  h
def f188_168  (x4 : Int32) (x8 : Int32) (x9 : Int32) (x10 : Int64) (s : zS) : Option (zS) := if ¬ (zL2I (zshrL (zshlL x10 x9) (zi 52))) = (zi 2) then f188_237 x4 ((zshlL x10 x9) &&& (zl 4503599627370495)) (zL2I (zshrL (zshlL x10 x9) (zi 52))) x8 s else f188_237 x4 ((zshlL x10 x9) &&& (zl 4503599627370495)) (zi 1) (x8 + zi 1) s
set_option maxRecDepth 100000 in
theorem k188_168 {X : mX} {D : Nat}   (x4 : Int32) (x8 : Int32) (x9 : Int32) (x10 : Int64) (s : zS) (r : zS) (o1 : Option Value) (o2 : Option Value) (o3 : Option Value) (o5 : Option Value) (o7 : Option Value) (o12 : Option Value) (o13 : Option Value) (o14 : Option Value) (o15 : Option Value)  (h : f188_168  x4 x8 x9 x10 s = some r) : Ev X (D + 1) mm188 168 [some (.ref 24), o1, o2, o3, some (.int x4), o5, none, o7, some (.int x8), some (.int x9), some (.long x10), none, o12, o13, o14, o15] [] (mk s) (encV r) := by
  unfold f188_168 at h
  refine Ev.run (pc' := 183) (ls' := [some (.ref 24), o1, o2, o3, some (.int x4), o5, none, some (.int (zL2I (zshrL (zshlL x10 x9) (zi 52)))), some (.int x8), some (.int x9), some (.long (zshlL x10 x9)), none, o12, o13, o14, o15]) (st' := []) (h' := mk s) 9 rfl ?_
  refine Ev.run (pc' := 194) (ls' := [some (.ref 24), o1, o2, o3, some (.int x4), some (.long ((zshlL x10 x9) &&& (zl 4503599627370495))), none, some (.int (zL2I (zshrL (zshlL x10 x9) (zi 52)))), some (.int x8), some (.int x9), some (.long (zshlL x10 x9)), none, o12, o13, o14, o15]) (st' := [.int (zi 2), .int (zL2I (zshrL (zshlL x10 x9) (zi 52)))]) (h' := mk s) 6 rfl ?_
  refine Ev.icmp_ne (t := 203) rfl rfl (fun hb => ?_) (fun hb => ?_)
  · have h := (if_pos hb).symm.trans h
    refine Ev.run (pc' := 237) (ls' := [some (.ref 24), o1, o2, o3, some (.int x4), some (.long ((zshlL x10 x9) &&& (zl 4503599627370495))), none, some (.int (zL2I (zshrL (zshlL x10 x9) (zi 52)))), some (.int x8), some (.int x9), some (.long (zshlL x10 x9)), none, o12, o13, o14, o15]) (st' := []) (h' := mk s) 1 rfl ?_
    exact k188_237 x4 ((zshlL x10 x9) &&& (zl 4503599627370495)) (zL2I (zshrL (zshlL x10 x9) (zi 52))) x8 s _ _ _ _ _ _ _ _ _ _ _ h
  · have h := (if_neg hb).symm.trans h
    refine Ev.run (pc' := 237) (ls' := [some (.ref 24), o1, o2, o3, some (.int x4), some (.long ((zshlL x10 x9) &&& (zl 4503599627370495))), none, some (.int (zi 1)), some (.int (x8 + zi 1)), some (.int x9), some (.long (zshlL x10 x9)), none, o12, o13, o14, o15]) (st' := []) (h' := mk s) 4 rfl ?_
    exact k188_237 x4 ((zshlL x10 x9) &&& (zl 4503599627370495)) (zi 1) (x8 + zi 1) s _ _ _ _ _ _ _ _ _ _ _ h
def f188_82  (x3 : Int32) (x5 : Int64) (x7 : Int32) (x8 : Int32) (y0 : Int32) (s : zS) : Option (zS) := if y0 ≥ (zi 13) then f188_237 y0 x5 x7 x8 s else if (((zshlL (zI2L x7) (zi 52)) ||| x5) &&& ((zshlL (zl 1) ((zi 52) - ((zi 4) * y0))) - (zl 1))) > (zshlL (zl 1) (((zi 52) - ((zi 4) * y0)) - (zi 1))) then f188_168 y0 x8 ((zi 52) - ((zi 4) * y0)) ((zshrL ((zshlL (zI2L x7) (zi 52)) ||| x5) ((zi 52) - ((zi 4) * y0))) + (zl 1)) s else if ¬ (((zshlL (zI2L x7) (zi 52)) ||| x5) &&& ((zshlL (zl 1) ((zi 52) - ((zi 4) * y0))) - (zl 1))) = (zshlL (zl 1) (((zi 52) - ((zi 4) * y0)) - (zi 1))) then f188_168 y0 x8 ((zi 52) - ((zi 4) * y0)) (zshrL ((zshlL (zI2L x7) (zi 52)) ||| x5) ((zi 52) - ((zi 4) * y0))) s else if ¬ ((zshrL ((zshlL (zI2L x7) (zi 52)) ||| x5) ((zi 52) - ((zi 4) * y0))) &&& (zl 1)) = (zl 1) then f188_168 y0 x8 ((zi 52) - ((zi 4) * y0)) (zshrL ((zshlL (zI2L x7) (zi 52)) ||| x5) ((zi 52) - ((zi 4) * y0))) s else f188_168 y0 x8 ((zi 52) - ((zi 4) * y0)) ((zshrL ((zshlL (zI2L x7) (zi 52)) ||| x5) ((zi 52) - ((zi 4) * y0))) + (zl 1)) s
set_option maxRecDepth 100000 in
theorem k188_82 {X : mX} {D : Nat}   (x3 : Int32) (x5 : Int64) (x7 : Int32) (x8 : Int32) (y0 : Int32) (s : zS) (r : zS) (o1 : Option Value) (o2 : Option Value) (o4 : Option Value) (o9 : Option Value) (o10 : Option Value) (o11 : Option Value) (o12 : Option Value) (o13 : Option Value) (o14 : Option Value) (o15 : Option Value)  (h : f188_82  x3 x5 x7 x8 y0 s = some r) : Ev X (D + 1) mm188 82 [some (.ref 24), o1, o2, some (.int x3), o4, some (.long x5), none, some (.int x7), some (.int x8), o9, o10, o11, o12, o13, o14, o15] [.int y0] (mk s) (encV r) := by
  unfold f188_82 at h
  refine Ev.run (pc' := 88) (ls' := [some (.ref 24), o1, o2, some (.int x3), some (.int y0), some (.long x5), none, some (.int x7), some (.int x8), o9, o10, o11, o12, o13, o14, o15]) (st' := [.int (zi 13), .int y0]) (h' := mk s) 3 rfl ?_
  refine Ev.icmp_ge (t := 237) rfl rfl (fun hb => ?_) (fun hb => ?_)
  · have h := (if_pos hb).symm.trans h
    exact k188_237 y0 x5 x7 x8 s _ _ _ _ _ _ _ _ _ _ _ h
  · have h := (if_neg hb).symm.trans h
    refine Ev.run (pc' := 105) (ls' := [some (.ref 24), o1, o2, some (.int x3), some (.int y0), some (.long x5), none, some (.int x7), some (.int x8), some (.int ((zi 52) - ((zi 4) * y0))), o10, o11, o12, o13, o14, o15]) (st' := [.int (zi 52), .long (zI2L x7)]) (h' := mk s) 9 rfl ?_
    refine Ev.run (pc' := 118) (ls' := [some (.ref 24), o1, o2, some (.int x3), some (.int y0), some (.long x5), none, some (.int x7), some (.int x8), some (.int ((zi 52) - ((zi 4) * y0))), some (.long ((zshlL (zI2L x7) (zi 52)) ||| x5)), none, o12, o13, o14, o15]) (st' := [.long (zl 1), .long (zshlL (zl 1) ((zi 52) - ((zi 4) * y0))), .long ((zshlL (zI2L x7) (zi 52)) ||| x5)]) (h' := mk s) 9 rfl ?_
    refine Ev.run (pc' := 130) (ls' := [some (.ref 24), o1, o2, some (.int x3), some (.int y0), some (.long x5), none, some (.int x7), some (.int x8), some (.int ((zi 52) - ((zi 4) * y0))), some (.long ((zshlL (zI2L x7) (zi 52)) ||| x5)), none, some (.long (((zshlL (zI2L x7) (zi 52)) ||| x5) &&& ((zshlL (zl 1) ((zi 52) - ((zi 4) * y0))) - (zl 1)))), none, some (.long (zshlL (zl 1) (((zi 52) - ((zi 4) * y0)) - (zi 1)))), none]) (st' := []) (h' := mk s) 9 rfl ?_
    refine Ev.run (pc' := 142) (ls' := [some (.ref 24), o1, o2, some (.int x3), some (.int y0), some (.long x5), none, some (.int x7), some (.int x8), some (.int ((zi 52) - ((zi 4) * y0))), some (.long (zshrL ((zshlL (zI2L x7) (zi 52)) ||| x5) ((zi 52) - ((zi 4) * y0)))), none, some (.long (((zshlL (zI2L x7) (zi 52)) ||| x5) &&& ((zshlL (zl 1) ((zi 52) - ((zi 4) * y0))) - (zl 1)))), none, some (.long (zshlL (zl 1) (((zi 52) - ((zi 4) * y0)) - (zi 1)))), none]) (st' := [.int (lg_cmp (((zshlL (zI2L x7) (zi 52)) ||| x5) &&& ((zshlL (zl 1) ((zi 52) - ((zi 4) * y0))) - (zl 1))) (zshlL (zl 1) (((zi 52) - ((zi 4) * y0)) - (zi 1))))]) (h' := mk s) 7 rfl ?_
    refine Ev.ifl_gt (t := 162) rfl rfl (fun hb => ?_) (fun hb => ?_)
    · have h := (if_pos hb).symm.trans h
      refine Ev.run (pc' := 168) (ls' := [some (.ref 24), o1, o2, some (.int x3), some (.int y0), some (.long x5), none, some (.int x7), some (.int x8), some (.int ((zi 52) - ((zi 4) * y0))), some (.long ((zshrL ((zshlL (zI2L x7) (zi 52)) ||| x5) ((zi 52) - ((zi 4) * y0))) + (zl 1))), none, some (.long (((zshlL (zI2L x7) (zi 52)) ||| x5) &&& ((zshlL (zl 1) ((zi 52) - ((zi 4) * y0))) - (zl 1)))), none, some (.long (zshlL (zl 1) (((zi 52) - ((zi 4) * y0)) - (zi 1)))), none]) (st' := []) (h' := mk s) 4 rfl ?_
      exact k188_168 y0 x8 ((zi 52) - ((zi 4) * y0)) ((zshrL ((zshlL (zI2L x7) (zi 52)) ||| x5) ((zi 52) - ((zi 4) * y0))) + (zl 1)) s _ _ _ _ _ _ _ _ _ _ h
    · have h := (if_neg hb).symm.trans h
      refine Ev.run (pc' := 150) (ls' := [some (.ref 24), o1, o2, some (.int x3), some (.int y0), some (.long x5), none, some (.int x7), some (.int x8), some (.int ((zi 52) - ((zi 4) * y0))), some (.long (zshrL ((zshlL (zI2L x7) (zi 52)) ||| x5) ((zi 52) - ((zi 4) * y0)))), none, some (.long (((zshlL (zI2L x7) (zi 52)) ||| x5) &&& ((zshlL (zl 1) ((zi 52) - ((zi 4) * y0))) - (zl 1)))), none, some (.long (zshlL (zl 1) (((zi 52) - ((zi 4) * y0)) - (zi 1)))), none]) (st' := [.int (lg_cmp (((zshlL (zI2L x7) (zi 52)) ||| x5) &&& ((zshlL (zl 1) ((zi 52) - ((zi 4) * y0))) - (zl 1))) (zshlL (zl 1) (((zi 52) - ((zi 4) * y0)) - (zi 1))))]) (h' := mk s) 3 rfl ?_
      refine Ev.ifl_ne (t := 168) rfl rfl (fun hb => ?_) (fun hb => ?_)
      · have h := (if_pos hb).symm.trans h
        exact k188_168 y0 x8 ((zi 52) - ((zi 4) * y0)) (zshrL ((zshlL (zI2L x7) (zi 52)) ||| x5) ((zi 52) - ((zi 4) * y0))) s _ _ _ _ _ _ _ _ _ _ h
      · have h := (if_neg hb).symm.trans h
        refine Ev.run (pc' := 159) (ls' := [some (.ref 24), o1, o2, some (.int x3), some (.int y0), some (.long x5), none, some (.int x7), some (.int x8), some (.int ((zi 52) - ((zi 4) * y0))), some (.long (zshrL ((zshlL (zI2L x7) (zi 52)) ||| x5) ((zi 52) - ((zi 4) * y0)))), none, some (.long (((zshlL (zI2L x7) (zi 52)) ||| x5) &&& ((zshlL (zl 1) ((zi 52) - ((zi 4) * y0))) - (zl 1)))), none, some (.long (zshlL (zl 1) (((zi 52) - ((zi 4) * y0)) - (zi 1)))), none]) (st' := [.int (lg_cmp ((zshrL ((zshlL (zI2L x7) (zi 52)) ||| x5) ((zi 52) - ((zi 4) * y0))) &&& (zl 1)) (zl 1))]) (h' := mk s) 5 rfl ?_
        refine Ev.ifl_ne (t := 168) rfl rfl (fun hb => ?_) (fun hb => ?_)
        · have h := (if_pos hb).symm.trans h
          exact k188_168 y0 x8 ((zi 52) - ((zi 4) * y0)) (zshrL ((zshlL (zI2L x7) (zi 52)) ||| x5) ((zi 52) - ((zi 4) * y0))) s _ _ _ _ _ _ _ _ _ _ h
        · have h := (if_neg hb).symm.trans h
          refine Ev.run (pc' := 168) (ls' := [some (.ref 24), o1, o2, some (.int x3), some (.int y0), some (.long x5), none, some (.int x7), some (.int x8), some (.int ((zi 52) - ((zi 4) * y0))), some (.long ((zshrL ((zshlL (zI2L x7) (zi 52)) ||| x5) ((zi 52) - ((zi 4) * y0))) + (zl 1))), none, some (.long (((zshlL (zI2L x7) (zi 52)) ||| x5) &&& ((zshlL (zl 1) ((zi 52) - ((zi 4) * y0))) - (zl 1)))), none, some (.long (zshlL (zl 1) (((zi 52) - ((zi 4) * y0)) - (zi 1)))), none]) (st' := []) (h' := mk s) 4 rfl ?_
          exact k188_168 y0 x8 ((zi 52) - ((zi 4) * y0)) ((zshrL ((zshlL (zI2L x7) (zi 52)) ||| x5) ((zi 52) - ((zi 4) * y0))) + (zl 1)) s _ _ _ _ _ _ _ _ _ _ h
def f188_58  (x3 : Int32) (x4 : Int32) (x5 : Int64) (x7 : Int32) (y0 : Int32) (s : zS) : Option (zS) := if (s.1 24 17) < zi 0 then f188_206 zF x3 x4 x5 x7 y0 s else if ¬ (s.1 24 17) = zi 0 then f188_82 x3 x5 x7 y0 (s.1 24 17) s else f188_82 x3 x5 x7 y0 (zi 1) s
set_option maxRecDepth 100000 in
theorem k188_58 {X : mX} {D : Nat}   (x3 : Int32) (x4 : Int32) (x5 : Int64) (x7 : Int32) (y0 : Int32) (s : zS) (r : zS) (o1 : Option Value) (o2 : Option Value) (o8 : Option Value) (o9 : Option Value) (o10 : Option Value) (o11 : Option Value) (o12 : Option Value) (o13 : Option Value) (o14 : Option Value) (o15 : Option Value)  (h : f188_58  x3 x4 x5 x7 y0 s = some r) : Ev X (D + 1) mm188 58 [some (.ref 24), o1, o2, some (.int x3), some (.int x4), some (.long x5), none, some (.int x7), o8, o9, o10, o11, o12, o13, o14, o15] [.int y0] (mk s) (encV r) := by
  unfold f188_58 at h
  refine Ev.run (pc' := 64) (ls' := [some (.ref 24), o1, o2, some (.int x3), some (.int x4), some (.long x5), none, some (.int x7), some (.int y0), o9, o10, o11, o12, o13, o14, o15]) (st' := [.int (s.1 24 17)]) (h' := mk s) 3 rfl ?_
  refine Ev.if_lt (t := 206) rfl rfl (fun hb => ?_) (fun hb => ?_)
  · have h := (if_pos hb).symm.trans h
    exact k188_206 zF x3 x4 x5 x7 y0 s _ _ _ _ _ _ _ _ _ _ h
  · have h := (if_neg hb).symm.trans h
    refine Ev.run (pc' := 71) (ls' := [some (.ref 24), o1, o2, some (.int x3), some (.int x4), some (.long x5), none, some (.int x7), some (.int y0), o9, o10, o11, o12, o13, o14, o15]) (st' := [.int (s.1 24 17)]) (h' := mk s) 2 rfl ?_
    refine Ev.if_ne (t := 78) rfl rfl (fun hb => ?_) (fun hb => ?_)
    · have h := (if_pos hb).symm.trans h
      refine Ev.run (pc' := 82) (ls' := [some (.ref 24), o1, o2, some (.int x3), some (.int x4), some (.long x5), none, some (.int x7), some (.int y0), o9, o10, o11, o12, o13, o14, o15]) (st' := [.int (s.1 24 17)]) (h' := mk s) 2 rfl ?_
      exact k188_82 x3 x5 x7 y0 (s.1 24 17) s _ _ _ _ _ _ _ _ _ _ _ h
    · have h := (if_neg hb).symm.trans h
      refine Ev.run (pc' := 82) (ls' := [some (.ref 24), o1, o2, some (.int x3), some (.int x4), some (.long x5), none, some (.int x7), some (.int y0), o9, o10, o11, o12, o13, o14, o15]) (st' := [.int (zi 1)]) (h' := mk s) 2 rfl ?_
      exact k188_82 x3 x5 x7 y0 (zi 1) s _ _ _ _ _ _ _ _ _ _ _ h
def f188_30  (x3 : Int32) (x4 : Int32) (x5 : Int64) (y0 : Int32) (s : zS) : Option (zS) := if x3 ≤ zi 0 then if ¬ x5 = (zl 0) then f188_58 x3 x4 x5 y0 (zi (-1022)) s else f188_58 x3 x4 x5 y0 (zi 0) s else f188_58 x3 x4 x5 y0 (x3 - (zi 1023)) s
set_option maxRecDepth 100000 in
theorem k188_30 {X : mX} {D : Nat}   (x3 : Int32) (x4 : Int32) (x5 : Int64) (y0 : Int32) (s : zS) (r : zS) (o1 : Option Value) (o2 : Option Value) (o7 : Option Value) (o8 : Option Value) (o9 : Option Value) (o10 : Option Value) (o11 : Option Value) (o12 : Option Value) (o13 : Option Value) (o14 : Option Value) (o15 : Option Value)  (h : f188_30  x3 x4 x5 y0 s = some r) : Ev X (D + 1) mm188 30 [some (.ref 24), o1, o2, some (.int x3), some (.int x4), some (.long x5), none, o7, o8, o9, o10, o11, o12, o13, o14, o15] [.int y0] (mk s) (encV r) := by
  unfold f188_30 at h
  refine Ev.run (pc' := 33) (ls' := [some (.ref 24), o1, o2, some (.int x3), some (.int x4), some (.long x5), none, some (.int y0), o8, o9, o10, o11, o12, o13, o14, o15]) (st' := [.int x3]) (h' := mk s) 2 rfl ?_
  refine Ev.if_le (t := 44) rfl rfl (fun hb => ?_) (fun hb => ?_)
  · have h := (if_pos hb).symm.trans h
    refine Ev.run (pc' := 48) (ls' := [some (.ref 24), o1, o2, some (.int x3), some (.int x4), some (.long x5), none, some (.int y0), o8, o9, o10, o11, o12, o13, o14, o15]) (st' := [.int (lg_cmp x5 (zl 0))]) (h' := mk s) 3 rfl ?_
    refine Ev.ifl_ne (t := 55) rfl rfl (fun hb => ?_) (fun hb => ?_)
    · have h := (if_pos hb).symm.trans h
      refine Ev.run (pc' := 58) (ls' := [some (.ref 24), o1, o2, some (.int x3), some (.int x4), some (.long x5), none, some (.int y0), o8, o9, o10, o11, o12, o13, o14, o15]) (st' := [.int (zi (-1022))]) (h' := mk s) 1 rfl ?_
      exact k188_58 x3 x4 x5 y0 (zi (-1022)) s _ _ _ _ _ _ _ _ _ _ _ h
    · have h := (if_neg hb).symm.trans h
      refine Ev.run (pc' := 58) (ls' := [some (.ref 24), o1, o2, some (.int x3), some (.int x4), some (.long x5), none, some (.int y0), o8, o9, o10, o11, o12, o13, o14, o15]) (st' := [.int (zi 0)]) (h' := mk s) 2 rfl ?_
      exact k188_58 x3 x4 x5 y0 (zi 0) s _ _ _ _ _ _ _ _ _ _ _ h
  · have h := (if_neg hb).symm.trans h
    refine Ev.run (pc' := 58) (ls' := [some (.ref 24), o1, o2, some (.int x3), some (.int x4), some (.long x5), none, some (.int y0), o8, o9, o10, o11, o12, o13, o14, o15]) (st' := [.int (x3 - (zi 1023))]) (h' := mk s) 4 rfl ?_
    exact k188_58 x3 x4 x5 y0 (x3 - (zi 1023)) s _ _ _ _ _ _ _ _ _ _ _ h
def f188  (x1 : Int64) (s : zS) : Option (zS) := if ((zL2I (zshrL x1 (zi 52))) &&& (zi 2047)) ≤ zi 0 then f188_30 ((zL2I (zshrL x1 (zi 52))) &&& (zi 2047)) (zi 13) (x1 &&& (zl 4503599627370495)) (zi 0) s else f188_30 ((zL2I (zshrL x1 (zi 52))) &&& (zi 2047)) (zi 13) (x1 &&& (zl 4503599627370495)) (zi 1) s
set_option maxRecDepth 100000 in
theorem k188 {X : mX} {D : Nat} {x1 : Int64} {s : zS} {r : zS}  (h : f188 x1 s = some r) : Ev X (D + 1) mm188 0 [some (.ref 24), some (.long x1), none, none, none, none, none, none, none, none, none, none, none, none, none, none] [] (mk s) (encV r) := by
  unfold f188 at h
  refine Ev.run (pc' := 14) (ls' := [some (.ref 24), some (.long x1), none, some (.int ((zL2I (zshrL x1 (zi 52))) &&& (zi 2047))), some (.int (zi 13)), none, none, none, none, none, none, none, none, none, none, none]) (st' := []) (h' := mk s) 9 rfl ?_
  refine Ev.run (pc' := 22) (ls' := [some (.ref 24), some (.long x1), none, some (.int ((zL2I (zshrL x1 (zi 52))) &&& (zi 2047))), some (.int (zi 13)), some (.long (x1 &&& (zl 4503599627370495))), none, none, none, none, none, none, none, none, none, none]) (st' := [.int ((zL2I (zshrL x1 (zi 52))) &&& (zi 2047))]) (h' := mk s) 5 rfl ?_
  refine Ev.if_le (t := 29) rfl rfl (fun hb => ?_) (fun hb => ?_)
  · have h := (if_pos hb).symm.trans h
    refine Ev.run (pc' := 30) (ls' := [some (.ref 24), some (.long x1), none, some (.int ((zL2I (zshrL x1 (zi 52))) &&& (zi 2047))), some (.int (zi 13)), some (.long (x1 &&& (zl 4503599627370495))), none, none, none, none, none, none, none, none, none, none]) (st' := [.int (zi 0)]) (h' := mk s) 1 rfl ?_
    exact k188_30 ((zL2I (zshrL x1 (zi 52))) &&& (zi 2047)) (zi 13) (x1 &&& (zl 4503599627370495)) (zi 0) s _ _ _ _ _ _ _ _ _ _ _ _ h
  · have h := (if_neg hb).symm.trans h
    refine Ev.run (pc' := 30) (ls' := [some (.ref 24), some (.long x1), none, some (.int ((zL2I (zshrL x1 (zi 52))) &&& (zi 2047))), some (.int (zi 13)), some (.long (x1 &&& (zl 4503599627370495))), none, none, none, none, none, none, none, none, none, none]) (st' := [.int (zi 1)]) (h' := mk s) 2 rfl ?_
    exact k188_30 ((zL2I (zshrL x1 (zi 52))) &&& (zi 2047)) (zi 13) (x1 &&& (zl 4503599627370495)) (zi 1) s _ _ _ _ _ _ _ _ _ _ _ _ h
/-! 185 FModel.fixed(I)V -/
def b185_60 (rec60 : Int32 → Int32 → zS → Option (zS)) (x1 : Int32) (x2 : Int32) (s : zS) : Option (zS) := if x2 < (-x1) then some s else zb1 (f165 x2 s) (fun v2 s1 => zb0 (f181 ((zi 48) + v2) s1) (fun s3 => rec60 x1 (x2 + zi (-1)) s3))
set_option maxRecDepth 100000 in
theorem kb185_60 {X : mX} {D : Nat} {rec60 : Int32 → Int32 → zS → Option (zS)} (hrec60 : ∀ (x1 : Int32) (x2 : Int32) (s : zS) (r : zS) , rec60 x1 x2 s = some r → Ev X (D + 3) mm185 60 [some (.ref 24), some (.int x1), some (.int x2)] [] (mk s) (encV r)) (x1 : Int32) (x2 : Int32) (s : zS) (r : zS)   (h : b185_60 rec60 x1 x2 s = some r) : Ev X (D + 3) mm185 60 [some (.ref 24), some (.int x1), some (.int x2)] [] (mk s) (encV r) := by
  unfold b185_60 at h
  refine Ev.run (pc' := 63) (ls' := [some (.ref 24), some (.int x1), some (.int x2)]) (st' := [.int (-x1), .int x2]) (h' := mk s) 3 rfl ?_
  refine Ev.icmp_lt (t := 84) rfl rfl (fun hb => ?_) (fun hb => ?_)
  · have h := (if_pos hb).symm.trans h
    first | (obtain rfl := Option.some.inj h) | (cases h)
    exact Ev.fin rfl rfl
  · have h := (if_neg hb).symm.trans h
    refine Ev.run (pc' := 71) (ls' := [some (.ref 24), some (.int x1), some (.int x2)]) (st' := [.int x2, .ref 24, .int (zi 48), .ref 24]) (h' := mk s) 4 rfl ?_
    obtain ⟨v2, s1, hq, h⟩ := zb1_some h
    refine Ev.call (M' := mm165) (v := some (.int v2)) (h' := mk s1) rfl rfl rfl (Nat.le_of_ble_eq_true rfl) (k165 hq) ?_
    refine Ev.run (pc' := 75) (ls' := [some (.ref 24), some (.int x1), some (.int x2)]) (st' := [.int ((zi 48) + v2), .ref 24]) (h' := mk s1) 1 rfl ?_
    obtain ⟨s3, hq, h⟩ := zb0_some h
    refine Ev.call (M' := mm181) (v := none) (h' := mk s3) rfl rfl rfl (Nat.le_of_ble_eq_true rfl) (k181 hq) ?_
    refine Ev.run (pc' := 60) (ls' := [some (.ref 24), some (.int x1), some (.int (x2 + zi (-1)))]) (st' := []) (h' := mk s3) 2 rfl ?_
    exact hrec60 x1 (x2 + zi (-1)) s3 _ h
def f185_60  : Nat → Int32 → Int32 → zS → Option (zS)
  | 0, _, _, _ => none
  | n + 1, x1, x2, s => b185_60 (f185_60 n) x1 x2 s
set_option maxRecDepth 100000 in
theorem k185_60 {X : mX} {D : Nat}   (n : Nat) : ∀ (x1 : Int32) (x2 : Int32) (s : zS) (r : zS) , f185_60  n x1 x2 s = some r → Ev X (D + 3) mm185 60 [some (.ref 24), some (.int x1), some (.int x2)] [] (mk s) (encV r) := by
  induction n with
  | zero => intro x1 x2 s r   h; cases h
  | succ n ih => intro x1 x2 s r   h; exact kb185_60  ih x1 x2 s r   h
def f185_52  (x1 : Int32) (s : zS) : Option (zS) := zb0 (f181 (zi 46) s) (fun s1 => f185_60 zF x1 (zi (-1)) s1)
set_option maxRecDepth 100000 in
theorem k185_52 {X : mX} {D : Nat}   (x1 : Int32) (s : zS) (r : zS) (o2 : Option Value)  (h : f185_52  x1 s = some r) : Ev X (D + 3) mm185 52 [some (.ref 24), some (.int x1), o2] [] (mk s) (encV r) := by
  unfold f185_52 at h
  refine Ev.run (pc' := 55) (ls' := [some (.ref 24), some (.int x1), o2]) (st' := [.int (zi 46), .ref 24]) (h' := mk s) 2 rfl ?_
  obtain ⟨s1, hq, h⟩ := zb0_some h
  refine Ev.call (M' := mm181) (v := none) (h' := mk s1) rfl rfl rfl (Nat.le_of_ble_eq_true rfl) (k181 hq) ?_
  refine Ev.run (pc' := 60) (ls' := [some (.ref 24), some (.int x1), some (.int (zi (-1)))]) (st' := []) (h' := mk s1) 2 rfl ?_
  exact k185_60 zF x1 (zi (-1)) s1 _ h
def b185_15 (rec15 : Int32 → Int32 → zS → Option (zS)) (x1 : Int32) (x2 : Int32) (s : zS) : Option (zS) := if x2 < zi 0 then if x1 > zi 0 then f185_52 x1 s else if (r180 (s.1 24 15) (zi 2) s) = zi 0 then f185_60 zF x1 (zi (-1)) s else f185_52 x1 s else zb1 (f165 x2 s) (fun v2 s1 => zb0 (f181 ((zi 48) + v2) s1) (fun s3 => rec15 x1 (x2 + zi (-1)) s3))
set_option maxRecDepth 100000 in
theorem kb185_15 {X : mX} {D : Nat} {rec15 : Int32 → Int32 → zS → Option (zS)} (hrec15 : ∀ (x1 : Int32) (x2 : Int32) (s : zS) (r : zS) , rec15 x1 x2 s = some r → Ev X (D + 3) mm185 15 [some (.ref 24), some (.int x1), some (.int x2)] [] (mk s) (encV r)) (x1 : Int32) (x2 : Int32) (s : zS) (r : zS)   (h : b185_15 rec15 x1 x2 s = some r) : Ev X (D + 3) mm185 15 [some (.ref 24), some (.int x1), some (.int x2)] [] (mk s) (encV r) := by
  unfold b185_15 at h
  refine Ev.run (pc' := 16) (ls' := [some (.ref 24), some (.int x1), some (.int x2)]) (st' := [.int x2]) (h' := mk s) 1 rfl ?_
  refine Ev.if_lt (t := 37) rfl rfl (fun hb => ?_) (fun hb => ?_)
  · have h := (if_pos hb).symm.trans h
    refine Ev.run (pc' := 38) (ls' := [some (.ref 24), some (.int x1), some (.int x2)]) (st' := [.int x1]) (h' := mk s) 1 rfl ?_
    refine Ev.if_gt (t := 52) rfl rfl (fun hb => ?_) (fun hb => ?_)
    · have h := (if_pos hb).symm.trans h
      exact k185_52 x1 s _ _ h
    · have h := (if_neg hb).symm.trans h
      refine Ev.run (pc' := 46) (ls' := [some (.ref 24), some (.int x1), some (.int x2)]) (st' := [.int (zi 2), .int (s.1 24 15)]) (h' := mk s) 3 rfl ?_
      refine Ev.call (M' := mm180) (v := some (.int (r180 (s.1 24 15) (zi 2) s))) (h' := mk s) rfl rfl rfl (Nat.le_of_ble_eq_true rfl) (k180 (x0 := (s.1 24 15)) (x1 := (zi 2)) (s := s) (v := r180 (s.1 24 15) (zi 2) s)  rfl) ?_
      refine Ev.if_eq (t := 58) rfl rfl (fun hb => ?_) (fun hb => ?_)
      · have h := (if_pos hb).symm.trans h
        refine Ev.run (pc' := 60) (ls' := [some (.ref 24), some (.int x1), some (.int (zi (-1)))]) (st' := []) (h' := mk s) 2 rfl ?_
        exact k185_60 zF x1 (zi (-1)) s _ h
      · have h := (if_neg hb).symm.trans h
        exact k185_52 x1 s _ _ h
  · have h := (if_neg hb).symm.trans h
    refine Ev.run (pc' := 24) (ls' := [some (.ref 24), some (.int x1), some (.int x2)]) (st' := [.int x2, .ref 24, .int (zi 48), .ref 24]) (h' := mk s) 4 rfl ?_
    obtain ⟨v2, s1, hq, h⟩ := zb1_some h
    refine Ev.call (M' := mm165) (v := some (.int v2)) (h' := mk s1) rfl rfl rfl (Nat.le_of_ble_eq_true rfl) (k165 hq) ?_
    refine Ev.run (pc' := 28) (ls' := [some (.ref 24), some (.int x1), some (.int x2)]) (st' := [.int ((zi 48) + v2), .ref 24]) (h' := mk s1) 1 rfl ?_
    obtain ⟨s3, hq, h⟩ := zb0_some h
    refine Ev.call (M' := mm181) (v := none) (h' := mk s3) rfl rfl rfl (Nat.le_of_ble_eq_true rfl) (k181 hq) ?_
    refine Ev.run (pc' := 15) (ls' := [some (.ref 24), some (.int x1), some (.int (x2 + zi (-1)))]) (st' := []) (h' := mk s3) 2 rfl ?_
    exact hrec15 x1 (x2 + zi (-1)) s3 _ h
def f185_15  : Nat → Int32 → Int32 → zS → Option (zS)
  | 0, _, _, _ => none
  | n + 1, x1, x2, s => b185_15 (f185_15 n) x1 x2 s
set_option maxRecDepth 100000 in
theorem k185_15 {X : mX} {D : Nat}   (n : Nat) : ∀ (x1 : Int32) (x2 : Int32) (s : zS) (r : zS) , f185_15  n x1 x2 s = some r → Ev X (D + 3) mm185 15 [some (.ref 24), some (.int x1), some (.int x2)] [] (mk s) (encV r) := by
  induction n with
  | zero => intro x1 x2 s r   h; cases h
  | succ n ih => intro x1 x2 s r   h; exact kb185_15  ih x1 x2 s r   h
def f185  (x1 : Int32) (s : zS) : Option (zS) := zb0 (f163 (-x1) s) (fun s1 => f185_15 zF x1 (r264 (s1.1 24 27) (zi 0) s1) s1)
set_option maxRecDepth 100000 in
theorem k185 {X : mX} {D : Nat} {x1 : Int32} {s : zS} {r : zS}  (h : f185 x1 s = some r) : Ev X (D + 3) mm185 0 [some (.ref 24), some (.int x1), none] [] (mk s) (encV r) := by
  unfold f185 at h
  refine Ev.run (pc' := 3) (ls' := [some (.ref 24), some (.int x1), none]) (st' := [.int (-x1), .ref 24]) (h' := mk s) 3 rfl ?_
  obtain ⟨s1, hq, h⟩ := zb0_some h
  refine Ev.call (M' := mm163) (v := none) (h' := mk s1) rfl rfl rfl (Nat.le_of_ble_eq_true rfl) (k163 hq) ?_
  refine Ev.run (pc' := 11) (ls' := [some (.ref 24), some (.int x1), none]) (st' := [.int (zi 0), .int (s1.1 24 27)]) (h' := mk s1) 3 rfl ?_
  refine Ev.call (M' := mm264) (v := some (.int (r264 (s1.1 24 27) (zi 0) s1))) (h' := mk s1) rfl rfl rfl (Nat.le_of_ble_eq_true rfl) (k264 (x0 := (s1.1 24 27)) (x1 := (zi 0)) (s := s1) (v := r264 (s1.1 24 27) (zi 0) s1)  rfl) ?_
  refine Ev.run (pc' := 15) (ls' := [some (.ref 24), some (.int x1), some (.int (r264 (s1.1 24 27) (zi 0) s1))]) (st' := []) (h' := mk s1) 1 rfl ?_
  exact k185_15 zF x1 (r264 (s1.1 24 27) (zi 0) s1) s1 _ h
