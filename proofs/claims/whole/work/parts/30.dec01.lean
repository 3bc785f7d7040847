/-! decompiled methods, 1; printed by wip/gen/gen8.py -/
/-! 44 F$Spec.digitsFrom(LFormatPress$Line;I)I -/
def b44_4 (rec4 : Int32 → Int32 → Int32 → zS → Option (Int32 × zS)) (x1 : Int32) (x2 : Int32) (x3 : Int32) (s : zS) : Option (Int32 × zS) := if x3 ≥ (r16 3 s) then some (x2, s) else zb1 (f17 3 x3 s) (fun v2 s1 => if (r45 v2 s1) = zi 0 then some (x2, s1) else rec4 x1 (x2 + zi 1) (x3 + zi 1) s1)
set_option maxRecDepth 100000 in
theorem kb44_4 {X : mX} {D : Nat} {rec4 : Int32 → Int32 → Int32 → zS → Option (Int32 × zS)} (hrec4 : ∀ (x1 : Int32) (x2 : Int32) (x3 : Int32) (s : zS) (r : Int32 × zS) , rec4 x1 x2 x3 s = some r → Ev X (D + 1) mm44 4 [some (.ref 3), some (.int x1), some (.int x2), some (.int x3)] [] (mk s) (encI r)) (x1 : Int32) (x2 : Int32) (x3 : Int32) (s : zS) (r : Int32 × zS)   (h : b44_4 rec4 x1 x2 x3 s = some r) : Ev X (D + 1) mm44 4 [some (.ref 3), some (.int x1), some (.int x2), some (.int x3)] [] (mk s) (encI r) := by
  unfold b44_4 at h
  refine Ev.run (pc' := 6) (ls' := [some (.ref 3), some (.int x1), some (.int x2), some (.int x3)]) (st' := [.ref 3, .int x3]) (h' := mk s) 2 rfl ?_
  refine Ev.call (M' := mm16) (v := some (.int (r16 3 s))) (h' := mk s) rfl rfl rfl (Nat.le_of_ble_eq_true rfl) (k16 (aa := 3) (s := s) (v := r16 3 s) (by decide) rfl) ?_
  refine Ev.icmp_ge (t := 32) rfl rfl (fun hb => ?_) (fun hb => ?_)
  · have h := (if_pos hb).symm.trans h
    refine Ev.run (pc' := 33) (ls' := [some (.ref 3), some (.int x1), some (.int x2), some (.int x3)]) (st' := [.int x2]) (h' := mk s) 1 rfl ?_
    cases h
    exact Ev.fin rfl rfl
  · have h := (if_neg hb).symm.trans h
    refine Ev.run (pc' := 14) (ls' := [some (.ref 3), some (.int x1), some (.int x2), some (.int x3)]) (st' := [.int x3, .ref 3]) (h' := mk s) 2 rfl ?_
    obtain ⟨v2, s1, hq, h⟩ := zb1_some h
    refine Ev.call (M' := mm17) (v := some (.int v2)) (h' := mk s1) rfl rfl rfl (Nat.le_of_ble_eq_true rfl) (k17 (by decide) hq) ?_
    refine Ev.call (M' := mm45) (v := some (.int (r45 v2 s1))) (h' := mk s1) rfl rfl rfl (Nat.le_of_ble_eq_true rfl) (k45 (x0 := v2) (s := s1) (v := r45 v2 s1)  rfl) ?_
    refine Ev.if_eq (t := 32) rfl rfl (fun hb => ?_) (fun hb => ?_)
    · have h := (if_pos hb).symm.trans h
      refine Ev.run (pc' := 33) (ls' := [some (.ref 3), some (.int x1), some (.int x2), some (.int x3)]) (st' := [.int x2]) (h' := mk s1) 1 rfl ?_
      cases h
      exact Ev.fin rfl rfl
    · have h := (if_neg hb).symm.trans h
      refine Ev.run (pc' := 4) (ls' := [some (.ref 3), some (.int x1), some (.int (x2 + zi 1)), some (.int (x3 + zi 1))]) (st' := []) (h' := mk s1) 3 rfl ?_
      exact hrec4 x1 (x2 + zi 1) (x3 + zi 1) s1 _ h
def f44_4  : Nat → Int32 → Int32 → Int32 → zS → Option (Int32 × zS)
  | 0, _, _, _, _ => none
  | n + 1, x1, x2, x3, s => b44_4 (f44_4 n) x1 x2 x3 s
set_option maxRecDepth 100000 in
theorem k44_4 {X : mX} {D : Nat}   (n : Nat) : ∀ (x1 : Int32) (x2 : Int32) (x3 : Int32) (s : zS) (r : Int32 × zS) , f44_4  n x1 x2 x3 s = some r → Ev X (D + 1) mm44 4 [some (.ref 3), some (.int x1), some (.int x2), some (.int x3)] [] (mk s) (encI r) := by
  induction n with
  | zero => intro x1 x2 x3 s r   h; cases h
  | succ n ih => intro x1 x2 x3 s r   h; exact kb44_4  ih x1 x2 x3 s r   h
def f44  (x1 : Int32) (s : zS) : Option (Int32 × zS) := f44_4 zF x1 (zi 0) x1 s
set_option maxRecDepth 100000 in
theorem k44 {X : mX} {D : Nat} {x1 : Int32} {s : zS} {r : Int32 × zS}  (h : f44 x1 s = some r) : Ev X (D + 1) mm44 0 [some (.ref 3), some (.int x1), none, none] [] (mk s) (encI r) := by
  unfold f44 at h
  refine Ev.run (pc' := 4) (ls' := [some (.ref 3), some (.int x1), some (.int (zi 0)), some (.int x1)]) (st' := []) (h' := mk s) 4 rfl ?_
  exact k44_4 zF x1 (zi 0) x1 s _ h
/-! 46 F$Spec.valueOf(LFormatPress$Line;I)I -/
def b46_5 (rec5 : Int32 → Int32 → Int32 → zS → Option (Int32 × zS)) (x2 : Int32) (x3 : Int32) (x4 : Int32) (s : zS) : Option (Int32 × zS) := if x4 ≥ (r265 x2 (zi 4) s) then some (x3, s) else zb1 (f17 3 ((s.1 7 0) + x4) s) (fun v2 s1 => rec5 x2 (((x3 * (zi 10)) + v2) - (zi 48)) (x4 + zi 1) s1)
set_option maxRecDepth 100000 in
theorem kb46_5 {X : mX} {D : Nat} {rec5 : Int32 → Int32 → Int32 → zS → Option (Int32 × zS)} (hrec5 : ∀ (x2 : Int32) (x3 : Int32) (x4 : Int32) (s : zS) (r : Int32 × zS) , rec5 x2 x3 x4 s = some r → Ev X (D + 1) mm46 5 [some (.ref 7), some (.ref 3), some (.int x2), some (.int x3), some (.int x4)] [] (mk s) (encI r)) (x2 : Int32) (x3 : Int32) (x4 : Int32) (s : zS) (r : Int32 × zS)   (h : b46_5 rec5 x2 x3 x4 s = some r) : Ev X (D + 1) mm46 5 [some (.ref 7), some (.ref 3), some (.int x2), some (.int x3), some (.int x4)] [] (mk s) (encI r) := by
  unfold b46_5 at h
  refine Ev.run (pc' := 9) (ls' := [some (.ref 7), some (.ref 3), some (.int x2), some (.int x3), some (.int x4)]) (st' := [.int (zi 4), .int x2, .int x4]) (h' := mk s) 3 rfl ?_
  refine Ev.call (M' := mm265) (v := some (.int (r265 x2 (zi 4) s))) (h' := mk s) rfl rfl rfl (Nat.le_of_ble_eq_true rfl) (k265 (x0 := x2) (x1 := (zi 4)) (s := s) (v := r265 x2 (zi 4) s)  rfl) ?_
  refine Ev.icmp_ge (t := 41) rfl rfl (fun hb => ?_) (fun hb => ?_)
  · have h := (if_pos hb).symm.trans h
    refine Ev.run (pc' := 42) (ls' := [some (.ref 7), some (.ref 3), some (.int x2), some (.int x3), some (.int x4)]) (st' := [.int x3]) (h' := mk s) 1 rfl ?_
    cases h
    exact Ev.fin rfl rfl
  · have h := (if_neg hb).symm.trans h
    refine Ev.run (pc' := 27) (ls' := [some (.ref 7), some (.ref 3), some (.int x2), some (.int x3), some (.int x4)]) (st' := [.int ((s.1 7 0) + x4), .ref 3, .int (x3 * (zi 10))]) (h' := mk s) 8 rfl ?_
    obtain ⟨v2, s1, hq, h⟩ := zb1_some h
    refine Ev.call (M' := mm17) (v := some (.int v2)) (h' := mk s1) rfl rfl rfl (Nat.le_of_ble_eq_true rfl) (k17 (by decide) hq) ?_
    refine Ev.run (pc' := 5) (ls' := [some (.ref 7), some (.ref 3), some (.int x2), some (.int (((x3 * (zi 10)) + v2) - (zi 48))), some (.int (x4 + zi 1))]) (st' := []) (h' := mk s1) 6 rfl ?_
    exact hrec5 x2 (((x3 * (zi 10)) + v2) - (zi 48)) (x4 + zi 1) s1 _ h
def f46_5  : Nat → Int32 → Int32 → Int32 → zS → Option (Int32 × zS)
  | 0, _, _, _, _ => none
  | n + 1, x2, x3, x4, s => b46_5 (f46_5 n) x2 x3 x4 s
set_option maxRecDepth 100000 in
theorem k46_5 {X : mX} {D : Nat}   (n : Nat) : ∀ (x2 : Int32) (x3 : Int32) (x4 : Int32) (s : zS) (r : Int32 × zS) , f46_5  n x2 x3 x4 s = some r → Ev X (D + 1) mm46 5 [some (.ref 7), some (.ref 3), some (.int x2), some (.int x3), some (.int x4)] [] (mk s) (encI r) := by
  induction n with
  | zero => intro x2 x3 x4 s r   h; cases h
  | succ n ih => intro x2 x3 x4 s r   h; exact kb46_5  ih x2 x3 x4 s r   h
def f46  (x2 : Int32) (s : zS) : Option (Int32 × zS) := f46_5 zF x2 (zi 0) (zi 0) s
set_option maxRecDepth 100000 in
theorem k46 {X : mX} {D : Nat} {x2 : Int32} {s : zS} {r : Int32 × zS}  (h : f46 x2 s = some r) : Ev X (D + 1) mm46 0 [some (.ref 7), some (.ref 3), some (.int x2), none, none] [] (mk s) (encI r) := by
  unfold f46 at h
  refine Ev.run (pc' := 5) (ls' := [some (.ref 7), some (.ref 3), some (.int x2), some (.int (zi 0)), some (.int (zi 0))]) (st' := []) (h' := mk s) 4 rfl ?_
  exact k46_5 zF x2 (zi 0) (zi 0) s _ h
/-! 39 F$Spec.scanNumber(LFormatPress$Line;)Z -/
def f39_88  (x2 : Int32) (y0 : Int32) (s : zS) : Option (Int32 × zS) := zb1 (f46 x2 s) (fun v2 s1 => if mBit y0 then some (y0, setI (setI s1 7 1 v2) 7 0 ((s1.1 7 0) + (x2 + (zi 1)))) else none)
set_option maxRecDepth 100000 in
theorem k39_88 {X : mX} {D : Nat}   (x2 : Int32) (y0 : Int32) (s : zS) (r : Int32 × zS) (o3 : Option Value)  (h : f39_88  x2 y0 s = some r) : Ev X (D + 2) mm39 88 [some (.ref 7), some (.ref 3), some (.int x2), o3] [.int y0] (mk s) (encI r) := by
  unfold f39_88 at h
  refine Ev.run (pc' := 93) (ls' := [some (.ref 7), some (.ref 3), some (.int x2), some (.int y0)]) (st' := [.int x2, .ref 3, .ref 7, .ref 7]) (h' := mk s) 5 rfl ?_
  obtain ⟨v2, s1, hq, h⟩ := zb1_some h
  refine Ev.call (M' := mm46) (v := some (.int v2)) (h' := mk s1) rfl rfl rfl (Nat.le_of_ble_eq_true rfl) (k46 hq) ?_
  refine Ev.step (pc' := 99) rfl (put_3_1 rfl) ?_
  refine Ev.run (pc' := 108) (ls' := [some (.ref 7), some (.ref 3), some (.int x2), some (.int y0)]) (st' := [.int ((s1.1 7 0) + (x2 + (zi 1))), .ref 7]) (h' := mk (setI s1 7 1 v2)) 7 rfl ?_
  refine Ev.step (pc' := 111) rfl (put_3_0 rfl) ?_
  refine Ev.run (pc' := 112) (ls' := [some (.ref 7), some (.ref 3), some (.int x2), some (.int y0)]) (st' := [.int y0]) (h' := mk (setI (setI s1 7 1 v2) 7 0 ((s1.1 7 0) + (x2 + (zi 1))))) 1 rfl ?_
  obtain ⟨hx, h⟩ := zif h
  cases h
  exact Ev.finB rfl rfl hx
def f39   (s : zS) : Option (Int32 × zS) := zb1 (f17 3 (s.1 7 0) (setI s 7 1 (zi 0))) (fun v2 s1 => if ¬ v2 = (zi 60) then zb1 (f44 (s1.1 7 0) s1) (fun v4 s3 => if v4 = zi 0 then some (zi 1, s3) else zb1 (f17 3 ((s3.1 7 0) + v4) s3) (fun v6 s5 => if v6 = (zi 36) then if v4 > (zi 4) then f39_88 v4 (zi 0) s5 else zb1 (f17 3 (s5.1 7 0) s5) (fun v8 s7 => if v8 = (zi 48) then f39_88 v4 (zi 0) s7 else f39_88 v4 (zi 1) s7) else some (zi 1, s5))) else some (zi 1, setI (setI s1 7 1 (zi (-1))) 7 0 ((s1.1 7 0) + (zi 1))))
set_option maxRecDepth 100000 in
theorem k39 {X : mX} {D : Nat}  {s : zS} {r : Int32 × zS}  (h : f39  s = some r) : Ev X (D + 2) mm39 0 [some (.ref 7), some (.ref 3), none, none] [] (mk s) (encI r) := by
  unfold f39 at h
  refine Ev.run (pc' := 2) (ls' := [some (.ref 7), some (.ref 3), none, none]) (st' := [.int (zi 0), .ref 7]) (h' := mk s) 2 rfl ?_
  refine Ev.step (pc' := 5) rfl (put_3_1 rfl) ?_
  refine Ev.run (pc' := 10) (ls' := [some (.ref 7), some (.ref 3), none, none]) (st' := [.int (s.1 7 0), .ref 3]) (h' := mk (setI s 7 1 (zi 0))) 3 rfl ?_
  obtain ⟨v2, s1, hq, h⟩ := zb1_some h
  refine Ev.call (M' := mm17) (v := some (.int v2)) (h' := mk s1) rfl rfl rfl (Nat.le_of_ble_eq_true rfl) (k17 (by decide) hq) ?_
  refine Ev.run (pc' := 15) (ls' := [some (.ref 7), some (.ref 3), none, none]) (st' := [.int (zi 60), .int v2]) (h' := mk s1) 1 rfl ?_
  refine Ev.icmp_ne (t := 35) rfl rfl (fun hb => ?_) (fun hb => ?_)
  · have h := (if_pos hb).symm.trans h
    refine Ev.run (pc' := 40) (ls' := [some (.ref 7), some (.ref 3), none, none]) (st' := [.int (s1.1 7 0), .ref 3]) (h' := mk s1) 3 rfl ?_
    obtain ⟨v4, s3, hq, h⟩ := zb1_some h
    refine Ev.call (M' := mm44) (v := some (.int v4)) (h' := mk s3) rfl rfl rfl (Nat.le_of_ble_eq_true rfl) (k44 hq) ?_
    refine Ev.run (pc' := 45) (ls' := [some (.ref 7), some (.ref 3), some (.int v4), none]) (st' := [.int v4]) (h' := mk s3) 2 rfl ?_
    refine Ev.if_eq (t := 63) rfl rfl (fun hb => ?_) (fun hb => ?_)
    · have h := (if_pos hb).symm.trans h
      refine Ev.run (pc' := 64) (ls' := [some (.ref 7), some (.ref 3), some (.int v4), none]) (st' := [.int (zi 1)]) (h' := mk s3) 1 rfl ?_
      cases h
      exact Ev.fin rfl rfl
    · have h := (if_neg hb).symm.trans h
      refine Ev.run (pc' := 55) (ls' := [some (.ref 7), some (.ref 3), some (.int v4), none]) (st' := [.int ((s3.1 7 0) + v4), .ref 3]) (h' := mk s3) 5 rfl ?_
      obtain ⟨v6, s5, hq, h⟩ := zb1_some h
      refine Ev.call (M' := mm17) (v := some (.int v6)) (h' := mk s5) rfl rfl rfl (Nat.le_of_ble_eq_true rfl) (k17 (by decide) hq) ?_
      refine Ev.run (pc' := 60) (ls' := [some (.ref 7), some (.ref 3), some (.int v4), none]) (st' := [.int (zi 36), .int v6]) (h' := mk s5) 1 rfl ?_
      refine Ev.icmp_eq (t := 65) rfl rfl (fun hb => ?_) (fun hb => ?_)
      · have h := (if_pos hb).symm.trans h
        refine Ev.run (pc' := 67) (ls' := [some (.ref 7), some (.ref 3), some (.int v4), none]) (st' := [.int (zi 4), .int v4]) (h' := mk s5) 2 rfl ?_
        refine Ev.icmp_gt (t := 87) rfl rfl (fun hb => ?_) (fun hb => ?_)
        · have h := (if_pos hb).symm.trans h
          refine Ev.run (pc' := 88) (ls' := [some (.ref 7), some (.ref 3), some (.int v4), none]) (st' := [.int (zi 0)]) (h' := mk s5) 1 rfl ?_
          exact k39_88 v4 (zi 0) s5 _ _ h
        · have h := (if_neg hb).symm.trans h
          refine Ev.run (pc' := 75) (ls' := [some (.ref 7), some (.ref 3), some (.int v4), none]) (st' := [.int (s5.1 7 0), .ref 3]) (h' := mk s5) 3 rfl ?_
          obtain ⟨v8, s7, hq, h⟩ := zb1_some h
          refine Ev.call (M' := mm17) (v := some (.int v8)) (h' := mk s7) rfl rfl rfl (Nat.le_of_ble_eq_true rfl) (k17 (by decide) hq) ?_
          refine Ev.run (pc' := 80) (ls' := [some (.ref 7), some (.ref 3), some (.int v4), none]) (st' := [.int (zi 48), .int v8]) (h' := mk s7) 1 rfl ?_
          refine Ev.icmp_eq (t := 87) rfl rfl (fun hb => ?_) (fun hb => ?_)
          · have h := (if_pos hb).symm.trans h
            refine Ev.run (pc' := 88) (ls' := [some (.ref 7), some (.ref 3), some (.int v4), none]) (st' := [.int (zi 0)]) (h' := mk s7) 1 rfl ?_
            exact k39_88 v4 (zi 0) s7 _ _ h
          · have h := (if_neg hb).symm.trans h
            refine Ev.run (pc' := 88) (ls' := [some (.ref 7), some (.ref 3), some (.int v4), none]) (st' := [.int (zi 1)]) (h' := mk s7) 2 rfl ?_
            exact k39_88 v4 (zi 1) s7 _ _ h
      · have h := (if_neg hb).symm.trans h
        refine Ev.run (pc' := 64) (ls' := [some (.ref 7), some (.ref 3), some (.int v4), none]) (st' := [.int (zi 1)]) (h' := mk s5) 1 rfl ?_
        cases h
        exact Ev.fin rfl rfl
  · have h := (if_neg hb).symm.trans h
    refine Ev.run (pc' := 20) (ls' := [some (.ref 7), some (.ref 3), none, none]) (st' := [.int (zi (-1)), .ref 7]) (h' := mk s1) 2 rfl ?_
    refine Ev.step (pc' := 23) rfl (put_3_1 rfl) ?_
    refine Ev.run (pc' := 30) (ls' := [some (.ref 7), some (.ref 3), none, none]) (st' := [.int ((s1.1 7 0) + (zi 1)), .ref 7]) (h' := mk (setI s1 7 1 (zi (-1)))) 5 rfl ?_
    refine Ev.step (pc' := 33) rfl (put_3_0 rfl) ?_
    refine Ev.run (pc' := 34) (ls' := [some (.ref 7), some (.ref 3), none, none]) (st' := [.int (zi 1)]) (h' := mk (setI (setI s1 7 1 (zi (-1))) 7 0 ((s1.1 7 0) + (zi 1)))) 1 rfl ?_
    cases h
    exact Ev.fin rfl rfl
/-! 51 F$Spec.has(I)Z -/
def r51 (x1 : Int32) (s : zS) : Int32 := if ((s.1 7 2) &&& x1) = zi 0 then zi 0 else zi 1
set_option maxRecDepth 100000 in
theorem k51 {X : mX} {D : Nat} {x1 : Int32} {s : zS} {v : Int32} (h : r51 x1 s = v) : Ev X D mm51 0 [some (.ref 7), some (.int x1)] [] (mk s) (encI (v, s)) := by
  unfold r51 at h
  refine Ev.run (pc' := 6) (ls' := [some (.ref 7), some (.int x1)]) (st' := [.int ((s.1 7 2) &&& x1)]) (h' := mk s) 4 rfl ?_
  refine Ev.if_eq (t := 13) rfl rfl (fun hb => ?_) (fun hb => ?_)
  · have h := (if_pos hb).symm.trans h
    refine Ev.run (pc' := 14) (ls' := [some (.ref 7), some (.int x1)]) (st' := [.int (zi 0)]) (h' := mk s) 1 rfl ?_
    subst h
    exact Ev.fin rfl rfl
  · have h := (if_neg hb).symm.trans h
    refine Ev.run (pc' := 14) (ls' := [some (.ref 7), some (.int x1)]) (st' := [.int (zi 1)]) (h' := mk s) 2 rfl ?_
    subst h
    exact Ev.fin rfl rfl
/-! 40 F$Spec.scanFlags(LFormatPress$Line;)V -/
def f40_63 (rec15 : Int32 → zS → Option (zS)) (x2 : Int32) (x3 : Int32) (y1 : Int32) (s : zS) : Option (zS) := if mBit y1 then rec15 (x2 + zi 1) (setI (setI (setI s 7 3 y1) 7 2 ((s.1 7 2) ||| (zshl (zi 1) x3))) 7 0 (x2 + (zi 1))) else none
set_option maxRecDepth 100000 in
theorem k40_63 {X : mX} {D : Nat} {rec15 : Int32 → zS → Option (zS)} (hrec15 : ∀ (x2 : Int32) (s : zS) (r : zS) (o3 : Option Value), rec15 x2 s = some r → Ev X (D + 5) mm40 15 [some (.ref 7), some (.ref 3), some (.int x2), o3] [] (mk s) (encV r)) (x2 : Int32) (x3 : Int32) (y1 : Int32) (s : zS) (r : zS)   (h : f40_63 rec15 x2 x3 y1 s = some r) : Ev X (D + 5) mm40 63 [some (.ref 7), some (.ref 3), some (.int x2), some (.int x3)] [.int y1, .ref 7] (mk s) (encV r) := by
  unfold f40_63 at h
  obtain ⟨hx, h⟩ := zif h
  refine Ev.step (pc' := 66) rfl (put_3_3 hx rfl) ?_
  refine Ev.run (pc' := 75) (ls' := [some (.ref 7), some (.ref 3), some (.int x2), some (.int x3)]) (st' := [.int ((s.1 7 2) ||| (zshl (zi 1) x3)), .ref 7]) (h' := mk (setI s 7 3 y1)) 7 rfl ?_
  refine Ev.step (pc' := 78) rfl (put_3_2 rfl) ?_
  refine Ev.run (pc' := 82) (ls' := [some (.ref 7), some (.ref 3), some (.int x2), some (.int x3)]) (st' := [.int (x2 + (zi 1)), .ref 7]) (h' := mk (setI (setI s 7 3 y1) 7 2 ((s.1 7 2) ||| (zshl (zi 1) x3)))) 4 rfl ?_
  refine Ev.step (pc' := 85) rfl (put_3_0 rfl) ?_
  refine Ev.run (pc' := 15) (ls' := [some (.ref 7), some (.ref 3), some (.int (x2 + zi 1)), some (.int x3)]) (st' := []) (h' := mk (setI (setI (setI s 7 3 y1) 7 2 ((s.1 7 2) ||| (zshl (zi 1) x3))) 7 0 (x2 + (zi 1)))) 2 rfl ?_
  exact hrec15 (x2 + zi 1) (setI (setI (setI s 7 3 y1) 7 2 ((s.1 7 2) ||| (zshl (zi 1) x3))) 7 0 (x2 + (zi 1))) _ _ h
def b40_15 (rec15 : Int32 → zS → Option (zS)) (x2 : Int32) (s : zS) : Option (zS) := if x2 ≥ (r16 3 s) then some s else zb1 (f17 3 x2 s) (fun v2 s1 => if (zidx 4 (zI2C v2)) ≥ zi 0 then if ¬ (s1.1 7 3) = zi 0 then f40_63 rec15 x2 (zidx 4 (zI2C v2)) (zi 1) s1 else if (r51 (zshl (zi 1) (zidx 4 (zI2C v2))) s1) = zi 0 then f40_63 rec15 x2 (zidx 4 (zI2C v2)) (zi 0) s1 else f40_63 rec15 x2 (zidx 4 (zI2C v2)) (zi 1) s1 else some s1)
set_option maxRecDepth 100000 in
theorem kb40_15 {X : mX} {D : Nat} {rec15 : Int32 → zS → Option (zS)} (hrec15 : ∀ (x2 : Int32) (s : zS) (r : zS) (o3 : Option Value), rec15 x2 s = some r → Ev X (D + 5) mm40 15 [some (.ref 7), some (.ref 3), some (.int x2), o3] [] (mk s) (encV r)) (x2 : Int32) (s : zS) (r : zS) (o3 : Option Value)  (h : b40_15 rec15 x2 s = some r) : Ev X (D + 5) mm40 15 [some (.ref 7), some (.ref 3), some (.int x2), o3] [] (mk s) (encV r) := by
  unfold b40_15 at h
  refine Ev.run (pc' := 17) (ls' := [some (.ref 7), some (.ref 3), some (.int x2), o3]) (st' := [.ref 3, .int x2]) (h' := mk s) 2 rfl ?_
  refine Ev.call (M' := mm16) (v := some (.int (r16 3 s))) (h' := mk s) rfl rfl rfl (Nat.le_of_ble_eq_true rfl) (k16 (aa := 3) (s := s) (v := r16 3 s) (by decide) rfl) ?_
  refine Ev.icmp_ge (t := 91) rfl rfl (fun hb => ?_) (fun hb => ?_)
  · have h := (if_pos hb).symm.trans h
    cases h
    exact Ev.fin rfl rfl
  · have h := (if_neg hb).symm.trans h
    refine Ev.run (pc' := 27) (ls' := [some (.ref 7), some (.ref 3), some (.int x2), o3]) (st' := [.int x2, .ref 3, .ref (mRO + 3 + 2 * 4)]) (h' := mk s) 3 rfl ?_
    obtain ⟨v2, s1, hq, h⟩ := zb1_some h
    refine Ev.call (M' := mm17) (v := some (.int v2)) (h' := mk s1) rfl rfl rfl (Nat.le_of_ble_eq_true rfl) (k17 (by decide) hq) ?_
    refine Ev.run (pc' := 31) (ls' := [some (.ref 7), some (.ref 3), some (.int x2), o3]) (st' := [.int (zI2C v2), .ref (mRO + 3 + 2 * 4)]) (h' := mk s1) 1 rfl ?_
    refine Ev.call (M' := mm243) (as := [.ref (mRO + 3 + 2 * 4), .int (zI2C v2)]) (rest := []) (v := some (.int (zidx 4 (zI2C v2)))) (h' := mk s1) rfl (litcall rfl rfl (by decide) rfl rfl) rfl (Nat.le_of_ble_eq_true rfl) (kindexof (by decide)) ?_
    refine Ev.run (pc' := 36) (ls' := [some (.ref 7), some (.ref 3), some (.int x2), some (.int (zidx 4 (zI2C v2)))]) (st' := [.int (zidx 4 (zI2C v2))]) (h' := mk s1) 2 rfl ?_
    refine Ev.if_ge (t := 40) rfl rfl (fun hb => ?_) (fun hb => ?_)
    · have h := (if_pos hb).symm.trans h
      refine Ev.run (pc' := 45) (ls' := [some (.ref 7), some (.ref 3), some (.int x2), some (.int (zidx 4 (zI2C v2)))]) (st' := [.int (s1.1 7 3), .ref 7]) (h' := mk s1) 3 rfl ?_
      refine Ev.if_ne (t := 58) rfl rfl (fun hb => ?_) (fun hb => ?_)
      · have h := (if_pos hb).symm.trans h
        refine Ev.run (pc' := 63) (ls' := [some (.ref 7), some (.ref 3), some (.int x2), some (.int (zidx 4 (zI2C v2)))]) (st' := [.int (zi 1), .ref 7]) (h' := mk s1) 2 rfl ?_
        exact k40_63 hrec15 x2 (zidx 4 (zI2C v2)) (zi 1) s1 _ h
      · have h := (if_neg hb).symm.trans h
        refine Ev.run (pc' := 52) (ls' := [some (.ref 7), some (.ref 3), some (.int x2), some (.int (zidx 4 (zI2C v2)))]) (st' := [.int (zshl (zi 1) (zidx 4 (zI2C v2))), .ref 7, .ref 7]) (h' := mk s1) 4 rfl ?_
        refine Ev.call (M' := mm51) (v := some (.int (r51 (zshl (zi 1) (zidx 4 (zI2C v2))) s1))) (h' := mk s1) rfl rfl rfl (Nat.le_of_ble_eq_true rfl) (k51 (x1 := (zshl (zi 1) (zidx 4 (zI2C v2)))) (s := s1) (v := r51 (zshl (zi 1) (zidx 4 (zI2C v2))) s1)  rfl) ?_
        refine Ev.if_eq (t := 62) rfl rfl (fun hb => ?_) (fun hb => ?_)
        · have h := (if_pos hb).symm.trans h
          refine Ev.run (pc' := 63) (ls' := [some (.ref 7), some (.ref 3), some (.int x2), some (.int (zidx 4 (zI2C v2)))]) (st' := [.int (zi 0), .ref 7]) (h' := mk s1) 1 rfl ?_
          exact k40_63 hrec15 x2 (zidx 4 (zI2C v2)) (zi 0) s1 _ h
        · have h := (if_neg hb).symm.trans h
          refine Ev.run (pc' := 63) (ls' := [some (.ref 7), some (.ref 3), some (.int x2), some (.int (zidx 4 (zI2C v2)))]) (st' := [.int (zi 1), .ref 7]) (h' := mk s1) 2 rfl ?_
          exact k40_63 hrec15 x2 (zidx 4 (zI2C v2)) (zi 1) s1 _ h
    · have h := (if_neg hb).symm.trans h
      cases h
      exact Ev.fin rfl rfl
def f40_15  : Nat → Int32 → zS → Option (zS)
  | 0, _, _ => none
  | n + 1, x2, s => b40_15 (f40_15 n) x2 s
set_option maxRecDepth 100000 in
theorem k40_15 {X : mX} {D : Nat}   (n : Nat) : ∀ (x2 : Int32) (s : zS) (r : zS) (o3 : Option Value), f40_15  n x2 s = some r → Ev X (D + 5) mm40 15 [some (.ref 7), some (.ref 3), some (.int x2), o3] [] (mk s) (encV r) := by
  induction n with
  | zero => intro x2 s r o3  h; cases h
  | succ n ih => intro x2 s r o3  h; exact kb40_15  ih x2 s r o3  h
def f40   (s : zS) : Option (zS) := f40_15 zF (s.1 7 0) (setI (setI s 7 2 (zi 0)) 7 3 (zi 0))
set_option maxRecDepth 100000 in
theorem k40 {X : mX} {D : Nat}  {s : zS} {r : zS}  (h : f40  s = some r) : Ev X (D + 5) mm40 0 [some (.ref 7), some (.ref 3), none, none] [] (mk s) (encV r) := by
  unfold f40 at h
  refine Ev.run (pc' := 2) (ls' := [some (.ref 7), some (.ref 3), none, none]) (st' := [.int (zi 0), .ref 7]) (h' := mk s) 2 rfl ?_
  refine Ev.step (pc' := 5) rfl (put_3_2 rfl) ?_
  refine Ev.run (pc' := 7) (ls' := [some (.ref 7), some (.ref 3), none, none]) (st' := [.int (zi 0), .ref 7]) (h' := mk (setI s 7 2 (zi 0))) 2 rfl ?_
  refine Ev.step (pc' := 10) rfl (put_3_3 (by decide) rfl) ?_
  refine Ev.run (pc' := 15) (ls' := [some (.ref 7), some (.ref 3), some (.int (s.1 7 0)), none]) (st' := []) (h' := mk (setI (setI s 7 2 (zi 0)) 7 3 (zi 0))) 3 rfl ?_
  exact k40_15 zF (s.1 7 0) (setI (setI s 7 2 (zi 0)) 7 3 (zi 0)) _ _ h
/-! 41 F$Spec.scanWidth(LFormatPress$Line;)Z -/
def f41   (s : zS) : Option (Int32 × zS) := zb1 (f44 (s.1 7 0) s) (fun v2 s1 => zb1 (f46 v2 s1) (fun v4 s3 => if v2 > (zi 4) then some (zi 0, setI (setI s3 7 4 v4) 7 0 ((s3.1 7 0) + v2)) else if v4 > (zi 2000) then some (zi 0, setI (setI s3 7 4 v4) 7 0 ((s3.1 7 0) + v2)) else some (zi 1, setI (setI s3 7 4 v4) 7 0 ((s3.1 7 0) + v2))))
set_option maxRecDepth 100000 in
theorem k41 {X : mX} {D : Nat}  {s : zS} {r : Int32 × zS}  (h : f41  s = some r) : Ev X (D + 2) mm41 0 [some (.ref 7), some (.ref 3), none] [] (mk s) (encI r) := by
  unfold f41 at h
  refine Ev.run (pc' := 5) (ls' := [some (.ref 7), some (.ref 3), none]) (st' := [.int (s.1 7 0), .ref 3]) (h' := mk s) 3 rfl ?_
  obtain ⟨v2, s1, hq, h⟩ := zb1_some h
  refine Ev.call (M' := mm44) (v := some (.int v2)) (h' := mk s1) rfl rfl rfl (Nat.le_of_ble_eq_true rfl) (k44 hq) ?_
  refine Ev.run (pc' := 13) (ls' := [some (.ref 7), some (.ref 3), some (.int v2)]) (st' := [.int v2, .ref 3, .ref 7, .ref 7]) (h' := mk s1) 5 rfl ?_
  obtain ⟨v4, s3, hq, h⟩ := zb1_some h
  refine Ev.call (M' := mm46) (v := some (.int v4)) (h' := mk s3) rfl rfl rfl (Nat.le_of_ble_eq_true rfl) (k46 hq) ?_
  refine Ev.step (pc' := 19) rfl (put_3_4 rfl) ?_
  refine Ev.run (pc' := 26) (ls' := [some (.ref 7), some (.ref 3), some (.int v2)]) (st' := [.int ((s3.1 7 0) + v2), .ref 7]) (h' := mk (setI s3 7 4 v4)) 5 rfl ?_
  refine Ev.step (pc' := 29) rfl (put_3_0 rfl) ?_
  refine Ev.run (pc' := 31) (ls' := [some (.ref 7), some (.ref 3), some (.int v2)]) (st' := [.int (zi 4), .int v2]) (h' := mk (setI (setI s3 7 4 v4) 7 0 ((s3.1 7 0) + v2))) 2 rfl ?_
  refine Ev.icmp_gt (t := 48) rfl rfl (fun hb => ?_) (fun hb => ?_)
  · have h := (if_pos hb).symm.trans h
    refine Ev.run (pc' := 49) (ls' := [some (.ref 7), some (.ref 3), some (.int v2)]) (st' := [.int (zi 0)]) (h' := mk (setI (setI s3 7 4 v4) 7 0 ((s3.1 7 0) + v2))) 1 rfl ?_
    cases h
    exact Ev.fin rfl rfl
  · have h := (if_neg hb).symm.trans h
    refine Ev.run (pc' := 41) (ls' := [some (.ref 7), some (.ref 3), some (.int v2)]) (st' := [.int (zi 2000), .int v4]) (h' := mk (setI (setI s3 7 4 v4) 7 0 ((s3.1 7 0) + v2))) 3 rfl ?_
    refine Ev.icmp_gt (t := 48) rfl rfl (fun hb => ?_) (fun hb => ?_)
    · have h := (if_pos hb).symm.trans h
      refine Ev.run (pc' := 49) (ls' := [some (.ref 7), some (.ref 3), some (.int v2)]) (st' := [.int (zi 0)]) (h' := mk (setI (setI s3 7 4 v4) 7 0 ((s3.1 7 0) + v2))) 1 rfl ?_
      cases h
      exact Ev.fin rfl rfl
    · have h := (if_neg hb).symm.trans h
      refine Ev.run (pc' := 49) (ls' := [some (.ref 7), some (.ref 3), some (.int v2)]) (st' := [.int (zi 1)]) (h' := mk (setI (setI s3 7 4 v4) 7 0 ((s3.1 7 0) + v2))) 2 rfl ?_
      cases h
      exact Ev.fin rfl rfl
/-! 42 F$Spec.scanPrecision(LFormatPress$Line;)Z -/
def f42   (s : zS) : Option (Int32 × zS) := zb1 (f17 3 (s.1 7 0) (setI s 7 5 (zi (-1)))) (fun v2 s1 => if v2 = (zi 46) then zb1 (f44 ((s1.1 7 0) + (zi 1)) (setI s1 7 0 ((s1.1 7 0) + (zi 1)))) (fun v4 s3 => zb1 (f46 v4 s3) (fun v6 s5 => if v4 ≤ zi 0 then some (zi 0, setI (setI s5 7 5 v6) 7 0 ((s5.1 7 0) + v4)) else if v4 > (zi 4) then some (zi 0, setI (setI s5 7 5 v6) 7 0 ((s5.1 7 0) + v4)) else if v6 > (zi 1100) then some (zi 0, setI (setI s5 7 5 v6) 7 0 ((s5.1 7 0) + v4)) else some (zi 1, setI (setI s5 7 5 v6) 7 0 ((s5.1 7 0) + v4)))) else some (zi 1, s1))
set_option maxRecDepth 100000 in
theorem k42 {X : mX} {D : Nat}  {s : zS} {r : Int32 × zS}  (h : f42  s = some r) : Ev X (D + 2) mm42 0 [some (.ref 7), some (.ref 3), none] [] (mk s) (encI r) := by
  unfold f42 at h
  refine Ev.run (pc' := 2) (ls' := [some (.ref 7), some (.ref 3), none]) (st' := [.int (zi (-1)), .ref 7]) (h' := mk s) 2 rfl ?_
  refine Ev.step (pc' := 5) rfl (put_3_5 rfl) ?_
  refine Ev.run (pc' := 10) (ls' := [some (.ref 7), some (.ref 3), none]) (st' := [.int (s.1 7 0), .ref 3]) (h' := mk (setI s 7 5 (zi (-1)))) 3 rfl ?_
  obtain ⟨v2, s1, hq, h⟩ := zb1_some h
  refine Ev.call (M' := mm17) (v := some (.int v2)) (h' := mk s1) rfl rfl rfl (Nat.le_of_ble_eq_true rfl) (k17 (by decide) hq) ?_
  refine Ev.run (pc' := 15) (ls' := [some (.ref 7), some (.ref 3), none]) (st' := [.int (zi 46), .int v2]) (h' := mk s1) 1 rfl ?_
  refine Ev.icmp_eq (t := 20) rfl rfl (fun hb => ?_) (fun hb => ?_)
  · have h := (if_pos hb).symm.trans h
    refine Ev.run (pc' := 27) (ls' := [some (.ref 7), some (.ref 3), none]) (st' := [.int ((s1.1 7 0) + (zi 1)), .ref 7]) (h' := mk s1) 5 rfl ?_
    refine Ev.step (pc' := 30) rfl (put_3_0 rfl) ?_
    refine Ev.run (pc' := 35) (ls' := [some (.ref 7), some (.ref 3), none]) (st' := [.int ((s1.1 7 0) + (zi 1)), .ref 3]) (h' := mk (setI s1 7 0 ((s1.1 7 0) + (zi 1)))) 3 rfl ?_
    obtain ⟨v4, s3, hq, h⟩ := zb1_some h
    refine Ev.call (M' := mm44) (v := some (.int v4)) (h' := mk s3) rfl rfl rfl (Nat.le_of_ble_eq_true rfl) (k44 hq) ?_
    refine Ev.run (pc' := 43) (ls' := [some (.ref 7), some (.ref 3), some (.int v4)]) (st' := [.int v4, .ref 3, .ref 7, .ref 7]) (h' := mk s3) 5 rfl ?_
    obtain ⟨v6, s5, hq, h⟩ := zb1_some h
    refine Ev.call (M' := mm46) (v := some (.int v6)) (h' := mk s5) rfl rfl rfl (Nat.le_of_ble_eq_true rfl) (k46 hq) ?_
    refine Ev.step (pc' := 49) rfl (put_3_5 rfl) ?_
    refine Ev.run (pc' := 56) (ls' := [some (.ref 7), some (.ref 3), some (.int v4)]) (st' := [.int ((s5.1 7 0) + v4), .ref 7]) (h' := mk (setI s5 7 5 v6)) 5 rfl ?_
    refine Ev.step (pc' := 59) rfl (put_3_0 rfl) ?_
    refine Ev.run (pc' := 60) (ls' := [some (.ref 7), some (.ref 3), some (.int v4)]) (st' := [.int v4]) (h' := mk (setI (setI s5 7 5 v6) 7 0 ((s5.1 7 0) + v4))) 1 rfl ?_
    refine Ev.if_le (t := 82) rfl rfl (fun hb => ?_) (fun hb => ?_)
    · have h := (if_pos hb).symm.trans h
      refine Ev.run (pc' := 83) (ls' := [some (.ref 7), some (.ref 3), some (.int v4)]) (st' := [.int (zi 0)]) (h' := mk (setI (setI s5 7 5 v6) 7 0 ((s5.1 7 0) + v4))) 1 rfl ?_
      cases h
      exact Ev.fin rfl rfl
    · have h := (if_neg hb).symm.trans h
      refine Ev.run (pc' := 65) (ls' := [some (.ref 7), some (.ref 3), some (.int v4)]) (st' := [.int (zi 4), .int v4]) (h' := mk (setI (setI s5 7 5 v6) 7 0 ((s5.1 7 0) + v4))) 2 rfl ?_
      refine Ev.icmp_gt (t := 82) rfl rfl (fun hb => ?_) (fun hb => ?_)
      · have h := (if_pos hb).symm.trans h
        refine Ev.run (pc' := 83) (ls' := [some (.ref 7), some (.ref 3), some (.int v4)]) (st' := [.int (zi 0)]) (h' := mk (setI (setI s5 7 5 v6) 7 0 ((s5.1 7 0) + v4))) 1 rfl ?_
        cases h
        exact Ev.fin rfl rfl
      · have h := (if_neg hb).symm.trans h
        refine Ev.run (pc' := 75) (ls' := [some (.ref 7), some (.ref 3), some (.int v4)]) (st' := [.int (zi 1100), .int v6]) (h' := mk (setI (setI s5 7 5 v6) 7 0 ((s5.1 7 0) + v4))) 3 rfl ?_
        refine Ev.icmp_gt (t := 82) rfl rfl (fun hb => ?_) (fun hb => ?_)
        · have h := (if_pos hb).symm.trans h
          refine Ev.run (pc' := 83) (ls' := [some (.ref 7), some (.ref 3), some (.int v4)]) (st' := [.int (zi 0)]) (h' := mk (setI (setI s5 7 5 v6) 7 0 ((s5.1 7 0) + v4))) 1 rfl ?_
          cases h
          exact Ev.fin rfl rfl
        · have h := (if_neg hb).symm.trans h
          refine Ev.run (pc' := 83) (ls' := [some (.ref 7), some (.ref 3), some (.int v4)]) (st' := [.int (zi 1)]) (h' := mk (setI (setI s5 7 5 v6) 7 0 ((s5.1 7 0) + v4))) 2 rfl ?_
          cases h
          exact Ev.fin rfl rfl
  · have h := (if_neg hb).symm.trans h
    refine Ev.run (pc' := 19) (ls' := [some (.ref 7), some (.ref 3), none]) (st' := [.int (zi 1)]) (h' := mk s1) 1 rfl ?_
    cases h
    exact Ev.fin rfl rfl
/-! 43 F$Spec.scanConversion(LFormatPress$Line;)Z -/
def f43_59  (x2 : Int32) (y1 : Int32) (s : zS) : Option (Int32 × zS) := if y1 = (zi 116) then zb1 (f17 3 (s.1 7 0) (setI s 7 6 y1)) (fun v2 s1 => if v2 < zi 0 then some (zi 0, setI (setI s1 7 7 v2) 7 0 ((s1.1 7 0) + (zi 1))) else if (zidx 6 (zI2C v2)) < zi 0 then some (zi 0, setI (setI s1 7 7 v2) 7 0 ((s1.1 7 0) + (zi 1))) else some (zi 1, setI (setI s1 7 7 v2) 7 0 ((s1.1 7 0) + (zi 1)))) else if x2 < zi 0 then some (zi 0, setI s 7 6 y1) else if (zidx 5 (zI2C x2)) < zi 0 then some (zi 0, setI s 7 6 y1) else some (zi 1, setI s 7 6 y1)
set_option maxRecDepth 100000 in
theorem k43_59 {X : mX} {D : Nat}   (x2 : Int32) (y1 : Int32) (s : zS) (r : Int32 × zS)   (h : f43_59  x2 y1 s = some r) : Ev X (D + 5) mm43 59 [some (.ref 7), some (.ref 3), some (.int x2)] [.int y1, .ref 7] (mk s) (encI r) := by
  unfold f43_59 at h
  refine Ev.step (pc' := 62) rfl (put_3_6 rfl) ?_
  refine Ev.run (pc' := 68) (ls' := [some (.ref 7), some (.ref 3), some (.int x2)]) (st' := [.int (zi 116), .int y1]) (h' := mk (setI s 7 6 y1)) 3 rfl ?_
  refine Ev.icmp_eq (t := 91) rfl rfl (fun hb => ?_) (fun hb => ?_)
  · have h := (if_pos hb).symm.trans h
    refine Ev.run (pc' := 97) (ls' := [some (.ref 7), some (.ref 3), some (.int x2)]) (st' := [.int (s.1 7 0), .ref 3, .ref 7]) (h' := mk (setI s 7 6 y1)) 4 rfl ?_
    obtain ⟨v2, s1, hq, h⟩ := zb1_some h
    refine Ev.call (M' := mm17) (v := some (.int v2)) (h' := mk s1) rfl rfl rfl (Nat.le_of_ble_eq_true rfl) (k17 (by decide) hq) ?_
    refine Ev.step (pc' := 103) rfl (put_3_7 rfl) ?_
    refine Ev.run (pc' := 110) (ls' := [some (.ref 7), some (.ref 3), some (.int x2)]) (st' := [.int ((s1.1 7 0) + (zi 1)), .ref 7]) (h' := mk (setI s1 7 7 v2)) 5 rfl ?_
    refine Ev.step (pc' := 113) rfl (put_3_0 rfl) ?_
    refine Ev.run (pc' := 117) (ls' := [some (.ref 7), some (.ref 3), some (.int x2)]) (st' := [.int v2]) (h' := mk (setI (setI s1 7 7 v2) 7 0 ((s1.1 7 0) + (zi 1)))) 2 rfl ?_
    refine Ev.if_lt (t := 137) rfl rfl (fun hb => ?_) (fun hb => ?_)
    · have h := (if_pos hb).symm.trans h
      refine Ev.run (pc' := 138) (ls' := [some (.ref 7), some (.ref 3), some (.int x2)]) (st' := [.int (zi 0)]) (h' := mk (setI (setI s1 7 7 v2) 7 0 ((s1.1 7 0) + (zi 1)))) 1 rfl ?_
      cases h
      exact Ev.fin rfl rfl
    · have h := (if_neg hb).symm.trans h
      refine Ev.run (pc' := 127) (ls' := [some (.ref 7), some (.ref 3), some (.int x2)]) (st' := [.int (zI2C v2), .ref (mRO + 3 + 2 * 6)]) (h' := mk (setI (setI s1 7 7 v2) 7 0 ((s1.1 7 0) + (zi 1)))) 4 rfl ?_
      refine Ev.call (M' := mm243) (as := [.ref (mRO + 3 + 2 * 6), .int (zI2C v2)]) (rest := []) (v := some (.int (zidx 6 (zI2C v2)))) (h' := mk (setI (setI s1 7 7 v2) 7 0 ((s1.1 7 0) + (zi 1)))) rfl (litcall rfl rfl (by decide) rfl rfl) rfl (Nat.le_of_ble_eq_true rfl) (kindexof (by decide)) ?_
      refine Ev.if_lt (t := 137) rfl rfl (fun hb => ?_) (fun hb => ?_)
      · have h := (if_pos hb).symm.trans h
        refine Ev.run (pc' := 138) (ls' := [some (.ref 7), some (.ref 3), some (.int x2)]) (st' := [.int (zi 0)]) (h' := mk (setI (setI s1 7 7 v2) 7 0 ((s1.1 7 0) + (zi 1)))) 1 rfl ?_
        cases h
        exact Ev.fin rfl rfl
      · have h := (if_neg hb).symm.trans h
        refine Ev.run (pc' := 138) (ls' := [some (.ref 7), some (.ref 3), some (.int x2)]) (st' := [.int (zi 1)]) (h' := mk (setI (setI s1 7 7 v2) 7 0 ((s1.1 7 0) + (zi 1)))) 2 rfl ?_
        cases h
        exact Ev.fin rfl rfl
  · have h := (if_neg hb).symm.trans h
    refine Ev.run (pc' := 72) (ls' := [some (.ref 7), some (.ref 3), some (.int x2)]) (st' := [.int x2]) (h' := mk (setI s 7 6 y1)) 1 rfl ?_
    refine Ev.if_lt (t := 89) rfl rfl (fun hb => ?_) (fun hb => ?_)
    · have h := (if_pos hb).symm.trans h
      refine Ev.run (pc' := 90) (ls' := [some (.ref 7), some (.ref 3), some (.int x2)]) (st' := [.int (zi 0)]) (h' := mk (setI s 7 6 y1)) 1 rfl ?_
      cases h
      exact Ev.fin rfl rfl
    · have h := (if_neg hb).symm.trans h
      refine Ev.run (pc' := 79) (ls' := [some (.ref 7), some (.ref 3), some (.int x2)]) (st' := [.int (zI2C x2), .ref (mRO + 3 + 2 * 5)]) (h' := mk (setI s 7 6 y1)) 3 rfl ?_
      refine Ev.call (M' := mm243) (as := [.ref (mRO + 3 + 2 * 5), .int (zI2C x2)]) (rest := []) (v := some (.int (zidx 5 (zI2C x2)))) (h' := mk (setI s 7 6 y1)) rfl (litcall rfl rfl (by decide) rfl rfl) rfl (Nat.le_of_ble_eq_true rfl) (kindexof (by decide)) ?_
      refine Ev.if_lt (t := 89) rfl rfl (fun hb => ?_) (fun hb => ?_)
      · have h := (if_pos hb).symm.trans h
        refine Ev.run (pc' := 90) (ls' := [some (.ref 7), some (.ref 3), some (.int x2)]) (st' := [.int (zi 0)]) (h' := mk (setI s 7 6 y1)) 1 rfl ?_
        cases h
        exact Ev.fin rfl rfl
      · have h := (if_neg hb).symm.trans h
        refine Ev.run (pc' := 90) (ls' := [some (.ref 7), some (.ref 3), some (.int x2)]) (st' := [.int (zi 1)]) (h' := mk (setI s 7 6 y1)) 2 rfl ?_
        cases h
        exact Ev.fin rfl rfl
def f43_37  (x2 : Int32) (y1 : Int32) (s : zS) : Option (Int32 × zS) := if mBit y1 then if y1 = zi 0 then f43_59 x2 x2 (setI s 7 8 y1) else f43_59 x2 ((x2 + (zi 97)) - (zi 65)) (setI s 7 8 y1) else none
set_option maxRecDepth 100000 in
theorem k43_37 {X : mX} {D : Nat}   (x2 : Int32) (y1 : Int32) (s : zS) (r : Int32 × zS)   (h : f43_37  x2 y1 s = some r) : Ev X (D + 5) mm43 37 [some (.ref 7), some (.ref 3), some (.int x2)] [.int y1, .ref 7] (mk s) (encI r) := by
  unfold f43_37 at h
  obtain ⟨hx, h⟩ := zif h
  refine Ev.step (pc' := 40) rfl (put_3_8 hx rfl) ?_
  refine Ev.run (pc' := 45) (ls' := [some (.ref 7), some (.ref 3), some (.int x2)]) (st' := [.int y1, .ref 7]) (h' := mk (setI s 7 8 y1)) 3 rfl ?_
  refine Ev.if_eq (t := 58) rfl rfl (fun hb => ?_) (fun hb => ?_)
  · have h := (if_pos hb).symm.trans h
    refine Ev.run (pc' := 59) (ls' := [some (.ref 7), some (.ref 3), some (.int x2)]) (st' := [.int x2, .ref 7]) (h' := mk (setI s 7 8 y1)) 1 rfl ?_
    exact k43_59 x2 x2 (setI s 7 8 y1) _ h
  · have h := (if_neg hb).symm.trans h
    refine Ev.run (pc' := 59) (ls' := [some (.ref 7), some (.ref 3), some (.int x2)]) (st' := [.int ((x2 + (zi 97)) - (zi 65)), .ref 7]) (h' := mk (setI s 7 8 y1)) 6 rfl ?_
    exact k43_59 x2 ((x2 + (zi 97)) - (zi 65)) (setI s 7 8 y1) _ h
def f43   (s : zS) : Option (Int32 × zS) := zb1 (f17 3 (s.1 7 0) s) (fun v2 s1 => if v2 < (zi 65) then f43_37 v2 (zi 0) (setI s1 7 0 ((s1.1 7 0) + (zi 1))) else if v2 > (zi 90) then f43_37 v2 (zi 0) (setI s1 7 0 ((s1.1 7 0) + (zi 1))) else f43_37 v2 (zi 1) (setI s1 7 0 ((s1.1 7 0) + (zi 1))))
set_option maxRecDepth 100000 in
theorem k43 {X : mX} {D : Nat}  {s : zS} {r : Int32 × zS}  (h : f43  s = some r) : Ev X (D + 5) mm43 0 [some (.ref 7), some (.ref 3), none] [] (mk s) (encI r) := by
  unfold f43 at h
  refine Ev.run (pc' := 5) (ls' := [some (.ref 7), some (.ref 3), none]) (st' := [.int (s.1 7 0), .ref 3]) (h' := mk s) 3 rfl ?_
  obtain ⟨v2, s1, hq, h⟩ := zb1_some h
  refine Ev.call (M' := mm17) (v := some (.int v2)) (h' := mk s1) rfl rfl rfl (Nat.le_of_ble_eq_true rfl) (k17 (by decide) hq) ?_
  refine Ev.run (pc' := 16) (ls' := [some (.ref 7), some (.ref 3), some (.int v2)]) (st' := [.int ((s1.1 7 0) + (zi 1)), .ref 7]) (h' := mk s1) 6 rfl ?_
  refine Ev.step (pc' := 19) rfl (put_3_0 rfl) ?_
  refine Ev.run (pc' := 23) (ls' := [some (.ref 7), some (.ref 3), some (.int v2)]) (st' := [.int (zi 65), .int v2, .ref 7]) (h' := mk (setI s1 7 0 ((s1.1 7 0) + (zi 1)))) 3 rfl ?_
  refine Ev.icmp_lt (t := 36) rfl rfl (fun hb => ?_) (fun hb => ?_)
  · have h := (if_pos hb).symm.trans h
    refine Ev.run (pc' := 37) (ls' := [some (.ref 7), some (.ref 3), some (.int v2)]) (st' := [.int (zi 0), .ref 7]) (h' := mk (setI s1 7 0 ((s1.1 7 0) + (zi 1)))) 1 rfl ?_
    exact k43_37 v2 (zi 0) (setI s1 7 0 ((s1.1 7 0) + (zi 1))) _ h
  · have h := (if_neg hb).symm.trans h
    refine Ev.run (pc' := 29) (ls' := [some (.ref 7), some (.ref 3), some (.int v2)]) (st' := [.int (zi 90), .int v2, .ref 7]) (h' := mk (setI s1 7 0 ((s1.1 7 0) + (zi 1)))) 2 rfl ?_
    refine Ev.icmp_gt (t := 36) rfl rfl (fun hb => ?_) (fun hb => ?_)
    · have h := (if_pos hb).symm.trans h
      refine Ev.run (pc' := 37) (ls' := [some (.ref 7), some (.ref 3), some (.int v2)]) (st' := [.int (zi 0), .ref 7]) (h' := mk (setI s1 7 0 ((s1.1 7 0) + (zi 1)))) 1 rfl ?_
      exact k43_37 v2 (zi 0) (setI s1 7 0 ((s1.1 7 0) + (zi 1))) _ h
    · have h := (if_neg hb).symm.trans h
      refine Ev.run (pc' := 37) (ls' := [some (.ref 7), some (.ref 3), some (.int v2)]) (st' := [.int (zi 1), .ref 7]) (h' := mk (setI s1 7 0 ((s1.1 7 0) + (zi 1)))) 2 rfl ?_
      exact k43_37 v2 (zi 1) (setI s1 7 0 ((s1.1 7 0) + (zi 1))) _ h
/-! 48 F$Spec.flagsTaken()I -/
def r48  (s : zS) : Int32 := if (s.1 7 6) = zi 97 then zi 31 else if (s.1 7 6) = zi 100 ∨ (s.1 7 6) = zi 103 then zi 125 else if (s.1 7 6) = zi 101 then zi 95 else if (s.1 7 6) = zi 102 then zi 127 else if (s.1 7 6) = zi 110 then zi 0 else if (s.1 7 6) = zi 111 ∨ (s.1 7 6) = zi 120 then zi 19 else zi 1
set_option maxRecDepth 100000 in
theorem k48 {X : mX} {D : Nat}  {s : zS} {v : Int32} (h : r48  s = v) : Ev X D mm48 0 [some (.ref 7)] [] (mk s) (encI (v, s)) := by
  unfold r48 at h
  refine Ev.run (pc' := 4) (ls' := [some (.ref 7)]) (st' := [.int (s.1 7 6)]) (h' := mk s) 2 rfl ?_
  by_cases hb : (s.1 7 6) = zi 97
  · have h := (if_pos hb).symm.trans h
    refine Ev.tsw (t := 130) (k := 97) rfl hb (by rfl) ?_
    refine Ev.run (pc' := 132) (ls' := [some (.ref 7)]) (st' := [.int (zi 31)]) (h' := mk s) 1 rfl ?_
    subst h
    exact Ev.fin rfl rfl
  have h := (if_neg hb).symm.trans h
  have n_97 := hb
  clear hb
  by_cases hb : (s.1 7 6) = zi 100 ∨ (s.1 7 6) = zi 103
  · have h := (if_pos hb).symm.trans h
    refine Ev.tswx (t := 118) rfl (by rcases hb with hb | hb <;> (rw [hb]; rfl)) ?_
    refine Ev.run (pc' := 120) (ls' := [some (.ref 7)]) (st' := [.int (zi 125)]) (h' := mk s) 1 rfl ?_
    subst h
    exact Ev.fin rfl rfl
  have h := (if_neg hb).symm.trans h
  have n_100 := (not_or.mp hb).1
  have hb := (not_or.mp hb).2
  have n_103 := hb
  clear hb
  by_cases hb : (s.1 7 6) = zi 101
  · have h := (if_pos hb).symm.trans h
    refine Ev.tsw (t := 124) (k := 101) rfl hb (by rfl) ?_
    refine Ev.run (pc' := 126) (ls' := [some (.ref 7)]) (st' := [.int (zi 95)]) (h' := mk s) 1 rfl ?_
    subst h
    exact Ev.fin rfl rfl
  have h := (if_neg hb).symm.trans h
  have n_101 := hb
  clear hb
  by_cases hb : (s.1 7 6) = zi 102
  · have h := (if_pos hb).symm.trans h
    refine Ev.tsw (t := 127) (k := 102) rfl hb (by rfl) ?_
    refine Ev.run (pc' := 129) (ls' := [some (.ref 7)]) (st' := [.int (zi 127)]) (h' := mk s) 1 rfl ?_
    subst h
    exact Ev.fin rfl rfl
  have h := (if_neg hb).symm.trans h
  have n_102 := hb
  clear hb
  by_cases hb : (s.1 7 6) = zi 110
  · have h := (if_pos hb).symm.trans h
    refine Ev.tsw (t := 116) (k := 110) rfl hb (by rfl) ?_
    refine Ev.run (pc' := 117) (ls' := [some (.ref 7)]) (st' := [.int (zi 0)]) (h' := mk s) 1 rfl ?_
    subst h
    exact Ev.fin rfl rfl
  have h := (if_neg hb).symm.trans h
  have n_110 := hb
  clear hb
  by_cases hb : (s.1 7 6) = zi 111 ∨ (s.1 7 6) = zi 120
  · have h := (if_pos hb).symm.trans h
    refine Ev.tswx (t := 121) rfl (by rcases hb with hb | hb <;> (rw [hb]; rfl)) ?_
    refine Ev.run (pc' := 123) (ls' := [some (.ref 7)]) (st' := [.int (zi 19)]) (h' := mk s) 1 rfl ?_
    subst h
    exact Ev.fin rfl rfl
  have h := (if_neg hb).symm.trans h
  have n_111 := (not_or.mp hb).1
  have hb := (not_or.mp hb).2
  have n_120 := hb
  clear hb
  refine Ev.tswd (t := 133) rfl (by rfl) (by decide) (fun q hq hx => ?_) ?_
  · have hq : q < 24 := hq
    have hq2 : q = 0 ∨ q = 1 ∨ q = 2 ∨ q = 3 ∨ q = 4 ∨ q = 5 ∨ q = 6 ∨ q = 7 ∨ q = 8 ∨ q = 9 ∨ q = 10 ∨ q = 11 ∨ q = 12 ∨ q = 13 ∨ q = 14 ∨ q = 15 ∨ q = 16 ∨ q = 17 ∨ q = 18 ∨ q = 19 ∨ q = 20 ∨ q = 21 ∨ q = 22 ∨ q = 23 := by omega
    rcases hq2 with rfl | rfl | rfl | rfl | rfl | rfl | rfl | rfl | rfl | rfl | rfl | rfl | rfl | rfl | rfl | rfl | rfl | rfl | rfl | rfl | rfl | rfl | rfl | rfl
    · exact absurd (zi_of_toInt hx) n_97
    · exact ⟨_, rfl, rfl⟩
    · exact ⟨_, rfl, rfl⟩
    · exact absurd (zi_of_toInt hx) n_100
    · exact absurd (zi_of_toInt hx) n_101
    · exact absurd (zi_of_toInt hx) n_102
    · exact absurd (zi_of_toInt hx) n_103
    · exact ⟨_, rfl, rfl⟩
    · exact ⟨_, rfl, rfl⟩
    · exact ⟨_, rfl, rfl⟩
    · exact ⟨_, rfl, rfl⟩
    · exact ⟨_, rfl, rfl⟩
    · exact ⟨_, rfl, rfl⟩
    · exact absurd (zi_of_toInt hx) n_110
    · exact absurd (zi_of_toInt hx) n_111
    · exact ⟨_, rfl, rfl⟩
    · exact ⟨_, rfl, rfl⟩
    · exact ⟨_, rfl, rfl⟩
    · exact ⟨_, rfl, rfl⟩
    · exact ⟨_, rfl, rfl⟩
    · exact ⟨_, rfl, rfl⟩
    · exact ⟨_, rfl, rfl⟩
    · exact ⟨_, rfl, rfl⟩
    · exact absurd (zi_of_toInt hx) n_120
  · refine Ev.run (pc' := 134) (ls' := [some (.ref 7)]) (st' := [.int (zi 1)]) (h' := mk s) 1 rfl ?_
    subst h
    exact Ev.fin rfl rfl
/-! 47 F$Spec.faultOfParts()I -/
def f47_123  (y0 : Int32) (s : zS) : Option (Int32 × zS) := if y0 = zi 0 then some (zi 0, s) else some (zi 7, s)
set_option maxRecDepth 100000 in
theorem k47_123 {X : mX} {D : Nat}   (y0 : Int32) (s : zS) (r : Int32 × zS) (o1 : Option Value)  (h : f47_123  y0 s = some r) : Ev X (D + 5) mm47 123 [some (.ref 7), o1] [.int y0] (mk s) (encI r) := by
  unfold f47_123 at h
  refine Ev.run (pc' := 125) (ls' := [some (.ref 7), some (.int y0)]) (st' := [.int y0]) (h' := mk s) 2 rfl ?_
  refine Ev.if_eq (t := 133) rfl rfl (fun hb => ?_) (fun hb => ?_)
  · have h := (if_pos hb).symm.trans h
    refine Ev.run (pc' := 134) (ls' := [some (.ref 7), some (.int y0)]) (st' := [.int (zi 0)]) (h' := mk s) 1 rfl ?_
    cases h
    exact Ev.fin rfl rfl
  · have h := (if_neg hb).symm.trans h
    refine Ev.run (pc' := 134) (ls' := [some (.ref 7), some (.int y0)]) (st' := [.int (zi 7)]) (h' := mk s) 2 rfl ?_
    cases h
    exact Ev.fin rfl rfl
def f47_98   (s : zS) : Option (Int32 × zS) := if (s.1 7 5) < zi 0 then f47_123 (zi 0) s else if (zidx 7 (zI2C (s.1 7 6))) < zi 0 then f47_123 (zi 0) s else f47_123 (zi 1) s
set_option maxRecDepth 100000 in
theorem k47_98 {X : mX} {D : Nat}    (s : zS) (r : Int32 × zS) (o1 : Option Value)  (h : f47_98   s = some r) : Ev X (D + 5) mm47 98 [some (.ref 7), o1] [] (mk s) (encI r) := by
  unfold f47_98 at h
  refine Ev.run (pc' := 102) (ls' := [some (.ref 7), o1]) (st' := [.int (s.1 7 5)]) (h' := mk s) 2 rfl ?_
  refine Ev.if_lt (t := 122) rfl rfl (fun hb => ?_) (fun hb => ?_)
  · have h := (if_pos hb).symm.trans h
    refine Ev.run (pc' := 123) (ls' := [some (.ref 7), o1]) (st' := [.int (zi 0)]) (h' := mk s) 1 rfl ?_
    exact k47_123 (zi 0) s _ _ h
  · have h := (if_neg hb).symm.trans h
    refine Ev.run (pc' := 112) (ls' := [some (.ref 7), o1]) (st' := [.int (zI2C (s.1 7 6)), .ref (mRO + 3 + 2 * 7)]) (h' := mk s) 4 rfl ?_
    refine Ev.call (M' := mm243) (as := [.ref (mRO + 3 + 2 * 7), .int (zI2C (s.1 7 6))]) (rest := []) (v := some (.int (zidx 7 (zI2C (s.1 7 6))))) (h' := mk s) rfl (litcall rfl rfl (by decide) rfl rfl) rfl (Nat.le_of_ble_eq_true rfl) (kindexof (by decide)) ?_
    refine Ev.if_lt (t := 122) rfl rfl (fun hb => ?_) (fun hb => ?_)
    · have h := (if_pos hb).symm.trans h
      refine Ev.run (pc' := 123) (ls' := [some (.ref 7), o1]) (st' := [.int (zi 0)]) (h' := mk s) 1 rfl ?_
      exact k47_123 (zi 0) s _ _ h
    · have h := (if_neg hb).symm.trans h
      refine Ev.run (pc' := 123) (ls' := [some (.ref 7), o1]) (st' := [.int (zi 1)]) (h' := mk s) 2 rfl ?_
      exact k47_123 (zi 1) s _ _ h
def f47_79   (s : zS) : Option (Int32 × zS) := if (s.1 7 4) ≤ zi 0 then f47_98 s else if ¬ (s.1 7 6) = (zi 110) then f47_98 s else some (zi 6, s)
set_option maxRecDepth 100000 in
theorem k47_79 {X : mX} {D : Nat}    (s : zS) (r : Int32 × zS) (o1 : Option Value)  (h : f47_79   s = some r) : Ev X (D + 5) mm47 79 [some (.ref 7), o1] [] (mk s) (encI r) := by
  unfold f47_79 at h
  refine Ev.run (pc' := 83) (ls' := [some (.ref 7), o1]) (st' := [.int (s.1 7 4)]) (h' := mk s) 2 rfl ?_
  refine Ev.if_le (t := 98) rfl rfl (fun hb => ?_) (fun hb => ?_)
  · have h := (if_pos hb).symm.trans h
    exact k47_98 s _ _ h
  · have h := (if_neg hb).symm.trans h
    refine Ev.run (pc' := 92) (ls' := [some (.ref 7), o1]) (st' := [.int (zi 110), .int (s.1 7 6)]) (h' := mk s) 3 rfl ?_
    refine Ev.icmp_ne (t := 98) rfl rfl (fun hb => ?_) (fun hb => ?_)
    · have h := (if_pos hb).symm.trans h
      exact k47_98 s _ _ h
    · have h := (if_neg hb).symm.trans h
      refine Ev.run (pc' := 97) (ls' := [some (.ref 7), o1]) (st' := [.int (zi 6)]) (h' := mk s) 1 rfl ?_
      cases h
      exact Ev.fin rfl rfl
def f47_60   (s : zS) : Option (Int32 × zS) := if (r51 (zi 4) s) = zi 0 then f47_79 s else if (r51 (zi 8) s) = zi 0 then f47_79 s else some (zi 5, s)
set_option maxRecDepth 100000 in
theorem k47_60 {X : mX} {D : Nat}    (s : zS) (r : Int32 × zS) (o1 : Option Value)  (h : f47_60   s = some r) : Ev X (D + 5) mm47 60 [some (.ref 7), o1] [] (mk s) (encI r) := by
  unfold f47_60 at h
  refine Ev.run (pc' := 62) (ls' := [some (.ref 7), o1]) (st' := [.int (zi 4), .ref 7]) (h' := mk s) 2 rfl ?_
  refine Ev.call (M' := mm51) (v := some (.int (r51 (zi 4) s))) (h' := mk s) rfl rfl rfl (Nat.le_of_ble_eq_true rfl) (k51 (x1 := (zi 4)) (s := s) (v := r51 (zi 4) s)  rfl) ?_
  refine Ev.if_eq (t := 79) rfl rfl (fun hb => ?_) (fun hb => ?_)
  · have h := (if_pos hb).symm.trans h
    exact k47_79 s _ _ h
  · have h := (if_neg hb).symm.trans h
    refine Ev.run (pc' := 71) (ls' := [some (.ref 7), o1]) (st' := [.int (zi 8), .ref 7]) (h' := mk s) 2 rfl ?_
    refine Ev.call (M' := mm51) (v := some (.int (r51 (zi 8) s))) (h' := mk s) rfl rfl rfl (Nat.le_of_ble_eq_true rfl) (k51 (x1 := (zi 8)) (s := s) (v := r51 (zi 8) s)  rfl) ?_
    refine Ev.if_eq (t := 79) rfl rfl (fun hb => ?_) (fun hb => ?_)
    · have h := (if_pos hb).symm.trans h
      exact k47_79 s _ _ h
    · have h := (if_neg hb).symm.trans h
      refine Ev.run (pc' := 78) (ls' := [some (.ref 7), o1]) (st' := [.int (zi 5)]) (h' := mk s) 1 rfl ?_
      cases h
      exact Ev.fin rfl rfl
def f47_43   (s : zS) : Option (Int32 × zS) := if (r51 (zi 1) s) = zi 0 then f47_60 s else if ¬ (r51 (zi 16) s) = zi 0 then some (zi 5, s) else f47_60 s
set_option maxRecDepth 100000 in
theorem k47_43 {X : mX} {D : Nat}    (s : zS) (r : Int32 × zS) (o1 : Option Value)  (h : f47_43   s = some r) : Ev X (D + 5) mm47 43 [some (.ref 7), o1] [] (mk s) (encI r) := by
  unfold f47_43 at h
  refine Ev.run (pc' := 45) (ls' := [some (.ref 7), o1]) (st' := [.int (zi 1), .ref 7]) (h' := mk s) 2 rfl ?_
  refine Ev.call (M' := mm51) (v := some (.int (r51 (zi 1) s))) (h' := mk s) rfl rfl rfl (Nat.le_of_ble_eq_true rfl) (k51 (x1 := (zi 1)) (s := s) (v := r51 (zi 1) s)  rfl) ?_
  refine Ev.if_eq (t := 60) rfl rfl (fun hb => ?_) (fun hb => ?_)
  · have h := (if_pos hb).symm.trans h
    exact k47_60 s _ _ h
  · have h := (if_neg hb).symm.trans h
    refine Ev.run (pc' := 54) (ls' := [some (.ref 7), o1]) (st' := [.int (zi 16), .ref 7]) (h' := mk s) 2 rfl ?_
    refine Ev.call (M' := mm51) (v := some (.int (r51 (zi 16) s))) (h' := mk s) rfl rfl rfl (Nat.le_of_ble_eq_true rfl) (k51 (x1 := (zi 16)) (s := s) (v := r51 (zi 16) s)  rfl) ?_
    refine Ev.if_ne (t := 77) rfl rfl (fun hb => ?_) (fun hb => ?_)
    · have h := (if_pos hb).symm.trans h
      refine Ev.run (pc' := 78) (ls' := [some (.ref 7), o1]) (st' := [.int (zi 5)]) (h' := mk s) 1 rfl ?_
      cases h
      exact Ev.fin rfl rfl
    · have h := (if_neg hb).symm.trans h
      exact k47_60 s _ _ h
def f47   (s : zS) : Option (Int32 × zS) := if (s.1 7 3) = zi 0 then if ((s.1 7 2) &&& ((r48 s) ^^^ (zi (-1)))) = zi 0 then if ¬ (s.1 7 4) = zi 0 then f47_43 s else if (r51 (zi 17) s) = zi 0 then f47_43 s else some (zi 4, s) else some (zi 3, s) else some (zi 2, s)
set_option maxRecDepth 100000 in
theorem k47 {X : mX} {D : Nat}  {s : zS} {r : Int32 × zS}  (h : f47  s = some r) : Ev X (D + 5) mm47 0 [some (.ref 7), none] [] (mk s) (encI r) := by
  unfold f47 at h
  refine Ev.run (pc' := 4) (ls' := [some (.ref 7), none]) (st' := [.int (s.1 7 3)]) (h' := mk s) 2 rfl ?_
  refine Ev.if_eq (t := 9) rfl rfl (fun hb => ?_) (fun hb => ?_)
  · have h := (if_pos hb).symm.trans h
    refine Ev.run (pc' := 14) (ls' := [some (.ref 7), none]) (st' := [.ref 7, .int (s.1 7 2)]) (h' := mk s) 3 rfl ?_
    refine Ev.call (M' := mm48) (v := some (.int (r48 s))) (h' := mk s) rfl rfl rfl (Nat.le_of_ble_eq_true rfl) (k48  (s := s) (v := r48 s)  rfl) ?_
    refine Ev.run (pc' := 20) (ls' := [some (.ref 7), none]) (st' := [.int ((s.1 7 2) &&& ((r48 s) ^^^ (zi (-1))))]) (h' := mk s) 3 rfl ?_
    refine Ev.if_eq (t := 25) rfl rfl (fun hb => ?_) (fun hb => ?_)
    · have h := (if_pos hb).symm.trans h
      refine Ev.run (pc' := 29) (ls' := [some (.ref 7), none]) (st' := [.int (s.1 7 4)]) (h' := mk s) 2 rfl ?_
      refine Ev.if_ne (t := 43) rfl rfl (fun hb => ?_) (fun hb => ?_)
      · have h := (if_pos hb).symm.trans h
        exact k47_43 s _ _ h
      · have h := (if_neg hb).symm.trans h
        refine Ev.run (pc' := 35) (ls' := [some (.ref 7), none]) (st' := [.int (zi 17), .ref 7]) (h' := mk s) 2 rfl ?_
        refine Ev.call (M' := mm51) (v := some (.int (r51 (zi 17) s))) (h' := mk s) rfl rfl rfl (Nat.le_of_ble_eq_true rfl) (k51 (x1 := (zi 17)) (s := s) (v := r51 (zi 17) s)  rfl) ?_
        refine Ev.if_eq (t := 43) rfl rfl (fun hb => ?_) (fun hb => ?_)
        · have h := (if_pos hb).symm.trans h
          exact k47_43 s _ _ h
        · have h := (if_neg hb).symm.trans h
          refine Ev.run (pc' := 42) (ls' := [some (.ref 7), none]) (st' := [.int (zi 4)]) (h' := mk s) 1 rfl ?_
          cases h
          exact Ev.fin rfl rfl
    · have h := (if_neg hb).symm.trans h
      refine Ev.run (pc' := 24) (ls' := [some (.ref 7), none]) (st' := [.int (zi 3)]) (h' := mk s) 1 rfl ?_
      cases h
      exact Ev.fin rfl rfl
  · have h := (if_neg hb).symm.trans h
    refine Ev.run (pc' := 8) (ls' := [some (.ref 7), none]) (st' := [.int (zi 2)]) (h' := mk s) 1 rfl ?_
    cases h
    exact Ev.fin rfl rfl
/-! 38 F$Spec.scan(LFormatPress$Line;I)I -/
def f38_71  (x2 : Int32) (y0 : Int32) (s : zS) : Option (Int32 × zS) := if y0 = zi 0 then some (zi 1, s) else zb1 (f47 s) (fun v2 s1 => some (v2, s1))
set_option maxRecDepth 100000 in
theorem k38_71 {X : mX} {D : Nat}   (x2 : Int32) (y0 : Int32) (s : zS) (r : Int32 × zS) (o1 : Option Value) (o3 : Option Value)  (h : f38_71  x2 y0 s = some r) : Ev X (D + 6) mm38 71 [some (.ref 7), o1, some (.int x2), o3] [.int y0] (mk s) (encI r) := by
  unfold f38_71 at h
  refine Ev.run (pc' := 73) (ls' := [some (.ref 7), o1, some (.int x2), some (.int y0)]) (st' := [.int y0]) (h' := mk s) 2 rfl ?_
  refine Ev.if_eq (t := 83) rfl rfl (fun hb => ?_) (fun hb => ?_)
  · have h := (if_pos hb).symm.trans h
    refine Ev.run (pc' := 84) (ls' := [some (.ref 7), o1, some (.int x2), some (.int y0)]) (st' := [.int (zi 1)]) (h' := mk s) 1 rfl ?_
    cases h
    exact Ev.fin rfl rfl
  · have h := (if_neg hb).symm.trans h
    refine Ev.run (pc' := 77) (ls' := [some (.ref 7), o1, some (.int x2), some (.int y0)]) (st' := [.ref 7]) (h' := mk s) 1 rfl ?_
    obtain ⟨v2, s1, hq, h⟩ := zb1_some h
    refine Ev.call (M' := mm47) (v := some (.int v2)) (h' := mk s1) rfl rfl rfl (Nat.le_of_ble_eq_true rfl) (k47 hq) ?_
    refine Ev.run (pc' := 84) (ls' := [some (.ref 7), o1, some (.int x2), some (.int y0)]) (st' := [.int v2]) (h' := mk s1) 1 rfl ?_
    cases h
    exact Ev.fin rfl rfl
def f38_53  (x2 : Int32) (y0 : Int32) (s : zS) : Option (Int32 × zS) := zb1 (f43 s) (fun v2 s1 => if v2 = zi 0 then f38_71 x2 (zi 0) s1 else if y0 = zi 0 then f38_71 x2 (zi 0) s1 else f38_71 x2 (zi 1) s1)
set_option maxRecDepth 100000 in
theorem k38_53 {X : mX} {D : Nat}   (x2 : Int32) (y0 : Int32) (s : zS) (r : Int32 × zS) (o3 : Option Value)  (h : f38_53  x2 y0 s = some r) : Ev X (D + 6) mm38 53 [some (.ref 7), some (.ref 3), some (.int x2), o3] [.int y0] (mk s) (encI r) := by
  unfold f38_53 at h
  refine Ev.run (pc' := 56) (ls' := [some (.ref 7), some (.ref 3), some (.int x2), some (.int y0)]) (st' := [.ref 3, .ref 7]) (h' := mk s) 3 rfl ?_
  obtain ⟨v2, s1, hq, h⟩ := zb1_some h
  refine Ev.call (M' := mm43) (v := some (.int v2)) (h' := mk s1) rfl rfl rfl (Nat.le_of_ble_eq_true rfl) (k43 hq) ?_
  refine Ev.if_eq (t := 70) rfl rfl (fun hb => ?_) (fun hb => ?_)
  · have h := (if_pos hb).symm.trans h
    refine Ev.run (pc' := 71) (ls' := [some (.ref 7), some (.ref 3), some (.int x2), some (.int y0)]) (st' := [.int (zi 0)]) (h' := mk s1) 1 rfl ?_
    exact k38_71 x2 (zi 0) s1 _ _ _ h
  · have h := (if_neg hb).symm.trans h
    refine Ev.run (pc' := 63) (ls' := [some (.ref 7), some (.ref 3), some (.int x2), some (.int y0)]) (st' := [.int y0]) (h' := mk s1) 1 rfl ?_
    refine Ev.if_eq (t := 70) rfl rfl (fun hb => ?_) (fun hb => ?_)
    · have h := (if_pos hb).symm.trans h
      refine Ev.run (pc' := 71) (ls' := [some (.ref 7), some (.ref 3), some (.int x2), some (.int y0)]) (st' := [.int (zi 0)]) (h' := mk s1) 1 rfl ?_
      exact k38_71 x2 (zi 0) s1 _ _ _ h
    · have h := (if_neg hb).symm.trans h
      refine Ev.run (pc' := 71) (ls' := [some (.ref 7), some (.ref 3), some (.int x2), some (.int y0)]) (st' := [.int (zi 1)]) (h' := mk s1) 2 rfl ?_
      exact k38_71 x2 (zi 1) s1 _ _ _ h
def f38_35  (x2 : Int32) (y0 : Int32) (s : zS) : Option (Int32 × zS) := zb1 (f42 s) (fun v2 s1 => if v2 = zi 0 then f38_53 x2 (zi 0) s1 else if y0 = zi 0 then f38_53 x2 (zi 0) s1 else f38_53 x2 (zi 1) s1)
set_option maxRecDepth 100000 in
theorem k38_35 {X : mX} {D : Nat}   (x2 : Int32) (y0 : Int32) (s : zS) (r : Int32 × zS) (o3 : Option Value)  (h : f38_35  x2 y0 s = some r) : Ev X (D + 6) mm38 35 [some (.ref 7), some (.ref 3), some (.int x2), o3] [.int y0] (mk s) (encI r) := by
  unfold f38_35 at h
  refine Ev.run (pc' := 38) (ls' := [some (.ref 7), some (.ref 3), some (.int x2), some (.int y0)]) (st' := [.ref 3, .ref 7]) (h' := mk s) 3 rfl ?_
  obtain ⟨v2, s1, hq, h⟩ := zb1_some h
  refine Ev.call (M' := mm42) (v := some (.int v2)) (h' := mk s1) rfl rfl rfl (Nat.le_of_ble_eq_true rfl) (k42 hq) ?_
  refine Ev.if_eq (t := 52) rfl rfl (fun hb => ?_) (fun hb => ?_)
  · have h := (if_pos hb).symm.trans h
    refine Ev.run (pc' := 53) (ls' := [some (.ref 7), some (.ref 3), some (.int x2), some (.int y0)]) (st' := [.int (zi 0)]) (h' := mk s1) 1 rfl ?_
    exact k38_53 x2 (zi 0) s1 _ _ h
  · have h := (if_neg hb).symm.trans h
    refine Ev.run (pc' := 45) (ls' := [some (.ref 7), some (.ref 3), some (.int x2), some (.int y0)]) (st' := [.int y0]) (h' := mk s1) 1 rfl ?_
    refine Ev.if_eq (t := 52) rfl rfl (fun hb => ?_) (fun hb => ?_)
    · have h := (if_pos hb).symm.trans h
      refine Ev.run (pc' := 53) (ls' := [some (.ref 7), some (.ref 3), some (.int x2), some (.int y0)]) (st' := [.int (zi 0)]) (h' := mk s1) 1 rfl ?_
      exact k38_53 x2 (zi 0) s1 _ _ h
    · have h := (if_neg hb).symm.trans h
      refine Ev.run (pc' := 53) (ls' := [some (.ref 7), some (.ref 3), some (.int x2), some (.int y0)]) (st' := [.int (zi 1)]) (h' := mk s1) 2 rfl ?_
      exact k38_53 x2 (zi 1) s1 _ _ h
def f38  (x2 : Int32) (s : zS) : Option (Int32 × zS) := zb1 (f39 (setI s 7 0 (x2 + (zi 1)))) (fun v2 s1 => zb0 (f40 s1) (fun s3 => zb1 (f41 s3) (fun v5 s4 => if v5 = zi 0 then f38_35 x2 (zi 0) s4 else if v2 = zi 0 then f38_35 x2 (zi 0) s4 else f38_35 x2 (zi 1) s4)))
set_option maxRecDepth 100000 in
theorem k38 {X : mX} {D : Nat} {x2 : Int32} {s : zS} {r : Int32 × zS}  (h : f38 x2 s = some r) : Ev X (D + 6) mm38 0 [some (.ref 7), some (.ref 3), some (.int x2), none] [] (mk s) (encI r) := by
  unfold f38 at h
  refine Ev.run (pc' := 4) (ls' := [some (.ref 7), some (.ref 3), some (.int x2), none]) (st' := [.int (x2 + (zi 1)), .ref 7]) (h' := mk s) 4 rfl ?_
  refine Ev.step (pc' := 7) rfl (put_3_0 rfl) ?_
  refine Ev.run (pc' := 9) (ls' := [some (.ref 7), some (.ref 3), some (.int x2), none]) (st' := [.ref 3, .ref 7]) (h' := mk (setI s 7 0 (x2 + (zi 1)))) 2 rfl ?_
  obtain ⟨v2, s1, hq, h⟩ := zb1_some h
  refine Ev.call (M' := mm39) (v := some (.int v2)) (h' := mk s1) rfl rfl rfl (Nat.le_of_ble_eq_true rfl) (k39 hq) ?_
  refine Ev.run (pc' := 15) (ls' := [some (.ref 7), some (.ref 3), some (.int x2), some (.int v2)]) (st' := [.ref 3, .ref 7]) (h' := mk s1) 3 rfl ?_
  obtain ⟨s3, hq, h⟩ := zb0_some h
  refine Ev.call (M' := mm40) (v := none) (h' := mk s3) rfl rfl rfl (Nat.le_of_ble_eq_true rfl) (k40 hq) ?_
  refine Ev.run (pc' := 20) (ls' := [some (.ref 7), some (.ref 3), some (.int x2), some (.int v2)]) (st' := [.ref 3, .ref 7]) (h' := mk s3) 2 rfl ?_
  obtain ⟨v5, s4, hq, h⟩ := zb1_some h
  refine Ev.call (M' := mm41) (v := some (.int v5)) (h' := mk s4) rfl rfl rfl (Nat.le_of_ble_eq_true rfl) (k41 hq) ?_
  refine Ev.if_eq (t := 34) rfl rfl (fun hb => ?_) (fun hb => ?_)
  · have h := (if_pos hb).symm.trans h
    refine Ev.run (pc' := 35) (ls' := [some (.ref 7), some (.ref 3), some (.int x2), some (.int v2)]) (st' := [.int (zi 0)]) (h' := mk s4) 1 rfl ?_
    exact k38_35 x2 (zi 0) s4 _ _ h
  · have h := (if_neg hb).symm.trans h
    refine Ev.run (pc' := 27) (ls' := [some (.ref 7), some (.ref 3), some (.int x2), some (.int v2)]) (st' := [.int v2]) (h' := mk s4) 1 rfl ?_
    refine Ev.if_eq (t := 34) rfl rfl (fun hb => ?_) (fun hb => ?_)
    · have h := (if_pos hb).symm.trans h
      refine Ev.run (pc' := 35) (ls' := [some (.ref 7), some (.ref 3), some (.int x2), some (.int v2)]) (st' := [.int (zi 0)]) (h' := mk s4) 1 rfl ?_
      exact k38_35 x2 (zi 0) s4 _ _ h
    · have h := (if_neg hb).symm.trans h
      refine Ev.run (pc' := 35) (ls' := [some (.ref 7), some (.ref 3), some (.int x2), some (.int v2)]) (st' := [.int (zi 1)]) (h' := mk s4) 2 rfl ?_
      exact k38_35 x2 (zi 1) s4 _ _ h
/-! 49 F$Spec.last()I -/
def r49  (s : zS) : Int32 := (s.1 7 0) - (zi 1)
set_option maxRecDepth 100000 in
theorem k49 {X : mX} {D : Nat}  {s : zS} {v : Int32} (h : r49  s = v) : Ev X D mm49 0 [some (.ref 7)] [] (mk s) (encI (v, s)) := by
  unfold r49 at h
  refine Ev.run (pc' := 6) (ls' := [some (.ref 7)]) (st' := [.int ((s.1 7 0) - (zi 1))]) (h' := mk s) 4 rfl ?_
  subst h
  exact Ev.fin rfl rfl
/-! 264 java.lang.Math.max(II)I -/
def r264 (x0 : Int32) (x1 : Int32) (s : zS) : Int32 := if x0 < x1 then x1 else x0
set_option maxRecDepth 100000 in
theorem k264 {X : mX} {D : Nat} {x0 : Int32} {x1 : Int32} {s : zS} {v : Int32} (h : r264 x0 x1 s = v) : Ev X D mm264 0 [some (.int x0), some (.int x1)] [] (mk s) (encI (v, s)) := by
  unfold r264 at h
  refine Ev.run (pc' := 2) (ls' := [some (.int x0), some (.int x1)]) (st' := [.int x1, .int x0]) (h' := mk s) 2 rfl ?_
  refine Ev.icmp_lt (t := 9) rfl rfl (fun hb => ?_) (fun hb => ?_)
  · have h := (if_pos hb).symm.trans h
    refine Ev.run (pc' := 10) (ls' := [some (.int x0), some (.int x1)]) (st' := [.int x1]) (h' := mk s) 1 rfl ?_
    subst h
    exact Ev.fin rfl rfl
  · have h := (if_neg hb).symm.trans h
    refine Ev.run (pc' := 10) (ls' := [some (.int x0), some (.int x1)]) (st' := [.int x0]) (h' := mk s) 2 rfl ?_
    subst h
    exact Ev.fin rfl rfl
/-! 2 F.format()I -/
def b2_49 (rec49 : Int32 → Int32 → zS → Option ((Int32 ⊕ Nat) × zS)) (x1 : Int32) (x2 : Int32) (s : zS) : Option ((Int32 ⊕ Nat) × zS) := if x2 ≥ (r16 3 s) then some (.inl x1, setI s 0 7 (zi 1)) else zb1 (f17 3 x2 s) (fun v2 s1 => if ¬ v2 = (zi 37) then rec49 x1 (x2 + zi 1) s1 else zb1 (f38 x2 s1) (fun v4 s3 => zb0 (f13 v4 x2 s3) (fun s5 => if (s5.1 0 8) = zi 0 then rec49 (x1 + zi 1) ((r264 x2 (r49 s5) s5) + zi 1) s5 else if s5.2.2 < 600000 then some (.inr 1, thr s5) else none)))
set_option maxRecDepth 100000 in
theorem kb2_49 {X : mX} {D : Nat} {rec49 : Int32 → Int32 → zS → Option ((Int32 ⊕ Nat) × zS)} (hrec49 : ∀ (x1 : Int32) (x2 : Int32) (s : zS) (r : (Int32 ⊕ Nat) × zS) , rec49 x1 x2 s = some r → Ev X (D + 7) mm2 49 [some (.ref 0), some (.int x1), some (.int x2)] [] (mk s) (encTI r)) (x1 : Int32) (x2 : Int32) (s : zS) (r : (Int32 ⊕ Nat) × zS)   (h : b2_49 rec49 x1 x2 s = some r) : Ev X (D + 7) mm2 49 [some (.ref 0), some (.int x1), some (.int x2)] [] (mk s) (encTI r) := by
  unfold b2_49 at h
  refine Ev.run (pc' := 54) (ls' := [some (.ref 0), some (.int x1), some (.int x2)]) (st' := [.ref 3, .int x2]) (h' := mk s) 3 rfl ?_
  refine Ev.call (M' := mm16) (v := some (.int (r16 3 s))) (h' := mk s) rfl rfl rfl (Nat.le_of_ble_eq_true rfl) (k16 (aa := 3) (s := s) (v := r16 3 s) (by decide) rfl) ?_
  refine Ev.icmp_ge (t := 128) rfl rfl (fun hb => ?_) (fun hb => ?_)
  · have h := (if_pos hb).symm.trans h
    refine Ev.run (pc' := 130) (ls' := [some (.ref 0), some (.int x1), some (.int x2)]) (st' := [.int (zi 1), .ref 0]) (h' := mk s) 2 rfl ?_
    refine Ev.step (pc' := 133) rfl (put_0_7 (by decide) rfl) ?_
    refine Ev.run (pc' := 134) (ls' := [some (.ref 0), some (.int x1), some (.int x2)]) (st' := [.int x1]) (h' := mk (setI s 0 7 (zi 1))) 1 rfl ?_
    cases h
    exact Ev.fin rfl rfl
  · have h := (if_neg hb).symm.trans h
    refine Ev.run (pc' := 65) (ls' := [some (.ref 0), some (.int x1), some (.int x2)]) (st' := [.int x2, .ref 3]) (h' := mk s) 3 rfl ?_
    obtain ⟨v2, s1, hq, h⟩ := zb1_some h
    refine Ev.call (M' := mm17) (v := some (.int v2)) (h' := mk s1) rfl rfl rfl (Nat.le_of_ble_eq_true rfl) (k17 (by decide) hq) ?_
    refine Ev.run (pc' := 70) (ls' := [some (.ref 0), some (.int x1), some (.int x2)]) (st' := [.int (zi 37), .int v2]) (h' := mk s1) 1 rfl ?_
    refine Ev.icmp_ne (t := 122) rfl rfl (fun hb => ?_) (fun hb => ?_)
    · have h := (if_pos hb).symm.trans h
      refine Ev.run (pc' := 49) (ls' := [some (.ref 0), some (.int x1), some (.int (x2 + zi 1))]) (st' := []) (h' := mk s1) 2 rfl ?_
      exact hrec49 x1 (x2 + zi 1) s1 _ h
    · have h := (if_neg hb).symm.trans h
      refine Ev.run (pc' := 83) (ls' := [some (.ref 0), some (.int x1), some (.int x2)]) (st' := [.int x2, .ref 3, .ref 7, .ref 0]) (h' := mk s1) 6 rfl ?_
      obtain ⟨v4, s3, hq, h⟩ := zb1_some h
      refine Ev.call (M' := mm38) (v := some (.int v4)) (h' := mk s3) rfl rfl rfl (Nat.le_of_ble_eq_true rfl) (k38 hq) ?_
      refine Ev.run (pc' := 87) (ls' := [some (.ref 0), some (.int x1), some (.int x2)]) (st' := [.int x2, .int v4, .ref 0]) (h' := mk s3) 1 rfl ?_
      obtain ⟨s5, hq, h⟩ := zb0_some h
      refine Ev.call (M' := mm13) (v := none) (h' := mk s5) rfl rfl rfl (Nat.le_of_ble_eq_true rfl) (k13 hq) ?_
      refine Ev.run (pc' := 94) (ls' := [some (.ref 0), some (.int x1), some (.int x2)]) (st' := [.int (s5.1 0 8)]) (h' := mk s5) 2 rfl ?_
      refine Ev.if_eq (t := 107) rfl rfl (fun hb => ?_) (fun hb => ?_)
      · have h := (if_pos hb).symm.trans h
        refine Ev.run (pc' := 115) (ls' := [some (.ref 0), some (.int (x1 + zi 1)), some (.int x2)]) (st' := [.ref 7, .int x2]) (h' := mk s5) 4 rfl ?_
        refine Ev.call (M' := mm49) (v := some (.int (r49 s5))) (h' := mk s5) rfl rfl rfl (Nat.le_of_ble_eq_true rfl) (k49  (s := s5) (v := r49 s5)  rfl) ?_
        refine Ev.call (M' := mm264) (v := some (.int (r264 x2 (r49 s5) s5))) (h' := mk s5) rfl rfl rfl (Nat.le_of_ble_eq_true rfl) (k264 (x0 := x2) (x1 := (r49 s5)) (s := s5) (v := r264 x2 (r49 s5) s5)  rfl) ?_
        refine Ev.run (pc' := 49) (ls' := [some (.ref 0), some (.int (x1 + zi 1)), some (.int ((r264 x2 (r49 s5) s5) + zi 1))]) (st' := []) (h' := mk s5) 3 rfl ?_
        exact hrec49 (x1 + zi 1) ((r264 x2 (r49 s5) s5) + zi 1) s5 _ h
      · have h := (if_neg hb).symm.trans h
        obtain ⟨hx, h⟩ := zif h
        cases h
        exact Ev.throws rfl rfl rfl rfl rfl rfl rfl rfl rfl (by decide) hx
def f2_49  : Nat → Int32 → Int32 → zS → Option ((Int32 ⊕ Nat) × zS)
  | 0, _, _, _ => none
  | n + 1, x1, x2, s => b2_49 (f2_49 n) x1 x2 s
set_option maxRecDepth 100000 in
theorem k2_49 {X : mX} {D : Nat}   (n : Nat) : ∀ (x1 : Int32) (x2 : Int32) (s : zS) (r : (Int32 ⊕ Nat) × zS) , f2_49  n x1 x2 s = some r → Ev X (D + 7) mm2 49 [some (.ref 0), some (.int x1), some (.int x2)] [] (mk s) (encTI r) := by
  induction n with
  | zero => intro x1 x2 s r   h; cases h
  | succ n ih => intro x1 x2 s r   h; exact kb2_49  ih x1 x2 s r   h
def f2   (s : zS) : Option ((Int32 ⊕ Nat) × zS) := if (r16 1 s) ≤ (zi 400) then zb0 (f22 s) (fun s1 => zb0 (f13 (zi 0) (zi 0) (setI s1 0 7 (zi 0))) (fun s2 => f2_49 zF (zi 0) (zi 0) s2)) else if s.2.2 < 600000 then some (.inr 0, thr s) else none
set_option maxRecDepth 100000 in
theorem k2 {X : mX} {D : Nat}  {s : zS} {r : (Int32 ⊕ Nat) × zS}  (h : f2  s = some r) : Ev X (D + 7) mm2 0 [some (.ref 0), none, none] [] (mk s) (encTI r) := by
  unfold f2 at h
  refine Ev.run (pc' := 4) (ls' := [some (.ref 0), none, none]) (st' := [.ref 1]) (h' := mk s) 2 rfl ?_
  refine Ev.call (M' := mm16) (v := some (.int (r16 1 s))) (h' := mk s) rfl rfl rfl (Nat.le_of_ble_eq_true rfl) (k16 (aa := 1) (s := s) (v := r16 1 s) (by decide) rfl) ?_
  refine Ev.run (pc' := 10) (ls' := [some (.ref 0), none, none]) (st' := [.int (zi 400), .int (r16 1 s)]) (h' := mk s) 1 rfl ?_
  refine Ev.icmp_le (t := 23) rfl rfl (fun hb => ?_) (fun hb => ?_)
  · have h := (if_pos hb).symm.trans h
    refine Ev.run (pc' := 31) (ls' := [some (.ref 0), none, none]) (st' := [.ref 1, .ref 3]) (h' := mk s) 4 rfl ?_
    obtain ⟨s1, hq, h⟩ := zb0_some h
    refine Ev.call (M' := mm22) (v := none) (h' := mk s1) rfl rfl rfl (Nat.le_of_ble_eq_true rfl) (k22 hq) ?_
    refine Ev.run (pc' := 36) (ls' := [some (.ref 0), none, none]) (st' := [.int (zi 0), .ref 0]) (h' := mk s1) 2 rfl ?_
    refine Ev.step (pc' := 39) rfl (put_0_7 (by decide) rfl) ?_
    refine Ev.run (pc' := 42) (ls' := [some (.ref 0), none, none]) (st' := [.int (zi 0), .int (zi 0), .ref 0]) (h' := mk (setI s1 0 7 (zi 0))) 3 rfl ?_
    obtain ⟨s2, hq, h⟩ := zb0_some h
    refine Ev.call (M' := mm13) (v := none) (h' := mk s2) rfl rfl rfl (Nat.le_of_ble_eq_true rfl) (k13 hq) ?_
    refine Ev.run (pc' := 49) (ls' := [some (.ref 0), some (.int (zi 0)), some (.int (zi 0))]) (st' := []) (h' := mk s2) 4 rfl ?_
    exact k2_49 zF (zi 0) (zi 0) s2 _ h
  · have h := (if_neg hb).symm.trans h
    obtain ⟨hx, h⟩ := zif h
    cases h
    exact Ev.throws rfl rfl rfl rfl rfl rfl rfl rfl rfl (by decide) hx
/-! 31 F$Arguments.empty()I -/
def f31   (s : zS) : Option (Int32 × zS) := some (s.1 8 3, setI s 8 3 (zi 0))
set_option maxRecDepth 100000 in
theorem k31 {X : mX} {D : Nat}  {s : zS} {r : Int32 × zS}  (h : f31  s = some r) : Ev X D mm31 0 [some (.ref 8), none] [] (mk s) (encI r) := by
  unfold f31 at h
  refine Ev.run (pc' := 7) (ls' := [some (.ref 8), some (.int (s.1 8 3))]) (st' := [.int (zi 0), .ref 8]) (h' := mk s) 5 rfl ?_
  refine Ev.step (pc' := 10) rfl (put_2_3 rfl) ?_
  refine Ev.run (pc' := 11) (ls' := [some (.ref 8), some (.int (s.1 8 3))]) (st' := [.int (s.1 8 3)]) (h' := mk (setI s 8 3 (zi 0))) 1 rfl ?_
  cases h
  exact Ev.fin rfl rfl
/-! 3 F.clear()I -/
def f3   (s : zS) : Option (Int32 × zS) := zb1 (f31 s) (fun v2 s1 => some (v2, s1))
set_option maxRecDepth 100000 in
theorem k3 {X : mX} {D : Nat}  {s : zS} {r : Int32 × zS}  (h : f3  s = some r) : Ev X (D + 1) mm3 0 [some (.ref 0)] [] (mk s) (encI r) := by
  unfold f3 at h
  refine Ev.run (pc' := 4) (ls' := [some (.ref 0)]) (st' := [.ref 8]) (h' := mk s) 2 rfl ?_
  obtain ⟨v2, s1, hq, h⟩ := zb1_some h
  refine Ev.call (M' := mm31) (v := some (.int v2)) (h' := mk s1) rfl rfl rfl (Nat.le_of_ble_eq_true rfl) (k31 hq) ?_
  cases h
  exact Ev.fin rfl rfl
/-! 24 F$Arguments.isCharacter(J)Z -/
def r24 (x0 : Int64) (s : zS) : Int32 := if x0 < (zl 0) then zi 0 else if x0 > (zl 1114111) then zi 0 else zi 1
set_option maxRecDepth 100000 in
theorem k24 {X : mX} {D : Nat} {x0 : Int64} {s : zS} {v : Int32} (h : r24 x0 s = v) : Ev X D mm24 0 [some (.long x0), none] [] (mk s) (encI (v, s)) := by
  unfold r24 at h
  refine Ev.run (pc' := 3) (ls' := [some (.long x0), none]) (st' := [.int (lg_cmp x0 (zl 0))]) (h' := mk s) 3 rfl ?_
  refine Ev.ifl_lt (t := 18) rfl rfl (fun hb => ?_) (fun hb => ?_)
  · have h := (if_pos hb).symm.trans h
    refine Ev.run (pc' := 19) (ls' := [some (.long x0), none]) (st' := [.int (zi 0)]) (h' := mk s) 1 rfl ?_
    subst h
    exact Ev.fin rfl rfl
  · have h := (if_neg hb).symm.trans h
    refine Ev.run (pc' := 11) (ls' := [some (.long x0), none]) (st' := [.int (lg_cmp x0 (zl 1114111))]) (h' := mk s) 3 rfl ?_
    refine Ev.ifl_gt (t := 18) rfl rfl (fun hb => ?_) (fun hb => ?_)
    · have h := (if_pos hb).symm.trans h
      refine Ev.run (pc' := 19) (ls' := [some (.long x0), none]) (st' := [.int (zi 0)]) (h' := mk s) 1 rfl ?_
      subst h
      exact Ev.fin rfl rfl
    · have h := (if_neg hb).symm.trans h
      refine Ev.run (pc' := 19) (ls' := [some (.long x0), none]) (st' := [.int (zi 1)]) (h' := mk s) 2 rfl ?_
      subst h
      exact Ev.fin rfl rfl
/-! 29 F$Arguments.full()Z -/
def r29  (s : zS) : Int32 := if (s.1 8 3) < (zi 24) then zi 0 else zi 1
set_option maxRecDepth 100000 in
theorem k29 {X : mX} {D : Nat}  {s : zS} {v : Int32} (h : r29  s = v) : Ev X D mm29 0 [some (.ref 8)] [] (mk s) (encI (v, s)) := by
  unfold r29 at h
  refine Ev.run (pc' := 6) (ls' := [some (.ref 8)]) (st' := [.int (zi 24), .int (s.1 8 3)]) (h' := mk s) 3 rfl ?_
  refine Ev.icmp_lt (t := 13) rfl rfl (fun hb => ?_) (fun hb => ?_)
  · have h := (if_pos hb).symm.trans h
    refine Ev.run (pc' := 14) (ls' := [some (.ref 8)]) (st' := [.int (zi 0)]) (h' := mk s) 1 rfl ?_
    subst h
    exact Ev.fin rfl rfl
  · have h := (if_neg hb).symm.trans h
    refine Ev.run (pc' := 14) (ls' := [some (.ref 8)]) (st' := [.int (zi 1)]) (h' := mk s) 2 rfl ?_
    subst h
    exact Ev.fin rfl rfl
/-! 25 F$Arguments.narrowed(IJ)J -/
def r25 (x0 : Int32) (x1 : Int64) (s : zS) : Int64 := if x0 = zi 0 then zl 0 else if x0 = zi 3 then zI2L (zI2B (zL2I x1)) else if x0 = zi 4 then zI2L (zI2S (zL2I x1)) else if x0 = zi 5 then zI2L (zL2I x1) else x1
set_option maxRecDepth 100000 in
theorem k25 {X : mX} {D : Nat} {x0 : Int32} {x1 : Int64} {s : zS} {v : Int64} (h : r25 x0 x1 s = v) : Ev X D mm25 0 [some (.int x0), some (.long x1), none] [] (mk s) (encL (v, s)) := by
  unfold r25 at h
  refine Ev.run (pc' := 1) (ls' := [some (.int x0), some (.long x1), none]) (st' := [.int x0]) (h' := mk s) 1 rfl ?_
  by_cases hb : x0 = zi 0
  · have h := (if_pos hb).symm.trans h
    refine Ev.tsw (t := 40) (k := 0) rfl hb (by rfl) ?_
    refine Ev.run (pc' := 41) (ls' := [some (.int x0), some (.long x1), none]) (st' := [.long (zl 0)]) (h' := mk s) 1 rfl ?_
    subst h
    exact Ev.fin rfl rfl
  have h := (if_neg hb).symm.trans h
  have n_0 := hb
  clear hb
  by_cases hb : x0 = zi 3
  · have h := (if_pos hb).symm.trans h
    refine Ev.tsw (t := 42) (k := 3) rfl hb (by rfl) ?_
    refine Ev.run (pc' := 46) (ls' := [some (.int x0), some (.long x1), none]) (st' := [.long (zI2L (zI2B (zL2I x1)))]) (h' := mk s) 4 rfl ?_
    subst h
    exact Ev.fin rfl rfl
  have h := (if_neg hb).symm.trans h
  have n_3 := hb
  clear hb
  by_cases hb : x0 = zi 4
  · have h := (if_pos hb).symm.trans h
    refine Ev.tsw (t := 47) (k := 4) rfl hb (by rfl) ?_
    refine Ev.run (pc' := 51) (ls' := [some (.int x0), some (.long x1), none]) (st' := [.long (zI2L (zI2S (zL2I x1)))]) (h' := mk s) 4 rfl ?_
    subst h
    exact Ev.fin rfl rfl
  have h := (if_neg hb).symm.trans h
  have n_4 := hb
  clear hb
  by_cases hb : x0 = zi 5
  · have h := (if_pos hb).symm.trans h
    refine Ev.tsw (t := 52) (k := 5) rfl hb (by rfl) ?_
    refine Ev.run (pc' := 55) (ls' := [some (.int x0), some (.long x1), none]) (st' := [.long (zI2L (zL2I x1))]) (h' := mk s) 3 rfl ?_
    subst h
    exact Ev.fin rfl rfl
  have h := (if_neg hb).symm.trans h
  have n_5 := hb
  clear hb
  refine Ev.tswd (t := 56) rfl (by rfl) (by decide) (fun q hq hx => ?_) ?_
  · have hq : q < 6 := hq
    have hq2 : q = 0 ∨ q = 1 ∨ q = 2 ∨ q = 3 ∨ q = 4 ∨ q = 5 := by omega
    rcases hq2 with rfl | rfl | rfl | rfl | rfl | rfl
    · exact absurd (zi_of_toInt hx) n_0
    · exact ⟨_, rfl, rfl⟩
    · exact ⟨_, rfl, rfl⟩
    · exact absurd (zi_of_toInt hx) n_3
    · exact absurd (zi_of_toInt hx) n_4
    · exact absurd (zi_of_toInt hx) n_5
  · refine Ev.run (pc' := 57) (ls' := [some (.int x0), some (.long x1), none]) (st' := [.long x1]) (h' := mk s) 1 rfl ?_
    subst h
    exact Ev.fin rfl rfl
/-! 32 F$Arguments.add(IJ)I -/
def f32  (x1 : Int32) (x2 : Int64) (s : zS) : Option (Int32 × zS) := if ¬ (r29 s) = zi 0 then some (s.1 8 3, s) else if mIx (s.1 8 3) 24 then if mIx (s.1 8 3) 24 then some ((s.1 8 3) + (zi 1), setI (setK (setB s 9 ((s.1 8 3).toNatClampNeg) x1) 10 ((s.1 8 3).toNatClampNeg) x2) 8 3 ((s.1 8 3) + (zi 1))) else none else none
set_option maxRecDepth 100000 in
theorem k32 {X : mX} {D : Nat} {x1 : Int32} {x2 : Int64} {s : zS} {r : Int32 × zS}  (h : f32 x1 x2 s = some r) : Ev X (D + 1) mm32 0 [some (.ref 8), some (.int x1), some (.long x2), none] [] (mk s) (encI r) := by
  unfold f32 at h
  refine Ev.run (pc' := 1) (ls' := [some (.ref 8), some (.int x1), some (.long x2), none]) (st' := [.ref 8]) (h' := mk s) 1 rfl ?_
  refine Ev.call (M' := mm29) (v := some (.int (r29 s))) (h' := mk s) rfl rfl rfl (Nat.le_of_ble_eq_true rfl) (k29  (s := s) (v := r29 s)  rfl) ?_
  refine Ev.if_ne (t := 37) rfl rfl (fun hb => ?_) (fun hb => ?_)
  · have h := (if_pos hb).symm.trans h
    refine Ev.run (pc' := 41) (ls' := [some (.ref 8), some (.int x1), some (.long x2), none]) (st' := [.int (s.1 8 3)]) (h' := mk s) 2 rfl ?_
    cases h
    exact Ev.fin rfl rfl
  · have h := (if_neg hb).symm.trans h
    refine Ev.run (pc' := 16) (ls' := [some (.ref 8), some (.int x1), some (.long x2), none]) (st' := [.int x1, .int (s.1 8 3), .ref 9]) (h' := mk s) 5 rfl ?_
    obtain ⟨hx, h⟩ := zif h
    refine Ev.step (pc' := 17) rfl (ast_9 hx) ?_
    refine Ev.run (pc' := 26) (ls' := [some (.ref 8), some (.int x1), some (.long x2), none]) (st' := [.long x2, .int (s.1 8 3), .ref 10]) (h' := mk (setB s 9 ((s.1 8 3).toNatClampNeg) x1)) 5 rfl ?_
    obtain ⟨hx, h⟩ := zif h
    refine Ev.step (pc' := 27) rfl (ast_10 hx) ?_
    refine Ev.run (pc' := 34) (ls' := [some (.ref 8), some (.int x1), some (.long x2), none]) (st' := [.int ((s.1 8 3) + (zi 1)), .ref 8]) (h' := mk (setK (setB s 9 ((s.1 8 3).toNatClampNeg) x1) 10 ((s.1 8 3).toNatClampNeg) x2)) 5 rfl ?_
    refine Ev.step (pc' := 37) rfl (put_2_3 rfl) ?_
    refine Ev.run (pc' := 41) (ls' := [some (.ref 8), some (.int x1), some (.long x2), none]) (st' := [.int ((s.1 8 3) + (zi 1))]) (h' := mk (setI (setK (setB s 9 ((s.1 8 3).toNatClampNeg) x1) 10 ((s.1 8 3).toNatClampNeg) x2) 8 3 ((s.1 8 3) + (zi 1)))) 2 rfl ?_
    cases h
    exact Ev.fin rfl rfl
/-! 4 F.whole(IJ)I -/
def f4_42  (x1 : Int32) (x2 : Int64) (s : zS) : Option ((Int32 ⊕ Nat) × zS) := if (r29 s) = zi 0 then zb1 (f32 x1 (r25 x1 x2 s) s) (fun v2 s1 => some (.inl v2, s1)) else if s.2.2 < 600000 then some (.inr 2, thr s) else none
set_option maxRecDepth 100000 in
theorem k4_42 {X : mX} {D : Nat}   (x1 : Int32) (x2 : Int64) (s : zS) (r : (Int32 ⊕ Nat) × zS)   (h : f4_42  x1 x2 s = some r) : Ev X (D + 2) mm4 42 [some (.ref 0), some (.int x1), some (.long x2), none] [] (mk s) (encTI r) := by
  unfold f4_42 at h
  refine Ev.run (pc' := 46) (ls' := [some (.ref 0), some (.int x1), some (.long x2), none]) (st' := [.ref 8]) (h' := mk s) 2 rfl ?_
  refine Ev.call (M' := mm29) (v := some (.int (r29 s))) (h' := mk s) rfl rfl rfl (Nat.le_of_ble_eq_true rfl) (k29  (s := s) (v := r29 s)  rfl) ?_
  refine Ev.if_eq (t := 62) rfl rfl (fun hb => ?_) (fun hb => ?_)
  · have h := (if_pos hb).symm.trans h
    refine Ev.run (pc' := 69) (ls' := [some (.ref 0), some (.int x1), some (.long x2), none]) (st' := [.long x2, .int x1, .int x1, .ref 8]) (h' := mk s) 5 rfl ?_
    refine Ev.call (M' := mm25) (v := some (.long (r25 x1 x2 s))) (h' := mk s) rfl rfl rfl (Nat.le_of_ble_eq_true rfl) (k25 (x0 := x1) (x1 := x2) (s := s) (v := r25 x1 x2 s)  rfl) ?_
    obtain ⟨v2, s1, hq, h⟩ := zb1_some h
    refine Ev.call (M' := mm32) (v := some (.int v2)) (h' := mk s1) rfl rfl rfl (Nat.le_of_ble_eq_true rfl) (k32 hq) ?_
    cases h
    exact Ev.fin rfl rfl
  · have h := (if_neg hb).symm.trans h
    obtain ⟨hx, h⟩ := zif h
    cases h
    exact Ev.throws rfl rfl rfl rfl rfl rfl rfl rfl rfl (by decide) hx
def f4_10   (s : zS) : Option ((Int32 ⊕ Nat) × zS) := if s.2.2 < 600000 then some (.inr 0, thr s) else none
set_option maxRecDepth 100000 in
theorem k4_10 {X : mX} {D : Nat}    (s : zS) (r : (Int32 ⊕ Nat) × zS) (o0 : Option Value) (o1 : Option Value) (o2 : Option Value) (o3 : Option Value)  (h : f4_10   s = some r) : Ev X (D + 2) mm4 10 [o0, o1, o2, o3] [] (mk s) (encTI r) := by
  unfold f4_10 at h
  obtain ⟨hx, h⟩ := zif h
  cases h
  exact Ev.throws rfl rfl rfl rfl rfl rfl rfl rfl rfl (by decide) hx
def f4  (x1 : Int32) (x2 : Int64) (s : zS) : Option ((Int32 ⊕ Nat) × zS) := if x1 < zi 0 then f4_10 s else if x1 ≤ (zi 6) then if ¬ x1 = (zi 2) then f4_42 x1 x2 s else if ¬ (r24 x2 s) = zi 0 then f4_42 x1 x2 s else if s.2.2 < 600000 then some (.inr 0, thr s) else none else f4_10 s
set_option maxRecDepth 100000 in
theorem k4 {X : mX} {D : Nat} {x1 : Int32} {x2 : Int64} {s : zS} {r : (Int32 ⊕ Nat) × zS}  (h : f4 x1 x2 s = some r) : Ev X (D + 2) mm4 0 [some (.ref 0), some (.int x1), some (.long x2), none] [] (mk s) (encTI r) := by
  unfold f4 at h
  refine Ev.run (pc' := 1) (ls' := [some (.ref 0), some (.int x1), some (.long x2), none]) (st' := [.int x1]) (h' := mk s) 1 rfl ?_
  refine Ev.if_lt (t := 10) rfl rfl (fun hb => ?_) (fun hb => ?_)
  · have h := (if_pos hb).symm.trans h
    exact k4_10 s _ _ _ _ _ h
  · have h := (if_neg hb).symm.trans h
    refine Ev.run (pc' := 7) (ls' := [some (.ref 0), some (.int x1), some (.long x2), none]) (st' := [.int (zi 6), .int x1]) (h' := mk s) 2 rfl ?_
    refine Ev.icmp_le (t := 20) rfl rfl (fun hb => ?_) (fun hb => ?_)
    · have h := (if_pos hb).symm.trans h
      refine Ev.run (pc' := 22) (ls' := [some (.ref 0), some (.int x1), some (.long x2), none]) (st' := [.int (zi 2), .int x1]) (h' := mk s) 2 rfl ?_
      refine Ev.icmp_ne (t := 42) rfl rfl (fun hb => ?_) (fun hb => ?_)
      · have h := (if_pos hb).symm.trans h
        exact k4_42 x1 x2 s _ h
      · have h := (if_neg hb).symm.trans h
        refine Ev.run (pc' := 26) (ls' := [some (.ref 0), some (.int x1), some (.long x2), none]) (st' := [.long x2]) (h' := mk s) 1 rfl ?_
        refine Ev.call (M' := mm24) (v := some (.int (r24 x2 s))) (h' := mk s) rfl rfl rfl (Nat.le_of_ble_eq_true rfl) (k24 (x0 := x2) (s := s) (v := r24 x2 s)  rfl) ?_
        refine Ev.if_ne (t := 42) rfl rfl (fun hb => ?_) (fun hb => ?_)
        · have h := (if_pos hb).symm.trans h
          exact k4_42 x1 x2 s _ h
        · have h := (if_neg hb).symm.trans h
          obtain ⟨hx, h⟩ := zif h
          cases h
          exact Ev.throws rfl rfl rfl rfl rfl rfl rfl rfl rfl (by decide) hx
    · have h := (if_neg hb).symm.trans h
      exact k4_10 s _ _ _ _ _ h
/-! 5 F.real(JZ)I -/
def f5_35  (x1 : Int64) (y1 : Int32) (s : zS) : Option ((Int32 ⊕ Nat) × zS) := zb1 (f32 y1 x1 s) (fun v2 s1 => some (.inl v2, s1))
set_option maxRecDepth 100000 in
theorem k5_35 {X : mX} {D : Nat}   (x1 : Int64) (y1 : Int32) (s : zS) (r : (Int32 ⊕ Nat) × zS) (o0 : Option Value) (o3 : Option Value)  (h : f5_35  x1 y1 s = some r) : Ev X (D + 2) mm5 35 [o0, some (.long x1), none, o3] [.int y1, .ref 8] (mk s) (encTI r) := by
  unfold f5_35 at h
  refine Ev.run (pc' := 36) (ls' := [o0, some (.long x1), none, o3]) (st' := [.long x1, .int y1, .ref 8]) (h' := mk s) 1 rfl ?_
  obtain ⟨v2, s1, hq, h⟩ := zb1_some h
  refine Ev.call (M' := mm32) (v := some (.int v2)) (h' := mk s1) rfl rfl rfl (Nat.le_of_ble_eq_true rfl) (k32 hq) ?_
  cases h
  exact Ev.fin rfl rfl
def f5  (x1 : Int64) (x3 : Int32) (s : zS) : Option ((Int32 ⊕ Nat) × zS) := if (r29 s) = zi 0 then if x3 = zi 0 then f5_35 x1 (zi 7) s else f5_35 x1 (zi 8) s else if s.2.2 < 600000 then some (.inr 2, thr s) else none
set_option maxRecDepth 100000 in
theorem k5 {X : mX} {D : Nat} {x1 : Int64} {x3 : Int32} {s : zS} {r : (Int32 ⊕ Nat) × zS}  (h : f5 x1 x3 s = some r) : Ev X (D + 2) mm5 0 [some (.ref 0), some (.long x1), none, some (.int x3)] [] (mk s) (encTI r) := by
  unfold f5 at h
  refine Ev.run (pc' := 4) (ls' := [some (.ref 0), some (.long x1), none, some (.int x3)]) (st' := [.ref 8]) (h' := mk s) 2 rfl ?_
  refine Ev.call (M' := mm29) (v := some (.int (r29 s))) (h' := mk s) rfl rfl rfl (Nat.le_of_ble_eq_true rfl) (k29  (s := s) (v := r29 s)  rfl) ?_
  refine Ev.if_eq (t := 20) rfl rfl (fun hb => ?_) (fun hb => ?_)
  · have h := (if_pos hb).symm.trans h
    refine Ev.run (pc' := 25) (ls' := [some (.ref 0), some (.long x1), none, some (.int x3)]) (st' := [.int x3, .ref 8]) (h' := mk s) 3 rfl ?_
    refine Ev.if_eq (t := 33) rfl rfl (fun hb => ?_) (fun hb => ?_)
    · have h := (if_pos hb).symm.trans h
      refine Ev.run (pc' := 35) (ls' := [some (.ref 0), some (.long x1), none, some (.int x3)]) (st' := [.int (zi 7), .ref 8]) (h' := mk s) 1 rfl ?_
      exact k5_35 x1 (zi 7) s _ _ _ h
    · have h := (if_neg hb).symm.trans h
      refine Ev.run (pc' := 35) (ls' := [some (.ref 0), some (.long x1), none, some (.int x3)]) (st' := [.int (zi 8), .ref 8]) (h' := mk s) 2 rfl ?_
      exact k5_35 x1 (zi 8) s _ _ _ h
  · have h := (if_neg hb).symm.trans h
    obtain ⟨hx, h⟩ := zif h
    cases h
    exact Ev.throws rfl rfl rfl rfl rfl rfl rfl rfl rfl (by decide) hx
/-! 33 F$Arguments.addText(LFormatPress$Line;)I -/
def f33_52  (x2 : Int32) (s : zS) : Option (Int32 × zS) := zb1 (f32 (zi 9) (zI2L x2) s) (fun v2 s1 => some (v2, s1))
set_option maxRecDepth 100000 in
theorem k33_52 {X : mX} {D : Nat}   (x2 : Int32) (s : zS) (r : Int32 × zS) (o1 : Option Value) (o3 : Option Value)  (h : f33_52  x2 s = some r) : Ev X (D + 2) mm33 52 [some (.ref 8), o1, some (.int x2), o3] [] (mk s) (encI r) := by
  unfold f33_52 at h
  refine Ev.run (pc' := 57) (ls' := [some (.ref 8), o1, some (.int x2), o3]) (st' := [.long (zI2L x2), .int (zi 9), .ref 8]) (h' := mk s) 4 rfl ?_
  obtain ⟨v2, s1, hq, h⟩ := zb1_some h
  refine Ev.call (M' := mm32) (v := some (.int v2)) (h' := mk s1) rfl rfl rfl (Nat.le_of_ble_eq_true rfl) (k32 hq) ?_
  cases h
  exact Ev.fin rfl rfl
def b33_20 (rec20 : Int32 → Int32 → zS → Option (Int32 × zS)) (x2 : Int32) (x3 : Int32) (s : zS) : Option (Int32 × zS) := if x3 ≥ x2 then f33_52 x2 s else zb1 (f17 1 x3 s) (fun v2 s1 => if mIx (((s.1 8 3) * (zi 200)) + x3) 4800 then rec20 x2 (x3 + zi 1) (setB s1 11 ((((s.1 8 3) * (zi 200)) + x3).toNatClampNeg) (zI2B (zI2B v2))) else none)
set_option maxRecDepth 100000 in
theorem kb33_20 {X : mX} {D : Nat} {rec20 : Int32 → Int32 → zS → Option (Int32 × zS)} (hrec20 : ∀ (x2 : Int32) (x3 : Int32) (s : zS) (r : Int32 × zS) , rec20 x2 x3 s = some r → Ev X (D + 2) mm33 20 [some (.ref 8), some (.ref 1), some (.int x2), some (.int x3)] [] (mk s) (encI r)) (x2 : Int32) (x3 : Int32) (s : zS) (r : Int32 × zS)   (h : b33_20 rec20 x2 x3 s = some r) : Ev X (D + 2) mm33 20 [some (.ref 8), some (.ref 1), some (.int x2), some (.int x3)] [] (mk s) (encI r) := by
  unfold b33_20 at h
  refine Ev.run (pc' := 22) (ls' := [some (.ref 8), some (.ref 1), some (.int x2), some (.int x3)]) (st' := [.int x2, .int x3]) (h' := mk s) 2 rfl ?_
  refine Ev.icmp_ge (t := 52) rfl rfl (fun hb => ?_) (fun hb => ?_)
  · have h := (if_pos hb).symm.trans h
    exact k33_52 x2 s _ _ _ h
  · have h := (if_neg hb).symm.trans h
    refine Ev.run (pc' := 41) (ls' := [some (.ref 8), some (.ref 1), some (.int x2), some (.int x3)]) (st' := [.int x3, .ref 1, .int (((s.1 8 3) * (zi 200)) + x3), .ref 11]) (h' := mk s) 10 rfl ?_
    obtain ⟨v2, s1, hq, h⟩ := zb1_some h
    refine Ev.call (M' := mm17) (v := some (.int v2)) (h' := mk s1) rfl rfl rfl (Nat.le_of_ble_eq_true rfl) (k17 (by decide) hq) ?_
    refine Ev.run (pc' := 45) (ls' := [some (.ref 8), some (.ref 1), some (.int x2), some (.int x3)]) (st' := [.int (zI2B v2), .int (((s.1 8 3) * (zi 200)) + x3), .ref 11]) (h' := mk s1) 1 rfl ?_
    obtain ⟨hx, h⟩ := zif h
    refine Ev.step (pc' := 46) rfl (ast_11 hx) ?_
    refine Ev.run (pc' := 20) (ls' := [some (.ref 8), some (.ref 1), some (.int x2), some (.int (x3 + zi 1))]) (st' := []) (h' := mk (setB s1 11 ((((s.1 8 3) * (zi 200)) + x3).toNatClampNeg) (zI2B (zI2B v2)))) 2 rfl ?_
    exact hrec20 x2 (x3 + zi 1) (setB s1 11 ((((s.1 8 3) * (zi 200)) + x3).toNatClampNeg) (zI2B (zI2B v2))) _ h
def f33_20  : Nat → Int32 → Int32 → zS → Option (Int32 × zS)
  | 0, _, _, _ => none
  | n + 1, x2, x3, s => b33_20 (f33_20 n) x2 x3 s
set_option maxRecDepth 100000 in
theorem k33_20 {X : mX} {D : Nat}   (n : Nat) : ∀ (x2 : Int32) (x3 : Int32) (s : zS) (r : Int32 × zS) , f33_20  n x2 x3 s = some r → Ev X (D + 2) mm33 20 [some (.ref 8), some (.ref 1), some (.int x2), some (.int x3)] [] (mk s) (encI r) := by
  induction n with
  | zero => intro x2 x3 s r   h; cases h
  | succ n ih => intro x2 x3 s r   h; exact kb33_20  ih x2 x3 s r   h
def f33   (s : zS) : Option (Int32 × zS) := if ¬ (r29 s) = zi 0 then f33_52 (r265 (r16 1 s) (zi 200) s) s else f33_20 zF (r265 (r16 1 s) (zi 200) s) (zi 0) s
set_option maxRecDepth 100000 in
theorem k33 {X : mX} {D : Nat}  {s : zS} {r : Int32 × zS}  (h : f33  s = some r) : Ev X (D + 2) mm33 0 [some (.ref 8), some (.ref 1), none, none] [] (mk s) (encI r) := by
  unfold f33 at h
  refine Ev.run (pc' := 1) (ls' := [some (.ref 8), some (.ref 1), none, none]) (st' := [.ref 1]) (h' := mk s) 1 rfl ?_
  refine Ev.call (M' := mm16) (v := some (.int (r16 1 s))) (h' := mk s) rfl rfl rfl (Nat.le_of_ble_eq_true rfl) (k16 (aa := 1) (s := s) (v := r16 1 s) (by decide) rfl) ?_
  refine Ev.run (pc' := 7) (ls' := [some (.ref 8), some (.ref 1), none, none]) (st' := [.int (zi 200), .int (r16 1 s)]) (h' := mk s) 1 rfl ?_
  refine Ev.call (M' := mm265) (v := some (.int (r265 (r16 1 s) (zi 200) s))) (h' := mk s) rfl rfl rfl (Nat.le_of_ble_eq_true rfl) (k265 (x0 := (r16 1 s)) (x1 := (zi 200)) (s := s) (v := r265 (r16 1 s) (zi 200) s)  rfl) ?_
  refine Ev.run (pc' := 12) (ls' := [some (.ref 8), some (.ref 1), some (.int (r265 (r16 1 s) (zi 200) s)), none]) (st' := [.ref 8]) (h' := mk s) 2 rfl ?_
  refine Ev.call (M' := mm29) (v := some (.int (r29 s))) (h' := mk s) rfl rfl rfl (Nat.le_of_ble_eq_true rfl) (k29  (s := s) (v := r29 s)  rfl) ?_
  refine Ev.if_ne (t := 52) rfl rfl (fun hb => ?_) (fun hb => ?_)
  · have h := (if_pos hb).symm.trans h
    exact k33_52 (r265 (r16 1 s) (zi 200) s) s _ _ _ h
  · have h := (if_neg hb).symm.trans h
    refine Ev.run (pc' := 20) (ls' := [some (.ref 8), some (.ref 1), some (.int (r265 (r16 1 s) (zi 200) s)), some (.int (zi 0))]) (st' := []) (h' := mk s) 2 rfl ?_
    exact k33_20 zF (r265 (r16 1 s) (zi 200) s) (zi 0) s _ h
/-! 6 F.text()I -/
def f6   (s : zS) : Option ((Int32 ⊕ Nat) × zS) := if (r16 1 s) ≤ (zi 200) then if (r29 s) = zi 0 then zb1 (f33 s) (fun v2 s1 => zb0 (f21 1 s1) (fun s3 => some (.inl v2, s3))) else if s.2.2 < 600000 then some (.inr 2, thr s) else none else if s.2.2 < 600000 then some (.inr 0, thr s) else none
set_option maxRecDepth 100000 in
theorem k6 {X : mX} {D : Nat}  {s : zS} {r : (Int32 ⊕ Nat) × zS}  (h : f6  s = some r) : Ev X (D + 3) mm6 0 [some (.ref 0), none] [] (mk s) (encTI r) := by
  unfold f6 at h
  refine Ev.run (pc' := 4) (ls' := [some (.ref 0), none]) (st' := [.ref 1]) (h' := mk s) 2 rfl ?_
  refine Ev.call (M' := mm16) (v := some (.int (r16 1 s))) (h' := mk s) rfl rfl rfl (Nat.le_of_ble_eq_true rfl) (k16 (aa := 1) (s := s) (v := r16 1 s) (by decide) rfl) ?_
  refine Ev.run (pc' := 10) (ls' := [some (.ref 0), none]) (st' := [.int (zi 200), .int (r16 1 s)]) (h' := mk s) 1 rfl ?_
  refine Ev.icmp_le (t := 23) rfl rfl (fun hb => ?_) (fun hb => ?_)
  · have h := (if_pos hb).symm.trans h
    refine Ev.run (pc' := 27) (ls' := [some (.ref 0), none]) (st' := [.ref 8]) (h' := mk s) 2 rfl ?_
    refine Ev.call (M' := mm29) (v := some (.int (r29 s))) (h' := mk s) rfl rfl rfl (Nat.le_of_ble_eq_true rfl) (k29  (s := s) (v := r29 s)  rfl) ?_
    refine Ev.if_eq (t := 43) rfl rfl (fun hb => ?_) (fun hb => ?_)
    · have h := (if_pos hb).symm.trans h
      refine Ev.run (pc' := 51) (ls' := [some (.ref 0), none]) (st' := [.ref 1, .ref 8]) (h' := mk s) 4 rfl ?_
      obtain ⟨v2, s1, hq, h⟩ := zb1_some h
      refine Ev.call (M' := mm33) (v := some (.int v2)) (h' := mk s1) rfl rfl rfl (Nat.le_of_ble_eq_true rfl) (k33 hq) ?_
      refine Ev.run (pc' := 59) (ls' := [some (.ref 0), some (.int v2)]) (st' := [.ref 1]) (h' := mk s1) 3 rfl ?_
      obtain ⟨s3, hq, h⟩ := zb0_some h
      refine Ev.call (M' := mm21) (v := none) (h' := mk s3) rfl rfl rfl (Nat.le_of_ble_eq_true rfl) (k21 (by decide) hq) ?_
      refine Ev.run (pc' := 63) (ls' := [some (.ref 0), some (.int v2)]) (st' := [.int v2]) (h' := mk s3) 1 rfl ?_
      cases h
      exact Ev.fin rfl rfl
    · have h := (if_neg hb).symm.trans h
      obtain ⟨hx, h⟩ := zif h
      cases h
      exact Ev.throws rfl rfl rfl rfl rfl rfl rfl rfl rfl (by decide) hx
  · have h := (if_neg hb).symm.trans h
    obtain ⟨hx, h⟩ := zif h
    cases h
    exact Ev.throws rfl rfl rfl rfl rfl rfl rfl rfl rfl (by decide) hx
/-! 58 F$Composer.begin()V -/
def f58   (s : zS) : Option (zS) := some (setI (setI s 12 6 (zi 0)) 12 7 (zi 0))
set_option maxRecDepth 100000 in
theorem k58 {X : mX} {D : Nat}  {s : zS} {r : zS}  (h : f58  s = some r) : Ev X D mm58 0 [some (.ref 12)] [] (mk s) (encV r) := by
  unfold f58 at h
  refine Ev.run (pc' := 2) (ls' := [some (.ref 12)]) (st' := [.int (zi 0), .ref 12]) (h' := mk s) 2 rfl ?_
  refine Ev.step (pc' := 5) rfl (put_4_6 rfl) ?_
  refine Ev.run (pc' := 7) (ls' := [some (.ref 12)]) (st' := [.int (zi 0), .ref 12]) (h' := mk (setI s 12 6 (zi 0))) 2 rfl ?_
  refine Ev.step (pc' := 10) rfl (put_4_7 rfl) ?_
  cases h
  exact Ev.fin rfl rfl
/-! 18 F$Line.fits(I)Z -/
def r18 (aa : Nat) (x1 : Int32) (s : zS) : Int32 := if x1 > ((zi (zLen aa)) - (s.1 aa 1)) then zi 0 else zi 1
set_option maxRecDepth 100000 in
theorem k18 {X : mX} {D : Nat} {aa : Nat} {x1 : Int32} {s : zS} (haa : zLine aa) {v : Int32} (h : r18 aa x1 s = v) : Ev X D mm18 0 [some (.ref aa), some (.int x1)] [] (mk s) (encI (v, s)) := by
  rcases haa with rfl | rfl | rfl
  · unfold r18 at h
    refine Ev.run (pc' := 11) (ls' := [some (.ref 1), some (.int x1)]) (st' := [.int ((zi (zLen 1)) - (s.1 1 1)), .int x1]) (h' := mk s) 7 rfl ?_
    refine Ev.icmp_gt (t := 18) rfl rfl (fun hb => ?_) (fun hb => ?_)
    · have h := (if_pos hb).symm.trans h
      refine Ev.run (pc' := 19) (ls' := [some (.ref 1), some (.int x1)]) (st' := [.int (zi 0)]) (h' := mk s) 1 rfl ?_
      subst h
      exact Ev.fin rfl rfl
    · have h := (if_neg hb).symm.trans h
      refine Ev.run (pc' := 19) (ls' := [some (.ref 1), some (.int x1)]) (st' := [.int (zi 1)]) (h' := mk s) 2 rfl ?_
      subst h
      exact Ev.fin rfl rfl
  · unfold r18 at h
    refine Ev.run (pc' := 11) (ls' := [some (.ref 3), some (.int x1)]) (st' := [.int ((zi (zLen 3)) - (s.1 3 1)), .int x1]) (h' := mk s) 7 rfl ?_
    refine Ev.icmp_gt (t := 18) rfl rfl (fun hb => ?_) (fun hb => ?_)
    · have h := (if_pos hb).symm.trans h
      refine Ev.run (pc' := 19) (ls' := [some (.ref 3), some (.int x1)]) (st' := [.int (zi 0)]) (h' := mk s) 1 rfl ?_
      subst h
      exact Ev.fin rfl rfl
    · have h := (if_neg hb).symm.trans h
      refine Ev.run (pc' := 19) (ls' := [some (.ref 3), some (.int x1)]) (st' := [.int (zi 1)]) (h' := mk s) 2 rfl ?_
      subst h
      exact Ev.fin rfl rfl
  · unfold r18 at h
    refine Ev.run (pc' := 11) (ls' := [some (.ref 5), some (.int x1)]) (st' := [.int ((zi (zLen 5)) - (s.1 5 1)), .int x1]) (h' := mk s) 7 rfl ?_
    refine Ev.icmp_gt (t := 18) rfl rfl (fun hb => ?_) (fun hb => ?_)
    · have h := (if_pos hb).symm.trans h
      refine Ev.run (pc' := 19) (ls' := [some (.ref 5), some (.int x1)]) (st' := [.int (zi 0)]) (h' := mk s) 1 rfl ?_
      subst h
      exact Ev.fin rfl rfl
    · have h := (if_neg hb).symm.trans h
      refine Ev.run (pc' := 19) (ls' := [some (.ref 5), some (.int x1)]) (st' := [.int (zi 1)]) (h' := mk s) 2 rfl ?_
      subst h
      exact Ev.fin rfl rfl
/-! 59 F$Composer.copy(I)I -/
def f59  (x1 : Int32) (s : zS) : Option (Int32 × zS) := if ¬ (r18 5 (zi 1) s) = zi 0 then zb0 (f19 5 x1 s) (fun s1 => some (zi 0, s1)) else some (zi 11, s)
set_option maxRecDepth 100000 in
theorem k59 {X : mX} {D : Nat} {x1 : Int32} {s : zS} {r : Int32 × zS}  (h : f59 x1 s = some r) : Ev X (D + 1) mm59 0 [some (.ref 12), some (.int x1)] [] (mk s) (encI r) := by
  unfold f59 at h
  refine Ev.run (pc' := 5) (ls' := [some (.ref 12), some (.int x1)]) (st' := [.int (zi 1), .ref 5]) (h' := mk s) 3 rfl ?_
  refine Ev.call (M' := mm18) (v := some (.int (r18 5 (zi 1) s))) (h' := mk s) rfl rfl rfl (Nat.le_of_ble_eq_true rfl) (k18 (aa := 5) (x1 := (zi 1)) (s := s) (v := r18 5 (zi 1) s) (by decide) rfl) ?_
  refine Ev.if_ne (t := 14) rfl rfl (fun hb => ?_) (fun hb => ?_)
  · have h := (if_pos hb).symm.trans h
    refine Ev.run (pc' := 19) (ls' := [some (.ref 12), some (.int x1)]) (st' := [.int x1, .ref 5]) (h' := mk s) 3 rfl ?_
    obtain ⟨s1, hq, h⟩ := zb0_some h
    refine Ev.call (M' := mm19) (v := none) (h' := mk s1) rfl rfl rfl (Nat.le_of_ble_eq_true rfl) (k19 (by decide) hq) ?_
    refine Ev.run (pc' := 23) (ls' := [some (.ref 12), some (.int x1)]) (st' := [.int (zi 0)]) (h' := mk s1) 1 rfl ?_
    cases h
    exact Ev.fin rfl rfl
  · have h := (if_neg hb).symm.trans h
    refine Ev.run (pc' := 13) (ls' := [some (.ref 12), some (.int x1)]) (st' := [.int (zi 11)]) (h' := mk s) 1 rfl ?_
    cases h
    exact Ev.fin rfl rfl
/-! 69 F$Piece.start()V -/
def f69   (s : zS) : Option (zS) := some (setI (setI (setI s 13 1 (zi 0)) 13 2 (zi 0)) 13 3 (zi (-1)))
set_option maxRecDepth 100000 in
theorem k69 {X : mX} {D : Nat}  {s : zS} {r : zS}  (h : f69  s = some r) : Ev X D mm69 0 [some (.ref 13)] [] (mk s) (encV r) := by
  unfold f69 at h
  refine Ev.run (pc' := 2) (ls' := [some (.ref 13)]) (st' := [.int (zi 0), .ref 13]) (h' := mk s) 2 rfl ?_
  refine Ev.step (pc' := 5) rfl (put_5_1 rfl) ?_
  refine Ev.run (pc' := 7) (ls' := [some (.ref 13)]) (st' := [.int (zi 0), .ref 13]) (h' := mk (setI s 13 1 (zi 0))) 2 rfl ?_
  refine Ev.step (pc' := 10) rfl (put_5_2 rfl) ?_
  refine Ev.run (pc' := 12) (ls' := [some (.ref 13)]) (st' := [.int (zi (-1)), .ref 13]) (h' := mk (setI (setI s 13 1 (zi 0)) 13 2 (zi 0))) 2 rfl ?_
  refine Ev.step (pc' := 15) rfl (put_5_3 rfl) ?_
  cases h
  exact Ev.fin rfl rfl
/-! 54 F$Spec.conversion()I -/
def r54  (s : zS) : Int32 := s.1 7 6
set_option maxRecDepth 100000 in
theorem k54 {X : mX} {D : Nat}  {s : zS} {v : Int32} (h : r54  s = v) : Ev X D mm54 0 [some (.ref 7)] [] (mk s) (encI (v, s)) := by
  unfold r54 at h
  refine Ev.run (pc' := 4) (ls' := [some (.ref 7)]) (st' := [.int (s.1 7 6)]) (h' := mk s) 2 rfl ?_
  subst h
  exact Ev.fin rfl rfl
/-! 70 F$Piece.add(I)V -/
def f70  (x1 : Int32) (s : zS) : Option (zS) := if (s.1 13 1) ≥ (zi 1600) then some s else if mIx (s.1 13 1) 1600 then some (setI (setB s 14 ((s.1 13 1).toNatClampNeg) (zI2B (zI2B x1))) 13 1 ((s.1 13 1) + (zi 1))) else none
set_option maxRecDepth 100000 in
theorem k70 {X : mX} {D : Nat} {x1 : Int32} {s : zS} {r : zS}  (h : f70 x1 s = some r) : Ev X D mm70 0 [some (.ref 13), some (.int x1)] [] (mk s) (encV r) := by
  unfold f70 at h
  refine Ev.run (pc' := 7) (ls' := [some (.ref 13), some (.int x1)]) (st' := [.int (zi 1600), .int (s.1 13 1)]) (h' := mk s) 3 rfl ?_
  refine Ev.icmp_ge (t := 31) rfl rfl (fun hb => ?_) (fun hb => ?_)
  · have h := (if_pos hb).symm.trans h
    cases h
    exact Ev.fin rfl rfl
  · have h := (if_neg hb).symm.trans h
    refine Ev.run (pc' := 20) (ls' := [some (.ref 13), some (.int x1)]) (st' := [.int (zI2B x1), .int (s.1 13 1), .ref 14]) (h' := mk s) 6 rfl ?_
    obtain ⟨hx, h⟩ := zif h
    refine Ev.step (pc' := 21) rfl (ast_14 hx) ?_
    refine Ev.run (pc' := 28) (ls' := [some (.ref 13), some (.int x1)]) (st' := [.int ((s.1 13 1) + (zi 1)), .ref 13]) (h' := mk (setB s 14 ((s.1 13 1).toNatClampNeg) (zI2B (zI2B x1)))) 5 rfl ?_
    refine Ev.step (pc' := 31) rfl (put_5_1 rfl) ?_
    cases h
    exact Ev.fin rfl rfl
/-! 50 F$Spec.number()I -/
def r50  (s : zS) : Int32 := s.1 7 1
set_option maxRecDepth 100000 in
theorem k50 {X : mX} {D : Nat}  {s : zS} {v : Int32} (h : r50  s = v) : Ev X D mm50 0 [some (.ref 7)] [] (mk s) (encI (v, s)) := by
  unfold r50 at h
  refine Ev.run (pc' := 4) (ls' := [some (.ref 7)]) (st' := [.int (s.1 7 1)]) (h' := mk s) 2 rfl ?_
  subst h
  exact Ev.fin rfl rfl
/-! 62 F$Composer.pick()I -/
def f62   (s : zS) : Option (Int32 × zS) := if ¬ (r50 s) = (zi (-1)) then if (r50 s) = zi 0 then some ((s.1 12 6) + (zi 1), setI s 12 6 ((s.1 12 6) + (zi 1))) else some (r50 s, s) else some (s.1 12 7, s)
set_option maxRecDepth 100000 in
theorem k62 {X : mX} {D : Nat}  {s : zS} {r : Int32 × zS}  (h : f62  s = some r) : Ev X (D + 1) mm62 0 [some (.ref 12)] [] (mk s) (encI r) := by
  unfold f62 at h
  refine Ev.run (pc' := 4) (ls' := [some (.ref 12)]) (st' := [.ref 7]) (h' := mk s) 2 rfl ?_
  refine Ev.call (M' := mm50) (v := some (.int (r50 s))) (h' := mk s) rfl rfl rfl (Nat.le_of_ble_eq_true rfl) (k50  (s := s) (v := r50 s)  rfl) ?_
  refine Ev.run (pc' := 8) (ls' := [some (.ref 12)]) (st' := [.int (zi (-1)), .int (r50 s)]) (h' := mk s) 1 rfl ?_
  refine Ev.icmp_ne (t := 16) rfl rfl (fun hb => ?_) (fun hb => ?_)
  · have h := (if_pos hb).symm.trans h
    refine Ev.run (pc' := 20) (ls' := [some (.ref 12)]) (st' := [.ref 7]) (h' := mk s) 2 rfl ?_
    refine Ev.call (M' := mm50) (v := some (.int (r50 s))) (h' := mk s) rfl rfl rfl (Nat.le_of_ble_eq_true rfl) (k50  (s := s) (v := r50 s)  rfl) ?_
    refine Ev.if_eq (t := 34) rfl rfl (fun hb => ?_) (fun hb => ?_)
    · have h := (if_pos hb).symm.trans h
      refine Ev.run (pc' := 41) (ls' := [some (.ref 12)]) (st' := [.int ((s.1 12 6) + (zi 1)), .ref 12]) (h' := mk s) 5 rfl ?_
      refine Ev.step (pc' := 44) rfl (put_4_6 rfl) ?_
      refine Ev.run (pc' := 48) (ls' := [some (.ref 12)]) (st' := [.int ((s.1 12 6) + (zi 1))]) (h' := mk (setI s 12 6 ((s.1 12 6) + (zi 1)))) 2 rfl ?_
      cases h
      exact Ev.fin rfl rfl
    · have h := (if_neg hb).symm.trans h
      refine Ev.run (pc' := 30) (ls' := [some (.ref 12)]) (st' := [.ref 7]) (h' := mk s) 2 rfl ?_
      refine Ev.call (M' := mm50) (v := some (.int (r50 s))) (h' := mk s) rfl rfl rfl (Nat.le_of_ble_eq_true rfl) (k50  (s := s) (v := r50 s)  rfl) ?_
      cases h
      exact Ev.fin rfl rfl
  · have h := (if_neg hb).symm.trans h
    refine Ev.run (pc' := 15) (ls' := [some (.ref 12)]) (st' := [.int (s.1 12 7)]) (h' := mk s) 2 rfl ?_
    cases h
    exact Ev.fin rfl rfl
/-! 30 F$Arguments.count()I -/
def r30  (s : zS) : Int32 := s.1 8 3
set_option maxRecDepth 100000 in
theorem k30 {X : mX} {D : Nat}  {s : zS} {v : Int32} (h : r30  s = v) : Ev X D mm30 0 [some (.ref 8)] [] (mk s) (encI (v, s)) := by
  unfold r30 at h
  refine Ev.run (pc' := 4) (ls' := [some (.ref 8)]) (st' := [.int (s.1 8 3)]) (h' := mk s) 2 rfl ?_
  subst h
  exact Ev.fin rfl rfl
/-! 34 F$Arguments.sort(I)I -/
def f34  (x1 : Int32) (s : zS) : Option (Int32 × zS) := if x1 < (zi 1) then some (zi 0, s) else if x1 ≤ (s.1 8 3) then if mIx (x1 - (zi 1)) 24 then some (s.1 9 ((x1 - (zi 1)).toNatClampNeg), s) else none else some (zi 0, s)
set_option maxRecDepth 100000 in
theorem k34 {X : mX} {D : Nat} {x1 : Int32} {s : zS} {r : Int32 × zS}  (h : f34 x1 s = some r) : Ev X D mm34 0 [some (.ref 8), some (.int x1)] [] (mk s) (encI r) := by
  unfold f34 at h
  refine Ev.run (pc' := 2) (ls' := [some (.ref 8), some (.int x1)]) (st' := [.int (zi 1), .int x1]) (h' := mk s) 2 rfl ?_
  refine Ev.icmp_lt (t := 13) rfl rfl (fun hb => ?_) (fun hb => ?_)
  · have h := (if_pos hb).symm.trans h
    refine Ev.run (pc' := 25) (ls' := [some (.ref 8), some (.int x1)]) (st' := [.int (zi 0)]) (h' := mk s) 2 rfl ?_
    cases h
    exact Ev.fin rfl rfl
  · have h := (if_neg hb).symm.trans h
    refine Ev.run (pc' := 10) (ls' := [some (.ref 8), some (.int x1)]) (st' := [.int (s.1 8 3), .int x1]) (h' := mk s) 3 rfl ?_
    refine Ev.icmp_le (t := 17) rfl rfl (fun hb => ?_) (fun hb => ?_)
    · have h := (if_pos hb).symm.trans h
      refine Ev.run (pc' := 24) (ls' := [some (.ref 8), some (.int x1)]) (st' := [.int (x1 - (zi 1)), .ref 9]) (h' := mk s) 5 rfl ?_
      obtain ⟨hx, h⟩ := zif h
      refine Ev.step (pc' := 25) rfl (ald_i rfl hx) ?_
      cases h
      exact Ev.fin rfl rfl
    · have h := (if_neg hb).symm.trans h
      refine Ev.run (pc' := 25) (ls' := [some (.ref 8), some (.int x1)]) (st' := [.int (zi 0)]) (h' := mk s) 2 rfl ?_
      cases h
      exact Ev.fin rfl rfl
/-! 35 F$Arguments.value(I)J -/
def f35  (x1 : Int32) (s : zS) : Option (Int64 × zS) := if x1 < (zi 1) then some (zl 0, s) else if x1 ≤ (s.1 8 3) then if mIx (x1 - (zi 1)) 24 then some (s.2.1 10 ((x1 - (zi 1)).toNatClampNeg), s) else none else some (zl 0, s)
set_option maxRecDepth 100000 in
theorem k35 {X : mX} {D : Nat} {x1 : Int32} {s : zS} {r : Int64 × zS}  (h : f35 x1 s = some r) : Ev X D mm35 0 [some (.ref 8), some (.int x1)] [] (mk s) (encL r) := by
  unfold f35 at h
  refine Ev.run (pc' := 2) (ls' := [some (.ref 8), some (.int x1)]) (st' := [.int (zi 1), .int x1]) (h' := mk s) 2 rfl ?_
  refine Ev.icmp_lt (t := 13) rfl rfl (fun hb => ?_) (fun hb => ?_)
  · have h := (if_pos hb).symm.trans h
    refine Ev.run (pc' := 25) (ls' := [some (.ref 8), some (.int x1)]) (st' := [.long (zl 0)]) (h' := mk s) 2 rfl ?_
    cases h
    exact Ev.fin rfl rfl
  · have h := (if_neg hb).symm.trans h
    refine Ev.run (pc' := 10) (ls' := [some (.ref 8), some (.int x1)]) (st' := [.int (s.1 8 3), .int x1]) (h' := mk s) 3 rfl ?_
    refine Ev.icmp_le (t := 17) rfl rfl (fun hb => ?_) (fun hb => ?_)
    · have h := (if_pos hb).symm.trans h
      refine Ev.run (pc' := 24) (ls' := [some (.ref 8), some (.int x1)]) (st' := [.int (x1 - (zi 1)), .ref 10]) (h' := mk s) 5 rfl ?_
      obtain ⟨hx, h⟩ := zif h
      refine Ev.step (pc' := 25) rfl (ald_l rfl hx) ?_
      cases h
      exact Ev.fin rfl rfl
    · have h := (if_neg hb).symm.trans h
      refine Ev.run (pc' := 25) (ls' := [some (.ref 8), some (.int x1)]) (st' := [.long (zl 0)]) (h' := mk s) 2 rfl ?_
      cases h
      exact Ev.fin rfl rfl
/-! 26 F$Arguments.isWhole(I)Z -/
def r26 (x0 : Int32) (s : zS) : Int32 := if x0 < (zi 3) then zi 0 else if x0 > (zi 6) then zi 0 else zi 1
set_option maxRecDepth 100000 in
theorem k26 {X : mX} {D : Nat} {x0 : Int32} {s : zS} {v : Int32} (h : r26 x0 s = v) : Ev X D mm26 0 [some (.int x0)] [] (mk s) (encI (v, s)) := by
  unfold r26 at h
  refine Ev.run (pc' := 2) (ls' := [some (.int x0)]) (st' := [.int (zi 3), .int x0]) (h' := mk s) 2 rfl ?_
  refine Ev.icmp_lt (t := 15) rfl rfl (fun hb => ?_) (fun hb => ?_)
  · have h := (if_pos hb).symm.trans h
    refine Ev.run (pc' := 16) (ls' := [some (.int x0)]) (st' := [.int (zi 0)]) (h' := mk s) 1 rfl ?_
    subst h
    exact Ev.fin rfl rfl
  · have h := (if_neg hb).symm.trans h
    refine Ev.run (pc' := 8) (ls' := [some (.int x0)]) (st' := [.int (zi 6), .int x0]) (h' := mk s) 2 rfl ?_
    refine Ev.icmp_gt (t := 15) rfl rfl (fun hb => ?_) (fun hb => ?_)
    · have h := (if_pos hb).symm.trans h
      refine Ev.run (pc' := 16) (ls' := [some (.int x0)]) (st' := [.int (zi 0)]) (h' := mk s) 1 rfl ?_
      subst h
      exact Ev.fin rfl rfl
    · have h := (if_neg hb).symm.trans h
      refine Ev.run (pc' := 16) (ls' := [some (.int x0)]) (st' := [.int (zi 1)]) (h' := mk s) 2 rfl ?_
      subst h
      exact Ev.fin rfl rfl
/-! 27 F$Arguments.isReal(I)Z -/
def r27 (x0 : Int32) (s : zS) : Int32 := if x0 = (zi 7) then zi 1 else if ¬ x0 = (zi 8) then zi 0 else zi 1
set_option maxRecDepth 100000 in
theorem k27 {X : mX} {D : Nat} {x0 : Int32} {s : zS} {v : Int32} (h : r27 x0 s = v) : Ev X D mm27 0 [some (.int x0)] [] (mk s) (encI (v, s)) := by
  unfold r27 at h
  refine Ev.run (pc' := 3) (ls' := [some (.int x0)]) (st' := [.int (zi 7), .int x0]) (h' := mk s) 2 rfl ?_
  refine Ev.icmp_eq (t := 12) rfl rfl (fun hb => ?_) (fun hb => ?_)
  · have h := (if_pos hb).symm.trans h
    refine Ev.run (pc' := 17) (ls' := [some (.int x0)]) (st' := [.int (zi 1)]) (h' := mk s) 2 rfl ?_
    subst h
    exact Ev.fin rfl rfl
  · have h := (if_neg hb).symm.trans h
    refine Ev.run (pc' := 9) (ls' := [some (.int x0)]) (st' := [.int (zi 8), .int x0]) (h' := mk s) 2 rfl ?_
    refine Ev.icmp_ne (t := 16) rfl rfl (fun hb => ?_) (fun hb => ?_)
    · have h := (if_pos hb).symm.trans h
      refine Ev.run (pc' := 17) (ls' := [some (.int x0)]) (st' := [.int (zi 0)]) (h' := mk s) 1 rfl ?_
      subst h
      exact Ev.fin rfl rfl
    · have h := (if_neg hb).symm.trans h
      refine Ev.run (pc' := 17) (ls' := [some (.int x0)]) (st' := [.int (zi 1)]) (h' := mk s) 2 rfl ?_
      subst h
      exact Ev.fin rfl rfl
/-! 63 F$Composer.goesTogether()Z -/
def f63   (s : zS) : Option (Int32 × zS) := if ¬ (s.1 12 8) = zi 0 then if (r54 s) = zi 97 ∨ (r54 s) = zi 101 ∨ (r54 s) = zi 102 ∨ (r54 s) = zi 103 then if mBit (r27 (s.1 12 8) s) then some (r27 (s.1 12 8) s, s) else none else if (r54 s) = zi 99 then if (s.1 12 8) = (zi 2) then some (zi 1, s) else if (r26 (s.1 12 8) s) = zi 0 then some (zi 0, s) else if (s.1 12 8) = (zi 6) then some (zi 0, s) else some (zi 1, s) else if (r54 s) = zi 100 ∨ (r54 s) = zi 111 ∨ (r54 s) = zi 120 then if mBit (r26 (s.1 12 8) s) then some (r26 (s.1 12 8) s, s) else none else if (r54 s) = zi 116 then if ¬ (s.1 12 8) = (zi 6) then some (zi 0, s) else some (zi 1, s) else some (zi 1, s) else some (zi 1, s)
set_option maxRecDepth 100000 in
theorem k63 {X : mX} {D : Nat}  {s : zS} {r : Int32 × zS}  (h : f63  s = some r) : Ev X (D + 1) mm63 0 [some (.ref 12)] [] (mk s) (encI r) := by
  unfold f63 at h
  refine Ev.run (pc' := 4) (ls' := [some (.ref 12)]) (st' := [.int (s.1 12 8)]) (h' := mk s) 2 rfl ?_
  refine Ev.if_ne (t := 9) rfl rfl (fun hb => ?_) (fun hb => ?_)
  · have h := (if_pos hb).symm.trans h
    refine Ev.run (pc' := 13) (ls' := [some (.ref 12)]) (st' := [.ref 7]) (h' := mk s) 2 rfl ?_
    refine Ev.call (M' := mm54) (v := some (.int (r54 s))) (h' := mk s) rfl rfl rfl (Nat.le_of_ble_eq_true rfl) (k54  (s := s) (v := r54 s)  rfl) ?_
    by_cases hb : (r54 s) = zi 97 ∨ (r54 s) = zi 101 ∨ (r54 s) = zi 102 ∨ (r54 s) = zi 103
    · have h := (if_pos hb).symm.trans h
      refine Ev.tswx (t := 169) rfl (by rcases hb with hb | hb | hb | hb <;> (rw [hb]; rfl)) ?_
      refine Ev.run (pc' := 173) (ls' := [some (.ref 12)]) (st' := [.int (s.1 12 8)]) (h' := mk s) 2 rfl ?_
      refine Ev.call (M' := mm27) (v := some (.int (r27 (s.1 12 8) s))) (h' := mk s) rfl rfl rfl (Nat.le_of_ble_eq_true rfl) (k27 (x0 := (s.1 12 8)) (s := s) (v := r27 (s.1 12 8) s)  rfl) ?_
      obtain ⟨hx, h⟩ := zif h
      cases h
      exact Ev.finB rfl rfl hx
    have h := (if_neg hb).symm.trans h
    have n_97 := (not_or.mp hb).1
    have hb := (not_or.mp hb).2
    have n_101 := (not_or.mp hb).1
    have hb := (not_or.mp hb).2
    have n_102 := (not_or.mp hb).1
    have hb := (not_or.mp hb).2
    have n_103 := hb
    clear hb
    by_cases hb : (r54 s) = zi 99
    · have h := (if_pos hb).symm.trans h
      refine Ev.tsw (t := 128) (k := 99) rfl hb (by rfl) ?_
      refine Ev.run (pc' := 133) (ls' := [some (.ref 12)]) (st' := [.int (zi 2), .int (s.1 12 8)]) (h' := mk s) 3 rfl ?_
      refine Ev.icmp_eq (t := 155) rfl rfl (fun hb => ?_) (fun hb => ?_)
      · have h := (if_pos hb).symm.trans h
        refine Ev.run (pc' := 160) (ls' := [some (.ref 12)]) (st' := [.int (zi 1)]) (h' := mk s) 2 rfl ?_
        cases h
        exact Ev.fin rfl rfl
      · have h := (if_neg hb).symm.trans h
        refine Ev.run (pc' := 140) (ls' := [some (.ref 12)]) (st' := [.int (s.1 12 8)]) (h' := mk s) 2 rfl ?_
        refine Ev.call (M' := mm26) (v := some (.int (r26 (s.1 12 8) s))) (h' := mk s) rfl rfl rfl (Nat.le_of_ble_eq_true rfl) (k26 (x0 := (s.1 12 8)) (s := s) (v := r26 (s.1 12 8) s)  rfl) ?_
        refine Ev.if_eq (t := 159) rfl rfl (fun hb => ?_) (fun hb => ?_)
        · have h := (if_pos hb).symm.trans h
          refine Ev.run (pc' := 160) (ls' := [some (.ref 12)]) (st' := [.int (zi 0)]) (h' := mk s) 1 rfl ?_
          cases h
          exact Ev.fin rfl rfl
        · have h := (if_neg hb).symm.trans h
          refine Ev.run (pc' := 152) (ls' := [some (.ref 12)]) (st' := [.int (zi 6), .int (s.1 12 8)]) (h' := mk s) 3 rfl ?_
          refine Ev.icmp_eq (t := 159) rfl rfl (fun hb => ?_) (fun hb => ?_)
          · have h := (if_pos hb).symm.trans h
            refine Ev.run (pc' := 160) (ls' := [some (.ref 12)]) (st' := [.int (zi 0)]) (h' := mk s) 1 rfl ?_
            cases h
            exact Ev.fin rfl rfl
          · have h := (if_neg hb).symm.trans h
            refine Ev.run (pc' := 160) (ls' := [some (.ref 12)]) (st' := [.int (zi 1)]) (h' := mk s) 2 rfl ?_
            cases h
            exact Ev.fin rfl rfl
    have h := (if_neg hb).symm.trans h
    have n_99 := hb
    clear hb
    by_cases hb : (r54 s) = zi 100 ∨ (r54 s) = zi 111 ∨ (r54 s) = zi 120
    · have h := (if_pos hb).symm.trans h
      refine Ev.tswx (t := 161) rfl (by rcases hb with hb | hb | hb <;> (rw [hb]; rfl)) ?_
      refine Ev.run (pc' := 165) (ls' := [some (.ref 12)]) (st' := [.int (s.1 12 8)]) (h' := mk s) 2 rfl ?_
      refine Ev.call (M' := mm26) (v := some (.int (r26 (s.1 12 8) s))) (h' := mk s) rfl rfl rfl (Nat.le_of_ble_eq_true rfl) (k26 (x0 := (s.1 12 8)) (s := s) (v := r26 (s.1 12 8) s)  rfl) ?_
      obtain ⟨hx, h⟩ := zif h
      cases h
      exact Ev.finB rfl rfl hx
    have h := (if_neg hb).symm.trans h
    have n_100 := (not_or.mp hb).1
    have hb := (not_or.mp hb).2
    have n_111 := (not_or.mp hb).1
    have hb := (not_or.mp hb).2
    have n_120 := hb
    clear hb
    by_cases hb : (r54 s) = zi 116
    · have h := (if_pos hb).symm.trans h
      refine Ev.tsw (t := 177) (k := 116) rfl hb (by rfl) ?_
      refine Ev.run (pc' := 183) (ls' := [some (.ref 12)]) (st' := [.int (zi 6), .int (s.1 12 8)]) (h' := mk s) 3 rfl ?_
      refine Ev.icmp_ne (t := 190) rfl rfl (fun hb => ?_) (fun hb => ?_)
      · have h := (if_pos hb).symm.trans h
        refine Ev.run (pc' := 191) (ls' := [some (.ref 12)]) (st' := [.int (zi 0)]) (h' := mk s) 1 rfl ?_
        cases h
        exact Ev.fin rfl rfl
      · have h := (if_neg hb).symm.trans h
        refine Ev.run (pc' := 191) (ls' := [some (.ref 12)]) (st' := [.int (zi 1)]) (h' := mk s) 2 rfl ?_
        cases h
        exact Ev.fin rfl rfl
    have h := (if_neg hb).symm.trans h
    have n_116 := hb
    clear hb
    refine Ev.tswd (t := 192) rfl (by rfl) (by decide) (fun q hq hx => ?_) ?_
    · have hq : q < 24 := hq
      have hq2 : q = 0 ∨ q = 1 ∨ q = 2 ∨ q = 3 ∨ q = 4 ∨ q = 5 ∨ q = 6 ∨ q = 7 ∨ q = 8 ∨ q = 9 ∨ q = 10 ∨ q = 11 ∨ q = 12 ∨ q = 13 ∨ q = 14 ∨ q = 15 ∨ q = 16 ∨ q = 17 ∨ q = 18 ∨ q = 19 ∨ q = 20 ∨ q = 21 ∨ q = 22 ∨ q = 23 := by omega
      rcases hq2 with rfl | rfl | rfl | rfl | rfl | rfl | rfl | rfl | rfl | rfl | rfl | rfl | rfl | rfl | rfl | rfl | rfl | rfl | rfl | rfl | rfl | rfl | rfl | rfl
      · exact absurd (zi_of_toInt hx) n_97
      · exact ⟨_, rfl, rfl⟩
      · exact absurd (zi_of_toInt hx) n_99
      · exact absurd (zi_of_toInt hx) n_100
      · exact absurd (zi_of_toInt hx) n_101
      · exact absurd (zi_of_toInt hx) n_102
      · exact absurd (zi_of_toInt hx) n_103
      · exact ⟨_, rfl, rfl⟩
      · exact ⟨_, rfl, rfl⟩
      · exact ⟨_, rfl, rfl⟩
      · exact ⟨_, rfl, rfl⟩
      · exact ⟨_, rfl, rfl⟩
      · exact ⟨_, rfl, rfl⟩
      · exact ⟨_, rfl, rfl⟩
      · exact absurd (zi_of_toInt hx) n_111
      · exact ⟨_, rfl, rfl⟩
      · exact ⟨_, rfl, rfl⟩
      · exact ⟨_, rfl, rfl⟩
      · exact ⟨_, rfl, rfl⟩
      · exact absurd (zi_of_toInt hx) n_116
      · exact ⟨_, rfl, rfl⟩
      · exact ⟨_, rfl, rfl⟩
      · exact ⟨_, rfl, rfl⟩
      · exact absurd (zi_of_toInt hx) n_120
    · refine Ev.run (pc' := 193) (ls' := [some (.ref 12)]) (st' := [.int (zi 1)]) (h' := mk s) 1 rfl ?_
      cases h
      exact Ev.fin rfl rfl
  · have h := (if_neg hb).symm.trans h
    refine Ev.run (pc' := 8) (ls' := [some (.ref 12)]) (st' := [.int (zi 1)]) (h' := mk s) 1 rfl ?_
    cases h
    exact Ev.fin rfl rfl
/-! 61 F$Composer.choose()I -/
def f61   (s : zS) : Option (Int32 × zS) := zb1 (f62 s) (fun v2 s1 => if v2 < (zi 1) then some (zi 8, s1) else if v2 ≤ (r30 s1) then zb1 (f34 v2 (setI s1 12 7 v2)) (fun v4 s3 => zb1 (f35 v2 (setI s3 12 8 v4)) (fun v6 s5 => zb1 (f63 (setJ s5 12 9 v6)) (fun v8 s7 => if ¬ v8 = zi 0 then if ¬ (r54 s7) = (zi 99) then some (zi 0, s7) else if ¬ (r24 (s7.2.1 12 9) s7) = zi 0 then some (zi 0, s7) else some (zi 10, s7) else some (zi 9, s7)))) else some (zi 8, s1))
set_option maxRecDepth 100000 in
theorem k61 {X : mX} {D : Nat}  {s : zS} {r : Int32 × zS}  (h : f61  s = some r) : Ev X (D + 2) mm61 0 [some (.ref 12), none] [] (mk s) (encI r) := by
  unfold f61 at h
  refine Ev.run (pc' := 1) (ls' := [some (.ref 12), none]) (st' := [.ref 12]) (h' := mk s) 1 rfl ?_
  obtain ⟨v2, s1, hq, h⟩ := zb1_some h
  refine Ev.call (M' := mm62) (v := some (.int v2)) (h' := mk s1) rfl rfl rfl (Nat.le_of_ble_eq_true rfl) (k62 hq) ?_
  refine Ev.run (pc' := 7) (ls' := [some (.ref 12), some (.int v2)]) (st' := [.int (zi 1), .int v2]) (h' := mk s1) 3 rfl ?_
  refine Ev.icmp_lt (t := 21) rfl rfl (fun hb => ?_) (fun hb => ?_)
  · have h := (if_pos hb).symm.trans h
    refine Ev.run (pc' := 23) (ls' := [some (.ref 12), some (.int v2)]) (st' := [.int (zi 8)]) (h' := mk s1) 1 rfl ?_
    cases h
    exact Ev.fin rfl rfl
  · have h := (if_neg hb).symm.trans h
    refine Ev.run (pc' := 15) (ls' := [some (.ref 12), some (.int v2)]) (st' := [.ref 8, .int v2]) (h' := mk s1) 3 rfl ?_
    refine Ev.call (M' := mm30) (v := some (.int (r30 s1))) (h' := mk s1) rfl rfl rfl (Nat.le_of_ble_eq_true rfl) (k30  (s := s1) (v := r30 s1)  rfl) ?_
    refine Ev.icmp_le (t := 24) rfl rfl (fun hb => ?_) (fun hb => ?_)
    · have h := (if_pos hb).symm.trans h
      refine Ev.run (pc' := 26) (ls' := [some (.ref 12), some (.int v2)]) (st' := [.int v2, .ref 12]) (h' := mk s1) 2 rfl ?_
      refine Ev.step (pc' := 29) rfl (put_4_7 rfl) ?_
      refine Ev.run (pc' := 35) (ls' := [some (.ref 12), some (.int v2)]) (st' := [.int v2, .ref 8, .ref 12]) (h' := mk (setI s1 12 7 v2)) 4 rfl ?_
      obtain ⟨v4, s3, hq, h⟩ := zb1_some h
      refine Ev.call (M' := mm34) (v := some (.int v4)) (h' := mk s3) rfl rfl rfl (Nat.le_of_ble_eq_true rfl) (k34 hq) ?_
      refine Ev.step (pc' := 41) rfl (put_4_8 rfl) ?_
      refine Ev.run (pc' := 47) (ls' := [some (.ref 12), some (.int v2)]) (st' := [.int v2, .ref 8, .ref 12]) (h' := mk (setI s3 12 8 v4)) 4 rfl ?_
      obtain ⟨v6, s5, hq, h⟩ := zb1_some h
      refine Ev.call (M' := mm35) (v := some (.long v6)) (h' := mk s5) rfl rfl rfl (Nat.le_of_ble_eq_true rfl) (k35 hq) ?_
      refine Ev.step (pc' := 53) rfl (put_4_9 rfl) ?_
      refine Ev.run (pc' := 54) (ls' := [some (.ref 12), some (.int v2)]) (st' := [.ref 12]) (h' := mk (setJ s5 12 9 v6)) 1 rfl ?_
      obtain ⟨v8, s7, hq, h⟩ := zb1_some h
      refine Ev.call (M' := mm63) (v := some (.int v8)) (h' := mk s7) rfl rfl rfl (Nat.le_of_ble_eq_true rfl) (k63 hq) ?_
      refine Ev.if_ne (t := 63) rfl rfl (fun hb => ?_) (fun hb => ?_)
      · have h := (if_pos hb).symm.trans h
        refine Ev.run (pc' := 67) (ls' := [some (.ref 12), some (.int v2)]) (st' := [.ref 7]) (h' := mk s7) 2 rfl ?_
        refine Ev.call (M' := mm54) (v := some (.int (r54 s7))) (h' := mk s7) rfl rfl rfl (Nat.le_of_ble_eq_true rfl) (k54  (s := s7) (v := r54 s7)  rfl) ?_
        refine Ev.run (pc' := 72) (ls' := [some (.ref 12), some (.int v2)]) (st' := [.int (zi 99), .int (r54 s7)]) (h' := mk s7) 1 rfl ?_
        refine Ev.icmp_ne (t := 90) rfl rfl (fun hb => ?_) (fun hb => ?_)
        · have h := (if_pos hb).symm.trans h
          refine Ev.run (pc' := 91) (ls' := [some (.ref 12), some (.int v2)]) (st' := [.int (zi 0)]) (h' := mk s7) 1 rfl ?_
          cases h
          exact Ev.fin rfl rfl
        · have h := (if_neg hb).symm.trans h
          refine Ev.run (pc' := 79) (ls' := [some (.ref 12), some (.int v2)]) (st' := [.long (s7.2.1 12 9)]) (h' := mk s7) 2 rfl ?_
          refine Ev.call (M' := mm24) (v := some (.int (r24 (s7.2.1 12 9) s7))) (h' := mk s7) rfl rfl rfl (Nat.le_of_ble_eq_true rfl) (k24 (x0 := (s7.2.1 12 9)) (s := s7) (v := r24 (s7.2.1 12 9) s7)  rfl) ?_
          refine Ev.if_ne (t := 90) rfl rfl (fun hb => ?_) (fun hb => ?_)
          · have h := (if_pos hb).symm.trans h
            refine Ev.run (pc' := 91) (ls' := [some (.ref 12), some (.int v2)]) (st' := [.int (zi 0)]) (h' := mk s7) 1 rfl ?_
            cases h
            exact Ev.fin rfl rfl
          · have h := (if_neg hb).symm.trans h
            refine Ev.run (pc' := 91) (ls' := [some (.ref 12), some (.int v2)]) (st' := [.int (zi 10)]) (h' := mk s7) 2 rfl ?_
            cases h
            exact Ev.fin rfl rfl
      · have h := (if_neg hb).symm.trans h
        refine Ev.run (pc' := 62) (ls' := [some (.ref 12), some (.int v2)]) (st' := [.int (zi 9)]) (h' := mk s7) 1 rfl ?_
        cases h
        exact Ev.fin rfl rfl
    · have h := (if_neg hb).symm.trans h
      refine Ev.run (pc' := 23) (ls' := [some (.ref 12), some (.int v2)]) (st' := [.int (zi 8)]) (h' := mk s1) 1 rfl ?_
      cases h
      exact Ev.fin rfl rfl
/-! 72 F$Piece.addFirst(Ljava.lang.String;I)V -/
def b72_2 (rec2 : Nat → Int32 → Int32 → zS → Option (zS)) (c1 : Nat) (x2 : Int32) (x3 : Int32) (s : zS) : Option (zS) := if x3 ≥ (r265 x2 (zlen c1) s) then some s else if mIx x3 (zlenN c1) then zb0 (f70 (zchr c1 x3) s) (fun s1 => rec2 c1 x2 (x3 + zi 1) s1) else none
set_option maxRecDepth 100000 in
theorem kb72_2 {X : mX} {D : Nat} {rec2 : Nat → Int32 → Int32 → zS → Option (zS)} (hrec2 : ∀ (c1 : Nat) (x2 : Int32) (x3 : Int32) (s : zS) (r : zS) , c1 < 78 → rec2 c1 x2 x3 s = some r → Ev X (D + 5) mm72 2 [some (.ref 13), some (.ref (mRO + 3 + 2 * c1)), some (.int x2), some (.int x3)] [] (mk s) (encV r)) (c1 : Nat) (x2 : Int32) (x3 : Int32) (s : zS) (r : zS)  (hc1 : c1 < 78) (h : b72_2 rec2 c1 x2 x3 s = some r) : Ev X (D + 5) mm72 2 [some (.ref 13), some (.ref (mRO + 3 + 2 * c1)), some (.int x2), some (.int x3)] [] (mk s) (encV r) := by
  unfold b72_2 at h
  refine Ev.run (pc' := 5) (ls' := [some (.ref 13), some (.ref (mRO + 3 + 2 * c1)), some (.int x2), some (.int x3)]) (st' := [.ref (mRO + 3 + 2 * c1), .int x2, .int x3]) (h' := mk s) 3 rfl ?_
  refine Ev.call (M' := mm241) (as := [.ref (mRO + 3 + 2 * c1)]) (rest := [.int x2, .int x3]) (v := some (.int (zlen c1))) (h' := mk s) rfl (litcall rfl rfl hc1 rfl rfl) rfl (Nat.le_of_ble_eq_true rfl) (kstrlen hc1) ?_
  refine Ev.call (M' := mm265) (v := some (.int (r265 x2 (zlen c1) s))) (h' := mk s) rfl rfl rfl (Nat.le_of_ble_eq_true rfl) (k265 (x0 := x2) (x1 := (zlen c1)) (s := s) (v := r265 x2 (zlen c1) s)  rfl) ?_
  refine Ev.icmp_ge (t := 29) rfl rfl (fun hb => ?_) (fun hb => ?_)
  · have h := (if_pos hb).symm.trans h
    cases h
    exact Ev.fin rfl rfl
  · have h := (if_neg hb).symm.trans h
    refine Ev.run (pc' := 17) (ls' := [some (.ref 13), some (.ref (mRO + 3 + 2 * c1)), some (.int x2), some (.int x3)]) (st' := [.int x3, .ref (mRO + 3 + 2 * c1), .ref 13]) (h' := mk s) 3 rfl ?_
    obtain ⟨hx, h⟩ := zif h
    refine Ev.call (M' := mm242) (as := [.ref (mRO + 3 + 2 * c1), .int x3]) (rest := [.ref 13]) (v := some (.int (zchr c1 x3))) (h' := mk s) rfl (litcall rfl rfl hc1 rfl rfl) rfl (Nat.le_of_ble_eq_true rfl) (kcharat hc1 hx) ?_
    obtain ⟨s1, hq, h⟩ := zb0_some h
    refine Ev.call (M' := mm70) (v := none) (h' := mk s1) rfl rfl rfl (Nat.le_of_ble_eq_true rfl) (k70 hq) ?_
    refine Ev.run (pc' := 2) (ls' := [some (.ref 13), some (.ref (mRO + 3 + 2 * c1)), some (.int x2), some (.int (x3 + zi 1))]) (st' := []) (h' := mk s1) 2 rfl ?_
    exact hrec2 c1 x2 (x3 + zi 1) s1 _ hc1 h
def f72_2  : Nat → Nat → Int32 → Int32 → zS → Option (zS)
  | 0, _, _, _, _ => none
  | n + 1, c1, x2, x3, s => b72_2 (f72_2 n) c1 x2 x3 s
set_option maxRecDepth 100000 in
theorem k72_2 {X : mX} {D : Nat}   (n : Nat) : ∀ (c1 : Nat) (x2 : Int32) (x3 : Int32) (s : zS) (r : zS) , c1 < 78 → f72_2  n c1 x2 x3 s = some r → Ev X (D + 5) mm72 2 [some (.ref 13), some (.ref (mRO + 3 + 2 * c1)), some (.int x2), some (.int x3)] [] (mk s) (encV r) := by
  induction n with
  | zero => intro c1 x2 x3 s r  hc1 h; cases h
  | succ n ih => intro c1 x2 x3 s r  hc1 h; exact kb72_2  ih c1 x2 x3 s r  hc1 h
def f72  (c1 : Nat) (x2 : Int32) (s : zS) : Option (zS) := f72_2 zF c1 x2 (zi 0) s
set_option maxRecDepth 100000 in
theorem k72 {X : mX} {D : Nat} {c1 : Nat} {x2 : Int32} {s : zS} {r : zS} (hc1 : c1 < 78) (h : f72 c1 x2 s = some r) : Ev X (D + 5) mm72 0 [some (.ref 13), some (.ref (mRO + 3 + 2 * c1)), some (.int x2), none] [] (mk s) (encV r) := by
  unfold f72 at h
  refine Ev.run (pc' := 2) (ls' := [some (.ref 13), some (.ref (mRO + 3 + 2 * c1)), some (.int x2), some (.int (zi 0))]) (st' := []) (h' := mk s) 2 rfl ?_
  exact k72_2 zF c1 x2 (zi 0) s _ hc1 h
/-! 71 F$Piece.addAll(Ljava.lang.String;)V -/
def f71  (c1 : Nat) (s : zS) : Option (zS) := zb0 (f72 c1 (zlen c1) s) (fun s1 => some s1)
set_option maxRecDepth 100000 in
theorem k71 {X : mX} {D : Nat} {c1 : Nat} {s : zS} {r : zS} (hc1 : c1 < 78) (h : f71 c1 s = some r) : Ev X (D + 6) mm71 0 [some (.ref 13), some (.ref (mRO + 3 + 2 * c1))] [] (mk s) (encV r) := by
  unfold f71 at h
  refine Ev.run (pc' := 3) (ls' := [some (.ref 13), some (.ref (mRO + 3 + 2 * c1))]) (st' := [.ref (mRO + 3 + 2 * c1), .ref (mRO + 3 + 2 * c1), .ref 13]) (h' := mk s) 3 rfl ?_
  refine Ev.call (M' := mm241) (as := [.ref (mRO + 3 + 2 * c1)]) (rest := [.ref (mRO + 3 + 2 * c1), .ref 13]) (v := some (.int (zlen c1))) (h' := mk s) rfl (litcall rfl rfl hc1 rfl rfl) rfl (Nat.le_of_ble_eq_true rfl) (kstrlen hc1) ?_
  obtain ⟨s1, hq, h⟩ := zb0_some h
  refine Ev.call (M' := mm72) (v := none) (h' := mk s1) rfl rfl rfl (Nat.le_of_ble_eq_true rfl) (k72 hc1 hq) ?_
  cases h
  exact Ev.fin rfl rfl
/-! 53 F$Spec.precision()I -/
def r53  (s : zS) : Int32 := s.1 7 5
set_option maxRecDepth 100000 in
theorem k53 {X : mX} {D : Nat}  {s : zS} {v : Int32} (h : r53  s = v) : Ev X D mm53 0 [some (.ref 7)] [] (mk s) (encI (v, s)) := by
  unfold r53 at h
  refine Ev.run (pc' := 4) (ls' := [some (.ref 7)]) (st' := [.int (s.1 7 5)]) (h' := mk s) 2 rfl ?_
  subst h
  exact Ev.fin rfl rfl
/-! 83 F$Piece.cut(I)V -/
def f83_63 (rec9 : Int32 → Int32 → Int32 → zS → Option (zS)) (x1 : Int32) (x2 : Int32) (x3 : Int32) (x4 : Int32) (s : zS) : Option (zS) := if x4 = zi 0 then rec9 x1 (x2 + (zi 0)) (x3 + zi 1) s else rec9 x1 (x2 + (zi 1)) (x3 + zi 1) s
set_option maxRecDepth 100000 in
theorem k83_63 {X : mX} {D : Nat} {rec9 : Int32 → Int32 → Int32 → zS → Option (zS)} (hrec9 : ∀ (x1 : Int32) (x2 : Int32) (x3 : Int32) (s : zS) (r : zS) (o4 : Option Value), rec9 x1 x2 x3 s = some r → Ev X D mm83 9 [some (.ref 13), some (.int x1), some (.int x2), some (.int x3), o4] [] (mk s) (encV r)) (x1 : Int32) (x2 : Int32) (x3 : Int32) (x4 : Int32) (s : zS) (r : zS)   (h : f83_63 rec9 x1 x2 x3 x4 s = some r) : Ev X D mm83 63 [some (.ref 13), some (.int x1), some (.int x2), some (.int x3), some (.int x4)] [] (mk s) (encV r) := by
  unfold f83_63 at h
  refine Ev.run (pc' := 66) (ls' := [some (.ref 13), some (.int x1), some (.int x2), some (.int x3), some (.int x4)]) (st' := [.int x4, .int x2]) (h' := mk s) 2 rfl ?_
  refine Ev.if_eq (t := 73) rfl rfl (fun hb => ?_) (fun hb => ?_)
  · have h := (if_pos hb).symm.trans h
    refine Ev.run (pc' := 9) (ls' := [some (.ref 13), some (.int x1), some (.int (x2 + (zi 0))), some (.int (x3 + zi 1)), some (.int x4)]) (st' := []) (h' := mk s) 5 rfl ?_
    exact hrec9 x1 (x2 + (zi 0)) (x3 + zi 1) s _ _ h
  · have h := (if_neg hb).symm.trans h
    refine Ev.run (pc' := 9) (ls' := [some (.ref 13), some (.int x1), some (.int (x2 + (zi 1))), some (.int (x3 + zi 1)), some (.int x4)]) (st' := []) (h' := mk s) 6 rfl ?_
    exact hrec9 x1 (x2 + (zi 1)) (x3 + zi 1) s _ _ h
def f83_38 (rec9 : Int32 → Int32 → Int32 → zS → Option (zS)) (x1 : Int32) (x2 : Int32) (x3 : Int32) (y0 : Int32) (s : zS) : Option (zS) := if y0 = zi 0 then f83_63 rec9 x1 x2 x3 y0 s else if ¬ x2 = x1 then f83_63 rec9 x1 x2 x3 y0 s else some (setI (setI s 13 1 x3) 13 2 (x3 - x2))
set_option maxRecDepth 100000 in
theorem k83_38 {X : mX} {D : Nat} {rec9 : Int32 → Int32 → Int32 → zS → Option (zS)} (hrec9 : ∀ (x1 : Int32) (x2 : Int32) (x3 : Int32) (s : zS) (r : zS) (o4 : Option Value), rec9 x1 x2 x3 s = some r → Ev X D mm83 9 [some (.ref 13), some (.int x1), some (.int x2), some (.int x3), o4] [] (mk s) (encV r)) (x1 : Int32) (x2 : Int32) (x3 : Int32) (y0 : Int32) (s : zS) (r : zS) (o4 : Option Value)  (h : f83_38 rec9 x1 x2 x3 y0 s = some r) : Ev X D mm83 38 [some (.ref 13), some (.int x1), some (.int x2), some (.int x3), o4] [.int y0] (mk s) (encV r) := by
  unfold f83_38 at h
  refine Ev.run (pc' := 42) (ls' := [some (.ref 13), some (.int x1), some (.int x2), some (.int x3), some (.int y0)]) (st' := [.int y0]) (h' := mk s) 2 rfl ?_
  refine Ev.if_eq (t := 63) rfl rfl (fun hb => ?_) (fun hb => ?_)
  · have h := (if_pos hb).symm.trans h
    exact k83_63 hrec9 x1 x2 x3 y0 s _ h
  · have h := (if_neg hb).symm.trans h
    refine Ev.run (pc' := 47) (ls' := [some (.ref 13), some (.int x1), some (.int x2), some (.int x3), some (.int y0)]) (st' := [.int x1, .int x2]) (h' := mk s) 2 rfl ?_
    refine Ev.icmp_ne (t := 63) rfl rfl (fun hb => ?_) (fun hb => ?_)
    · have h := (if_pos hb).symm.trans h
      exact k83_63 hrec9 x1 x2 x3 y0 s _ h
    · have h := (if_neg hb).symm.trans h
      refine Ev.run (pc' := 52) (ls' := [some (.ref 13), some (.int x1), some (.int x2), some (.int x3), some (.int y0)]) (st' := [.int x3, .ref 13]) (h' := mk s) 2 rfl ?_
      refine Ev.step (pc' := 55) rfl (put_5_1 rfl) ?_
      refine Ev.run (pc' := 59) (ls' := [some (.ref 13), some (.int x1), some (.int x2), some (.int x3), some (.int y0)]) (st' := [.int (x3 - x2), .ref 13]) (h' := mk (setI s 13 1 x3)) 4 rfl ?_
      refine Ev.step (pc' := 62) rfl (put_5_2 rfl) ?_
      cases h
      exact Ev.fin rfl rfl
def b83_9 (rec9 : Int32 → Int32 → Int32 → zS → Option (zS)) (x1 : Int32) (x2 : Int32) (x3 : Int32) (s : zS) : Option (zS) := if x3 ≥ (s.1 13 1) then some s else if mIx x3 1600 then if ((s.1 14 x3.toNatClampNeg) &&& (zi 192)) = (zi 128) then f83_38 rec9 x1 x2 x3 (zi 0) s else f83_38 rec9 x1 x2 x3 (zi 1) s else none
set_option maxRecDepth 100000 in
theorem kb83_9 {X : mX} {D : Nat} {rec9 : Int32 → Int32 → Int32 → zS → Option (zS)} (hrec9 : ∀ (x1 : Int32) (x2 : Int32) (x3 : Int32) (s : zS) (r : zS) (o4 : Option Value), rec9 x1 x2 x3 s = some r → Ev X D mm83 9 [some (.ref 13), some (.int x1), some (.int x2), some (.int x3), o4] [] (mk s) (encV r)) (x1 : Int32) (x2 : Int32) (x3 : Int32) (s : zS) (r : zS) (o4 : Option Value)  (h : b83_9 rec9 x1 x2 x3 s = some r) : Ev X D mm83 9 [some (.ref 13), some (.int x1), some (.int x2), some (.int x3), o4] [] (mk s) (encV r) := by
  unfold b83_9 at h
  refine Ev.run (pc' := 14) (ls' := [some (.ref 13), some (.int x1), some (.int x2), some (.int x3), o4]) (st' := [.int (s.1 13 1), .int x3]) (h' := mk s) 3 rfl ?_
  refine Ev.icmp_ge (t := 82) rfl rfl (fun hb => ?_) (fun hb => ?_)
  · have h := (if_pos hb).symm.trans h
    cases h
    exact Ev.fin rfl rfl
  · have h := (if_neg hb).symm.trans h
    refine Ev.run (pc' := 22) (ls' := [some (.ref 13), some (.int x1), some (.int x2), some (.int x3), o4]) (st' := [.int x3, .ref 14]) (h' := mk s) 3 rfl ?_
    obtain ⟨hx, h⟩ := zif h
    refine Ev.step (pc' := 23) rfl (ald_b rfl hx) ?_
    refine Ev.run (pc' := 30) (ls' := [some (.ref 13), some (.int x1), some (.int x2), some (.int x3), o4]) (st' := [.int (zi 128), .int ((s.1 14 x3.toNatClampNeg) &&& (zi 192))]) (h' := mk s) 3 rfl ?_
    refine Ev.icmp_eq (t := 37) rfl rfl (fun hb => ?_) (fun hb => ?_)
    · have h := (if_pos hb).symm.trans h
      refine Ev.run (pc' := 38) (ls' := [some (.ref 13), some (.int x1), some (.int x2), some (.int x3), o4]) (st' := [.int (zi 0)]) (h' := mk s) 1 rfl ?_
      exact k83_38 hrec9 x1 x2 x3 (zi 0) s _ _ h
    · have h := (if_neg hb).symm.trans h
      refine Ev.run (pc' := 38) (ls' := [some (.ref 13), some (.int x1), some (.int x2), some (.int x3), o4]) (st' := [.int (zi 1)]) (h' := mk s) 2 rfl ?_
      exact k83_38 hrec9 x1 x2 x3 (zi 1) s _ _ h
def f83_9  : Nat → Int32 → Int32 → Int32 → zS → Option (zS)
  | 0, _, _, _, _ => none
  | n + 1, x1, x2, x3, s => b83_9 (f83_9 n) x1 x2 x3 s
set_option maxRecDepth 100000 in
theorem k83_9 {X : mX} {D : Nat}   (n : Nat) : ∀ (x1 : Int32) (x2 : Int32) (x3 : Int32) (s : zS) (r : zS) (o4 : Option Value), f83_9  n x1 x2 x3 s = some r → Ev X D mm83 9 [some (.ref 13), some (.int x1), some (.int x2), some (.int x3), o4] [] (mk s) (encV r) := by
  induction n with
  | zero => intro x1 x2 x3 s r o4  h; cases h
  | succ n ih => intro x1 x2 x3 s r o4  h; exact kb83_9  ih x1 x2 x3 s r o4  h
def f83  (x1 : Int32) (s : zS) : Option (zS) := if x1 ≥ zi 0 then f83_9 zF x1 (zi 0) (zi 0) s else some s
set_option maxRecDepth 100000 in
theorem k83 {X : mX} {D : Nat} {x1 : Int32} {s : zS} {r : zS}  (h : f83 x1 s = some r) : Ev X D mm83 0 [some (.ref 13), some (.int x1), none, none, none] [] (mk s) (encV r) := by
  unfold f83 at h
  refine Ev.run (pc' := 1) (ls' := [some (.ref 13), some (.int x1), none, none, none]) (st' := [.int x1]) (h' := mk s) 1 rfl ?_
  refine Ev.if_ge (t := 5) rfl rfl (fun hb => ?_) (fun hb => ?_)
  · have h := (if_pos hb).symm.trans h
    refine Ev.run (pc' := 9) (ls' := [some (.ref 13), some (.int x1), some (.int (zi 0)), some (.int (zi 0)), none]) (st' := []) (h' := mk s) 4 rfl ?_
    exact k83_9 zF x1 (zi 0) (zi 0) s _ _ h
  · have h := (if_neg hb).symm.trans h
    cases h
    exact Ev.fin rfl rfl
