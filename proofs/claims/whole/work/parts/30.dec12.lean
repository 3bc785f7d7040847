/-! decompiled methods, 12; printed by wip/gen/gen8.py -/
/-! 217 FModel.format()I -/
def b217_77 (rec77 : Int32 → Int32 → zS → Option (Int32 × zS)) (x1 : Int32) (x2 : Int32) (s : zS) : Option (Int32 × zS) := if x2 ≥ (s.1 24 34) then some (x1, setI s 24 5 (s.1 24 34)) else if mIx x2 400 then if (s.1 26 x2.toNatClampNeg) = (zi 37) then zb1 (f199 x2 s) (fun v2 s1 => if v2 ≤ zi 0 then rec77 (x1 + zi 1) (s1.1 24 20) s1 else some (zi 0, setI (setI (setI s1 24 7 v2) 24 8 x2) 24 9 (zi 2))) else rec77 x1 (x2 + zi 1) s else none
set_option maxRecDepth 100000 in
theorem kb217_77 {X : mX} {D : Nat} {rec77 : Int32 → Int32 → zS → Option (Int32 × zS)} (hrec77 : ∀ (x1 : Int32) (x2 : Int32) (s : zS) (r : Int32 × zS) (o3 : Option Value), rec77 x1 x2 s = some r → Ev X (D + 6) mm217 77 [some (.ref 24), some (.int x1), some (.int x2), o3] [] (mk s) (encI r)) (x1 : Int32) (x2 : Int32) (s : zS) (r : Int32 × zS) (o3 : Option Value)  (h : b217_77 rec77 x1 x2 s = some r) : Ev X (D + 6) mm217 77 [some (.ref 24), some (.int x1), some (.int x2), o3] [] (mk s) (encI r) := by
  unfold b217_77 at h
  refine Ev.run (pc' := 82) (ls' := [some (.ref 24), some (.int x1), some (.int x2), o3]) (st' := [.int (s.1 24 34), .int x2]) (h' := mk s) 3 rfl ?_
  refine Ev.icmp_ge (t := 140) rfl rfl (fun hb => ?_) (fun hb => ?_)
  · have h := (if_pos hb).symm.trans h
    refine Ev.run (pc' := 145) (ls' := [some (.ref 24), some (.int x1), some (.int x2), o3]) (st' := [.int (s.1 24 34), .ref 24]) (h' := mk s) 3 rfl ?_
    refine Ev.step (pc' := 148) rfl (put_12_5 rfl) ?_
    refine Ev.run (pc' := 149) (ls' := [some (.ref 24), some (.int x1), some (.int x2), o3]) (st' := [.int x1]) (h' := mk (setI s 24 5 (s.1 24 34))) 1 rfl ?_
    first | (obtain rfl := Option.some.inj h) | (cases h)
    exact Ev.fin rfl rfl
  · have h := (if_neg hb).symm.trans h
    refine Ev.run (pc' := 90) (ls' := [some (.ref 24), some (.int x1), some (.int x2), o3]) (st' := [.int x2, .ref 26]) (h' := mk s) 3 rfl ?_
    obtain ⟨hx, h⟩ := zif h
    refine Ev.step (pc' := 91) rfl (ald_b rfl hx) ?_
    refine Ev.run (pc' := 93) (ls' := [some (.ref 24), some (.int x1), some (.int x2), o3]) (st' := [.int (zi 37), .int (s.1 26 x2.toNatClampNeg)]) (h' := mk s) 1 rfl ?_
    refine Ev.icmp_eq (t := 102) rfl rfl (fun hb => ?_) (fun hb => ?_)
    · have h := (if_pos hb).symm.trans h
      refine Ev.run (pc' := 104) (ls' := [some (.ref 24), some (.int x1), some (.int x2), o3]) (st' := [.int x2, .ref 24]) (h' := mk s) 2 rfl ?_
      obtain ⟨v2, s1, hq, h⟩ := zb1_some h
      refine Ev.call (M' := mm199) (v := some (.int v2)) (h' := mk s1) rfl rfl rfl (Nat.le_of_ble_eq_true rfl) (k199 hq) ?_
      refine Ev.run (pc' := 109) (ls' := [some (.ref 24), some (.int x1), some (.int x2), some (.int v2)]) (st' := [.int v2]) (h' := mk s1) 2 rfl ?_
      refine Ev.if_le (t := 129) rfl rfl (fun hb => ?_) (fun hb => ?_)
      · have h := (if_pos hb).symm.trans h
        refine Ev.run (pc' := 77) (ls' := [some (.ref 24), some (.int (x1 + zi 1)), some (.int (s1.1 24 20)), some (.int v2)]) (st' := []) (h' := mk s1) 5 rfl ?_
        exact hrec77 (x1 + zi 1) (s1.1 24 20) s1 _ _ h
      · have h := (if_neg hb).symm.trans h
        refine Ev.run (pc' := 114) (ls' := [some (.ref 24), some (.int x1), some (.int x2), some (.int v2)]) (st' := [.int v2, .ref 24]) (h' := mk s1) 2 rfl ?_
        refine Ev.step (pc' := 117) rfl (put_12_7 rfl) ?_
        refine Ev.run (pc' := 119) (ls' := [some (.ref 24), some (.int x1), some (.int x2), some (.int v2)]) (st' := [.int x2, .ref 24]) (h' := mk (setI s1 24 7 v2)) 2 rfl ?_
        refine Ev.step (pc' := 122) rfl (put_12_8 rfl) ?_
        refine Ev.run (pc' := 124) (ls' := [some (.ref 24), some (.int x1), some (.int x2), some (.int v2)]) (st' := [.int (zi 2), .ref 24]) (h' := mk (setI (setI s1 24 7 v2) 24 8 x2)) 2 rfl ?_
        refine Ev.step (pc' := 127) rfl (put_12_9 rfl) ?_
        refine Ev.run (pc' := 128) (ls' := [some (.ref 24), some (.int x1), some (.int x2), some (.int v2)]) (st' := [.int (zi 0)]) (h' := mk (setI (setI (setI s1 24 7 v2) 24 8 x2) 24 9 (zi 2))) 1 rfl ?_
        first | (obtain rfl := Option.some.inj h) | (cases h)
        exact Ev.fin rfl rfl
    · have h := (if_neg hb).symm.trans h
      refine Ev.run (pc' := 77) (ls' := [some (.ref 24), some (.int x1), some (.int (x2 + zi 1)), o3]) (st' := []) (h' := mk s) 2 rfl ?_
      exact hrec77 x1 (x2 + zi 1) s _ _ h
def f217_77  : Nat → Int32 → Int32 → zS → Option (Int32 × zS)
  | 0, _, _, _ => none
  | n + 1, x1, x2, s => b217_77 (f217_77 n) x1 x2 s
set_option maxRecDepth 100000 in
theorem k217_77 {X : mX} {D : Nat}   (n : Nat) : ∀ (x1 : Int32) (x2 : Int32) (s : zS) (r : Int32 × zS) (o3 : Option Value), f217_77  n x1 x2 s = some r → Ev X (D + 6) mm217 77 [some (.ref 24), some (.int x1), some (.int x2), o3] [] (mk s) (encI r) := by
  induction n with
  | zero => intro x1 x2 s r o3  h; cases h
  | succ n ih => intro x1 x2 s r o3  h; exact kb217_77  ih x1 x2 s r o3  h
def f217_16  (y1 : Int32) (s : zS) : Option (Int32 × zS) := if y1 ≤ zi 0 then if mCp (zi 0) (zi 0) (s.1 24 4) 800 400 then f217_77 zF (zi 0) (zi 0) (setI (setI (setI (setI (setI (setA (setI s 24 9 y1) 26 (va_cpy (s.1 25) (s.1 26) ((zi 0).toNatClampNeg) ((zi 0).toNatClampNeg) ((s.1 24 4).toNatClampNeg))) 24 34 (s.1 24 4)) 24 4 (zi 0)) 24 7 (zi 0)) 24 8 (zi (-1))) 24 5 (zi (-1))) else none else some (zi 0, setI s 24 9 y1)
set_option maxRecDepth 100000 in
theorem k217_16 {X : mX} {D : Nat}   (y1 : Int32) (s : zS) (r : Int32 × zS) (o1 : Option Value) (o2 : Option Value) (o3 : Option Value)  (h : f217_16  y1 s = some r) : Ev X (D + 6) mm217 16 [some (.ref 24), o1, o2, o3] [.int y1, .ref 24] (mk s) (encI r) := by
  unfold f217_16 at h
  refine Ev.step (pc' := 19) rfl (put_12_9 rfl) ?_
  refine Ev.run (pc' := 23) (ls' := [some (.ref 24), o1, o2, o3]) (st' := [.int y1]) (h' := mk (setI s 24 9 y1)) 2 rfl ?_
  refine Ev.if_le (t := 28) rfl rfl (fun hb => ?_) (fun hb => ?_)
  · have h := (if_pos hb).symm.trans h
    refine Ev.run (pc' := 42) (ls' := [some (.ref 24), o1, o2, o3]) (st' := [.int (s.1 24 4), .int (zi 0), .ref 26, .int (zi 0), .ref 25]) (h' := mk (setI s 24 9 y1)) 8 rfl ?_
    obtain ⟨hx, h⟩ := zif h
    refine Ev.step (pc' := 45) rfl (cpy_25_26 rfl rfl hx) ?_
    refine Ev.run (pc' := 50) (ls' := [some (.ref 24), o1, o2, o3]) (st' := [.int (s.1 24 4), .ref 24]) (h' := mk (setA (setI s 24 9 y1) 26 (va_cpy (s.1 25) (s.1 26) ((zi 0).toNatClampNeg) ((zi 0).toNatClampNeg) ((s.1 24 4).toNatClampNeg)))) 3 rfl ?_
    refine Ev.step (pc' := 53) rfl (put_12_34 rfl) ?_
    refine Ev.run (pc' := 55) (ls' := [some (.ref 24), o1, o2, o3]) (st' := [.int (zi 0), .ref 24]) (h' := mk (setI (setA (setI s 24 9 y1) 26 (va_cpy (s.1 25) (s.1 26) ((zi 0).toNatClampNeg) ((zi 0).toNatClampNeg) ((s.1 24 4).toNatClampNeg))) 24 34 (s.1 24 4))) 2 rfl ?_
    refine Ev.step (pc' := 58) rfl (put_12_4 rfl) ?_
    refine Ev.run (pc' := 60) (ls' := [some (.ref 24), o1, o2, o3]) (st' := [.int (zi 0), .ref 24]) (h' := mk (setI (setI (setA (setI s 24 9 y1) 26 (va_cpy (s.1 25) (s.1 26) ((zi 0).toNatClampNeg) ((zi 0).toNatClampNeg) ((s.1 24 4).toNatClampNeg))) 24 34 (s.1 24 4)) 24 4 (zi 0))) 2 rfl ?_
    refine Ev.step (pc' := 63) rfl (put_12_7 rfl) ?_
    refine Ev.run (pc' := 65) (ls' := [some (.ref 24), o1, o2, o3]) (st' := [.int (zi (-1)), .ref 24]) (h' := mk (setI (setI (setI (setA (setI s 24 9 y1) 26 (va_cpy (s.1 25) (s.1 26) ((zi 0).toNatClampNeg) ((zi 0).toNatClampNeg) ((s.1 24 4).toNatClampNeg))) 24 34 (s.1 24 4)) 24 4 (zi 0)) 24 7 (zi 0))) 2 rfl ?_
    refine Ev.step (pc' := 68) rfl (put_12_8 rfl) ?_
    refine Ev.run (pc' := 70) (ls' := [some (.ref 24), o1, o2, o3]) (st' := [.int (zi (-1)), .ref 24]) (h' := mk (setI (setI (setI (setI (setA (setI s 24 9 y1) 26 (va_cpy (s.1 25) (s.1 26) ((zi 0).toNatClampNeg) ((zi 0).toNatClampNeg) ((s.1 24 4).toNatClampNeg))) 24 34 (s.1 24 4)) 24 4 (zi 0)) 24 7 (zi 0)) 24 8 (zi (-1)))) 2 rfl ?_
    refine Ev.step (pc' := 73) rfl (put_12_5 rfl) ?_
    refine Ev.run (pc' := 77) (ls' := [some (.ref 24), some (.int (zi 0)), some (.int (zi 0)), o3]) (st' := []) (h' := mk (setI (setI (setI (setI (setI (setA (setI s 24 9 y1) 26 (va_cpy (s.1 25) (s.1 26) ((zi 0).toNatClampNeg) ((zi 0).toNatClampNeg) ((s.1 24 4).toNatClampNeg))) 24 34 (s.1 24 4)) 24 4 (zi 0)) 24 7 (zi 0)) 24 8 (zi (-1))) 24 5 (zi (-1)))) 4 rfl ?_
    exact k217_77 zF (zi 0) (zi 0) (setI (setI (setI (setI (setI (setA (setI s 24 9 y1) 26 (va_cpy (s.1 25) (s.1 26) ((zi 0).toNatClampNeg) ((zi 0).toNatClampNeg) ((s.1 24 4).toNatClampNeg))) 24 34 (s.1 24 4)) 24 4 (zi 0)) 24 7 (zi 0)) 24 8 (zi (-1))) 24 5 (zi (-1))) _ _ h
  · have h := (if_neg hb).symm.trans h
    refine Ev.run (pc' := 27) (ls' := [some (.ref 24), o1, o2, o3]) (st' := [.int (zi 0)]) (h' := mk (setI s 24 9 y1)) 1 rfl ?_
    first | (obtain rfl := Option.some.inj h) | (cases h)
    exact Ev.fin rfl rfl
def f217   (s : zS) : Option (Int32 × zS) := if (s.1 24 4) ≤ (zi 400) then f217_16 (zi 0) s else f217_16 (zi 1) s
set_option maxRecDepth 100000 in
theorem k217 {X : mX} {D : Nat}  {s : zS} {r : Int32 × zS}  (h : f217  s = some r) : Ev X (D + 6) mm217 0 [some (.ref 24), none, none, none] [] (mk s) (encI r) := by
  unfold f217 at h
  refine Ev.run (pc' := 8) (ls' := [some (.ref 24), none, none, none]) (st' := [.int (zi 400), .int (s.1 24 4), .ref 24]) (h' := mk s) 4 rfl ?_
  refine Ev.icmp_le (t := 15) rfl rfl (fun hb => ?_) (fun hb => ?_)
  · have h := (if_pos hb).symm.trans h
    refine Ev.run (pc' := 16) (ls' := [some (.ref 24), none, none, none]) (st' := [.int (zi 0), .ref 24]) (h' := mk s) 1 rfl ?_
    exact k217_16 (zi 0) s _ _ _ _ h
  · have h := (if_neg hb).symm.trans h
    refine Ev.run (pc' := 16) (ls' := [some (.ref 24), none, none, none]) (st' := [.int (zi 1), .ref 24]) (h' := mk s) 2 rfl ?_
    exact k217_16 (zi 1) s _ _ _ _ h
/-! 218 FModel.clear()I -/
def f218   (s : zS) : Option (Int32 × zS) := some (s.1 24 13, setI (setI s 24 9 (zi 0)) 24 13 (zi 0))
set_option maxRecDepth 100000 in
theorem k218 {X : mX} {D : Nat}  {s : zS} {r : Int32 × zS}  (h : f218  s = some r) : Ev X D mm218 0 [some (.ref 24), none] [] (mk s) (encI r) := by
  unfold f218 at h
  refine Ev.run (pc' := 2) (ls' := [some (.ref 24), none]) (st' := [.int (zi 0), .ref 24]) (h' := mk s) 2 rfl ?_
  refine Ev.step (pc' := 5) rfl (put_12_9 rfl) ?_
  refine Ev.run (pc' := 12) (ls' := [some (.ref 24), some (.int (s.1 24 13))]) (st' := [.int (zi 0), .ref 24]) (h' := mk (setI s 24 9 (zi 0))) 5 rfl ?_
  refine Ev.step (pc' := 15) rfl (put_12_13 rfl) ?_
  refine Ev.run (pc' := 16) (ls' := [some (.ref 24), some (.int (s.1 24 13))]) (st' := [.int (s.1 24 13)]) (h' := mk (setI (setI s 24 9 (zi 0)) 24 13 (zi 0))) 1 rfl ?_
  first | (obtain rfl := Option.some.inj h) | (cases h)
  exact Ev.fin rfl rfl
/-! 219 FModel.argument(IJI)I -/
def f219  (x1 : Int32) (x2 : Int64) (x4 : Int32) (s : zS) : Option (Int32 × zS) := if mIx (s.1 24 13) 24 then if mIx (s.1 24 13) 24 then if mIx (s.1 24 13) 24 then some ((s.1 24 13) + (zi 1), setI (setB (setK (setB s 29 ((s.1 24 13).toNatClampNeg) x1) 31 ((s.1 24 13).toNatClampNeg) x2) 30 ((s.1 24 13).toNatClampNeg) x4) 24 13 ((s.1 24 13) + (zi 1))) else none else none else none
set_option maxRecDepth 100000 in
theorem k219 {X : mX} {D : Nat} {x1 : Int32} {x2 : Int64} {x4 : Int32} {s : zS} {r : Int32 × zS}  (h : f219 x1 x2 x4 s = some r) : Ev X D mm219 0 [some (.ref 24), some (.int x1), some (.long x2), none, some (.int x4)] [] (mk s) (encI r) := by
  unfold f219 at h
  refine Ev.run (pc' := 9) (ls' := [some (.ref 24), some (.int x1), some (.long x2), none, some (.int x4)]) (st' := [.int x1, .int (s.1 24 13), .ref 29]) (h' := mk s) 5 rfl ?_
  obtain ⟨hx, h⟩ := zif h
  refine Ev.step (pc' := 10) rfl (ast_29 hx) ?_
  refine Ev.run (pc' := 19) (ls' := [some (.ref 24), some (.int x1), some (.long x2), none, some (.int x4)]) (st' := [.long x2, .int (s.1 24 13), .ref 31]) (h' := mk (setB s 29 ((s.1 24 13).toNatClampNeg) x1)) 5 rfl ?_
  obtain ⟨hx, h⟩ := zif h
  refine Ev.step (pc' := 20) rfl (ast_31 hx) ?_
  refine Ev.run (pc' := 30) (ls' := [some (.ref 24), some (.int x1), some (.long x2), none, some (.int x4)]) (st' := [.int x4, .int (s.1 24 13), .ref 30]) (h' := mk (setK (setB s 29 ((s.1 24 13).toNatClampNeg) x1) 31 ((s.1 24 13).toNatClampNeg) x2)) 5 rfl ?_
  obtain ⟨hx, h⟩ := zif h
  refine Ev.step (pc' := 31) rfl (ast_30 hx) ?_
  refine Ev.run (pc' := 38) (ls' := [some (.ref 24), some (.int x1), some (.long x2), none, some (.int x4)]) (st' := [.int ((s.1 24 13) + (zi 1)), .ref 24]) (h' := mk (setB (setK (setB s 29 ((s.1 24 13).toNatClampNeg) x1) 31 ((s.1 24 13).toNatClampNeg) x2) 30 ((s.1 24 13).toNatClampNeg) x4)) 5 rfl ?_
  refine Ev.step (pc' := 41) rfl (put_12_13 rfl) ?_
  refine Ev.run (pc' := 45) (ls' := [some (.ref 24), some (.int x1), some (.long x2), none, some (.int x4)]) (st' := [.int ((s.1 24 13) + (zi 1))]) (h' := mk (setI (setB (setK (setB s 29 ((s.1 24 13).toNatClampNeg) x1) 31 ((s.1 24 13).toNatClampNeg) x2) 30 ((s.1 24 13).toNatClampNeg) x4) 24 13 ((s.1 24 13) + (zi 1)))) 2 rfl ?_
  first | (obtain rfl := Option.some.inj h) | (cases h)
  exact Ev.fin rfl rfl
/-! 220 FModel.whole(IJ)I -/
def f220_113  (x1 : Int32) (x4 : Int64) (s : zS) : Option (Int32 × zS) := zb1 (f219 x1 x4 (zi 0) s) (fun v2 s1 => some (v2, s1))
set_option maxRecDepth 100000 in
theorem k220_113 {X : mX} {D : Nat}   (x1 : Int32) (x4 : Int64) (s : zS) (r : Int32 × zS) (o2 : Option Value) (o3 : Option Value)  (h : f220_113  x1 x4 s = some r) : Ev X (D + 1) mm220 113 [some (.ref 24), some (.int x1), o2, o3, some (.long x4), none] [] (mk s) (encI r) := by
  unfold f220_113 at h
  refine Ev.run (pc' := 118) (ls' := [some (.ref 24), some (.int x1), o2, o3, some (.long x4), none]) (st' := [.int (zi 0), .long x4, .int x1, .ref 24]) (h' := mk s) 4 rfl ?_
  obtain ⟨v2, s1, hq, h⟩ := zb1_some h
  refine Ev.call (M' := mm219) (v := some (.int v2)) (h' := mk s1) rfl rfl rfl (Nat.le_of_ble_eq_true rfl) (k219 hq) ?_
  first | (obtain rfl := Option.some.inj h) | (cases h)
  exact Ev.fin rfl rfl
def f220_103  (x1 : Int32) (x2 : Int64) (x4 : Int64) (s : zS) : Option (Int32 × zS) := if ¬ x1 = (zi 5) then f220_113 x1 x4 s else f220_113 x1 (zI2L (zL2I x2)) s
set_option maxRecDepth 100000 in
theorem k220_103 {X : mX} {D : Nat}   (x1 : Int32) (x2 : Int64) (x4 : Int64) (s : zS) (r : Int32 × zS)   (h : f220_103  x1 x2 x4 s = some r) : Ev X (D + 1) mm220 103 [some (.ref 24), some (.int x1), some (.long x2), none, some (.long x4), none] [] (mk s) (encI r) := by
  unfold f220_103 at h
  refine Ev.run (pc' := 105) (ls' := [some (.ref 24), some (.int x1), some (.long x2), none, some (.long x4), none]) (st' := [.int (zi 5), .int x1]) (h' := mk s) 2 rfl ?_
  refine Ev.icmp_ne (t := 113) rfl rfl (fun hb => ?_) (fun hb => ?_)
  · have h := (if_pos hb).symm.trans h
    exact k220_113 x1 x4 s _ _ _ h
  · have h := (if_neg hb).symm.trans h
    refine Ev.run (pc' := 113) (ls' := [some (.ref 24), some (.int x1), some (.long x2), none, some (.long (zI2L (zL2I x2))), none]) (st' := []) (h' := mk s) 4 rfl ?_
    exact k220_113 x1 (zI2L (zL2I x2)) s _ _ _ h
def f220_92  (x1 : Int32) (x2 : Int64) (x4 : Int64) (s : zS) : Option (Int32 × zS) := if ¬ x1 = (zi 4) then f220_103 x1 x2 x4 s else f220_103 x1 x2 (zI2L (zI2S (zL2I x2))) s
set_option maxRecDepth 100000 in
theorem k220_92 {X : mX} {D : Nat}   (x1 : Int32) (x2 : Int64) (x4 : Int64) (s : zS) (r : Int32 × zS)   (h : f220_92  x1 x2 x4 s = some r) : Ev X (D + 1) mm220 92 [some (.ref 24), some (.int x1), some (.long x2), none, some (.long x4), none] [] (mk s) (encI r) := by
  unfold f220_92 at h
  refine Ev.run (pc' := 94) (ls' := [some (.ref 24), some (.int x1), some (.long x2), none, some (.long x4), none]) (st' := [.int (zi 4), .int x1]) (h' := mk s) 2 rfl ?_
  refine Ev.icmp_ne (t := 103) rfl rfl (fun hb => ?_) (fun hb => ?_)
  · have h := (if_pos hb).symm.trans h
    exact k220_103 x1 x2 x4 s _ h
  · have h := (if_neg hb).symm.trans h
    refine Ev.run (pc' := 103) (ls' := [some (.ref 24), some (.int x1), some (.long x2), none, some (.long (zI2L (zI2S (zL2I x2)))), none]) (st' := []) (h' := mk s) 5 rfl ?_
    exact k220_103 x1 x2 (zI2L (zI2S (zL2I x2))) s _ h
def f220_81  (x1 : Int32) (x2 : Int64) (x4 : Int64) (s : zS) : Option (Int32 × zS) := if ¬ x1 = (zi 3) then f220_92 x1 x2 x4 s else f220_92 x1 x2 (zI2L (zI2B (zL2I x2))) s
set_option maxRecDepth 100000 in
theorem k220_81 {X : mX} {D : Nat}   (x1 : Int32) (x2 : Int64) (x4 : Int64) (s : zS) (r : Int32 × zS)   (h : f220_81  x1 x2 x4 s = some r) : Ev X (D + 1) mm220 81 [some (.ref 24), some (.int x1), some (.long x2), none, some (.long x4), none] [] (mk s) (encI r) := by
  unfold f220_81 at h
  refine Ev.run (pc' := 83) (ls' := [some (.ref 24), some (.int x1), some (.long x2), none, some (.long x4), none]) (st' := [.int (zi 3), .int x1]) (h' := mk s) 2 rfl ?_
  refine Ev.icmp_ne (t := 92) rfl rfl (fun hb => ?_) (fun hb => ?_)
  · have h := (if_pos hb).symm.trans h
    exact k220_92 x1 x2 x4 s _ h
  · have h := (if_neg hb).symm.trans h
    refine Ev.run (pc' := 92) (ls' := [some (.ref 24), some (.int x1), some (.long x2), none, some (.long (zI2L (zI2B (zL2I x2)))), none]) (st' := []) (h' := mk s) 5 rfl ?_
    exact k220_92 x1 x2 (zI2L (zI2B (zL2I x2))) s _ h
def f220_48  (x1 : Int32) (x2 : Int64) (y1 : Int32) (s : zS) : Option (Int32 × zS) := if y1 ≤ zi 0 then if ¬ x1 = (zi 1) then f220_81 x1 x2 x2 (setI s 24 9 y1) else if ¬ x2 = (zl 0) then f220_81 x1 x2 (zl 1) (setI s 24 9 y1) else f220_81 x1 x2 (zl 0) (setI s 24 9 y1) else some (zi 0, setI s 24 9 y1)
set_option maxRecDepth 100000 in
theorem k220_48 {X : mX} {D : Nat}   (x1 : Int32) (x2 : Int64) (y1 : Int32) (s : zS) (r : Int32 × zS) (o4 : Option Value) (o5 : Option Value)  (h : f220_48  x1 x2 y1 s = some r) : Ev X (D + 1) mm220 48 [some (.ref 24), some (.int x1), some (.long x2), none, o4, o5] [.int y1, .ref 24] (mk s) (encI r) := by
  unfold f220_48 at h
  refine Ev.step (pc' := 51) rfl (put_12_9 rfl) ?_
  refine Ev.run (pc' := 55) (ls' := [some (.ref 24), some (.int x1), some (.long x2), none, o4, o5]) (st' := [.int y1]) (h' := mk (setI s 24 9 y1)) 2 rfl ?_
  refine Ev.if_le (t := 60) rfl rfl (fun hb => ?_) (fun hb => ?_)
  · have h := (if_pos hb).symm.trans h
    refine Ev.run (pc' := 65) (ls' := [some (.ref 24), some (.int x1), some (.long x2), none, some (.long x2), none]) (st' := [.int (zi 1), .int x1]) (h' := mk (setI s 24 9 y1)) 4 rfl ?_
    refine Ev.icmp_ne (t := 81) rfl rfl (fun hb => ?_) (fun hb => ?_)
    · have h := (if_pos hb).symm.trans h
      exact k220_81 x1 x2 x2 (setI s 24 9 y1) _ h
    · have h := (if_neg hb).symm.trans h
      refine Ev.run (pc' := 71) (ls' := [some (.ref 24), some (.int x1), some (.long x2), none, some (.long x2), none]) (st' := [.int (lg_cmp x2 (zl 0))]) (h' := mk (setI s 24 9 y1)) 3 rfl ?_
      refine Ev.ifl_ne (t := 78) rfl rfl (fun hb => ?_) (fun hb => ?_)
      · have h := (if_pos hb).symm.trans h
        refine Ev.run (pc' := 81) (ls' := [some (.ref 24), some (.int x1), some (.long x2), none, some (.long (zl 1)), none]) (st' := []) (h' := mk (setI s 24 9 y1)) 2 rfl ?_
        exact k220_81 x1 x2 (zl 1) (setI s 24 9 y1) _ h
      · have h := (if_neg hb).symm.trans h
        refine Ev.run (pc' := 81) (ls' := [some (.ref 24), some (.int x1), some (.long x2), none, some (.long (zl 0)), none]) (st' := []) (h' := mk (setI s 24 9 y1)) 3 rfl ?_
        exact k220_81 x1 x2 (zl 0) (setI s 24 9 y1) _ h
  · have h := (if_neg hb).symm.trans h
    refine Ev.run (pc' := 59) (ls' := [some (.ref 24), some (.int x1), some (.long x2), none, o4, o5]) (st' := [.int (zi 0)]) (h' := mk (setI s 24 9 y1)) 1 rfl ?_
    first | (obtain rfl := Option.some.inj h) | (cases h)
    exact Ev.fin rfl rfl
def f220_34  (x1 : Int32) (x2 : Int64) (s : zS) : Option (Int32 × zS) := if ¬ (s.1 24 13) = (zi 24) then f220_48 x1 x2 (zi 0) s else f220_48 x1 x2 (zi 2) s
set_option maxRecDepth 100000 in
theorem k220_34 {X : mX} {D : Nat}   (x1 : Int32) (x2 : Int64) (s : zS) (r : Int32 × zS) (o4 : Option Value) (o5 : Option Value)  (h : f220_34  x1 x2 s = some r) : Ev X (D + 1) mm220 34 [some (.ref 24), some (.int x1), some (.long x2), none, o4, o5] [.ref 24] (mk s) (encI r) := by
  unfold f220_34 at h
  refine Ev.run (pc' := 40) (ls' := [some (.ref 24), some (.int x1), some (.long x2), none, o4, o5]) (st' := [.int (zi 24), .int (s.1 24 13), .ref 24]) (h' := mk s) 3 rfl ?_
  refine Ev.icmp_ne (t := 47) rfl rfl (fun hb => ?_) (fun hb => ?_)
  · have h := (if_pos hb).symm.trans h
    refine Ev.run (pc' := 48) (ls' := [some (.ref 24), some (.int x1), some (.long x2), none, o4, o5]) (st' := [.int (zi 0), .ref 24]) (h' := mk s) 1 rfl ?_
    exact k220_48 x1 x2 (zi 0) s _ _ _ h
  · have h := (if_neg hb).symm.trans h
    refine Ev.run (pc' := 48) (ls' := [some (.ref 24), some (.int x1), some (.long x2), none, o4, o5]) (st' := [.int (zi 2), .ref 24]) (h' := mk s) 2 rfl ?_
    exact k220_48 x1 x2 (zi 2) s _ _ _ h
def f220  (x1 : Int32) (x2 : Int64) (s : zS) : Option (Int32 × zS) := if x1 < zi 0 then f220_48 x1 x2 (zi 1) s else if x1 > (zi 6) then f220_48 x1 x2 (zi 1) s else if ¬ x1 = (zi 2) then f220_34 x1 x2 s else if x2 < (zl 0) then f220_48 x1 x2 (zi 1) s else if x2 ≤ (zl 1114111) then f220_34 x1 x2 s else f220_48 x1 x2 (zi 1) s
set_option maxRecDepth 100000 in
theorem k220 {X : mX} {D : Nat} {x1 : Int32} {x2 : Int64} {s : zS} {r : Int32 × zS}  (h : f220 x1 x2 s = some r) : Ev X (D + 1) mm220 0 [some (.ref 24), some (.int x1), some (.long x2), none, none, none] [] (mk s) (encI r) := by
  unfold f220 at h
  refine Ev.run (pc' := 2) (ls' := [some (.ref 24), some (.int x1), some (.long x2), none, none, none]) (st' := [.int x1, .ref 24]) (h' := mk s) 2 rfl ?_
  refine Ev.if_lt (t := 30) rfl rfl (fun hb => ?_) (fun hb => ?_)
  · have h := (if_pos hb).symm.trans h
    refine Ev.run (pc' := 48) (ls' := [some (.ref 24), some (.int x1), some (.long x2), none, none, none]) (st' := [.int (zi 1), .ref 24]) (h' := mk s) 2 rfl ?_
    exact k220_48 x1 x2 (zi 1) s _ _ _ h
  · have h := (if_neg hb).symm.trans h
    refine Ev.run (pc' := 8) (ls' := [some (.ref 24), some (.int x1), some (.long x2), none, none, none]) (st' := [.int (zi 6), .int x1, .ref 24]) (h' := mk s) 2 rfl ?_
    refine Ev.icmp_gt (t := 30) rfl rfl (fun hb => ?_) (fun hb => ?_)
    · have h := (if_pos hb).symm.trans h
      refine Ev.run (pc' := 48) (ls' := [some (.ref 24), some (.int x1), some (.long x2), none, none, none]) (st' := [.int (zi 1), .ref 24]) (h' := mk s) 2 rfl ?_
      exact k220_48 x1 x2 (zi 1) s _ _ _ h
    · have h := (if_neg hb).symm.trans h
      refine Ev.run (pc' := 13) (ls' := [some (.ref 24), some (.int x1), some (.long x2), none, none, none]) (st' := [.int (zi 2), .int x1, .ref 24]) (h' := mk s) 2 rfl ?_
      refine Ev.icmp_ne (t := 34) rfl rfl (fun hb => ?_) (fun hb => ?_)
      · have h := (if_pos hb).symm.trans h
        exact k220_34 x1 x2 s _ _ _ h
      · have h := (if_neg hb).symm.trans h
        refine Ev.run (pc' := 19) (ls' := [some (.ref 24), some (.int x1), some (.long x2), none, none, none]) (st' := [.int (lg_cmp x2 (zl 0)), .ref 24]) (h' := mk s) 3 rfl ?_
        refine Ev.ifl_lt (t := 30) rfl rfl (fun hb => ?_) (fun hb => ?_)
        · have h := (if_pos hb).symm.trans h
          refine Ev.run (pc' := 48) (ls' := [some (.ref 24), some (.int x1), some (.long x2), none, none, none]) (st' := [.int (zi 1), .ref 24]) (h' := mk s) 2 rfl ?_
          exact k220_48 x1 x2 (zi 1) s _ _ _ h
        · have h := (if_neg hb).symm.trans h
          refine Ev.run (pc' := 27) (ls' := [some (.ref 24), some (.int x1), some (.long x2), none, none, none]) (st' := [.int (lg_cmp x2 (zl 1114111)), .ref 24]) (h' := mk s) 3 rfl ?_
          refine Ev.ifl_le (t := 34) rfl rfl (fun hb => ?_) (fun hb => ?_)
          · have h := (if_pos hb).symm.trans h
            exact k220_34 x1 x2 s _ _ _ h
          · have h := (if_neg hb).symm.trans h
            refine Ev.run (pc' := 48) (ls' := [some (.ref 24), some (.int x1), some (.long x2), none, none, none]) (st' := [.int (zi 1), .ref 24]) (h' := mk s) 2 rfl ?_
            exact k220_48 x1 x2 (zi 1) s _ _ _ h
/-! 221 FModel.real(JZ)I -/
def f221_50  (y1 : Int32) (y2 : Int64) (s : zS) : Option (Int32 × zS) := zb1 (f219 y1 y2 (zi 0) s) (fun v2 s1 => some (v2, s1))
set_option maxRecDepth 100000 in
theorem k221_50 {X : mX} {D : Nat}   (y1 : Int32) (y2 : Int64) (s : zS) (r : Int32 × zS) (o0 : Option Value) (o1 : Option Value) (o2 : Option Value) (o3 : Option Value)  (h : f221_50  y1 y2 s = some r) : Ev X (D + 1) mm221 50 [o0, o1, o2, o3] [.long y2, .int y1, .ref 24] (mk s) (encI r) := by
  unfold f221_50 at h
  refine Ev.run (pc' := 51) (ls' := [o0, o1, o2, o3]) (st' := [.int (zi 0), .long y2, .int y1, .ref 24]) (h' := mk s) 1 rfl ?_
  obtain ⟨v2, s1, hq, h⟩ := zb1_some h
  refine Ev.call (M' := mm219) (v := some (.int v2)) (h' := mk s1) rfl rfl rfl (Nat.le_of_ble_eq_true rfl) (k219 hq) ?_
  first | (obtain rfl := Option.some.inj h) | (cases h)
  exact Ev.fin rfl rfl
def f221_39  (x1 : Int64) (x3 : Int32) (y1 : Int32) (s : zS) : Option (Int32 × zS) := if x3 = zi 0 then f221_50 y1 x1 s else f221_50 y1 (zI2L (zL2I x1)) s
set_option maxRecDepth 100000 in
theorem k221_39 {X : mX} {D : Nat}   (x1 : Int64) (x3 : Int32) (y1 : Int32) (s : zS) (r : Int32 × zS) (o0 : Option Value)  (h : f221_39  x1 x3 y1 s = some r) : Ev X (D + 1) mm221 39 [o0, some (.long x1), none, some (.int x3)] [.int y1, .ref 24] (mk s) (encI r) := by
  unfold f221_39 at h
  refine Ev.run (pc' := 40) (ls' := [o0, some (.long x1), none, some (.int x3)]) (st' := [.int x3, .int y1, .ref 24]) (h' := mk s) 1 rfl ?_
  refine Ev.if_eq (t := 49) rfl rfl (fun hb => ?_) (fun hb => ?_)
  · have h := (if_pos hb).symm.trans h
    refine Ev.run (pc' := 50) (ls' := [o0, some (.long x1), none, some (.int x3)]) (st' := [.long x1, .int y1, .ref 24]) (h' := mk s) 1 rfl ?_
    exact k221_50 y1 x1 s _ _ _ _ _ h
  · have h := (if_neg hb).symm.trans h
    refine Ev.run (pc' := 50) (ls' := [o0, some (.long x1), none, some (.int x3)]) (st' := [.long (zI2L (zL2I x1)), .int y1, .ref 24]) (h' := mk s) 4 rfl ?_
    exact k221_50 y1 (zI2L (zL2I x1)) s _ _ _ _ _ h
def f221_15  (x1 : Int64) (x3 : Int32) (y1 : Int32) (s : zS) : Option (Int32 × zS) := if y1 ≤ zi 0 then if x3 = zi 0 then f221_39 x1 x3 (zi 7) (setI s 24 9 y1) else f221_39 x1 x3 (zi 8) (setI s 24 9 y1) else some (zi 0, setI s 24 9 y1)
set_option maxRecDepth 100000 in
theorem k221_15 {X : mX} {D : Nat}   (x1 : Int64) (x3 : Int32) (y1 : Int32) (s : zS) (r : Int32 × zS)   (h : f221_15  x1 x3 y1 s = some r) : Ev X (D + 1) mm221 15 [some (.ref 24), some (.long x1), none, some (.int x3)] [.int y1, .ref 24] (mk s) (encI r) := by
  unfold f221_15 at h
  refine Ev.step (pc' := 18) rfl (put_12_9 rfl) ?_
  refine Ev.run (pc' := 22) (ls' := [some (.ref 24), some (.long x1), none, some (.int x3)]) (st' := [.int y1]) (h' := mk (setI s 24 9 y1)) 2 rfl ?_
  refine Ev.if_le (t := 27) rfl rfl (fun hb => ?_) (fun hb => ?_)
  · have h := (if_pos hb).symm.trans h
    refine Ev.run (pc' := 29) (ls' := [some (.ref 24), some (.long x1), none, some (.int x3)]) (st' := [.int x3, .ref 24]) (h' := mk (setI s 24 9 y1)) 2 rfl ?_
    refine Ev.if_eq (t := 37) rfl rfl (fun hb => ?_) (fun hb => ?_)
    · have h := (if_pos hb).symm.trans h
      refine Ev.run (pc' := 39) (ls' := [some (.ref 24), some (.long x1), none, some (.int x3)]) (st' := [.int (zi 7), .ref 24]) (h' := mk (setI s 24 9 y1)) 1 rfl ?_
      exact k221_39 x1 x3 (zi 7) (setI s 24 9 y1) _ _ h
    · have h := (if_neg hb).symm.trans h
      refine Ev.run (pc' := 39) (ls' := [some (.ref 24), some (.long x1), none, some (.int x3)]) (st' := [.int (zi 8), .ref 24]) (h' := mk (setI s 24 9 y1)) 2 rfl ?_
      exact k221_39 x1 x3 (zi 8) (setI s 24 9 y1) _ _ h
  · have h := (if_neg hb).symm.trans h
    refine Ev.run (pc' := 26) (ls' := [some (.ref 24), some (.long x1), none, some (.int x3)]) (st' := [.int (zi 0)]) (h' := mk (setI s 24 9 y1)) 1 rfl ?_
    first | (obtain rfl := Option.some.inj h) | (cases h)
    exact Ev.fin rfl rfl
def f221  (x1 : Int64) (x3 : Int32) (s : zS) : Option (Int32 × zS) := if ¬ (s.1 24 13) = (zi 24) then f221_15 x1 x3 (zi 0) s else f221_15 x1 x3 (zi 1) s
set_option maxRecDepth 100000 in
theorem k221 {X : mX} {D : Nat} {x1 : Int64} {x3 : Int32} {s : zS} {r : Int32 × zS}  (h : f221 x1 x3 s = some r) : Ev X (D + 1) mm221 0 [some (.ref 24), some (.long x1), none, some (.int x3)] [] (mk s) (encI r) := by
  unfold f221 at h
  refine Ev.run (pc' := 7) (ls' := [some (.ref 24), some (.long x1), none, some (.int x3)]) (st' := [.int (zi 24), .int (s.1 24 13), .ref 24]) (h' := mk s) 4 rfl ?_
  refine Ev.icmp_ne (t := 14) rfl rfl (fun hb => ?_) (fun hb => ?_)
  · have h := (if_pos hb).symm.trans h
    refine Ev.run (pc' := 15) (ls' := [some (.ref 24), some (.long x1), none, some (.int x3)]) (st' := [.int (zi 0), .ref 24]) (h' := mk s) 1 rfl ?_
    exact k221_15 x1 x3 (zi 0) s _ h
  · have h := (if_neg hb).symm.trans h
    refine Ev.run (pc' := 15) (ls' := [some (.ref 24), some (.long x1), none, some (.int x3)]) (st' := [.int (zi 1), .ref 24]) (h' := mk s) 2 rfl ?_
    exact k221_15 x1 x3 (zi 1) s _ h
/-! 222 FModel.text()I -/
def f222_29  (y1 : Int32) (s : zS) : Option (Int32 × zS) := if y1 ≤ zi 0 then if mCp (zi 0) ((zi 200) * (s.1 24 13)) (s.1 24 4) 800 4800 then zb1 (f219 (zi 9) (zl 0) (s.1 24 4) (setI (setA (setI s 24 9 y1) 28 (va_cpy (s.1 25) (s.1 28) ((zi 0).toNatClampNeg) (((zi 200) * (s.1 24 13)).toNatClampNeg) ((s.1 24 4).toNatClampNeg))) 24 4 (zi 0))) (fun v2 s1 => some (v2, s1)) else none else some (zi 0, setI s 24 9 y1)
set_option maxRecDepth 100000 in
theorem k222_29 {X : mX} {D : Nat}   (y1 : Int32) (s : zS) (r : Int32 × zS) (o1 : Option Value)  (h : f222_29  y1 s = some r) : Ev X (D + 1) mm222 29 [some (.ref 24), o1] [.int y1, .ref 24] (mk s) (encI r) := by
  unfold f222_29 at h
  refine Ev.step (pc' := 32) rfl (put_12_9 rfl) ?_
  refine Ev.run (pc' := 36) (ls' := [some (.ref 24), o1]) (st' := [.int y1]) (h' := mk (setI s 24 9 y1)) 2 rfl ?_
  refine Ev.if_le (t := 41) rfl rfl (fun hb => ?_) (fun hb => ?_)
  · have h := (if_pos hb).symm.trans h
    refine Ev.run (pc' := 62) (ls' := [some (.ref 24), o1]) (st' := [.int (s.1 24 4), .int ((zi 200) * (s.1 24 13)), .ref 28, .int (zi 0), .ref 25]) (h' := mk (setI s 24 9 y1)) 11 rfl ?_
    obtain ⟨hx, h⟩ := zif h
    refine Ev.step (pc' := 65) rfl (cpy_25_28 rfl rfl hx) ?_
    refine Ev.run (pc' := 72) (ls' := [some (.ref 24), some (.int (s.1 24 4))]) (st' := [.int (zi 0), .ref 24]) (h' := mk (setA (setI s 24 9 y1) 28 (va_cpy (s.1 25) (s.1 28) ((zi 0).toNatClampNeg) (((zi 200) * (s.1 24 13)).toNatClampNeg) ((s.1 24 4).toNatClampNeg)))) 5 rfl ?_
    refine Ev.step (pc' := 75) rfl (put_12_4 rfl) ?_
    refine Ev.run (pc' := 80) (ls' := [some (.ref 24), some (.int (s.1 24 4))]) (st' := [.int (s.1 24 4), .long (zl 0), .int (zi 9), .ref 24]) (h' := mk (setI (setA (setI s 24 9 y1) 28 (va_cpy (s.1 25) (s.1 28) ((zi 0).toNatClampNeg) (((zi 200) * (s.1 24 13)).toNatClampNeg) ((s.1 24 4).toNatClampNeg))) 24 4 (zi 0))) 4 rfl ?_
    obtain ⟨v2, s1, hq, h⟩ := zb1_some h
    refine Ev.call (M' := mm219) (v := some (.int v2)) (h' := mk s1) rfl rfl rfl (Nat.le_of_ble_eq_true rfl) (k219 hq) ?_
    first | (obtain rfl := Option.some.inj h) | (cases h)
    exact Ev.fin rfl rfl
  · have h := (if_neg hb).symm.trans h
    refine Ev.run (pc' := 40) (ls' := [some (.ref 24), o1]) (st' := [.int (zi 0)]) (h' := mk (setI s 24 9 y1)) 1 rfl ?_
    first | (obtain rfl := Option.some.inj h) | (cases h)
    exact Ev.fin rfl rfl
def f222   (s : zS) : Option (Int32 × zS) := if (s.1 24 4) ≤ (zi 200) then if ¬ (s.1 24 13) = (zi 24) then f222_29 (zi 0) s else f222_29 (zi 2) s else f222_29 (zi 1) s
set_option maxRecDepth 100000 in
theorem k222 {X : mX} {D : Nat}  {s : zS} {r : Int32 × zS}  (h : f222  s = some r) : Ev X (D + 1) mm222 0 [some (.ref 24), none] [] (mk s) (encI r) := by
  unfold f222 at h
  refine Ev.run (pc' := 8) (ls' := [some (.ref 24), none]) (st' := [.int (zi 200), .int (s.1 24 4), .ref 24]) (h' := mk s) 4 rfl ?_
  refine Ev.icmp_le (t := 15) rfl rfl (fun hb => ?_) (fun hb => ?_)
  · have h := (if_pos hb).symm.trans h
    refine Ev.run (pc' := 21) (ls' := [some (.ref 24), none]) (st' := [.int (zi 24), .int (s.1 24 13), .ref 24]) (h' := mk s) 3 rfl ?_
    refine Ev.icmp_ne (t := 28) rfl rfl (fun hb => ?_) (fun hb => ?_)
    · have h := (if_pos hb).symm.trans h
      refine Ev.run (pc' := 29) (ls' := [some (.ref 24), none]) (st' := [.int (zi 0), .ref 24]) (h' := mk s) 1 rfl ?_
      exact k222_29 (zi 0) s _ _ h
    · have h := (if_neg hb).symm.trans h
      refine Ev.run (pc' := 29) (ls' := [some (.ref 24), none]) (st' := [.int (zi 2), .ref 24]) (h' := mk s) 2 rfl ?_
      exact k222_29 (zi 2) s _ _ h
  · have h := (if_neg hb).symm.trans h
    refine Ev.run (pc' := 29) (ls' := [some (.ref 24), none]) (st' := [.int (zi 1), .ref 24]) (h' := mk s) 2 rfl ?_
    exact k222_29 (zi 1) s _ _ h
/-! 223 FModel.run()I -/
def f223_135 (rec52 : Int32 → zS → Option (Int32 × zS)) (x1 : Int32) (x2 : Int32) (x3 : Int32) (s : zS) : Option (Int32 × zS) := if ¬ x2 = zi 0 then some (zi 0, setI (setI (setI (setI s 24 6 (zi 0)) 24 7 x2) 24 8 x3) 24 9 (zi 2)) else rec52 x1 s
set_option maxRecDepth 100000 in
theorem k223_135 {X : mX} {D : Nat} {rec52 : Int32 → zS → Option (Int32 × zS)} (hrec52 : ∀ (x1 : Int32) (s : zS) (r : Int32 × zS) (o2 : Option Value) (o3 : Option Value), rec52 x1 s = some r → Ev X (D + 11) mm223 52 [some (.ref 24), some (.int x1), o2, o3] [] (mk s) (encI r)) (x1 : Int32) (x2 : Int32) (x3 : Int32) (s : zS) (r : Int32 × zS)   (h : f223_135 rec52 x1 x2 x3 s = some r) : Ev X (D + 11) mm223 135 [some (.ref 24), some (.int x1), some (.int x2), some (.int x3)] [] (mk s) (encI r) := by
  unfold f223_135 at h
  refine Ev.run (pc' := 136) (ls' := [some (.ref 24), some (.int x1), some (.int x2), some (.int x3)]) (st' := [.int x2]) (h' := mk s) 1 rfl ?_
  refine Ev.if_ne (t := 142) rfl rfl (fun hb => ?_) (fun hb => ?_)
  · have h := (if_pos hb).symm.trans h
    refine Ev.run (pc' := 144) (ls' := [some (.ref 24), some (.int x1), some (.int x2), some (.int x3)]) (st' := [.int (zi 0), .ref 24]) (h' := mk s) 2 rfl ?_
    refine Ev.step (pc' := 147) rfl (put_12_6 rfl) ?_
    refine Ev.run (pc' := 149) (ls' := [some (.ref 24), some (.int x1), some (.int x2), some (.int x3)]) (st' := [.int x2, .ref 24]) (h' := mk (setI s 24 6 (zi 0))) 2 rfl ?_
    refine Ev.step (pc' := 152) rfl (put_12_7 rfl) ?_
    refine Ev.run (pc' := 154) (ls' := [some (.ref 24), some (.int x1), some (.int x2), some (.int x3)]) (st' := [.int x3, .ref 24]) (h' := mk (setI (setI s 24 6 (zi 0)) 24 7 x2)) 2 rfl ?_
    refine Ev.step (pc' := 157) rfl (put_12_8 rfl) ?_
    refine Ev.run (pc' := 159) (ls' := [some (.ref 24), some (.int x1), some (.int x2), some (.int x3)]) (st' := [.int (zi 2), .ref 24]) (h' := mk (setI (setI (setI s 24 6 (zi 0)) 24 7 x2) 24 8 x3)) 2 rfl ?_
    refine Ev.step (pc' := 162) rfl (put_12_9 rfl) ?_
    refine Ev.run (pc' := 163) (ls' := [some (.ref 24), some (.int x1), some (.int x2), some (.int x3)]) (st' := [.int (zi 0)]) (h' := mk (setI (setI (setI (setI s 24 6 (zi 0)) 24 7 x2) 24 8 x3) 24 9 (zi 2))) 1 rfl ?_
    first | (obtain rfl := Option.some.inj h) | (cases h)
    exact Ev.fin rfl rfl
  · have h := (if_neg hb).symm.trans h
    refine Ev.run (pc' := 52) (ls' := [some (.ref 24), some (.int x1), some (.int x2), some (.int x3)]) (st' := []) (h' := mk s) 1 rfl ?_
    exact hrec52 x1 s _ _ _ h
def b223_52 (rec52 : Int32 → zS → Option (Int32 × zS)) (x1 : Int32) (s : zS) : Option (Int32 × zS) := if x1 ≥ (s.1 24 5) then some (s.1 24 6, s) else if mIx x1 400 then if ¬ (s.1 26 x1.toNatClampNeg) = (zi 37) then if ¬ (s.1 24 6) = (zi 6000) then if mIx x1 400 then if mIx (s.1 24 6) 10000 then f223_135 rec52 (x1 + zi 1) (zi 0) x1 (setB (setI s 24 6 ((s.1 24 6) + (zi 1))) 27 ((s.1 24 6).toNatClampNeg) (zI2B (s.1 26 x1.toNatClampNeg))) else none else none else f223_135 rec52 x1 (zi 11) x1 s else zb1 (f199 x1 s) (fun v2 s1 => zb1 (f204 s1) (fun v4 s3 => f223_135 rec52 (s3.1 24 20) v4 x1 s3)) else none
set_option maxRecDepth 100000 in
theorem kb223_52 {X : mX} {D : Nat} {rec52 : Int32 → zS → Option (Int32 × zS)} (hrec52 : ∀ (x1 : Int32) (s : zS) (r : Int32 × zS) (o2 : Option Value) (o3 : Option Value), rec52 x1 s = some r → Ev X (D + 11) mm223 52 [some (.ref 24), some (.int x1), o2, o3] [] (mk s) (encI r)) (x1 : Int32) (s : zS) (r : Int32 × zS) (o2 : Option Value) (o3 : Option Value)  (h : b223_52 rec52 x1 s = some r) : Ev X (D + 11) mm223 52 [some (.ref 24), some (.int x1), o2, o3] [] (mk s) (encI r) := by
  unfold b223_52 at h
  refine Ev.run (pc' := 57) (ls' := [some (.ref 24), some (.int x1), o2, o3]) (st' := [.int (s.1 24 5), .int x1]) (h' := mk s) 3 rfl ?_
  refine Ev.icmp_ge (t := 164) rfl rfl (fun hb => ?_) (fun hb => ?_)
  · have h := (if_pos hb).symm.trans h
    refine Ev.run (pc' := 168) (ls' := [some (.ref 24), some (.int x1), o2, o3]) (st' := [.int (s.1 24 6)]) (h' := mk s) 2 rfl ?_
    first | (obtain rfl := Option.some.inj h) | (cases h)
    exact Ev.fin rfl rfl
  · have h := (if_neg hb).symm.trans h
    refine Ev.run (pc' := 69) (ls' := [some (.ref 24), some (.int x1), some (.int (zi 0)), some (.int x1)]) (st' := [.int x1, .ref 26]) (h' := mk s) 7 rfl ?_
    obtain ⟨hx, h⟩ := zif h
    refine Ev.step (pc' := 70) rfl (ald_b rfl hx) ?_
    refine Ev.run (pc' := 72) (ls' := [some (.ref 24), some (.int x1), some (.int (zi 0)), some (.int x1)]) (st' := [.int (zi 37), .int (s.1 26 x1.toNatClampNeg)]) (h' := mk s) 1 rfl ?_
    refine Ev.icmp_ne (t := 94) rfl rfl (fun hb => ?_) (fun hb => ?_)
    · have h := (if_pos hb).symm.trans h
      refine Ev.run (pc' := 101) (ls' := [some (.ref 24), some (.int x1), some (.int (zi 0)), some (.int x1)]) (st' := [.int (zi 6000), .int (s.1 24 6)]) (h' := mk s) 3 rfl ?_
      refine Ev.icmp_ne (t := 110) rfl rfl (fun hb => ?_) (fun hb => ?_)
      · have h := (if_pos hb).symm.trans h
        refine Ev.run (pc' := 122) (ls' := [some (.ref 24), some (.int x1), some (.int (zi 0)), some (.int x1)]) (st' := [.int ((s.1 24 6) + (zi 1)), .ref 24, .int (s.1 24 6), .ref 27]) (h' := mk s) 8 rfl ?_
        refine Ev.step (pc' := 125) rfl (put_12_6 rfl) ?_
        refine Ev.run (pc' := 130) (ls' := [some (.ref 24), some (.int x1), some (.int (zi 0)), some (.int x1)]) (st' := [.int x1, .ref 26, .int (s.1 24 6), .ref 27]) (h' := mk (setI s 24 6 ((s.1 24 6) + (zi 1)))) 3 rfl ?_
        obtain ⟨hx, h⟩ := zif h
        refine Ev.step (pc' := 131) rfl (ald_b rfl hx) ?_
        obtain ⟨hx, h⟩ := zif h
        refine Ev.step (pc' := 132) rfl (ast_27 hx) ?_
        refine Ev.run (pc' := 135) (ls' := [some (.ref 24), some (.int (x1 + zi 1)), some (.int (zi 0)), some (.int x1)]) (st' := []) (h' := mk (setB (setI s 24 6 ((s.1 24 6) + (zi 1))) 27 ((s.1 24 6).toNatClampNeg) (zI2B (s.1 26 x1.toNatClampNeg)))) 1 rfl ?_
        exact k223_135 hrec52 (x1 + zi 1) (zi 0) x1 (setB (setI s 24 6 ((s.1 24 6) + (zi 1))) 27 ((s.1 24 6).toNatClampNeg) (zI2B (s.1 26 x1.toNatClampNeg))) _ h
      · have h := (if_neg hb).symm.trans h
        refine Ev.run (pc' := 135) (ls' := [some (.ref 24), some (.int x1), some (.int (zi 11)), some (.int x1)]) (st' := []) (h' := mk s) 3 rfl ?_
        exact k223_135 hrec52 x1 (zi 11) x1 s _ h
    · have h := (if_neg hb).symm.trans h
      refine Ev.run (pc' := 77) (ls' := [some (.ref 24), some (.int x1), some (.int (zi 0)), some (.int x1)]) (st' := [.int x1, .ref 24]) (h' := mk s) 2 rfl ?_
      obtain ⟨v2, s1, hq, h⟩ := zb1_some h
      refine Ev.call (M' := mm199) (v := some (.int v2)) (h' := mk s1) rfl rfl rfl (Nat.le_of_ble_eq_true rfl) (k199 hq) ?_
      refine Ev.run (pc' := 82) (ls' := [some (.ref 24), some (.int x1), some (.int (zi 0)), some (.int x1)]) (st' := [.ref 24]) (h' := mk s1) 2 rfl ?_
      obtain ⟨v4, s3, hq, h⟩ := zb1_some h
      refine Ev.call (M' := mm204) (v := some (.int v4)) (h' := mk s3) rfl rfl rfl (Nat.le_of_ble_eq_true rfl) (k204 hq) ?_
      refine Ev.run (pc' := 135) (ls' := [some (.ref 24), some (.int (s3.1 24 20)), some (.int v4), some (.int x1)]) (st' := []) (h' := mk s3) 5 rfl ?_
      exact k223_135 hrec52 (s3.1 24 20) v4 x1 s3 _ h
def f223_52  : Nat → Int32 → zS → Option (Int32 × zS)
  | 0, _, _ => none
  | n + 1, x1, s => b223_52 (f223_52 n) x1 s
set_option maxRecDepth 100000 in
theorem k223_52 {X : mX} {D : Nat}   (n : Nat) : ∀ (x1 : Int32) (s : zS) (r : Int32 × zS) (o2 : Option Value) (o3 : Option Value), f223_52  n x1 s = some r → Ev X (D + 11) mm223 52 [some (.ref 24), some (.int x1), o2, o3] [] (mk s) (encI r) := by
  induction n with
  | zero => intro x1 s r o2 o3  h; cases h
  | succ n ih => intro x1 s r o2 o3  h; exact kb223_52  ih x1 s r o2 o3  h
def f223_13  (y1 : Int32) (s : zS) : Option (Int32 × zS) := if y1 ≤ zi 0 then f223_52 zF (zi 0) (setI (setI (setI (setI (setI (setI s 24 9 y1) 24 6 (zi 0)) 24 7 (zi 0)) 24 8 (zi (-1))) 24 36 (zi 0)) 24 37 (zi (-1))) else some (zi 0, setI s 24 9 y1)
set_option maxRecDepth 100000 in
theorem k223_13 {X : mX} {D : Nat}   (y1 : Int32) (s : zS) (r : Int32 × zS) (o1 : Option Value) (o2 : Option Value) (o3 : Option Value)  (h : f223_13  y1 s = some r) : Ev X (D + 11) mm223 13 [some (.ref 24), o1, o2, o3] [.int y1, .ref 24] (mk s) (encI r) := by
  unfold f223_13 at h
  refine Ev.step (pc' := 16) rfl (put_12_9 rfl) ?_
  refine Ev.run (pc' := 20) (ls' := [some (.ref 24), o1, o2, o3]) (st' := [.int y1]) (h' := mk (setI s 24 9 y1)) 2 rfl ?_
  refine Ev.if_le (t := 25) rfl rfl (fun hb => ?_) (fun hb => ?_)
  · have h := (if_pos hb).symm.trans h
    refine Ev.run (pc' := 27) (ls' := [some (.ref 24), o1, o2, o3]) (st' := [.int (zi 0), .ref 24]) (h' := mk (setI s 24 9 y1)) 2 rfl ?_
    refine Ev.step (pc' := 30) rfl (put_12_6 rfl) ?_
    refine Ev.run (pc' := 32) (ls' := [some (.ref 24), o1, o2, o3]) (st' := [.int (zi 0), .ref 24]) (h' := mk (setI (setI s 24 9 y1) 24 6 (zi 0))) 2 rfl ?_
    refine Ev.step (pc' := 35) rfl (put_12_7 rfl) ?_
    refine Ev.run (pc' := 37) (ls' := [some (.ref 24), o1, o2, o3]) (st' := [.int (zi (-1)), .ref 24]) (h' := mk (setI (setI (setI s 24 9 y1) 24 6 (zi 0)) 24 7 (zi 0))) 2 rfl ?_
    refine Ev.step (pc' := 40) rfl (put_12_8 rfl) ?_
    refine Ev.run (pc' := 42) (ls' := [some (.ref 24), o1, o2, o3]) (st' := [.int (zi 0), .ref 24]) (h' := mk (setI (setI (setI (setI s 24 9 y1) 24 6 (zi 0)) 24 7 (zi 0)) 24 8 (zi (-1)))) 2 rfl ?_
    refine Ev.step (pc' := 45) rfl (put_12_36 rfl) ?_
    refine Ev.run (pc' := 47) (ls' := [some (.ref 24), o1, o2, o3]) (st' := [.int (zi (-1)), .ref 24]) (h' := mk (setI (setI (setI (setI (setI s 24 9 y1) 24 6 (zi 0)) 24 7 (zi 0)) 24 8 (zi (-1))) 24 36 (zi 0))) 2 rfl ?_
    refine Ev.step (pc' := 50) rfl (put_12_37 rfl) ?_
    refine Ev.run (pc' := 52) (ls' := [some (.ref 24), some (.int (zi 0)), o2, o3]) (st' := []) (h' := mk (setI (setI (setI (setI (setI (setI s 24 9 y1) 24 6 (zi 0)) 24 7 (zi 0)) 24 8 (zi (-1))) 24 36 (zi 0)) 24 37 (zi (-1)))) 2 rfl ?_
    exact k223_52 zF (zi 0) (setI (setI (setI (setI (setI (setI s 24 9 y1) 24 6 (zi 0)) 24 7 (zi 0)) 24 8 (zi (-1))) 24 36 (zi 0)) 24 37 (zi (-1))) _ _ _ h
  · have h := (if_neg hb).symm.trans h
    refine Ev.run (pc' := 24) (ls' := [some (.ref 24), o1, o2, o3]) (st' := [.int (zi 0)]) (h' := mk (setI s 24 9 y1)) 1 rfl ?_
    first | (obtain rfl := Option.some.inj h) | (cases h)
    exact Ev.fin rfl rfl
def f223   (s : zS) : Option (Int32 × zS) := if (s.1 24 5) ≥ zi 0 then f223_13 (zi 0) s else f223_13 (zi 1) s
set_option maxRecDepth 100000 in
theorem k223 {X : mX} {D : Nat}  {s : zS} {r : Int32 × zS}  (h : f223  s = some r) : Ev X (D + 11) mm223 0 [some (.ref 24), none, none, none] [] (mk s) (encI r) := by
  unfold f223 at h
  refine Ev.run (pc' := 5) (ls' := [some (.ref 24), none, none, none]) (st' := [.int (s.1 24 5), .ref 24]) (h' := mk s) 3 rfl ?_
  refine Ev.if_ge (t := 12) rfl rfl (fun hb => ?_) (fun hb => ?_)
  · have h := (if_pos hb).symm.trans h
    refine Ev.run (pc' := 13) (ls' := [some (.ref 24), none, none, none]) (st' := [.int (zi 0), .ref 24]) (h' := mk s) 1 rfl ?_
    exact k223_13 (zi 0) s _ _ _ _ h
  · have h := (if_neg hb).symm.trans h
    refine Ev.run (pc' := 13) (ls' := [some (.ref 24), none, none, none]) (st' := [.int (zi 1), .ref 24]) (h' := mk s) 2 rfl ?_
    exact k223_13 (zi 1) s _ _ _ _ h
/-! 224 FModel.kind()I -/
def f224   (s : zS) : Option (Int32 × zS) := some (s.1 24 7, setI s 24 9 (zi 0))
set_option maxRecDepth 100000 in
theorem k224 {X : mX} {D : Nat}  {s : zS} {r : Int32 × zS}  (h : f224  s = some r) : Ev X D mm224 0 [some (.ref 24)] [] (mk s) (encI r) := by
  unfold f224 at h
  refine Ev.run (pc' := 2) (ls' := [some (.ref 24)]) (st' := [.int (zi 0), .ref 24]) (h' := mk s) 2 rfl ?_
  refine Ev.step (pc' := 5) rfl (put_12_9 rfl) ?_
  refine Ev.run (pc' := 9) (ls' := [some (.ref 24)]) (st' := [.int (s.1 24 7)]) (h' := mk (setI s 24 9 (zi 0))) 2 rfl ?_
  first | (obtain rfl := Option.some.inj h) | (cases h)
  exact Ev.fin rfl rfl
/-! 225 FModel.place()I -/
def f225   (s : zS) : Option (Int32 × zS) := some (s.1 24 8, setI s 24 9 (zi 0))
set_option maxRecDepth 100000 in
theorem k225 {X : mX} {D : Nat}  {s : zS} {r : Int32 × zS}  (h : f225  s = some r) : Ev X D mm225 0 [some (.ref 24)] [] (mk s) (encI r) := by
  unfold f225 at h
  refine Ev.run (pc' := 2) (ls' := [some (.ref 24)]) (st' := [.int (zi 0), .ref 24]) (h' := mk s) 2 rfl ?_
  refine Ev.step (pc' := 5) rfl (put_12_9 rfl) ?_
  refine Ev.run (pc' := 9) (ls' := [some (.ref 24)]) (st' := [.int (s.1 24 8)]) (h' := mk (setI s 24 9 (zi 0))) 2 rfl ?_
  first | (obtain rfl := Option.some.inj h) | (cases h)
  exact Ev.fin rfl rfl
/-! 226 FModel.output(I)J -/
def b226_34 (rec34 : Int32 → Int64 → Int32 → zS → Option (Int64 × zS)) (x1 : Int32) (x2 : Int64) (x4 : Int32) (s : zS) : Option (Int64 × zS) := if x4 ≥ (x1 + (zi 8)) then some (x2, s) else if x4 ≥ (s.1 24 6) then rec34 x1 ((zshlL x2 (zi 8)) ||| (zI2L (zi 0))) (x4 + zi 1) s else if mIx x4 10000 then rec34 x1 ((zshlL x2 (zi 8)) ||| (zI2L ((s.1 27 x4.toNatClampNeg) &&& (zi 255)))) (x4 + zi 1) s else none
set_option maxRecDepth 100000 in
theorem kb226_34 {X : mX} {D : Nat} {rec34 : Int32 → Int64 → Int32 → zS → Option (Int64 × zS)} (hrec34 : ∀ (x1 : Int32) (x2 : Int64) (x4 : Int32) (s : zS) (r : Int64 × zS) , rec34 x1 x2 x4 s = some r → Ev X D mm226 34 [some (.ref 24), some (.int x1), some (.long x2), none, some (.int x4)] [] (mk s) (encL r)) (x1 : Int32) (x2 : Int64) (x4 : Int32) (s : zS) (r : Int64 × zS)   (h : b226_34 rec34 x1 x2 x4 s = some r) : Ev X D mm226 34 [some (.ref 24), some (.int x1), some (.long x2), none, some (.int x4)] [] (mk s) (encL r) := by
  unfold b226_34 at h
  refine Ev.run (pc' := 40) (ls' := [some (.ref 24), some (.int x1), some (.long x2), none, some (.int x4)]) (st' := [.int (x1 + (zi 8)), .int x4]) (h' := mk s) 4 rfl ?_
  refine Ev.icmp_ge (t := 80) rfl rfl (fun hb => ?_) (fun hb => ?_)
  · have h := (if_pos hb).symm.trans h
    refine Ev.run (pc' := 81) (ls' := [some (.ref 24), some (.int x1), some (.long x2), none, some (.int x4)]) (st' := [.long x2]) (h' := mk s) 1 rfl ?_
    first | (obtain rfl := Option.some.inj h) | (cases h)
    exact Ev.fin rfl rfl
  · have h := (if_neg hb).symm.trans h
    refine Ev.run (pc' := 53) (ls' := [some (.ref 24), some (.int x1), some (.long x2), none, some (.int x4)]) (st' := [.int (s.1 24 6), .int x4, .long (zshlL x2 (zi 8))]) (h' := mk s) 6 rfl ?_
    refine Ev.icmp_ge (t := 70) rfl rfl (fun hb => ?_) (fun hb => ?_)
    · have h := (if_pos hb).symm.trans h
      refine Ev.run (pc' := 34) (ls' := [some (.ref 24), some (.int x1), some (.long ((zshlL x2 (zi 8)) ||| (zI2L (zi 0)))), none, some (.int (x4 + zi 1))]) (st' := []) (h' := mk s) 6 rfl ?_
      exact hrec34 x1 ((zshlL x2 (zi 8)) ||| (zI2L (zi 0))) (x4 + zi 1) s _ h
    · have h := (if_neg hb).symm.trans h
      refine Ev.run (pc' := 62) (ls' := [some (.ref 24), some (.int x1), some (.long x2), none, some (.int x4)]) (st' := [.int x4, .ref 27, .long (zshlL x2 (zi 8))]) (h' := mk s) 3 rfl ?_
      obtain ⟨hx, h⟩ := zif h
      refine Ev.step (pc' := 63) rfl (ald_b rfl hx) ?_
      refine Ev.run (pc' := 34) (ls' := [some (.ref 24), some (.int x1), some (.long ((zshlL x2 (zi 8)) ||| (zI2L ((s.1 27 x4.toNatClampNeg) &&& (zi 255))))), none, some (.int (x4 + zi 1))]) (st' := []) (h' := mk s) 8 rfl ?_
      exact hrec34 x1 ((zshlL x2 (zi 8)) ||| (zI2L ((s.1 27 x4.toNatClampNeg) &&& (zi 255)))) (x4 + zi 1) s _ h
def f226_34  : Nat → Int32 → Int64 → Int32 → zS → Option (Int64 × zS)
  | 0, _, _, _, _ => none
  | n + 1, x1, x2, x4, s => b226_34 (f226_34 n) x1 x2 x4 s
set_option maxRecDepth 100000 in
theorem k226_34 {X : mX} {D : Nat}   (n : Nat) : ∀ (x1 : Int32) (x2 : Int64) (x4 : Int32) (s : zS) (r : Int64 × zS) , f226_34  n x1 x2 x4 s = some r → Ev X D mm226 34 [some (.ref 24), some (.int x1), some (.long x2), none, some (.int x4)] [] (mk s) (encL r) := by
  induction n with
  | zero => intro x1 x2 x4 s r   h; cases h
  | succ n ih => intro x1 x2 x4 s r   h; exact kb226_34  ih x1 x2 x4 s r   h
def f226_17  (x1 : Int32) (y1 : Int32) (s : zS) : Option (Int64 × zS) := if y1 ≤ zi 0 then f226_34 zF x1 (zl 0) x1 (setI s 24 9 y1) else some (zl 0, setI s 24 9 y1)
set_option maxRecDepth 100000 in
theorem k226_17 {X : mX} {D : Nat}   (x1 : Int32) (y1 : Int32) (s : zS) (r : Int64 × zS) (o2 : Option Value) (o3 : Option Value) (o4 : Option Value)  (h : f226_17  x1 y1 s = some r) : Ev X D mm226 17 [some (.ref 24), some (.int x1), o2, o3, o4] [.int y1, .ref 24] (mk s) (encL r) := by
  unfold f226_17 at h
  refine Ev.step (pc' := 20) rfl (put_12_9 rfl) ?_
  refine Ev.run (pc' := 24) (ls' := [some (.ref 24), some (.int x1), o2, o3, o4]) (st' := [.int y1]) (h' := mk (setI s 24 9 y1)) 2 rfl ?_
  refine Ev.if_le (t := 29) rfl rfl (fun hb => ?_) (fun hb => ?_)
  · have h := (if_pos hb).symm.trans h
    refine Ev.run (pc' := 34) (ls' := [some (.ref 24), some (.int x1), some (.long (zl 0)), none, some (.int x1)]) (st' := []) (h' := mk (setI s 24 9 y1)) 4 rfl ?_
    exact k226_34 zF x1 (zl 0) x1 (setI s 24 9 y1) _ h
  · have h := (if_neg hb).symm.trans h
    refine Ev.run (pc' := 28) (ls' := [some (.ref 24), some (.int x1), o2, o3, o4]) (st' := [.long (zl 0)]) (h' := mk (setI s 24 9 y1)) 1 rfl ?_
    first | (obtain rfl := Option.some.inj h) | (cases h)
    exact Ev.fin rfl rfl
def f226  (x1 : Int32) (s : zS) : Option (Int64 × zS) := if x1 < zi 0 then f226_17 x1 (zi 1) s else if x1 ≤ (zi 6000) then f226_17 x1 (zi 0) s else f226_17 x1 (zi 1) s
set_option maxRecDepth 100000 in
theorem k226 {X : mX} {D : Nat} {x1 : Int32} {s : zS} {r : Int64 × zS}  (h : f226 x1 s = some r) : Ev X D mm226 0 [some (.ref 24), some (.int x1), none, none, none] [] (mk s) (encL r) := by
  unfold f226 at h
  refine Ev.run (pc' := 2) (ls' := [some (.ref 24), some (.int x1), none, none, none]) (st' := [.int x1, .ref 24]) (h' := mk s) 2 rfl ?_
  refine Ev.if_lt (t := 12) rfl rfl (fun hb => ?_) (fun hb => ?_)
  · have h := (if_pos hb).symm.trans h
    refine Ev.run (pc' := 17) (ls' := [some (.ref 24), some (.int x1), none, none, none]) (st' := [.int (zi 1), .ref 24]) (h' := mk s) 2 rfl ?_
    exact k226_17 x1 (zi 1) s _ _ _ _ h
  · have h := (if_neg hb).symm.trans h
    refine Ev.run (pc' := 9) (ls' := [some (.ref 24), some (.int x1), none, none, none]) (st' := [.int (zi 6000), .int x1, .ref 24]) (h' := mk s) 2 rfl ?_
    refine Ev.icmp_le (t := 16) rfl rfl (fun hb => ?_) (fun hb => ?_)
    · have h := (if_pos hb).symm.trans h
      refine Ev.run (pc' := 17) (ls' := [some (.ref 24), some (.int x1), none, none, none]) (st' := [.int (zi 0), .ref 24]) (h' := mk s) 1 rfl ?_
      exact k226_17 x1 (zi 0) s _ _ _ _ h
    · have h := (if_neg hb).symm.trans h
      refine Ev.run (pc' := 17) (ls' := [some (.ref 24), some (.int x1), none, none, none]) (st' := [.int (zi 1), .ref 24]) (h' := mk s) 2 rfl ?_
      exact k226_17 x1 (zi 1) s _ _ _ _ h
/-! 227 FModel.digest()J -/
def b227_11 (rec11 : Int64 → Int32 → zS → Option (Int64 × zS)) (x1 : Int64) (x3 : Int32) (s : zS) : Option (Int64 × zS) := if x3 ≥ (s.1 24 6) then some (x1, s) else if mIx x3 10000 then rec11 (((zl 31) * x1) + (zI2L ((s.1 27 x3.toNatClampNeg) &&& (zi 255)))) (x3 + zi 1) s else none
set_option maxRecDepth 100000 in
theorem kb227_11 {X : mX} {D : Nat} {rec11 : Int64 → Int32 → zS → Option (Int64 × zS)} (hrec11 : ∀ (x1 : Int64) (x3 : Int32) (s : zS) (r : Int64 × zS) , rec11 x1 x3 s = some r → Ev X D mm227 11 [some (.ref 24), some (.long x1), none, some (.int x3)] [] (mk s) (encL r)) (x1 : Int64) (x3 : Int32) (s : zS) (r : Int64 × zS)   (h : b227_11 rec11 x1 x3 s = some r) : Ev X D mm227 11 [some (.ref 24), some (.long x1), none, some (.int x3)] [] (mk s) (encL r) := by
  unfold b227_11 at h
  refine Ev.run (pc' := 16) (ls' := [some (.ref 24), some (.long x1), none, some (.int x3)]) (st' := [.int (s.1 24 6), .int x3]) (h' := mk s) 3 rfl ?_
  refine Ev.icmp_ge (t := 43) rfl rfl (fun hb => ?_) (fun hb => ?_)
  · have h := (if_pos hb).symm.trans h
    refine Ev.run (pc' := 44) (ls' := [some (.ref 24), some (.long x1), none, some (.int x3)]) (st' := [.long x1]) (h' := mk s) 1 rfl ?_
    first | (obtain rfl := Option.some.inj h) | (cases h)
    exact Ev.fin rfl rfl
  · have h := (if_neg hb).symm.trans h
    refine Ev.run (pc' := 29) (ls' := [some (.ref 24), some (.long x1), none, some (.int x3)]) (st' := [.int x3, .ref 27, .long ((zl 31) * x1)]) (h' := mk s) 6 rfl ?_
    obtain ⟨hx, h⟩ := zif h
    refine Ev.step (pc' := 30) rfl (ald_b rfl hx) ?_
    refine Ev.run (pc' := 11) (ls' := [some (.ref 24), some (.long (((zl 31) * x1) + (zI2L ((s.1 27 x3.toNatClampNeg) &&& (zi 255))))), none, some (.int (x3 + zi 1))]) (st' := []) (h' := mk s) 7 rfl ?_
    exact hrec11 (((zl 31) * x1) + (zI2L ((s.1 27 x3.toNatClampNeg) &&& (zi 255)))) (x3 + zi 1) s _ h
def f227_11  : Nat → Int64 → Int32 → zS → Option (Int64 × zS)
  | 0, _, _, _ => none
  | n + 1, x1, x3, s => b227_11 (f227_11 n) x1 x3 s
set_option maxRecDepth 100000 in
theorem k227_11 {X : mX} {D : Nat}   (n : Nat) : ∀ (x1 : Int64) (x3 : Int32) (s : zS) (r : Int64 × zS) , f227_11  n x1 x3 s = some r → Ev X D mm227 11 [some (.ref 24), some (.long x1), none, some (.int x3)] [] (mk s) (encL r) := by
  induction n with
  | zero => intro x1 x3 s r   h; cases h
  | succ n ih => intro x1 x3 s r   h; exact kb227_11  ih x1 x3 s r   h
def f227   (s : zS) : Option (Int64 × zS) := f227_11 zF (zl 7) (zi 0) (setI s 24 9 (zi 0))
set_option maxRecDepth 100000 in
theorem k227 {X : mX} {D : Nat}  {s : zS} {r : Int64 × zS}  (h : f227  s = some r) : Ev X D mm227 0 [some (.ref 24), none, none, none] [] (mk s) (encL r) := by
  unfold f227 at h
  refine Ev.run (pc' := 2) (ls' := [some (.ref 24), none, none, none]) (st' := [.int (zi 0), .ref 24]) (h' := mk s) 2 rfl ?_
  refine Ev.step (pc' := 5) rfl (put_12_9 rfl) ?_
  refine Ev.run (pc' := 11) (ls' := [some (.ref 24), some (.long (zl 7)), none, some (.int (zi 0))]) (st' := []) (h' := mk (setI s 24 9 (zi 0))) 4 rfl ?_
  exact k227_11 zF (zl 7) (zi 0) (setI s 24 9 (zi 0)) _ h
/-! 228 FModel.read(Z)J -/
def f228_24  (x1 : Int32) (x2 : Int64) (y1 : Int32) (s : zS) : Option (Int64 × zS) := if (s.1 24 40) = zi 0 then some (zl 0, setI s 24 9 y1) else if x1 = zi 0 then some (x2, setI s 24 9 y1) else some (zI2L (zL2I x2), setI s 24 9 y1)
set_option maxRecDepth 100000 in
theorem k228_24 {X : mX} {D : Nat}   (x1 : Int32) (x2 : Int64) (y1 : Int32) (s : zS) (r : Int64 × zS)   (h : f228_24  x1 x2 y1 s = some r) : Ev X (D + 7) mm228 24 [some (.ref 24), some (.int x1), some (.long x2), none] [.int y1, .ref 24] (mk s) (encL r) := by
  unfold f228_24 at h
  refine Ev.step (pc' := 27) rfl (put_12_9 rfl) ?_
  refine Ev.run (pc' := 31) (ls' := [some (.ref 24), some (.int x1), some (.long x2), none]) (st' := [.int (s.1 24 40)]) (h' := mk (setI s 24 9 y1)) 2 rfl ?_
  refine Ev.if_eq (t := 48) rfl rfl (fun hb => ?_) (fun hb => ?_)
  · have h := (if_pos hb).symm.trans h
    refine Ev.run (pc' := 49) (ls' := [some (.ref 24), some (.int x1), some (.long x2), none]) (st' := [.long (zl 0)]) (h' := mk (setI s 24 9 y1)) 1 rfl ?_
    first | (obtain rfl := Option.some.inj h) | (cases h)
    exact Ev.fin rfl rfl
  · have h := (if_neg hb).symm.trans h
    refine Ev.run (pc' := 35) (ls' := [some (.ref 24), some (.int x1), some (.long x2), none]) (st' := [.int x1]) (h' := mk (setI s 24 9 y1)) 1 rfl ?_
    refine Ev.if_eq (t := 44) rfl rfl (fun hb => ?_) (fun hb => ?_)
    · have h := (if_pos hb).symm.trans h
      refine Ev.run (pc' := 49) (ls' := [some (.ref 24), some (.int x1), some (.long x2), none]) (st' := [.long x2]) (h' := mk (setI s 24 9 y1)) 2 rfl ?_
      first | (obtain rfl := Option.some.inj h) | (cases h)
      exact Ev.fin rfl rfl
    · have h := (if_neg hb).symm.trans h
      refine Ev.run (pc' := 49) (ls' := [some (.ref 24), some (.int x1), some (.long x2), none]) (st' := [.long (zI2L (zL2I x2))]) (h' := mk (setI s 24 9 y1)) 4 rfl ?_
      first | (obtain rfl := Option.some.inj h) | (cases h)
      exact Ev.fin rfl rfl
def f228  (x1 : Int32) (s : zS) : Option (Int64 × zS) := zb1 (f208 x1 s) (fun v2 s1 => if (s1.1 24 40) = zi 0 then f228_24 x1 v2 (zi 1) (setI s1 24 4 (zi 0)) else f228_24 x1 v2 (zi 0) (setI s1 24 4 (zi 0)))
set_option maxRecDepth 100000 in
theorem k228 {X : mX} {D : Nat} {x1 : Int32} {s : zS} {r : Int64 × zS}  (h : f228 x1 s = some r) : Ev X (D + 7) mm228 0 [some (.ref 24), some (.int x1), none, none] [] (mk s) (encL r) := by
  unfold f228 at h
  refine Ev.run (pc' := 2) (ls' := [some (.ref 24), some (.int x1), none, none]) (st' := [.int x1, .ref 24]) (h' := mk s) 2 rfl ?_
  obtain ⟨v2, s1, hq, h⟩ := zb1_some h
  refine Ev.call (M' := mm208) (v := some (.long v2)) (h' := mk s1) rfl rfl rfl (Nat.le_of_ble_eq_true rfl) (k208 hq) ?_
  refine Ev.run (pc' := 8) (ls' := [some (.ref 24), some (.int x1), some (.long v2), none]) (st' := [.int (zi 0), .ref 24]) (h' := mk s1) 3 rfl ?_
  refine Ev.step (pc' := 11) rfl (put_12_4 rfl) ?_
  refine Ev.run (pc' := 16) (ls' := [some (.ref 24), some (.int x1), some (.long v2), none]) (st' := [.int (s1.1 24 40), .ref 24]) (h' := mk (setI s1 24 4 (zi 0))) 3 rfl ?_
  refine Ev.if_eq (t := 23) rfl rfl (fun hb => ?_) (fun hb => ?_)
  · have h := (if_pos hb).symm.trans h
    refine Ev.run (pc' := 24) (ls' := [some (.ref 24), some (.int x1), some (.long v2), none]) (st' := [.int (zi 1), .ref 24]) (h' := mk (setI s1 24 4 (zi 0))) 1 rfl ?_
    exact k228_24 x1 v2 (zi 1) (setI s1 24 4 (zi 0)) _ h
  · have h := (if_neg hb).symm.trans h
    refine Ev.run (pc' := 24) (ls' := [some (.ref 24), some (.int x1), some (.long v2), none]) (st' := [.int (zi 0), .ref 24]) (h' := mk (setI s1 24 4 (zi 0))) 2 rfl ?_
    exact k228_24 x1 v2 (zi 0) (setI s1 24 4 (zi 0)) _ h
/-! 248 FLaw.row(LFormatPress;JIZ[J)I -/
def f248  (x1 : Int64) (x3 : Int32) (x4 : Int32) (s : zS) : Option (Int32 × zS) := zbT (f1 x1 x3 x4 s) (fun v2 s1 => if mIx (zi 0) 1 then some (zi 0, setK s1 41 ((zi 0).toNatClampNeg) (zI2L v2)) else none) (fun e3 s4 => if e3 = 0 then some (zi 1, s4) else none)
set_option maxRecDepth 100000 in
theorem k248 {X : mX} {D : Nat} {x1 : Int64} {x3 : Int32} {x4 : Int32} {s : zS} {r : Int32 × zS}  (h : f248 x1 x3 x4 s = some r) : Ev X (D + 2) mm248 0 [some (.ref 0), some (.long x1), none, some (.int x3), some (.int x4), some (.ref 41), none] [] (mk s) (encI r) := by
  unfold f248 at h
  refine Ev.run (pc' := 8) (ls' := [some (.ref 0), some (.long x1), none, some (.int x3), some (.int x4), some (.ref 41), none]) (st' := [.int x4, .int x3, .long x1, .ref 0, .int (zi 0), .ref 41]) (h' := mk s) 6 rfl ?_
  rcases zbT_some h with ⟨v2, s1, hq, h⟩ | ⟨e3, s4, hq, h⟩
  · refine Ev.call (M' := mm1) (v := some (.int v2)) (h' := mk s1) rfl rfl rfl (Nat.le_of_ble_eq_true rfl) (k1 hq) ?_
    refine Ev.run (pc' := 12) (ls' := [some (.ref 0), some (.long x1), none, some (.int x3), some (.int x4), some (.ref 41), none]) (st' := [.long (zI2L v2), .int (zi 0), .ref 41]) (h' := mk s1) 1 rfl ?_
    obtain ⟨hx, h⟩ := zif h
    refine Ev.step (pc' := 13) rfl (ast_41 hx) ?_
    refine Ev.run (pc' := 21) (ls' := [some (.ref 0), some (.long x1), none, some (.int x3), some (.int x4), some (.ref 41), none]) (st' := [.int (zi 0)]) (h' := mk (setK s1 41 ((zi 0).toNatClampNeg) (zI2L v2))) 2 rfl ?_
    first | (obtain rfl := Option.some.inj h) | (cases h)
    exact Ev.fin rfl rfl
  · by_cases hb : e3 = 0
    · subst hb
      have h := (if_pos rfl).symm.trans h
      refine Ev.callT (M' := mm1) (h' := mk s4) (x := 0) (t := 18) (j := 6) rfl rfl rfl (Nat.le_of_ble_eq_true rfl) (k1 hq) rfl (Nat.le_of_ble_eq_true rfl) ?_
      refine Ev.run (pc' := 19) (ls' := [some (.ref 0), some (.long x1), none, some (.int x3), some (.int x4), some (.ref 41), none]) (st' := [.int (zi 1)]) (h' := mk s4) 1 rfl ?_
      first | (obtain rfl := Option.some.inj h) | (cases h)
      exact Ev.fin rfl rfl
    have h := (if_neg hb).symm.trans h
    first | (obtain rfl := Option.some.inj h) | (cases h)
/-! 249 FLaw.format(LFormatPress;[J)I -/
def f249   (s : zS) : Option (Int32 × zS) := zbT (f2 s) (fun v2 s1 => if mIx (zi 0) 1 then some (zi 0, setK s1 41 ((zi 0).toNatClampNeg) (zI2L v2)) else none) (fun e3 s4 => if e3 = 0 then some (zi 1, s4) else if e3 = 1 then some (zi 2, s4) else none)
set_option maxRecDepth 100000 in
theorem k249 {X : mX} {D : Nat}  {s : zS} {r : Int32 × zS}  (h : f249  s = some r) : Ev X (D + 8) mm249 0 [some (.ref 0), some (.ref 41), none] [] (mk s) (encI r) := by
  unfold f249 at h
  refine Ev.run (pc' := 3) (ls' := [some (.ref 0), some (.ref 41), none]) (st' := [.ref 0, .int (zi 0), .ref 41]) (h' := mk s) 3 rfl ?_
  rcases zbT_some h with ⟨v2, s1, hq, h⟩ | ⟨e3, s4, hq, h⟩
  · refine Ev.call (M' := mm2) (v := some (.int v2)) (h' := mk s1) rfl rfl rfl (Nat.le_of_ble_eq_true rfl) (k2 hq) ?_
    refine Ev.run (pc' := 7) (ls' := [some (.ref 0), some (.ref 41), none]) (st' := [.long (zI2L v2), .int (zi 0), .ref 41]) (h' := mk s1) 1 rfl ?_
    obtain ⟨hx, h⟩ := zif h
    refine Ev.step (pc' := 8) rfl (ast_41 hx) ?_
    refine Ev.run (pc' := 18) (ls' := [some (.ref 0), some (.ref 41), none]) (st' := [.int (zi 0)]) (h' := mk (setK s1 41 ((zi 0).toNatClampNeg) (zI2L v2))) 2 rfl ?_
    first | (obtain rfl := Option.some.inj h) | (cases h)
    exact Ev.fin rfl rfl
  · by_cases hb : e3 = 0
    · subst hb
      have h := (if_pos rfl).symm.trans h
      refine Ev.callT (M' := mm2) (h' := mk s4) (x := 0) (t := 12) (j := 2) rfl rfl rfl (Nat.le_of_ble_eq_true rfl) (k2 hq) rfl (Nat.le_of_ble_eq_true rfl) ?_
      refine Ev.run (pc' := 13) (ls' := [some (.ref 0), some (.ref 41), none]) (st' := [.int (zi 1)]) (h' := mk s4) 1 rfl ?_
      first | (obtain rfl := Option.some.inj h) | (cases h)
      exact Ev.fin rfl rfl
    have h := (if_neg hb).symm.trans h
    by_cases hb : e3 = 1
    · subst hb
      have h := (if_pos rfl).symm.trans h
      refine Ev.callT (M' := mm2) (h' := mk s4) (x := 1) (t := 15) (j := 2) rfl rfl rfl (Nat.le_of_ble_eq_true rfl) (k2 hq) rfl (Nat.le_of_ble_eq_true rfl) ?_
      refine Ev.run (pc' := 16) (ls' := [some (.ref 0), some (.ref 41), none]) (st' := [.int (zi 2)]) (h' := mk s4) 1 rfl ?_
      first | (obtain rfl := Option.some.inj h) | (cases h)
      exact Ev.fin rfl rfl
    have h := (if_neg hb).symm.trans h
    first | (obtain rfl := Option.some.inj h) | (cases h)
/-! 250 FLaw.whole(LFormatPress;IJ[J)I -/
def f250  (x1 : Int32) (x2 : Int64) (s : zS) : Option (Int32 × zS) := zbT (f4 x1 x2 s) (fun v2 s1 => if mIx (zi 0) 1 then some (zi 0, setK s1 41 ((zi 0).toNatClampNeg) (zI2L v2)) else none) (fun e3 s4 => if e3 = 0 then some (zi 1, s4) else if e3 = 2 then some (zi 2, s4) else none)
set_option maxRecDepth 100000 in
theorem k250 {X : mX} {D : Nat} {x1 : Int32} {x2 : Int64} {s : zS} {r : Int32 × zS}  (h : f250 x1 x2 s = some r) : Ev X (D + 3) mm250 0 [some (.ref 0), some (.int x1), some (.long x2), none, some (.ref 41), none] [] (mk s) (encI r) := by
  unfold f250 at h
  refine Ev.run (pc' := 6) (ls' := [some (.ref 0), some (.int x1), some (.long x2), none, some (.ref 41), none]) (st' := [.long x2, .int x1, .ref 0, .int (zi 0), .ref 41]) (h' := mk s) 5 rfl ?_
  rcases zbT_some h with ⟨v2, s1, hq, h⟩ | ⟨e3, s4, hq, h⟩
  · refine Ev.call (M' := mm4) (v := some (.int v2)) (h' := mk s1) rfl rfl rfl (Nat.le_of_ble_eq_true rfl) (k4 hq) ?_
    refine Ev.run (pc' := 10) (ls' := [some (.ref 0), some (.int x1), some (.long x2), none, some (.ref 41), none]) (st' := [.long (zI2L v2), .int (zi 0), .ref 41]) (h' := mk s1) 1 rfl ?_
    obtain ⟨hx, h⟩ := zif h
    refine Ev.step (pc' := 11) rfl (ast_41 hx) ?_
    refine Ev.run (pc' := 23) (ls' := [some (.ref 0), some (.int x1), some (.long x2), none, some (.ref 41), none]) (st' := [.int (zi 0)]) (h' := mk (setK s1 41 ((zi 0).toNatClampNeg) (zI2L v2))) 2 rfl ?_
    first | (obtain rfl := Option.some.inj h) | (cases h)
    exact Ev.fin rfl rfl
  · by_cases hb : e3 = 0
    · subst hb
      have h := (if_pos rfl).symm.trans h
      refine Ev.callT (M' := mm4) (h' := mk s4) (x := 0) (t := 16) (j := 5) rfl rfl rfl (Nat.le_of_ble_eq_true rfl) (k4 hq) rfl (Nat.le_of_ble_eq_true rfl) ?_
      refine Ev.run (pc' := 17) (ls' := [some (.ref 0), some (.int x1), some (.long x2), none, some (.ref 41), none]) (st' := [.int (zi 1)]) (h' := mk s4) 1 rfl ?_
      first | (obtain rfl := Option.some.inj h) | (cases h)
      exact Ev.fin rfl rfl
    have h := (if_neg hb).symm.trans h
    by_cases hb : e3 = 2
    · subst hb
      have h := (if_pos rfl).symm.trans h
      refine Ev.callT (M' := mm4) (h' := mk s4) (x := 2) (t := 20) (j := 5) rfl rfl rfl (Nat.le_of_ble_eq_true rfl) (k4 hq) rfl (Nat.le_of_ble_eq_true rfl) ?_
      refine Ev.run (pc' := 21) (ls' := [some (.ref 0), some (.int x1), some (.long x2), none, some (.ref 41), none]) (st' := [.int (zi 2)]) (h' := mk s4) 1 rfl ?_
      first | (obtain rfl := Option.some.inj h) | (cases h)
      exact Ev.fin rfl rfl
    have h := (if_neg hb).symm.trans h
    first | (obtain rfl := Option.some.inj h) | (cases h)
/-! 251 FLaw.real(LFormatPress;JZ[J)I -/
def f251  (x1 : Int64) (x3 : Int32) (s : zS) : Option (Int32 × zS) := zbT (f5 x1 x3 s) (fun v2 s1 => if mIx (zi 0) 1 then some (zi 0, setK s1 41 ((zi 0).toNatClampNeg) (zI2L v2)) else none) (fun e3 s4 => if e3 = 2 then some (zi 1, s4) else none)
set_option maxRecDepth 100000 in
theorem k251 {X : mX} {D : Nat} {x1 : Int64} {x3 : Int32} {s : zS} {r : Int32 × zS}  (h : f251 x1 x3 s = some r) : Ev X (D + 3) mm251 0 [some (.ref 0), some (.long x1), none, some (.int x3), some (.ref 41), none] [] (mk s) (encI r) := by
  unfold f251 at h
  refine Ev.run (pc' := 6) (ls' := [some (.ref 0), some (.long x1), none, some (.int x3), some (.ref 41), none]) (st' := [.int x3, .long x1, .ref 0, .int (zi 0), .ref 41]) (h' := mk s) 5 rfl ?_
  rcases zbT_some h with ⟨v2, s1, hq, h⟩ | ⟨e3, s4, hq, h⟩
  · refine Ev.call (M' := mm5) (v := some (.int v2)) (h' := mk s1) rfl rfl rfl (Nat.le_of_ble_eq_true rfl) (k5 hq) ?_
    refine Ev.run (pc' := 10) (ls' := [some (.ref 0), some (.long x1), none, some (.int x3), some (.ref 41), none]) (st' := [.long (zI2L v2), .int (zi 0), .ref 41]) (h' := mk s1) 1 rfl ?_
    obtain ⟨hx, h⟩ := zif h
    refine Ev.step (pc' := 11) rfl (ast_41 hx) ?_
    refine Ev.run (pc' := 19) (ls' := [some (.ref 0), some (.long x1), none, some (.int x3), some (.ref 41), none]) (st' := [.int (zi 0)]) (h' := mk (setK s1 41 ((zi 0).toNatClampNeg) (zI2L v2))) 2 rfl ?_
    first | (obtain rfl := Option.some.inj h) | (cases h)
    exact Ev.fin rfl rfl
  · by_cases hb : e3 = 2
    · subst hb
      have h := (if_pos rfl).symm.trans h
      refine Ev.callT (M' := mm5) (h' := mk s4) (x := 2) (t := 16) (j := 5) rfl rfl rfl (Nat.le_of_ble_eq_true rfl) (k5 hq) rfl (Nat.le_of_ble_eq_true rfl) ?_
      refine Ev.run (pc' := 17) (ls' := [some (.ref 0), some (.long x1), none, some (.int x3), some (.ref 41), none]) (st' := [.int (zi 1)]) (h' := mk s4) 1 rfl ?_
      first | (obtain rfl := Option.some.inj h) | (cases h)
      exact Ev.fin rfl rfl
    have h := (if_neg hb).symm.trans h
    first | (obtain rfl := Option.some.inj h) | (cases h)
/-! 252 FLaw.text(LFormatPress;[J)I -/
def f252   (s : zS) : Option (Int32 × zS) := zbT (f6 s) (fun v2 s1 => if mIx (zi 0) 1 then some (zi 0, setK s1 41 ((zi 0).toNatClampNeg) (zI2L v2)) else none) (fun e3 s4 => if e3 = 0 then some (zi 1, s4) else if e3 = 2 then some (zi 2, s4) else none)
set_option maxRecDepth 100000 in
theorem k252 {X : mX} {D : Nat}  {s : zS} {r : Int32 × zS}  (h : f252  s = some r) : Ev X (D + 4) mm252 0 [some (.ref 0), some (.ref 41), none] [] (mk s) (encI r) := by
  unfold f252 at h
  refine Ev.run (pc' := 3) (ls' := [some (.ref 0), some (.ref 41), none]) (st' := [.ref 0, .int (zi 0), .ref 41]) (h' := mk s) 3 rfl ?_
  rcases zbT_some h with ⟨v2, s1, hq, h⟩ | ⟨e3, s4, hq, h⟩
  · refine Ev.call (M' := mm6) (v := some (.int v2)) (h' := mk s1) rfl rfl rfl (Nat.le_of_ble_eq_true rfl) (k6 hq) ?_
    refine Ev.run (pc' := 7) (ls' := [some (.ref 0), some (.ref 41), none]) (st' := [.long (zI2L v2), .int (zi 0), .ref 41]) (h' := mk s1) 1 rfl ?_
    obtain ⟨hx, h⟩ := zif h
    refine Ev.step (pc' := 8) rfl (ast_41 hx) ?_
    refine Ev.run (pc' := 18) (ls' := [some (.ref 0), some (.ref 41), none]) (st' := [.int (zi 0)]) (h' := mk (setK s1 41 ((zi 0).toNatClampNeg) (zI2L v2))) 2 rfl ?_
    first | (obtain rfl := Option.some.inj h) | (cases h)
    exact Ev.fin rfl rfl
  · by_cases hb : e3 = 0
    · subst hb
      have h := (if_pos rfl).symm.trans h
      refine Ev.callT (M' := mm6) (h' := mk s4) (x := 0) (t := 12) (j := 2) rfl rfl rfl (Nat.le_of_ble_eq_true rfl) (k6 hq) rfl (Nat.le_of_ble_eq_true rfl) ?_
      refine Ev.run (pc' := 13) (ls' := [some (.ref 0), some (.ref 41), none]) (st' := [.int (zi 1)]) (h' := mk s4) 1 rfl ?_
      first | (obtain rfl := Option.some.inj h) | (cases h)
      exact Ev.fin rfl rfl
    have h := (if_neg hb).symm.trans h
    by_cases hb : e3 = 2
    · subst hb
      have h := (if_pos rfl).symm.trans h
      refine Ev.callT (M' := mm6) (h' := mk s4) (x := 2) (t := 15) (j := 2) rfl rfl rfl (Nat.le_of_ble_eq_true rfl) (k6 hq) rfl (Nat.le_of_ble_eq_true rfl) ?_
      refine Ev.run (pc' := 16) (ls' := [some (.ref 0), some (.ref 41), none]) (st' := [.int (zi 2)]) (h' := mk s4) 1 rfl ?_
      first | (obtain rfl := Option.some.inj h) | (cases h)
      exact Ev.fin rfl rfl
    have h := (if_neg hb).symm.trans h
    first | (obtain rfl := Option.some.inj h) | (cases h)
/-! 253 FLaw.run(LFormatPress;[J)I -/
def f253   (s : zS) : Option (Int32 × zS) := zbT (f7 s) (fun v2 s1 => if mIx (zi 0) 1 then some (zi 0, setK s1 41 ((zi 0).toNatClampNeg) (zI2L v2)) else none) (fun e3 s4 => if e3 = 3 then some (zi 1, s4) else if e3 = 1 then some (zi 2, s4) else none)
set_option maxRecDepth 100000 in
theorem k253 {X : mX} {D : Nat}  {s : zS} {r : Int32 × zS}  (h : f253  s = some r) : Ev X (D + 13) mm253 0 [some (.ref 0), some (.ref 41), none] [] (mk s) (encI r) := by
  unfold f253 at h
  refine Ev.run (pc' := 3) (ls' := [some (.ref 0), some (.ref 41), none]) (st' := [.ref 0, .int (zi 0), .ref 41]) (h' := mk s) 3 rfl ?_
  rcases zbT_some h with ⟨v2, s1, hq, h⟩ | ⟨e3, s4, hq, h⟩
  · refine Ev.call (M' := mm7) (v := some (.int v2)) (h' := mk s1) rfl rfl rfl (Nat.le_of_ble_eq_true rfl) (k7 hq) ?_
    refine Ev.run (pc' := 7) (ls' := [some (.ref 0), some (.ref 41), none]) (st' := [.long (zI2L v2), .int (zi 0), .ref 41]) (h' := mk s1) 1 rfl ?_
    obtain ⟨hx, h⟩ := zif h
    refine Ev.step (pc' := 8) rfl (ast_41 hx) ?_
    refine Ev.run (pc' := 18) (ls' := [some (.ref 0), some (.ref 41), none]) (st' := [.int (zi 0)]) (h' := mk (setK s1 41 ((zi 0).toNatClampNeg) (zI2L v2))) 2 rfl ?_
    first | (obtain rfl := Option.some.inj h) | (cases h)
    exact Ev.fin rfl rfl
  · by_cases hb : e3 = 3
    · subst hb
      have h := (if_pos rfl).symm.trans h
      refine Ev.callT (M' := mm7) (h' := mk s4) (x := 3) (t := 12) (j := 2) rfl rfl rfl (Nat.le_of_ble_eq_true rfl) (k7 hq) rfl (Nat.le_of_ble_eq_true rfl) ?_
      refine Ev.run (pc' := 13) (ls' := [some (.ref 0), some (.ref 41), none]) (st' := [.int (zi 1)]) (h' := mk s4) 1 rfl ?_
      first | (obtain rfl := Option.some.inj h) | (cases h)
      exact Ev.fin rfl rfl
    have h := (if_neg hb).symm.trans h
    by_cases hb : e3 = 1
    · subst hb
      have h := (if_pos rfl).symm.trans h
      refine Ev.callT (M' := mm7) (h' := mk s4) (x := 1) (t := 15) (j := 2) rfl rfl rfl (Nat.le_of_ble_eq_true rfl) (k7 hq) rfl (Nat.le_of_ble_eq_true rfl) ?_
      refine Ev.run (pc' := 16) (ls' := [some (.ref 0), some (.ref 41), none]) (st' := [.int (zi 2)]) (h' := mk s4) 1 rfl ?_
      first | (obtain rfl := Option.some.inj h) | (cases h)
      exact Ev.fin rfl rfl
    have h := (if_neg hb).symm.trans h
    first | (obtain rfl := Option.some.inj h) | (cases h)
/-! 254 FLaw.output(LFormatPress;I[J)I -/
def f254  (x1 : Int32) (s : zS) : Option (Int32 × zS) := zbT (f10 x1 s) (fun v2 s1 => if mIx (zi 0) 1 then some (zi 0, setK s1 41 ((zi 0).toNatClampNeg) v2) else none) (fun e3 s4 => if e3 = 0 then some (zi 1, s4) else none)
set_option maxRecDepth 100000 in
theorem k254 {X : mX} {D : Nat} {x1 : Int32} {s : zS} {r : Int32 × zS}  (h : f254 x1 s = some r) : Ev X (D + 2) mm254 0 [some (.ref 0), some (.int x1), some (.ref 41), none] [] (mk s) (encI r) := by
  unfold f254 at h
  refine Ev.run (pc' := 4) (ls' := [some (.ref 0), some (.int x1), some (.ref 41), none]) (st' := [.int x1, .ref 0, .int (zi 0), .ref 41]) (h' := mk s) 4 rfl ?_
  rcases zbT_some h with ⟨v2, s1, hq, h⟩ | ⟨e3, s4, hq, h⟩
  · refine Ev.call (M' := mm10) (v := some (.long v2)) (h' := mk s1) rfl rfl rfl (Nat.le_of_ble_eq_true rfl) (k10 hq) ?_
    obtain ⟨hx, h⟩ := zif h
    refine Ev.step (pc' := 8) rfl (ast_41 hx) ?_
    refine Ev.run (pc' := 15) (ls' := [some (.ref 0), some (.int x1), some (.ref 41), none]) (st' := [.int (zi 0)]) (h' := mk (setK s1 41 ((zi 0).toNatClampNeg) v2)) 2 rfl ?_
    first | (obtain rfl := Option.some.inj h) | (cases h)
    exact Ev.fin rfl rfl
  · by_cases hb : e3 = 0
    · subst hb
      have h := (if_pos rfl).symm.trans h
      refine Ev.callT (M' := mm10) (h' := mk s4) (x := 0) (t := 12) (j := 3) rfl rfl rfl (Nat.le_of_ble_eq_true rfl) (k10 hq) rfl (Nat.le_of_ble_eq_true rfl) ?_
      refine Ev.run (pc' := 13) (ls' := [some (.ref 0), some (.int x1), some (.ref 41), none]) (st' := [.int (zi 1)]) (h' := mk s4) 1 rfl ?_
      first | (obtain rfl := Option.some.inj h) | (cases h)
      exact Ev.fin rfl rfl
    have h := (if_neg hb).symm.trans h
    first | (obtain rfl := Option.some.inj h) | (cases h)
/-! 255 FLaw.read(LFormatPress;Z[J)I -/
def f255  (x1 : Int32) (s : zS) : Option (Int32 × zS) := zbT (f12 x1 s) (fun v2 s1 => if mIx (zi 0) 1 then some (zi 0, setK s1 41 ((zi 0).toNatClampNeg) v2) else none) (fun e3 s4 => if e3 = 0 then some (zi 1, s4) else none)
set_option maxRecDepth 100000 in
theorem k255 {X : mX} {D : Nat} {x1 : Int32} {s : zS} {r : Int32 × zS}  (h : f255 x1 s = some r) : Ev X (D + 8) mm255 0 [some (.ref 0), some (.int x1), some (.ref 41), none] [] (mk s) (encI r) := by
  unfold f255 at h
  refine Ev.run (pc' := 4) (ls' := [some (.ref 0), some (.int x1), some (.ref 41), none]) (st' := [.int x1, .ref 0, .int (zi 0), .ref 41]) (h' := mk s) 4 rfl ?_
  rcases zbT_some h with ⟨v2, s1, hq, h⟩ | ⟨e3, s4, hq, h⟩
  · refine Ev.call (M' := mm12) (v := some (.long v2)) (h' := mk s1) rfl rfl rfl (Nat.le_of_ble_eq_true rfl) (k12 hq) ?_
    obtain ⟨hx, h⟩ := zif h
    refine Ev.step (pc' := 8) rfl (ast_41 hx) ?_
    refine Ev.run (pc' := 15) (ls' := [some (.ref 0), some (.int x1), some (.ref 41), none]) (st' := [.int (zi 0)]) (h' := mk (setK s1 41 ((zi 0).toNatClampNeg) v2)) 2 rfl ?_
    first | (obtain rfl := Option.some.inj h) | (cases h)
    exact Ev.fin rfl rfl
  · by_cases hb : e3 = 0
    · subst hb
      have h := (if_pos rfl).symm.trans h
      refine Ev.callT (M' := mm12) (h' := mk s4) (x := 0) (t := 12) (j := 3) rfl rfl rfl (Nat.le_of_ble_eq_true rfl) (k12 hq) rfl (Nat.le_of_ble_eq_true rfl) ?_
      refine Ev.run (pc' := 13) (ls' := [some (.ref 0), some (.int x1), some (.ref 41), none]) (st' := [.int (zi 1)]) (h' := mk s4) 1 rfl ?_
      first | (obtain rfl := Option.some.inj h) | (cases h)
      exact Ev.fin rfl rfl
    have h := (if_neg hb).symm.trans h
    first | (obtain rfl := Option.some.inj h) | (cases h)
