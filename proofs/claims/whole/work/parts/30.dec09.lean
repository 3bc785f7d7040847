/-! decompiled methods, 9; printed by wip/gen/gen8.py -/
/-! 186 FModel.scientific(I)V -/
def f186_150  (x3 : Int32) (s : zS) : Option (zS) := zb0 (f181 ((zi 48) + (zrem (x3 / (zi 10)) (zi 10))) s) (fun s1 => zb0 (f181 ((zi 48) + (zrem x3 (zi 10))) s1) (fun s2 => some s2))
set_option maxRecDepth 100000 in
theorem k186_150 {X : mX} {D : Nat}   (x3 : Int32) (s : zS) (r : zS) (o1 : Option Value) (o2 : Option Value)  (h : f186_150  x3 s = some r) : Ev X (D + 3) mm186 150 [some (.ref 24), o1, o2, some (.int x3)] [] (mk s) (encV r) := by
  unfold f186_150 at h
  refine Ev.run (pc' := 161) (ls' := [some (.ref 24), o1, o2, some (.int x3)]) (st' := [.int ((zi 48) + (zrem (x3 / (zi 10)) (zi 10))), .ref 24]) (h' := mk s) 8 rfl ?_
  obtain ⟨s1, hq, h⟩ := zb0_some h
  refine Ev.call (M' := mm181) (v := none) (h' := mk s1) rfl rfl rfl (Nat.le_of_ble_eq_true rfl) (k181 hq) ?_
  refine Ev.run (pc' := 172) (ls' := [some (.ref 24), o1, o2, some (.int x3)]) (st' := [.int ((zi 48) + (zrem x3 (zi 10))), .ref 24]) (h' := mk s1) 6 rfl ?_
  obtain ⟨s2, hq, h⟩ := zb0_some h
  refine Ev.call (M' := mm181) (v := none) (h' := mk s2) rfl rfl rfl (Nat.le_of_ble_eq_true rfl) (k181 hq) ?_
  first | (obtain rfl := Option.some.inj h) | (cases h)
  exact Ev.fin rfl rfl
def f186_132  (x2 : Int32) (y0 : Int32) (s : zS) : Option (zS) := if y0 ≤ (zi 99) then f186_150 y0 s else zb0 (f181 ((zi 48) + (y0 / (zi 100))) s) (fun s1 => f186_150 y0 s1)
set_option maxRecDepth 100000 in
theorem k186_132 {X : mX} {D : Nat}   (x2 : Int32) (y0 : Int32) (s : zS) (r : zS) (o1 : Option Value) (o3 : Option Value)  (h : f186_132  x2 y0 s = some r) : Ev X (D + 3) mm186 132 [some (.ref 24), o1, some (.int x2), o3] [.int y0] (mk s) (encV r) := by
  unfold f186_132 at h
  refine Ev.run (pc' := 136) (ls' := [some (.ref 24), o1, some (.int x2), some (.int y0)]) (st' := [.int (zi 99), .int y0]) (h' := mk s) 3 rfl ?_
  refine Ev.icmp_le (t := 150) rfl rfl (fun hb => ?_) (fun hb => ?_)
  · have h := (if_pos hb).symm.trans h
    exact k186_150 y0 s _ _ _ h
  · have h := (if_neg hb).symm.trans h
    refine Ev.run (pc' := 147) (ls' := [some (.ref 24), o1, some (.int x2), some (.int y0)]) (st' := [.int ((zi 48) + (y0 / (zi 100))), .ref 24]) (h' := mk s) 6 rfl ?_
    obtain ⟨s1, hq, h⟩ := zb0_some h
    refine Ev.call (M' := mm181) (v := none) (h' := mk s1) rfl rfl rfl (Nat.le_of_ble_eq_true rfl) (k181 hq) ?_
    exact k186_150 y0 s1 _ _ _ h
def f186_119  (x2 : Int32) (y1 : Int32) (s : zS) : Option (zS) := zb0 (f181 y1 s) (fun s1 => if x2 ≥ zi 0 then f186_132 x2 x2 s1 else f186_132 x2 (-x2) s1)
set_option maxRecDepth 100000 in
theorem k186_119 {X : mX} {D : Nat}   (x2 : Int32) (y1 : Int32) (s : zS) (r : zS) (o1 : Option Value) (o3 : Option Value)  (h : f186_119  x2 y1 s = some r) : Ev X (D + 3) mm186 119 [some (.ref 24), o1, some (.int x2), o3] [.int y1, .ref 24] (mk s) (encV r) := by
  unfold f186_119 at h
  obtain ⟨s1, hq, h⟩ := zb0_some h
  refine Ev.call (M' := mm181) (v := none) (h' := mk s1) rfl rfl rfl (Nat.le_of_ble_eq_true rfl) (k181 hq) ?_
  refine Ev.run (pc' := 123) (ls' := [some (.ref 24), o1, some (.int x2), o3]) (st' := [.int x2]) (h' := mk s1) 1 rfl ?_
  refine Ev.if_ge (t := 131) rfl rfl (fun hb => ?_) (fun hb => ?_)
  · have h := (if_pos hb).symm.trans h
    refine Ev.run (pc' := 132) (ls' := [some (.ref 24), o1, some (.int x2), o3]) (st' := [.int x2]) (h' := mk s1) 1 rfl ?_
    exact k186_132 x2 x2 s1 _ _ _ h
  · have h := (if_neg hb).symm.trans h
    refine Ev.run (pc' := 132) (ls' := [some (.ref 24), o1, some (.int x2), o3]) (st' := [.int (-x2)]) (h' := mk s1) 3 rfl ?_
    exact k186_132 x2 (-x2) s1 _ _ _ h
def b186_76 (rec76 : Int32 → Int32 → Int32 → zS → Option (zS)) (x1 : Int32) (x2 : Int32) (x3 : Int32) (s : zS) : Option (zS) := if x3 < (x2 - x1) then zb0 (f181 (zi 101) s) (fun s1 => if x2 ≥ zi 0 then f186_119 x2 (zi 43) s1 else f186_119 x2 (zi 45) s1) else zb1 (f165 x3 s) (fun v3 s2 => zb0 (f181 ((zi 48) + v3) s2) (fun s4 => rec76 x1 x2 (x3 + zi (-1)) s4))
set_option maxRecDepth 100000 in
theorem kb186_76 {X : mX} {D : Nat} {rec76 : Int32 → Int32 → Int32 → zS → Option (zS)} (hrec76 : ∀ (x1 : Int32) (x2 : Int32) (x3 : Int32) (s : zS) (r : zS) , rec76 x1 x2 x3 s = some r → Ev X (D + 3) mm186 76 [some (.ref 24), some (.int x1), some (.int x2), some (.int x3)] [] (mk s) (encV r)) (x1 : Int32) (x2 : Int32) (x3 : Int32) (s : zS) (r : zS)   (h : b186_76 rec76 x1 x2 x3 s = some r) : Ev X (D + 3) mm186 76 [some (.ref 24), some (.int x1), some (.int x2), some (.int x3)] [] (mk s) (encV r) := by
  unfold b186_76 at h
  refine Ev.run (pc' := 80) (ls' := [some (.ref 24), some (.int x1), some (.int x2), some (.int x3)]) (st' := [.int (x2 - x1), .int x3]) (h' := mk s) 4 rfl ?_
  refine Ev.icmp_lt (t := 101) rfl rfl (fun hb => ?_) (fun hb => ?_)
  · have h := (if_pos hb).symm.trans h
    refine Ev.run (pc' := 104) (ls' := [some (.ref 24), some (.int x1), some (.int x2), some (.int x3)]) (st' := [.int (zi 101), .ref 24]) (h' := mk s) 2 rfl ?_
    obtain ⟨s1, hq, h⟩ := zb0_some h
    refine Ev.call (M' := mm181) (v := none) (h' := mk s1) rfl rfl rfl (Nat.le_of_ble_eq_true rfl) (k181 hq) ?_
    refine Ev.run (pc' := 109) (ls' := [some (.ref 24), some (.int x1), some (.int x2), some (.int x3)]) (st' := [.int x2, .ref 24]) (h' := mk s1) 2 rfl ?_
    refine Ev.if_ge (t := 117) rfl rfl (fun hb => ?_) (fun hb => ?_)
    · have h := (if_pos hb).symm.trans h
      refine Ev.run (pc' := 119) (ls' := [some (.ref 24), some (.int x1), some (.int x2), some (.int x3)]) (st' := [.int (zi 43), .ref 24]) (h' := mk s1) 1 rfl ?_
      exact k186_119 x2 (zi 43) s1 _ _ _ h
    · have h := (if_neg hb).symm.trans h
      refine Ev.run (pc' := 119) (ls' := [some (.ref 24), some (.int x1), some (.int x2), some (.int x3)]) (st' := [.int (zi 45), .ref 24]) (h' := mk s1) 2 rfl ?_
      exact k186_119 x2 (zi 45) s1 _ _ _ h
  · have h := (if_neg hb).symm.trans h
    refine Ev.run (pc' := 88) (ls' := [some (.ref 24), some (.int x1), some (.int x2), some (.int x3)]) (st' := [.int x3, .ref 24, .int (zi 48), .ref 24]) (h' := mk s) 4 rfl ?_
    obtain ⟨v3, s2, hq, h⟩ := zb1_some h
    refine Ev.call (M' := mm165) (v := some (.int v3)) (h' := mk s2) rfl rfl rfl (Nat.le_of_ble_eq_true rfl) (k165 hq) ?_
    refine Ev.run (pc' := 92) (ls' := [some (.ref 24), some (.int x1), some (.int x2), some (.int x3)]) (st' := [.int ((zi 48) + v3), .ref 24]) (h' := mk s2) 1 rfl ?_
    obtain ⟨s4, hq, h⟩ := zb0_some h
    refine Ev.call (M' := mm181) (v := none) (h' := mk s4) rfl rfl rfl (Nat.le_of_ble_eq_true rfl) (k181 hq) ?_
    refine Ev.run (pc' := 76) (ls' := [some (.ref 24), some (.int x1), some (.int x2), some (.int (x3 + zi (-1)))]) (st' := []) (h' := mk s4) 2 rfl ?_
    exact hrec76 x1 x2 (x3 + zi (-1)) s4 _ h
def f186_76  : Nat → Int32 → Int32 → Int32 → zS → Option (zS)
  | 0, _, _, _, _ => none
  | n + 1, x1, x2, x3, s => b186_76 (f186_76 n) x1 x2 x3 s
set_option maxRecDepth 100000 in
theorem k186_76 {X : mX} {D : Nat}   (n : Nat) : ∀ (x1 : Int32) (x2 : Int32) (x3 : Int32) (s : zS) (r : zS) , f186_76  n x1 x2 x3 s = some r → Ev X (D + 3) mm186 76 [some (.ref 24), some (.int x1), some (.int x2), some (.int x3)] [] (mk s) (encV r) := by
  induction n with
  | zero => intro x1 x2 x3 s r   h; cases h
  | succ n ih => intro x1 x2 x3 s r   h; exact kb186_76  ih x1 x2 x3 s r   h
def f186_66  (x1 : Int32) (x2 : Int32) (s : zS) : Option (zS) := zb0 (f181 (zi 46) s) (fun s1 => f186_76 zF x1 x2 (x2 - (zi 1)) s1)
set_option maxRecDepth 100000 in
theorem k186_66 {X : mX} {D : Nat}   (x1 : Int32) (x2 : Int32) (s : zS) (r : zS) (o3 : Option Value)  (h : f186_66  x1 x2 s = some r) : Ev X (D + 3) mm186 66 [some (.ref 24), some (.int x1), some (.int x2), o3] [] (mk s) (encV r) := by
  unfold f186_66 at h
  refine Ev.run (pc' := 69) (ls' := [some (.ref 24), some (.int x1), some (.int x2), o3]) (st' := [.int (zi 46), .ref 24]) (h' := mk s) 2 rfl ?_
  obtain ⟨s1, hq, h⟩ := zb0_some h
  refine Ev.call (M' := mm181) (v := none) (h' := mk s1) rfl rfl rfl (Nat.le_of_ble_eq_true rfl) (k181 hq) ?_
  refine Ev.run (pc' := 76) (ls' := [some (.ref 24), some (.int x1), some (.int x2), some (.int (x2 - (zi 1)))]) (st' := []) (h' := mk s1) 4 rfl ?_
  exact k186_76 zF x1 x2 (x2 - (zi 1)) s1 _ h
def f186_39  (x1 : Int32) (x2 : Int32) (s : zS) : Option (zS) := zb1 (f165 x2 s) (fun v2 s1 => zb0 (f181 ((zi 48) + v2) s1) (fun s3 => if x1 > zi 0 then f186_66 x1 x2 s3 else if (r180 (s3.1 24 15) (zi 2) s3) = zi 0 then f186_76 zF x1 x2 (x2 - (zi 1)) s3 else f186_66 x1 x2 s3))
set_option maxRecDepth 100000 in
theorem k186_39 {X : mX} {D : Nat}   (x1 : Int32) (x2 : Int32) (s : zS) (r : zS) (o3 : Option Value)  (h : f186_39  x1 x2 s = some r) : Ev X (D + 3) mm186 39 [some (.ref 24), some (.int x1), some (.int x2), o3] [] (mk s) (encV r) := by
  unfold f186_39 at h
  refine Ev.run (pc' := 44) (ls' := [some (.ref 24), some (.int x1), some (.int x2), o3]) (st' := [.int x2, .ref 24, .int (zi 48), .ref 24]) (h' := mk s) 4 rfl ?_
  obtain ⟨v2, s1, hq, h⟩ := zb1_some h
  refine Ev.call (M' := mm165) (v := some (.int v2)) (h' := mk s1) rfl rfl rfl (Nat.le_of_ble_eq_true rfl) (k165 hq) ?_
  refine Ev.run (pc' := 48) (ls' := [some (.ref 24), some (.int x1), some (.int x2), o3]) (st' := [.int ((zi 48) + v2), .ref 24]) (h' := mk s1) 1 rfl ?_
  obtain ⟨s3, hq, h⟩ := zb0_some h
  refine Ev.call (M' := mm181) (v := none) (h' := mk s3) rfl rfl rfl (Nat.le_of_ble_eq_true rfl) (k181 hq) ?_
  refine Ev.run (pc' := 52) (ls' := [some (.ref 24), some (.int x1), some (.int x2), o3]) (st' := [.int x1]) (h' := mk s3) 1 rfl ?_
  refine Ev.if_gt (t := 66) rfl rfl (fun hb => ?_) (fun hb => ?_)
  · have h := (if_pos hb).symm.trans h
    exact k186_66 x1 x2 s3 _ _ h
  · have h := (if_neg hb).symm.trans h
    refine Ev.run (pc' := 60) (ls' := [some (.ref 24), some (.int x1), some (.int x2), o3]) (st' := [.int (zi 2), .int (s3.1 24 15)]) (h' := mk s3) 3 rfl ?_
    refine Ev.call (M' := mm180) (v := some (.int (r180 (s3.1 24 15) (zi 2) s3))) (h' := mk s3) rfl rfl rfl (Nat.le_of_ble_eq_true rfl) (k180 (x0 := (s3.1 24 15)) (x1 := (zi 2)) (s := s3) (v := r180 (s3.1 24 15) (zi 2) s3)  rfl) ?_
    refine Ev.if_eq (t := 72) rfl rfl (fun hb => ?_) (fun hb => ?_)
    · have h := (if_pos hb).symm.trans h
      refine Ev.run (pc' := 76) (ls' := [some (.ref 24), some (.int x1), some (.int x2), some (.int (x2 - (zi 1)))]) (st' := []) (h' := mk s3) 4 rfl ?_
      exact k186_76 zF x1 x2 (x2 - (zi 1)) s3 _ h
    · have h := (if_neg hb).symm.trans h
      exact k186_66 x1 x2 s3 _ _ h
def f186  (x1 : Int32) (s : zS) : Option (zS) := zb1 (f236 32 s) (fun v2 s1 => if v2 = zi 0 then zb1 (f237 32 s1) (fun v4 s3 => zb0 (f163 (v4 - x1) s3) (fun s5 => f186_39 x1 (s5.1 24 27) s5)) else zb0 (f163 (-x1) s1) (fun s6 => f186_39 x1 (zi 0) s6))
set_option maxRecDepth 100000 in
theorem k186 {X : mX} {D : Nat} {x1 : Int32} {s : zS} {r : zS}  (h : f186 x1 s = some r) : Ev X (D + 3) mm186 0 [some (.ref 24), some (.int x1), none, none] [] (mk s) (encV r) := by
  unfold f186 at h
  refine Ev.run (pc' := 6) (ls' := [some (.ref 24), some (.int x1), some (.int (zi 0)), none]) (st' := [.ref 32]) (h' := mk s) 4 rfl ?_
  obtain ⟨v2, s1, hq, h⟩ := zb1_some h
  refine Ev.call (M' := mm236) (v := some (.int v2)) (h' := mk s1) rfl rfl rfl (Nat.le_of_ble_eq_true rfl) (k236 (by decide) hq) ?_
  refine Ev.if_eq (t := 21) rfl rfl (fun hb => ?_) (fun hb => ?_)
  · have h := (if_pos hb).symm.trans h
    refine Ev.run (pc' := 26) (ls' := [some (.ref 24), some (.int x1), some (.int (zi 0)), none]) (st' := [.ref 32, .ref 24]) (h' := mk s1) 3 rfl ?_
    obtain ⟨v4, s3, hq, h⟩ := zb1_some h
    refine Ev.call (M' := mm237) (v := some (.int v4)) (h' := mk s3) rfl rfl rfl (Nat.le_of_ble_eq_true rfl) (k237 (by decide) hq) ?_
    refine Ev.run (pc' := 31) (ls' := [some (.ref 24), some (.int x1), some (.int (zi 0)), none]) (st' := [.int (v4 - x1), .ref 24]) (h' := mk s3) 2 rfl ?_
    obtain ⟨s5, hq, h⟩ := zb0_some h
    refine Ev.call (M' := mm163) (v := none) (h' := mk s5) rfl rfl rfl (Nat.le_of_ble_eq_true rfl) (k163 hq) ?_
    refine Ev.run (pc' := 39) (ls' := [some (.ref 24), some (.int x1), some (.int (s5.1 24 27)), none]) (st' := []) (h' := mk s5) 3 rfl ?_
    exact k186_39 x1 (s5.1 24 27) s5 _ _ h
  · have h := (if_neg hb).symm.trans h
    refine Ev.run (pc' := 15) (ls' := [some (.ref 24), some (.int x1), some (.int (zi 0)), none]) (st' := [.int (-x1), .ref 24]) (h' := mk s1) 3 rfl ?_
    obtain ⟨s6, hq, h⟩ := zb0_some h
    refine Ev.call (M' := mm163) (v := none) (h' := mk s6) rfl rfl rfl (Nat.le_of_ble_eq_true rfl) (k163 hq) ?_
    refine Ev.run (pc' := 39) (ls' := [some (.ref 24), some (.int x1), some (.int (zi 0)), none]) (st' := []) (h' := mk s6) 1 rfl ?_
    exact k186_39 x1 (zi 0) s6 _ _ h
/-! 187 FModel.general(I)V -/
def f187_65  (x1 : Int32) (s : zS) : Option (zS) := zb0 (f186 (x1 - (zi 1)) s) (fun s1 => some s1)
set_option maxRecDepth 100000 in
theorem k187_65 {X : mX} {D : Nat}   (x1 : Int32) (s : zS) (r : zS)   (h : f187_65  x1 s = some r) : Ev X (D + 4) mm187 65 [some (.ref 24), some (.int x1)] [] (mk s) (encV r) := by
  unfold f187_65 at h
  refine Ev.run (pc' := 69) (ls' := [some (.ref 24), some (.int x1)]) (st' := [.int (x1 - (zi 1)), .ref 24]) (h' := mk s) 4 rfl ?_
  obtain ⟨s1, hq, h⟩ := zb0_some h
  refine Ev.call (M' := mm186) (v := none) (h' := mk s1) rfl rfl rfl (Nat.le_of_ble_eq_true rfl) (k186 hq) ?_
  first | (obtain rfl := Option.some.inj h) | (cases h)
  exact Ev.fin rfl rfl
def f187  (x1 : Int32) (s : zS) : Option (zS) := zb1 (f236 32 s) (fun v2 s1 => if v2 = zi 0 then zb1 (f237 32 s1) (fun v4 s3 => zb0 (f163 ((v4 - x1) + (zi 1)) s3) (fun s5 => if (s5.1 24 27) < (zi (-4)) then f187_65 x1 s5 else if (s5.1 24 27) ≥ x1 then f187_65 x1 s5 else zb0 (f185 ((x1 - (zi 1)) - (s5.1 24 27)) s5) (fun s6 => some s6))) else zb0 (f185 (x1 - (zi 1)) s1) (fun s7 => some s7))
set_option maxRecDepth 100000 in
theorem k187 {X : mX} {D : Nat} {x1 : Int32} {s : zS} {r : zS}  (h : f187 x1 s = some r) : Ev X (D + 4) mm187 0 [some (.ref 24), some (.int x1)] [] (mk s) (encV r) := by
  unfold f187 at h
  refine Ev.run (pc' := 4) (ls' := [some (.ref 24), some (.int x1)]) (st' := [.ref 32]) (h' := mk s) 2 rfl ?_
  obtain ⟨v2, s1, hq, h⟩ := zb1_some h
  refine Ev.call (M' := mm236) (v := some (.int v2)) (h' := mk s1) rfl rfl rfl (Nat.le_of_ble_eq_true rfl) (k236 (by decide) hq) ?_
  refine Ev.if_eq (t := 18) rfl rfl (fun hb => ?_) (fun hb => ?_)
  · have h := (if_pos hb).symm.trans h
    refine Ev.run (pc' := 23) (ls' := [some (.ref 24), some (.int x1)]) (st' := [.ref 32, .ref 24]) (h' := mk s1) 3 rfl ?_
    obtain ⟨v4, s3, hq, h⟩ := zb1_some h
    refine Ev.call (M' := mm237) (v := some (.int v4)) (h' := mk s3) rfl rfl rfl (Nat.le_of_ble_eq_true rfl) (k237 (by decide) hq) ?_
    refine Ev.run (pc' := 30) (ls' := [some (.ref 24), some (.int x1)]) (st' := [.int ((v4 - x1) + (zi 1)), .ref 24]) (h' := mk s3) 4 rfl ?_
    obtain ⟨s5, hq, h⟩ := zb0_some h
    refine Ev.call (M' := mm163) (v := none) (h' := mk s5) rfl rfl rfl (Nat.le_of_ble_eq_true rfl) (k163 hq) ?_
    refine Ev.run (pc' := 39) (ls' := [some (.ref 24), some (.int x1)]) (st' := [.int (zi (-4)), .int (s5.1 24 27)]) (h' := mk s5) 3 rfl ?_
    refine Ev.icmp_lt (t := 65) rfl rfl (fun hb => ?_) (fun hb => ?_)
    · have h := (if_pos hb).symm.trans h
      exact k187_65 x1 s5 _ h
    · have h := (if_neg hb).symm.trans h
      refine Ev.run (pc' := 47) (ls' := [some (.ref 24), some (.int x1)]) (st' := [.int x1, .int (s5.1 24 27)]) (h' := mk s5) 3 rfl ?_
      refine Ev.icmp_ge (t := 65) rfl rfl (fun hb => ?_) (fun hb => ?_)
      · have h := (if_pos hb).symm.trans h
        exact k187_65 x1 s5 _ h
      · have h := (if_neg hb).symm.trans h
        refine Ev.run (pc' := 59) (ls' := [some (.ref 24), some (.int x1)]) (st' := [.int ((x1 - (zi 1)) - (s5.1 24 27)), .ref 24]) (h' := mk s5) 7 rfl ?_
        obtain ⟨s6, hq, h⟩ := zb0_some h
        refine Ev.call (M' := mm185) (v := none) (h' := mk s6) rfl rfl rfl (Nat.le_of_ble_eq_true rfl) (k185 hq) ?_
        refine Ev.run (pc' := 72) (ls' := [some (.ref 24), some (.int x1)]) (st' := []) (h' := mk s6) 1 rfl ?_
        first | (obtain rfl := Option.some.inj h) | (cases h)
        exact Ev.fin rfl rfl
  · have h := (if_neg hb).symm.trans h
    refine Ev.run (pc' := 14) (ls' := [some (.ref 24), some (.int x1)]) (st' := [.int (x1 - (zi 1)), .ref 24]) (h' := mk s1) 4 rfl ?_
    obtain ⟨s7, hq, h⟩ := zb0_some h
    refine Ev.call (M' := mm185) (v := none) (h' := mk s7) rfl rfl rfl (Nat.le_of_ble_eq_true rfl) (k185 hq) ?_
    first | (obtain rfl := Option.some.inj h) | (cases h)
    exact Ev.fin rfl rfl
/-! 184 FModel.real()V -/
def f184_237  (x3 : Int32) (s : zS) : Option (zS) := zb0 (f182 x3 (zi 0) (zi 1) s) (fun s1 => some s1)
set_option maxRecDepth 100000 in
theorem k184_237 {X : mX} {D : Nat}   (x3 : Int32) (s : zS) (r : zS) (o1 : Option Value) (o2 : Option Value) (o4 : Option Value) (o5 : Option Value)  (h : f184_237  x3 s = some r) : Ev X (D + 7) mm184 237 [some (.ref 24), o1, o2, some (.int x3), o4, o5] [] (mk s) (encV r) := by
  unfold f184_237 at h
  refine Ev.run (pc' := 241) (ls' := [some (.ref 24), o1, o2, some (.int x3), o4, o5]) (st' := [.int (zi 1), .int (zi 0), .int x3, .ref 24]) (h' := mk s) 4 rfl ?_
  obtain ⟨s1, hq, h⟩ := zb0_some h
  refine Ev.call (M' := mm182) (v := none) (h' := mk s1) rfl rfl rfl (Nat.le_of_ble_eq_true rfl) (k182 hq) ?_
  first | (obtain rfl := Option.some.inj h) | (cases h)
  exact Ev.fin rfl rfl
def f184_234  (x3 : Int32) (y1 : Int32) (s : zS) : Option (zS) := zb0 (f187 y1 s) (fun s1 => f184_237 x3 s1)
set_option maxRecDepth 100000 in
theorem k184_234 {X : mX} {D : Nat}   (x3 : Int32) (y1 : Int32) (s : zS) (r : zS) (o1 : Option Value) (o2 : Option Value) (o4 : Option Value) (o5 : Option Value)  (h : f184_234  x3 y1 s = some r) : Ev X (D + 7) mm184 234 [some (.ref 24), o1, o2, some (.int x3), o4, o5] [.int y1, .ref 24] (mk s) (encV r) := by
  unfold f184_234 at h
  obtain ⟨s1, hq, h⟩ := zb0_some h
  refine Ev.call (M' := mm187) (v := none) (h' := mk s1) rfl rfl rfl (Nat.le_of_ble_eq_true rfl) (k187 hq) ?_
  exact k184_237 x3 s1 _ _ _ _ _ h
def f184_184  (x3 : Int32) (y0 : Int32) (s : zS) : Option (zS) := if ¬ (s.1 24 18) = (zi 102) then if ¬ (s.1 24 18) = (zi 101) then if ¬ y0 = zi 0 then f184_234 x3 y0 s else f184_234 x3 (zi 1) s else zb0 (f186 y0 s) (fun s1 => f184_237 x3 s1) else zb0 (f185 y0 s) (fun s2 => f184_237 x3 s2)
set_option maxRecDepth 100000 in
theorem k184_184 {X : mX} {D : Nat}   (x3 : Int32) (y0 : Int32) (s : zS) (r : zS) (o1 : Option Value) (o2 : Option Value) (o4 : Option Value) (o5 : Option Value)  (h : f184_184  x3 y0 s = some r) : Ev X (D + 7) mm184 184 [some (.ref 24), o1, o2, some (.int x3), o4, o5] [.int y0] (mk s) (encV r) := by
  unfold f184_184 at h
  refine Ev.run (pc' := 192) (ls' := [some (.ref 24), o1, o2, some (.int x3), some (.int y0), o5]) (st' := [.int (zi 102), .int (s.1 24 18)]) (h' := mk s) 4 rfl ?_
  refine Ev.icmp_ne (t := 204) rfl rfl (fun hb => ?_) (fun hb => ?_)
  · have h := (if_pos hb).symm.trans h
    refine Ev.run (pc' := 210) (ls' := [some (.ref 24), o1, o2, some (.int x3), some (.int y0), o5]) (st' := [.int (zi 101), .int (s.1 24 18)]) (h' := mk s) 3 rfl ?_
    refine Ev.icmp_ne (t := 222) rfl rfl (fun hb => ?_) (fun hb => ?_)
    · have h := (if_pos hb).symm.trans h
      refine Ev.run (pc' := 225) (ls' := [some (.ref 24), o1, o2, some (.int x3), some (.int y0), o5]) (st' := [.int y0, .ref 24]) (h' := mk s) 2 rfl ?_
      refine Ev.if_ne (t := 232) rfl rfl (fun hb => ?_) (fun hb => ?_)
      · have h := (if_pos hb).symm.trans h
        refine Ev.run (pc' := 234) (ls' := [some (.ref 24), o1, o2, some (.int x3), some (.int y0), o5]) (st' := [.int y0, .ref 24]) (h' := mk s) 1 rfl ?_
        exact k184_234 x3 y0 s _ _ _ _ _ h
      · have h := (if_neg hb).symm.trans h
        refine Ev.run (pc' := 234) (ls' := [some (.ref 24), o1, o2, some (.int x3), some (.int y0), o5]) (st' := [.int (zi 1), .ref 24]) (h' := mk s) 2 rfl ?_
        exact k184_234 x3 (zi 1) s _ _ _ _ _ h
    · have h := (if_neg hb).symm.trans h
      refine Ev.run (pc' := 216) (ls' := [some (.ref 24), o1, o2, some (.int x3), some (.int y0), o5]) (st' := [.int y0, .ref 24]) (h' := mk s) 2 rfl ?_
      obtain ⟨s1, hq, h⟩ := zb0_some h
      refine Ev.call (M' := mm186) (v := none) (h' := mk s1) rfl rfl rfl (Nat.le_of_ble_eq_true rfl) (k186 hq) ?_
      refine Ev.run (pc' := 237) (ls' := [some (.ref 24), o1, o2, some (.int x3), some (.int y0), o5]) (st' := []) (h' := mk s1) 1 rfl ?_
      exact k184_237 x3 s1 _ _ _ _ _ h
  · have h := (if_neg hb).symm.trans h
    refine Ev.run (pc' := 198) (ls' := [some (.ref 24), o1, o2, some (.int x3), some (.int y0), o5]) (st' := [.int y0, .ref 24]) (h' := mk s) 2 rfl ?_
    obtain ⟨s2, hq, h⟩ := zb0_some h
    refine Ev.call (M' := mm185) (v := none) (h' := mk s2) rfl rfl rfl (Nat.le_of_ble_eq_true rfl) (k185 hq) ?_
    refine Ev.run (pc' := 237) (ls' := [some (.ref 24), o1, o2, some (.int x3), some (.int y0), o5]) (st' := []) (h' := mk s2) 1 rfl ?_
    exact k184_237 x3 s2 _ _ _ _ _ h
def b184_99 (rec99 : Int32 → Int32 → zS → Option (zS)) (x3 : Int32) (x5 : Int32) (s : zS) : Option (zS) := if x5 ≥ (zi 8) then zb0 (f182 x3 (zi 0) (zi 0) s) (fun s1 => some s1) else if mIx x5 (zlenN 64) then zb0 (f181 (zchr 64 x5) s) (fun s2 => rec99 x3 (x5 + zi 1) s2) else none
set_option maxRecDepth 100000 in
theorem kb184_99 {X : mX} {D : Nat} {rec99 : Int32 → Int32 → zS → Option (zS)} (hrec99 : ∀ (x3 : Int32) (x5 : Int32) (s : zS) (r : zS) (o1 : Option Value) (o2 : Option Value), rec99 x3 x5 s = some r → Ev X (D + 7) mm184 99 [some (.ref 24), o1, o2, some (.int x3), some (.ref (mRO + 3 + 2 * 64)), some (.int x5)] [] (mk s) (encV r)) (x3 : Int32) (x5 : Int32) (s : zS) (r : zS) (o1 : Option Value) (o2 : Option Value)  (h : b184_99 rec99 x3 x5 s = some r) : Ev X (D + 7) mm184 99 [some (.ref 24), o1, o2, some (.int x3), some (.ref (mRO + 3 + 2 * 64)), some (.int x5)] [] (mk s) (encV r) := by
  unfold b184_99 at h
  refine Ev.run (pc' := 103) (ls' := [some (.ref 24), o1, o2, some (.int x3), some (.ref (mRO + 3 + 2 * 64)), some (.int x5)]) (st' := [.int (zi 8), .int x5]) (h' := mk s) 2 rfl ?_
  refine Ev.icmp_ge (t := 123) rfl rfl (fun hb => ?_) (fun hb => ?_)
  · have h := (if_pos hb).symm.trans h
    refine Ev.run (pc' := 127) (ls' := [some (.ref 24), o1, o2, some (.int x3), some (.ref (mRO + 3 + 2 * 64)), some (.int x5)]) (st' := [.int (zi 0), .int (zi 0), .int x3, .ref 24]) (h' := mk s) 4 rfl ?_
    obtain ⟨s1, hq, h⟩ := zb0_some h
    refine Ev.call (M' := mm182) (v := none) (h' := mk s1) rfl rfl rfl (Nat.le_of_ble_eq_true rfl) (k182 hq) ?_
    first | (obtain rfl := Option.some.inj h) | (cases h)
    exact Ev.fin rfl rfl
  · have h := (if_neg hb).symm.trans h
    refine Ev.run (pc' := 111) (ls' := [some (.ref 24), o1, o2, some (.int x3), some (.ref (mRO + 3 + 2 * 64)), some (.int x5)]) (st' := [.int x5, .ref (mRO + 3 + 2 * 64), .ref 24]) (h' := mk s) 3 rfl ?_
    obtain ⟨hx, h⟩ := zif h
    refine Ev.call (M' := mm242) (as := [.ref (mRO + 3 + 2 * 64), .int x5]) (rest := [.ref 24]) (v := some (.int (zchr 64 x5))) (h' := mk s) rfl (litcall rfl rfl (by decide) rfl rfl) rfl (Nat.le_of_ble_eq_true rfl) (kcharat (by decide) hx) ?_
    obtain ⟨s2, hq, h⟩ := zb0_some h
    refine Ev.call (M' := mm181) (v := none) (h' := mk s2) rfl rfl rfl (Nat.le_of_ble_eq_true rfl) (k181 hq) ?_
    refine Ev.run (pc' := 99) (ls' := [some (.ref 24), o1, o2, some (.int x3), some (.ref (mRO + 3 + 2 * 64)), some (.int (x5 + zi 1))]) (st' := []) (h' := mk s2) 2 rfl ?_
    exact hrec99 x3 (x5 + zi 1) s2 _ _ _ h
def f184_99  : Nat → Int32 → Int32 → zS → Option (zS)
  | 0, _, _, _ => none
  | n + 1, x3, x5, s => b184_99 (f184_99 n) x3 x5 s
set_option maxRecDepth 100000 in
theorem k184_99 {X : mX} {D : Nat}   (n : Nat) : ∀ (x3 : Int32) (x5 : Int32) (s : zS) (r : zS) (o1 : Option Value) (o2 : Option Value), f184_99  n x3 x5 s = some r → Ev X (D + 7) mm184 99 [some (.ref 24), o1, o2, some (.int x3), some (.ref (mRO + 3 + 2 * 64)), some (.int x5)] [] (mk s) (encV r) := by
  induction n with
  | zero => intro x3 x5 s r o1 o2  h; cases h
  | succ n ih => intro x3 x5 s r o1 o2  h; exact kb184_99  ih x3 x5 s r o1 o2  h
def f184_78  (x1 : Int64) (x3 : Int32) (s : zS) : Option (zS) := if (r168 x1 s) = zi 0 then f184_99 zF x3 (zi 0) s else zb0 (f176 63 s) (fun s1 => some s1)
set_option maxRecDepth 100000 in
theorem k184_78 {X : mX} {D : Nat}   (x1 : Int64) (x3 : Int32) (s : zS) (r : zS) (o4 : Option Value) (o5 : Option Value)  (h : f184_78  x1 x3 s = some r) : Ev X (D + 7) mm184 78 [some (.ref 24), some (.long x1), none, some (.int x3), o4, o5] [] (mk s) (encV r) := by
  unfold f184_78 at h
  refine Ev.run (pc' := 79) (ls' := [some (.ref 24), some (.long x1), none, some (.int x3), o4, o5]) (st' := [.long x1]) (h' := mk s) 1 rfl ?_
  refine Ev.call (M' := mm168) (v := some (.int (r168 x1 s))) (h' := mk s) rfl rfl rfl (Nat.le_of_ble_eq_true rfl) (k168 (x0 := x1) (s := s) (v := r168 x1 s)  rfl) ?_
  refine Ev.if_eq (t := 92) rfl rfl (fun hb => ?_) (fun hb => ?_)
  · have h := (if_pos hb).symm.trans h
    refine Ev.run (pc' := 99) (ls' := [some (.ref 24), some (.long x1), none, some (.int x3), some (.ref (mRO + 3 + 2 * 64)), some (.int (zi 0))]) (st' := []) (h' := mk s) 4 rfl ?_
    exact k184_99 zF x3 (zi 0) s _ _ _ h
  · have h := (if_neg hb).symm.trans h
    refine Ev.run (pc' := 88) (ls' := [some (.ref 24), some (.long x1), none, some (.int x3), o4, o5]) (st' := [.ref (mRO + 3 + 2 * 63), .ref 24]) (h' := mk s) 2 rfl ?_
    obtain ⟨s1, hq, h⟩ := zb0_some h
    refine Ev.call (M' := mm176) (v := none) (h' := mk s1) rfl rfl rfl (Nat.le_of_ble_eq_true rfl) (k176 (by decide) hq) ?_
    first | (obtain rfl := Option.some.inj h) | (cases h)
    exact Ev.fin rfl rfl
def f184_58  (x1 : Int64) (y0 : Int32) (s : zS) : Option (zS) := if ¬ (r168 x1 (setI s 24 33 (zi 0))) = zi 0 then f184_78 x1 y0 (setI s 24 33 (zi 0)) else if (r169 x1 (setI s 24 33 (zi 0))) = zi 0 then if ¬ (s.1 24 18) = (zi 97) then zb0 (f234 32 (r166 x1 (setI s 24 33 (zi 0))) (r167 x1 (setI s 24 33 (zi 0))) (setI s 24 33 (zi 0))) (fun s1 => if (s1.1 24 17) ≥ zi 0 then f184_184 y0 (s1.1 24 17) s1 else f184_184 y0 (zi 6) s1) else zb0 (f188 x1 (setI s 24 33 (zi 0))) (fun s2 => zb0 (f182 y0 (zi 1) (zi 1) s2) (fun s3 => some s3)) else f184_78 x1 y0 (setI s 24 33 (zi 0))
set_option maxRecDepth 100000 in
theorem k184_58 {X : mX} {D : Nat}   (x1 : Int64) (y0 : Int32) (s : zS) (r : zS) (o3 : Option Value) (o4 : Option Value) (o5 : Option Value)  (h : f184_58  x1 y0 s = some r) : Ev X (D + 7) mm184 58 [some (.ref 24), some (.long x1), none, o3, o4, o5] [.int y0] (mk s) (encV r) := by
  unfold f184_58 at h
  refine Ev.run (pc' := 61) (ls' := [some (.ref 24), some (.long x1), none, some (.int y0), o4, o5]) (st' := [.int (zi 0), .ref 24]) (h' := mk s) 3 rfl ?_
  refine Ev.step (pc' := 64) rfl (put_12_33 rfl) ?_
  refine Ev.run (pc' := 65) (ls' := [some (.ref 24), some (.long x1), none, some (.int y0), o4, o5]) (st' := [.long x1]) (h' := mk (setI s 24 33 (zi 0))) 1 rfl ?_
  refine Ev.call (M' := mm168) (v := some (.int (r168 x1 (setI s 24 33 (zi 0))))) (h' := mk (setI s 24 33 (zi 0))) rfl rfl rfl (Nat.le_of_ble_eq_true rfl) (k168 (x0 := x1) (s := setI s 24 33 (zi 0)) (v := r168 x1 (setI s 24 33 (zi 0)))  rfl) ?_
  refine Ev.if_ne (t := 78) rfl rfl (fun hb => ?_) (fun hb => ?_)
  · have h := (if_pos hb).symm.trans h
    exact k184_78 x1 y0 (setI s 24 33 (zi 0)) _ _ _ h
  · have h := (if_neg hb).symm.trans h
    refine Ev.run (pc' := 72) (ls' := [some (.ref 24), some (.long x1), none, some (.int y0), o4, o5]) (st' := [.long x1]) (h' := mk (setI s 24 33 (zi 0))) 1 rfl ?_
    refine Ev.call (M' := mm169) (v := some (.int (r169 x1 (setI s 24 33 (zi 0))))) (h' := mk (setI s 24 33 (zi 0))) rfl rfl rfl (Nat.le_of_ble_eq_true rfl) (k169 (x0 := x1) (s := setI s 24 33 (zi 0)) (v := r169 x1 (setI s 24 33 (zi 0)))  rfl) ?_
    refine Ev.if_eq (t := 131) rfl rfl (fun hb => ?_) (fun hb => ?_)
    · have h := (if_pos hb).symm.trans h
      refine Ev.run (pc' := 137) (ls' := [some (.ref 24), some (.long x1), none, some (.int y0), o4, o5]) (st' := [.int (zi 97), .int (s.1 24 18)]) (h' := mk (setI s 24 33 (zi 0))) 3 rfl ?_
      refine Ev.icmp_ne (t := 153) rfl rfl (fun hb => ?_) (fun hb => ?_)
      · have h := (if_pos hb).symm.trans h
        refine Ev.run (pc' := 158) (ls' := [some (.ref 24), some (.long x1), none, some (.int y0), o4, o5]) (st' := [.long x1, .ref 32]) (h' := mk (setI s 24 33 (zi 0))) 3 rfl ?_
        refine Ev.call (M' := mm166) (v := some (.long (r166 x1 (setI s 24 33 (zi 0))))) (h' := mk (setI s 24 33 (zi 0))) rfl rfl rfl (Nat.le_of_ble_eq_true rfl) (k166 (x0 := x1) (s := setI s 24 33 (zi 0)) (v := r166 x1 (setI s 24 33 (zi 0)))  rfl) ?_
        refine Ev.run (pc' := 162) (ls' := [some (.ref 24), some (.long x1), none, some (.int y0), o4, o5]) (st' := [.long x1, .long (r166 x1 (setI s 24 33 (zi 0))), .ref 32]) (h' := mk (setI s 24 33 (zi 0))) 1 rfl ?_
        refine Ev.call (M' := mm167) (v := some (.int (r167 x1 (setI s 24 33 (zi 0))))) (h' := mk (setI s 24 33 (zi 0))) rfl rfl rfl (Nat.le_of_ble_eq_true rfl) (k167 (x0 := x1) (s := setI s 24 33 (zi 0)) (v := r167 x1 (setI s 24 33 (zi 0)))  rfl) ?_
        obtain ⟨s1, hq, h⟩ := zb0_some h
        refine Ev.call (M' := mm234) (v := none) (h' := mk s1) rfl rfl rfl (Nat.le_of_ble_eq_true rfl) (k234 (by decide) hq) ?_
        refine Ev.run (pc' := 172) (ls' := [some (.ref 24), some (.long x1), none, some (.int y0), o4, o5]) (st' := [.int (s1.1 24 17)]) (h' := mk s1) 2 rfl ?_
        refine Ev.if_ge (t := 180) rfl rfl (fun hb => ?_) (fun hb => ?_)
        · have h := (if_pos hb).symm.trans h
          refine Ev.run (pc' := 184) (ls' := [some (.ref 24), some (.long x1), none, some (.int y0), o4, o5]) (st' := [.int (s1.1 24 17)]) (h' := mk s1) 2 rfl ?_
          exact k184_184 y0 (s1.1 24 17) s1 _ _ _ _ _ h
        · have h := (if_neg hb).symm.trans h
          refine Ev.run (pc' := 184) (ls' := [some (.ref 24), some (.long x1), none, some (.int y0), o4, o5]) (st' := [.int (zi 6)]) (h' := mk s1) 2 rfl ?_
          exact k184_184 y0 (zi 6) s1 _ _ _ _ _ h
      · have h := (if_neg hb).symm.trans h
        refine Ev.run (pc' := 142) (ls' := [some (.ref 24), some (.long x1), none, some (.int y0), o4, o5]) (st' := [.long x1, .ref 24]) (h' := mk (setI s 24 33 (zi 0))) 2 rfl ?_
        obtain ⟨s2, hq, h⟩ := zb0_some h
        refine Ev.call (M' := mm188) (v := none) (h' := mk s2) rfl rfl rfl (Nat.le_of_ble_eq_true rfl) (k188 hq) ?_
        refine Ev.run (pc' := 149) (ls' := [some (.ref 24), some (.long x1), none, some (.int y0), o4, o5]) (st' := [.int (zi 1), .int (zi 1), .int y0, .ref 24]) (h' := mk s2) 4 rfl ?_
        obtain ⟨s3, hq, h⟩ := zb0_some h
        refine Ev.call (M' := mm182) (v := none) (h' := mk s3) rfl rfl rfl (Nat.le_of_ble_eq_true rfl) (k182 hq) ?_
        first | (obtain rfl := Option.some.inj h) | (cases h)
        exact Ev.fin rfl rfl
    · have h := (if_neg hb).symm.trans h
      exact k184_78 x1 y0 (setI s 24 33 (zi 0)) _ _ _ h
def f184_39  (y0 : Int64) (s : zS) : Option (zS) := if y0 ≥ (zl 0) then f184_58 y0 (zi 0) s else if ¬ (r168 y0 s) = zi 0 then f184_58 y0 (zi 0) s else f184_58 y0 (zi 1) s
set_option maxRecDepth 100000 in
theorem k184_39 {X : mX} {D : Nat}   (y0 : Int64) (s : zS) (r : zS) (o1 : Option Value) (o2 : Option Value) (o3 : Option Value) (o4 : Option Value) (o5 : Option Value)  (h : f184_39  y0 s = some r) : Ev X (D + 7) mm184 39 [some (.ref 24), o1, o2, o3, o4, o5] [.long y0] (mk s) (encV r) := by
  unfold f184_39 at h
  refine Ev.run (pc' := 43) (ls' := [some (.ref 24), some (.long y0), none, o3, o4, o5]) (st' := [.int (lg_cmp y0 (zl 0))]) (h' := mk s) 4 rfl ?_
  refine Ev.ifl_ge (t := 57) rfl rfl (fun hb => ?_) (fun hb => ?_)
  · have h := (if_pos hb).symm.trans h
    refine Ev.run (pc' := 58) (ls' := [some (.ref 24), some (.long y0), none, o3, o4, o5]) (st' := [.int (zi 0)]) (h' := mk s) 1 rfl ?_
    exact k184_58 y0 (zi 0) s _ _ _ _ h
  · have h := (if_neg hb).symm.trans h
    refine Ev.run (pc' := 47) (ls' := [some (.ref 24), some (.long y0), none, o3, o4, o5]) (st' := [.long y0]) (h' := mk s) 1 rfl ?_
    refine Ev.call (M' := mm168) (v := some (.int (r168 y0 s))) (h' := mk s) rfl rfl rfl (Nat.le_of_ble_eq_true rfl) (k168 (x0 := y0) (s := s) (v := r168 y0 s)  rfl) ?_
    refine Ev.if_ne (t := 57) rfl rfl (fun hb => ?_) (fun hb => ?_)
    · have h := (if_pos hb).symm.trans h
      refine Ev.run (pc' := 58) (ls' := [some (.ref 24), some (.long y0), none, o3, o4, o5]) (st' := [.int (zi 0)]) (h' := mk s) 1 rfl ?_
      exact k184_58 y0 (zi 0) s _ _ _ _ h
    · have h := (if_neg hb).symm.trans h
      refine Ev.run (pc' := 58) (ls' := [some (.ref 24), some (.long y0), none, o3, o4, o5]) (st' := [.int (zi 1)]) (h' := mk s) 2 rfl ?_
      exact k184_58 y0 (zi 1) s _ _ _ _ h
def f184   (s : zS) : Option (zS) := if mIx (s.1 24 35) 24 then if ¬ (s.1 29 ((s.1 24 35).toNatClampNeg)) = (zi 8) then if mIx (s.1 24 35) 24 then f184_39 (s.2.1 31 ((s.1 24 35).toNatClampNeg)) s else none else if mIx (s.1 24 35) 24 then zb1 (f170 (zL2I (s.2.1 31 ((s.1 24 35).toNatClampNeg))) s) (fun v2 s1 => f184_39 v2 s1) else none else none
set_option maxRecDepth 100000 in
theorem k184 {X : mX} {D : Nat}  {s : zS} {r : zS}  (h : f184  s = some r) : Ev X (D + 7) mm184 0 [some (.ref 24), none, none, none, none, none] [] (mk s) (encV r) := by
  unfold f184 at h
  refine Ev.run (pc' := 8) (ls' := [some (.ref 24), none, none, none, none, none]) (st' := [.int (s.1 24 35), .ref 29]) (h' := mk s) 4 rfl ?_
  obtain ⟨hx, h⟩ := zif h
  refine Ev.step (pc' := 9) rfl (ald_i rfl hx) ?_
  refine Ev.run (pc' := 11) (ls' := [some (.ref 24), none, none, none, none, none]) (st' := [.int (zi 8), .int (s.1 29 ((s.1 24 35).toNatClampNeg))]) (h' := mk s) 1 rfl ?_
  refine Ev.icmp_ne (t := 30) rfl rfl (fun hb => ?_) (fun hb => ?_)
  · have h := (if_pos hb).symm.trans h
    refine Ev.run (pc' := 38) (ls' := [some (.ref 24), none, none, none, none, none]) (st' := [.int (s.1 24 35), .ref 31]) (h' := mk s) 4 rfl ?_
    obtain ⟨hx, h⟩ := zif h
    refine Ev.step (pc' := 39) rfl (ald_l rfl hx) ?_
    exact k184_39 (s.2.1 31 ((s.1 24 35).toNatClampNeg)) s _ _ _ _ _ _ h
  · have h := (if_neg hb).symm.trans h
    refine Ev.run (pc' := 22) (ls' := [some (.ref 24), none, none, none, none, none]) (st' := [.int (s.1 24 35), .ref 31]) (h' := mk s) 4 rfl ?_
    obtain ⟨hx, h⟩ := zif h
    refine Ev.step (pc' := 23) rfl (ald_l rfl hx) ?_
    refine Ev.run (pc' := 24) (ls' := [some (.ref 24), none, none, none, none, none]) (st' := [.int (zL2I (s.2.1 31 ((s.1 24 35).toNatClampNeg)))]) (h' := mk s) 1 rfl ?_
    obtain ⟨v2, s1, hq, h⟩ := zb1_some h
    refine Ev.call (M' := mm170) (v := some (.long v2)) (h' := mk s1) rfl rfl rfl (Nat.le_of_ble_eq_true rfl) (k170 hq) ?_
    refine Ev.run (pc' := 39) (ls' := [some (.ref 24), none, none, none, none, none]) (st' := [.long v2]) (h' := mk s1) 1 rfl ?_
    exact k184_39 v2 s1 _ _ _ _ _ _ h
/-! 195 FModel.at(I)I -/
def f195  (x1 : Int32) (s : zS) : Option (Int32 × zS) := if x1 ≥ (s.1 24 34) then some (zi (-1), s) else if mIx x1 400 then some (s.1 26 x1.toNatClampNeg, s) else none
set_option maxRecDepth 100000 in
theorem k195 {X : mX} {D : Nat} {x1 : Int32} {s : zS} {r : Int32 × zS}  (h : f195 x1 s = some r) : Ev X D mm195 0 [some (.ref 24), some (.int x1)] [] (mk s) (encI r) := by
  unfold f195 at h
  refine Ev.run (pc' := 5) (ls' := [some (.ref 24), some (.int x1)]) (st' := [.int (s.1 24 34), .int x1]) (h' := mk s) 3 rfl ?_
  refine Ev.icmp_ge (t := 17) rfl rfl (fun hb => ?_) (fun hb => ?_)
  · have h := (if_pos hb).symm.trans h
    refine Ev.run (pc' := 18) (ls' := [some (.ref 24), some (.int x1)]) (st' := [.int (zi (-1))]) (h' := mk s) 1 rfl ?_
    first | (obtain rfl := Option.some.inj h) | (cases h)
    exact Ev.fin rfl rfl
  · have h := (if_neg hb).symm.trans h
    refine Ev.run (pc' := 13) (ls' := [some (.ref 24), some (.int x1)]) (st' := [.int x1, .ref 26]) (h' := mk s) 3 rfl ?_
    obtain ⟨hx, h⟩ := zif h
    refine Ev.step (pc' := 14) rfl (ald_b rfl hx) ?_
    refine Ev.run (pc' := 18) (ls' := [some (.ref 24), some (.int x1)]) (st' := [.int (s.1 26 x1.toNatClampNeg)]) (h' := mk s) 1 rfl ?_
    first | (obtain rfl := Option.some.inj h) | (cases h)
    exact Ev.fin rfl rfl
/-! 196 FModel.isDigit(I)Z -/
def r196 (x0 : Int32) (s : zS) : Int32 := if x0 < (zi 48) then zi 0 else if x0 > (zi 57) then zi 0 else zi 1
set_option maxRecDepth 100000 in
theorem k196 {X : mX} {D : Nat} {x0 : Int32} {s : zS} {v : Int32} (h : r196 x0 s = v) : Ev X D mm196 0 [some (.int x0)] [] (mk s) (encI (v, s)) := by
  unfold r196 at h
  refine Ev.run (pc' := 3) (ls' := [some (.int x0)]) (st' := [.int (zi 48), .int x0]) (h' := mk s) 2 rfl ?_
  refine Ev.icmp_lt (t := 16) rfl rfl (fun hb => ?_) (fun hb => ?_)
  · have h := (if_pos hb).symm.trans h
    refine Ev.run (pc' := 17) (ls' := [some (.int x0)]) (st' := [.int (zi 0)]) (h' := mk s) 1 rfl ?_
    subst h
    exact Ev.fin rfl rfl
  · have h := (if_neg hb).symm.trans h
    refine Ev.run (pc' := 9) (ls' := [some (.int x0)]) (st' := [.int (zi 57), .int x0]) (h' := mk s) 2 rfl ?_
    refine Ev.icmp_gt (t := 16) rfl rfl (fun hb => ?_) (fun hb => ?_)
    · have h := (if_pos hb).symm.trans h
      refine Ev.run (pc' := 17) (ls' := [some (.int x0)]) (st' := [.int (zi 0)]) (h' := mk s) 1 rfl ?_
      subst h
      exact Ev.fin rfl rfl
    · have h := (if_neg hb).symm.trans h
      refine Ev.run (pc' := 17) (ls' := [some (.int x0)]) (st' := [.int (zi 1)]) (h' := mk s) 2 rfl ?_
      subst h
      exact Ev.fin rfl rfl
/-! 197 FModel.numberEnd(I)I -/
def b197_2 (rec2 : Int32 → Int32 → zS → Option (Int32 × zS)) (x1 : Int32) (x2 : Int32) (s : zS) : Option (Int32 × zS) := zb1 (f195 x2 s) (fun v2 s1 => if (r196 v2 s1) = zi 0 then some (x2, s1) else rec2 x1 (x2 + zi 1) s1)
set_option maxRecDepth 100000 in
theorem kb197_2 {X : mX} {D : Nat} {rec2 : Int32 → Int32 → zS → Option (Int32 × zS)} (hrec2 : ∀ (x1 : Int32) (x2 : Int32) (s : zS) (r : Int32 × zS) , rec2 x1 x2 s = some r → Ev X (D + 1) mm197 2 [some (.ref 24), some (.int x1), some (.int x2)] [] (mk s) (encI r)) (x1 : Int32) (x2 : Int32) (s : zS) (r : Int32 × zS)   (h : b197_2 rec2 x1 x2 s = some r) : Ev X (D + 1) mm197 2 [some (.ref 24), some (.int x1), some (.int x2)] [] (mk s) (encI r) := by
  unfold b197_2 at h
  refine Ev.run (pc' := 4) (ls' := [some (.ref 24), some (.int x1), some (.int x2)]) (st' := [.int x2, .ref 24]) (h' := mk s) 2 rfl ?_
  obtain ⟨v2, s1, hq, h⟩ := zb1_some h
  refine Ev.call (M' := mm195) (v := some (.int v2)) (h' := mk s1) rfl rfl rfl (Nat.le_of_ble_eq_true rfl) (k195 hq) ?_
  refine Ev.call (M' := mm196) (v := some (.int (r196 v2 s1))) (h' := mk s1) rfl rfl rfl (Nat.le_of_ble_eq_true rfl) (k196 (x0 := v2) (s := s1) (v := r196 v2 s1)  rfl) ?_
  refine Ev.if_eq (t := 19) rfl rfl (fun hb => ?_) (fun hb => ?_)
  · have h := (if_pos hb).symm.trans h
    refine Ev.run (pc' := 20) (ls' := [some (.ref 24), some (.int x1), some (.int x2)]) (st' := [.int x2]) (h' := mk s1) 1 rfl ?_
    first | (obtain rfl := Option.some.inj h) | (cases h)
    exact Ev.fin rfl rfl
  · have h := (if_neg hb).symm.trans h
    refine Ev.run (pc' := 2) (ls' := [some (.ref 24), some (.int x1), some (.int (x2 + zi 1))]) (st' := []) (h' := mk s1) 2 rfl ?_
    exact hrec2 x1 (x2 + zi 1) s1 _ h
def f197_2  : Nat → Int32 → Int32 → zS → Option (Int32 × zS)
  | 0, _, _, _ => none
  | n + 1, x1, x2, s => b197_2 (f197_2 n) x1 x2 s
set_option maxRecDepth 100000 in
theorem k197_2 {X : mX} {D : Nat}   (n : Nat) : ∀ (x1 : Int32) (x2 : Int32) (s : zS) (r : Int32 × zS) , f197_2  n x1 x2 s = some r → Ev X (D + 1) mm197 2 [some (.ref 24), some (.int x1), some (.int x2)] [] (mk s) (encI r) := by
  induction n with
  | zero => intro x1 x2 s r   h; cases h
  | succ n ih => intro x1 x2 s r   h; exact kb197_2  ih x1 x2 s r   h
def f197  (x1 : Int32) (s : zS) : Option (Int32 × zS) := f197_2 zF x1 x1 s
set_option maxRecDepth 100000 in
theorem k197 {X : mX} {D : Nat} {x1 : Int32} {s : zS} {r : Int32 × zS}  (h : f197 x1 s = some r) : Ev X (D + 1) mm197 0 [some (.ref 24), some (.int x1), none] [] (mk s) (encI r) := by
  unfold f197 at h
  refine Ev.run (pc' := 2) (ls' := [some (.ref 24), some (.int x1), some (.int x1)]) (st' := []) (h' := mk s) 2 rfl ?_
  exact k197_2 zF x1 x1 s _ h
/-! 198 FModel.numberAt(II)I -/
def b198_5 (rec5 : Int32 → Int32 → Int32 → zS → Option (Int32 × zS)) (x2 : Int32) (x3 : Int32) (x4 : Int32) (s : zS) : Option (Int32 × zS) := if x4 ≥ x2 then some (x3, s) else zb1 (f195 x4 s) (fun v2 s1 => rec5 x2 ((((zi 10) * x3) + v2) - (zi 48)) (x4 + zi 1) s1)
set_option maxRecDepth 100000 in
theorem kb198_5 {X : mX} {D : Nat} {rec5 : Int32 → Int32 → Int32 → zS → Option (Int32 × zS)} (hrec5 : ∀ (x2 : Int32) (x3 : Int32) (x4 : Int32) (s : zS) (r : Int32 × zS) (o1 : Option Value), rec5 x2 x3 x4 s = some r → Ev X (D + 1) mm198 5 [some (.ref 24), o1, some (.int x2), some (.int x3), some (.int x4)] [] (mk s) (encI r)) (x2 : Int32) (x3 : Int32) (x4 : Int32) (s : zS) (r : Int32 × zS) (o1 : Option Value)  (h : b198_5 rec5 x2 x3 x4 s = some r) : Ev X (D + 1) mm198 5 [some (.ref 24), o1, some (.int x2), some (.int x3), some (.int x4)] [] (mk s) (encI r) := by
  unfold b198_5 at h
  refine Ev.run (pc' := 8) (ls' := [some (.ref 24), o1, some (.int x2), some (.int x3), some (.int x4)]) (st' := [.int x2, .int x4]) (h' := mk s) 2 rfl ?_
  refine Ev.icmp_ge (t := 32) rfl rfl (fun hb => ?_) (fun hb => ?_)
  · have h := (if_pos hb).symm.trans h
    refine Ev.run (pc' := 33) (ls' := [some (.ref 24), o1, some (.int x2), some (.int x3), some (.int x4)]) (st' := [.int x3]) (h' := mk s) 1 rfl ?_
    first | (obtain rfl := Option.some.inj h) | (cases h)
    exact Ev.fin rfl rfl
  · have h := (if_neg hb).symm.trans h
    refine Ev.run (pc' := 18) (ls' := [some (.ref 24), o1, some (.int x2), some (.int x3), some (.int x4)]) (st' := [.int x4, .ref 24, .int ((zi 10) * x3)]) (h' := mk s) 5 rfl ?_
    obtain ⟨v2, s1, hq, h⟩ := zb1_some h
    refine Ev.call (M' := mm195) (v := some (.int v2)) (h' := mk s1) rfl rfl rfl (Nat.le_of_ble_eq_true rfl) (k195 hq) ?_
    refine Ev.run (pc' := 5) (ls' := [some (.ref 24), o1, some (.int x2), some (.int ((((zi 10) * x3) + v2) - (zi 48))), some (.int (x4 + zi 1))]) (st' := []) (h' := mk s1) 6 rfl ?_
    exact hrec5 x2 ((((zi 10) * x3) + v2) - (zi 48)) (x4 + zi 1) s1 _ _ h
def f198_5  : Nat → Int32 → Int32 → Int32 → zS → Option (Int32 × zS)
  | 0, _, _, _, _ => none
  | n + 1, x2, x3, x4, s => b198_5 (f198_5 n) x2 x3 x4 s
set_option maxRecDepth 100000 in
theorem k198_5 {X : mX} {D : Nat}   (n : Nat) : ∀ (x2 : Int32) (x3 : Int32) (x4 : Int32) (s : zS) (r : Int32 × zS) (o1 : Option Value), f198_5  n x2 x3 x4 s = some r → Ev X (D + 1) mm198 5 [some (.ref 24), o1, some (.int x2), some (.int x3), some (.int x4)] [] (mk s) (encI r) := by
  induction n with
  | zero => intro x2 x3 x4 s r o1  h; cases h
  | succ n ih => intro x2 x3 x4 s r o1  h; exact kb198_5  ih x2 x3 x4 s r o1  h
def f198  (x1 : Int32) (x2 : Int32) (s : zS) : Option (Int32 × zS) := f198_5 zF x2 (zi 0) x1 s
set_option maxRecDepth 100000 in
theorem k198 {X : mX} {D : Nat} {x1 : Int32} {x2 : Int32} {s : zS} {r : Int32 × zS}  (h : f198 x1 x2 s = some r) : Ev X (D + 1) mm198 0 [some (.ref 24), some (.int x1), some (.int x2), none, none] [] (mk s) (encI r) := by
  unfold f198 at h
  refine Ev.run (pc' := 5) (ls' := [some (.ref 24), some (.int x1), some (.int x2), some (.int (zi 0)), some (.int x1)]) (st' := []) (h' := mk s) 4 rfl ?_
  exact k198_5 zF x2 (zi 0) x1 s _ _ h
/-! 200 FModel.taken(I)I -/
def r200 (x0 : Int32) (s : zS) : Int32 := if x0 = zi 97 then zi 31 else if x0 = zi 100 then zi 125 else if x0 = zi 101 then zi 95 else if x0 = zi 102 then zi 127 else if x0 = zi 103 then zi 125 else if x0 = zi 110 then zi 0 else if x0 = zi 111 ∨ x0 = zi 120 then zi 19 else zi 1
set_option maxRecDepth 100000 in
theorem k200 {X : mX} {D : Nat} {x0 : Int32} {s : zS} {v : Int32} (h : r200 x0 s = v) : Ev X D mm200 0 [some (.int x0)] [] (mk s) (encI (v, s)) := by
  unfold r200 at h
  refine Ev.run (pc' := 1) (ls' := [some (.int x0)]) (st' := [.int x0]) (h' := mk s) 1 rfl ?_
  by_cases hb : x0 = zi 97
  · have h := (if_pos hb).symm.trans h
    refine Ev.tsw (t := 129) (k := 97) rfl hb (by rfl) ?_
    refine Ev.run (pc' := 131) (ls' := [some (.int x0)]) (st' := [.int (zi 31)]) (h' := mk s) 1 rfl ?_
    subst h
    exact Ev.fin rfl rfl
  have h := (if_neg hb).symm.trans h
  have n_97 := hb
  clear hb
  by_cases hb : x0 = zi 100
  · have h := (if_pos hb).symm.trans h
    refine Ev.tsw (t := 114) (k := 100) rfl hb (by rfl) ?_
    refine Ev.run (pc' := 116) (ls' := [some (.int x0)]) (st' := [.int (zi 125)]) (h' := mk s) 1 rfl ?_
    subst h
    exact Ev.fin rfl rfl
  have h := (if_neg hb).symm.trans h
  have n_100 := hb
  clear hb
  by_cases hb : x0 = zi 101
  · have h := (if_pos hb).symm.trans h
    refine Ev.tsw (t := 120) (k := 101) rfl hb (by rfl) ?_
    refine Ev.run (pc' := 122) (ls' := [some (.int x0)]) (st' := [.int (zi 95)]) (h' := mk s) 1 rfl ?_
    subst h
    exact Ev.fin rfl rfl
  have h := (if_neg hb).symm.trans h
  have n_101 := hb
  clear hb
  by_cases hb : x0 = zi 102
  · have h := (if_pos hb).symm.trans h
    refine Ev.tsw (t := 123) (k := 102) rfl hb (by rfl) ?_
    refine Ev.run (pc' := 125) (ls' := [some (.int x0)]) (st' := [.int (zi 127)]) (h' := mk s) 1 rfl ?_
    subst h
    exact Ev.fin rfl rfl
  have h := (if_neg hb).symm.trans h
  have n_102 := hb
  clear hb
  by_cases hb : x0 = zi 103
  · have h := (if_pos hb).symm.trans h
    refine Ev.tsw (t := 126) (k := 103) rfl hb (by rfl) ?_
    refine Ev.run (pc' := 128) (ls' := [some (.int x0)]) (st' := [.int (zi 125)]) (h' := mk s) 1 rfl ?_
    subst h
    exact Ev.fin rfl rfl
  have h := (if_neg hb).symm.trans h
  have n_103 := hb
  clear hb
  by_cases hb : x0 = zi 110
  · have h := (if_pos hb).symm.trans h
    refine Ev.tsw (t := 112) (k := 110) rfl hb (by rfl) ?_
    refine Ev.run (pc' := 113) (ls' := [some (.int x0)]) (st' := [.int (zi 0)]) (h' := mk s) 1 rfl ?_
    subst h
    exact Ev.fin rfl rfl
  have h := (if_neg hb).symm.trans h
  have n_110 := hb
  clear hb
  by_cases hb : x0 = zi 111 ∨ x0 = zi 120
  · have h := (if_pos hb).symm.trans h
    refine Ev.tswx (t := 117) rfl (by rcases hb with hb | hb <;> (rw [hb]; rfl)) ?_
    refine Ev.run (pc' := 119) (ls' := [some (.int x0)]) (st' := [.int (zi 19)]) (h' := mk s) 1 rfl ?_
    subst h
    exact Ev.fin rfl rfl
  have h := (if_neg hb).symm.trans h
  have n_111 := (not_or.mp hb).1
  have hb := (not_or.mp hb).2
  have n_120 := hb
  clear hb
  refine Ev.tswd (t := 132) rfl (by rfl) (by decide) (fun q hq hx => ?_) ?_
  · have hq : q < 24 := hq
    have hq2 : q = 0 ∨ q = 1 ∨ q = 2 ∨ q = 3 ∨ q = 4 ∨ q = 5 ∨ q = 6 ∨ q = 7 ∨ q = 8 ∨ q = 9 ∨ q = 10 ∨ q = 11 ∨ q = 12 ∨ q = 13 ∨ q = 14 ∨ q = 15 ∨ q = 16 ∨ q = 17 ∨ q = 18 ∨ q = 19 ∨ q = 20 ∨ q = 21 ∨ q = 22 ∨ q = 23 := by omega
    rcases hq2 with rfl | rfl | rfl | rfl | rfl | rfl | rfl | rfl | rfl | rfl | rfl | rfl | rfl | rfl | rfl | rfl | rfl | rfl | rfl | rfl | rfl | rfl | rfl | rfl
    · exact absurd (zi_of_toInt hx) n_97
    · exact ⟨_, rfl, rfl⟩
    · exact ⟨_, rfl, rfl⟩
    · exact absurd (zi_of_toInt hx) n_100
    · exact absurd (zi_of_toInt hx) n_101
    · exact absurd (zi_of_toInt hx) n_102
    · exact absurd (zi_of_toInt hx) n_103
    · exact ⟨_, rfl, rfl⟩
    · exact ⟨_, rfl, rfl⟩
    · exact ⟨_, rfl, rfl⟩
    · exact ⟨_, rfl, rfl⟩
    · exact ⟨_, rfl, rfl⟩
    · exact ⟨_, rfl, rfl⟩
    · exact absurd (zi_of_toInt hx) n_110
    · exact absurd (zi_of_toInt hx) n_111
    · exact ⟨_, rfl, rfl⟩
    · exact ⟨_, rfl, rfl⟩
    · exact ⟨_, rfl, rfl⟩
    · exact ⟨_, rfl, rfl⟩
    · exact ⟨_, rfl, rfl⟩
    · exact ⟨_, rfl, rfl⟩
    · exact ⟨_, rfl, rfl⟩
    · exact ⟨_, rfl, rfl⟩
    · exact absurd (zi_of_toInt hx) n_120
  · refine Ev.run (pc' := 133) (ls' := [some (.int x0)]) (st' := [.int (zi 1)]) (h' := mk s) 1 rfl ?_
    subst h
    exact Ev.fin rfl rfl
/-! 199 FModel.spec(I)I -/
def f199_520   (s : zS) : Option (Int32 × zS) := if (s.1 24 17) < zi 0 then some (zi 0, s) else if (zidx 59 (s.1 24 18)) < zi 0 then some (zi 0, s) else some (zi 7, s)
set_option maxRecDepth 100000 in
theorem k199_520 {X : mX} {D : Nat}    (s : zS) (r : Int32 × zS) (o1 : Option Value) (o2 : Option Value) (o3 : Option Value) (o4 : Option Value) (o5 : Option Value)  (h : f199_520   s = some r) : Ev X (D + 5) mm199 520 [some (.ref 24), o1, o2, o3, o4, o5] [] (mk s) (encI r) := by
  unfold f199_520 at h
  refine Ev.run (pc' := 524) (ls' := [some (.ref 24), o1, o2, o3, o4, o5]) (st' := [.int (s.1 24 17)]) (h' := mk s) 2 rfl ?_
  refine Ev.if_lt (t := 545) rfl rfl (fun hb => ?_) (fun hb => ?_)
  · have h := (if_pos hb).symm.trans h
    refine Ev.run (pc' := 546) (ls' := [some (.ref 24), o1, o2, o3, o4, o5]) (st' := [.int (zi 0)]) (h' := mk s) 1 rfl ?_
    first | (obtain rfl := Option.some.inj h) | (cases h)
    exact Ev.fin rfl rfl
  · have h := (if_neg hb).symm.trans h
    refine Ev.run (pc' := 534) (ls' := [some (.ref 24), o1, o2, o3, o4, o5]) (st' := [.int (s.1 24 18), .ref (mRO + 3 + 2 * 59)]) (h' := mk s) 3 rfl ?_
    refine Ev.call (M' := mm243) (as := [.ref (mRO + 3 + 2 * 59), .int (s.1 24 18)]) (rest := []) (v := some (.int (zidx 59 (s.1 24 18)))) (h' := mk s) rfl (litcall rfl rfl (by decide) rfl rfl) rfl (Nat.le_of_ble_eq_true rfl) (kindexof (by decide)) ?_
    refine Ev.if_lt (t := 545) rfl rfl (fun hb => ?_) (fun hb => ?_)
    · have h := (if_pos hb).symm.trans h
      refine Ev.run (pc' := 546) (ls' := [some (.ref 24), o1, o2, o3, o4, o5]) (st' := [.int (zi 0)]) (h' := mk s) 1 rfl ?_
      first | (obtain rfl := Option.some.inj h) | (cases h)
      exact Ev.fin rfl rfl
    · have h := (if_neg hb).symm.trans h
      refine Ev.run (pc' := 546) (ls' := [some (.ref 24), o1, o2, o3, o4, o5]) (st' := [.int (zi 7)]) (h' := mk s) 2 rfl ?_
      first | (obtain rfl := Option.some.inj h) | (cases h)
      exact Ev.fin rfl rfl
def f199_501   (s : zS) : Option (Int32 × zS) := if ¬ (s.1 24 18) = (zi 110) then f199_520 s else if (s.1 24 16) < zi 0 then f199_520 s else some (zi 6, s)
set_option maxRecDepth 100000 in
theorem k199_501 {X : mX} {D : Nat}    (s : zS) (r : Int32 × zS) (o1 : Option Value) (o2 : Option Value) (o3 : Option Value) (o4 : Option Value) (o5 : Option Value)  (h : f199_501   s = some r) : Ev X (D + 5) mm199 501 [some (.ref 24), o1, o2, o3, o4, o5] [] (mk s) (encI r) := by
  unfold f199_501 at h
  refine Ev.run (pc' := 507) (ls' := [some (.ref 24), o1, o2, o3, o4, o5]) (st' := [.int (zi 110), .int (s.1 24 18)]) (h' := mk s) 3 rfl ?_
  refine Ev.icmp_ne (t := 520) rfl rfl (fun hb => ?_) (fun hb => ?_)
  · have h := (if_pos hb).symm.trans h
    exact k199_520 s _ _ _ _ _ _ h
  · have h := (if_neg hb).symm.trans h
    refine Ev.run (pc' := 514) (ls' := [some (.ref 24), o1, o2, o3, o4, o5]) (st' := [.int (s.1 24 16)]) (h' := mk s) 2 rfl ?_
    refine Ev.if_lt (t := 520) rfl rfl (fun hb => ?_) (fun hb => ?_)
    · have h := (if_pos hb).symm.trans h
      exact k199_520 s _ _ _ _ _ _ h
    · have h := (if_neg hb).symm.trans h
      refine Ev.run (pc' := 519) (ls' := [some (.ref 24), o1, o2, o3, o4, o5]) (st' := [.int (zi 6)]) (h' := mk s) 1 rfl ?_
      first | (obtain rfl := Option.some.inj h) | (cases h)
      exact Ev.fin rfl rfl
def f199_476   (s : zS) : Option (Int32 × zS) := if (r180 (s.1 24 15) (zi 4) s) = zi 0 then f199_501 s else if (r180 (s.1 24 15) (zi 8) s) = zi 0 then f199_501 s else some (zi 5, s)
set_option maxRecDepth 100000 in
theorem k199_476 {X : mX} {D : Nat}    (s : zS) (r : Int32 × zS) (o1 : Option Value) (o2 : Option Value) (o3 : Option Value) (o4 : Option Value) (o5 : Option Value)  (h : f199_476   s = some r) : Ev X (D + 5) mm199 476 [some (.ref 24), o1, o2, o3, o4, o5] [] (mk s) (encI r) := by
  unfold f199_476 at h
  refine Ev.run (pc' := 481) (ls' := [some (.ref 24), o1, o2, o3, o4, o5]) (st' := [.int (zi 4), .int (s.1 24 15)]) (h' := mk s) 3 rfl ?_
  refine Ev.call (M' := mm180) (v := some (.int (r180 (s.1 24 15) (zi 4) s))) (h' := mk s) rfl rfl rfl (Nat.le_of_ble_eq_true rfl) (k180 (x0 := (s.1 24 15)) (x1 := (zi 4)) (s := s) (v := r180 (s.1 24 15) (zi 4) s)  rfl) ?_
  refine Ev.if_eq (t := 501) rfl rfl (fun hb => ?_) (fun hb => ?_)
  · have h := (if_pos hb).symm.trans h
    exact k199_501 s _ _ _ _ _ _ h
  · have h := (if_neg hb).symm.trans h
    refine Ev.run (pc' := 493) (ls' := [some (.ref 24), o1, o2, o3, o4, o5]) (st' := [.int (zi 8), .int (s.1 24 15)]) (h' := mk s) 3 rfl ?_
    refine Ev.call (M' := mm180) (v := some (.int (r180 (s.1 24 15) (zi 8) s))) (h' := mk s) rfl rfl rfl (Nat.le_of_ble_eq_true rfl) (k180 (x0 := (s.1 24 15)) (x1 := (zi 8)) (s := s) (v := r180 (s.1 24 15) (zi 8) s)  rfl) ?_
    refine Ev.if_eq (t := 501) rfl rfl (fun hb => ?_) (fun hb => ?_)
    · have h := (if_pos hb).symm.trans h
      exact k199_501 s _ _ _ _ _ _ h
    · have h := (if_neg hb).symm.trans h
      refine Ev.run (pc' := 500) (ls' := [some (.ref 24), o1, o2, o3, o4, o5]) (st' := [.int (zi 5)]) (h' := mk s) 1 rfl ?_
      first | (obtain rfl := Option.some.inj h) | (cases h)
      exact Ev.fin rfl rfl
def f199_453   (s : zS) : Option (Int32 × zS) := if (r180 (s.1 24 15) (zi 1) s) = zi 0 then f199_476 s else if ¬ (r180 (s.1 24 15) (zi 16) s) = zi 0 then some (zi 5, s) else f199_476 s
set_option maxRecDepth 100000 in
theorem k199_453 {X : mX} {D : Nat}    (s : zS) (r : Int32 × zS) (o1 : Option Value) (o2 : Option Value) (o3 : Option Value) (o4 : Option Value) (o5 : Option Value)  (h : f199_453   s = some r) : Ev X (D + 5) mm199 453 [some (.ref 24), o1, o2, o3, o4, o5] [] (mk s) (encI r) := by
  unfold f199_453 at h
  refine Ev.run (pc' := 458) (ls' := [some (.ref 24), o1, o2, o3, o4, o5]) (st' := [.int (zi 1), .int (s.1 24 15)]) (h' := mk s) 3 rfl ?_
  refine Ev.call (M' := mm180) (v := some (.int (r180 (s.1 24 15) (zi 1) s))) (h' := mk s) rfl rfl rfl (Nat.le_of_ble_eq_true rfl) (k180 (x0 := (s.1 24 15)) (x1 := (zi 1)) (s := s) (v := r180 (s.1 24 15) (zi 1) s)  rfl) ?_
  refine Ev.if_eq (t := 476) rfl rfl (fun hb => ?_) (fun hb => ?_)
  · have h := (if_pos hb).symm.trans h
    exact k199_476 s _ _ _ _ _ _ h
  · have h := (if_neg hb).symm.trans h
    refine Ev.run (pc' := 470) (ls' := [some (.ref 24), o1, o2, o3, o4, o5]) (st' := [.int (zi 16), .int (s.1 24 15)]) (h' := mk s) 3 rfl ?_
    refine Ev.call (M' := mm180) (v := some (.int (r180 (s.1 24 15) (zi 16) s))) (h' := mk s) rfl rfl rfl (Nat.le_of_ble_eq_true rfl) (k180 (x0 := (s.1 24 15)) (x1 := (zi 16)) (s := s) (v := r180 (s.1 24 15) (zi 16) s)  rfl) ?_
    refine Ev.if_ne (t := 499) rfl rfl (fun hb => ?_) (fun hb => ?_)
    · have h := (if_pos hb).symm.trans h
      refine Ev.run (pc' := 500) (ls' := [some (.ref 24), o1, o2, o3, o4, o5]) (st' := [.int (zi 5)]) (h' := mk s) 1 rfl ?_
      first | (obtain rfl := Option.some.inj h) | (cases h)
      exact Ev.fin rfl rfl
    · have h := (if_neg hb).symm.trans h
      exact k199_476 s _ _ _ _ _ _ h
def f199_399  (x2 : Int32) (x4 : Int32) (s : zS) : Option (Int32 × zS) := if x4 = zi 0 then if ((s.1 24 15) &&& ((r200 (s.1 24 18) (setI s 24 20 (x2 + (zi 1)))) ^^^ (zi (-1)))) = zi 0 then if (r180 (s.1 24 15) (zi 17) (setI s 24 20 (x2 + (zi 1)))) = zi 0 then f199_453 (setI s 24 20 (x2 + (zi 1))) else if (s.1 24 16) ≥ zi 0 then f199_453 (setI s 24 20 (x2 + (zi 1))) else some (zi 4, setI s 24 20 (x2 + (zi 1))) else some (zi 3, setI s 24 20 (x2 + (zi 1))) else some (zi 2, setI s 24 20 (x2 + (zi 1)))
set_option maxRecDepth 100000 in
theorem k199_399 {X : mX} {D : Nat}   (x2 : Int32) (x4 : Int32) (s : zS) (r : Int32 × zS) (o1 : Option Value) (o3 : Option Value) (o5 : Option Value)  (h : f199_399  x2 x4 s = some r) : Ev X (D + 5) mm199 399 [some (.ref 24), o1, some (.int x2), o3, some (.int x4), o5] [] (mk s) (encI r) := by
  unfold f199_399 at h
  refine Ev.run (pc' := 403) (ls' := [some (.ref 24), o1, some (.int x2), o3, some (.int x4), o5]) (st' := [.int (x2 + (zi 1)), .ref 24]) (h' := mk s) 4 rfl ?_
  refine Ev.step (pc' := 406) rfl (put_12_20 rfl) ?_
  refine Ev.run (pc' := 408) (ls' := [some (.ref 24), o1, some (.int x2), o3, some (.int x4), o5]) (st' := [.int x4]) (h' := mk (setI s 24 20 (x2 + (zi 1)))) 1 rfl ?_
  refine Ev.if_eq (t := 413) rfl rfl (fun hb => ?_) (fun hb => ?_)
  · have h := (if_pos hb).symm.trans h
    refine Ev.run (pc' := 421) (ls' := [some (.ref 24), o1, some (.int x2), o3, some (.int x4), o5]) (st' := [.int (s.1 24 18), .int (s.1 24 15)]) (h' := mk (setI s 24 20 (x2 + (zi 1)))) 4 rfl ?_
    refine Ev.call (M' := mm200) (v := some (.int (r200 (s.1 24 18) (setI s 24 20 (x2 + (zi 1)))))) (h' := mk (setI s 24 20 (x2 + (zi 1)))) rfl rfl rfl (Nat.le_of_ble_eq_true rfl) (k200 (x0 := (s.1 24 18)) (s := setI s 24 20 (x2 + (zi 1))) (v := r200 (s.1 24 18) (setI s 24 20 (x2 + (zi 1))))  rfl) ?_
    refine Ev.run (pc' := 427) (ls' := [some (.ref 24), o1, some (.int x2), o3, some (.int x4), o5]) (st' := [.int ((s.1 24 15) &&& ((r200 (s.1 24 18) (setI s 24 20 (x2 + (zi 1)))) ^^^ (zi (-1))))]) (h' := mk (setI s 24 20 (x2 + (zi 1)))) 3 rfl ?_
    refine Ev.if_eq (t := 432) rfl rfl (fun hb => ?_) (fun hb => ?_)
    · have h := (if_pos hb).symm.trans h
      refine Ev.run (pc' := 438) (ls' := [some (.ref 24), o1, some (.int x2), o3, some (.int x4), o5]) (st' := [.int (zi 17), .int (s.1 24 15)]) (h' := mk (setI s 24 20 (x2 + (zi 1)))) 3 rfl ?_
      refine Ev.call (M' := mm180) (v := some (.int (r180 (s.1 24 15) (zi 17) (setI s 24 20 (x2 + (zi 1)))))) (h' := mk (setI s 24 20 (x2 + (zi 1)))) rfl rfl rfl (Nat.le_of_ble_eq_true rfl) (k180 (x0 := (s.1 24 15)) (x1 := (zi 17)) (s := setI s 24 20 (x2 + (zi 1))) (v := r180 (s.1 24 15) (zi 17) (setI s 24 20 (x2 + (zi 1))))  rfl) ?_
      refine Ev.if_eq (t := 453) rfl rfl (fun hb => ?_) (fun hb => ?_)
      · have h := (if_pos hb).symm.trans h
        exact k199_453 (setI s 24 20 (x2 + (zi 1))) _ _ _ _ _ _ h
      · have h := (if_neg hb).symm.trans h
        refine Ev.run (pc' := 448) (ls' := [some (.ref 24), o1, some (.int x2), o3, some (.int x4), o5]) (st' := [.int (s.1 24 16)]) (h' := mk (setI s 24 20 (x2 + (zi 1)))) 2 rfl ?_
        refine Ev.if_ge (t := 453) rfl rfl (fun hb => ?_) (fun hb => ?_)
        · have h := (if_pos hb).symm.trans h
          exact k199_453 (setI s 24 20 (x2 + (zi 1))) _ _ _ _ _ _ h
        · have h := (if_neg hb).symm.trans h
          refine Ev.run (pc' := 452) (ls' := [some (.ref 24), o1, some (.int x2), o3, some (.int x4), o5]) (st' := [.int (zi 4)]) (h' := mk (setI s 24 20 (x2 + (zi 1)))) 1 rfl ?_
          first | (obtain rfl := Option.some.inj h) | (cases h)
          exact Ev.fin rfl rfl
    · have h := (if_neg hb).symm.trans h
      refine Ev.run (pc' := 431) (ls' := [some (.ref 24), o1, some (.int x2), o3, some (.int x4), o5]) (st' := [.int (zi 3)]) (h' := mk (setI s 24 20 (x2 + (zi 1)))) 1 rfl ?_
      first | (obtain rfl := Option.some.inj h) | (cases h)
      exact Ev.fin rfl rfl
  · have h := (if_neg hb).symm.trans h
    refine Ev.run (pc' := 412) (ls' := [some (.ref 24), o1, some (.int x2), o3, some (.int x4), o5]) (st' := [.int (zi 2)]) (h' := mk (setI s 24 20 (x2 + (zi 1)))) 1 rfl ?_
    first | (obtain rfl := Option.some.inj h) | (cases h)
    exact Ev.fin rfl rfl
def f199_348  (x1 : Int32) (x2 : Int32) (x4 : Int32) (y1 : Int32) (s : zS) : Option (Int32 × zS) := if ¬ y1 = (zi 116) then f199_399 x2 x4 (setI (setI s 24 18 y1) 24 19 (zi 0)) else zb1 (f195 (x2 + zi 1) (setI (setI s 24 18 y1) 24 19 (zi 0))) (fun v2 s1 => if v2 < zi 0 then some (zi 1, setI s1 24 19 v2) else if (zidx 58 v2) ≥ zi 0 then f199_399 (x2 + zi 1) x4 (setI s1 24 19 v2) else some (zi 1, setI s1 24 19 v2))
set_option maxRecDepth 100000 in
theorem k199_348 {X : mX} {D : Nat}   (x1 : Int32) (x2 : Int32) (x4 : Int32) (y1 : Int32) (s : zS) (r : Int32 × zS) (o3 : Option Value) (o5 : Option Value)  (h : f199_348  x1 x2 x4 y1 s = some r) : Ev X (D + 5) mm199 348 [some (.ref 24), some (.int x1), some (.int x2), o3, some (.int x4), o5] [.int y1, .ref 24] (mk s) (encI r) := by
  unfold f199_348 at h
  refine Ev.step (pc' := 351) rfl (put_12_18 rfl) ?_
  refine Ev.run (pc' := 353) (ls' := [some (.ref 24), some (.int x1), some (.int x2), o3, some (.int x4), o5]) (st' := [.int (zi 0), .ref 24]) (h' := mk (setI s 24 18 y1)) 2 rfl ?_
  refine Ev.step (pc' := 356) rfl (put_12_19 rfl) ?_
  refine Ev.run (pc' := 362) (ls' := [some (.ref 24), some (.int x1), some (.int x2), o3, some (.int x4), o5]) (st' := [.int (zi 116), .int y1]) (h' := mk (setI (setI s 24 18 y1) 24 19 (zi 0))) 3 rfl ?_
  refine Ev.icmp_ne (t := 399) rfl rfl (fun hb => ?_) (fun hb => ?_)
  · have h := (if_pos hb).symm.trans h
    exact k199_399 x2 x4 (setI (setI s 24 18 y1) 24 19 (zi 0)) _ _ _ _ h
  · have h := (if_neg hb).symm.trans h
    refine Ev.run (pc' := 371) (ls' := [some (.ref 24), some (.int x1), some (.int (x2 + zi 1)), o3, some (.int x4), o5]) (st' := [.int (x2 + zi 1), .ref 24, .ref 24]) (h' := mk (setI (setI s 24 18 y1) 24 19 (zi 0))) 4 rfl ?_
    obtain ⟨v2, s1, hq, h⟩ := zb1_some h
    refine Ev.call (M' := mm195) (v := some (.int v2)) (h' := mk s1) rfl rfl rfl (Nat.le_of_ble_eq_true rfl) (k195 hq) ?_
    refine Ev.step (pc' := 377) rfl (put_12_19 rfl) ?_
    refine Ev.run (pc' := 381) (ls' := [some (.ref 24), some (.int x1), some (.int (x2 + zi 1)), o3, some (.int x4), o5]) (st' := [.int v2]) (h' := mk (setI s1 24 19 v2)) 2 rfl ?_
    refine Ev.if_lt (t := 397) rfl rfl (fun hb => ?_) (fun hb => ?_)
    · have h := (if_pos hb).symm.trans h
      refine Ev.run (pc' := 398) (ls' := [some (.ref 24), some (.int x1), some (.int (x2 + zi 1)), o3, some (.int x4), o5]) (st' := [.int (zi 1)]) (h' := mk (setI s1 24 19 v2)) 1 rfl ?_
      first | (obtain rfl := Option.some.inj h) | (cases h)
      exact Ev.fin rfl rfl
    · have h := (if_neg hb).symm.trans h
      refine Ev.run (pc' := 391) (ls' := [some (.ref 24), some (.int x1), some (.int (x2 + zi 1)), o3, some (.int x4), o5]) (st' := [.int v2, .ref (mRO + 3 + 2 * 58)]) (h' := mk (setI s1 24 19 v2)) 3 rfl ?_
      refine Ev.call (M' := mm243) (as := [.ref (mRO + 3 + 2 * 58), .int v2]) (rest := []) (v := some (.int (zidx 58 v2))) (h' := mk (setI s1 24 19 v2)) rfl (litcall rfl rfl (by decide) rfl rfl) rfl (Nat.le_of_ble_eq_true rfl) (kindexof (by decide)) ?_
      refine Ev.if_ge (t := 399) rfl rfl (fun hb => ?_) (fun hb => ?_)
      · have h := (if_pos hb).symm.trans h
        exact k199_399 (x2 + zi 1) x4 (setI s1 24 19 v2) _ _ _ _ h
      · have h := (if_neg hb).symm.trans h
        refine Ev.run (pc' := 398) (ls' := [some (.ref 24), some (.int x1), some (.int (x2 + zi 1)), o3, some (.int x4), o5]) (st' := [.int (zi 1)]) (h' := mk (setI s1 24 19 v2)) 1 rfl ?_
        first | (obtain rfl := Option.some.inj h) | (cases h)
        exact Ev.fin rfl rfl
def f199_327  (x1 : Int32) (x2 : Int32) (x4 : Int32) (x5 : Int32) (y1 : Int32) (s : zS) : Option (Int32 × zS) := if mBit y1 then if y1 = zi 0 then f199_348 x1 x2 x4 x5 (setI s 24 22 y1) else f199_348 x1 x2 x4 (x5 + (zi 32)) (setI s 24 22 y1) else none
set_option maxRecDepth 100000 in
theorem k199_327 {X : mX} {D : Nat}   (x1 : Int32) (x2 : Int32) (x4 : Int32) (x5 : Int32) (y1 : Int32) (s : zS) (r : Int32 × zS) (o3 : Option Value)  (h : f199_327  x1 x2 x4 x5 y1 s = some r) : Ev X (D + 5) mm199 327 [some (.ref 24), some (.int x1), some (.int x2), o3, some (.int x4), some (.int x5)] [.int y1, .ref 24] (mk s) (encI r) := by
  unfold f199_327 at h
  obtain ⟨hx, h⟩ := zif h
  refine Ev.step (pc' := 330) rfl (put_12_22 hx rfl) ?_
  refine Ev.run (pc' := 335) (ls' := [some (.ref 24), some (.int x1), some (.int x2), o3, some (.int x4), some (.int x5)]) (st' := [.int y1, .ref 24]) (h' := mk (setI s 24 22 y1)) 3 rfl ?_
  refine Ev.if_eq (t := 346) rfl rfl (fun hb => ?_) (fun hb => ?_)
  · have h := (if_pos hb).symm.trans h
    refine Ev.run (pc' := 348) (ls' := [some (.ref 24), some (.int x1), some (.int x2), o3, some (.int x4), some (.int x5)]) (st' := [.int x5, .ref 24]) (h' := mk (setI s 24 22 y1)) 1 rfl ?_
    exact k199_348 x1 x2 x4 x5 (setI s 24 22 y1) _ _ _ h
  · have h := (if_neg hb).symm.trans h
    refine Ev.run (pc' := 348) (ls' := [some (.ref 24), some (.int x1), some (.int x2), o3, some (.int x4), some (.int x5)]) (st' := [.int (x5 + (zi 32)), .ref 24]) (h' := mk (setI s 24 22 y1)) 4 rfl ?_
    exact k199_348 x1 x2 x4 (x5 + (zi 32)) (setI s 24 22 y1) _ _ _ h
def f199_282  (x1 : Int32) (x2 : Int32) (x4 : Int32) (s : zS) : Option (Int32 × zS) := zb1 (f195 x2 s) (fun v2 s1 => if v2 < zi 0 then some (zi 1, s1) else if (zidx 57 v2) ≥ zi 0 then if v2 < (zi 65) then f199_327 x1 x2 x4 v2 (zi 0) s1 else if v2 > (zi 90) then f199_327 x1 x2 x4 v2 (zi 0) s1 else f199_327 x1 x2 x4 v2 (zi 1) s1 else some (zi 1, s1))
set_option maxRecDepth 100000 in
theorem k199_282 {X : mX} {D : Nat}   (x1 : Int32) (x2 : Int32) (x4 : Int32) (s : zS) (r : Int32 × zS) (o3 : Option Value) (o5 : Option Value)  (h : f199_282  x1 x2 x4 s = some r) : Ev X (D + 5) mm199 282 [some (.ref 24), some (.int x1), some (.int x2), o3, some (.int x4), o5] [] (mk s) (encI r) := by
  unfold f199_282 at h
  refine Ev.run (pc' := 284) (ls' := [some (.ref 24), some (.int x1), some (.int x2), o3, some (.int x4), o5]) (st' := [.int x2, .ref 24]) (h' := mk s) 2 rfl ?_
  obtain ⟨v2, s1, hq, h⟩ := zb1_some h
  refine Ev.call (M' := mm195) (v := some (.int v2)) (h' := mk s1) rfl rfl rfl (Nat.le_of_ble_eq_true rfl) (k195 hq) ?_
  refine Ev.run (pc' := 291) (ls' := [some (.ref 24), some (.int x1), some (.int x2), o3, some (.int x4), some (.int v2)]) (st' := [.int v2]) (h' := mk s1) 2 rfl ?_
  refine Ev.if_lt (t := 305) rfl rfl (fun hb => ?_) (fun hb => ?_)
  · have h := (if_pos hb).symm.trans h
    refine Ev.run (pc' := 306) (ls' := [some (.ref 24), some (.int x1), some (.int x2), o3, some (.int x4), some (.int v2)]) (st' := [.int (zi 1)]) (h' := mk s1) 1 rfl ?_
    first | (obtain rfl := Option.some.inj h) | (cases h)
    exact Ev.fin rfl rfl
  · have h := (if_neg hb).symm.trans h
    refine Ev.run (pc' := 299) (ls' := [some (.ref 24), some (.int x1), some (.int x2), o3, some (.int x4), some (.int v2)]) (st' := [.int v2, .ref (mRO + 3 + 2 * 57)]) (h' := mk s1) 2 rfl ?_
    refine Ev.call (M' := mm243) (as := [.ref (mRO + 3 + 2 * 57), .int v2]) (rest := []) (v := some (.int (zidx 57 v2))) (h' := mk s1) rfl (litcall rfl rfl (by decide) rfl rfl) rfl (Nat.le_of_ble_eq_true rfl) (kindexof (by decide)) ?_
    refine Ev.if_ge (t := 307) rfl rfl (fun hb => ?_) (fun hb => ?_)
    · have h := (if_pos hb).symm.trans h
      refine Ev.run (pc' := 312) (ls' := [some (.ref 24), some (.int x1), some (.int x2), o3, some (.int x4), some (.int v2)]) (st' := [.int (zi 65), .int v2, .ref 24]) (h' := mk s1) 3 rfl ?_
      refine Ev.icmp_lt (t := 326) rfl rfl (fun hb => ?_) (fun hb => ?_)
      · have h := (if_pos hb).symm.trans h
        refine Ev.run (pc' := 327) (ls' := [some (.ref 24), some (.int x1), some (.int x2), o3, some (.int x4), some (.int v2)]) (st' := [.int (zi 0), .ref 24]) (h' := mk s1) 1 rfl ?_
        exact k199_327 x1 x2 x4 v2 (zi 0) s1 _ _ h
      · have h := (if_neg hb).symm.trans h
        refine Ev.run (pc' := 319) (ls' := [some (.ref 24), some (.int x1), some (.int x2), o3, some (.int x4), some (.int v2)]) (st' := [.int (zi 90), .int v2, .ref 24]) (h' := mk s1) 2 rfl ?_
        refine Ev.icmp_gt (t := 326) rfl rfl (fun hb => ?_) (fun hb => ?_)
        · have h := (if_pos hb).symm.trans h
          refine Ev.run (pc' := 327) (ls' := [some (.ref 24), some (.int x1), some (.int x2), o3, some (.int x4), some (.int v2)]) (st' := [.int (zi 0), .ref 24]) (h' := mk s1) 1 rfl ?_
          exact k199_327 x1 x2 x4 v2 (zi 0) s1 _ _ h
        · have h := (if_neg hb).symm.trans h
          refine Ev.run (pc' := 327) (ls' := [some (.ref 24), some (.int x1), some (.int x2), o3, some (.int x4), some (.int v2)]) (st' := [.int (zi 1), .ref 24]) (h' := mk s1) 2 rfl ?_
          exact k199_327 x1 x2 x4 v2 (zi 1) s1 _ _ h
    · have h := (if_neg hb).symm.trans h
      refine Ev.run (pc' := 306) (ls' := [some (.ref 24), some (.int x1), some (.int x2), o3, some (.int x4), some (.int v2)]) (st' := [.int (zi 1)]) (h' := mk s1) 1 rfl ?_
      first | (obtain rfl := Option.some.inj h) | (cases h)
      exact Ev.fin rfl rfl
def f199_206  (x1 : Int32) (x3 : Int32) (x4 : Int32) (s : zS) : Option (Int32 × zS) := if (s.1 24 16) ≤ (zi 2000) then zb1 (f195 x3 s) (fun v2 s1 => if ¬ v2 = (zi 46) then f199_282 x1 x3 x4 s1 else zb1 (f197 (x3 + (zi 1)) s1) (fun v4 s3 => if v4 = (x3 + (zi 1)) then some (zi 1, s3) else if ((v4 - x3) - (zi 1)) ≤ (zi 4) then zb1 (f198 (x3 + (zi 1)) v4 s3) (fun v6 s5 => if v6 ≤ (zi 1100) then f199_282 x1 v4 x4 (setI s5 24 17 v6) else some (zi 1, setI s5 24 17 v6)) else some (zi 1, s3))) else some (zi 1, s)
set_option maxRecDepth 100000 in
theorem k199_206 {X : mX} {D : Nat}   (x1 : Int32) (x3 : Int32) (x4 : Int32) (s : zS) (r : Int32 × zS) (o2 : Option Value) (o5 : Option Value)  (h : f199_206  x1 x3 x4 s = some r) : Ev X (D + 5) mm199 206 [some (.ref 24), some (.int x1), o2, some (.int x3), some (.int x4), o5] [] (mk s) (encI r) := by
  unfold f199_206 at h
  refine Ev.run (pc' := 213) (ls' := [some (.ref 24), some (.int x1), o2, some (.int x3), some (.int x4), o5]) (st' := [.int (zi 2000), .int (s.1 24 16)]) (h' := mk s) 3 rfl ?_
  refine Ev.icmp_le (t := 218) rfl rfl (fun hb => ?_) (fun hb => ?_)
  · have h := (if_pos hb).symm.trans h
    refine Ev.run (pc' := 222) (ls' := [some (.ref 24), some (.int x1), some (.int x3), some (.int x3), some (.int x4), o5]) (st' := [.int x3, .ref 24]) (h' := mk s) 4 rfl ?_
    obtain ⟨v2, s1, hq, h⟩ := zb1_some h
    refine Ev.call (M' := mm195) (v := some (.int v2)) (h' := mk s1) rfl rfl rfl (Nat.le_of_ble_eq_true rfl) (k195 hq) ?_
    refine Ev.run (pc' := 227) (ls' := [some (.ref 24), some (.int x1), some (.int x3), some (.int x3), some (.int x4), o5]) (st' := [.int (zi 46), .int v2]) (h' := mk s1) 1 rfl ?_
    refine Ev.icmp_ne (t := 282) rfl rfl (fun hb => ?_) (fun hb => ?_)
    · have h := (if_pos hb).symm.trans h
      exact k199_282 x1 x3 x4 s1 _ _ _ h
    · have h := (if_neg hb).symm.trans h
      refine Ev.run (pc' := 234) (ls' := [some (.ref 24), some (.int x1), some (.int x3), some (.int x3), some (.int x4), o5]) (st' := [.int (x3 + (zi 1)), .ref 24]) (h' := mk s1) 4 rfl ?_
      obtain ⟨v4, s3, hq, h⟩ := zb1_some h
      refine Ev.call (M' := mm197) (v := some (.int v4)) (h' := mk s3) rfl rfl rfl (Nat.le_of_ble_eq_true rfl) (k197 hq) ?_
      refine Ev.run (pc' := 242) (ls' := [some (.ref 24), some (.int x1), some (.int x3), some (.int v4), some (.int x4), o5]) (st' := [.int (x3 + (zi 1)), .int v4]) (h' := mk s3) 5 rfl ?_
      refine Ev.icmp_eq (t := 254) rfl rfl (fun hb => ?_) (fun hb => ?_)
      · have h := (if_pos hb).symm.trans h
        refine Ev.run (pc' := 255) (ls' := [some (.ref 24), some (.int x1), some (.int x3), some (.int v4), some (.int x4), o5]) (st' := [.int (zi 1)]) (h' := mk s3) 1 rfl ?_
        first | (obtain rfl := Option.some.inj h) | (cases h)
        exact Ev.fin rfl rfl
      · have h := (if_neg hb).symm.trans h
        refine Ev.run (pc' := 251) (ls' := [some (.ref 24), some (.int x1), some (.int x3), some (.int v4), some (.int x4), o5]) (st' := [.int (zi 4), .int ((v4 - x3) - (zi 1))]) (h' := mk s3) 6 rfl ?_
        refine Ev.icmp_le (t := 256) rfl rfl (fun hb => ?_) (fun hb => ?_)
        · have h := (if_pos hb).symm.trans h
          refine Ev.run (pc' := 262) (ls' := [some (.ref 24), some (.int x1), some (.int x3), some (.int v4), some (.int x4), o5]) (st' := [.int v4, .int (x3 + (zi 1)), .ref 24, .ref 24]) (h' := mk s3) 6 rfl ?_
          obtain ⟨v6, s5, hq, h⟩ := zb1_some h
          refine Ev.call (M' := mm198) (v := some (.int v6)) (h' := mk s5) rfl rfl rfl (Nat.le_of_ble_eq_true rfl) (k198 hq) ?_
          refine Ev.step (pc' := 268) rfl (put_12_17 rfl) ?_
          refine Ev.run (pc' := 275) (ls' := [some (.ref 24), some (.int x1), some (.int x3), some (.int v4), some (.int x4), o5]) (st' := [.int (zi 1100), .int v6]) (h' := mk (setI s5 24 17 v6)) 3 rfl ?_
          refine Ev.icmp_le (t := 280) rfl rfl (fun hb => ?_) (fun hb => ?_)
          · have h := (if_pos hb).symm.trans h
            refine Ev.run (pc' := 282) (ls' := [some (.ref 24), some (.int x1), some (.int v4), some (.int v4), some (.int x4), o5]) (st' := []) (h' := mk (setI s5 24 17 v6)) 2 rfl ?_
            exact k199_282 x1 v4 x4 (setI s5 24 17 v6) _ _ _ h
          · have h := (if_neg hb).symm.trans h
            refine Ev.run (pc' := 279) (ls' := [some (.ref 24), some (.int x1), some (.int x3), some (.int v4), some (.int x4), o5]) (st' := [.int (zi 1)]) (h' := mk (setI s5 24 17 v6)) 1 rfl ?_
            first | (obtain rfl := Option.some.inj h) | (cases h)
            exact Ev.fin rfl rfl
        · have h := (if_neg hb).symm.trans h
          refine Ev.run (pc' := 255) (ls' := [some (.ref 24), some (.int x1), some (.int x3), some (.int v4), some (.int x4), o5]) (st' := [.int (zi 1)]) (h' := mk s3) 1 rfl ?_
          first | (obtain rfl := Option.some.inj h) | (cases h)
          exact Ev.fin rfl rfl
  · have h := (if_neg hb).symm.trans h
    refine Ev.run (pc' := 217) (ls' := [some (.ref 24), some (.int x1), o2, some (.int x3), some (.int x4), o5]) (st' := [.int (zi 1)]) (h' := mk s) 1 rfl ?_
    first | (obtain rfl := Option.some.inj h) | (cases h)
    exact Ev.fin rfl rfl
def f199_176  (x1 : Int32) (x2 : Int32) (x4 : Int32) (s : zS) : Option (Int32 × zS) := zb1 (f197 x2 s) (fun v2 s1 => if (v2 - x2) ≤ (zi 4) then if v2 ≤ x2 then f199_206 x1 v2 x4 s1 else zb1 (f198 x2 v2 s1) (fun v4 s3 => f199_206 x1 v2 x4 (setI s3 24 16 v4)) else some (zi 1, s1))
set_option maxRecDepth 100000 in
theorem k199_176 {X : mX} {D : Nat}   (x1 : Int32) (x2 : Int32) (x4 : Int32) (s : zS) (r : Int32 × zS) (o3 : Option Value) (o5 : Option Value)  (h : f199_176  x1 x2 x4 s = some r) : Ev X (D + 5) mm199 176 [some (.ref 24), some (.int x1), some (.int x2), o3, some (.int x4), o5] [] (mk s) (encI r) := by
  unfold f199_176 at h
  refine Ev.run (pc' := 178) (ls' := [some (.ref 24), some (.int x1), some (.int x2), o3, some (.int x4), o5]) (st' := [.int x2, .ref 24]) (h' := mk s) 2 rfl ?_
  obtain ⟨v2, s1, hq, h⟩ := zb1_some h
  refine Ev.call (M' := mm197) (v := some (.int v2)) (h' := mk s1) rfl rfl rfl (Nat.le_of_ble_eq_true rfl) (k197 hq) ?_
  refine Ev.run (pc' := 186) (ls' := [some (.ref 24), some (.int x1), some (.int x2), some (.int v2), some (.int x4), o5]) (st' := [.int (zi 4), .int (v2 - x2)]) (h' := mk s1) 5 rfl ?_
  refine Ev.icmp_le (t := 191) rfl rfl (fun hb => ?_) (fun hb => ?_)
  · have h := (if_pos hb).symm.trans h
    refine Ev.run (pc' := 193) (ls' := [some (.ref 24), some (.int x1), some (.int x2), some (.int v2), some (.int x4), o5]) (st' := [.int x2, .int v2]) (h' := mk s1) 2 rfl ?_
    refine Ev.icmp_le (t := 206) rfl rfl (fun hb => ?_) (fun hb => ?_)
    · have h := (if_pos hb).symm.trans h
      exact k199_206 x1 v2 x4 s1 _ _ _ h
    · have h := (if_neg hb).symm.trans h
      refine Ev.run (pc' := 200) (ls' := [some (.ref 24), some (.int x1), some (.int x2), some (.int v2), some (.int x4), o5]) (st' := [.int v2, .int x2, .ref 24, .ref 24]) (h' := mk s1) 4 rfl ?_
      obtain ⟨v4, s3, hq, h⟩ := zb1_some h
      refine Ev.call (M' := mm198) (v := some (.int v4)) (h' := mk s3) rfl rfl rfl (Nat.le_of_ble_eq_true rfl) (k198 hq) ?_
      refine Ev.step (pc' := 206) rfl (put_12_16 rfl) ?_
      exact k199_206 x1 v2 x4 (setI s3 24 16 v4) _ _ _ h
  · have h := (if_neg hb).symm.trans h
    refine Ev.run (pc' := 190) (ls' := [some (.ref 24), some (.int x1), some (.int x2), some (.int v2), some (.int x4), o5]) (st' := [.int (zi 1)]) (h' := mk s1) 1 rfl ?_
    first | (obtain rfl := Option.some.inj h) | (cases h)
    exact Ev.fin rfl rfl
def f199_156 (rec102 : Int32 → Int32 → Int32 → Int32 → zS → Option (Int32 × zS)) (x1 : Int32) (x2 : Int32) (x3 : Int32) (x5 : Int32) (y0 : Int32) (y1 : Int32) (s : zS) : Option (Int32 × zS) := rec102 x1 (x2 + zi 1) x3 (y0 ||| y1) (setI s 24 15 ((s.1 24 15) ||| x5))
set_option maxRecDepth 100000 in
theorem k199_156 {X : mX} {D : Nat} {rec102 : Int32 → Int32 → Int32 → Int32 → zS → Option (Int32 × zS)} (hrec102 : ∀ (x1 : Int32) (x2 : Int32) (x3 : Int32) (x4 : Int32) (s : zS) (r : Int32 × zS) (o5 : Option Value), rec102 x1 x2 x3 x4 s = some r → Ev X (D + 5) mm199 102 [some (.ref 24), some (.int x1), some (.int x2), some (.int x3), some (.int x4), o5] [] (mk s) (encI r)) (x1 : Int32) (x2 : Int32) (x3 : Int32) (x5 : Int32) (y0 : Int32) (y1 : Int32) (s : zS) (r : Int32 × zS) (o4 : Option Value)  (h : f199_156 rec102 x1 x2 x3 x5 y0 y1 s = some r) : Ev X (D + 5) mm199 156 [some (.ref 24), some (.int x1), some (.int x2), some (.int x3), o4, some (.int x5)] [.int y1, .int y0] (mk s) (encI r) := by
  unfold f199_156 at h
  refine Ev.run (pc' := 167) (ls' := [some (.ref 24), some (.int x1), some (.int x2), some (.int x3), some (.int (y0 ||| y1)), some (.int x5)]) (st' := [.int ((s.1 24 15) ||| x5), .ref 24]) (h' := mk s) 7 rfl ?_
  refine Ev.step (pc' := 170) rfl (put_12_15 rfl) ?_
  refine Ev.run (pc' := 102) (ls' := [some (.ref 24), some (.int x1), some (.int (x2 + zi 1)), some (.int x3), some (.int (y0 ||| y1)), some (.int x5)]) (st' := []) (h' := mk (setI s 24 15 ((s.1 24 15) ||| x5))) 2 rfl ?_
  exact hrec102 x1 (x2 + zi 1) x3 (y0 ||| y1) (setI s 24 15 ((s.1 24 15) ||| x5)) _ _ h
def b199_102 (rec102 : Int32 → Int32 → Int32 → Int32 → zS → Option (Int32 × zS)) (x1 : Int32) (x2 : Int32) (x3 : Int32) (x4 : Int32) (s : zS) : Option (Int32 × zS) := zb1 (f195 x2 s) (fun v2 s1 => if v2 < zi 0 then f199_176 x1 x2 x4 s1 else zb1 (f195 x2 s1) (fun v4 s3 => if (zidx 56 v4) < zi 0 then f199_176 x1 x2 x4 s3 else zb1 (f195 x2 s3) (fun v6 s5 => if ((s5.1 24 15) &&& (zshl (zi 1) (zidx 56 v6))) = zi 0 then f199_156 rec102 x1 x2 x3 (zshl (zi 1) (zidx 56 v6)) x4 (zi 0) s5 else f199_156 rec102 x1 x2 x3 (zshl (zi 1) (zidx 56 v6)) x4 (zi 1) s5)))
set_option maxRecDepth 100000 in
theorem kb199_102 {X : mX} {D : Nat} {rec102 : Int32 → Int32 → Int32 → Int32 → zS → Option (Int32 × zS)} (hrec102 : ∀ (x1 : Int32) (x2 : Int32) (x3 : Int32) (x4 : Int32) (s : zS) (r : Int32 × zS) (o5 : Option Value), rec102 x1 x2 x3 x4 s = some r → Ev X (D + 5) mm199 102 [some (.ref 24), some (.int x1), some (.int x2), some (.int x3), some (.int x4), o5] [] (mk s) (encI r)) (x1 : Int32) (x2 : Int32) (x3 : Int32) (x4 : Int32) (s : zS) (r : Int32 × zS) (o5 : Option Value)  (h : b199_102 rec102 x1 x2 x3 x4 s = some r) : Ev X (D + 5) mm199 102 [some (.ref 24), some (.int x1), some (.int x2), some (.int x3), some (.int x4), o5] [] (mk s) (encI r) := by
  unfold b199_102 at h
  refine Ev.run (pc' := 104) (ls' := [some (.ref 24), some (.int x1), some (.int x2), some (.int x3), some (.int x4), o5]) (st' := [.int x2, .ref 24]) (h' := mk s) 2 rfl ?_
  obtain ⟨v2, s1, hq, h⟩ := zb1_some h
  refine Ev.call (M' := mm195) (v := some (.int v2)) (h' := mk s1) rfl rfl rfl (Nat.le_of_ble_eq_true rfl) (k195 hq) ?_
  refine Ev.if_lt (t := 176) rfl rfl (fun hb => ?_) (fun hb => ?_)
  · have h := (if_pos hb).symm.trans h
    exact k199_176 x1 x2 x4 s1 _ _ _ h
  · have h := (if_neg hb).symm.trans h
    refine Ev.run (pc' := 115) (ls' := [some (.ref 24), some (.int x1), some (.int x2), some (.int x3), some (.int x4), o5]) (st' := [.int x2, .ref 24, .ref (mRO + 3 + 2 * 56)]) (h' := mk s1) 3 rfl ?_
    obtain ⟨v4, s3, hq, h⟩ := zb1_some h
    refine Ev.call (M' := mm195) (v := some (.int v4)) (h' := mk s3) rfl rfl rfl (Nat.le_of_ble_eq_true rfl) (k195 hq) ?_
    refine Ev.call (M' := mm243) (as := [.ref (mRO + 3 + 2 * 56), .int v4]) (rest := []) (v := some (.int (zidx 56 v4))) (h' := mk s3) rfl (litcall rfl rfl (by decide) rfl rfl) rfl (Nat.le_of_ble_eq_true rfl) (kindexof (by decide)) ?_
    refine Ev.if_lt (t := 176) rfl rfl (fun hb => ?_) (fun hb => ?_)
    · have h := (if_pos hb).symm.trans h
      exact k199_176 x1 x2 x4 s3 _ _ _ h
    · have h := (if_neg hb).symm.trans h
      refine Ev.run (pc' := 130) (ls' := [some (.ref 24), some (.int x1), some (.int x2), some (.int x3), some (.int x4), o5]) (st' := [.int x2, .ref 24, .ref (mRO + 3 + 2 * 56), .int (zi 1)]) (h' := mk s3) 4 rfl ?_
      obtain ⟨v6, s5, hq, h⟩ := zb1_some h
      refine Ev.call (M' := mm195) (v := some (.int v6)) (h' := mk s5) rfl rfl rfl (Nat.le_of_ble_eq_true rfl) (k195 hq) ?_
      refine Ev.call (M' := mm243) (as := [.ref (mRO + 3 + 2 * 56), .int v6]) (rest := [.int (zi 1)]) (v := some (.int (zidx 56 v6))) (h' := mk s5) rfl (litcall rfl rfl (by decide) rfl rfl) rfl (Nat.le_of_ble_eq_true rfl) (kindexof (by decide)) ?_
      refine Ev.run (pc' := 148) (ls' := [some (.ref 24), some (.int x1), some (.int x2), some (.int x3), some (.int x4), some (.int (zshl (zi 1) (zidx 56 v6)))]) (st' := [.int ((s5.1 24 15) &&& (zshl (zi 1) (zidx 56 v6))), .int x4]) (h' := mk s5) 7 rfl ?_
      refine Ev.if_eq (t := 155) rfl rfl (fun hb => ?_) (fun hb => ?_)
      · have h := (if_pos hb).symm.trans h
        refine Ev.run (pc' := 156) (ls' := [some (.ref 24), some (.int x1), some (.int x2), some (.int x3), some (.int x4), some (.int (zshl (zi 1) (zidx 56 v6)))]) (st' := [.int (zi 0), .int x4]) (h' := mk s5) 1 rfl ?_
        exact k199_156 hrec102 x1 x2 x3 (zshl (zi 1) (zidx 56 v6)) x4 (zi 0) s5 _ _ h
      · have h := (if_neg hb).symm.trans h
        refine Ev.run (pc' := 156) (ls' := [some (.ref 24), some (.int x1), some (.int x2), some (.int x3), some (.int x4), some (.int (zshl (zi 1) (zidx 56 v6)))]) (st' := [.int (zi 1), .int x4]) (h' := mk s5) 2 rfl ?_
        exact k199_156 hrec102 x1 x2 x3 (zshl (zi 1) (zidx 56 v6)) x4 (zi 1) s5 _ _ h
def f199_102  : Nat → Int32 → Int32 → Int32 → Int32 → zS → Option (Int32 × zS)
  | 0, _, _, _, _, _ => none
  | n + 1, x1, x2, x3, x4, s => b199_102 (f199_102 n) x1 x2 x3 x4 s
set_option maxRecDepth 100000 in
theorem k199_102 {X : mX} {D : Nat}   (n : Nat) : ∀ (x1 : Int32) (x2 : Int32) (x3 : Int32) (x4 : Int32) (s : zS) (r : Int32 × zS) (o5 : Option Value), f199_102  n x1 x2 x3 x4 s = some r → Ev X (D + 5) mm199 102 [some (.ref 24), some (.int x1), some (.int x2), some (.int x3), some (.int x4), o5] [] (mk s) (encI r) := by
  induction n with
  | zero => intro x1 x2 x3 x4 s r o5  h; cases h
  | succ n ih => intro x1 x2 x3 x4 s r o5  h; exact kb199_102  ih x1 x2 x3 x4 s r o5  h
def f199_84  (x1 : Int32) (x2 : Int32) (x3 : Int32) (x4 : Int32) (s : zS) : Option (Int32 × zS) := zb1 (f195 x2 s) (fun v2 s1 => if ¬ v2 = (zi 60) then f199_102 zF x1 x2 x3 x4 s1 else f199_102 zF x1 (x2 + zi 1) x3 x4 (setI s1 24 14 (zi (-1))))
set_option maxRecDepth 100000 in
theorem k199_84 {X : mX} {D : Nat}   (x1 : Int32) (x2 : Int32) (x3 : Int32) (x4 : Int32) (s : zS) (r : Int32 × zS) (o5 : Option Value)  (h : f199_84  x1 x2 x3 x4 s = some r) : Ev X (D + 5) mm199 84 [some (.ref 24), some (.int x1), some (.int x2), some (.int x3), some (.int x4), o5] [] (mk s) (encI r) := by
  unfold f199_84 at h
  refine Ev.run (pc' := 86) (ls' := [some (.ref 24), some (.int x1), some (.int x2), some (.int x3), some (.int x4), o5]) (st' := [.int x2, .ref 24]) (h' := mk s) 2 rfl ?_
  obtain ⟨v2, s1, hq, h⟩ := zb1_some h
  refine Ev.call (M' := mm195) (v := some (.int v2)) (h' := mk s1) rfl rfl rfl (Nat.le_of_ble_eq_true rfl) (k195 hq) ?_
  refine Ev.run (pc' := 91) (ls' := [some (.ref 24), some (.int x1), some (.int x2), some (.int x3), some (.int x4), o5]) (st' := [.int (zi 60), .int v2]) (h' := mk s1) 1 rfl ?_
  refine Ev.icmp_ne (t := 102) rfl rfl (fun hb => ?_) (fun hb => ?_)
  · have h := (if_pos hb).symm.trans h
    exact k199_102 zF x1 x2 x3 x4 s1 _ _ h
  · have h := (if_neg hb).symm.trans h
    refine Ev.run (pc' := 96) (ls' := [some (.ref 24), some (.int x1), some (.int x2), some (.int x3), some (.int x4), o5]) (st' := [.int (zi (-1)), .ref 24]) (h' := mk s1) 2 rfl ?_
    refine Ev.step (pc' := 99) rfl (put_12_14 rfl) ?_
    refine Ev.run (pc' := 102) (ls' := [some (.ref 24), some (.int x1), some (.int (x2 + zi 1)), some (.int x3), some (.int x4), o5]) (st' := []) (h' := mk (setI s1 24 14 (zi (-1)))) 1 rfl ?_
    exact k199_102 zF x1 (x2 + zi 1) x3 x4 (setI s1 24 14 (zi (-1))) _ _ h
def f199  (x1 : Int32) (s : zS) : Option (Int32 × zS) := zb1 (f197 (x1 + (zi 1)) s) (fun v2 s1 => if v2 ≤ (x1 + (zi 1)) then f199_84 x1 (x1 + (zi 1)) v2 (zi 0) (setI (setI (setI (setI s1 24 14 (zi 0)) 24 15 (zi 0)) 24 16 (zi (-1))) 24 17 (zi (-1))) else zb1 (f195 v2 (setI (setI (setI (setI s1 24 14 (zi 0)) 24 15 (zi 0)) 24 16 (zi (-1))) 24 17 (zi (-1)))) (fun v4 s3 => if ¬ v4 = (zi 36) then f199_84 x1 (x1 + (zi 1)) v2 (zi 0) s3 else if (v2 - (x1 + (zi 1))) > (zi 4) then some (zi 1, s3) else zb1 (f195 (x1 + (zi 1)) s3) (fun v6 s5 => if ¬ v6 = (zi 48) then zb1 (f198 (x1 + (zi 1)) v2 s5) (fun v8 s7 => f199_102 zF x1 (v2 + (zi 1)) v2 (zi 0) (setI s7 24 14 v8)) else some (zi 1, s5))))
set_option maxRecDepth 100000 in
theorem k199 {X : mX} {D : Nat} {x1 : Int32} {s : zS} {r : Int32 × zS}  (h : f199 x1 s = some r) : Ev X (D + 5) mm199 0 [some (.ref 24), some (.int x1), none, none, none, none] [] (mk s) (encI r) := by
  unfold f199 at h
  refine Ev.run (pc' := 6) (ls' := [some (.ref 24), some (.int x1), some (.int (x1 + (zi 1))), none, none, none]) (st' := [.int (x1 + (zi 1)), .ref 24]) (h' := mk s) 6 rfl ?_
  obtain ⟨v2, s1, hq, h⟩ := zb1_some h
  refine Ev.call (M' := mm197) (v := some (.int v2)) (h' := mk s1) rfl rfl rfl (Nat.le_of_ble_eq_true rfl) (k197 hq) ?_
  refine Ev.run (pc' := 12) (ls' := [some (.ref 24), some (.int x1), some (.int (x1 + (zi 1))), some (.int v2), none, none]) (st' := [.int (zi 0), .ref 24]) (h' := mk s1) 3 rfl ?_
  refine Ev.step (pc' := 15) rfl (put_12_14 rfl) ?_
  refine Ev.run (pc' := 17) (ls' := [some (.ref 24), some (.int x1), some (.int (x1 + (zi 1))), some (.int v2), none, none]) (st' := [.int (zi 0), .ref 24]) (h' := mk (setI s1 24 14 (zi 0))) 2 rfl ?_
  refine Ev.step (pc' := 20) rfl (put_12_15 rfl) ?_
  refine Ev.run (pc' := 22) (ls' := [some (.ref 24), some (.int x1), some (.int (x1 + (zi 1))), some (.int v2), none, none]) (st' := [.int (zi (-1)), .ref 24]) (h' := mk (setI (setI s1 24 14 (zi 0)) 24 15 (zi 0))) 2 rfl ?_
  refine Ev.step (pc' := 25) rfl (put_12_16 rfl) ?_
  refine Ev.run (pc' := 27) (ls' := [some (.ref 24), some (.int x1), some (.int (x1 + (zi 1))), some (.int v2), none, none]) (st' := [.int (zi (-1)), .ref 24]) (h' := mk (setI (setI (setI s1 24 14 (zi 0)) 24 15 (zi 0)) 24 16 (zi (-1)))) 2 rfl ?_
  refine Ev.step (pc' := 30) rfl (put_12_17 rfl) ?_
  refine Ev.run (pc' := 35) (ls' := [some (.ref 24), some (.int x1), some (.int (x1 + (zi 1))), some (.int v2), some (.int (zi 0)), none]) (st' := [.int (x1 + (zi 1)), .int v2]) (h' := mk (setI (setI (setI (setI s1 24 14 (zi 0)) 24 15 (zi 0)) 24 16 (zi (-1))) 24 17 (zi (-1)))) 4 rfl ?_
  refine Ev.icmp_le (t := 84) rfl rfl (fun hb => ?_) (fun hb => ?_)
  · have h := (if_pos hb).symm.trans h
    exact k199_84 x1 (x1 + (zi 1)) v2 (zi 0) (setI (setI (setI (setI s1 24 14 (zi 0)) 24 15 (zi 0)) 24 16 (zi (-1))) 24 17 (zi (-1))) _ _ h
  · have h := (if_neg hb).symm.trans h
    refine Ev.run (pc' := 40) (ls' := [some (.ref 24), some (.int x1), some (.int (x1 + (zi 1))), some (.int v2), some (.int (zi 0)), none]) (st' := [.int v2, .ref 24]) (h' := mk (setI (setI (setI (setI s1 24 14 (zi 0)) 24 15 (zi 0)) 24 16 (zi (-1))) 24 17 (zi (-1)))) 2 rfl ?_
    obtain ⟨v4, s3, hq, h⟩ := zb1_some h
    refine Ev.call (M' := mm195) (v := some (.int v4)) (h' := mk s3) rfl rfl rfl (Nat.le_of_ble_eq_true rfl) (k195 hq) ?_
    refine Ev.run (pc' := 45) (ls' := [some (.ref 24), some (.int x1), some (.int (x1 + (zi 1))), some (.int v2), some (.int (zi 0)), none]) (st' := [.int (zi 36), .int v4]) (h' := mk s3) 1 rfl ?_
    refine Ev.icmp_ne (t := 84) rfl rfl (fun hb => ?_) (fun hb => ?_)
    · have h := (if_pos hb).symm.trans h
      exact k199_84 x1 (x1 + (zi 1)) v2 (zi 0) s3 _ _ h
    · have h := (if_neg hb).symm.trans h
      refine Ev.run (pc' := 52) (ls' := [some (.ref 24), some (.int x1), some (.int (x1 + (zi 1))), some (.int v2), some (.int (zi 0)), none]) (st' := [.int (zi 4), .int (v2 - (x1 + (zi 1)))]) (h' := mk s3) 4 rfl ?_
      refine Ev.icmp_gt (t := 65) rfl rfl (fun hb => ?_) (fun hb => ?_)
      · have h := (if_pos hb).symm.trans h
        refine Ev.run (pc' := 66) (ls' := [some (.ref 24), some (.int x1), some (.int (x1 + (zi 1))), some (.int v2), some (.int (zi 0)), none]) (st' := [.int (zi 1)]) (h' := mk s3) 1 rfl ?_
        first | (obtain rfl := Option.some.inj h) | (cases h)
        exact Ev.fin rfl rfl
      · have h := (if_neg hb).symm.trans h
        refine Ev.run (pc' := 57) (ls' := [some (.ref 24), some (.int x1), some (.int (x1 + (zi 1))), some (.int v2), some (.int (zi 0)), none]) (st' := [.int (x1 + (zi 1)), .ref 24]) (h' := mk s3) 2 rfl ?_
        obtain ⟨v6, s5, hq, h⟩ := zb1_some h
        refine Ev.call (M' := mm195) (v := some (.int v6)) (h' := mk s5) rfl rfl rfl (Nat.le_of_ble_eq_true rfl) (k195 hq) ?_
        refine Ev.run (pc' := 62) (ls' := [some (.ref 24), some (.int x1), some (.int (x1 + (zi 1))), some (.int v2), some (.int (zi 0)), none]) (st' := [.int (zi 48), .int v6]) (h' := mk s5) 1 rfl ?_
        refine Ev.icmp_ne (t := 67) rfl rfl (fun hb => ?_) (fun hb => ?_)
        · have h := (if_pos hb).symm.trans h
          refine Ev.run (pc' := 71) (ls' := [some (.ref 24), some (.int x1), some (.int (x1 + (zi 1))), some (.int v2), some (.int (zi 0)), none]) (st' := [.int v2, .int (x1 + (zi 1)), .ref 24, .ref 24]) (h' := mk s5) 4 rfl ?_
          obtain ⟨v8, s7, hq, h⟩ := zb1_some h
          refine Ev.call (M' := mm198) (v := some (.int v8)) (h' := mk s7) rfl rfl rfl (Nat.le_of_ble_eq_true rfl) (k198 hq) ?_
          refine Ev.step (pc' := 77) rfl (put_12_14 rfl) ?_
          refine Ev.run (pc' := 102) (ls' := [some (.ref 24), some (.int x1), some (.int (v2 + (zi 1))), some (.int v2), some (.int (zi 0)), none]) (st' := []) (h' := mk (setI s7 24 14 v8)) 5 rfl ?_
          exact k199_102 zF x1 (v2 + (zi 1)) v2 (zi 0) (setI s7 24 14 v8) _ _ h
        · have h := (if_neg hb).symm.trans h
          refine Ev.run (pc' := 66) (ls' := [some (.ref 24), some (.int x1), some (.int (x1 + (zi 1))), some (.int v2), some (.int (zi 0)), none]) (st' := [.int (zi 1)]) (h' := mk s5) 1 rfl ?_
          first | (obtain rfl := Option.some.inj h) | (cases h)
          exact Ev.fin rfl rfl
/-! 201 FModel.argument()I -/
def f201_256  (x1 : Int32) (x2 : Int32) (x3 : Int32) (s : zS) : Option (Int32 × zS) := if ¬ x3 = zi 0 then if ¬ (s.1 24 18) = (zi 99) then some (zi 0, s) else if x2 < (zi 3) then some (zi 0, s) else if x2 ≥ (zi 6) then some (zi 0, s) else if mIx x1 24 then if (s.2.1 31 x1.toNatClampNeg) < (zl 0) then some (zi 10, s) else if mIx x1 24 then if (s.2.1 31 x1.toNatClampNeg) ≤ (zl 1114111) then some (zi 0, s) else some (zi 10, s) else none else none else some (zi 9, s)
set_option maxRecDepth 100000 in
theorem k201_256 {X : mX} {D : Nat}   (x1 : Int32) (x2 : Int32) (x3 : Int32) (s : zS) (r : Int32 × zS)   (h : f201_256  x1 x2 x3 s = some r) : Ev X D mm201 256 [some (.ref 24), some (.int x1), some (.int x2), some (.int x3)] [] (mk s) (encI r) := by
  unfold f201_256 at h
  refine Ev.run (pc' := 257) (ls' := [some (.ref 24), some (.int x1), some (.int x2), some (.int x3)]) (st' := [.int x3]) (h' := mk s) 1 rfl ?_
  refine Ev.if_ne (t := 263) rfl rfl (fun hb => ?_) (fun hb => ?_)
  · have h := (if_pos hb).symm.trans h
    refine Ev.run (pc' := 269) (ls' := [some (.ref 24), some (.int x1), some (.int x2), some (.int x3)]) (st' := [.int (zi 99), .int (s.1 24 18)]) (h' := mk s) 3 rfl ?_
    refine Ev.icmp_ne (t := 312) rfl rfl (fun hb => ?_) (fun hb => ?_)
    · have h := (if_pos hb).symm.trans h
      refine Ev.run (pc' := 313) (ls' := [some (.ref 24), some (.int x1), some (.int x2), some (.int x3)]) (st' := [.int (zi 0)]) (h' := mk s) 1 rfl ?_
      first | (obtain rfl := Option.some.inj h) | (cases h)
      exact Ev.fin rfl rfl
    · have h := (if_neg hb).symm.trans h
      refine Ev.run (pc' := 274) (ls' := [some (.ref 24), some (.int x1), some (.int x2), some (.int x3)]) (st' := [.int (zi 3), .int x2]) (h' := mk s) 2 rfl ?_
      refine Ev.icmp_lt (t := 312) rfl rfl (fun hb => ?_) (fun hb => ?_)
      · have h := (if_pos hb).symm.trans h
        refine Ev.run (pc' := 313) (ls' := [some (.ref 24), some (.int x1), some (.int x2), some (.int x3)]) (st' := [.int (zi 0)]) (h' := mk s) 1 rfl ?_
        first | (obtain rfl := Option.some.inj h) | (cases h)
        exact Ev.fin rfl rfl
      · have h := (if_neg hb).symm.trans h
        refine Ev.run (pc' := 280) (ls' := [some (.ref 24), some (.int x1), some (.int x2), some (.int x3)]) (st' := [.int (zi 6), .int x2]) (h' := mk s) 2 rfl ?_
        refine Ev.icmp_ge (t := 312) rfl rfl (fun hb => ?_) (fun hb => ?_)
        · have h := (if_pos hb).symm.trans h
          refine Ev.run (pc' := 313) (ls' := [some (.ref 24), some (.int x1), some (.int x2), some (.int x3)]) (st' := [.int (zi 0)]) (h' := mk s) 1 rfl ?_
          first | (obtain rfl := Option.some.inj h) | (cases h)
          exact Ev.fin rfl rfl
        · have h := (if_neg hb).symm.trans h
          refine Ev.run (pc' := 288) (ls' := [some (.ref 24), some (.int x1), some (.int x2), some (.int x3)]) (st' := [.int x1, .ref 31]) (h' := mk s) 3 rfl ?_
          obtain ⟨hx, h⟩ := zif h
          refine Ev.step (pc' := 289) rfl (ald_l rfl hx) ?_
          refine Ev.run (pc' := 291) (ls' := [some (.ref 24), some (.int x1), some (.int x2), some (.int x3)]) (st' := [.int (lg_cmp (s.2.1 31 x1.toNatClampNeg) (zl 0))]) (h' := mk s) 2 rfl ?_
          refine Ev.ifl_lt (t := 307) rfl rfl (fun hb => ?_) (fun hb => ?_)
          · have h := (if_pos hb).symm.trans h
            refine Ev.run (pc' := 313) (ls' := [some (.ref 24), some (.int x1), some (.int x2), some (.int x3)]) (st' := [.int (zi 10)]) (h' := mk s) 2 rfl ?_
            first | (obtain rfl := Option.some.inj h) | (cases h)
            exact Ev.fin rfl rfl
          · have h := (if_neg hb).symm.trans h
            refine Ev.run (pc' := 299) (ls' := [some (.ref 24), some (.int x1), some (.int x2), some (.int x3)]) (st' := [.int x1, .ref 31]) (h' := mk s) 3 rfl ?_
            obtain ⟨hx, h⟩ := zif h
            refine Ev.step (pc' := 300) rfl (ald_l rfl hx) ?_
            refine Ev.run (pc' := 304) (ls' := [some (.ref 24), some (.int x1), some (.int x2), some (.int x3)]) (st' := [.int (lg_cmp (s.2.1 31 x1.toNatClampNeg) (zl 1114111))]) (h' := mk s) 2 rfl ?_
            refine Ev.ifl_le (t := 312) rfl rfl (fun hb => ?_) (fun hb => ?_)
            · have h := (if_pos hb).symm.trans h
              refine Ev.run (pc' := 313) (ls' := [some (.ref 24), some (.int x1), some (.int x2), some (.int x3)]) (st' := [.int (zi 0)]) (h' := mk s) 1 rfl ?_
              first | (obtain rfl := Option.some.inj h) | (cases h)
              exact Ev.fin rfl rfl
            · have h := (if_neg hb).symm.trans h
              refine Ev.run (pc' := 313) (ls' := [some (.ref 24), some (.int x1), some (.int x2), some (.int x3)]) (st' := [.int (zi 10)]) (h' := mk s) 2 rfl ?_
              first | (obtain rfl := Option.some.inj h) | (cases h)
              exact Ev.fin rfl rfl
  · have h := (if_neg hb).symm.trans h
    refine Ev.run (pc' := 262) (ls' := [some (.ref 24), some (.int x1), some (.int x2), some (.int x3)]) (st' := [.int (zi 9)]) (h' := mk s) 1 rfl ?_
    first | (obtain rfl := Option.some.inj h) | (cases h)
    exact Ev.fin rfl rfl
def f201_233  (x1 : Int32) (x2 : Int32) (x3 : Int32) (s : zS) : Option (Int32 × zS) := if ¬ (s.1 24 18) = (zi 116) then f201_256 x1 x2 x3 s else if ¬ x2 = (zi 6) then f201_256 x1 x2 (x3 ||| (zi 0)) s else f201_256 x1 x2 (x3 ||| (zi 1)) s
set_option maxRecDepth 100000 in
theorem k201_233 {X : mX} {D : Nat}   (x1 : Int32) (x2 : Int32) (x3 : Int32) (s : zS) (r : Int32 × zS)   (h : f201_233  x1 x2 x3 s = some r) : Ev X D mm201 233 [some (.ref 24), some (.int x1), some (.int x2), some (.int x3)] [] (mk s) (encI r) := by
  unfold f201_233 at h
  refine Ev.run (pc' := 239) (ls' := [some (.ref 24), some (.int x1), some (.int x2), some (.int x3)]) (st' := [.int (zi 116), .int (s.1 24 18)]) (h' := mk s) 3 rfl ?_
  refine Ev.icmp_ne (t := 256) rfl rfl (fun hb => ?_) (fun hb => ?_)
  · have h := (if_pos hb).symm.trans h
    exact k201_256 x1 x2 x3 s _ h
  · have h := (if_neg hb).symm.trans h
    refine Ev.run (pc' := 246) (ls' := [some (.ref 24), some (.int x1), some (.int x2), some (.int x3)]) (st' := [.int (zi 6), .int x2, .int x3]) (h' := mk s) 3 rfl ?_
    refine Ev.icmp_ne (t := 253) rfl rfl (fun hb => ?_) (fun hb => ?_)
    · have h := (if_pos hb).symm.trans h
      refine Ev.run (pc' := 256) (ls' := [some (.ref 24), some (.int x1), some (.int x2), some (.int (x3 ||| (zi 0)))]) (st' := []) (h' := mk s) 3 rfl ?_
      exact k201_256 x1 x2 (x3 ||| (zi 0)) s _ h
    · have h := (if_neg hb).symm.trans h
      refine Ev.run (pc' := 256) (ls' := [some (.ref 24), some (.int x1), some (.int x2), some (.int (x3 ||| (zi 1)))]) (st' := []) (h' := mk s) 4 rfl ?_
      exact k201_256 x1 x2 (x3 ||| (zi 1)) s _ h
def f201_213  (x1 : Int32) (x2 : Int32) (x3 : Int32) (s : zS) : Option (Int32 × zS) := if x2 = (zi 7) then f201_233 x1 x2 (x3 ||| (zi 1)) s else if ¬ x2 = (zi 8) then f201_233 x1 x2 (x3 ||| (zi 0)) s else f201_233 x1 x2 (x3 ||| (zi 1)) s
set_option maxRecDepth 100000 in
theorem k201_213 {X : mX} {D : Nat}   (x1 : Int32) (x2 : Int32) (x3 : Int32) (s : zS) (r : Int32 × zS)   (h : f201_213  x1 x2 x3 s = some r) : Ev X D mm201 213 [some (.ref 24), some (.int x1), some (.int x2), some (.int x3)] [] (mk s) (encI r) := by
  unfold f201_213 at h
  refine Ev.run (pc' := 217) (ls' := [some (.ref 24), some (.int x1), some (.int x2), some (.int x3)]) (st' := [.int (zi 7), .int x2, .int x3]) (h' := mk s) 3 rfl ?_
  refine Ev.icmp_eq (t := 226) rfl rfl (fun hb => ?_) (fun hb => ?_)
  · have h := (if_pos hb).symm.trans h
    refine Ev.run (pc' := 233) (ls' := [some (.ref 24), some (.int x1), some (.int x2), some (.int (x3 ||| (zi 1)))]) (st' := []) (h' := mk s) 4 rfl ?_
    exact k201_233 x1 x2 (x3 ||| (zi 1)) s _ h
  · have h := (if_neg hb).symm.trans h
    refine Ev.run (pc' := 223) (ls' := [some (.ref 24), some (.int x1), some (.int x2), some (.int x3)]) (st' := [.int (zi 8), .int x2, .int x3]) (h' := mk s) 2 rfl ?_
    refine Ev.icmp_ne (t := 230) rfl rfl (fun hb => ?_) (fun hb => ?_)
    · have h := (if_pos hb).symm.trans h
      refine Ev.run (pc' := 233) (ls' := [some (.ref 24), some (.int x1), some (.int x2), some (.int (x3 ||| (zi 0)))]) (st' := []) (h' := mk s) 3 rfl ?_
      exact k201_233 x1 x2 (x3 ||| (zi 0)) s _ h
    · have h := (if_neg hb).symm.trans h
      refine Ev.run (pc' := 233) (ls' := [some (.ref 24), some (.int x1), some (.int x2), some (.int (x3 ||| (zi 1)))]) (st' := []) (h' := mk s) 4 rfl ?_
      exact k201_233 x1 x2 (x3 ||| (zi 1)) s _ h
def f201_204  (x1 : Int32) (x2 : Int32) (x3 : Int32) (s : zS) : Option (Int32 × zS) := if ¬ (s.1 24 18) = (zi 97) then f201_233 x1 x2 x3 s else f201_213 x1 x2 x3 s
set_option maxRecDepth 100000 in
theorem k201_204 {X : mX} {D : Nat}   (x1 : Int32) (x2 : Int32) (x3 : Int32) (s : zS) (r : Int32 × zS)   (h : f201_204  x1 x2 x3 s = some r) : Ev X D mm201 204 [some (.ref 24), some (.int x1), some (.int x2), some (.int x3)] [] (mk s) (encI r) := by
  unfold f201_204 at h
  refine Ev.run (pc' := 210) (ls' := [some (.ref 24), some (.int x1), some (.int x2), some (.int x3)]) (st' := [.int (zi 97), .int (s.1 24 18)]) (h' := mk s) 3 rfl ?_
  refine Ev.icmp_ne (t := 233) rfl rfl (fun hb => ?_) (fun hb => ?_)
  · have h := (if_pos hb).symm.trans h
    exact k201_233 x1 x2 x3 s _ h
  · have h := (if_neg hb).symm.trans h
    exact k201_213 x1 x2 x3 s _ h
def f201_186  (x1 : Int32) (x2 : Int32) (x3 : Int32) (s : zS) : Option (Int32 × zS) := if (s.1 24 18) < (zi 101) then f201_204 x1 x2 x3 s else if (s.1 24 18) ≤ (zi 103) then f201_213 x1 x2 x3 s else f201_204 x1 x2 x3 s
set_option maxRecDepth 100000 in
theorem k201_186 {X : mX} {D : Nat}   (x1 : Int32) (x2 : Int32) (x3 : Int32) (s : zS) (r : Int32 × zS)   (h : f201_186  x1 x2 x3 s = some r) : Ev X D mm201 186 [some (.ref 24), some (.int x1), some (.int x2), some (.int x3)] [] (mk s) (encI r) := by
  unfold f201_186 at h
  refine Ev.run (pc' := 192) (ls' := [some (.ref 24), some (.int x1), some (.int x2), some (.int x3)]) (st' := [.int (zi 101), .int (s.1 24 18)]) (h' := mk s) 3 rfl ?_
  refine Ev.icmp_lt (t := 204) rfl rfl (fun hb => ?_) (fun hb => ?_)
  · have h := (if_pos hb).symm.trans h
    exact k201_204 x1 x2 x3 s _ h
  · have h := (if_neg hb).symm.trans h
    refine Ev.run (pc' := 201) (ls' := [some (.ref 24), some (.int x1), some (.int x2), some (.int x3)]) (st' := [.int (zi 103), .int (s.1 24 18)]) (h' := mk s) 3 rfl ?_
    refine Ev.icmp_le (t := 213) rfl rfl (fun hb => ?_) (fun hb => ?_)
    · have h := (if_pos hb).symm.trans h
      exact k201_213 x1 x2 x3 s _ h
    · have h := (if_neg hb).symm.trans h
      exact k201_204 x1 x2 x3 s _ h
def f201_167  (x1 : Int32) (x2 : Int32) (x3 : Int32) (s : zS) : Option (Int32 × zS) := if x2 < (zi 3) then f201_186 x1 x2 (x3 ||| (zi 0)) s else if x2 > (zi 6) then f201_186 x1 x2 (x3 ||| (zi 0)) s else f201_186 x1 x2 (x3 ||| (zi 1)) s
set_option maxRecDepth 100000 in
theorem k201_167 {X : mX} {D : Nat}   (x1 : Int32) (x2 : Int32) (x3 : Int32) (s : zS) (r : Int32 × zS)   (h : f201_167  x1 x2 x3 s = some r) : Ev X D mm201 167 [some (.ref 24), some (.int x1), some (.int x2), some (.int x3)] [] (mk s) (encI r) := by
  unfold f201_167 at h
  refine Ev.run (pc' := 170) (ls' := [some (.ref 24), some (.int x1), some (.int x2), some (.int x3)]) (st' := [.int (zi 3), .int x2, .int x3]) (h' := mk s) 3 rfl ?_
  refine Ev.icmp_lt (t := 183) rfl rfl (fun hb => ?_) (fun hb => ?_)
  · have h := (if_pos hb).symm.trans h
    refine Ev.run (pc' := 186) (ls' := [some (.ref 24), some (.int x1), some (.int x2), some (.int (x3 ||| (zi 0)))]) (st' := []) (h' := mk s) 3 rfl ?_
    exact k201_186 x1 x2 (x3 ||| (zi 0)) s _ h
  · have h := (if_neg hb).symm.trans h
    refine Ev.run (pc' := 176) (ls' := [some (.ref 24), some (.int x1), some (.int x2), some (.int x3)]) (st' := [.int (zi 6), .int x2, .int x3]) (h' := mk s) 2 rfl ?_
    refine Ev.icmp_gt (t := 183) rfl rfl (fun hb => ?_) (fun hb => ?_)
    · have h := (if_pos hb).symm.trans h
      refine Ev.run (pc' := 186) (ls' := [some (.ref 24), some (.int x1), some (.int x2), some (.int (x3 ||| (zi 0)))]) (st' := []) (h' := mk s) 3 rfl ?_
      exact k201_186 x1 x2 (x3 ||| (zi 0)) s _ h
    · have h := (if_neg hb).symm.trans h
      refine Ev.run (pc' := 186) (ls' := [some (.ref 24), some (.int x1), some (.int x2), some (.int (x3 ||| (zi 1)))]) (st' := []) (h' := mk s) 4 rfl ?_
      exact k201_186 x1 x2 (x3 ||| (zi 1)) s _ h
def f201_140  (x1 : Int32) (x2 : Int32) (x3 : Int32) (s : zS) : Option (Int32 × zS) := if (s.1 24 18) = (zi 100) then f201_167 x1 x2 x3 s else if (s.1 24 18) = (zi 111) then f201_167 x1 x2 x3 s else if ¬ (s.1 24 18) = (zi 120) then f201_186 x1 x2 x3 s else f201_167 x1 x2 x3 s
set_option maxRecDepth 100000 in
theorem k201_140 {X : mX} {D : Nat}   (x1 : Int32) (x2 : Int32) (x3 : Int32) (s : zS) (r : Int32 × zS)   (h : f201_140  x1 x2 x3 s = some r) : Ev X D mm201 140 [some (.ref 24), some (.int x1), some (.int x2), some (.int x3)] [] (mk s) (encI r) := by
  unfold f201_140 at h
  refine Ev.run (pc' := 146) (ls' := [some (.ref 24), some (.int x1), some (.int x2), some (.int x3)]) (st' := [.int (zi 100), .int (s.1 24 18)]) (h' := mk s) 3 rfl ?_
  refine Ev.icmp_eq (t := 167) rfl rfl (fun hb => ?_) (fun hb => ?_)
  · have h := (if_pos hb).symm.trans h
    exact k201_167 x1 x2 x3 s _ h
  · have h := (if_neg hb).symm.trans h
    refine Ev.run (pc' := 155) (ls' := [some (.ref 24), some (.int x1), some (.int x2), some (.int x3)]) (st' := [.int (zi 111), .int (s.1 24 18)]) (h' := mk s) 3 rfl ?_
    refine Ev.icmp_eq (t := 167) rfl rfl (fun hb => ?_) (fun hb => ?_)
    · have h := (if_pos hb).symm.trans h
      exact k201_167 x1 x2 x3 s _ h
    · have h := (if_neg hb).symm.trans h
      refine Ev.run (pc' := 164) (ls' := [some (.ref 24), some (.int x1), some (.int x2), some (.int x3)]) (st' := [.int (zi 120), .int (s.1 24 18)]) (h' := mk s) 3 rfl ?_
      refine Ev.icmp_ne (t := 186) rfl rfl (fun hb => ?_) (fun hb => ?_)
      · have h := (if_pos hb).symm.trans h
        exact k201_186 x1 x2 x3 s _ h
      · have h := (if_neg hb).symm.trans h
        exact k201_167 x1 x2 x3 s _ h
def f201_111  (x1 : Int32) (x2 : Int32) (y0 : Int32) (s : zS) : Option (Int32 × zS) := if ¬ (s.1 24 18) = (zi 99) then f201_140 x1 x2 y0 s else if x2 < (zi 2) then f201_140 x1 x2 (y0 ||| (zi 0)) s else if x2 ≥ (zi 6) then f201_140 x1 x2 (y0 ||| (zi 0)) s else f201_140 x1 x2 (y0 ||| (zi 1)) s
set_option maxRecDepth 100000 in
theorem k201_111 {X : mX} {D : Nat}   (x1 : Int32) (x2 : Int32) (y0 : Int32) (s : zS) (r : Int32 × zS) (o3 : Option Value)  (h : f201_111  x1 x2 y0 s = some r) : Ev X D mm201 111 [some (.ref 24), some (.int x1), some (.int x2), o3] [.int y0] (mk s) (encI r) := by
  unfold f201_111 at h
  refine Ev.run (pc' := 118) (ls' := [some (.ref 24), some (.int x1), some (.int x2), some (.int y0)]) (st' := [.int (zi 99), .int (s.1 24 18)]) (h' := mk s) 4 rfl ?_
  refine Ev.icmp_ne (t := 140) rfl rfl (fun hb => ?_) (fun hb => ?_)
  · have h := (if_pos hb).symm.trans h
    exact k201_140 x1 x2 y0 s _ h
  · have h := (if_neg hb).symm.trans h
    refine Ev.run (pc' := 124) (ls' := [some (.ref 24), some (.int x1), some (.int x2), some (.int y0)]) (st' := [.int (zi 2), .int x2, .int y0]) (h' := mk s) 3 rfl ?_
    refine Ev.icmp_lt (t := 137) rfl rfl (fun hb => ?_) (fun hb => ?_)
    · have h := (if_pos hb).symm.trans h
      refine Ev.run (pc' := 140) (ls' := [some (.ref 24), some (.int x1), some (.int x2), some (.int (y0 ||| (zi 0)))]) (st' := []) (h' := mk s) 3 rfl ?_
      exact k201_140 x1 x2 (y0 ||| (zi 0)) s _ h
    · have h := (if_neg hb).symm.trans h
      refine Ev.run (pc' := 130) (ls' := [some (.ref 24), some (.int x1), some (.int x2), some (.int y0)]) (st' := [.int (zi 6), .int x2, .int y0]) (h' := mk s) 2 rfl ?_
      refine Ev.icmp_ge (t := 137) rfl rfl (fun hb => ?_) (fun hb => ?_)
      · have h := (if_pos hb).symm.trans h
        refine Ev.run (pc' := 140) (ls' := [some (.ref 24), some (.int x1), some (.int x2), some (.int (y0 ||| (zi 0)))]) (st' := []) (h' := mk s) 3 rfl ?_
        exact k201_140 x1 x2 (y0 ||| (zi 0)) s _ h
      · have h := (if_neg hb).symm.trans h
        refine Ev.run (pc' := 140) (ls' := [some (.ref 24), some (.int x1), some (.int x2), some (.int (y0 ||| (zi 1)))]) (st' := []) (h' := mk s) 4 rfl ?_
        exact k201_140 x1 x2 (y0 ||| (zi 1)) s _ h
def f201_67  (x1 : Int32) (s : zS) : Option (Int32 × zS) := if mIx x1 24 then if (s.1 29 x1.toNatClampNeg) = zi 0 then f201_111 x1 (s.1 29 x1.toNatClampNeg) (zi 1) (setI (setI s 24 37 x1) 24 35 x1) else if (s.1 24 18) = (zi 98) then f201_111 x1 (s.1 29 x1.toNatClampNeg) (zi 1) (setI (setI s 24 37 x1) 24 35 x1) else if ¬ (s.1 24 18) = (zi 115) then f201_111 x1 (s.1 29 x1.toNatClampNeg) (zi 0) (setI (setI s 24 37 x1) 24 35 x1) else f201_111 x1 (s.1 29 x1.toNatClampNeg) (zi 1) (setI (setI s 24 37 x1) 24 35 x1) else none
set_option maxRecDepth 100000 in
theorem k201_67 {X : mX} {D : Nat}   (x1 : Int32) (s : zS) (r : Int32 × zS) (o2 : Option Value) (o3 : Option Value)  (h : f201_67  x1 s = some r) : Ev X D mm201 67 [some (.ref 24), some (.int x1), o2, o3] [] (mk s) (encI r) := by
  unfold f201_67 at h
  refine Ev.run (pc' := 69) (ls' := [some (.ref 24), some (.int x1), o2, o3]) (st' := [.int x1, .ref 24]) (h' := mk s) 2 rfl ?_
  refine Ev.step (pc' := 72) rfl (put_12_37 rfl) ?_
  refine Ev.run (pc' := 74) (ls' := [some (.ref 24), some (.int x1), o2, o3]) (st' := [.int x1, .ref 24]) (h' := mk (setI s 24 37 x1)) 2 rfl ?_
  refine Ev.step (pc' := 77) rfl (put_12_35 rfl) ?_
  refine Ev.run (pc' := 82) (ls' := [some (.ref 24), some (.int x1), o2, o3]) (st' := [.int x1, .ref 29]) (h' := mk (setI (setI s 24 37 x1) 24 35 x1)) 3 rfl ?_
  obtain ⟨hx, h⟩ := zif h
  refine Ev.step (pc' := 83) rfl (ald_i rfl hx) ?_
  refine Ev.run (pc' := 85) (ls' := [some (.ref 24), some (.int x1), some (.int (s.1 29 x1.toNatClampNeg)), o3]) (st' := [.int (s.1 29 x1.toNatClampNeg)]) (h' := mk (setI (setI s 24 37 x1) 24 35 x1)) 2 rfl ?_
  refine Ev.if_eq (t := 106) rfl rfl (fun hb => ?_) (fun hb => ?_)
  · have h := (if_pos hb).symm.trans h
    refine Ev.run (pc' := 111) (ls' := [some (.ref 24), some (.int x1), some (.int (s.1 29 x1.toNatClampNeg)), o3]) (st' := [.int (zi 1)]) (h' := mk (setI (setI s 24 37 x1) 24 35 x1)) 2 rfl ?_
    exact k201_111 x1 (s.1 29 x1.toNatClampNeg) (zi 1) (setI (setI s 24 37 x1) 24 35 x1) _ _ h
  · have h := (if_neg hb).symm.trans h
    refine Ev.run (pc' := 94) (ls' := [some (.ref 24), some (.int x1), some (.int (s.1 29 x1.toNatClampNeg)), o3]) (st' := [.int (zi 98), .int (s.1 24 18)]) (h' := mk (setI (setI s 24 37 x1) 24 35 x1)) 3 rfl ?_
    refine Ev.icmp_eq (t := 106) rfl rfl (fun hb => ?_) (fun hb => ?_)
    · have h := (if_pos hb).symm.trans h
      refine Ev.run (pc' := 111) (ls' := [some (.ref 24), some (.int x1), some (.int (s.1 29 x1.toNatClampNeg)), o3]) (st' := [.int (zi 1)]) (h' := mk (setI (setI s 24 37 x1) 24 35 x1)) 2 rfl ?_
      exact k201_111 x1 (s.1 29 x1.toNatClampNeg) (zi 1) (setI (setI s 24 37 x1) 24 35 x1) _ _ h
    · have h := (if_neg hb).symm.trans h
      refine Ev.run (pc' := 103) (ls' := [some (.ref 24), some (.int x1), some (.int (s.1 29 x1.toNatClampNeg)), o3]) (st' := [.int (zi 115), .int (s.1 24 18)]) (h' := mk (setI (setI s 24 37 x1) 24 35 x1)) 3 rfl ?_
      refine Ev.icmp_ne (t := 110) rfl rfl (fun hb => ?_) (fun hb => ?_)
      · have h := (if_pos hb).symm.trans h
        refine Ev.run (pc' := 111) (ls' := [some (.ref 24), some (.int x1), some (.int (s.1 29 x1.toNatClampNeg)), o3]) (st' := [.int (zi 0)]) (h' := mk (setI (setI s 24 37 x1) 24 35 x1)) 1 rfl ?_
        exact k201_111 x1 (s.1 29 x1.toNatClampNeg) (zi 0) (setI (setI s 24 37 x1) 24 35 x1) _ _ h
      · have h := (if_neg hb).symm.trans h
        refine Ev.run (pc' := 111) (ls' := [some (.ref 24), some (.int x1), some (.int (s.1 29 x1.toNatClampNeg)), o3]) (st' := [.int (zi 1)]) (h' := mk (setI (setI s 24 37 x1) 24 35 x1)) 2 rfl ?_
        exact k201_111 x1 (s.1 29 x1.toNatClampNeg) (zi 1) (setI (setI s 24 37 x1) 24 35 x1) _ _ h
def f201_34  (y0 : Int32) (s : zS) : Option (Int32 × zS) := if y0 < zi 0 then some (zi 8, s) else if y0 < (s.1 24 13) then if ¬ (s.1 24 14) = zi 0 then f201_67 y0 s else f201_67 y0 (setI s 24 36 ((s.1 24 36) + (zi 1))) else some (zi 8, s)
set_option maxRecDepth 100000 in
theorem k201_34 {X : mX} {D : Nat}   (y0 : Int32) (s : zS) (r : Int32 × zS) (o1 : Option Value) (o2 : Option Value) (o3 : Option Value)  (h : f201_34  y0 s = some r) : Ev X D mm201 34 [some (.ref 24), o1, o2, o3] [.int y0] (mk s) (encI r) := by
  unfold f201_34 at h
  refine Ev.run (pc' := 36) (ls' := [some (.ref 24), some (.int y0), o2, o3]) (st' := [.int y0]) (h' := mk s) 2 rfl ?_
  refine Ev.if_lt (t := 47) rfl rfl (fun hb => ?_) (fun hb => ?_)
  · have h := (if_pos hb).symm.trans h
    refine Ev.run (pc' := 49) (ls' := [some (.ref 24), some (.int y0), o2, o3]) (st' := [.int (zi 8)]) (h' := mk s) 1 rfl ?_
    first | (obtain rfl := Option.some.inj h) | (cases h)
    exact Ev.fin rfl rfl
  · have h := (if_neg hb).symm.trans h
    refine Ev.run (pc' := 44) (ls' := [some (.ref 24), some (.int y0), o2, o3]) (st' := [.int (s.1 24 13), .int y0]) (h' := mk s) 3 rfl ?_
    refine Ev.icmp_lt (t := 50) rfl rfl (fun hb => ?_) (fun hb => ?_)
    · have h := (if_pos hb).symm.trans h
      refine Ev.run (pc' := 54) (ls' := [some (.ref 24), some (.int y0), o2, o3]) (st' := [.int (s.1 24 14)]) (h' := mk s) 2 rfl ?_
      refine Ev.if_ne (t := 67) rfl rfl (fun hb => ?_) (fun hb => ?_)
      · have h := (if_pos hb).symm.trans h
        exact k201_67 y0 s _ _ _ h
      · have h := (if_neg hb).symm.trans h
        refine Ev.run (pc' := 64) (ls' := [some (.ref 24), some (.int y0), o2, o3]) (st' := [.int ((s.1 24 36) + (zi 1)), .ref 24]) (h' := mk s) 5 rfl ?_
        refine Ev.step (pc' := 67) rfl (put_12_36 rfl) ?_
        exact k201_67 y0 (setI s 24 36 ((s.1 24 36) + (zi 1))) _ _ _ h
    · have h := (if_neg hb).symm.trans h
      refine Ev.run (pc' := 49) (ls' := [some (.ref 24), some (.int y0), o2, o3]) (st' := [.int (zi 8)]) (h' := mk s) 1 rfl ?_
      first | (obtain rfl := Option.some.inj h) | (cases h)
      exact Ev.fin rfl rfl
def f201   (s : zS) : Option (Int32 × zS) := if (s.1 24 14) ≤ zi 0 then if (s.1 24 14) ≥ zi 0 then f201_34 (s.1 24 36) s else f201_34 (s.1 24 37) s else f201_34 ((s.1 24 14) - (zi 1)) s
set_option maxRecDepth 100000 in
theorem k201 {X : mX} {D : Nat}  {s : zS} {r : Int32 × zS}  (h : f201  s = some r) : Ev X D mm201 0 [some (.ref 24), none, none, none] [] (mk s) (encI r) := by
  unfold f201 at h
  refine Ev.run (pc' := 4) (ls' := [some (.ref 24), none, none, none]) (st' := [.int (s.1 24 14)]) (h' := mk s) 2 rfl ?_
  refine Ev.if_le (t := 16) rfl rfl (fun hb => ?_) (fun hb => ?_)
  · have h := (if_pos hb).symm.trans h
    refine Ev.run (pc' := 20) (ls' := [some (.ref 24), none, none, none]) (st' := [.int (s.1 24 14)]) (h' := mk s) 2 rfl ?_
    refine Ev.if_ge (t := 30) rfl rfl (fun hb => ?_) (fun hb => ?_)
    · have h := (if_pos hb).symm.trans h
      refine Ev.run (pc' := 34) (ls' := [some (.ref 24), none, none, none]) (st' := [.int (s.1 24 36)]) (h' := mk s) 2 rfl ?_
      exact k201_34 (s.1 24 36) s _ _ _ _ h
    · have h := (if_neg hb).symm.trans h
      refine Ev.run (pc' := 34) (ls' := [some (.ref 24), none, none, none]) (st' := [.int (s.1 24 37)]) (h' := mk s) 3 rfl ?_
      exact k201_34 (s.1 24 37) s _ _ _ _ h
  · have h := (if_neg hb).symm.trans h
    refine Ev.run (pc' := 34) (ls' := [some (.ref 24), none, none, none]) (st' := [.int ((s.1 24 14) - (zi 1))]) (h' := mk s) 5 rfl ?_
    exact k201_34 ((s.1 24 14) - (zi 1)) s _ _ _ _ h
/-! 203 FModel.text(IJ)V -/
def f203_120  (y1 : Int64) (y2 : Int32) (s : zS) : Option (zS) := zb0 (f179 y1 y2 s) (fun s1 => some s1)
set_option maxRecDepth 100000 in
theorem k203_120 {X : mX} {D : Nat}   (y1 : Int64) (y2 : Int32) (s : zS) (r : zS) (o0 : Option Value) (o1 : Option Value) (o2 : Option Value) (o3 : Option Value) (o4 : Option Value)  (h : f203_120  y1 y2 s = some r) : Ev X (D + 7) mm203 120 [o0, o1, o2, o3, o4] [.int y2, .long y1, .ref 24] (mk s) (encV r) := by
  unfold f203_120 at h
  obtain ⟨s1, hq, h⟩ := zb0_some h
  refine Ev.call (M' := mm179) (v := none) (h' := mk s1) rfl rfl rfl (Nat.le_of_ble_eq_true rfl) (k179 hq) ?_
  first | (obtain rfl := Option.some.inj h) | (cases h)
  exact Ev.fin rfl rfl
def b203_64 (rec64 : Int32 → zS → Option (zS)) (x4 : Int32) (s : zS) : Option (zS) := if mIx (s.1 24 35) 24 then if x4 ≥ (s.1 30 ((s.1 24 35).toNatClampNeg)) then some s else if mIx (((zi 200) * (s.1 24 35)) + x4) 4800 then zb0 (f175 (s.1 28 ((((zi 200) * (s.1 24 35)) + x4).toNatClampNeg)) s) (fun s1 => rec64 (x4 + zi 1) s1) else none else none
set_option maxRecDepth 100000 in
theorem kb203_64 {X : mX} {D : Nat} {rec64 : Int32 → zS → Option (zS)} (hrec64 : ∀ (x4 : Int32) (s : zS) (r : zS) (o1 : Option Value) (o2 : Option Value), rec64 x4 s = some r → Ev X (D + 7) mm203 64 [some (.ref 24), o1, o2, none, some (.int x4)] [] (mk s) (encV r)) (x4 : Int32) (s : zS) (r : zS) (o1 : Option Value) (o2 : Option Value)  (h : b203_64 rec64 x4 s = some r) : Ev X (D + 7) mm203 64 [some (.ref 24), o1, o2, none, some (.int x4)] [] (mk s) (encV r) := by
  unfold b203_64 at h
  refine Ev.run (pc' := 74) (ls' := [some (.ref 24), o1, o2, none, some (.int x4)]) (st' := [.int (s.1 24 35), .ref 30, .int x4]) (h' := mk s) 5 rfl ?_
  obtain ⟨hx, h⟩ := zif h
  refine Ev.step (pc' := 75) rfl (ald_i rfl hx) ?_
  refine Ev.icmp_ge (t := 104) rfl rfl (fun hb => ?_) (fun hb => ?_)
  · have h := (if_pos hb).symm.trans h
    refine Ev.run (pc' := 123) (ls' := [some (.ref 24), o1, o2, none, some (.int x4)]) (st' := []) (h' := mk s) 1 rfl ?_
    first | (obtain rfl := Option.some.inj h) | (cases h)
    exact Ev.fin rfl rfl
  · have h := (if_neg hb).symm.trans h
    refine Ev.run (pc' := 94) (ls' := [some (.ref 24), o1, o2, none, some (.int x4)]) (st' := [.int (((zi 200) * (s.1 24 35)) + x4), .ref 28, .ref 24]) (h' := mk s) 9 rfl ?_
    obtain ⟨hx, h⟩ := zif h
    refine Ev.step (pc' := 95) rfl (ald_b rfl hx) ?_
    obtain ⟨s1, hq, h⟩ := zb0_some h
    refine Ev.call (M' := mm175) (v := none) (h' := mk s1) rfl rfl rfl (Nat.le_of_ble_eq_true rfl) (k175 hq) ?_
    refine Ev.run (pc' := 64) (ls' := [some (.ref 24), o1, o2, none, some (.int (x4 + zi 1))]) (st' := []) (h' := mk s1) 2 rfl ?_
    exact hrec64 (x4 + zi 1) s1 _ _ _ h
def f203_64  : Nat → Int32 → zS → Option (zS)
  | 0, _, _ => none
  | n + 1, x4, s => b203_64 (f203_64 n) x4 s
set_option maxRecDepth 100000 in
theorem k203_64 {X : mX} {D : Nat}   (n : Nat) : ∀ (x4 : Int32) (s : zS) (r : zS) (o1 : Option Value) (o2 : Option Value), f203_64  n x4 s = some r → Ev X (D + 7) mm203 64 [some (.ref 24), o1, o2, none, some (.int x4)] [] (mk s) (encV r) := by
  induction n with
  | zero => intro x4 s r o1 o2  h; cases h
  | succ n ih => intro x4 s r o1 o2  h; exact kb203_64  ih x4 s r o1 o2  h
def f203_21  (d1 : Nat) (s : zS) : Option (zS) := zb0 (f176 d1 s) (fun s1 => some s1)
set_option maxRecDepth 100000 in
theorem k203_21 {X : mX} {D : Nat}   (d1 : Nat) (s : zS) (r : zS) (o0 : Option Value) (o1 : Option Value) (o2 : Option Value) (o3 : Option Value) (o4 : Option Value) (hd1 : d1 < 78) (h : f203_21  d1 s = some r) : Ev X (D + 7) mm203 21 [o0, o1, o2, o3, o4] [.ref (mRO + 3 + 2 * d1), .ref 24] (mk s) (encV r) := by
  unfold f203_21 at h
  obtain ⟨s1, hq, h⟩ := zb0_some h
  refine Ev.call (M' := mm176) (v := none) (h' := mk s1) rfl rfl rfl (Nat.le_of_ble_eq_true rfl) (k176 hd1 hq) ?_
  refine Ev.run (pc' := 123) (ls' := [o0, o1, o2, o3, o4]) (st' := []) (h' := mk s1) 1 rfl ?_
  first | (obtain rfl := Option.some.inj h) | (cases h)
  exact Ev.fin rfl rfl
def f203  (x1 : Int32) (x2 : Int64) (s : zS) : Option (zS) := if ¬ x1 = (zi 1) then if ¬ x1 = (zi 2) then if x1 > (zi 6) then if ¬ x1 = (zi 9) then if ¬ x1 = (zi 8) then f203_120 x2 (zi 0) s else f203_120 x2 (zi 1) s else f203_64 zF (zi 0) s else zb0 (f194 x2 s) (fun s1 => some s1) else zb0 (f178 (zL2I x2) s) (fun s2 => some s2) else if ¬ x2 = (zl 0) then f203_21 61 s else f203_21 60 s
set_option maxRecDepth 100000 in
theorem k203 {X : mX} {D : Nat} {x1 : Int32} {x2 : Int64} {s : zS} {r : zS}  (h : f203 x1 x2 s = some r) : Ev X (D + 7) mm203 0 [some (.ref 24), some (.int x1), some (.long x2), none, none] [] (mk s) (encV r) := by
  unfold f203 at h
  refine Ev.run (pc' := 2) (ls' := [some (.ref 24), some (.int x1), some (.long x2), none, none]) (st' := [.int (zi 1), .int x1]) (h' := mk s) 2 rfl ?_
  refine Ev.icmp_ne (t := 27) rfl rfl (fun hb => ?_) (fun hb => ?_)
  · have h := (if_pos hb).symm.trans h
    refine Ev.run (pc' := 29) (ls' := [some (.ref 24), some (.int x1), some (.long x2), none, none]) (st' := [.int (zi 2), .int x1]) (h' := mk s) 2 rfl ?_
    refine Ev.icmp_ne (t := 41) rfl rfl (fun hb => ?_) (fun hb => ?_)
    · have h := (if_pos hb).symm.trans h
      refine Ev.run (pc' := 44) (ls' := [some (.ref 24), some (.int x1), some (.long x2), none, none]) (st' := [.int (zi 6), .int x1]) (h' := mk s) 2 rfl ?_
      refine Ev.icmp_gt (t := 55) rfl rfl (fun hb => ?_) (fun hb => ?_)
      · have h := (if_pos hb).symm.trans h
        refine Ev.run (pc' := 58) (ls' := [some (.ref 24), some (.int x1), some (.long x2), none, none]) (st' := [.int (zi 9), .int x1]) (h' := mk s) 2 rfl ?_
        refine Ev.icmp_ne (t := 107) rfl rfl (fun hb => ?_) (fun hb => ?_)
        · have h := (if_pos hb).symm.trans h
          refine Ev.run (pc' := 112) (ls' := [some (.ref 24), some (.int x1), some (.long x2), none, none]) (st' := [.int (zi 8), .int x1, .long x2, .ref 24]) (h' := mk s) 4 rfl ?_
          refine Ev.icmp_ne (t := 119) rfl rfl (fun hb => ?_) (fun hb => ?_)
          · have h := (if_pos hb).symm.trans h
            refine Ev.run (pc' := 120) (ls' := [some (.ref 24), some (.int x1), some (.long x2), none, none]) (st' := [.int (zi 0), .long x2, .ref 24]) (h' := mk s) 1 rfl ?_
            exact k203_120 x2 (zi 0) s _ _ _ _ _ _ h
          · have h := (if_neg hb).symm.trans h
            refine Ev.run (pc' := 120) (ls' := [some (.ref 24), some (.int x1), some (.long x2), none, none]) (st' := [.int (zi 1), .long x2, .ref 24]) (h' := mk s) 2 rfl ?_
            exact k203_120 x2 (zi 1) s _ _ _ _ _ _ h
        · have h := (if_neg hb).symm.trans h
          refine Ev.run (pc' := 64) (ls' := [some (.ref 24), some (.int x1), some (.long x2), none, some (.int (zi 0))]) (st' := []) (h' := mk s) 2 rfl ?_
          exact k203_64 zF (zi 0) s _ _ _ h
      · have h := (if_neg hb).symm.trans h
        refine Ev.run (pc' := 49) (ls' := [some (.ref 24), some (.int x1), some (.long x2), none, none]) (st' := [.long x2, .ref 24]) (h' := mk s) 2 rfl ?_
        obtain ⟨s1, hq, h⟩ := zb0_some h
        refine Ev.call (M' := mm194) (v := none) (h' := mk s1) rfl rfl rfl (Nat.le_of_ble_eq_true rfl) (k194 hq) ?_
        refine Ev.run (pc' := 123) (ls' := [some (.ref 24), some (.int x1), some (.long x2), none, none]) (st' := []) (h' := mk s1) 1 rfl ?_
        first | (obtain rfl := Option.some.inj h) | (cases h)
        exact Ev.fin rfl rfl
    · have h := (if_neg hb).symm.trans h
      refine Ev.run (pc' := 35) (ls' := [some (.ref 24), some (.int x1), some (.long x2), none, none]) (st' := [.int (zL2I x2), .ref 24]) (h' := mk s) 3 rfl ?_
      obtain ⟨s2, hq, h⟩ := zb0_some h
      refine Ev.call (M' := mm178) (v := none) (h' := mk s2) rfl rfl rfl (Nat.le_of_ble_eq_true rfl) (k178 hq) ?_
      refine Ev.run (pc' := 123) (ls' := [some (.ref 24), some (.int x1), some (.long x2), none, none]) (st' := []) (h' := mk s2) 1 rfl ?_
      first | (obtain rfl := Option.some.inj h) | (cases h)
      exact Ev.fin rfl rfl
  · have h := (if_neg hb).symm.trans h
    refine Ev.run (pc' := 9) (ls' := [some (.ref 24), some (.int x1), some (.long x2), none, none]) (st' := [.int (lg_cmp x2 (zl 0)), .ref 24]) (h' := mk s) 4 rfl ?_
    refine Ev.ifl_ne (t := 18) rfl rfl (fun hb => ?_) (fun hb => ?_)
    · have h := (if_pos hb).symm.trans h
      refine Ev.run (pc' := 21) (ls' := [some (.ref 24), some (.int x1), some (.long x2), none, none]) (st' := [.ref (mRO + 3 + 2 * 61), .ref 24]) (h' := mk s) 1 rfl ?_
      exact k203_21 61 s _ _ _ _ _ _ (by decide) h
    · have h := (if_neg hb).symm.trans h
      refine Ev.run (pc' := 21) (ls' := [some (.ref 24), some (.int x1), some (.long x2), none, none]) (st' := [.ref (mRO + 3 + 2 * 60), .ref 24]) (h' := mk s) 2 rfl ?_
      exact k203_21 60 s _ _ _ _ _ _ (by decide) h
