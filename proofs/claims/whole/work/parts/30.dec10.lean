/-! decompiled methods, 10; printed by wip/gen/gen8.py -/
/-! 202 FModel.make()V -/
def f202_222 (rec176 : Int32 → zS → Option (zS)) (x4 : Int32) (s : zS) : Option (zS) := rec176 x4 (setI s 24 31 ((s.1 24 31) + (zi 1)))
set_option maxRecDepth 100000 in
theorem k202_222 {X : mX} {D : Nat} {rec176 : Int32 → zS → Option (zS)} (hrec176 : ∀ (x4 : Int32) (s : zS) (r : zS) (o1 : Option Value) (o2 : Option Value), rec176 x4 s = some r → Ev X (D + 9) mm202 176 [some (.ref 24), o1, o2, none, some (.int x4)] [] (mk s) (encV r)) (x4 : Int32) (s : zS) (r : zS) (o1 : Option Value) (o2 : Option Value)  (h : f202_222 rec176 x4 s = some r) : Ev X (D + 9) mm202 222 [some (.ref 24), o1, o2, none, some (.int x4)] [] (mk s) (encV r) := by
  unfold f202_222 at h
  refine Ev.run (pc' := 229) (ls' := [some (.ref 24), o1, o2, none, some (.int x4)]) (st' := [.int ((s.1 24 31) + (zi 1)), .ref 24]) (h' := mk s) 5 rfl ?_
  refine Ev.step (pc' := 232) rfl (put_12_31 rfl) ?_
  refine Ev.run (pc' := 176) (ls' := [some (.ref 24), o1, o2, none, some (.int x4)]) (st' := []) (h' := mk (setI s 24 31 ((s.1 24 31) + (zi 1)))) 1 rfl ?_
  exact hrec176 x4 (setI s 24 31 ((s.1 24 31) + (zi 1))) _ _ _ h
def b202_190 (rec176 : Int32 → zS → Option (zS)) (rec190 : Int32 → zS → Option (zS)) (x4 : Int32) (s : zS) : Option (zS) := if x4 ≥ (s.1 24 30) then f202_222 rec176 x4 s else if mIx x4 12000 then if ¬ ((s.1 39 x4.toNatClampNeg) &&& (zi 192)) = (zi 128) then f202_222 rec176 x4 s else rec190 (x4 + zi 1) s else none
set_option maxRecDepth 100000 in
theorem kb202_190 {X : mX} {D : Nat} {rec176 : Int32 → zS → Option (zS)} {rec190 : Int32 → zS → Option (zS)} (hrec176 : ∀ (x4 : Int32) (s : zS) (r : zS) (o1 : Option Value) (o2 : Option Value), rec176 x4 s = some r → Ev X (D + 9) mm202 176 [some (.ref 24), o1, o2, none, some (.int x4)] [] (mk s) (encV r)) (hrec190 : ∀ (x4 : Int32) (s : zS) (r : zS) (o1 : Option Value) (o2 : Option Value), rec190 x4 s = some r → Ev X (D + 9) mm202 190 [some (.ref 24), o1, o2, none, some (.int x4)] [] (mk s) (encV r)) (x4 : Int32) (s : zS) (r : zS) (o1 : Option Value) (o2 : Option Value)  (h : b202_190 rec176 rec190 x4 s = some r) : Ev X (D + 9) mm202 190 [some (.ref 24), o1, o2, none, some (.int x4)] [] (mk s) (encV r) := by
  unfold b202_190 at h
  refine Ev.run (pc' := 196) (ls' := [some (.ref 24), o1, o2, none, some (.int x4)]) (st' := [.int (s.1 24 30), .int x4]) (h' := mk s) 3 rfl ?_
  refine Ev.icmp_ge (t := 222) rfl rfl (fun hb => ?_) (fun hb => ?_)
  · have h := (if_pos hb).symm.trans h
    exact k202_222 hrec176 x4 s _ _ _ h
  · have h := (if_neg hb).symm.trans h
    refine Ev.run (pc' := 205) (ls' := [some (.ref 24), o1, o2, none, some (.int x4)]) (st' := [.int x4, .ref 39]) (h' := mk s) 3 rfl ?_
    obtain ⟨hx, h⟩ := zif h
    refine Ev.step (pc' := 206) rfl (ald_b rfl hx) ?_
    refine Ev.run (pc' := 213) (ls' := [some (.ref 24), o1, o2, none, some (.int x4)]) (st' := [.int (zi 128), .int ((s.1 39 x4.toNatClampNeg) &&& (zi 192))]) (h' := mk s) 3 rfl ?_
    refine Ev.icmp_ne (t := 222) rfl rfl (fun hb => ?_) (fun hb => ?_)
    · have h := (if_pos hb).symm.trans h
      exact k202_222 hrec176 x4 s _ _ _ h
    · have h := (if_neg hb).symm.trans h
      refine Ev.run (pc' := 190) (ls' := [some (.ref 24), o1, o2, none, some (.int (x4 + zi 1))]) (st' := []) (h' := mk s) 2 rfl ?_
      exact hrec190 (x4 + zi 1) s _ _ _ h
def f202_190 (rec176 : Int32 → zS → Option (zS)) : Nat → Int32 → zS → Option (zS)
  | 0, _, _ => none
  | n + 1, x4, s => b202_190 rec176 (f202_190 rec176 n) x4 s
set_option maxRecDepth 100000 in
theorem k202_190 {X : mX} {D : Nat} {rec176 : Int32 → zS → Option (zS)} (hrec176 : ∀ (x4 : Int32) (s : zS) (r : zS) (o1 : Option Value) (o2 : Option Value), rec176 x4 s = some r → Ev X (D + 9) mm202 176 [some (.ref 24), o1, o2, none, some (.int x4)] [] (mk s) (encV r)) (n : Nat) : ∀ (x4 : Int32) (s : zS) (r : zS) (o1 : Option Value) (o2 : Option Value), f202_190 rec176 n x4 s = some r → Ev X (D + 9) mm202 190 [some (.ref 24), o1, o2, none, some (.int x4)] [] (mk s) (encV r) := by
  induction n with
  | zero => intro x4 s r o1 o2  h; cases h
  | succ n ih => intro x4 s r o1 o2  h; exact kb202_190  hrec176 ih x4 s r o1 o2  h
def b202_176 (rec176 : Int32 → zS → Option (zS)) (x4 : Int32) (s : zS) : Option (zS) := if (s.1 24 31) ≥ (s.1 24 17) then some (setI s 24 30 x4) else f202_190 rec176 zF (x4 + zi 1) s
set_option maxRecDepth 100000 in
theorem kb202_176 {X : mX} {D : Nat} {rec176 : Int32 → zS → Option (zS)} (hrec176 : ∀ (x4 : Int32) (s : zS) (r : zS) (o1 : Option Value) (o2 : Option Value), rec176 x4 s = some r → Ev X (D + 9) mm202 176 [some (.ref 24), o1, o2, none, some (.int x4)] [] (mk s) (encV r)) (x4 : Int32) (s : zS) (r : zS) (o1 : Option Value) (o2 : Option Value)  (h : b202_176 rec176 x4 s = some r) : Ev X (D + 9) mm202 176 [some (.ref 24), o1, o2, none, some (.int x4)] [] (mk s) (encV r) := by
  unfold b202_176 at h
  refine Ev.run (pc' := 184) (ls' := [some (.ref 24), o1, o2, none, some (.int x4)]) (st' := [.int (s.1 24 17), .int (s.1 24 31)]) (h' := mk s) 4 rfl ?_
  refine Ev.icmp_ge (t := 235) rfl rfl (fun hb => ?_) (fun hb => ?_)
  · have h := (if_pos hb).symm.trans h
    refine Ev.run (pc' := 238) (ls' := [some (.ref 24), o1, o2, none, some (.int x4)]) (st' := [.int x4, .ref 24]) (h' := mk s) 2 rfl ?_
    refine Ev.step (pc' := 241) rfl (put_12_30 rfl) ?_
    refine Ev.run (pc' := 340) (ls' := [some (.ref 24), o1, o2, none, some (.int x4)]) (st' := []) (h' := mk (setI s 24 30 x4)) 1 rfl ?_
    first | (obtain rfl := Option.some.inj h) | (cases h)
    exact Ev.fin rfl rfl
  · have h := (if_neg hb).symm.trans h
    refine Ev.run (pc' := 190) (ls' := [some (.ref 24), o1, o2, none, some (.int (x4 + zi 1))]) (st' := []) (h' := mk s) 1 rfl ?_
    exact k202_190 hrec176 zF (x4 + zi 1) s _ _ _ h
def f202_176  : Nat → Int32 → zS → Option (zS)
  | 0, _, _ => none
  | n + 1, x4, s => b202_176 (f202_176 n) x4 s
set_option maxRecDepth 100000 in
theorem k202_176 {X : mX} {D : Nat}   (n : Nat) : ∀ (x4 : Int32) (s : zS) (r : zS) (o1 : Option Value) (o2 : Option Value), f202_176  n x4 s = some r → Ev X (D + 9) mm202 176 [some (.ref 24), o1, o2, none, some (.int x4)] [] (mk s) (encV r) := by
  induction n with
  | zero => intro x4 s r o1 o2  h; cases h
  | succ n ih => intro x4 s r o1 o2  h; exact kb202_176  ih x4 s r o1 o2  h
def f202_150   (s : zS) : Option (zS) := if (s.1 24 17) < zi 0 then some s else if (s.1 24 31) ≤ (s.1 24 17) then some s else f202_176 zF (zi 0) (setI s 24 31 (zi 0))
set_option maxRecDepth 100000 in
theorem k202_150 {X : mX} {D : Nat}    (s : zS) (r : zS) (o1 : Option Value) (o2 : Option Value) (o4 : Option Value)  (h : f202_150   s = some r) : Ev X (D + 9) mm202 150 [some (.ref 24), o1, o2, none, o4] [] (mk s) (encV r) := by
  unfold f202_150 at h
  refine Ev.run (pc' := 154) (ls' := [some (.ref 24), o1, o2, none, o4]) (st' := [.int (s.1 24 17)]) (h' := mk s) 2 rfl ?_
  refine Ev.if_lt (t := 340) rfl rfl (fun hb => ?_) (fun hb => ?_)
  · have h := (if_pos hb).symm.trans h
    first | (obtain rfl := Option.some.inj h) | (cases h)
    exact Ev.fin rfl rfl
  · have h := (if_neg hb).symm.trans h
    refine Ev.run (pc' := 165) (ls' := [some (.ref 24), o1, o2, none, o4]) (st' := [.int (s.1 24 17), .int (s.1 24 31)]) (h' := mk s) 4 rfl ?_
    refine Ev.icmp_le (t := 340) rfl rfl (fun hb => ?_) (fun hb => ?_)
    · have h := (if_pos hb).symm.trans h
      first | (obtain rfl := Option.some.inj h) | (cases h)
      exact Ev.fin rfl rfl
    · have h := (if_neg hb).symm.trans h
      refine Ev.run (pc' := 170) (ls' := [some (.ref 24), o1, o2, none, o4]) (st' := [.int (zi 0), .ref 24]) (h' := mk s) 2 rfl ?_
      refine Ev.step (pc' := 173) rfl (put_12_31 rfl) ?_
      refine Ev.run (pc' := 176) (ls' := [some (.ref 24), o1, o2, none, some (.int (zi 0))]) (st' := []) (h' := mk (setI s 24 31 (zi 0))) 2 rfl ?_
      exact k202_176 zF (zi 0) (setI s 24 31 (zi 0)) _ _ _ h
def f202_124  (d1 : Nat) (s : zS) : Option (zS) := zb0 (f176 d1 s) (fun s1 => f202_150 s1)
set_option maxRecDepth 100000 in
theorem k202_124 {X : mX} {D : Nat}   (d1 : Nat) (s : zS) (r : zS) (o1 : Option Value) (o2 : Option Value) (o4 : Option Value) (hd1 : d1 < 78) (h : f202_124  d1 s = some r) : Ev X (D + 9) mm202 124 [some (.ref 24), o1, o2, none, o4] [.ref (mRO + 3 + 2 * d1), .ref 24] (mk s) (encV r) := by
  unfold f202_124 at h
  obtain ⟨s1, hq, h⟩ := zb0_some h
  refine Ev.call (M' := mm176) (v := none) (h' := mk s1) rfl rfl rfl (Nat.le_of_ble_eq_true rfl) (k176 hd1 hq) ?_
  refine Ev.run (pc' := 150) (ls' := [some (.ref 24), o1, o2, none, o4]) (st' := []) (h' := mk s1) 1 rfl ?_
  exact k202_150 s1 _ _ _ _ h
def f202_90  (x1 : Int32) (x2 : Int64) (s : zS) : Option (zS) := if ¬ (s.1 24 18) = (zi 98) then if ¬ x1 = zi 0 then zb0 (f203 x1 x2 s) (fun s1 => f202_150 s1) else zb0 (f176 62 s) (fun s2 => f202_150 s2) else if x1 = zi 0 then f202_124 60 s else if ¬ x1 = (zi 1) then f202_124 61 s else if ¬ x2 = (zl 0) then f202_124 61 s else f202_124 60 s
set_option maxRecDepth 100000 in
theorem k202_90 {X : mX} {D : Nat}   (x1 : Int32) (x2 : Int64) (s : zS) (r : zS) (o4 : Option Value)  (h : f202_90  x1 x2 s = some r) : Ev X (D + 9) mm202 90 [some (.ref 24), some (.int x1), some (.long x2), none, o4] [] (mk s) (encV r) := by
  unfold f202_90 at h
  refine Ev.run (pc' := 96) (ls' := [some (.ref 24), some (.int x1), some (.long x2), none, o4]) (st' := [.int (zi 98), .int (s.1 24 18)]) (h' := mk s) 3 rfl ?_
  refine Ev.icmp_ne (t := 130) rfl rfl (fun hb => ?_) (fun hb => ?_)
  · have h := (if_pos hb).symm.trans h
    refine Ev.run (pc' := 131) (ls' := [some (.ref 24), some (.int x1), some (.long x2), none, o4]) (st' := [.int x1]) (h' := mk s) 1 rfl ?_
    refine Ev.if_ne (t := 144) rfl rfl (fun hb => ?_) (fun hb => ?_)
    · have h := (if_pos hb).symm.trans h
      refine Ev.run (pc' := 147) (ls' := [some (.ref 24), some (.int x1), some (.long x2), none, o4]) (st' := [.long x2, .int x1, .ref 24]) (h' := mk s) 3 rfl ?_
      obtain ⟨s1, hq, h⟩ := zb0_some h
      refine Ev.call (M' := mm203) (v := none) (h' := mk s1) rfl rfl rfl (Nat.le_of_ble_eq_true rfl) (k203 hq) ?_
      exact k202_150 s1 _ _ _ _ h
    · have h := (if_neg hb).symm.trans h
      refine Ev.run (pc' := 138) (ls' := [some (.ref 24), some (.int x1), some (.long x2), none, o4]) (st' := [.ref (mRO + 3 + 2 * 62), .ref 24]) (h' := mk s) 2 rfl ?_
      obtain ⟨s2, hq, h⟩ := zb0_some h
      refine Ev.call (M' := mm176) (v := none) (h' := mk s2) rfl rfl rfl (Nat.le_of_ble_eq_true rfl) (k176 (by decide) hq) ?_
      refine Ev.run (pc' := 150) (ls' := [some (.ref 24), some (.int x1), some (.long x2), none, o4]) (st' := []) (h' := mk s2) 1 rfl ?_
      exact k202_150 s2 _ _ _ _ h
  · have h := (if_neg hb).symm.trans h
    refine Ev.run (pc' := 101) (ls' := [some (.ref 24), some (.int x1), some (.long x2), none, o4]) (st' := [.int x1, .ref 24]) (h' := mk s) 2 rfl ?_
    refine Ev.if_eq (t := 115) rfl rfl (fun hb => ?_) (fun hb => ?_)
    · have h := (if_pos hb).symm.trans h
      refine Ev.run (pc' := 124) (ls' := [some (.ref 24), some (.int x1), some (.long x2), none, o4]) (st' := [.ref (mRO + 3 + 2 * 60), .ref 24]) (h' := mk s) 2 rfl ?_
      exact k202_124 60 s _ _ _ _ (by decide) h
    · have h := (if_neg hb).symm.trans h
      refine Ev.run (pc' := 106) (ls' := [some (.ref 24), some (.int x1), some (.long x2), none, o4]) (st' := [.int (zi 1), .int x1, .ref 24]) (h' := mk s) 2 rfl ?_
      refine Ev.icmp_ne (t := 121) rfl rfl (fun hb => ?_) (fun hb => ?_)
      · have h := (if_pos hb).symm.trans h
        refine Ev.run (pc' := 124) (ls' := [some (.ref 24), some (.int x1), some (.long x2), none, o4]) (st' := [.ref (mRO + 3 + 2 * 61), .ref 24]) (h' := mk s) 1 rfl ?_
        exact k202_124 61 s _ _ _ _ (by decide) h
      · have h := (if_neg hb).symm.trans h
        refine Ev.run (pc' := 112) (ls' := [some (.ref 24), some (.int x1), some (.long x2), none, o4]) (st' := [.int (lg_cmp x2 (zl 0)), .ref 24]) (h' := mk s) 3 rfl ?_
        refine Ev.ifl_ne (t := 121) rfl rfl (fun hb => ?_) (fun hb => ?_)
        · have h := (if_pos hb).symm.trans h
          refine Ev.run (pc' := 124) (ls' := [some (.ref 24), some (.int x1), some (.long x2), none, o4]) (st' := [.ref (mRO + 3 + 2 * 61), .ref 24]) (h' := mk s) 1 rfl ?_
          exact k202_124 61 s _ _ _ _ (by decide) h
        · have h := (if_neg hb).symm.trans h
          refine Ev.run (pc' := 124) (ls' := [some (.ref 24), some (.int x1), some (.long x2), none, o4]) (st' := [.ref (mRO + 3 + 2 * 60), .ref 24]) (h' := mk s) 2 rfl ?_
          exact k202_124 60 s _ _ _ _ (by decide) h
def f202_49  (x1 : Int32) (y0 : Int64) (s : zS) : Option (zS) := if ¬ (s.1 24 18) = (zi 37) then if (s.1 24 18) = (zi 98) then f202_90 x1 y0 s else if x1 = zi 0 then f202_90 x1 y0 s else if ¬ (s.1 24 18) = (zi 115) then if ¬ (s.1 24 18) = (zi 99) then if ¬ (s.1 24 18) = (zi 100) then if ¬ (s.1 24 18) = (zi 111) then if ¬ (s.1 24 18) = (zi 120) then if ¬ (s.1 24 18) = (zi 116) then zb0 (f184 s) (fun s1 => some s1) else zb0 (ftime1 (s.1 24 19) s) (fun s2 => some s2) else zb0 (f183 (zi 16) s) (fun s3 => some s3) else zb0 (f183 (zi 8) s) (fun s4 => some s4) else zb0 (f183 (zi 10) s) (fun s5 => some s5) else zb0 (f178 (zL2I y0) s) (fun s6 => some s6) else f202_90 x1 y0 s else zb0 (f175 (zi 37) s) (fun s7 => some s7)
set_option maxRecDepth 100000 in
theorem k202_49 {X : mX} {D : Nat}   (x1 : Int32) (y0 : Int64) (s : zS) (r : zS) (o2 : Option Value) (o3 : Option Value) (o4 : Option Value)  (h : f202_49  x1 y0 s = some r) : Ev X (D + 9) mm202 49 [some (.ref 24), some (.int x1), o2, o3, o4] [.long y0] (mk s) (encV r) := by
  unfold f202_49 at h
  refine Ev.run (pc' := 56) (ls' := [some (.ref 24), some (.int x1), some (.long y0), none, o4]) (st' := [.int (zi 37), .int (s.1 24 18)]) (h' := mk s) 4 rfl ?_
  refine Ev.icmp_ne (t := 68) rfl rfl (fun hb => ?_) (fun hb => ?_)
  · have h := (if_pos hb).symm.trans h
    refine Ev.run (pc' := 74) (ls' := [some (.ref 24), some (.int x1), some (.long y0), none, o4]) (st' := [.int (zi 98), .int (s.1 24 18)]) (h' := mk s) 3 rfl ?_
    refine Ev.icmp_eq (t := 90) rfl rfl (fun hb => ?_) (fun hb => ?_)
    · have h := (if_pos hb).symm.trans h
      exact k202_90 x1 y0 s _ _ h
    · have h := (if_neg hb).symm.trans h
      refine Ev.run (pc' := 78) (ls' := [some (.ref 24), some (.int x1), some (.long y0), none, o4]) (st' := [.int x1]) (h' := mk s) 1 rfl ?_
      refine Ev.if_eq (t := 90) rfl rfl (fun hb => ?_) (fun hb => ?_)
      · have h := (if_pos hb).symm.trans h
        exact k202_90 x1 y0 s _ _ h
      · have h := (if_neg hb).symm.trans h
        refine Ev.run (pc' := 87) (ls' := [some (.ref 24), some (.int x1), some (.long y0), none, o4]) (st' := [.int (zi 115), .int (s.1 24 18)]) (h' := mk s) 3 rfl ?_
        refine Ev.icmp_ne (t := 244) rfl rfl (fun hb => ?_) (fun hb => ?_)
        · have h := (if_pos hb).symm.trans h
          refine Ev.run (pc' := 250) (ls' := [some (.ref 24), some (.int x1), some (.long y0), none, o4]) (st' := [.int (zi 99), .int (s.1 24 18)]) (h' := mk s) 3 rfl ?_
          refine Ev.icmp_ne (t := 262) rfl rfl (fun hb => ?_) (fun hb => ?_)
          · have h := (if_pos hb).symm.trans h
            refine Ev.run (pc' := 268) (ls' := [some (.ref 24), some (.int x1), some (.long y0), none, o4]) (st' := [.int (zi 100), .int (s.1 24 18)]) (h' := mk s) 3 rfl ?_
            refine Ev.icmp_ne (t := 280) rfl rfl (fun hb => ?_) (fun hb => ?_)
            · have h := (if_pos hb).symm.trans h
              refine Ev.run (pc' := 286) (ls' := [some (.ref 24), some (.int x1), some (.long y0), none, o4]) (st' := [.int (zi 111), .int (s.1 24 18)]) (h' := mk s) 3 rfl ?_
              refine Ev.icmp_ne (t := 298) rfl rfl (fun hb => ?_) (fun hb => ?_)
              · have h := (if_pos hb).symm.trans h
                refine Ev.run (pc' := 304) (ls' := [some (.ref 24), some (.int x1), some (.long y0), none, o4]) (st' := [.int (zi 120), .int (s.1 24 18)]) (h' := mk s) 3 rfl ?_
                refine Ev.icmp_ne (t := 316) rfl rfl (fun hb => ?_) (fun hb => ?_)
                · have h := (if_pos hb).symm.trans h
                  refine Ev.run (pc' := 322) (ls' := [some (.ref 24), some (.int x1), some (.long y0), none, o4]) (st' := [.int (zi 116), .int (s.1 24 18)]) (h' := mk s) 3 rfl ?_
                  refine Ev.icmp_ne (t := 336) rfl rfl (fun hb => ?_) (fun hb => ?_)
                  · have h := (if_pos hb).symm.trans h
                    refine Ev.run (pc' := 337) (ls' := [some (.ref 24), some (.int x1), some (.long y0), none, o4]) (st' := [.ref 24]) (h' := mk s) 1 rfl ?_
                    obtain ⟨s1, hq, h⟩ := zb0_some h
                    refine Ev.call (M' := mm184) (v := none) (h' := mk s1) rfl rfl rfl (Nat.le_of_ble_eq_true rfl) (k184 hq) ?_
                    first | (obtain rfl := Option.some.inj h) | (cases h)
                    exact Ev.fin rfl rfl
                  · have h := (if_neg hb).symm.trans h
                    refine Ev.run (pc' := 330) (ls' := [some (.ref 24), some (.int x1), some (.long y0), none, o4]) (st' := [.int (s.1 24 19), .ref 24]) (h' := mk s) 3 rfl ?_
                    obtain ⟨s2, hq, h⟩ := zb0_some h
                    refine Ev.call (M' := mm192) (v := none) (h' := mk s2) rfl rfl rfl (Nat.le_of_ble_eq_true rfl) (ktime1 hq) ?_
                    refine Ev.run (pc' := 340) (ls' := [some (.ref 24), some (.int x1), some (.long y0), none, o4]) (st' := []) (h' := mk s2) 1 rfl ?_
                    first | (obtain rfl := Option.some.inj h) | (cases h)
                    exact Ev.fin rfl rfl
                · have h := (if_neg hb).symm.trans h
                  refine Ev.run (pc' := 310) (ls' := [some (.ref 24), some (.int x1), some (.long y0), none, o4]) (st' := [.int (zi 16), .ref 24]) (h' := mk s) 2 rfl ?_
                  obtain ⟨s3, hq, h⟩ := zb0_some h
                  refine Ev.call (M' := mm183) (v := none) (h' := mk s3) rfl rfl rfl (Nat.le_of_ble_eq_true rfl) (k183 hq) ?_
                  refine Ev.run (pc' := 340) (ls' := [some (.ref 24), some (.int x1), some (.long y0), none, o4]) (st' := []) (h' := mk s3) 1 rfl ?_
                  first | (obtain rfl := Option.some.inj h) | (cases h)
                  exact Ev.fin rfl rfl
              · have h := (if_neg hb).symm.trans h
                refine Ev.run (pc' := 292) (ls' := [some (.ref 24), some (.int x1), some (.long y0), none, o4]) (st' := [.int (zi 8), .ref 24]) (h' := mk s) 2 rfl ?_
                obtain ⟨s4, hq, h⟩ := zb0_some h
                refine Ev.call (M' := mm183) (v := none) (h' := mk s4) rfl rfl rfl (Nat.le_of_ble_eq_true rfl) (k183 hq) ?_
                refine Ev.run (pc' := 340) (ls' := [some (.ref 24), some (.int x1), some (.long y0), none, o4]) (st' := []) (h' := mk s4) 1 rfl ?_
                first | (obtain rfl := Option.some.inj h) | (cases h)
                exact Ev.fin rfl rfl
            · have h := (if_neg hb).symm.trans h
              refine Ev.run (pc' := 274) (ls' := [some (.ref 24), some (.int x1), some (.long y0), none, o4]) (st' := [.int (zi 10), .ref 24]) (h' := mk s) 2 rfl ?_
              obtain ⟨s5, hq, h⟩ := zb0_some h
              refine Ev.call (M' := mm183) (v := none) (h' := mk s5) rfl rfl rfl (Nat.le_of_ble_eq_true rfl) (k183 hq) ?_
              refine Ev.run (pc' := 340) (ls' := [some (.ref 24), some (.int x1), some (.long y0), none, o4]) (st' := []) (h' := mk s5) 1 rfl ?_
              first | (obtain rfl := Option.some.inj h) | (cases h)
              exact Ev.fin rfl rfl
          · have h := (if_neg hb).symm.trans h
            refine Ev.run (pc' := 256) (ls' := [some (.ref 24), some (.int x1), some (.long y0), none, o4]) (st' := [.int (zL2I y0), .ref 24]) (h' := mk s) 3 rfl ?_
            obtain ⟨s6, hq, h⟩ := zb0_some h
            refine Ev.call (M' := mm178) (v := none) (h' := mk s6) rfl rfl rfl (Nat.le_of_ble_eq_true rfl) (k178 hq) ?_
            refine Ev.run (pc' := 340) (ls' := [some (.ref 24), some (.int x1), some (.long y0), none, o4]) (st' := []) (h' := mk s6) 1 rfl ?_
            first | (obtain rfl := Option.some.inj h) | (cases h)
            exact Ev.fin rfl rfl
        · have h := (if_neg hb).symm.trans h
          exact k202_90 x1 y0 s _ _ h
  · have h := (if_neg hb).symm.trans h
    refine Ev.run (pc' := 62) (ls' := [some (.ref 24), some (.int x1), some (.long y0), none, o4]) (st' := [.int (zi 37), .ref 24]) (h' := mk s) 2 rfl ?_
    obtain ⟨s7, hq, h⟩ := zb0_some h
    refine Ev.call (M' := mm175) (v := none) (h' := mk s7) rfl rfl rfl (Nat.le_of_ble_eq_true rfl) (k175 hq) ?_
    refine Ev.run (pc' := 340) (ls' := [some (.ref 24), some (.int x1), some (.long y0), none, o4]) (st' := []) (h' := mk s7) 1 rfl ?_
    first | (obtain rfl := Option.some.inj h) | (cases h)
    exact Ev.fin rfl rfl
def f202_31  (y0 : Int32) (s : zS) : Option (zS) := if y0 ≥ zi 0 then if mIx (s.1 24 35) 24 then f202_49 y0 (s.2.1 31 ((s.1 24 35).toNatClampNeg)) s else none else f202_49 y0 (zl 0) s
set_option maxRecDepth 100000 in
theorem k202_31 {X : mX} {D : Nat}   (y0 : Int32) (s : zS) (r : zS) (o1 : Option Value) (o2 : Option Value) (o3 : Option Value) (o4 : Option Value)  (h : f202_31  y0 s = some r) : Ev X (D + 9) mm202 31 [some (.ref 24), o1, o2, o3, o4] [.int y0] (mk s) (encV r) := by
  unfold f202_31 at h
  refine Ev.run (pc' := 33) (ls' := [some (.ref 24), some (.int y0), o2, o3, o4]) (st' := [.int y0]) (h' := mk s) 2 rfl ?_
  refine Ev.if_ge (t := 40) rfl rfl (fun hb => ?_) (fun hb => ?_)
  · have h := (if_pos hb).symm.trans h
    refine Ev.run (pc' := 48) (ls' := [some (.ref 24), some (.int y0), o2, o3, o4]) (st' := [.int (s.1 24 35), .ref 31]) (h' := mk s) 4 rfl ?_
    obtain ⟨hx, h⟩ := zif h
    refine Ev.step (pc' := 49) rfl (ald_l rfl hx) ?_
    exact k202_49 y0 (s.2.1 31 ((s.1 24 35).toNatClampNeg)) s _ _ _ _ h
  · have h := (if_neg hb).symm.trans h
    refine Ev.run (pc' := 49) (ls' := [some (.ref 24), some (.int y0), o2, o3, o4]) (st' := [.long (zl 0)]) (h' := mk s) 2 rfl ?_
    exact k202_49 y0 (zl 0) s _ _ _ _ h
def f202   (s : zS) : Option (zS) := if (s.1 24 18) = (zi 37) then f202_31 (zi (-1)) s else if ¬ (s.1 24 18) = (zi 110) then if mIx (s.1 24 35) 24 then f202_31 (s.1 29 ((s.1 24 35).toNatClampNeg)) s else none else f202_31 (zi (-1)) s
set_option maxRecDepth 100000 in
theorem k202 {X : mX} {D : Nat}  {s : zS} {r : zS}  (h : f202  s = some r) : Ev X (D + 9) mm202 0 [some (.ref 24), none, none, none, none] [] (mk s) (encV r) := by
  unfold f202 at h
  refine Ev.run (pc' := 6) (ls' := [some (.ref 24), none, none, none, none]) (st' := [.int (zi 37), .int (s.1 24 18)]) (h' := mk s) 3 rfl ?_
  refine Ev.icmp_eq (t := 18) rfl rfl (fun hb => ?_) (fun hb => ?_)
  · have h := (if_pos hb).symm.trans h
    refine Ev.run (pc' := 31) (ls' := [some (.ref 24), none, none, none, none]) (st' := [.int (zi (-1))]) (h' := mk s) 2 rfl ?_
    exact k202_31 (zi (-1)) s _ _ _ _ _ h
  · have h := (if_neg hb).symm.trans h
    refine Ev.run (pc' := 15) (ls' := [some (.ref 24), none, none, none, none]) (st' := [.int (zi 110), .int (s.1 24 18)]) (h' := mk s) 3 rfl ?_
    refine Ev.icmp_ne (t := 22) rfl rfl (fun hb => ?_) (fun hb => ?_)
    · have h := (if_pos hb).symm.trans h
      refine Ev.run (pc' := 30) (ls' := [some (.ref 24), none, none, none, none]) (st' := [.int (s.1 24 35), .ref 29]) (h' := mk s) 4 rfl ?_
      obtain ⟨hx, h⟩ := zif h
      refine Ev.step (pc' := 31) rfl (ald_i rfl hx) ?_
      exact k202_31 (s.1 29 ((s.1 24 35).toNatClampNeg)) s _ _ _ _ _ h
    · have h := (if_neg hb).symm.trans h
      refine Ev.run (pc' := 31) (ls' := [some (.ref 24), none, none, none, none]) (st' := [.int (zi (-1))]) (h' := mk s) 2 rfl ?_
      exact k202_31 (zi (-1)) s _ _ _ _ _ h
/-! 204 FModel.one()I -/
def b204_244 (rec244 : Int32 → Int32 → zS → Option (Int32 × zS)) (x2 : Int32) (x3 : Int32) (s : zS) : Option (Int32 × zS) := if x3 ≥ x2 then some (zi 0, s) else if mIx (s.1 24 6) 10000 then rec244 x2 (x3 + zi 1) (setB (setI s 24 6 ((s.1 24 6) + (zi 1))) 27 ((s.1 24 6).toNatClampNeg) (zI2B (zi 32))) else none
set_option maxRecDepth 100000 in
theorem kb204_244 {X : mX} {D : Nat} {rec244 : Int32 → Int32 → zS → Option (Int32 × zS)} (hrec244 : ∀ (x2 : Int32) (x3 : Int32) (s : zS) (r : Int32 × zS) (o1 : Option Value) (o4 : Option Value), rec244 x2 x3 s = some r → Ev X (D + 10) mm204 244 [some (.ref 24), o1, some (.int x2), some (.int x3), o4] [] (mk s) (encI r)) (x2 : Int32) (x3 : Int32) (s : zS) (r : Int32 × zS) (o1 : Option Value) (o4 : Option Value)  (h : b204_244 rec244 x2 x3 s = some r) : Ev X (D + 10) mm204 244 [some (.ref 24), o1, some (.int x2), some (.int x3), o4] [] (mk s) (encI r) := by
  unfold b204_244 at h
  refine Ev.run (pc' := 246) (ls' := [some (.ref 24), o1, some (.int x2), some (.int x3), o4]) (st' := [.int x2, .int x3]) (h' := mk s) 2 rfl ?_
  refine Ev.icmp_ge (t := 273) rfl rfl (fun hb => ?_) (fun hb => ?_)
  · have h := (if_pos hb).symm.trans h
    refine Ev.run (pc' := 274) (ls' := [some (.ref 24), o1, some (.int x2), some (.int x3), o4]) (st' := [.int (zi 0)]) (h' := mk s) 1 rfl ?_
    first | (obtain rfl := Option.some.inj h) | (cases h)
    exact Ev.fin rfl rfl
  · have h := (if_neg hb).symm.trans h
    refine Ev.run (pc' := 261) (ls' := [some (.ref 24), o1, some (.int x2), some (.int x3), o4]) (st' := [.int ((s.1 24 6) + (zi 1)), .ref 24, .int (s.1 24 6), .ref 27]) (h' := mk s) 8 rfl ?_
    refine Ev.step (pc' := 264) rfl (put_12_6 rfl) ?_
    refine Ev.run (pc' := 266) (ls' := [some (.ref 24), o1, some (.int x2), some (.int x3), o4]) (st' := [.int (zi 32), .int (s.1 24 6), .ref 27]) (h' := mk (setI s 24 6 ((s.1 24 6) + (zi 1)))) 1 rfl ?_
    obtain ⟨hx, h⟩ := zif h
    refine Ev.step (pc' := 267) rfl (ast_27 hx) ?_
    refine Ev.run (pc' := 244) (ls' := [some (.ref 24), o1, some (.int x2), some (.int (x3 + zi 1)), o4]) (st' := []) (h' := mk (setB (setI s 24 6 ((s.1 24 6) + (zi 1))) 27 ((s.1 24 6).toNatClampNeg) (zI2B (zi 32)))) 2 rfl ?_
    exact hrec244 x2 (x3 + zi 1) (setB (setI s 24 6 ((s.1 24 6) + (zi 1))) 27 ((s.1 24 6).toNatClampNeg) (zI2B (zi 32))) _ _ _ h
def f204_244  : Nat → Int32 → Int32 → zS → Option (Int32 × zS)
  | 0, _, _, _ => none
  | n + 1, x2, x3, s => b204_244 (f204_244 n) x2 x3 s
set_option maxRecDepth 100000 in
theorem k204_244 {X : mX} {D : Nat}   (n : Nat) : ∀ (x2 : Int32) (x3 : Int32) (s : zS) (r : Int32 × zS) (o1 : Option Value) (o4 : Option Value), f204_244  n x2 x3 s = some r → Ev X (D + 10) mm204 244 [some (.ref 24), o1, some (.int x2), some (.int x3), o4] [] (mk s) (encI r) := by
  induction n with
  | zero => intro x2 x3 s r o1 o4  h; cases h
  | succ n ih => intro x2 x3 s r o1 o4  h; exact kb204_244  ih x2 x3 s r o1 o4  h
def f204_223 (rec161 : Int32 → Int32 → zS → Option (Int32 × zS)) (x2 : Int32) (x3 : Int32) (y1 : Int32) (y2 : Int32) (s : zS) : Option (Int32 × zS) := if mIx y1 10000 then rec161 x2 (x3 + zi 1) (setB s 27 y1.toNatClampNeg (zI2B (zI2B y2))) else none
set_option maxRecDepth 100000 in
theorem k204_223 {X : mX} {D : Nat} {rec161 : Int32 → Int32 → zS → Option (Int32 × zS)} (hrec161 : ∀ (x2 : Int32) (x3 : Int32) (s : zS) (r : Int32 × zS) (o1 : Option Value) (o4 : Option Value), rec161 x2 x3 s = some r → Ev X (D + 10) mm204 161 [some (.ref 24), o1, some (.int x2), some (.int x3), o4] [] (mk s) (encI r)) (x2 : Int32) (x3 : Int32) (y1 : Int32) (y2 : Int32) (s : zS) (r : Int32 × zS) (o1 : Option Value) (o4 : Option Value)  (h : f204_223 rec161 x2 x3 y1 y2 s = some r) : Ev X (D + 10) mm204 223 [some (.ref 24), o1, some (.int x2), some (.int x3), o4] [.int y2, .int y1, .ref 27] (mk s) (encI r) := by
  unfold f204_223 at h
  refine Ev.run (pc' := 224) (ls' := [some (.ref 24), o1, some (.int x2), some (.int x3), o4]) (st' := [.int (zI2B y2), .int y1, .ref 27]) (h' := mk s) 1 rfl ?_
  obtain ⟨hx, h⟩ := zif h
  refine Ev.step (pc' := 225) rfl (ast_27 hx) ?_
  refine Ev.run (pc' := 161) (ls' := [some (.ref 24), o1, some (.int x2), some (.int (x3 + zi 1)), o4]) (st' := []) (h' := mk (setB s 27 y1.toNatClampNeg (zI2B (zI2B y2)))) 2 rfl ?_
  exact hrec161 x2 (x3 + zi 1) (setB s 27 y1.toNatClampNeg (zI2B (zI2B y2))) _ _ _ h
def b204_161 (rec161 : Int32 → Int32 → zS → Option (Int32 × zS)) (x2 : Int32) (x3 : Int32) (s : zS) : Option (Int32 × zS) := if x3 ≥ (s.1 24 30) then if (r180 (s.1 24 15) (zi 1) s) = zi 0 then some (zi 0, s) else f204_244 zF x2 (zi 0) s else if mIx x3 12000 then if (s.1 24 22) = zi 0 then f204_223 rec161 x2 x3 (s.1 24 6) (s.1 39 x3.toNatClampNeg) (setI s 24 6 ((s.1 24 6) + (zi 1))) else if (s.1 39 x3.toNatClampNeg) < (zi 97) then f204_223 rec161 x2 x3 (s.1 24 6) (s.1 39 x3.toNatClampNeg) (setI s 24 6 ((s.1 24 6) + (zi 1))) else if (s.1 39 x3.toNatClampNeg) > (zi 122) then f204_223 rec161 x2 x3 (s.1 24 6) (s.1 39 x3.toNatClampNeg) (setI s 24 6 ((s.1 24 6) + (zi 1))) else f204_223 rec161 x2 x3 (s.1 24 6) ((s.1 39 x3.toNatClampNeg) - (zi 32)) (setI s 24 6 ((s.1 24 6) + (zi 1))) else none
set_option maxRecDepth 100000 in
theorem kb204_161 {X : mX} {D : Nat} {rec161 : Int32 → Int32 → zS → Option (Int32 × zS)} (hrec161 : ∀ (x2 : Int32) (x3 : Int32) (s : zS) (r : Int32 × zS) (o1 : Option Value) (o4 : Option Value), rec161 x2 x3 s = some r → Ev X (D + 10) mm204 161 [some (.ref 24), o1, some (.int x2), some (.int x3), o4] [] (mk s) (encI r)) (x2 : Int32) (x3 : Int32) (s : zS) (r : Int32 × zS) (o1 : Option Value) (o4 : Option Value)  (h : b204_161 rec161 x2 x3 s = some r) : Ev X (D + 10) mm204 161 [some (.ref 24), o1, some (.int x2), some (.int x3), o4] [] (mk s) (encI r) := by
  unfold b204_161 at h
  refine Ev.run (pc' := 166) (ls' := [some (.ref 24), o1, some (.int x2), some (.int x3), o4]) (st' := [.int (s.1 24 30), .int x3]) (h' := mk s) 3 rfl ?_
  refine Ev.icmp_ge (t := 231) rfl rfl (fun hb => ?_) (fun hb => ?_)
  · have h := (if_pos hb).symm.trans h
    refine Ev.run (pc' := 236) (ls' := [some (.ref 24), o1, some (.int x2), some (.int x3), o4]) (st' := [.int (zi 1), .int (s.1 24 15)]) (h' := mk s) 3 rfl ?_
    refine Ev.call (M' := mm180) (v := some (.int (r180 (s.1 24 15) (zi 1) s))) (h' := mk s) rfl rfl rfl (Nat.le_of_ble_eq_true rfl) (k180 (x0 := (s.1 24 15)) (x1 := (zi 1)) (s := s) (v := r180 (s.1 24 15) (zi 1) s)  rfl) ?_
    refine Ev.if_eq (t := 273) rfl rfl (fun hb => ?_) (fun hb => ?_)
    · have h := (if_pos hb).symm.trans h
      refine Ev.run (pc' := 274) (ls' := [some (.ref 24), o1, some (.int x2), some (.int x3), o4]) (st' := [.int (zi 0)]) (h' := mk s) 1 rfl ?_
      first | (obtain rfl := Option.some.inj h) | (cases h)
      exact Ev.fin rfl rfl
    · have h := (if_neg hb).symm.trans h
      refine Ev.run (pc' := 244) (ls' := [some (.ref 24), o1, some (.int x2), some (.int (zi 0)), o4]) (st' := []) (h' := mk s) 2 rfl ?_
      exact k204_244 zF x2 (zi 0) s _ _ _ h
  · have h := (if_neg hb).symm.trans h
    refine Ev.run (pc' := 174) (ls' := [some (.ref 24), o1, some (.int x2), some (.int x3), o4]) (st' := [.int x3, .ref 39]) (h' := mk s) 3 rfl ?_
    obtain ⟨hx, h⟩ := zif h
    refine Ev.step (pc' := 175) rfl (ald_b rfl hx) ?_
    refine Ev.run (pc' := 189) (ls' := [some (.ref 24), o1, some (.int x2), some (.int x3), some (.int (s.1 39 x3.toNatClampNeg))]) (st' := [.int ((s.1 24 6) + (zi 1)), .ref 24, .int (s.1 24 6), .ref 27]) (h' := mk s) 9 rfl ?_
    refine Ev.step (pc' := 192) rfl (put_12_6 rfl) ?_
    refine Ev.run (pc' := 196) (ls' := [some (.ref 24), o1, some (.int x2), some (.int x3), some (.int (s.1 39 x3.toNatClampNeg))]) (st' := [.int (s.1 24 22), .int (s.1 24 6), .ref 27]) (h' := mk (setI s 24 6 ((s.1 24 6) + (zi 1)))) 2 rfl ?_
    refine Ev.if_eq (t := 221) rfl rfl (fun hb => ?_) (fun hb => ?_)
    · have h := (if_pos hb).symm.trans h
      refine Ev.run (pc' := 223) (ls' := [some (.ref 24), o1, some (.int x2), some (.int x3), some (.int (s.1 39 x3.toNatClampNeg))]) (st' := [.int (s.1 39 x3.toNatClampNeg), .int (s.1 24 6), .ref 27]) (h' := mk (setI s 24 6 ((s.1 24 6) + (zi 1)))) 1 rfl ?_
      exact k204_223 hrec161 x2 x3 (s.1 24 6) (s.1 39 x3.toNatClampNeg) (setI s 24 6 ((s.1 24 6) + (zi 1))) _ _ _ h
    · have h := (if_neg hb).symm.trans h
      refine Ev.run (pc' := 203) (ls' := [some (.ref 24), o1, some (.int x2), some (.int x3), some (.int (s.1 39 x3.toNatClampNeg))]) (st' := [.int (zi 97), .int (s.1 39 x3.toNatClampNeg), .int (s.1 24 6), .ref 27]) (h' := mk (setI s 24 6 ((s.1 24 6) + (zi 1)))) 2 rfl ?_
      refine Ev.icmp_lt (t := 221) rfl rfl (fun hb => ?_) (fun hb => ?_)
      · have h := (if_pos hb).symm.trans h
        refine Ev.run (pc' := 223) (ls' := [some (.ref 24), o1, some (.int x2), some (.int x3), some (.int (s.1 39 x3.toNatClampNeg))]) (st' := [.int (s.1 39 x3.toNatClampNeg), .int (s.1 24 6), .ref 27]) (h' := mk (setI s 24 6 ((s.1 24 6) + (zi 1)))) 1 rfl ?_
        exact k204_223 hrec161 x2 x3 (s.1 24 6) (s.1 39 x3.toNatClampNeg) (setI s 24 6 ((s.1 24 6) + (zi 1))) _ _ _ h
      · have h := (if_neg hb).symm.trans h
        refine Ev.run (pc' := 210) (ls' := [some (.ref 24), o1, some (.int x2), some (.int x3), some (.int (s.1 39 x3.toNatClampNeg))]) (st' := [.int (zi 122), .int (s.1 39 x3.toNatClampNeg), .int (s.1 24 6), .ref 27]) (h' := mk (setI s 24 6 ((s.1 24 6) + (zi 1)))) 2 rfl ?_
        refine Ev.icmp_gt (t := 221) rfl rfl (fun hb => ?_) (fun hb => ?_)
        · have h := (if_pos hb).symm.trans h
          refine Ev.run (pc' := 223) (ls' := [some (.ref 24), o1, some (.int x2), some (.int x3), some (.int (s.1 39 x3.toNatClampNeg))]) (st' := [.int (s.1 39 x3.toNatClampNeg), .int (s.1 24 6), .ref 27]) (h' := mk (setI s 24 6 ((s.1 24 6) + (zi 1)))) 1 rfl ?_
          exact k204_223 hrec161 x2 x3 (s.1 24 6) (s.1 39 x3.toNatClampNeg) (setI s 24 6 ((s.1 24 6) + (zi 1))) _ _ _ h
        · have h := (if_neg hb).symm.trans h
          refine Ev.run (pc' := 223) (ls' := [some (.ref 24), o1, some (.int x2), some (.int x3), some (.int (s.1 39 x3.toNatClampNeg))]) (st' := [.int ((s.1 39 x3.toNatClampNeg) - (zi 32)), .int (s.1 24 6), .ref 27]) (h' := mk (setI s 24 6 ((s.1 24 6) + (zi 1)))) 4 rfl ?_
          exact k204_223 hrec161 x2 x3 (s.1 24 6) ((s.1 39 x3.toNatClampNeg) - (zi 32)) (setI s 24 6 ((s.1 24 6) + (zi 1))) _ _ _ h
def f204_161  : Nat → Int32 → Int32 → zS → Option (Int32 × zS)
  | 0, _, _, _ => none
  | n + 1, x2, x3, s => b204_161 (f204_161 n) x2 x3 s
set_option maxRecDepth 100000 in
theorem k204_161 {X : mX} {D : Nat}   (n : Nat) : ∀ (x2 : Int32) (x3 : Int32) (s : zS) (r : Int32 × zS) (o1 : Option Value) (o4 : Option Value), f204_161  n x2 x3 s = some r → Ev X (D + 10) mm204 161 [some (.ref 24), o1, some (.int x2), some (.int x3), o4] [] (mk s) (encI r) := by
  induction n with
  | zero => intro x2 x3 s r o1 o4  h; cases h
  | succ n ih => intro x2 x3 s r o1 o4  h; exact kb204_161  ih x2 x3 s r o1 o4  h
def b204_130 (rec130 : Int32 → Int32 → zS → Option (Int32 × zS)) (x2 : Int32) (x3 : Int32) (s : zS) : Option (Int32 × zS) := if x3 ≥ x2 then f204_161 zF x2 (zi 0) s else if mIx (s.1 24 6) 10000 then rec130 x2 (x3 + zi 1) (setB (setI s 24 6 ((s.1 24 6) + (zi 1))) 27 ((s.1 24 6).toNatClampNeg) (zI2B (zi 32))) else none
set_option maxRecDepth 100000 in
theorem kb204_130 {X : mX} {D : Nat} {rec130 : Int32 → Int32 → zS → Option (Int32 × zS)} (hrec130 : ∀ (x2 : Int32) (x3 : Int32) (s : zS) (r : Int32 × zS) (o1 : Option Value) (o4 : Option Value), rec130 x2 x3 s = some r → Ev X (D + 10) mm204 130 [some (.ref 24), o1, some (.int x2), some (.int x3), o4] [] (mk s) (encI r)) (x2 : Int32) (x3 : Int32) (s : zS) (r : Int32 × zS) (o1 : Option Value) (o4 : Option Value)  (h : b204_130 rec130 x2 x3 s = some r) : Ev X (D + 10) mm204 130 [some (.ref 24), o1, some (.int x2), some (.int x3), o4] [] (mk s) (encI r) := by
  unfold b204_130 at h
  refine Ev.run (pc' := 132) (ls' := [some (.ref 24), o1, some (.int x2), some (.int x3), o4]) (st' := [.int x2, .int x3]) (h' := mk s) 2 rfl ?_
  refine Ev.icmp_ge (t := 159) rfl rfl (fun hb => ?_) (fun hb => ?_)
  · have h := (if_pos hb).symm.trans h
    refine Ev.run (pc' := 161) (ls' := [some (.ref 24), o1, some (.int x2), some (.int (zi 0)), o4]) (st' := []) (h' := mk s) 2 rfl ?_
    exact k204_161 zF x2 (zi 0) s _ _ _ h
  · have h := (if_neg hb).symm.trans h
    refine Ev.run (pc' := 147) (ls' := [some (.ref 24), o1, some (.int x2), some (.int x3), o4]) (st' := [.int ((s.1 24 6) + (zi 1)), .ref 24, .int (s.1 24 6), .ref 27]) (h' := mk s) 8 rfl ?_
    refine Ev.step (pc' := 150) rfl (put_12_6 rfl) ?_
    refine Ev.run (pc' := 152) (ls' := [some (.ref 24), o1, some (.int x2), some (.int x3), o4]) (st' := [.int (zi 32), .int (s.1 24 6), .ref 27]) (h' := mk (setI s 24 6 ((s.1 24 6) + (zi 1)))) 1 rfl ?_
    obtain ⟨hx, h⟩ := zif h
    refine Ev.step (pc' := 153) rfl (ast_27 hx) ?_
    refine Ev.run (pc' := 130) (ls' := [some (.ref 24), o1, some (.int x2), some (.int (x3 + zi 1)), o4]) (st' := []) (h' := mk (setB (setI s 24 6 ((s.1 24 6) + (zi 1))) 27 ((s.1 24 6).toNatClampNeg) (zI2B (zi 32)))) 2 rfl ?_
    exact hrec130 x2 (x3 + zi 1) (setB (setI s 24 6 ((s.1 24 6) + (zi 1))) 27 ((s.1 24 6).toNatClampNeg) (zI2B (zi 32))) _ _ _ h
def f204_130  : Nat → Int32 → Int32 → zS → Option (Int32 × zS)
  | 0, _, _, _ => none
  | n + 1, x2, x3, s => b204_130 (f204_130 n) x2 x3 s
set_option maxRecDepth 100000 in
theorem k204_130 {X : mX} {D : Nat}   (n : Nat) : ∀ (x2 : Int32) (x3 : Int32) (s : zS) (r : Int32 × zS) (o1 : Option Value) (o4 : Option Value), f204_130  n x2 x3 s = some r → Ev X (D + 10) mm204 130 [some (.ref 24), o1, some (.int x2), some (.int x3), o4] [] (mk s) (encI r) := by
  induction n with
  | zero => intro x2 x3 s r o1 o4  h; cases h
  | succ n ih => intro x2 x3 s r o1 o4  h; exact kb204_130  ih x2 x3 s r o1 o4  h
def f204_62  (y0 : Int32) (s : zS) : Option (Int32 × zS) := if y0 ≤ zi 0 then zb0 (f202 (setI (setI s 24 30 (zi 0)) 24 31 (zi 0))) (fun s1 => if (((s1.1 24 6) + (s1.1 24 30)) + (r264 (zi 0) ((s1.1 24 16) - (s1.1 24 31)) s1)) ≤ (zi 6000) then if ¬ (r180 (s1.1 24 15) (zi 1) s1) = zi 0 then f204_161 zF (r264 (zi 0) ((s1.1 24 16) - (s1.1 24 31)) s1) (zi 0) s1 else f204_130 zF (r264 (zi 0) ((s1.1 24 16) - (s1.1 24 31)) s1) (zi 0) s1 else some (zi 11, s1)) else some (y0, s)
set_option maxRecDepth 100000 in
theorem k204_62 {X : mX} {D : Nat}   (y0 : Int32) (s : zS) (r : Int32 × zS) (o1 : Option Value) (o2 : Option Value) (o3 : Option Value) (o4 : Option Value)  (h : f204_62  y0 s = some r) : Ev X (D + 10) mm204 62 [some (.ref 24), o1, o2, o3, o4] [.int y0] (mk s) (encI r) := by
  unfold f204_62 at h
  refine Ev.run (pc' := 64) (ls' := [some (.ref 24), some (.int y0), o2, o3, o4]) (st' := [.int y0]) (h' := mk s) 2 rfl ?_
  refine Ev.if_le (t := 69) rfl rfl (fun hb => ?_) (fun hb => ?_)
  · have h := (if_pos hb).symm.trans h
    refine Ev.run (pc' := 71) (ls' := [some (.ref 24), some (.int y0), o2, o3, o4]) (st' := [.int (zi 0), .ref 24]) (h' := mk s) 2 rfl ?_
    refine Ev.step (pc' := 74) rfl (put_12_30 rfl) ?_
    refine Ev.run (pc' := 76) (ls' := [some (.ref 24), some (.int y0), o2, o3, o4]) (st' := [.int (zi 0), .ref 24]) (h' := mk (setI s 24 30 (zi 0))) 2 rfl ?_
    refine Ev.step (pc' := 79) rfl (put_12_31 rfl) ?_
    refine Ev.run (pc' := 80) (ls' := [some (.ref 24), some (.int y0), o2, o3, o4]) (st' := [.ref 24]) (h' := mk (setI (setI s 24 30 (zi 0)) 24 31 (zi 0))) 1 rfl ?_
    obtain ⟨s1, hq, h⟩ := zb0_some h
    refine Ev.call (M' := mm202) (v := none) (h' := mk s1) rfl rfl rfl (Nat.le_of_ble_eq_true rfl) (k202 hq) ?_
    refine Ev.run (pc' := 93) (ls' := [some (.ref 24), some (.int y0), o2, o3, o4]) (st' := [.int ((s1.1 24 16) - (s1.1 24 31)), .int (zi 0)]) (h' := mk s1) 6 rfl ?_
    refine Ev.call (M' := mm264) (v := some (.int (r264 (zi 0) ((s1.1 24 16) - (s1.1 24 31)) s1))) (h' := mk s1) rfl rfl rfl (Nat.le_of_ble_eq_true rfl) (k264 (x0 := (zi 0)) (x1 := ((s1.1 24 16) - (s1.1 24 31))) (s := s1) (v := r264 (zi 0) ((s1.1 24 16) - (s1.1 24 31)) s1)  rfl) ?_
    refine Ev.run (pc' := 111) (ls' := [some (.ref 24), some (.int y0), some (.int (r264 (zi 0) ((s1.1 24 16) - (s1.1 24 31)) s1)), o3, o4]) (st' := [.int (zi 6000), .int (((s1.1 24 6) + (s1.1 24 30)) + (r264 (zi 0) ((s1.1 24 16) - (s1.1 24 31)) s1))]) (h' := mk s1) 9 rfl ?_
    refine Ev.icmp_le (t := 117) rfl rfl (fun hb => ?_) (fun hb => ?_)
    · have h := (if_pos hb).symm.trans h
      refine Ev.run (pc' := 122) (ls' := [some (.ref 24), some (.int y0), some (.int (r264 (zi 0) ((s1.1 24 16) - (s1.1 24 31)) s1)), o3, o4]) (st' := [.int (zi 1), .int (s1.1 24 15)]) (h' := mk s1) 3 rfl ?_
      refine Ev.call (M' := mm180) (v := some (.int (r180 (s1.1 24 15) (zi 1) s1))) (h' := mk s1) rfl rfl rfl (Nat.le_of_ble_eq_true rfl) (k180 (x0 := (s1.1 24 15)) (x1 := (zi 1)) (s := s1) (v := r180 (s1.1 24 15) (zi 1) s1)  rfl) ?_
      refine Ev.if_ne (t := 159) rfl rfl (fun hb => ?_) (fun hb => ?_)
      · have h := (if_pos hb).symm.trans h
        refine Ev.run (pc' := 161) (ls' := [some (.ref 24), some (.int y0), some (.int (r264 (zi 0) ((s1.1 24 16) - (s1.1 24 31)) s1)), some (.int (zi 0)), o4]) (st' := []) (h' := mk s1) 2 rfl ?_
        exact k204_161 zF (r264 (zi 0) ((s1.1 24 16) - (s1.1 24 31)) s1) (zi 0) s1 _ _ _ h
      · have h := (if_neg hb).symm.trans h
        refine Ev.run (pc' := 130) (ls' := [some (.ref 24), some (.int y0), some (.int (r264 (zi 0) ((s1.1 24 16) - (s1.1 24 31)) s1)), some (.int (zi 0)), o4]) (st' := []) (h' := mk s1) 2 rfl ?_
        exact k204_130 zF (r264 (zi 0) ((s1.1 24 16) - (s1.1 24 31)) s1) (zi 0) s1 _ _ _ h
    · have h := (if_neg hb).symm.trans h
      refine Ev.run (pc' := 116) (ls' := [some (.ref 24), some (.int y0), some (.int (r264 (zi 0) ((s1.1 24 16) - (s1.1 24 31)) s1)), o3, o4]) (st' := [.int (zi 11)]) (h' := mk s1) 1 rfl ?_
      first | (obtain rfl := Option.some.inj h) | (cases h)
      exact Ev.fin rfl rfl
  · have h := (if_neg hb).symm.trans h
    refine Ev.run (pc' := 68) (ls' := [some (.ref 24), some (.int y0), o2, o3, o4]) (st' := [.int y0]) (h' := mk s) 1 rfl ?_
    first | (obtain rfl := Option.some.inj h) | (cases h)
    exact Ev.fin rfl rfl
def f204   (s : zS) : Option (Int32 × zS) := if ¬ (s.1 24 18) = (zi 110) then if ¬ (s.1 24 18) = (zi 37) then zb1 (f201 s) (fun v2 s1 => f204_62 v2 s1) else f204_62 (zi 0) s else if ¬ (s.1 24 6) = (zi 6000) then if mIx (s.1 24 6) 10000 then some (zi 0, setI (setB s 27 ((s.1 24 6).toNatClampNeg) (zI2B (zi 10))) 24 6 ((s.1 24 6) + (zi 1))) else none else some (zi 11, s)
set_option maxRecDepth 100000 in
theorem k204 {X : mX} {D : Nat}  {s : zS} {r : Int32 × zS}  (h : f204  s = some r) : Ev X (D + 10) mm204 0 [some (.ref 24), none, none, none, none] [] (mk s) (encI r) := by
  unfold f204 at h
  refine Ev.run (pc' := 6) (ls' := [some (.ref 24), none, none, none, none]) (st' := [.int (zi 110), .int (s.1 24 18)]) (h' := mk s) 3 rfl ?_
  refine Ev.icmp_ne (t := 45) rfl rfl (fun hb => ?_) (fun hb => ?_)
  · have h := (if_pos hb).symm.trans h
    refine Ev.run (pc' := 51) (ls' := [some (.ref 24), none, none, none, none]) (st' := [.int (zi 37), .int (s.1 24 18)]) (h' := mk s) 3 rfl ?_
    refine Ev.icmp_ne (t := 58) rfl rfl (fun hb => ?_) (fun hb => ?_)
    · have h := (if_pos hb).symm.trans h
      refine Ev.run (pc' := 59) (ls' := [some (.ref 24), none, none, none, none]) (st' := [.ref 24]) (h' := mk s) 1 rfl ?_
      obtain ⟨v2, s1, hq, h⟩ := zb1_some h
      refine Ev.call (M' := mm201) (v := some (.int v2)) (h' := mk s1) rfl rfl rfl (Nat.le_of_ble_eq_true rfl) (k201 hq) ?_
      exact k204_62 v2 s1 _ _ _ _ _ h
    · have h := (if_neg hb).symm.trans h
      refine Ev.run (pc' := 62) (ls' := [some (.ref 24), none, none, none, none]) (st' := [.int (zi 0)]) (h' := mk s) 2 rfl ?_
      exact k204_62 (zi 0) s _ _ _ _ _ h
  · have h := (if_neg hb).symm.trans h
    refine Ev.run (pc' := 16) (ls' := [some (.ref 24), none, none, none, none]) (st' := [.int (zi 6000), .int (s.1 24 6)]) (h' := mk s) 3 rfl ?_
    refine Ev.icmp_ne (t := 22) rfl rfl (fun hb => ?_) (fun hb => ?_)
    · have h := (if_pos hb).symm.trans h
      refine Ev.run (pc' := 32) (ls' := [some (.ref 24), none, none, none, none]) (st' := [.int (zi 10), .int (s.1 24 6), .ref 27]) (h' := mk s) 5 rfl ?_
      obtain ⟨hx, h⟩ := zif h
      refine Ev.step (pc' := 33) rfl (ast_27 hx) ?_
      refine Ev.run (pc' := 40) (ls' := [some (.ref 24), none, none, none, none]) (st' := [.int ((s.1 24 6) + (zi 1)), .ref 24]) (h' := mk (setB s 27 ((s.1 24 6).toNatClampNeg) (zI2B (zi 10)))) 5 rfl ?_
      refine Ev.step (pc' := 43) rfl (put_12_6 rfl) ?_
      refine Ev.run (pc' := 44) (ls' := [some (.ref 24), none, none, none, none]) (st' := [.int (zi 0)]) (h' := mk (setI (setB s 27 ((s.1 24 6).toNatClampNeg) (zI2B (zi 10))) 24 6 ((s.1 24 6) + (zi 1)))) 1 rfl ?_
      first | (obtain rfl := Option.some.inj h) | (cases h)
      exact Ev.fin rfl rfl
    · have h := (if_neg hb).symm.trans h
      refine Ev.run (pc' := 21) (ls' := [some (.ref 24), none, none, none, none]) (st' := [.int (zi 11)]) (h' := mk s) 1 rfl ?_
      first | (obtain rfl := Option.some.inj h) | (cases h)
      exact Ev.fin rfl rfl
/-! 205 FModel.rowAt(I)I -/
def f205  (x1 : Int32) (s : zS) : Option (Int32 × zS) := if x1 ≥ (s.1 24 39) then some (zi (-1), s) else if mIx x1 800 then some (s.1 25 x1.toNatClampNeg, s) else none
set_option maxRecDepth 100000 in
theorem k205 {X : mX} {D : Nat} {x1 : Int32} {s : zS} {r : Int32 × zS}  (h : f205 x1 s = some r) : Ev X D mm205 0 [some (.ref 24), some (.int x1)] [] (mk s) (encI r) := by
  unfold f205 at h
  refine Ev.run (pc' := 5) (ls' := [some (.ref 24), some (.int x1)]) (st' := [.int (s.1 24 39), .int x1]) (h' := mk s) 3 rfl ?_
  refine Ev.icmp_ge (t := 17) rfl rfl (fun hb => ?_) (fun hb => ?_)
  · have h := (if_pos hb).symm.trans h
    refine Ev.run (pc' := 18) (ls' := [some (.ref 24), some (.int x1)]) (st' := [.int (zi (-1))]) (h' := mk s) 1 rfl ?_
    first | (obtain rfl := Option.some.inj h) | (cases h)
    exact Ev.fin rfl rfl
  · have h := (if_neg hb).symm.trans h
    refine Ev.run (pc' := 13) (ls' := [some (.ref 24), some (.int x1)]) (st' := [.int x1, .ref 25]) (h' := mk s) 3 rfl ?_
    obtain ⟨hx, h⟩ := zif h
    refine Ev.step (pc' := 14) rfl (ald_b rfl hx) ?_
    refine Ev.run (pc' := 18) (ls' := [some (.ref 24), some (.int x1)]) (st' := [.int (s.1 25 x1.toNatClampNeg)]) (h' := mk s) 1 rfl ?_
    first | (obtain rfl := Option.some.inj h) | (cases h)
    exact Ev.fin rfl rfl
/-! 206 FModel.hexOf(I)I -/
def f206_36  (x0 : Int32) (s : zS) : Option (Int32 × zS) := if x0 < (zi 65) then some (zi (-1), s) else if x0 > (zi 70) then some (zi (-1), s) else some ((x0 - (zi 65)) + (zi 10), s)
set_option maxRecDepth 100000 in
theorem k206_36 {X : mX} {D : Nat}   (x0 : Int32) (s : zS) (r : Int32 × zS)   (h : f206_36  x0 s = some r) : Ev X (D + 1) mm206 36 [some (.int x0)] [] (mk s) (encI r) := by
  unfold f206_36 at h
  refine Ev.run (pc' := 39) (ls' := [some (.int x0)]) (st' := [.int (zi 65), .int x0]) (h' := mk s) 2 rfl ?_
  refine Ev.icmp_lt (t := 58) rfl rfl (fun hb => ?_) (fun hb => ?_)
  · have h := (if_pos hb).symm.trans h
    refine Ev.run (pc' := 59) (ls' := [some (.int x0)]) (st' := [.int (zi (-1))]) (h' := mk s) 1 rfl ?_
    first | (obtain rfl := Option.some.inj h) | (cases h)
    exact Ev.fin rfl rfl
  · have h := (if_neg hb).symm.trans h
    refine Ev.run (pc' := 45) (ls' := [some (.int x0)]) (st' := [.int (zi 70), .int x0]) (h' := mk s) 2 rfl ?_
    refine Ev.icmp_gt (t := 58) rfl rfl (fun hb => ?_) (fun hb => ?_)
    · have h := (if_pos hb).symm.trans h
      refine Ev.run (pc' := 59) (ls' := [some (.int x0)]) (st' := [.int (zi (-1))]) (h' := mk s) 1 rfl ?_
      first | (obtain rfl := Option.some.inj h) | (cases h)
      exact Ev.fin rfl rfl
    · have h := (if_neg hb).symm.trans h
      refine Ev.run (pc' := 59) (ls' := [some (.int x0)]) (st' := [.int ((x0 - (zi 65)) + (zi 10))]) (h' := mk s) 6 rfl ?_
      first | (obtain rfl := Option.some.inj h) | (cases h)
      exact Ev.fin rfl rfl
def f206  (x0 : Int32) (s : zS) : Option (Int32 × zS) := if (r196 x0 s) = zi 0 then if x0 < (zi 97) then f206_36 x0 s else if x0 > (zi 102) then f206_36 x0 s else some ((x0 - (zi 97)) + (zi 10), s) else some (x0 - (zi 48), s)
set_option maxRecDepth 100000 in
theorem k206 {X : mX} {D : Nat} {x0 : Int32} {s : zS} {r : Int32 × zS}  (h : f206 x0 s = some r) : Ev X (D + 1) mm206 0 [some (.int x0)] [] (mk s) (encI r) := by
  unfold f206 at h
  refine Ev.run (pc' := 1) (ls' := [some (.int x0)]) (st' := [.int x0]) (h' := mk s) 1 rfl ?_
  refine Ev.call (M' := mm196) (v := some (.int (r196 x0 s))) (h' := mk s) rfl rfl rfl (Nat.le_of_ble_eq_true rfl) (k196 (x0 := x0) (s := s) (v := r196 x0 s)  rfl) ?_
  refine Ev.if_eq (t := 14) rfl rfl (fun hb => ?_) (fun hb => ?_)
  · have h := (if_pos hb).symm.trans h
    refine Ev.run (pc' := 17) (ls' := [some (.int x0)]) (st' := [.int (zi 97), .int x0]) (h' := mk s) 2 rfl ?_
    refine Ev.icmp_lt (t := 36) rfl rfl (fun hb => ?_) (fun hb => ?_)
    · have h := (if_pos hb).symm.trans h
      exact k206_36 x0 s _ h
    · have h := (if_neg hb).symm.trans h
      refine Ev.run (pc' := 23) (ls' := [some (.int x0)]) (st' := [.int (zi 102), .int x0]) (h' := mk s) 2 rfl ?_
      refine Ev.icmp_gt (t := 36) rfl rfl (fun hb => ?_) (fun hb => ?_)
      · have h := (if_pos hb).symm.trans h
        exact k206_36 x0 s _ h
      · have h := (if_neg hb).symm.trans h
        refine Ev.run (pc' := 59) (ls' := [some (.int x0)]) (st' := [.int ((x0 - (zi 97)) + (zi 10))]) (h' := mk s) 6 rfl ?_
        first | (obtain rfl := Option.some.inj h) | (cases h)
        exact Ev.fin rfl rfl
  · have h := (if_neg hb).symm.trans h
    refine Ev.run (pc' := 59) (ls' := [some (.int x0)]) (st' := [.int (x0 - (zi 48))]) (h' := mk s) 4 rfl ?_
    first | (obtain rfl := Option.some.inj h) | (cases h)
    exact Ev.fin rfl rfl
/-! 207 FModel.isWord(Ljava.lang.String;)Z -/
def b207_20 (rec20 : Nat → Int32 → zS → Option (Int32 × zS)) (c1 : Nat) (x2 : Int32) (s : zS) : Option (Int32 × zS) := if x2 ≥ (zlen c1) then some (zi 1, s) else if mIx ((s.1 24 38) + x2) 800 then if mIx x2 (zlenN c1) then if (s.1 25 (((s.1 24 38) + x2).toNatClampNeg)) = (zchr c1 x2) then rec20 c1 (x2 + zi 1) s else some (zi 0, s) else none else none
set_option maxRecDepth 100000 in
theorem kb207_20 {X : mX} {D : Nat} {rec20 : Nat → Int32 → zS → Option (Int32 × zS)} (hrec20 : ∀ (c1 : Nat) (x2 : Int32) (s : zS) (r : Int32 × zS) , c1 < 78 → rec20 c1 x2 s = some r → Ev X (D + 5) mm207 20 [some (.ref 24), some (.ref (mRO + 3 + 2 * c1)), some (.int x2)] [] (mk s) (encI r)) (c1 : Nat) (x2 : Int32) (s : zS) (r : Int32 × zS)  (hc1 : c1 < 78) (h : b207_20 rec20 c1 x2 s = some r) : Ev X (D + 5) mm207 20 [some (.ref 24), some (.ref (mRO + 3 + 2 * c1)), some (.int x2)] [] (mk s) (encI r) := by
  unfold b207_20 at h
  refine Ev.run (pc' := 22) (ls' := [some (.ref 24), some (.ref (mRO + 3 + 2 * c1)), some (.int x2)]) (st' := [.ref (mRO + 3 + 2 * c1), .int x2]) (h' := mk s) 2 rfl ?_
  refine Ev.call (M' := mm241) (as := [.ref (mRO + 3 + 2 * c1)]) (rest := [.int x2]) (v := some (.int (zlen c1))) (h' := mk s) rfl (litcall rfl rfl hc1 rfl rfl) rfl (Nat.le_of_ble_eq_true rfl) (kstrlen hc1) ?_
  refine Ev.icmp_ge (t := 55) rfl rfl (fun hb => ?_) (fun hb => ?_)
  · have h := (if_pos hb).symm.trans h
    refine Ev.run (pc' := 56) (ls' := [some (.ref 24), some (.ref (mRO + 3 + 2 * c1)), some (.int x2)]) (st' := [.int (zi 1)]) (h' := mk s) 1 rfl ?_
    first | (obtain rfl := Option.some.inj h) | (cases h)
    exact Ev.fin rfl rfl
  · have h := (if_neg hb).symm.trans h
    refine Ev.run (pc' := 38) (ls' := [some (.ref 24), some (.ref (mRO + 3 + 2 * c1)), some (.int x2)]) (st' := [.int ((s.1 24 38) + x2), .ref 25]) (h' := mk s) 6 rfl ?_
    obtain ⟨hx, h⟩ := zif h
    refine Ev.step (pc' := 39) rfl (ald_b rfl hx) ?_
    refine Ev.run (pc' := 41) (ls' := [some (.ref 24), some (.ref (mRO + 3 + 2 * c1)), some (.int x2)]) (st' := [.int x2, .ref (mRO + 3 + 2 * c1), .int (s.1 25 (((s.1 24 38) + x2).toNatClampNeg))]) (h' := mk s) 2 rfl ?_
    obtain ⟨hx, h⟩ := zif h
    refine Ev.call (M' := mm242) (as := [.ref (mRO + 3 + 2 * c1), .int x2]) (rest := [.int (s.1 25 (((s.1 24 38) + x2).toNatClampNeg))]) (v := some (.int (zchr c1 x2))) (h' := mk s) rfl (litcall rfl rfl hc1 rfl rfl) rfl (Nat.le_of_ble_eq_true rfl) (kcharat hc1 hx) ?_
    refine Ev.icmp_eq (t := 49) rfl rfl (fun hb => ?_) (fun hb => ?_)
    · have h := (if_pos hb).symm.trans h
      refine Ev.run (pc' := 20) (ls' := [some (.ref 24), some (.ref (mRO + 3 + 2 * c1)), some (.int (x2 + zi 1))]) (st' := []) (h' := mk s) 2 rfl ?_
      exact hrec20 c1 (x2 + zi 1) s _ hc1 h
    · have h := (if_neg hb).symm.trans h
      refine Ev.run (pc' := 48) (ls' := [some (.ref 24), some (.ref (mRO + 3 + 2 * c1)), some (.int x2)]) (st' := [.int (zi 0)]) (h' := mk s) 1 rfl ?_
      first | (obtain rfl := Option.some.inj h) | (cases h)
      exact Ev.fin rfl rfl
def f207_20  : Nat → Nat → Int32 → zS → Option (Int32 × zS)
  | 0, _, _, _ => none
  | n + 1, c1, x2, s => b207_20 (f207_20 n) c1 x2 s
set_option maxRecDepth 100000 in
theorem k207_20 {X : mX} {D : Nat}   (n : Nat) : ∀ (c1 : Nat) (x2 : Int32) (s : zS) (r : Int32 × zS) , c1 < 78 → f207_20  n c1 x2 s = some r → Ev X (D + 5) mm207 20 [some (.ref 24), some (.ref (mRO + 3 + 2 * c1)), some (.int x2)] [] (mk s) (encI r) := by
  induction n with
  | zero => intro c1 x2 s r  hc1 h; cases h
  | succ n ih => intro c1 x2 s r  hc1 h; exact kb207_20  ih c1 x2 s r  hc1 h
def f207  (c1 : Nat) (s : zS) : Option (Int32 × zS) := if ((s.1 24 39) - (s.1 24 38)) = (zlen c1) then f207_20 zF c1 (zi 0) s else some (zi 0, s)
set_option maxRecDepth 100000 in
theorem k207 {X : mX} {D : Nat} {c1 : Nat} {s : zS} {r : Int32 × zS} (hc1 : c1 < 78) (h : f207 c1 s = some r) : Ev X (D + 5) mm207 0 [some (.ref 24), some (.ref (mRO + 3 + 2 * c1)), none] [] (mk s) (encI r) := by
  unfold f207 at h
  refine Ev.run (pc' := 10) (ls' := [some (.ref 24), some (.ref (mRO + 3 + 2 * c1)), none]) (st' := [.ref (mRO + 3 + 2 * c1), .int ((s.1 24 39) - (s.1 24 38))]) (h' := mk s) 6 rfl ?_
  refine Ev.call (M' := mm241) (as := [.ref (mRO + 3 + 2 * c1)]) (rest := [.int ((s.1 24 39) - (s.1 24 38))]) (v := some (.int (zlen c1))) (h' := mk s) rfl (litcall rfl rfl hc1 rfl rfl) rfl (Nat.le_of_ble_eq_true rfl) (kstrlen hc1) ?_
  refine Ev.icmp_eq (t := 18) rfl rfl (fun hb => ?_) (fun hb => ?_)
  · have h := (if_pos hb).symm.trans h
    refine Ev.run (pc' := 20) (ls' := [some (.ref 24), some (.ref (mRO + 3 + 2 * c1)), some (.int (zi 0))]) (st' := []) (h' := mk s) 2 rfl ?_
    exact k207_20 zF c1 (zi 0) s _ hc1 h
  · have h := (if_neg hb).symm.trans h
    refine Ev.run (pc' := 17) (ls' := [some (.ref 24), some (.ref (mRO + 3 + 2 * c1)), none]) (st' := [.int (zi 0)]) (h' := mk s) 1 rfl ?_
    first | (obtain rfl := Option.some.inj h) | (cases h)
    exact Ev.fin rfl rfl
/-! 209 FModel.power(I)I -/
def f209_105  (x3 : Int32) (x4 : Int32) (s : zS) : Option (Int32 × zS) := if x4 = zi 0 then some (x3, s) else some (-x3, s)
set_option maxRecDepth 100000 in
theorem k209_105 {X : mX} {D : Nat}   (x3 : Int32) (x4 : Int32) (s : zS) (r : Int32 × zS) (o0 : Option Value) (o1 : Option Value) (o2 : Option Value)  (h : f209_105  x3 x4 s = some r) : Ev X (D + 1) mm209 105 [o0, o1, o2, some (.int x3), some (.int x4)] [] (mk s) (encI r) := by
  unfold f209_105 at h
  refine Ev.run (pc' := 107) (ls' := [o0, o1, o2, some (.int x3), some (.int x4)]) (st' := [.int x4]) (h' := mk s) 1 rfl ?_
  refine Ev.if_eq (t := 115) rfl rfl (fun hb => ?_) (fun hb => ?_)
  · have h := (if_pos hb).symm.trans h
    refine Ev.run (pc' := 116) (ls' := [o0, o1, o2, some (.int x3), some (.int x4)]) (st' := [.int x3]) (h' := mk s) 1 rfl ?_
    first | (obtain rfl := Option.some.inj h) | (cases h)
    exact Ev.fin rfl rfl
  · have h := (if_neg hb).symm.trans h
    refine Ev.run (pc' := 116) (ls' := [o0, o1, o2, some (.int x3), some (.int x4)]) (st' := [.int (-x3)]) (h' := mk s) 3 rfl ?_
    first | (obtain rfl := Option.some.inj h) | (cases h)
    exact Ev.fin rfl rfl
def b209_55 (rec55 : Int32 → Int32 → Int32 → Int32 → zS → Option (Int32 × zS)) (x1 : Int32) (x2 : Int32) (x3 : Int32) (x4 : Int32) (s : zS) : Option (Int32 × zS) := zb1 (f205 x2 s) (fun v2 s1 => if (r196 v2 s1) = zi 0 then if x2 = (s1.1 24 39) then f209_105 x3 x4 s1 else f209_105 x3 x4 (setI s1 24 40 (zi 0)) else zb1 (f205 x2 s1) (fun v4 s3 => rec55 x1 (x2 + zi 1) (r265 ((((zi 10) * x3) + v4) - (zi 48)) (zi 100000) s3) x4 s3))
set_option maxRecDepth 100000 in
theorem kb209_55 {X : mX} {D : Nat} {rec55 : Int32 → Int32 → Int32 → Int32 → zS → Option (Int32 × zS)} (hrec55 : ∀ (x1 : Int32) (x2 : Int32) (x3 : Int32) (x4 : Int32) (s : zS) (r : Int32 × zS) , rec55 x1 x2 x3 x4 s = some r → Ev X (D + 1) mm209 55 [some (.ref 24), some (.int x1), some (.int x2), some (.int x3), some (.int x4)] [] (mk s) (encI r)) (x1 : Int32) (x2 : Int32) (x3 : Int32) (x4 : Int32) (s : zS) (r : Int32 × zS)   (h : b209_55 rec55 x1 x2 x3 x4 s = some r) : Ev X (D + 1) mm209 55 [some (.ref 24), some (.int x1), some (.int x2), some (.int x3), some (.int x4)] [] (mk s) (encI r) := by
  unfold b209_55 at h
  refine Ev.run (pc' := 57) (ls' := [some (.ref 24), some (.int x1), some (.int x2), some (.int x3), some (.int x4)]) (st' := [.int x2, .ref 24]) (h' := mk s) 2 rfl ?_
  obtain ⟨v2, s1, hq, h⟩ := zb1_some h
  refine Ev.call (M' := mm205) (v := some (.int v2)) (h' := mk s1) rfl rfl rfl (Nat.le_of_ble_eq_true rfl) (k205 hq) ?_
  refine Ev.call (M' := mm196) (v := some (.int (r196 v2 s1))) (h' := mk s1) rfl rfl rfl (Nat.le_of_ble_eq_true rfl) (k196 (x0 := v2) (s := s1) (v := r196 v2 s1)  rfl) ?_
  refine Ev.if_eq (t := 92) rfl rfl (fun hb => ?_) (fun hb => ?_)
  · have h := (if_pos hb).symm.trans h
    refine Ev.run (pc' := 97) (ls' := [some (.ref 24), some (.int x1), some (.int x2), some (.int x3), some (.int x4)]) (st' := [.int (s1.1 24 39), .int x2]) (h' := mk s1) 3 rfl ?_
    refine Ev.icmp_eq (t := 105) rfl rfl (fun hb => ?_) (fun hb => ?_)
    · have h := (if_pos hb).symm.trans h
      exact k209_105 x3 x4 s1 _ _ _ _ h
    · have h := (if_neg hb).symm.trans h
      refine Ev.run (pc' := 102) (ls' := [some (.ref 24), some (.int x1), some (.int x2), some (.int x3), some (.int x4)]) (st' := [.int (zi 0), .ref 24]) (h' := mk s1) 2 rfl ?_
      refine Ev.step (pc' := 105) rfl (put_12_40 (by decide) rfl) ?_
      exact k209_105 x3 x4 (setI s1 24 40 (zi 0)) _ _ _ _ h
  · have h := (if_neg hb).symm.trans h
    refine Ev.run (pc' := 72) (ls' := [some (.ref 24), some (.int x1), some (.int x2), some (.int x3), some (.int x4)]) (st' := [.int x2, .ref 24, .int ((zi 10) * x3)]) (h' := mk s1) 5 rfl ?_
    obtain ⟨v4, s3, hq, h⟩ := zb1_some h
    refine Ev.call (M' := mm205) (v := some (.int v4)) (h' := mk s3) rfl rfl rfl (Nat.le_of_ble_eq_true rfl) (k205 hq) ?_
    refine Ev.run (pc' := 82) (ls' := [some (.ref 24), some (.int x1), some (.int x2), some (.int x3), some (.int x4)]) (st' := [.int (zi 100000), .int ((((zi 10) * x3) + v4) - (zi 48))]) (h' := mk s3) 4 rfl ?_
    refine Ev.call (M' := mm265) (v := some (.int (r265 ((((zi 10) * x3) + v4) - (zi 48)) (zi 100000) s3))) (h' := mk s3) rfl rfl rfl (Nat.le_of_ble_eq_true rfl) (k265 (x0 := ((((zi 10) * x3) + v4) - (zi 48))) (x1 := (zi 100000)) (s := s3) (v := r265 ((((zi 10) * x3) + v4) - (zi 48)) (zi 100000) s3)  rfl) ?_
    refine Ev.run (pc' := 55) (ls' := [some (.ref 24), some (.int x1), some (.int (x2 + zi 1)), some (.int (r265 ((((zi 10) * x3) + v4) - (zi 48)) (zi 100000) s3)), some (.int x4)]) (st' := []) (h' := mk s3) 3 rfl ?_
    exact hrec55 x1 (x2 + zi 1) (r265 ((((zi 10) * x3) + v4) - (zi 48)) (zi 100000) s3) x4 s3 _ h
def f209_55  : Nat → Int32 → Int32 → Int32 → Int32 → zS → Option (Int32 × zS)
  | 0, _, _, _, _, _ => none
  | n + 1, x1, x2, x3, x4, s => b209_55 (f209_55 n) x1 x2 x3 x4 s
set_option maxRecDepth 100000 in
theorem k209_55 {X : mX} {D : Nat}   (n : Nat) : ∀ (x1 : Int32) (x2 : Int32) (x3 : Int32) (x4 : Int32) (s : zS) (r : Int32 × zS) , f209_55  n x1 x2 x3 x4 s = some r → Ev X (D + 1) mm209 55 [some (.ref 24), some (.int x1), some (.int x2), some (.int x3), some (.int x4)] [] (mk s) (encI r) := by
  induction n with
  | zero => intro x1 x2 x3 x4 s r   h; cases h
  | succ n ih => intro x1 x2 x3 x4 s r   h; exact kb209_55  ih x1 x2 x3 x4 s r   h
def f209_39  (x1 : Int32) (x2 : Int32) (x3 : Int32) (x4 : Int32) (s : zS) : Option (Int32 × zS) := zb1 (f205 x2 s) (fun v2 s1 => if ¬ (r196 v2 s1) = zi 0 then f209_55 zF x1 x2 x3 x4 s1 else f209_55 zF x1 x2 x3 x4 (setI s1 24 40 (zi 0)))
set_option maxRecDepth 100000 in
theorem k209_39 {X : mX} {D : Nat}   (x1 : Int32) (x2 : Int32) (x3 : Int32) (x4 : Int32) (s : zS) (r : Int32 × zS)   (h : f209_39  x1 x2 x3 x4 s = some r) : Ev X (D + 1) mm209 39 [some (.ref 24), some (.int x1), some (.int x2), some (.int x3), some (.int x4)] [] (mk s) (encI r) := by
  unfold f209_39 at h
  refine Ev.run (pc' := 41) (ls' := [some (.ref 24), some (.int x1), some (.int x2), some (.int x3), some (.int x4)]) (st' := [.int x2, .ref 24]) (h' := mk s) 2 rfl ?_
  obtain ⟨v2, s1, hq, h⟩ := zb1_some h
  refine Ev.call (M' := mm205) (v := some (.int v2)) (h' := mk s1) rfl rfl rfl (Nat.le_of_ble_eq_true rfl) (k205 hq) ?_
  refine Ev.call (M' := mm196) (v := some (.int (r196 v2 s1))) (h' := mk s1) rfl rfl rfl (Nat.le_of_ble_eq_true rfl) (k196 (x0 := v2) (s := s1) (v := r196 v2 s1)  rfl) ?_
  refine Ev.if_ne (t := 55) rfl rfl (fun hb => ?_) (fun hb => ?_)
  · have h := (if_pos hb).symm.trans h
    exact k209_55 zF x1 x2 x3 x4 s1 _ h
  · have h := (if_neg hb).symm.trans h
    refine Ev.run (pc' := 52) (ls' := [some (.ref 24), some (.int x1), some (.int x2), some (.int x3), some (.int x4)]) (st' := [.int (zi 0), .ref 24]) (h' := mk s1) 2 rfl ?_
    refine Ev.step (pc' := 55) rfl (put_12_40 (by decide) rfl) ?_
    exact k209_55 zF x1 x2 x3 x4 (setI s1 24 40 (zi 0)) _ h
def f209_19  (x1 : Int32) (x2 : Int32) (x3 : Int32) (y0 : Int32) (s : zS) : Option (Int32 × zS) := if ¬ y0 = zi 0 then f209_39 x1 (x2 + zi 1) x3 y0 s else zb1 (f205 x2 s) (fun v2 s1 => if ¬ v2 = (zi 43) then f209_39 x1 x2 x3 y0 s1 else f209_39 x1 (x2 + zi 1) x3 y0 s1)
set_option maxRecDepth 100000 in
theorem k209_19 {X : mX} {D : Nat}   (x1 : Int32) (x2 : Int32) (x3 : Int32) (y0 : Int32) (s : zS) (r : Int32 × zS) (o4 : Option Value)  (h : f209_19  x1 x2 x3 y0 s = some r) : Ev X (D + 1) mm209 19 [some (.ref 24), some (.int x1), some (.int x2), some (.int x3), o4] [.int y0] (mk s) (encI r) := by
  unfold f209_19 at h
  refine Ev.run (pc' := 23) (ls' := [some (.ref 24), some (.int x1), some (.int x2), some (.int x3), some (.int y0)]) (st' := [.int y0]) (h' := mk s) 2 rfl ?_
  refine Ev.if_ne (t := 36) rfl rfl (fun hb => ?_) (fun hb => ?_)
  · have h := (if_pos hb).symm.trans h
    refine Ev.run (pc' := 39) (ls' := [some (.ref 24), some (.int x1), some (.int (x2 + zi 1)), some (.int x3), some (.int y0)]) (st' := []) (h' := mk s) 1 rfl ?_
    exact k209_39 x1 (x2 + zi 1) x3 y0 s _ h
  · have h := (if_neg hb).symm.trans h
    refine Ev.run (pc' := 28) (ls' := [some (.ref 24), some (.int x1), some (.int x2), some (.int x3), some (.int y0)]) (st' := [.int x2, .ref 24]) (h' := mk s) 2 rfl ?_
    obtain ⟨v2, s1, hq, h⟩ := zb1_some h
    refine Ev.call (M' := mm205) (v := some (.int v2)) (h' := mk s1) rfl rfl rfl (Nat.le_of_ble_eq_true rfl) (k205 hq) ?_
    refine Ev.run (pc' := 33) (ls' := [some (.ref 24), some (.int x1), some (.int x2), some (.int x3), some (.int y0)]) (st' := [.int (zi 43), .int v2]) (h' := mk s1) 1 rfl ?_
    refine Ev.icmp_ne (t := 39) rfl rfl (fun hb => ?_) (fun hb => ?_)
    · have h := (if_pos hb).symm.trans h
      exact k209_39 x1 x2 x3 y0 s1 _ h
    · have h := (if_neg hb).symm.trans h
      refine Ev.run (pc' := 39) (ls' := [some (.ref 24), some (.int x1), some (.int (x2 + zi 1)), some (.int x3), some (.int y0)]) (st' := []) (h' := mk s1) 1 rfl ?_
      exact k209_39 x1 (x2 + zi 1) x3 y0 s1 _ h
def f209  (x1 : Int32) (s : zS) : Option (Int32 × zS) := zb1 (f205 x1 s) (fun v2 s1 => if ¬ v2 = (zi 45) then f209_19 x1 x1 (zi 0) (zi 0) s1 else f209_19 x1 x1 (zi 0) (zi 1) s1)
set_option maxRecDepth 100000 in
theorem k209 {X : mX} {D : Nat} {x1 : Int32} {s : zS} {r : Int32 × zS}  (h : f209 x1 s = some r) : Ev X (D + 1) mm209 0 [some (.ref 24), some (.int x1), none, none, none] [] (mk s) (encI r) := by
  unfold f209 at h
  refine Ev.run (pc' := 6) (ls' := [some (.ref 24), some (.int x1), some (.int x1), some (.int (zi 0)), none]) (st' := [.int x1, .ref 24]) (h' := mk s) 6 rfl ?_
  obtain ⟨v2, s1, hq, h⟩ := zb1_some h
  refine Ev.call (M' := mm205) (v := some (.int v2)) (h' := mk s1) rfl rfl rfl (Nat.le_of_ble_eq_true rfl) (k205 hq) ?_
  refine Ev.run (pc' := 11) (ls' := [some (.ref 24), some (.int x1), some (.int x1), some (.int (zi 0)), none]) (st' := [.int (zi 45), .int v2]) (h' := mk s1) 1 rfl ?_
  refine Ev.icmp_ne (t := 18) rfl rfl (fun hb => ?_) (fun hb => ?_)
  · have h := (if_pos hb).symm.trans h
    refine Ev.run (pc' := 19) (ls' := [some (.ref 24), some (.int x1), some (.int x1), some (.int (zi 0)), none]) (st' := [.int (zi 0)]) (h' := mk s1) 1 rfl ?_
    exact k209_19 x1 x1 (zi 0) (zi 0) s1 _ _ h
  · have h := (if_neg hb).symm.trans h
    refine Ev.run (pc' := 19) (ls' := [some (.ref 24), some (.int x1), some (.int x1), some (.int (zi 0)), none]) (st' := [.int (zi 1)]) (h' := mk s1) 2 rfl ?_
    exact k209_19 x1 x1 (zi 0) (zi 1) s1 _ _ h
/-! 212 FModel.packed(JIZ)J -/
def f212_70  (x4 : Int32) (x5 : Int32) (x6 : Int32) (x7 : Int32) (x8 : Int64) (x10 : Int32) (s : zS) : Option (Int64 × zS) := if x10 ≤ x7 then if ¬ (zshrL x8 (x5 - (zi 1))) = (zl 0) then some ((zshlL (zI2L ((x10 - x6) + (zi 1))) (x5 - (zi 1))) ||| (x8 &&& ((zshlL (zl 1) (x5 - (zi 1))) - (zl 1))), s) else some (x8, s) else if x4 = zi 0 then some (zl 9218868437227405312, s) else some (zl 2139095040, s)
set_option maxRecDepth 100000 in
theorem k212_70 {X : mX} {D : Nat}   (x4 : Int32) (x5 : Int32) (x6 : Int32) (x7 : Int32) (x8 : Int64) (x10 : Int32) (s : zS) (r : Int64 × zS) (o0 : Option Value) (o1 : Option Value) (o2 : Option Value) (o3 : Option Value)  (h : f212_70  x4 x5 x6 x7 x8 x10 s = some r) : Ev X D mm212 70 [o0, o1, o2, o3, some (.int x4), some (.int x5), some (.int x6), some (.int x7), some (.long x8), none, some (.int x10)] [] (mk s) (encL r) := by
  unfold f212_70 at h
  refine Ev.run (pc' := 74) (ls' := [o0, o1, o2, o3, some (.int x4), some (.int x5), some (.int x6), some (.int x7), some (.long x8), none, some (.int x10)]) (st' := [.int x7, .int x10]) (h' := mk s) 2 rfl ?_
  refine Ev.icmp_le (t := 92) rfl rfl (fun hb => ?_) (fun hb => ?_)
  · have h := (if_pos hb).symm.trans h
    refine Ev.run (pc' := 101) (ls' := [o0, o1, o2, o3, some (.int x4), some (.int x5), some (.int x6), some (.int x7), some (.long x8), none, some (.int x10)]) (st' := [.int (lg_cmp (zshrL x8 (x5 - (zi 1))) (zl 0))]) (h' := mk s) 7 rfl ?_
    refine Ev.ifl_ne (t := 107) rfl rfl (fun hb => ?_) (fun hb => ?_)
    · have h := (if_pos hb).symm.trans h
      refine Ev.run (pc' := 132) (ls' := [o0, o1, o2, o3, some (.int x4), some (.int x5), some (.int x6), some (.int x7), some (.long x8), none, some (.int x10)]) (st' := [.long ((zshlL (zI2L ((x10 - x6) + (zi 1))) (x5 - (zi 1))) ||| (x8 &&& ((zshlL (zl 1) (x5 - (zi 1))) - (zl 1))))]) (h' := mk s) 20 rfl ?_
      first | (obtain rfl := Option.some.inj h) | (cases h)
      exact Ev.fin rfl rfl
    · have h := (if_neg hb).symm.trans h
      refine Ev.run (pc' := 106) (ls' := [o0, o1, o2, o3, some (.int x4), some (.int x5), some (.int x6), some (.int x7), some (.long x8), none, some (.int x10)]) (st' := [.long x8]) (h' := mk s) 1 rfl ?_
      first | (obtain rfl := Option.some.inj h) | (cases h)
      exact Ev.fin rfl rfl
  · have h := (if_neg hb).symm.trans h
    refine Ev.run (pc' := 79) (ls' := [o0, o1, o2, o3, some (.int x4), some (.int x5), some (.int x6), some (.int x7), some (.long x8), none, some (.int x10)]) (st' := [.int x4]) (h' := mk s) 1 rfl ?_
    refine Ev.if_eq (t := 88) rfl rfl (fun hb => ?_) (fun hb => ?_)
    · have h := (if_pos hb).symm.trans h
      refine Ev.run (pc' := 91) (ls' := [o0, o1, o2, o3, some (.int x4), some (.int x5), some (.int x6), some (.int x7), some (.long x8), none, some (.int x10)]) (st' := [.long (zl 9218868437227405312)]) (h' := mk s) 1 rfl ?_
      first | (obtain rfl := Option.some.inj h) | (cases h)
      exact Ev.fin rfl rfl
    · have h := (if_neg hb).symm.trans h
      refine Ev.run (pc' := 91) (ls' := [o0, o1, o2, o3, some (.int x4), some (.int x5), some (.int x6), some (.int x7), some (.long x8), none, some (.int x10)]) (st' := [.long (zl 2139095040)]) (h' := mk s) 2 rfl ?_
      first | (obtain rfl := Option.some.inj h) | (cases h)
      exact Ev.fin rfl rfl
def f212_43  (x1 : Int64) (x3 : Int32) (x4 : Int32) (x5 : Int32) (x6 : Int32) (y0 : Int32) (s : zS) : Option (Int64 × zS) := if (zshrL x1 x5) ≤ (zl 0) then f212_70 x4 x5 x6 y0 x1 x3 s else f212_70 x4 x5 x6 y0 (zshrL x1 (zi 1)) (x3 + zi 1) s
set_option maxRecDepth 100000 in
theorem k212_43 {X : mX} {D : Nat}   (x1 : Int64) (x3 : Int32) (x4 : Int32) (x5 : Int32) (x6 : Int32) (y0 : Int32) (s : zS) (r : Int64 × zS) (o0 : Option Value) (o7 : Option Value) (o8 : Option Value) (o9 : Option Value) (o10 : Option Value)  (h : f212_43  x1 x3 x4 x5 x6 y0 s = some r) : Ev X D mm212 43 [o0, some (.long x1), none, some (.int x3), some (.int x4), some (.int x5), some (.int x6), o7, o8, o9, o10] [.int y0] (mk s) (encL r) := by
  unfold f212_43 at h
  refine Ev.run (pc' := 58) (ls' := [o0, some (.long x1), none, some (.int x3), some (.int x4), some (.int x5), some (.int x6), some (.int y0), some (.long x1), none, some (.int x3)]) (st' := [.int (lg_cmp (zshrL x1 x5) (zl 0))]) (h' := mk s) 10 rfl ?_
  refine Ev.ifl_le (t := 70) rfl rfl (fun hb => ?_) (fun hb => ?_)
  · have h := (if_pos hb).symm.trans h
    exact k212_70 x4 x5 x6 y0 x1 x3 s _ _ _ _ _ h
  · have h := (if_neg hb).symm.trans h
    refine Ev.run (pc' := 70) (ls' := [o0, some (.long x1), none, some (.int x3), some (.int x4), some (.int x5), some (.int x6), some (.int y0), some (.long (zshrL x1 (zi 1))), none, some (.int (x3 + zi 1))]) (st' := []) (h' := mk s) 5 rfl ?_
    exact k212_70 x4 x5 x6 y0 (zshrL x1 (zi 1)) (x3 + zi 1) s _ _ _ _ _ h
def f212_28  (x1 : Int64) (x3 : Int32) (x4 : Int32) (x5 : Int32) (y0 : Int32) (s : zS) : Option (Int64 × zS) := if x4 = zi 0 then f212_43 x1 x3 x4 x5 y0 (zi 971) s else f212_43 x1 x3 x4 x5 y0 (zi 104) s
set_option maxRecDepth 100000 in
theorem k212_28 {X : mX} {D : Nat}   (x1 : Int64) (x3 : Int32) (x4 : Int32) (x5 : Int32) (y0 : Int32) (s : zS) (r : Int64 × zS) (o0 : Option Value) (o6 : Option Value) (o7 : Option Value) (o8 : Option Value) (o9 : Option Value) (o10 : Option Value)  (h : f212_28  x1 x3 x4 x5 y0 s = some r) : Ev X D mm212 28 [o0, some (.long x1), none, some (.int x3), some (.int x4), some (.int x5), o6, o7, o8, o9, o10] [.int y0] (mk s) (encL r) := by
  unfold f212_28 at h
  refine Ev.run (pc' := 32) (ls' := [o0, some (.long x1), none, some (.int x3), some (.int x4), some (.int x5), some (.int y0), o7, o8, o9, o10]) (st' := [.int x4]) (h' := mk s) 2 rfl ?_
  refine Ev.if_eq (t := 40) rfl rfl (fun hb => ?_) (fun hb => ?_)
  · have h := (if_pos hb).symm.trans h
    refine Ev.run (pc' := 43) (ls' := [o0, some (.long x1), none, some (.int x3), some (.int x4), some (.int x5), some (.int y0), o7, o8, o9, o10]) (st' := [.int (zi 971)]) (h' := mk s) 1 rfl ?_
    exact k212_43 x1 x3 x4 x5 y0 (zi 971) s _ _ _ _ _ _ h
  · have h := (if_neg hb).symm.trans h
    refine Ev.run (pc' := 43) (ls' := [o0, some (.long x1), none, some (.int x3), some (.int x4), some (.int x5), some (.int y0), o7, o8, o9, o10]) (st' := [.int (zi 104)]) (h' := mk s) 2 rfl ?_
    exact k212_43 x1 x3 x4 x5 y0 (zi 104) s _ _ _ _ _ _ h
def f212_12  (x1 : Int64) (x3 : Int32) (x4 : Int32) (y0 : Int32) (s : zS) : Option (Int64 × zS) := if x4 = zi 0 then f212_28 x1 x3 x4 y0 (zi (-1074)) s else f212_28 x1 x3 x4 y0 (zi (-149)) s
set_option maxRecDepth 100000 in
theorem k212_12 {X : mX} {D : Nat}   (x1 : Int64) (x3 : Int32) (x4 : Int32) (y0 : Int32) (s : zS) (r : Int64 × zS) (o0 : Option Value) (o5 : Option Value) (o6 : Option Value) (o7 : Option Value) (o8 : Option Value) (o9 : Option Value) (o10 : Option Value)  (h : f212_12  x1 x3 x4 y0 s = some r) : Ev X D mm212 12 [o0, some (.long x1), none, some (.int x3), some (.int x4), o5, o6, o7, o8, o9, o10] [.int y0] (mk s) (encL r) := by
  unfold f212_12 at h
  refine Ev.run (pc' := 16) (ls' := [o0, some (.long x1), none, some (.int x3), some (.int x4), some (.int y0), o6, o7, o8, o9, o10]) (st' := [.int x4]) (h' := mk s) 2 rfl ?_
  refine Ev.if_eq (t := 25) rfl rfl (fun hb => ?_) (fun hb => ?_)
  · have h := (if_pos hb).symm.trans h
    refine Ev.run (pc' := 28) (ls' := [o0, some (.long x1), none, some (.int x3), some (.int x4), some (.int y0), o6, o7, o8, o9, o10]) (st' := [.int (zi (-1074))]) (h' := mk s) 1 rfl ?_
    exact k212_28 x1 x3 x4 y0 (zi (-1074)) s _ _ _ _ _ _ _ h
  · have h := (if_neg hb).symm.trans h
    refine Ev.run (pc' := 28) (ls' := [o0, some (.long x1), none, some (.int x3), some (.int x4), some (.int y0), o6, o7, o8, o9, o10]) (st' := [.int (zi (-149))]) (h' := mk s) 2 rfl ?_
    exact k212_28 x1 x3 x4 y0 (zi (-149)) s _ _ _ _ _ _ _ h
def f212  (x1 : Int64) (x3 : Int32) (x4 : Int32) (s : zS) : Option (Int64 × zS) := if x4 = zi 0 then f212_12 x1 x3 x4 (zi 53) s else f212_12 x1 x3 x4 (zi 24) s
set_option maxRecDepth 100000 in
theorem k212 {X : mX} {D : Nat} {x1 : Int64} {x3 : Int32} {x4 : Int32} {s : zS} {r : Int64 × zS}  (h : f212 x1 x3 x4 s = some r) : Ev X D mm212 0 [some (.ref 24), some (.long x1), none, some (.int x3), some (.int x4), none, none, none, none, none, none] [] (mk s) (encL r) := by
  unfold f212 at h
  refine Ev.run (pc' := 2) (ls' := [some (.ref 24), some (.long x1), none, some (.int x3), some (.int x4), none, none, none, none, none, none]) (st' := [.int x4]) (h' := mk s) 1 rfl ?_
  refine Ev.if_eq (t := 10) rfl rfl (fun hb => ?_) (fun hb => ?_)
  · have h := (if_pos hb).symm.trans h
    refine Ev.run (pc' := 12) (ls' := [some (.ref 24), some (.long x1), none, some (.int x3), some (.int x4), none, none, none, none, none, none]) (st' := [.int (zi 53)]) (h' := mk s) 1 rfl ?_
    exact k212_12 x1 x3 x4 (zi 53) s _ _ _ _ _ _ _ _ h
  · have h := (if_neg hb).symm.trans h
    refine Ev.run (pc' := 12) (ls' := [some (.ref 24), some (.long x1), none, some (.int x3), some (.int x4), none, none, none, none, none, none]) (st' := [.int (zi 24)]) (h' := mk s) 2 rfl ?_
    exact k212_12 x1 x3 x4 (zi 24) s _ _ _ _ _ _ _ _ h
/-! 215 FModel.sixteens(Z)J -/
def f215_361  (x1 : Int32) (x4 : Int32) (x12 : Int32) (x17 : Int64) (s : zS) : Option (Int64 × zS) := zb1 (f212 x17 (x4 + x12) x1 s) (fun v2 s1 => some (v2, s1))
set_option maxRecDepth 100000 in
theorem k215_361 {X : mX} {D : Nat}   (x1 : Int32) (x4 : Int32) (x12 : Int32) (x17 : Int64) (s : zS) (r : Int64 × zS) (o2 : Option Value) (o3 : Option Value) (o5 : Option Value) (o6 : Option Value) (o7 : Option Value) (o8 : Option Value) (o9 : Option Value) (o10 : Option Value) (o11 : Option Value) (o13 : Option Value) (o14 : Option Value) (o15 : Option Value) (o16 : Option Value)  (h : f215_361  x1 x4 x12 x17 s = some r) : Ev X (D + 2) mm215 361 [some (.ref 24), some (.int x1), o2, o3, some (.int x4), o5, o6, o7, o8, o9, o10, o11, some (.int x12), o13, o14, o15, o16, some (.long x17), none] [] (mk s) (encL r) := by
  unfold f215_361 at h
  refine Ev.run (pc' := 370) (ls' := [some (.ref 24), some (.int x1), o2, o3, some (.int x4), o5, o6, o7, o8, o9, o10, o11, some (.int x12), o13, o14, o15, o16, some (.long x17), none]) (st' := [.int x1, .int (x4 + x12), .long x17, .ref 24]) (h' := mk s) 6 rfl ?_
  obtain ⟨v2, s1, hq, h⟩ := zb1_some h
  refine Ev.call (M' := mm212) (v := some (.long v2)) (h' := mk s1) rfl rfl rfl (Nat.le_of_ble_eq_true rfl) (k212 hq) ?_
  first | (obtain rfl := Option.some.inj h) | (cases h)
  exact Ev.fin rfl rfl
def f215_323  (x1 : Int32) (x4 : Int32) (x6 : Int32) (x12 : Int32) (x13 : Int64) (x15 : Int64) (y0 : Int64) (s : zS) : Option (Int64 × zS) := if x13 > x15 then f215_361 x1 x4 x12 (y0 + (zl 1)) s else if ¬ x13 = x15 then f215_361 x1 x4 x12 y0 s else if ¬ x6 = zi 0 then f215_361 x1 x4 x12 (y0 + (zl 1)) s else if ¬ (y0 &&& (zl 1)) = (zl 1) then f215_361 x1 x4 x12 y0 s else f215_361 x1 x4 x12 (y0 + (zl 1)) s
set_option maxRecDepth 100000 in
theorem k215_323 {X : mX} {D : Nat}   (x1 : Int32) (x4 : Int32) (x6 : Int32) (x12 : Int32) (x13 : Int64) (x15 : Int64) (y0 : Int64) (s : zS) (r : Int64 × zS) (o2 : Option Value) (o3 : Option Value) (o5 : Option Value) (o7 : Option Value) (o8 : Option Value) (o9 : Option Value) (o10 : Option Value) (o11 : Option Value) (o17 : Option Value) (o18 : Option Value)  (h : f215_323  x1 x4 x6 x12 x13 x15 y0 s = some r) : Ev X (D + 2) mm215 323 [some (.ref 24), some (.int x1), o2, o3, some (.int x4), o5, some (.int x6), o7, o8, o9, o10, o11, some (.int x12), some (.long x13), none, some (.long x15), none, o17, o18] [.long y0] (mk s) (encL r) := by
  unfold f215_323 at h
  refine Ev.run (pc' := 330) (ls' := [some (.ref 24), some (.int x1), o2, o3, some (.int x4), o5, some (.int x6), o7, o8, o9, o10, o11, some (.int x12), some (.long x13), none, some (.long x15), none, some (.long y0), none]) (st' := [.int (lg_cmp x13 x15)]) (h' := mk s) 4 rfl ?_
  refine Ev.ifl_gt (t := 355) rfl rfl (fun hb => ?_) (fun hb => ?_)
  · have h := (if_pos hb).symm.trans h
    refine Ev.run (pc' := 361) (ls' := [some (.ref 24), some (.int x1), o2, o3, some (.int x4), o5, some (.int x6), o7, o8, o9, o10, o11, some (.int x12), some (.long x13), none, some (.long x15), none, some (.long (y0 + (zl 1))), none]) (st' := []) (h' := mk s) 4 rfl ?_
    exact k215_361 x1 x4 x12 (y0 + (zl 1)) s _ _ _ _ _ _ _ _ _ _ _ _ _ _ h
  · have h := (if_neg hb).symm.trans h
    refine Ev.run (pc' := 338) (ls' := [some (.ref 24), some (.int x1), o2, o3, some (.int x4), o5, some (.int x6), o7, o8, o9, o10, o11, some (.int x12), some (.long x13), none, some (.long x15), none, some (.long y0), none]) (st' := [.int (lg_cmp x13 x15)]) (h' := mk s) 3 rfl ?_
    refine Ev.ifl_ne (t := 361) rfl rfl (fun hb => ?_) (fun hb => ?_)
    · have h := (if_pos hb).symm.trans h
      exact k215_361 x1 x4 x12 y0 s _ _ _ _ _ _ _ _ _ _ _ _ _ _ h
    · have h := (if_neg hb).symm.trans h
      refine Ev.run (pc' := 343) (ls' := [some (.ref 24), some (.int x1), o2, o3, some (.int x4), o5, some (.int x6), o7, o8, o9, o10, o11, some (.int x12), some (.long x13), none, some (.long x15), none, some (.long y0), none]) (st' := [.int x6]) (h' := mk s) 1 rfl ?_
      refine Ev.if_ne (t := 355) rfl rfl (fun hb => ?_) (fun hb => ?_)
      · have h := (if_pos hb).symm.trans h
        refine Ev.run (pc' := 361) (ls' := [some (.ref 24), some (.int x1), o2, o3, some (.int x4), o5, some (.int x6), o7, o8, o9, o10, o11, some (.int x12), some (.long x13), none, some (.long x15), none, some (.long (y0 + (zl 1))), none]) (st' := []) (h' := mk s) 4 rfl ?_
        exact k215_361 x1 x4 x12 (y0 + (zl 1)) s _ _ _ _ _ _ _ _ _ _ _ _ _ _ h
      · have h := (if_neg hb).symm.trans h
        refine Ev.run (pc' := 352) (ls' := [some (.ref 24), some (.int x1), o2, o3, some (.int x4), o5, some (.int x6), o7, o8, o9, o10, o11, some (.int x12), some (.long x13), none, some (.long x15), none, some (.long y0), none]) (st' := [.int (lg_cmp (y0 &&& (zl 1)) (zl 1))]) (h' := mk s) 5 rfl ?_
        refine Ev.ifl_ne (t := 361) rfl rfl (fun hb => ?_) (fun hb => ?_)
        · have h := (if_pos hb).symm.trans h
          exact k215_361 x1 x4 x12 y0 s _ _ _ _ _ _ _ _ _ _ _ _ _ _ h
        · have h := (if_neg hb).symm.trans h
          refine Ev.run (pc' := 361) (ls' := [some (.ref 24), some (.int x1), o2, o3, some (.int x4), o5, some (.int x6), o7, o8, o9, o10, o11, some (.int x12), some (.long x13), none, some (.long x15), none, some (.long (y0 + (zl 1))), none]) (st' := []) (h' := mk s) 4 rfl ?_
          exact k215_361 x1 x4 x12 (y0 + (zl 1)) s _ _ _ _ _ _ _ _ _ _ _ _ _ _ h
def f215_297  (x1 : Int32) (x4 : Int32) (x6 : Int32) (x7 : Int64) (x12 : Int32) (y0 : Int64) (s : zS) : Option (Int64 × zS) := if ¬ x12 = (zi 63) then f215_323 x1 x4 x6 x12 y0 (zshlL (zl 1) (x12 - (zi 1))) (zshrL x7 x12) s else f215_323 x1 x4 x6 x12 y0 (zshlL (zl 1) (x12 - (zi 1))) (zl 0) s
set_option maxRecDepth 100000 in
theorem k215_297 {X : mX} {D : Nat}   (x1 : Int32) (x4 : Int32) (x6 : Int32) (x7 : Int64) (x12 : Int32) (y0 : Int64) (s : zS) (r : Int64 × zS) (o2 : Option Value) (o3 : Option Value) (o5 : Option Value) (o9 : Option Value) (o10 : Option Value) (o11 : Option Value) (o13 : Option Value) (o14 : Option Value) (o15 : Option Value) (o16 : Option Value) (o17 : Option Value) (o18 : Option Value)  (h : f215_297  x1 x4 x6 x7 x12 y0 s = some r) : Ev X (D + 2) mm215 297 [some (.ref 24), some (.int x1), o2, o3, some (.int x4), o5, some (.int x6), some (.long x7), none, o9, o10, o11, some (.int x12), o13, o14, o15, o16, o17, o18] [.long y0] (mk s) (encL r) := by
  unfold f215_297 at h
  refine Ev.run (pc' := 311) (ls' := [some (.ref 24), some (.int x1), o2, o3, some (.int x4), o5, some (.int x6), some (.long x7), none, o9, o10, o11, some (.int x12), some (.long y0), none, some (.long (zshlL (zl 1) (x12 - (zi 1)))), none, o17, o18]) (st' := [.int (zi 63), .int x12]) (h' := mk s) 9 rfl ?_
  refine Ev.icmp_ne (t := 318) rfl rfl (fun hb => ?_) (fun hb => ?_)
  · have h := (if_pos hb).symm.trans h
    refine Ev.run (pc' := 323) (ls' := [some (.ref 24), some (.int x1), o2, o3, some (.int x4), o5, some (.int x6), some (.long x7), none, o9, o10, o11, some (.int x12), some (.long y0), none, some (.long (zshlL (zl 1) (x12 - (zi 1)))), none, o17, o18]) (st' := [.long (zshrL x7 x12)]) (h' := mk s) 3 rfl ?_
    exact k215_323 x1 x4 x6 x12 y0 (zshlL (zl 1) (x12 - (zi 1))) (zshrL x7 x12) s _ _ _ _ _ _ _ _ _ _ _ h
  · have h := (if_neg hb).symm.trans h
    refine Ev.run (pc' := 323) (ls' := [some (.ref 24), some (.int x1), o2, o3, some (.int x4), o5, some (.int x6), some (.long x7), none, o9, o10, o11, some (.int x12), some (.long y0), none, some (.long (zshlL (zl 1) (x12 - (zi 1)))), none, o17, o18]) (st' := [.long (zl 0)]) (h' := mk s) 2 rfl ?_
    exact k215_323 x1 x4 x6 x12 y0 (zshlL (zl 1) (x12 - (zi 1))) (zl 0) s _ _ _ _ _ _ _ _ _ _ _ h
def b215_230 (rec230 : Int32 → Int32 → Int32 → Int32 → Int64 → Int32 → Int32 → zS → Option (Int64 × zS)) (x1 : Int32) (x3 : Int32) (x4 : Int32) (x6 : Int32) (x7 : Int64) (x10 : Int32) (x11 : Int32) (s : zS) : Option (Int64 × zS) := if ¬ (zshrL x7 (zi 61)) = (zl 0) then if (r264 ((zi 62) - x10) (x11 - x4) s) ≤ (zi 63) then if ¬ (r264 ((zi 62) - x10) (x11 - x4) s) = (zi 63) then f215_297 x1 x4 x6 x7 (r264 ((zi 62) - x10) (x11 - x4) s) (x7 &&& ((zshlL (zl 1) (r264 ((zi 62) - x10) (x11 - x4) s)) - (zl 1))) s else f215_297 x1 x4 x6 x7 (r264 ((zi 62) - x10) (x11 - x4) s) x7 s else some (zl 0, s) else rec230 x1 x3 (x4 + zi (-1)) x6 (zshlL x7 (zi 1)) x10 x11 s
set_option maxRecDepth 100000 in
theorem kb215_230 {X : mX} {D : Nat} {rec230 : Int32 → Int32 → Int32 → Int32 → Int64 → Int32 → Int32 → zS → Option (Int64 × zS)} (hrec230 : ∀ (x1 : Int32) (x3 : Int32) (x4 : Int32) (x6 : Int32) (x7 : Int64) (x10 : Int32) (x11 : Int32) (s : zS) (r : Int64 × zS) (o2 : Option Value) (o5 : Option Value) (o9 : Option Value) (o12 : Option Value) (o13 : Option Value) (o14 : Option Value) (o15 : Option Value) (o16 : Option Value) (o17 : Option Value) (o18 : Option Value), rec230 x1 x3 x4 x6 x7 x10 x11 s = some r → Ev X (D + 2) mm215 230 [some (.ref 24), some (.int x1), o2, some (.int x3), some (.int x4), o5, some (.int x6), some (.long x7), none, o9, some (.int x10), some (.int x11), o12, o13, o14, o15, o16, o17, o18] [] (mk s) (encL r)) (x1 : Int32) (x3 : Int32) (x4 : Int32) (x6 : Int32) (x7 : Int64) (x10 : Int32) (x11 : Int32) (s : zS) (r : Int64 × zS) (o2 : Option Value) (o5 : Option Value) (o9 : Option Value) (o12 : Option Value) (o13 : Option Value) (o14 : Option Value) (o15 : Option Value) (o16 : Option Value) (o17 : Option Value) (o18 : Option Value)  (h : b215_230 rec230 x1 x3 x4 x6 x7 x10 x11 s = some r) : Ev X (D + 2) mm215 230 [some (.ref 24), some (.int x1), o2, some (.int x3), some (.int x4), o5, some (.int x6), some (.long x7), none, o9, some (.int x10), some (.int x11), o12, o13, o14, o15, o16, o17, o18] [] (mk s) (encL r) := by
  unfold b215_230 at h
  refine Ev.run (pc' := 237) (ls' := [some (.ref 24), some (.int x1), o2, some (.int x3), some (.int x4), o5, some (.int x6), some (.long x7), none, o9, some (.int x10), some (.int x11), o12, o13, o14, o15, o16, o17, o18]) (st' := [.int (lg_cmp (zshrL x7 (zi 61)) (zl 0))]) (h' := mk s) 5 rfl ?_
  refine Ev.ifl_ne (t := 252) rfl rfl (fun hb => ?_) (fun hb => ?_)
  · have h := (if_pos hb).symm.trans h
    refine Ev.run (pc' := 262) (ls' := [some (.ref 24), some (.int x1), o2, some (.int x3), some (.int x4), o5, some (.int x6), some (.long x7), none, o9, some (.int x10), some (.int x11), o12, o13, o14, o15, o16, o17, o18]) (st' := [.int (x11 - x4), .int ((zi 62) - x10)]) (h' := mk s) 6 rfl ?_
    refine Ev.call (M' := mm264) (v := some (.int (r264 ((zi 62) - x10) (x11 - x4) s))) (h' := mk s) rfl rfl rfl (Nat.le_of_ble_eq_true rfl) (k264 (x0 := ((zi 62) - x10)) (x1 := (x11 - x4)) (s := s) (v := r264 ((zi 62) - x10) (x11 - x4) s)  rfl) ?_
    refine Ev.run (pc' := 271) (ls' := [some (.ref 24), some (.int x1), o2, some (.int x3), some (.int x4), o5, some (.int x6), some (.long x7), none, o9, some (.int x10), some (.int x11), some (.int (r264 ((zi 62) - x10) (x11 - x4) s)), o13, o14, o15, o16, o17, o18]) (st' := [.int (zi 63), .int (r264 ((zi 62) - x10) (x11 - x4) s)]) (h' := mk s) 3 rfl ?_
    refine Ev.icmp_le (t := 276) rfl rfl (fun hb => ?_) (fun hb => ?_)
    · have h := (if_pos hb).symm.trans h
      refine Ev.run (pc' := 280) (ls' := [some (.ref 24), some (.int x1), o2, some (.int x3), some (.int x4), o5, some (.int x6), some (.long x7), none, o9, some (.int x10), some (.int x11), some (.int (r264 ((zi 62) - x10) (x11 - x4) s)), o13, o14, o15, o16, o17, o18]) (st' := [.int (zi 63), .int (r264 ((zi 62) - x10) (x11 - x4) s)]) (h' := mk s) 2 rfl ?_
      refine Ev.icmp_ne (t := 288) rfl rfl (fun hb => ?_) (fun hb => ?_)
      · have h := (if_pos hb).symm.trans h
        refine Ev.run (pc' := 297) (ls' := [some (.ref 24), some (.int x1), o2, some (.int x3), some (.int x4), o5, some (.int x6), some (.long x7), none, o9, some (.int x10), some (.int x11), some (.int (r264 ((zi 62) - x10) (x11 - x4) s)), o13, o14, o15, o16, o17, o18]) (st' := [.long (x7 &&& ((zshlL (zl 1) (r264 ((zi 62) - x10) (x11 - x4) s)) - (zl 1)))]) (h' := mk s) 7 rfl ?_
        exact k215_297 x1 x4 x6 x7 (r264 ((zi 62) - x10) (x11 - x4) s) (x7 &&& ((zshlL (zl 1) (r264 ((zi 62) - x10) (x11 - x4) s)) - (zl 1))) s _ _ _ _ _ _ _ _ _ _ _ _ _ h
      · have h := (if_neg hb).symm.trans h
        refine Ev.run (pc' := 297) (ls' := [some (.ref 24), some (.int x1), o2, some (.int x3), some (.int x4), o5, some (.int x6), some (.long x7), none, o9, some (.int x10), some (.int x11), some (.int (r264 ((zi 62) - x10) (x11 - x4) s)), o13, o14, o15, o16, o17, o18]) (st' := [.long x7]) (h' := mk s) 2 rfl ?_
        exact k215_297 x1 x4 x6 x7 (r264 ((zi 62) - x10) (x11 - x4) s) x7 s _ _ _ _ _ _ _ _ _ _ _ _ _ h
    · have h := (if_neg hb).symm.trans h
      refine Ev.run (pc' := 275) (ls' := [some (.ref 24), some (.int x1), o2, some (.int x3), some (.int x4), o5, some (.int x6), some (.long x7), none, o9, some (.int x10), some (.int x11), some (.int (r264 ((zi 62) - x10) (x11 - x4) s)), o13, o14, o15, o16, o17, o18]) (st' := [.long (zl 0)]) (h' := mk s) 1 rfl ?_
      first | (obtain rfl := Option.some.inj h) | (cases h)
      exact Ev.fin rfl rfl
  · have h := (if_neg hb).symm.trans h
    refine Ev.run (pc' := 230) (ls' := [some (.ref 24), some (.int x1), o2, some (.int x3), some (.int (x4 + zi (-1))), o5, some (.int x6), some (.long (zshlL x7 (zi 1))), none, o9, some (.int x10), some (.int x11), o12, o13, o14, o15, o16, o17, o18]) (st' := []) (h' := mk s) 6 rfl ?_
    exact hrec230 x1 x3 (x4 + zi (-1)) x6 (zshlL x7 (zi 1)) x10 x11 s _ _ _ _ _ _ _ _ _ _ _ h
def f215_230  : Nat → Int32 → Int32 → Int32 → Int32 → Int64 → Int32 → Int32 → zS → Option (Int64 × zS)
  | 0, _, _, _, _, _, _, _, _ => none
  | n + 1, x1, x3, x4, x6, x7, x10, x11, s => b215_230 (f215_230 n) x1 x3 x4 x6 x7 x10 x11 s
set_option maxRecDepth 100000 in
theorem k215_230 {X : mX} {D : Nat}   (n : Nat) : ∀ (x1 : Int32) (x3 : Int32) (x4 : Int32) (x6 : Int32) (x7 : Int64) (x10 : Int32) (x11 : Int32) (s : zS) (r : Int64 × zS) (o2 : Option Value) (o5 : Option Value) (o9 : Option Value) (o12 : Option Value) (o13 : Option Value) (o14 : Option Value) (o15 : Option Value) (o16 : Option Value) (o17 : Option Value) (o18 : Option Value), f215_230  n x1 x3 x4 x6 x7 x10 x11 s = some r → Ev X (D + 2) mm215 230 [some (.ref 24), some (.int x1), o2, some (.int x3), some (.int x4), o5, some (.int x6), some (.long x7), none, o9, some (.int x10), some (.int x11), o12, o13, o14, o15, o16, o17, o18] [] (mk s) (encL r) := by
  induction n with
  | zero => intro x1 x3 x4 x6 x7 x10 x11 s r o2 o5 o9 o12 o13 o14 o15 o16 o17 o18  h; cases h
  | succ n ih => intro x1 x3 x4 x6 x7 x10 x11 s r o2 o5 o9 o12 o13 o14 o15 o16 o17 o18  h; exact kb215_230  ih x1 x3 x4 x6 x7 x10 x11 s r o2 o5 o9 o12 o13 o14 o15 o16 o17 o18  h
def f215_213  (x1 : Int32) (x3 : Int32) (x4 : Int32) (x6 : Int32) (x7 : Int64) (x9 : Int32) (y0 : Int32) (s : zS) : Option (Int64 × zS) := if x1 = zi 0 then f215_230 zF x1 x3 x4 x6 x7 y0 (zi (-1074)) s else f215_230 zF x1 x3 x4 x6 x7 y0 (zi (-149)) s
set_option maxRecDepth 100000 in
theorem k215_213 {X : mX} {D : Nat}   (x1 : Int32) (x3 : Int32) (x4 : Int32) (x6 : Int32) (x7 : Int64) (x9 : Int32) (y0 : Int32) (s : zS) (r : Int64 × zS) (o2 : Option Value) (o5 : Option Value) (o10 : Option Value) (o11 : Option Value) (o12 : Option Value) (o13 : Option Value) (o14 : Option Value) (o15 : Option Value) (o16 : Option Value) (o17 : Option Value) (o18 : Option Value)  (h : f215_213  x1 x3 x4 x6 x7 x9 y0 s = some r) : Ev X (D + 2) mm215 213 [some (.ref 24), some (.int x1), o2, some (.int x3), some (.int x4), o5, some (.int x6), some (.long x7), none, some (.int x9), o10, o11, o12, o13, o14, o15, o16, o17, o18] [.int y0] (mk s) (encL r) := by
  unfold f215_213 at h
  refine Ev.run (pc' := 216) (ls' := [some (.ref 24), some (.int x1), o2, some (.int x3), some (.int x4), o5, some (.int x6), some (.long x7), none, some (.int x9), some (.int y0), o11, o12, o13, o14, o15, o16, o17, o18]) (st' := [.int x1]) (h' := mk s) 2 rfl ?_
  refine Ev.if_eq (t := 225) rfl rfl (fun hb => ?_) (fun hb => ?_)
  · have h := (if_pos hb).symm.trans h
    refine Ev.run (pc' := 230) (ls' := [some (.ref 24), some (.int x1), o2, some (.int x3), some (.int x4), o5, some (.int x6), some (.long x7), none, some (.int x9), some (.int y0), some (.int (zi (-1074))), o12, o13, o14, o15, o16, o17, o18]) (st' := []) (h' := mk s) 2 rfl ?_
    exact k215_230 zF x1 x3 x4 x6 x7 y0 (zi (-1074)) s _ _ _ _ _ _ _ _ _ _ _ h
  · have h := (if_neg hb).symm.trans h
    refine Ev.run (pc' := 230) (ls' := [some (.ref 24), some (.int x1), o2, some (.int x3), some (.int x4), o5, some (.int x6), some (.long x7), none, some (.int x9), some (.int y0), some (.int (zi (-149))), o12, o13, o14, o15, o16, o17, o18]) (st' := []) (h' := mk s) 3 rfl ?_
    exact k215_230 zF x1 x3 x4 x6 x7 y0 (zi (-149)) s _ _ _ _ _ _ _ _ _ _ _ h
def f215_170  (x1 : Int32) (x2 : Int32) (x3 : Int32) (x4 : Int32) (x6 : Int32) (x7 : Int64) (s : zS) : Option (Int64 × zS) := zb1 (f209 (x2 + (zi 1)) s) (fun v2 s1 => if (s1.1 24 40) = zi 0 then some (zl 0, s1) else if ¬ x7 = (zl 0) then if x1 = zi 0 then f215_213 x1 x3 (x4 + v2) x6 x7 v2 (zi 53) s1 else f215_213 x1 x3 (x4 + v2) x6 x7 v2 (zi 24) s1 else some (zl 0, s1))
set_option maxRecDepth 100000 in
theorem k215_170 {X : mX} {D : Nat}   (x1 : Int32) (x2 : Int32) (x3 : Int32) (x4 : Int32) (x6 : Int32) (x7 : Int64) (s : zS) (r : Int64 × zS) (o5 : Option Value) (o9 : Option Value) (o10 : Option Value) (o11 : Option Value) (o12 : Option Value) (o13 : Option Value) (o14 : Option Value) (o15 : Option Value) (o16 : Option Value) (o17 : Option Value) (o18 : Option Value)  (h : f215_170  x1 x2 x3 x4 x6 x7 s = some r) : Ev X (D + 2) mm215 170 [some (.ref 24), some (.int x1), some (.int x2), some (.int x3), some (.int x4), o5, some (.int x6), some (.long x7), none, o9, o10, o11, o12, o13, o14, o15, o16, o17, o18] [] (mk s) (encL r) := by
  unfold f215_170 at h
  refine Ev.run (pc' := 174) (ls' := [some (.ref 24), some (.int x1), some (.int x2), some (.int x3), some (.int x4), o5, some (.int x6), some (.long x7), none, o9, o10, o11, o12, o13, o14, o15, o16, o17, o18]) (st' := [.int (x2 + (zi 1)), .ref 24]) (h' := mk s) 4 rfl ?_
  obtain ⟨v2, s1, hq, h⟩ := zb1_some h
  refine Ev.call (M' := mm209) (v := some (.int v2)) (h' := mk s1) rfl rfl rfl (Nat.le_of_ble_eq_true rfl) (k209 hq) ?_
  refine Ev.run (pc' := 183) (ls' := [some (.ref 24), some (.int x1), some (.int x2), some (.int x3), some (.int x4), o5, some (.int x6), some (.long x7), none, some (.int v2), o10, o11, o12, o13, o14, o15, o16, o17, o18]) (st' := [.int (s1.1 24 40)]) (h' := mk s1) 3 rfl ?_
  refine Ev.if_eq (t := 193) rfl rfl (fun hb => ?_) (fun hb => ?_)
  · have h := (if_pos hb).symm.trans h
    refine Ev.run (pc' := 194) (ls' := [some (.ref 24), some (.int x1), some (.int x2), some (.int x3), some (.int x4), o5, some (.int x6), some (.long x7), none, some (.int v2), o10, o11, o12, o13, o14, o15, o16, o17, o18]) (st' := [.long (zl 0)]) (h' := mk s1) 1 rfl ?_
    first | (obtain rfl := Option.some.inj h) | (cases h)
    exact Ev.fin rfl rfl
  · have h := (if_neg hb).symm.trans h
    refine Ev.run (pc' := 190) (ls' := [some (.ref 24), some (.int x1), some (.int x2), some (.int x3), some (.int x4), o5, some (.int x6), some (.long x7), none, some (.int v2), o10, o11, o12, o13, o14, o15, o16, o17, o18]) (st' := [.int (lg_cmp x7 (zl 0))]) (h' := mk s1) 3 rfl ?_
    refine Ev.ifl_ne (t := 195) rfl rfl (fun hb => ?_) (fun hb => ?_)
    · have h := (if_pos hb).symm.trans h
      refine Ev.run (pc' := 203) (ls' := [some (.ref 24), some (.int x1), some (.int x2), some (.int x3), some (.int (x4 + v2)), o5, some (.int x6), some (.long x7), none, some (.int v2), o10, o11, o12, o13, o14, o15, o16, o17, o18]) (st' := [.int x1]) (h' := mk s1) 5 rfl ?_
      refine Ev.if_eq (t := 211) rfl rfl (fun hb => ?_) (fun hb => ?_)
      · have h := (if_pos hb).symm.trans h
        refine Ev.run (pc' := 213) (ls' := [some (.ref 24), some (.int x1), some (.int x2), some (.int x3), some (.int (x4 + v2)), o5, some (.int x6), some (.long x7), none, some (.int v2), o10, o11, o12, o13, o14, o15, o16, o17, o18]) (st' := [.int (zi 53)]) (h' := mk s1) 1 rfl ?_
        exact k215_213 x1 x3 (x4 + v2) x6 x7 v2 (zi 53) s1 _ _ _ _ _ _ _ _ _ _ _ _ h
      · have h := (if_neg hb).symm.trans h
        refine Ev.run (pc' := 213) (ls' := [some (.ref 24), some (.int x1), some (.int x2), some (.int x3), some (.int (x4 + v2)), o5, some (.int x6), some (.long x7), none, some (.int v2), o10, o11, o12, o13, o14, o15, o16, o17, o18]) (st' := [.int (zi 24)]) (h' := mk s1) 2 rfl ?_
        exact k215_213 x1 x3 (x4 + v2) x6 x7 v2 (zi 24) s1 _ _ _ _ _ _ _ _ _ _ _ _ h
    · have h := (if_neg hb).symm.trans h
      refine Ev.run (pc' := 194) (ls' := [some (.ref 24), some (.int x1), some (.int x2), some (.int x3), some (.int x4), o5, some (.int x6), some (.long x7), none, some (.int v2), o10, o11, o12, o13, o14, o15, o16, o17, o18]) (st' := [.long (zl 0)]) (h' := mk s1) 1 rfl ?_
      first | (obtain rfl := Option.some.inj h) | (cases h)
      exact Ev.fin rfl rfl
def f215_139  (x1 : Int32) (x2 : Int32) (x3 : Int32) (x4 : Int32) (x6 : Int32) (x7 : Int64) (s : zS) : Option (Int64 × zS) := if x3 = zi 0 then some (zl 0, setI s 24 40 (zi 0)) else zb1 (f205 x2 s) (fun v2 s1 => if v2 = (zi 112) then f215_170 x1 x2 x3 x4 x6 x7 s1 else zb1 (f205 x2 s1) (fun v4 s3 => if v4 = (zi 80) then f215_170 x1 x2 x3 x4 x6 x7 s3 else some (zl 0, setI s3 24 40 (zi 0))))
set_option maxRecDepth 100000 in
theorem k215_139 {X : mX} {D : Nat}   (x1 : Int32) (x2 : Int32) (x3 : Int32) (x4 : Int32) (x6 : Int32) (x7 : Int64) (s : zS) (r : Int64 × zS) (o5 : Option Value) (o9 : Option Value) (o10 : Option Value) (o11 : Option Value) (o12 : Option Value) (o13 : Option Value) (o14 : Option Value) (o15 : Option Value) (o16 : Option Value) (o17 : Option Value) (o18 : Option Value)  (h : f215_139  x1 x2 x3 x4 x6 x7 s = some r) : Ev X (D + 2) mm215 139 [some (.ref 24), some (.int x1), some (.int x2), some (.int x3), some (.int x4), o5, some (.int x6), some (.long x7), none, o9, o10, o11, o12, o13, o14, o15, o16, o17, o18] [] (mk s) (encL r) := by
  unfold f215_139 at h
  refine Ev.run (pc' := 140) (ls' := [some (.ref 24), some (.int x1), some (.int x2), some (.int x3), some (.int x4), o5, some (.int x6), some (.long x7), none, o9, o10, o11, o12, o13, o14, o15, o16, o17, o18]) (st' := [.int x3]) (h' := mk s) 1 rfl ?_
  refine Ev.if_eq (t := 163) rfl rfl (fun hb => ?_) (fun hb => ?_)
  · have h := (if_pos hb).symm.trans h
    refine Ev.run (pc' := 165) (ls' := [some (.ref 24), some (.int x1), some (.int x2), some (.int x3), some (.int x4), o5, some (.int x6), some (.long x7), none, o9, o10, o11, o12, o13, o14, o15, o16, o17, o18]) (st' := [.int (zi 0), .ref 24]) (h' := mk s) 2 rfl ?_
    refine Ev.step (pc' := 168) rfl (put_12_40 (by decide) rfl) ?_
    refine Ev.run (pc' := 169) (ls' := [some (.ref 24), some (.int x1), some (.int x2), some (.int x3), some (.int x4), o5, some (.int x6), some (.long x7), none, o9, o10, o11, o12, o13, o14, o15, o16, o17, o18]) (st' := [.long (zl 0)]) (h' := mk (setI s 24 40 (zi 0))) 1 rfl ?_
    first | (obtain rfl := Option.some.inj h) | (cases h)
    exact Ev.fin rfl rfl
  · have h := (if_neg hb).symm.trans h
    refine Ev.run (pc' := 145) (ls' := [some (.ref 24), some (.int x1), some (.int x2), some (.int x3), some (.int x4), o5, some (.int x6), some (.long x7), none, o9, o10, o11, o12, o13, o14, o15, o16, o17, o18]) (st' := [.int x2, .ref 24]) (h' := mk s) 2 rfl ?_
    obtain ⟨v2, s1, hq, h⟩ := zb1_some h
    refine Ev.call (M' := mm205) (v := some (.int v2)) (h' := mk s1) rfl rfl rfl (Nat.le_of_ble_eq_true rfl) (k205 hq) ?_
    refine Ev.run (pc' := 150) (ls' := [some (.ref 24), some (.int x1), some (.int x2), some (.int x3), some (.int x4), o5, some (.int x6), some (.long x7), none, o9, o10, o11, o12, o13, o14, o15, o16, o17, o18]) (st' := [.int (zi 112), .int v2]) (h' := mk s1) 1 rfl ?_
    refine Ev.icmp_eq (t := 170) rfl rfl (fun hb => ?_) (fun hb => ?_)
    · have h := (if_pos hb).symm.trans h
      exact k215_170 x1 x2 x3 x4 x6 x7 s1 _ _ _ _ _ _ _ _ _ _ _ _ h
    · have h := (if_neg hb).symm.trans h
      refine Ev.run (pc' := 155) (ls' := [some (.ref 24), some (.int x1), some (.int x2), some (.int x3), some (.int x4), o5, some (.int x6), some (.long x7), none, o9, o10, o11, o12, o13, o14, o15, o16, o17, o18]) (st' := [.int x2, .ref 24]) (h' := mk s1) 2 rfl ?_
      obtain ⟨v4, s3, hq, h⟩ := zb1_some h
      refine Ev.call (M' := mm205) (v := some (.int v4)) (h' := mk s3) rfl rfl rfl (Nat.le_of_ble_eq_true rfl) (k205 hq) ?_
      refine Ev.run (pc' := 160) (ls' := [some (.ref 24), some (.int x1), some (.int x2), some (.int x3), some (.int x4), o5, some (.int x6), some (.long x7), none, o9, o10, o11, o12, o13, o14, o15, o16, o17, o18]) (st' := [.int (zi 80), .int v4]) (h' := mk s3) 1 rfl ?_
      refine Ev.icmp_eq (t := 170) rfl rfl (fun hb => ?_) (fun hb => ?_)
      · have h := (if_pos hb).symm.trans h
        exact k215_170 x1 x2 x3 x4 x6 x7 s3 _ _ _ _ _ _ _ _ _ _ _ _ h
      · have h := (if_neg hb).symm.trans h
        refine Ev.run (pc' := 165) (ls' := [some (.ref 24), some (.int x1), some (.int x2), some (.int x3), some (.int x4), o5, some (.int x6), some (.long x7), none, o9, o10, o11, o12, o13, o14, o15, o16, o17, o18]) (st' := [.int (zi 0), .ref 24]) (h' := mk s3) 2 rfl ?_
        refine Ev.step (pc' := 168) rfl (put_12_40 (by decide) rfl) ?_
        refine Ev.run (pc' := 169) (ls' := [some (.ref 24), some (.int x1), some (.int x2), some (.int x3), some (.int x4), o5, some (.int x6), some (.long x7), none, o9, o10, o11, o12, o13, o14, o15, o16, o17, o18]) (st' := [.long (zl 0)]) (h' := mk (setI s3 24 40 (zi 0))) 1 rfl ?_
        first | (obtain rfl := Option.some.inj h) | (cases h)
        exact Ev.fin rfl rfl
def f215_122 (rec21 : Int32 → Int32 → Int32 → Int32 → Int32 → Int32 → Int64 → zS → Option (Int64 × zS)) (x1 : Int32) (x2 : Int32) (x3 : Int32) (x4 : Int32) (x5 : Int32) (x7 : Int64) (y0 : Int32) (y1 : Int32) (s : zS) : Option (Int64 × zS) := if ¬ x5 = zi 0 then rec21 x1 (x2 + zi 1) x3 x4 x5 (y0 ||| y1) x7 s else rec21 x1 (x2 + zi 1) x3 (x4 + zi 4) x5 (y0 ||| y1) x7 s
set_option maxRecDepth 100000 in
theorem k215_122 {X : mX} {D : Nat} {rec21 : Int32 → Int32 → Int32 → Int32 → Int32 → Int32 → Int64 → zS → Option (Int64 × zS)} (hrec21 : ∀ (x1 : Int32) (x2 : Int32) (x3 : Int32) (x4 : Int32) (x5 : Int32) (x6 : Int32) (x7 : Int64) (s : zS) (r : Int64 × zS) (o9 : Option Value) (o10 : Option Value) (o11 : Option Value) (o12 : Option Value) (o13 : Option Value) (o14 : Option Value) (o15 : Option Value) (o16 : Option Value) (o17 : Option Value) (o18 : Option Value), rec21 x1 x2 x3 x4 x5 x6 x7 s = some r → Ev X (D + 2) mm215 21 [some (.ref 24), some (.int x1), some (.int x2), some (.int x3), some (.int x4), some (.int x5), some (.int x6), some (.long x7), none, o9, o10, o11, o12, o13, o14, o15, o16, o17, o18] [] (mk s) (encL r)) (x1 : Int32) (x2 : Int32) (x3 : Int32) (x4 : Int32) (x5 : Int32) (x7 : Int64) (y0 : Int32) (y1 : Int32) (s : zS) (r : Int64 × zS) (o6 : Option Value) (o9 : Option Value) (o10 : Option Value) (o11 : Option Value) (o12 : Option Value) (o13 : Option Value) (o14 : Option Value) (o15 : Option Value) (o16 : Option Value) (o17 : Option Value) (o18 : Option Value)  (h : f215_122 rec21 x1 x2 x3 x4 x5 x7 y0 y1 s = some r) : Ev X (D + 2) mm215 122 [some (.ref 24), some (.int x1), some (.int x2), some (.int x3), some (.int x4), some (.int x5), o6, some (.long x7), none, o9, o10, o11, o12, o13, o14, o15, o16, o17, o18] [.int y1, .int y0] (mk s) (encL r) := by
  unfold f215_122 at h
  refine Ev.run (pc' := 127) (ls' := [some (.ref 24), some (.int x1), some (.int x2), some (.int x3), some (.int x4), some (.int x5), some (.int (y0 ||| y1)), some (.long x7), none, o9, o10, o11, o12, o13, o14, o15, o16, o17, o18]) (st' := [.int x5]) (h' := mk s) 3 rfl ?_
  refine Ev.if_ne (t := 133) rfl rfl (fun hb => ?_) (fun hb => ?_)
  · have h := (if_pos hb).symm.trans h
    refine Ev.run (pc' := 21) (ls' := [some (.ref 24), some (.int x1), some (.int (x2 + zi 1)), some (.int x3), some (.int x4), some (.int x5), some (.int (y0 ||| y1)), some (.long x7), none, o9, o10, o11, o12, o13, o14, o15, o16, o17, o18]) (st' := []) (h' := mk s) 2 rfl ?_
    exact hrec21 x1 (x2 + zi 1) x3 x4 x5 (y0 ||| y1) x7 s _ _ _ _ _ _ _ _ _ _ _ h
  · have h := (if_neg hb).symm.trans h
    refine Ev.run (pc' := 21) (ls' := [some (.ref 24), some (.int x1), some (.int (x2 + zi 1)), some (.int x3), some (.int (x4 + zi 4)), some (.int x5), some (.int (y0 ||| y1)), some (.long x7), none, o9, o10, o11, o12, o13, o14, o15, o16, o17, o18]) (st' := []) (h' := mk s) 3 rfl ?_
    exact hrec21 x1 (x2 + zi 1) x3 (x4 + zi 4) x5 (y0 ||| y1) x7 s _ _ _ _ _ _ _ _ _ _ _ h
def f215_47 (rec21 : Int32 → Int32 → Int32 → Int32 → Int32 → Int32 → Int64 → zS → Option (Int64 × zS)) (x1 : Int32) (x2 : Int32) (x3 : Int32) (x4 : Int32) (x5 : Int32) (x6 : Int32) (x7 : Int64) (s : zS) : Option (Int64 × zS) := zb1 (f205 x2 s) (fun v2 s1 => if ¬ v2 = (zi 46) then if ¬ (zshrL x7 (zi 56)) = (zl 0) then zb1 (f205 x2 s1) (fun v4 s3 => if v4 = (zi 48) then f215_122 rec21 x1 x2 (x3 + zi 1) x4 x5 x7 x6 (zi 0) s3 else f215_122 rec21 x1 x2 (x3 + zi 1) x4 x5 x7 x6 (zi 1) s3) else zb1 (f205 x2 s1) (fun v6 s5 => zb1 (f206 v6 s5) (fun v8 s7 => if x5 = zi 0 then rec21 x1 (x2 + zi 1) (x3 + zi 1) x4 x5 x6 (((zl 16) * x7) + (zI2L v8)) s7 else rec21 x1 (x2 + zi 1) (x3 + zi 1) (x4 + zi (-4)) x5 x6 (((zl 16) * x7) + (zI2L v8)) s7)) else rec21 x1 (x2 + zi 1) x3 x4 (zi 1) x6 x7 s1)
set_option maxRecDepth 100000 in
theorem k215_47 {X : mX} {D : Nat} {rec21 : Int32 → Int32 → Int32 → Int32 → Int32 → Int32 → Int64 → zS → Option (Int64 × zS)} (hrec21 : ∀ (x1 : Int32) (x2 : Int32) (x3 : Int32) (x4 : Int32) (x5 : Int32) (x6 : Int32) (x7 : Int64) (s : zS) (r : Int64 × zS) (o9 : Option Value) (o10 : Option Value) (o11 : Option Value) (o12 : Option Value) (o13 : Option Value) (o14 : Option Value) (o15 : Option Value) (o16 : Option Value) (o17 : Option Value) (o18 : Option Value), rec21 x1 x2 x3 x4 x5 x6 x7 s = some r → Ev X (D + 2) mm215 21 [some (.ref 24), some (.int x1), some (.int x2), some (.int x3), some (.int x4), some (.int x5), some (.int x6), some (.long x7), none, o9, o10, o11, o12, o13, o14, o15, o16, o17, o18] [] (mk s) (encL r)) (x1 : Int32) (x2 : Int32) (x3 : Int32) (x4 : Int32) (x5 : Int32) (x6 : Int32) (x7 : Int64) (s : zS) (r : Int64 × zS) (o9 : Option Value) (o10 : Option Value) (o11 : Option Value) (o12 : Option Value) (o13 : Option Value) (o14 : Option Value) (o15 : Option Value) (o16 : Option Value) (o17 : Option Value) (o18 : Option Value)  (h : f215_47 rec21 x1 x2 x3 x4 x5 x6 x7 s = some r) : Ev X (D + 2) mm215 47 [some (.ref 24), some (.int x1), some (.int x2), some (.int x3), some (.int x4), some (.int x5), some (.int x6), some (.long x7), none, o9, o10, o11, o12, o13, o14, o15, o16, o17, o18] [] (mk s) (encL r) := by
  unfold f215_47 at h
  refine Ev.run (pc' := 49) (ls' := [some (.ref 24), some (.int x1), some (.int x2), some (.int x3), some (.int x4), some (.int x5), some (.int x6), some (.long x7), none, o9, o10, o11, o12, o13, o14, o15, o16, o17, o18]) (st' := [.int x2, .ref 24]) (h' := mk s) 2 rfl ?_
  obtain ⟨v2, s1, hq, h⟩ := zb1_some h
  refine Ev.call (M' := mm205) (v := some (.int v2)) (h' := mk s1) rfl rfl rfl (Nat.le_of_ble_eq_true rfl) (k205 hq) ?_
  refine Ev.run (pc' := 54) (ls' := [some (.ref 24), some (.int x1), some (.int x2), some (.int x3), some (.int x4), some (.int x5), some (.int x6), some (.long x7), none, o9, o10, o11, o12, o13, o14, o15, o16, o17, o18]) (st' := [.int (zi 46), .int v2]) (h' := mk s1) 1 rfl ?_
  refine Ev.icmp_ne (t := 63) rfl rfl (fun hb => ?_) (fun hb => ?_)
  · have h := (if_pos hb).symm.trans h
    refine Ev.run (pc' := 73) (ls' := [some (.ref 24), some (.int x1), some (.int x2), some (.int (x3 + zi 1)), some (.int x4), some (.int x5), some (.int x6), some (.long x7), none, o9, o10, o11, o12, o13, o14, o15, o16, o17, o18]) (st' := [.int (lg_cmp (zshrL x7 (zi 56)) (zl 0))]) (h' := mk s1) 6 rfl ?_
    refine Ev.ifl_ne (t := 105) rfl rfl (fun hb => ?_) (fun hb => ?_)
    · have h := (if_pos hb).symm.trans h
      refine Ev.run (pc' := 109) (ls' := [some (.ref 24), some (.int x1), some (.int x2), some (.int (x3 + zi 1)), some (.int x4), some (.int x5), some (.int x6), some (.long x7), none, o9, o10, o11, o12, o13, o14, o15, o16, o17, o18]) (st' := [.int x2, .ref 24, .int x6]) (h' := mk s1) 3 rfl ?_
      obtain ⟨v4, s3, hq, h⟩ := zb1_some h
      refine Ev.call (M' := mm205) (v := some (.int v4)) (h' := mk s3) rfl rfl rfl (Nat.le_of_ble_eq_true rfl) (k205 hq) ?_
      refine Ev.run (pc' := 114) (ls' := [some (.ref 24), some (.int x1), some (.int x2), some (.int (x3 + zi 1)), some (.int x4), some (.int x5), some (.int x6), some (.long x7), none, o9, o10, o11, o12, o13, o14, o15, o16, o17, o18]) (st' := [.int (zi 48), .int v4, .int x6]) (h' := mk s3) 1 rfl ?_
      refine Ev.icmp_eq (t := 121) rfl rfl (fun hb => ?_) (fun hb => ?_)
      · have h := (if_pos hb).symm.trans h
        refine Ev.run (pc' := 122) (ls' := [some (.ref 24), some (.int x1), some (.int x2), some (.int (x3 + zi 1)), some (.int x4), some (.int x5), some (.int x6), some (.long x7), none, o9, o10, o11, o12, o13, o14, o15, o16, o17, o18]) (st' := [.int (zi 0), .int x6]) (h' := mk s3) 1 rfl ?_
        exact k215_122 hrec21 x1 x2 (x3 + zi 1) x4 x5 x7 x6 (zi 0) s3 _ _ _ _ _ _ _ _ _ _ _ _ h
      · have h := (if_neg hb).symm.trans h
        refine Ev.run (pc' := 122) (ls' := [some (.ref 24), some (.int x1), some (.int x2), some (.int (x3 + zi 1)), some (.int x4), some (.int x5), some (.int x6), some (.long x7), none, o9, o10, o11, o12, o13, o14, o15, o16, o17, o18]) (st' := [.int (zi 1), .int x6]) (h' := mk s3) 2 rfl ?_
        exact k215_122 hrec21 x1 x2 (x3 + zi 1) x4 x5 x7 x6 (zi 1) s3 _ _ _ _ _ _ _ _ _ _ _ _ h
    · have h := (if_neg hb).symm.trans h
      refine Ev.run (pc' := 84) (ls' := [some (.ref 24), some (.int x1), some (.int x2), some (.int (x3 + zi 1)), some (.int x4), some (.int x5), some (.int x6), some (.long x7), none, o9, o10, o11, o12, o13, o14, o15, o16, o17, o18]) (st' := [.int x2, .ref 24, .long ((zl 16) * x7)]) (h' := mk s1) 5 rfl ?_
      obtain ⟨v6, s5, hq, h⟩ := zb1_some h
      refine Ev.call (M' := mm205) (v := some (.int v6)) (h' := mk s5) rfl rfl rfl (Nat.le_of_ble_eq_true rfl) (k205 hq) ?_
      obtain ⟨v8, s7, hq, h⟩ := zb1_some h
      refine Ev.call (M' := mm206) (v := some (.int v8)) (h' := mk s7) rfl rfl rfl (Nat.le_of_ble_eq_true rfl) (k206 hq) ?_
      refine Ev.run (pc' := 96) (ls' := [some (.ref 24), some (.int x1), some (.int x2), some (.int (x3 + zi 1)), some (.int x4), some (.int x5), some (.int x6), some (.long (((zl 16) * x7) + (zI2L v8))), none, o9, o10, o11, o12, o13, o14, o15, o16, o17, o18]) (st' := [.int x5]) (h' := mk s7) 4 rfl ?_
      refine Ev.if_eq (t := 133) rfl rfl (fun hb => ?_) (fun hb => ?_)
      · have h := (if_pos hb).symm.trans h
        refine Ev.run (pc' := 21) (ls' := [some (.ref 24), some (.int x1), some (.int (x2 + zi 1)), some (.int (x3 + zi 1)), some (.int x4), some (.int x5), some (.int x6), some (.long (((zl 16) * x7) + (zI2L v8))), none, o9, o10, o11, o12, o13, o14, o15, o16, o17, o18]) (st' := []) (h' := mk s7) 2 rfl ?_
        exact hrec21 x1 (x2 + zi 1) (x3 + zi 1) x4 x5 x6 (((zl 16) * x7) + (zI2L v8)) s7 _ _ _ _ _ _ _ _ _ _ _ h
      · have h := (if_neg hb).symm.trans h
        refine Ev.run (pc' := 21) (ls' := [some (.ref 24), some (.int x1), some (.int (x2 + zi 1)), some (.int (x3 + zi 1)), some (.int (x4 + zi (-4))), some (.int x5), some (.int x6), some (.long (((zl 16) * x7) + (zI2L v8))), none, o9, o10, o11, o12, o13, o14, o15, o16, o17, o18]) (st' := []) (h' := mk s7) 4 rfl ?_
        exact hrec21 x1 (x2 + zi 1) (x3 + zi 1) (x4 + zi (-4)) x5 x6 (((zl 16) * x7) + (zI2L v8)) s7 _ _ _ _ _ _ _ _ _ _ _ h
  · have h := (if_neg hb).symm.trans h
    refine Ev.run (pc' := 21) (ls' := [some (.ref 24), some (.int x1), some (.int (x2 + zi 1)), some (.int x3), some (.int x4), some (.int (zi 1)), some (.int x6), some (.long x7), none, o9, o10, o11, o12, o13, o14, o15, o16, o17, o18]) (st' := []) (h' := mk s1) 5 rfl ?_
    exact hrec21 x1 (x2 + zi 1) x3 x4 (zi 1) x6 x7 s1 _ _ _ _ _ _ _ _ _ _ _ h
def b215_21 (rec21 : Int32 → Int32 → Int32 → Int32 → Int32 → Int32 → Int64 → zS → Option (Int64 × zS)) (x1 : Int32) (x2 : Int32) (x3 : Int32) (x4 : Int32) (x5 : Int32) (x6 : Int32) (x7 : Int64) (s : zS) : Option (Int64 × zS) := zb1 (f205 x2 s) (fun v2 s1 => zb1 (f206 v2 s1) (fun v4 s3 => if v4 ≥ zi 0 then f215_47 rec21 x1 x2 x3 x4 x5 x6 x7 s3 else zb1 (f205 x2 s3) (fun v6 s5 => if ¬ v6 = (zi 46) then f215_139 x1 x2 x3 x4 x6 x7 s5 else if ¬ x5 = zi 0 then f215_139 x1 x2 x3 x4 x6 x7 s5 else f215_47 rec21 x1 x2 x3 x4 x5 x6 x7 s5)))
set_option maxRecDepth 100000 in
theorem kb215_21 {X : mX} {D : Nat} {rec21 : Int32 → Int32 → Int32 → Int32 → Int32 → Int32 → Int64 → zS → Option (Int64 × zS)} (hrec21 : ∀ (x1 : Int32) (x2 : Int32) (x3 : Int32) (x4 : Int32) (x5 : Int32) (x6 : Int32) (x7 : Int64) (s : zS) (r : Int64 × zS) (o9 : Option Value) (o10 : Option Value) (o11 : Option Value) (o12 : Option Value) (o13 : Option Value) (o14 : Option Value) (o15 : Option Value) (o16 : Option Value) (o17 : Option Value) (o18 : Option Value), rec21 x1 x2 x3 x4 x5 x6 x7 s = some r → Ev X (D + 2) mm215 21 [some (.ref 24), some (.int x1), some (.int x2), some (.int x3), some (.int x4), some (.int x5), some (.int x6), some (.long x7), none, o9, o10, o11, o12, o13, o14, o15, o16, o17, o18] [] (mk s) (encL r)) (x1 : Int32) (x2 : Int32) (x3 : Int32) (x4 : Int32) (x5 : Int32) (x6 : Int32) (x7 : Int64) (s : zS) (r : Int64 × zS) (o9 : Option Value) (o10 : Option Value) (o11 : Option Value) (o12 : Option Value) (o13 : Option Value) (o14 : Option Value) (o15 : Option Value) (o16 : Option Value) (o17 : Option Value) (o18 : Option Value)  (h : b215_21 rec21 x1 x2 x3 x4 x5 x6 x7 s = some r) : Ev X (D + 2) mm215 21 [some (.ref 24), some (.int x1), some (.int x2), some (.int x3), some (.int x4), some (.int x5), some (.int x6), some (.long x7), none, o9, o10, o11, o12, o13, o14, o15, o16, o17, o18] [] (mk s) (encL r) := by
  unfold b215_21 at h
  refine Ev.run (pc' := 23) (ls' := [some (.ref 24), some (.int x1), some (.int x2), some (.int x3), some (.int x4), some (.int x5), some (.int x6), some (.long x7), none, o9, o10, o11, o12, o13, o14, o15, o16, o17, o18]) (st' := [.int x2, .ref 24]) (h' := mk s) 2 rfl ?_
  obtain ⟨v2, s1, hq, h⟩ := zb1_some h
  refine Ev.call (M' := mm205) (v := some (.int v2)) (h' := mk s1) rfl rfl rfl (Nat.le_of_ble_eq_true rfl) (k205 hq) ?_
  obtain ⟨v4, s3, hq, h⟩ := zb1_some h
  refine Ev.call (M' := mm206) (v := some (.int v4)) (h' := mk s3) rfl rfl rfl (Nat.le_of_ble_eq_true rfl) (k206 hq) ?_
  refine Ev.if_ge (t := 47) rfl rfl (fun hb => ?_) (fun hb => ?_)
  · have h := (if_pos hb).symm.trans h
    exact k215_47 hrec21 x1 x2 x3 x4 x5 x6 x7 s3 _ _ _ _ _ _ _ _ _ _ _ h
  · have h := (if_neg hb).symm.trans h
    refine Ev.run (pc' := 34) (ls' := [some (.ref 24), some (.int x1), some (.int x2), some (.int x3), some (.int x4), some (.int x5), some (.int x6), some (.long x7), none, o9, o10, o11, o12, o13, o14, o15, o16, o17, o18]) (st' := [.int x2, .ref 24]) (h' := mk s3) 2 rfl ?_
    obtain ⟨v6, s5, hq, h⟩ := zb1_some h
    refine Ev.call (M' := mm205) (v := some (.int v6)) (h' := mk s5) rfl rfl rfl (Nat.le_of_ble_eq_true rfl) (k205 hq) ?_
    refine Ev.run (pc' := 39) (ls' := [some (.ref 24), some (.int x1), some (.int x2), some (.int x3), some (.int x4), some (.int x5), some (.int x6), some (.long x7), none, o9, o10, o11, o12, o13, o14, o15, o16, o17, o18]) (st' := [.int (zi 46), .int v6]) (h' := mk s5) 1 rfl ?_
    refine Ev.icmp_ne (t := 139) rfl rfl (fun hb => ?_) (fun hb => ?_)
    · have h := (if_pos hb).symm.trans h
      exact k215_139 x1 x2 x3 x4 x6 x7 s5 _ _ _ _ _ _ _ _ _ _ _ _ h
    · have h := (if_neg hb).symm.trans h
      refine Ev.run (pc' := 44) (ls' := [some (.ref 24), some (.int x1), some (.int x2), some (.int x3), some (.int x4), some (.int x5), some (.int x6), some (.long x7), none, o9, o10, o11, o12, o13, o14, o15, o16, o17, o18]) (st' := [.int x5]) (h' := mk s5) 1 rfl ?_
      refine Ev.if_ne (t := 139) rfl rfl (fun hb => ?_) (fun hb => ?_)
      · have h := (if_pos hb).symm.trans h
        exact k215_139 x1 x2 x3 x4 x6 x7 s5 _ _ _ _ _ _ _ _ _ _ _ _ h
      · have h := (if_neg hb).symm.trans h
        exact k215_47 hrec21 x1 x2 x3 x4 x5 x6 x7 s5 _ _ _ _ _ _ _ _ _ _ _ h
def f215_21  : Nat → Int32 → Int32 → Int32 → Int32 → Int32 → Int32 → Int64 → zS → Option (Int64 × zS)
  | 0, _, _, _, _, _, _, _, _ => none
  | n + 1, x1, x2, x3, x4, x5, x6, x7, s => b215_21 (f215_21 n) x1 x2 x3 x4 x5 x6 x7 s
set_option maxRecDepth 100000 in
theorem k215_21 {X : mX} {D : Nat}   (n : Nat) : ∀ (x1 : Int32) (x2 : Int32) (x3 : Int32) (x4 : Int32) (x5 : Int32) (x6 : Int32) (x7 : Int64) (s : zS) (r : Int64 × zS) (o9 : Option Value) (o10 : Option Value) (o11 : Option Value) (o12 : Option Value) (o13 : Option Value) (o14 : Option Value) (o15 : Option Value) (o16 : Option Value) (o17 : Option Value) (o18 : Option Value), f215_21  n x1 x2 x3 x4 x5 x6 x7 s = some r → Ev X (D + 2) mm215 21 [some (.ref 24), some (.int x1), some (.int x2), some (.int x3), some (.int x4), some (.int x5), some (.int x6), some (.long x7), none, o9, o10, o11, o12, o13, o14, o15, o16, o17, o18] [] (mk s) (encL r) := by
  induction n with
  | zero => intro x1 x2 x3 x4 x5 x6 x7 s r o9 o10 o11 o12 o13 o14 o15 o16 o17 o18  h; cases h
  | succ n ih => intro x1 x2 x3 x4 x5 x6 x7 s r o9 o10 o11 o12 o13 o14 o15 o16 o17 o18  h; exact kb215_21  ih x1 x2 x3 x4 x5 x6 x7 s r o9 o10 o11 o12 o13 o14 o15 o16 o17 o18  h
def f215  (x1 : Int32) (s : zS) : Option (Int64 × zS) := f215_21 zF x1 ((s.1 24 38) + (zi 2)) (zi 0) (zi 0) (zi 0) (zi 0) (zl 0) s
set_option maxRecDepth 100000 in
theorem k215 {X : mX} {D : Nat} {x1 : Int32} {s : zS} {r : Int64 × zS}  (h : f215 x1 s = some r) : Ev X (D + 2) mm215 0 [some (.ref 24), some (.int x1), none, none, none, none, none, none, none, none, none, none, none, none, none, none, none, none, none] [] (mk s) (encL r) := by
  unfold f215 at h
  refine Ev.run (pc' := 21) (ls' := [some (.ref 24), some (.int x1), some (.int ((s.1 24 38) + (zi 2))), some (.int (zi 0)), some (.int (zi 0)), some (.int (zi 0)), some (.int (zi 0)), some (.long (zl 0)), none, none, none, none, none, none, none, none, none, none, none]) (st' := []) (h' := mk s) 15 rfl ?_
  exact k215_21 zF x1 ((s.1 24 38) + (zi 2)) (zi 0) (zi 0) (zi 0) (zi 0) (zl 0) s _ _ _ _ _ _ _ _ _ _ _ h
