/-! decompiled methods, 0; printed by wip/gen/gen8.py -/
/-! 261 java.lang.Math.floorDiv(JJ)J -/
def f261  (x0 : Int64) (x2 : Int64) (s : zS) : Option (Int64 × zS) := if ¬ x2 = zl 0 then if (x0 ^^^ x2) ≥ (zl 0) then some (x0 / x2, s) else if ((x0 / x2) * x2) = x0 then some (x0 / x2, s) else some ((x0 / x2) - (zl 1), s) else none
set_option maxRecDepth 100000 in
theorem k261 {X : mX} {D : Nat} {x0 : Int64} {x2 : Int64} {s : zS} {r : Int64 × zS}  (h : f261 x0 x2 s = some r) : Ev X D mm261 0 [some (.long x0), none, some (.long x2), none, none, none] [] (mk s) (encL r) := by
  unfold f261 at h
  refine Ev.run (pc' := 2) (ls' := [some (.long x0), none, some (.long x2), none, none, none]) (st' := [.long x2, .long x0]) (h' := mk s) 2 rfl ?_
  obtain ⟨hx, h⟩ := zif h
  refine Ev.step (pc' := 3) rfl (ldiv_ok hx) ?_
  refine Ev.run (pc' := 10) (ls' := [some (.long x0), none, some (.long x2), none, some (.long (x0 / x2)), none]) (st' := [.int (lg_cmp (x0 ^^^ x2) (zl 0))]) (h' := mk s) 6 rfl ?_
  refine Ev.ifl_ge (t := 27) rfl rfl (fun hb => ?_) (fun hb => ?_)
  · have h := (if_pos hb).symm.trans h
    refine Ev.run (pc' := 29) (ls' := [some (.long x0), none, some (.long x2), none, some (.long (x0 / x2)), none]) (st' := [.long (x0 / x2)]) (h' := mk s) 1 rfl ?_
    cases h
    exact Ev.fin rfl rfl
  · have h := (if_neg hb).symm.trans h
    refine Ev.run (pc' := 19) (ls' := [some (.long x0), none, some (.long x2), none, some (.long (x0 / x2)), none]) (st' := [.int (lg_cmp ((x0 / x2) * x2) x0)]) (h' := mk s) 5 rfl ?_
    refine Ev.ifl_eq (t := 27) rfl rfl (fun hb => ?_) (fun hb => ?_)
    · have h := (if_pos hb).symm.trans h
      refine Ev.run (pc' := 29) (ls' := [some (.long x0), none, some (.long x2), none, some (.long (x0 / x2)), none]) (st' := [.long (x0 / x2)]) (h' := mk s) 1 rfl ?_
      cases h
      exact Ev.fin rfl rfl
    · have h := (if_neg hb).symm.trans h
      refine Ev.run (pc' := 26) (ls' := [some (.long x0), none, some (.long x2), none, some (.long (x0 / x2)), none]) (st' := [.long ((x0 / x2) - (zl 1))]) (h' := mk s) 3 rfl ?_
      cases h
      exact Ev.fin rfl rfl
/-! 262 java.lang.Math.floorMod(JJ)J -/
def f262  (x0 : Int64) (x2 : Int64) (s : zS) : Option (Int64 × zS) := if ¬ x2 = zl 0 then if (x0 ^^^ x2) ≥ (zl 0) then some (zremL x0 x2, s) else if (zremL x0 x2) = (zl 0) then some (zremL x0 x2, s) else some ((zremL x0 x2) + x2, s) else none
set_option maxRecDepth 100000 in
theorem k262 {X : mX} {D : Nat} {x0 : Int64} {x2 : Int64} {s : zS} {r : Int64 × zS}  (h : f262 x0 x2 s = some r) : Ev X D mm262 0 [some (.long x0), none, some (.long x2), none, none, none] [] (mk s) (encL r) := by
  unfold f262 at h
  refine Ev.run (pc' := 2) (ls' := [some (.long x0), none, some (.long x2), none, none, none]) (st' := [.long x2, .long x0]) (h' := mk s) 2 rfl ?_
  obtain ⟨hx, h⟩ := zif h
  refine Ev.step (pc' := 3) rfl (lrem_ok hx) ?_
  refine Ev.run (pc' := 10) (ls' := [some (.long x0), none, some (.long x2), none, some (.long (zremL x0 x2)), none]) (st' := [.int (lg_cmp (x0 ^^^ x2) (zl 0))]) (h' := mk s) 6 rfl ?_
  refine Ev.ifl_ge (t := 25) rfl rfl (fun hb => ?_) (fun hb => ?_)
  · have h := (if_pos hb).symm.trans h
    refine Ev.run (pc' := 27) (ls' := [some (.long x0), none, some (.long x2), none, some (.long (zremL x0 x2)), none]) (st' := [.long (zremL x0 x2)]) (h' := mk s) 1 rfl ?_
    cases h
    exact Ev.fin rfl rfl
  · have h := (if_neg hb).symm.trans h
    refine Ev.run (pc' := 17) (ls' := [some (.long x0), none, some (.long x2), none, some (.long (zremL x0 x2)), none]) (st' := [.int (lg_cmp (zremL x0 x2) (zl 0))]) (h' := mk s) 3 rfl ?_
    refine Ev.ifl_eq (t := 25) rfl rfl (fun hb => ?_) (fun hb => ?_)
    · have h := (if_pos hb).symm.trans h
      refine Ev.run (pc' := 27) (ls' := [some (.long x0), none, some (.long x2), none, some (.long (zremL x0 x2)), none]) (st' := [.long (zremL x0 x2)]) (h' := mk s) 1 rfl ?_
      cases h
      exact Ev.fin rfl rfl
    · have h := (if_neg hb).symm.trans h
      refine Ev.run (pc' := 24) (ls' := [some (.long x0), none, some (.long x2), none, some (.long (zremL x0 x2)), none]) (st' := [.long ((zremL x0 x2) + x2)]) (h' := mk s) 3 rfl ?_
      cases h
      exact Ev.fin rfl rfl
/-! 190 FModel.isLeap(J)Z -/
def r190 (x0 : Int64) (s : zS) : Int32 := if ¬ (zremL x0 (zl 4)) = (zl 0) then zi 0 else if ¬ (zremL x0 (zl 100)) = (zl 0) then zi 1 else if ¬ (zremL x0 (zl 400)) = (zl 0) then zi 0 else zi 1
set_option maxRecDepth 100000 in
theorem k190 {X : mX} {D : Nat} {x0 : Int64} {s : zS} {v : Int32} (h : r190 x0 s = v) : Ev X D mm190 0 [some (.long x0), none] [] (mk s) (encI (v, s)) := by
  unfold r190 at h
  refine Ev.run (pc' := 7) (ls' := [some (.long x0), none]) (st' := [.int (lg_cmp (zremL x0 (zl 4)) (zl 0))]) (h' := mk s) 5 rfl ?_
  refine Ev.ifl_ne (t := 34) rfl rfl (fun hb => ?_) (fun hb => ?_)
  · have h := (if_pos hb).symm.trans h
    refine Ev.run (pc' := 35) (ls' := [some (.long x0), none]) (st' := [.int (zi 0)]) (h' := mk s) 1 rfl ?_
    subst h
    exact Ev.fin rfl rfl
  · have h := (if_neg hb).symm.trans h
    refine Ev.run (pc' := 17) (ls' := [some (.long x0), none]) (st' := [.int (lg_cmp (zremL x0 (zl 100)) (zl 0))]) (h' := mk s) 5 rfl ?_
    refine Ev.ifl_ne (t := 30) rfl rfl (fun hb => ?_) (fun hb => ?_)
    · have h := (if_pos hb).symm.trans h
      refine Ev.run (pc' := 35) (ls' := [some (.long x0), none]) (st' := [.int (zi 1)]) (h' := mk s) 2 rfl ?_
      subst h
      exact Ev.fin rfl rfl
    · have h := (if_neg hb).symm.trans h
      refine Ev.run (pc' := 27) (ls' := [some (.long x0), none]) (st' := [.int (lg_cmp (zremL x0 (zl 400)) (zl 0))]) (h' := mk s) 5 rfl ?_
      refine Ev.ifl_ne (t := 34) rfl rfl (fun hb => ?_) (fun hb => ?_)
      · have h := (if_pos hb).symm.trans h
        refine Ev.run (pc' := 35) (ls' := [some (.long x0), none]) (st' := [.int (zi 0)]) (h' := mk s) 1 rfl ?_
        subst h
        exact Ev.fin rfl rfl
      · have h := (if_neg hb).symm.trans h
        refine Ev.run (pc' := 35) (ls' := [some (.long x0), none]) (st' := [.int (zi 1)]) (h' := mk s) 2 rfl ?_
        subst h
        exact Ev.fin rfl rfl
/-! 191 FModel.days(JI)I -/
def r191 (x0 : Int64) (x2 : Int32) (s : zS) : Int32 := if ¬ x2 = (zi 1) then if x2 = (zi 3) then zi 30 else if x2 = (zi 5) then zi 30 else if x2 = (zi 8) then zi 30 else if ¬ x2 = (zi 10) then zi 31 else zi 30 else if (r190 x0 s) = zi 0 then zi 28 else zi 29
set_option maxRecDepth 100000 in
theorem k191 {X : mX} {D : Nat} {x0 : Int64} {x2 : Int32} {s : zS} {v : Int32} (h : r191 x0 x2 s = v) : Ev X (D + 1) mm191 0 [some (.long x0), none, some (.int x2)] [] (mk s) (encI (v, s)) := by
  unfold r191 at h
  refine Ev.run (pc' := 2) (ls' := [some (.long x0), none, some (.int x2)]) (st' := [.int (zi 1), .int x2]) (h' := mk s) 2 rfl ?_
  refine Ev.icmp_ne (t := 22) rfl rfl (fun hb => ?_) (fun hb => ?_)
  · have h := (if_pos hb).symm.trans h
    refine Ev.run (pc' := 24) (ls' := [some (.long x0), none, some (.int x2)]) (st' := [.int (zi 3), .int x2]) (h' := mk s) 2 rfl ?_
    refine Ev.icmp_eq (t := 44) rfl rfl (fun hb => ?_) (fun hb => ?_)
    · have h := (if_pos hb).symm.trans h
      refine Ev.run (pc' := 51) (ls' := [some (.long x0), none, some (.int x2)]) (st' := [.int (zi 30)]) (h' := mk s) 2 rfl ?_
      subst h
      exact Ev.fin rfl rfl
    · have h := (if_neg hb).symm.trans h
      refine Ev.run (pc' := 29) (ls' := [some (.long x0), none, some (.int x2)]) (st' := [.int (zi 5), .int x2]) (h' := mk s) 2 rfl ?_
      refine Ev.icmp_eq (t := 44) rfl rfl (fun hb => ?_) (fun hb => ?_)
      · have h := (if_pos hb).symm.trans h
        refine Ev.run (pc' := 51) (ls' := [some (.long x0), none, some (.int x2)]) (st' := [.int (zi 30)]) (h' := mk s) 2 rfl ?_
        subst h
        exact Ev.fin rfl rfl
      · have h := (if_neg hb).symm.trans h
        refine Ev.run (pc' := 35) (ls' := [some (.long x0), none, some (.int x2)]) (st' := [.int (zi 8), .int x2]) (h' := mk s) 2 rfl ?_
        refine Ev.icmp_eq (t := 44) rfl rfl (fun hb => ?_) (fun hb => ?_)
        · have h := (if_pos hb).symm.trans h
          refine Ev.run (pc' := 51) (ls' := [some (.long x0), none, some (.int x2)]) (st' := [.int (zi 30)]) (h' := mk s) 2 rfl ?_
          subst h
          exact Ev.fin rfl rfl
        · have h := (if_neg hb).symm.trans h
          refine Ev.run (pc' := 41) (ls' := [some (.long x0), none, some (.int x2)]) (st' := [.int (zi 10), .int x2]) (h' := mk s) 2 rfl ?_
          refine Ev.icmp_ne (t := 49) rfl rfl (fun hb => ?_) (fun hb => ?_)
          · have h := (if_pos hb).symm.trans h
            refine Ev.run (pc' := 51) (ls' := [some (.long x0), none, some (.int x2)]) (st' := [.int (zi 31)]) (h' := mk s) 1 rfl ?_
            subst h
            exact Ev.fin rfl rfl
          · have h := (if_neg hb).symm.trans h
            refine Ev.run (pc' := 51) (ls' := [some (.long x0), none, some (.int x2)]) (st' := [.int (zi 30)]) (h' := mk s) 2 rfl ?_
            subst h
            exact Ev.fin rfl rfl
  · have h := (if_neg hb).symm.trans h
    refine Ev.run (pc' := 6) (ls' := [some (.long x0), none, some (.int x2)]) (st' := [.long x0]) (h' := mk s) 1 rfl ?_
    refine Ev.call (M' := mm190) (v := some (.int (r190 x0 s))) (h' := mk s) rfl rfl rfl (Nat.le_of_ble_eq_true rfl) (k190 (x0 := x0) (s := s) (v := r190 x0 s)  rfl) ?_
    refine Ev.if_eq (t := 17) rfl rfl (fun hb => ?_) (fun hb => ?_)
    · have h := (if_pos hb).symm.trans h
      refine Ev.run (pc' := 51) (ls' := [some (.long x0), none, some (.int x2)]) (st' := [.int (zi 28)]) (h' := mk s) 2 rfl ?_
      subst h
      exact Ev.fin rfl rfl
    · have h := (if_neg hb).symm.trans h
      refine Ev.run (pc' := 51) (ls' := [some (.long x0), none, some (.int x2)]) (st' := [.int (zi 29)]) (h' := mk s) 2 rfl ?_
      subst h
      exact Ev.fin rfl rfl
/-! 175 FModel.put(I)V -/
def f175  (x1 : Int32) (s : zS) : Option (zS) := if mIx (s.1 24 30) 12000 then some (setI (setI (setB s 39 ((s.1 24 30).toNatClampNeg) (zI2B (zI2B x1))) 24 30 ((s.1 24 30) + (zi 1))) 24 31 ((s.1 24 31) + (zi 1))) else none
set_option maxRecDepth 100000 in
theorem k175 {X : mX} {D : Nat} {x1 : Int32} {s : zS} {r : zS}  (h : f175 x1 s = some r) : Ev X D mm175 0 [some (.ref 24), some (.int x1)] [] (mk s) (encV r) := by
  unfold f175 at h
  refine Ev.run (pc' := 10) (ls' := [some (.ref 24), some (.int x1)]) (st' := [.int (zI2B x1), .int (s.1 24 30), .ref 39]) (h' := mk s) 6 rfl ?_
  obtain ⟨hx, h⟩ := zif h
  refine Ev.step (pc' := 11) rfl (ast_39 hx) ?_
  refine Ev.run (pc' := 18) (ls' := [some (.ref 24), some (.int x1)]) (st' := [.int ((s.1 24 30) + (zi 1)), .ref 24]) (h' := mk (setB s 39 ((s.1 24 30).toNatClampNeg) (zI2B (zI2B x1)))) 5 rfl ?_
  refine Ev.step (pc' := 21) rfl (put_12_30 rfl) ?_
  refine Ev.run (pc' := 28) (ls' := [some (.ref 24), some (.int x1)]) (st' := [.int ((s.1 24 31) + (zi 1)), .ref 24]) (h' := mk (setI (setB s 39 ((s.1 24 30).toNatClampNeg) (zI2B (zI2B x1))) 24 30 ((s.1 24 30) + (zi 1)))) 5 rfl ?_
  refine Ev.step (pc' := 31) rfl (put_12_31 rfl) ?_
  cases h
  exact Ev.fin rfl rfl
/-! 177 FModel.sayNumber(JI)V -/
def b177_49 (rec49 : Int64 → Int32 → Int64 → zS → Option (zS)) (x1 : Int64) (x3 : Int32) (x4 : Int64) (s : zS) : Option (zS) := if x4 ≤ (zl 0) then some s else if ¬ x4 = zl 0 then zb0 (f175 (zL2I ((zl 48) + (zremL (x1 / x4) (zl 10)))) s) (fun s1 => rec49 x1 x3 (x4 / (zl 10)) s1) else none
set_option maxRecDepth 100000 in
theorem kb177_49 {X : mX} {D : Nat} {rec49 : Int64 → Int32 → Int64 → zS → Option (zS)} (hrec49 : ∀ (x1 : Int64) (x3 : Int32) (x4 : Int64) (s : zS) (r : zS) (o6 : Option Value), rec49 x1 x3 x4 s = some r → Ev X (D + 1) mm177 49 [some (.ref 24), some (.long x1), none, some (.int x3), some (.long x4), none, o6] [] (mk s) (encV r)) (x1 : Int64) (x3 : Int32) (x4 : Int64) (s : zS) (r : zS) (o6 : Option Value)  (h : b177_49 rec49 x1 x3 x4 s = some r) : Ev X (D + 1) mm177 49 [some (.ref 24), some (.long x1), none, some (.int x3), some (.long x4), none, o6] [] (mk s) (encV r) := by
  unfold b177_49 at h
  refine Ev.run (pc' := 53) (ls' := [some (.ref 24), some (.long x1), none, some (.int x3), some (.long x4), none, o6]) (st' := [.int (lg_cmp x4 (zl 0))]) (h' := mk s) 3 rfl ?_
  refine Ev.ifl_le (t := 84) rfl rfl (fun hb => ?_) (fun hb => ?_)
  · have h := (if_pos hb).symm.trans h
    cases h
    exact Ev.fin rfl rfl
  · have h := (if_neg hb).symm.trans h
    refine Ev.run (pc' := 63) (ls' := [some (.ref 24), some (.long x1), none, some (.int x3), some (.long x4), none, o6]) (st' := [.long x4, .long x1, .long (zl 48), .ref 24]) (h' := mk s) 4 rfl ?_
    obtain ⟨hx, h⟩ := zif h
    refine Ev.step (pc' := 64) rfl (ldiv_ok hx) ?_
    refine Ev.run (pc' := 70) (ls' := [some (.ref 24), some (.long x1), none, some (.int x3), some (.long x4), none, o6]) (st' := [.int (zL2I ((zl 48) + (zremL (x1 / x4) (zl 10)))), .ref 24]) (h' := mk s) 4 rfl ?_
    obtain ⟨s1, hq, h⟩ := zb0_some h
    refine Ev.call (M' := mm175) (v := none) (h' := mk s1) rfl rfl rfl (Nat.le_of_ble_eq_true rfl) (k175 hq) ?_
    refine Ev.run (pc' := 49) (ls' := [some (.ref 24), some (.long x1), none, some (.int x3), some (.long (x4 / (zl 10))), none, o6]) (st' := []) (h' := mk s1) 5 rfl ?_
    exact hrec49 x1 x3 (x4 / (zl 10)) s1 _ _ h
def f177_49  : Nat → Int64 → Int32 → Int64 → zS → Option (zS)
  | 0, _, _, _, _ => none
  | n + 1, x1, x3, x4, s => b177_49 (f177_49 n) x1 x3 x4 s
set_option maxRecDepth 100000 in
theorem k177_49 {X : mX} {D : Nat}   (n : Nat) : ∀ (x1 : Int64) (x3 : Int32) (x4 : Int64) (s : zS) (r : zS) (o6 : Option Value), f177_49  n x1 x3 x4 s = some r → Ev X (D + 1) mm177 49 [some (.ref 24), some (.long x1), none, some (.int x3), some (.long x4), none, o6] [] (mk s) (encV r) := by
  induction n with
  | zero => intro x1 x3 x4 s r o6  h; cases h
  | succ n ih => intro x1 x3 x4 s r o6  h; exact kb177_49  ih x1 x3 x4 s r o6  h
def b177_31 (rec31 : Int64 → Int32 → Int64 → Int32 → zS → Option (zS)) (x1 : Int64) (x3 : Int32) (x4 : Int64) (x6 : Int32) (s : zS) : Option (zS) := if x6 ≥ x3 then f177_49 zF x1 x3 x4 s else zb0 (f175 (zi 48) s) (fun s1 => rec31 x1 x3 x4 (x6 + zi 1) s1)
set_option maxRecDepth 100000 in
theorem kb177_31 {X : mX} {D : Nat} {rec31 : Int64 → Int32 → Int64 → Int32 → zS → Option (zS)} (hrec31 : ∀ (x1 : Int64) (x3 : Int32) (x4 : Int64) (x6 : Int32) (s : zS) (r : zS) , rec31 x1 x3 x4 x6 s = some r → Ev X (D + 1) mm177 31 [some (.ref 24), some (.long x1), none, some (.int x3), some (.long x4), none, some (.int x6)] [] (mk s) (encV r)) (x1 : Int64) (x3 : Int32) (x4 : Int64) (x6 : Int32) (s : zS) (r : zS)   (h : b177_31 rec31 x1 x3 x4 x6 s = some r) : Ev X (D + 1) mm177 31 [some (.ref 24), some (.long x1), none, some (.int x3), some (.long x4), none, some (.int x6)] [] (mk s) (encV r) := by
  unfold b177_31 at h
  refine Ev.run (pc' := 34) (ls' := [some (.ref 24), some (.long x1), none, some (.int x3), some (.long x4), none, some (.int x6)]) (st' := [.int x3, .int x6]) (h' := mk s) 2 rfl ?_
  refine Ev.icmp_ge (t := 49) rfl rfl (fun hb => ?_) (fun hb => ?_)
  · have h := (if_pos hb).symm.trans h
    exact k177_49 zF x1 x3 x4 s _ _ h
  · have h := (if_neg hb).symm.trans h
    refine Ev.run (pc' := 40) (ls' := [some (.ref 24), some (.long x1), none, some (.int x3), some (.long x4), none, some (.int x6)]) (st' := [.int (zi 48), .ref 24]) (h' := mk s) 2 rfl ?_
    obtain ⟨s1, hq, h⟩ := zb0_some h
    refine Ev.call (M' := mm175) (v := none) (h' := mk s1) rfl rfl rfl (Nat.le_of_ble_eq_true rfl) (k175 hq) ?_
    refine Ev.run (pc' := 31) (ls' := [some (.ref 24), some (.long x1), none, some (.int x3), some (.long x4), none, some (.int (x6 + zi 1))]) (st' := []) (h' := mk s1) 2 rfl ?_
    exact hrec31 x1 x3 x4 (x6 + zi 1) s1 _ h
def f177_31  : Nat → Int64 → Int32 → Int64 → Int32 → zS → Option (zS)
  | 0, _, _, _, _, _ => none
  | n + 1, x1, x3, x4, x6, s => b177_31 (f177_31 n) x1 x3 x4 x6 s
set_option maxRecDepth 100000 in
theorem k177_31 {X : mX} {D : Nat}   (n : Nat) : ∀ (x1 : Int64) (x3 : Int32) (x4 : Int64) (x6 : Int32) (s : zS) (r : zS) , f177_31  n x1 x3 x4 x6 s = some r → Ev X (D + 1) mm177 31 [some (.ref 24), some (.long x1), none, some (.int x3), some (.long x4), none, some (.int x6)] [] (mk s) (encV r) := by
  induction n with
  | zero => intro x1 x3 x4 x6 s r   h; cases h
  | succ n ih => intro x1 x3 x4 x6 s r   h; exact kb177_31  ih x1 x3 x4 x6 s r   h
def b177_6 (rec6 : Int64 → Int32 → Int64 → Int32 → zS → Option (zS)) (x1 : Int64) (x3 : Int32) (x4 : Int64) (x6 : Int32) (s : zS) : Option (zS) := if ¬ x4 = zl 0 then if (x1 / x4) ≤ (zl 9) then f177_31 zF x1 x3 x4 x6 s else rec6 x1 x3 (x4 * (zl 10)) (x6 + zi 1) s else none
set_option maxRecDepth 100000 in
theorem kb177_6 {X : mX} {D : Nat} {rec6 : Int64 → Int32 → Int64 → Int32 → zS → Option (zS)} (hrec6 : ∀ (x1 : Int64) (x3 : Int32) (x4 : Int64) (x6 : Int32) (s : zS) (r : zS) , rec6 x1 x3 x4 x6 s = some r → Ev X (D + 1) mm177 6 [some (.ref 24), some (.long x1), none, some (.int x3), some (.long x4), none, some (.int x6)] [] (mk s) (encV r)) (x1 : Int64) (x3 : Int32) (x4 : Int64) (x6 : Int32) (s : zS) (r : zS)   (h : b177_6 rec6 x1 x3 x4 x6 s = some r) : Ev X (D + 1) mm177 6 [some (.ref 24), some (.long x1), none, some (.int x3), some (.long x4), none, some (.int x6)] [] (mk s) (encV r) := by
  unfold b177_6 at h
  refine Ev.run (pc' := 9) (ls' := [some (.ref 24), some (.long x1), none, some (.int x3), some (.long x4), none, some (.int x6)]) (st' := [.long x4, .long x1]) (h' := mk s) 2 rfl ?_
  obtain ⟨hx, h⟩ := zif h
  refine Ev.step (pc' := 10) rfl (ldiv_ok hx) ?_
  refine Ev.run (pc' := 14) (ls' := [some (.ref 24), some (.long x1), none, some (.int x3), some (.long x4), none, some (.int x6)]) (st' := [.int (lg_cmp (x1 / x4) (zl 9))]) (h' := mk s) 2 rfl ?_
  refine Ev.ifl_le (t := 31) rfl rfl (fun hb => ?_) (fun hb => ?_)
  · have h := (if_pos hb).symm.trans h
    exact k177_31 zF x1 x3 x4 x6 s _ h
  · have h := (if_neg hb).symm.trans h
    refine Ev.run (pc' := 6) (ls' := [some (.ref 24), some (.long x1), none, some (.int x3), some (.long (x4 * (zl 10))), none, some (.int (x6 + zi 1))]) (st' := []) (h' := mk s) 6 rfl ?_
    exact hrec6 x1 x3 (x4 * (zl 10)) (x6 + zi 1) s _ h
def f177_6  : Nat → Int64 → Int32 → Int64 → Int32 → zS → Option (zS)
  | 0, _, _, _, _, _ => none
  | n + 1, x1, x3, x4, x6, s => b177_6 (f177_6 n) x1 x3 x4 x6 s
set_option maxRecDepth 100000 in
theorem k177_6 {X : mX} {D : Nat}   (n : Nat) : ∀ (x1 : Int64) (x3 : Int32) (x4 : Int64) (x6 : Int32) (s : zS) (r : zS) , f177_6  n x1 x3 x4 x6 s = some r → Ev X (D + 1) mm177 6 [some (.ref 24), some (.long x1), none, some (.int x3), some (.long x4), none, some (.int x6)] [] (mk s) (encV r) := by
  induction n with
  | zero => intro x1 x3 x4 x6 s r   h; cases h
  | succ n ih => intro x1 x3 x4 x6 s r   h; exact kb177_6  ih x1 x3 x4 x6 s r   h
def f177  (x1 : Int64) (x3 : Int32) (s : zS) : Option (zS) := f177_6 zF x1 x3 (zl 1) (zi 1) s
set_option maxRecDepth 100000 in
theorem k177 {X : mX} {D : Nat} {x1 : Int64} {x3 : Int32} {s : zS} {r : zS}  (h : f177 x1 x3 s = some r) : Ev X (D + 1) mm177 0 [some (.ref 24), some (.long x1), none, some (.int x3), none, none, none] [] (mk s) (encV r) := by
  unfold f177 at h
  refine Ev.run (pc' := 6) (ls' := [some (.ref 24), some (.long x1), none, some (.int x3), some (.long (zl 1)), none, some (.int (zi 1))]) (st' := []) (h' := mk s) 4 rfl ?_
  exact k177_6 zF x1 x3 (zl 1) (zi 1) s _ h
/-! 189 FModel.name(Ljava.lang.String;IZ)V -/
def f189_15 (rec3 : Nat → Int32 → Int32 → Int32 → zS → Option (zS)) (c1 : Nat) (x2 : Int32) (x3 : Int32) (x4 : Int32) (y0 : Int32) (y1 : Int32) (s : zS) : Option (zS) := if y0 ≥ y1 then some s else if mIx (((zi 10) * x2) + x4) (zlenN c1) then if ¬ (zchr c1 (((zi 10) * x2) + x4)) = (zi 32) then zb0 (f175 (zchr c1 (((zi 10) * x2) + x4)) s) (fun s1 => rec3 c1 x2 x3 (x4 + zi 1) s1) else some s else none
set_option maxRecDepth 100000 in
theorem k189_15 {X : mX} {D : Nat} {rec3 : Nat → Int32 → Int32 → Int32 → zS → Option (zS)} (hrec3 : ∀ (c1 : Nat) (x2 : Int32) (x3 : Int32) (x4 : Int32) (s : zS) (r : zS) (o5 : Option Value), c1 < 78 → rec3 c1 x2 x3 x4 s = some r → Ev X (D + 5) mm189 3 [some (.ref 24), some (.ref (mRO + 3 + 2 * c1)), some (.int x2), some (.int x3), some (.int x4), o5] [] (mk s) (encV r)) (c1 : Nat) (x2 : Int32) (x3 : Int32) (x4 : Int32) (y0 : Int32) (y1 : Int32) (s : zS) (r : zS) (o5 : Option Value) (hc1 : c1 < 78) (h : f189_15 rec3 c1 x2 x3 x4 y0 y1 s = some r) : Ev X (D + 5) mm189 15 [some (.ref 24), some (.ref (mRO + 3 + 2 * c1)), some (.int x2), some (.int x3), some (.int x4), o5] [.int y1, .int y0] (mk s) (encV r) := by
  unfold f189_15 at h
  refine Ev.icmp_ge (t := 51) rfl rfl (fun hb => ?_) (fun hb => ?_)
  · have h := (if_pos hb).symm.trans h
    cases h
    exact Ev.fin rfl rfl
  · have h := (if_neg hb).symm.trans h
    refine Ev.run (pc' := 26) (ls' := [some (.ref 24), some (.ref (mRO + 3 + 2 * c1)), some (.int x2), some (.int x3), some (.int x4), o5]) (st' := [.int (((zi 10) * x2) + x4), .ref (mRO + 3 + 2 * c1)]) (h' := mk s) 6 rfl ?_
    obtain ⟨hx, h⟩ := zif h
    refine Ev.call (M' := mm242) (as := [.ref (mRO + 3 + 2 * c1), .int (((zi 10) * x2) + x4)]) (rest := []) (v := some (.int (zchr c1 (((zi 10) * x2) + x4)))) (h' := mk s) rfl (litcall rfl rfl hc1 rfl rfl) rfl (Nat.le_of_ble_eq_true rfl) (kcharat hc1 hx) ?_
    refine Ev.run (pc' := 35) (ls' := [some (.ref 24), some (.ref (mRO + 3 + 2 * c1)), some (.int x2), some (.int x3), some (.int x4), some (.int (zchr c1 (((zi 10) * x2) + x4)))]) (st' := [.int (zi 32), .int (zchr c1 (((zi 10) * x2) + x4))]) (h' := mk s) 3 rfl ?_
    refine Ev.icmp_ne (t := 39) rfl rfl (fun hb => ?_) (fun hb => ?_)
    · have h := (if_pos hb).symm.trans h
      refine Ev.run (pc' := 42) (ls' := [some (.ref 24), some (.ref (mRO + 3 + 2 * c1)), some (.int x2), some (.int x3), some (.int x4), some (.int (zchr c1 (((zi 10) * x2) + x4)))]) (st' := [.int (zchr c1 (((zi 10) * x2) + x4)), .ref 24]) (h' := mk s) 2 rfl ?_
      obtain ⟨s1, hq, h⟩ := zb0_some h
      refine Ev.call (M' := mm175) (v := none) (h' := mk s1) rfl rfl rfl (Nat.le_of_ble_eq_true rfl) (k175 hq) ?_
      refine Ev.run (pc' := 3) (ls' := [some (.ref 24), some (.ref (mRO + 3 + 2 * c1)), some (.int x2), some (.int x3), some (.int (x4 + zi 1)), some (.int (zchr c1 (((zi 10) * x2) + x4)))]) (st' := []) (h' := mk s1) 2 rfl ?_
      exact hrec3 c1 x2 x3 (x4 + zi 1) s1 _ _ hc1 h
    · have h := (if_neg hb).symm.trans h
      cases h
      exact Ev.fin rfl rfl
def b189_3 (rec3 : Nat → Int32 → Int32 → Int32 → zS → Option (zS)) (c1 : Nat) (x2 : Int32) (x3 : Int32) (x4 : Int32) (s : zS) : Option (zS) := if x3 = zi 0 then f189_15 rec3 c1 x2 x3 x4 x4 (zi 3) s else f189_15 rec3 c1 x2 x3 x4 x4 (zi 10) s
set_option maxRecDepth 100000 in
theorem kb189_3 {X : mX} {D : Nat} {rec3 : Nat → Int32 → Int32 → Int32 → zS → Option (zS)} (hrec3 : ∀ (c1 : Nat) (x2 : Int32) (x3 : Int32) (x4 : Int32) (s : zS) (r : zS) (o5 : Option Value), c1 < 78 → rec3 c1 x2 x3 x4 s = some r → Ev X (D + 5) mm189 3 [some (.ref 24), some (.ref (mRO + 3 + 2 * c1)), some (.int x2), some (.int x3), some (.int x4), o5] [] (mk s) (encV r)) (c1 : Nat) (x2 : Int32) (x3 : Int32) (x4 : Int32) (s : zS) (r : zS) (o5 : Option Value) (hc1 : c1 < 78) (h : b189_3 rec3 c1 x2 x3 x4 s = some r) : Ev X (D + 5) mm189 3 [some (.ref 24), some (.ref (mRO + 3 + 2 * c1)), some (.int x2), some (.int x3), some (.int x4), o5] [] (mk s) (encV r) := by
  unfold b189_3 at h
  refine Ev.run (pc' := 6) (ls' := [some (.ref 24), some (.ref (mRO + 3 + 2 * c1)), some (.int x2), some (.int x3), some (.int x4), o5]) (st' := [.int x3, .int x4]) (h' := mk s) 2 rfl ?_
  refine Ev.if_eq (t := 14) rfl rfl (fun hb => ?_) (fun hb => ?_)
  · have h := (if_pos hb).symm.trans h
    refine Ev.run (pc' := 15) (ls' := [some (.ref 24), some (.ref (mRO + 3 + 2 * c1)), some (.int x2), some (.int x3), some (.int x4), o5]) (st' := [.int (zi 3), .int x4]) (h' := mk s) 1 rfl ?_
    exact k189_15 hrec3 c1 x2 x3 x4 x4 (zi 3) s _ _ hc1 h
  · have h := (if_neg hb).symm.trans h
    refine Ev.run (pc' := 15) (ls' := [some (.ref 24), some (.ref (mRO + 3 + 2 * c1)), some (.int x2), some (.int x3), some (.int x4), o5]) (st' := [.int (zi 10), .int x4]) (h' := mk s) 2 rfl ?_
    exact k189_15 hrec3 c1 x2 x3 x4 x4 (zi 10) s _ _ hc1 h
def f189_3  : Nat → Nat → Int32 → Int32 → Int32 → zS → Option (zS)
  | 0, _, _, _, _, _ => none
  | n + 1, c1, x2, x3, x4, s => b189_3 (f189_3 n) c1 x2 x3 x4 s
set_option maxRecDepth 100000 in
theorem k189_3 {X : mX} {D : Nat}   (n : Nat) : ∀ (c1 : Nat) (x2 : Int32) (x3 : Int32) (x4 : Int32) (s : zS) (r : zS) (o5 : Option Value), c1 < 78 → f189_3  n c1 x2 x3 x4 s = some r → Ev X (D + 5) mm189 3 [some (.ref 24), some (.ref (mRO + 3 + 2 * c1)), some (.int x2), some (.int x3), some (.int x4), o5] [] (mk s) (encV r) := by
  induction n with
  | zero => intro c1 x2 x3 x4 s r o5 hc1 h; cases h
  | succ n ih => intro c1 x2 x3 x4 s r o5 hc1 h; exact kb189_3  ih c1 x2 x3 x4 s r o5 hc1 h
def f189  (c1 : Nat) (x2 : Int32) (x3 : Int32) (s : zS) : Option (zS) := f189_3 zF c1 x2 x3 (zi 0) s
set_option maxRecDepth 100000 in
theorem k189 {X : mX} {D : Nat} {c1 : Nat} {x2 : Int32} {x3 : Int32} {s : zS} {r : zS} (hc1 : c1 < 78) (h : f189 c1 x2 x3 s = some r) : Ev X (D + 5) mm189 0 [some (.ref 24), some (.ref (mRO + 3 + 2 * c1)), some (.int x2), some (.int x3), none, none] [] (mk s) (encV r) := by
  unfold f189 at h
  refine Ev.run (pc' := 3) (ls' := [some (.ref 24), some (.ref (mRO + 3 + 2 * c1)), some (.int x2), some (.int x3), some (.int (zi 0)), none]) (st' := []) (h' := mk s) 2 rfl ?_
  exact k189_3 zF c1 x2 x3 (zi 0) s _ _ hc1 h
/-! 176 FModel.say(Ljava.lang.String;)V -/
def b176_2 (rec2 : Nat → Int32 → zS → Option (zS)) (c1 : Nat) (x2 : Int32) (s : zS) : Option (zS) := if x2 ≥ (zlen c1) then some s else if mIx x2 (zlenN c1) then zb0 (f175 (zchr c1 x2) s) (fun s1 => rec2 c1 (x2 + zi 1) s1) else none
set_option maxRecDepth 100000 in
theorem kb176_2 {X : mX} {D : Nat} {rec2 : Nat → Int32 → zS → Option (zS)} (hrec2 : ∀ (c1 : Nat) (x2 : Int32) (s : zS) (r : zS) , c1 < 78 → rec2 c1 x2 s = some r → Ev X (D + 5) mm176 2 [some (.ref 24), some (.ref (mRO + 3 + 2 * c1)), some (.int x2)] [] (mk s) (encV r)) (c1 : Nat) (x2 : Int32) (s : zS) (r : zS)  (hc1 : c1 < 78) (h : b176_2 rec2 c1 x2 s = some r) : Ev X (D + 5) mm176 2 [some (.ref 24), some (.ref (mRO + 3 + 2 * c1)), some (.int x2)] [] (mk s) (encV r) := by
  unfold b176_2 at h
  refine Ev.run (pc' := 4) (ls' := [some (.ref 24), some (.ref (mRO + 3 + 2 * c1)), some (.int x2)]) (st' := [.ref (mRO + 3 + 2 * c1), .int x2]) (h' := mk s) 2 rfl ?_
  refine Ev.call (M' := mm241) (as := [.ref (mRO + 3 + 2 * c1)]) (rest := [.int x2]) (v := some (.int (zlen c1))) (h' := mk s) rfl (litcall rfl rfl hc1 rfl rfl) rfl (Nat.le_of_ble_eq_true rfl) (kstrlen hc1) ?_
  refine Ev.icmp_ge (t := 25) rfl rfl (fun hb => ?_) (fun hb => ?_)
  · have h := (if_pos hb).symm.trans h
    cases h
    exact Ev.fin rfl rfl
  · have h := (if_neg hb).symm.trans h
    refine Ev.run (pc' := 13) (ls' := [some (.ref 24), some (.ref (mRO + 3 + 2 * c1)), some (.int x2)]) (st' := [.int x2, .ref (mRO + 3 + 2 * c1), .ref 24]) (h' := mk s) 3 rfl ?_
    obtain ⟨hx, h⟩ := zif h
    refine Ev.call (M' := mm242) (as := [.ref (mRO + 3 + 2 * c1), .int x2]) (rest := [.ref 24]) (v := some (.int (zchr c1 x2))) (h' := mk s) rfl (litcall rfl rfl hc1 rfl rfl) rfl (Nat.le_of_ble_eq_true rfl) (kcharat hc1 hx) ?_
    obtain ⟨s1, hq, h⟩ := zb0_some h
    refine Ev.call (M' := mm175) (v := none) (h' := mk s1) rfl rfl rfl (Nat.le_of_ble_eq_true rfl) (k175 hq) ?_
    refine Ev.run (pc' := 2) (ls' := [some (.ref 24), some (.ref (mRO + 3 + 2 * c1)), some (.int (x2 + zi 1))]) (st' := []) (h' := mk s1) 2 rfl ?_
    exact hrec2 c1 (x2 + zi 1) s1 _ hc1 h
def f176_2  : Nat → Nat → Int32 → zS → Option (zS)
  | 0, _, _, _ => none
  | n + 1, c1, x2, s => b176_2 (f176_2 n) c1 x2 s
set_option maxRecDepth 100000 in
theorem k176_2 {X : mX} {D : Nat}   (n : Nat) : ∀ (c1 : Nat) (x2 : Int32) (s : zS) (r : zS) , c1 < 78 → f176_2  n c1 x2 s = some r → Ev X (D + 5) mm176 2 [some (.ref 24), some (.ref (mRO + 3 + 2 * c1)), some (.int x2)] [] (mk s) (encV r) := by
  induction n with
  | zero => intro c1 x2 s r  hc1 h; cases h
  | succ n ih => intro c1 x2 s r  hc1 h; exact kb176_2  ih c1 x2 s r  hc1 h
def f176  (c1 : Nat) (s : zS) : Option (zS) := f176_2 zF c1 (zi 0) s
set_option maxRecDepth 100000 in
theorem k176 {X : mX} {D : Nat} {c1 : Nat} {s : zS} {r : zS} (hc1 : c1 < 78) (h : f176 c1 s = some r) : Ev X (D + 5) mm176 0 [some (.ref 24), some (.ref (mRO + 3 + 2 * c1)), none] [] (mk s) (encV r) := by
  unfold f176 at h
  refine Ev.run (pc' := 2) (ls' := [some (.ref 24), some (.ref (mRO + 3 + 2 * c1)), some (.int (zi 0))]) (st' := []) (h' := mk s) 2 rfl ?_
  exact k176_2 zF c1 (zi 0) s _ hc1 h
/-! 194 FModel.signed(J)V -/
def f194_75 (rec43 : Int64 → Int64 → zS → Option (zS)) (x1 : Int64) (x3 : Int64) (y1 : Int32) (y2 : Int32) (s : zS) : Option (zS) := zb0 (f175 (y1 + y2) s) (fun s1 => rec43 x1 (x3 / (zl 10)) s1)
set_option maxRecDepth 100000 in
theorem k194_75 {X : mX} {D : Nat} {rec43 : Int64 → Int64 → zS → Option (zS)} (hrec43 : ∀ (x1 : Int64) (x3 : Int64) (s : zS) (r : zS) (o5 : Option Value), rec43 x1 x3 s = some r → Ev X (D + 1) mm194 43 [some (.ref 24), some (.long x1), none, some (.long x3), none, o5] [] (mk s) (encV r)) (x1 : Int64) (x3 : Int64) (y1 : Int32) (y2 : Int32) (s : zS) (r : zS) (o5 : Option Value)  (h : f194_75 rec43 x1 x3 y1 y2 s = some r) : Ev X (D + 1) mm194 75 [some (.ref 24), some (.long x1), none, some (.long x3), none, o5] [.int y2, .int y1, .ref 24] (mk s) (encV r) := by
  unfold f194_75 at h
  refine Ev.run (pc' := 76) (ls' := [some (.ref 24), some (.long x1), none, some (.long x3), none, o5]) (st' := [.int (y1 + y2), .ref 24]) (h' := mk s) 1 rfl ?_
  obtain ⟨s1, hq, h⟩ := zb0_some h
  refine Ev.call (M' := mm175) (v := none) (h' := mk s1) rfl rfl rfl (Nat.le_of_ble_eq_true rfl) (k175 hq) ?_
  refine Ev.run (pc' := 43) (ls' := [some (.ref 24), some (.long x1), none, some (.long (x3 / (zl 10))), none, o5]) (st' := []) (h' := mk s1) 5 rfl ?_
  exact hrec43 x1 (x3 / (zl 10)) s1 _ _ h
def b194_43 (rec43 : Int64 → Int64 → zS → Option (zS)) (x1 : Int64) (x3 : Int64) (s : zS) : Option (zS) := if x3 ≤ (zl 0) then some s else if ¬ x3 = zl 0 then if (zL2I (zremL (x1 / x3) (zl 10))) ≥ zi 0 then f194_75 rec43 x1 x3 (zi 48) (zL2I (zremL (x1 / x3) (zl 10))) s else f194_75 rec43 x1 x3 (zi 48) (-(zL2I (zremL (x1 / x3) (zl 10)))) s else none
set_option maxRecDepth 100000 in
theorem kb194_43 {X : mX} {D : Nat} {rec43 : Int64 → Int64 → zS → Option (zS)} (hrec43 : ∀ (x1 : Int64) (x3 : Int64) (s : zS) (r : zS) (o5 : Option Value), rec43 x1 x3 s = some r → Ev X (D + 1) mm194 43 [some (.ref 24), some (.long x1), none, some (.long x3), none, o5] [] (mk s) (encV r)) (x1 : Int64) (x3 : Int64) (s : zS) (r : zS) (o5 : Option Value)  (h : b194_43 rec43 x1 x3 s = some r) : Ev X (D + 1) mm194 43 [some (.ref 24), some (.long x1), none, some (.long x3), none, o5] [] (mk s) (encV r) := by
  unfold b194_43 at h
  refine Ev.run (pc' := 46) (ls' := [some (.ref 24), some (.long x1), none, some (.long x3), none, o5]) (st' := [.int (lg_cmp x3 (zl 0))]) (h' := mk s) 3 rfl ?_
  refine Ev.ifl_le (t := 88) rfl rfl (fun hb => ?_) (fun hb => ?_)
  · have h := (if_pos hb).symm.trans h
    cases h
    exact Ev.fin rfl rfl
  · have h := (if_neg hb).symm.trans h
    refine Ev.run (pc' := 51) (ls' := [some (.ref 24), some (.long x1), none, some (.long x3), none, o5]) (st' := [.long x3, .long x1]) (h' := mk s) 2 rfl ?_
    obtain ⟨hx, h⟩ := zif h
    refine Ev.step (pc' := 52) rfl (ldiv_ok hx) ?_
    refine Ev.run (pc' := 64) (ls' := [some (.ref 24), some (.long x1), none, some (.long x3), none, some (.int (zL2I (zremL (x1 / x3) (zl 10))))]) (st' := [.int (zL2I (zremL (x1 / x3) (zl 10))), .int (zi 48), .ref 24]) (h' := mk s) 7 rfl ?_
    refine Ev.if_ge (t := 73) rfl rfl (fun hb => ?_) (fun hb => ?_)
    · have h := (if_pos hb).symm.trans h
      refine Ev.run (pc' := 75) (ls' := [some (.ref 24), some (.long x1), none, some (.long x3), none, some (.int (zL2I (zremL (x1 / x3) (zl 10))))]) (st' := [.int (zL2I (zremL (x1 / x3) (zl 10))), .int (zi 48), .ref 24]) (h' := mk s) 1 rfl ?_
      exact k194_75 hrec43 x1 x3 (zi 48) (zL2I (zremL (x1 / x3) (zl 10))) s _ _ h
    · have h := (if_neg hb).symm.trans h
      refine Ev.run (pc' := 75) (ls' := [some (.ref 24), some (.long x1), none, some (.long x3), none, some (.int (zL2I (zremL (x1 / x3) (zl 10))))]) (st' := [.int (-(zL2I (zremL (x1 / x3) (zl 10)))), .int (zi 48), .ref 24]) (h' := mk s) 3 rfl ?_
      exact k194_75 hrec43 x1 x3 (zi 48) (-(zL2I (zremL (x1 / x3) (zl 10)))) s _ _ h
def f194_43  : Nat → Int64 → Int64 → zS → Option (zS)
  | 0, _, _, _ => none
  | n + 1, x1, x3, s => b194_43 (f194_43 n) x1 x3 s
set_option maxRecDepth 100000 in
theorem k194_43 {X : mX} {D : Nat}   (n : Nat) : ∀ (x1 : Int64) (x3 : Int64) (s : zS) (r : zS) (o5 : Option Value), f194_43  n x1 x3 s = some r → Ev X (D + 1) mm194 43 [some (.ref 24), some (.long x1), none, some (.long x3), none, o5] [] (mk s) (encV r) := by
  induction n with
  | zero => intro x1 x3 s r o5  h; cases h
  | succ n ih => intro x1 x3 s r o5  h; exact kb194_43  ih x1 x3 s r o5  h
def b194_14 (rec14 : Int64 → Int64 → zS → Option (zS)) (x1 : Int64) (x3 : Int64) (s : zS) : Option (zS) := if ¬ x3 = zl 0 then if (x1 / x3) > (zl 9) then rec14 x1 (x3 * (zl 10)) s else if ¬ x3 = zl 0 then if (x1 / x3) ≥ (zl (-9)) then f194_43 zF x1 x3 s else rec14 x1 (x3 * (zl 10)) s else none else none
set_option maxRecDepth 100000 in
theorem kb194_14 {X : mX} {D : Nat} {rec14 : Int64 → Int64 → zS → Option (zS)} (hrec14 : ∀ (x1 : Int64) (x3 : Int64) (s : zS) (r : zS) (o5 : Option Value), rec14 x1 x3 s = some r → Ev X (D + 1) mm194 14 [some (.ref 24), some (.long x1), none, some (.long x3), none, o5] [] (mk s) (encV r)) (x1 : Int64) (x3 : Int64) (s : zS) (r : zS) (o5 : Option Value)  (h : b194_14 rec14 x1 x3 s = some r) : Ev X (D + 1) mm194 14 [some (.ref 24), some (.long x1), none, some (.long x3), none, o5] [] (mk s) (encV r) := by
  unfold b194_14 at h
  refine Ev.run (pc' := 16) (ls' := [some (.ref 24), some (.long x1), none, some (.long x3), none, o5]) (st' := [.long x3, .long x1]) (h' := mk s) 2 rfl ?_
  obtain ⟨hx, h⟩ := zif h
  refine Ev.step (pc' := 17) rfl (ldiv_ok hx) ?_
  refine Ev.run (pc' := 21) (ls' := [some (.ref 24), some (.long x1), none, some (.long x3), none, o5]) (st' := [.int (lg_cmp (x1 / x3) (zl 9))]) (h' := mk s) 2 rfl ?_
  refine Ev.ifl_gt (t := 34) rfl rfl (fun hb => ?_) (fun hb => ?_)
  · have h := (if_pos hb).symm.trans h
    refine Ev.run (pc' := 14) (ls' := [some (.ref 24), some (.long x1), none, some (.long (x3 * (zl 10))), none, o5]) (st' := []) (h' := mk s) 5 rfl ?_
    exact hrec14 x1 (x3 * (zl 10)) s _ _ h
  · have h := (if_neg hb).symm.trans h
    refine Ev.run (pc' := 26) (ls' := [some (.ref 24), some (.long x1), none, some (.long x3), none, o5]) (st' := [.long x3, .long x1]) (h' := mk s) 2 rfl ?_
    obtain ⟨hx, h⟩ := zif h
    refine Ev.step (pc' := 27) rfl (ldiv_ok hx) ?_
    refine Ev.run (pc' := 31) (ls' := [some (.ref 24), some (.long x1), none, some (.long x3), none, o5]) (st' := [.int (lg_cmp (x1 / x3) (zl (-9)))]) (h' := mk s) 2 rfl ?_
    refine Ev.ifl_ge (t := 43) rfl rfl (fun hb => ?_) (fun hb => ?_)
    · have h := (if_pos hb).symm.trans h
      exact k194_43 zF x1 x3 s _ _ h
    · have h := (if_neg hb).symm.trans h
      refine Ev.run (pc' := 14) (ls' := [some (.ref 24), some (.long x1), none, some (.long (x3 * (zl 10))), none, o5]) (st' := []) (h' := mk s) 5 rfl ?_
      exact hrec14 x1 (x3 * (zl 10)) s _ _ h
def f194_14  : Nat → Int64 → Int64 → zS → Option (zS)
  | 0, _, _, _ => none
  | n + 1, x1, x3, s => b194_14 (f194_14 n) x1 x3 s
set_option maxRecDepth 100000 in
theorem k194_14 {X : mX} {D : Nat}   (n : Nat) : ∀ (x1 : Int64) (x3 : Int64) (s : zS) (r : zS) (o5 : Option Value), f194_14  n x1 x3 s = some r → Ev X (D + 1) mm194 14 [some (.ref 24), some (.long x1), none, some (.long x3), none, o5] [] (mk s) (encV r) := by
  induction n with
  | zero => intro x1 x3 s r o5  h; cases h
  | succ n ih => intro x1 x3 s r o5  h; exact kb194_14  ih x1 x3 s r o5  h
def f194  (x1 : Int64) (s : zS) : Option (zS) := if x1 ≥ (zl 0) then f194_14 zF x1 (zl 1) s else zb0 (f175 (zi 45) s) (fun s1 => f194_14 zF x1 (zl 1) s1)
set_option maxRecDepth 100000 in
theorem k194 {X : mX} {D : Nat} {x1 : Int64} {s : zS} {r : zS}  (h : f194 x1 s = some r) : Ev X (D + 1) mm194 0 [some (.ref 24), some (.long x1), none, none, none, none] [] (mk s) (encV r) := by
  unfold f194 at h
  refine Ev.run (pc' := 3) (ls' := [some (.ref 24), some (.long x1), none, none, none, none]) (st' := [.int (lg_cmp x1 (zl 0))]) (h' := mk s) 3 rfl ?_
  refine Ev.ifl_ge (t := 12) rfl rfl (fun hb => ?_) (fun hb => ?_)
  · have h := (if_pos hb).symm.trans h
    refine Ev.run (pc' := 14) (ls' := [some (.ref 24), some (.long x1), none, some (.long (zl 1)), none, none]) (st' := []) (h' := mk s) 2 rfl ?_
    exact k194_14 zF x1 (zl 1) s _ _ h
  · have h := (if_neg hb).symm.trans h
    refine Ev.run (pc' := 9) (ls' := [some (.ref 24), some (.long x1), none, none, none, none]) (st' := [.int (zi 45), .ref 24]) (h' := mk s) 2 rfl ?_
    obtain ⟨s1, hq, h⟩ := zb0_some h
    refine Ev.call (M' := mm175) (v := none) (h' := mk s1) rfl rfl rfl (Nat.le_of_ble_eq_true rfl) (k175 hq) ?_
    refine Ev.run (pc' := 14) (ls' := [some (.ref 24), some (.long x1), none, some (.long (zl 1)), none, none]) (st' := []) (h' := mk s1) 2 rfl ?_
    exact k194_14 zF x1 (zl 1) s1 _ _ h
/-! 192 FModel.time(I)V -/
def f192_757 (tms : Nat → zS → Option zS)  (d1 : Nat) (s : zS) : Option (zS) := zb0 (f176 d1 s) (fun s1 => some s1)
set_option maxRecDepth 100000 in
theorem k192_757 {X : mX} {D : Nat} {tms : Nat → zS → Option zS}  (htms : ∀ {c s s2}, c < 78 → tms c s = some s2 → Ev X (D + 5) mm193 0 [some (.ref 24), some (.ref (mRO + 3 + 2 * c)), none, none] [] (mk s) (encV s2))  (d1 : Nat) (s : zS) (r : zS) (o0 : Option Value) (o1 : Option Value) (o2 : Option Value) (o3 : Option Value) (o4 : Option Value) (o5 : Option Value) (o6 : Option Value) (o7 : Option Value) (o8 : Option Value) (o9 : Option Value) (o10 : Option Value) (o11 : Option Value) (o12 : Option Value) (o13 : Option Value) (o14 : Option Value) (o15 : Option Value) (o16 : Option Value) (o17 : Option Value) (o18 : Option Value) (o19 : Option Value) (o20 : Option Value) (hd1 : d1 < 78) (h : f192_757 tms  d1 s = some r) : Ev X (D + 6) mm192 757 [o0, o1, o2, o3, o4, o5, o6, o7, o8, o9, o10, o11, o12, o13, o14, o15, o16, o17, o18, o19, o20] [.ref (mRO + 3 + 2 * d1), .ref 24] (mk s) (encV r) := by
  unfold f192_757 at h
  obtain ⟨s1, hq, h⟩ := zb0_some h
  refine Ev.call (M' := mm176) (v := none) (h' := mk s1) rfl rfl rfl (Nat.le_of_ble_eq_true rfl) (k176 hd1 hq) ?_
  cases h
  exact Ev.fin rfl rfl
def f192_700 (tms : Nat → zS → Option zS)  (d1 : Nat) (s : zS) : Option (zS) := zb0 (f176 d1 s) (fun s1 => some s1)
set_option maxRecDepth 100000 in
theorem k192_700 {X : mX} {D : Nat} {tms : Nat → zS → Option zS}  (htms : ∀ {c s s2}, c < 78 → tms c s = some s2 → Ev X (D + 5) mm193 0 [some (.ref 24), some (.ref (mRO + 3 + 2 * c)), none, none] [] (mk s) (encV s2))  (d1 : Nat) (s : zS) (r : zS) (o0 : Option Value) (o1 : Option Value) (o2 : Option Value) (o3 : Option Value) (o4 : Option Value) (o5 : Option Value) (o6 : Option Value) (o7 : Option Value) (o8 : Option Value) (o9 : Option Value) (o10 : Option Value) (o11 : Option Value) (o12 : Option Value) (o13 : Option Value) (o14 : Option Value) (o15 : Option Value) (o16 : Option Value) (o17 : Option Value) (o18 : Option Value) (o19 : Option Value) (o20 : Option Value) (hd1 : d1 < 78) (h : f192_700 tms  d1 s = some r) : Ev X (D + 6) mm192 700 [o0, o1, o2, o3, o4, o5, o6, o7, o8, o9, o10, o11, o12, o13, o14, o15, o16, o17, o18, o19, o20] [.ref (mRO + 3 + 2 * d1), .ref 24] (mk s) (encV r) := by
  unfold f192_700 at h
  obtain ⟨s1, hq, h⟩ := zb0_some h
  refine Ev.call (M' := mm176) (v := none) (h' := mk s1) rfl rfl rfl (Nat.le_of_ble_eq_true rfl) (k176 hd1 hq) ?_
  cases h
  exact Ev.fin rfl rfl
def f192_551 (tms : Nat → zS → Option zS)  (x19 : Int64) (s : zS) : Option (zS) := zb0 (f177 x19 (zi 4) s) (fun s1 => some s1)
set_option maxRecDepth 100000 in
theorem k192_551 {X : mX} {D : Nat} {tms : Nat → zS → Option zS}  (htms : ∀ {c s s2}, c < 78 → tms c s = some s2 → Ev X (D + 5) mm193 0 [some (.ref 24), some (.ref (mRO + 3 + 2 * c)), none, none] [] (mk s) (encV s2))  (x19 : Int64) (s : zS) (r : zS) (o1 : Option Value) (o2 : Option Value) (o3 : Option Value) (o4 : Option Value) (o5 : Option Value) (o6 : Option Value) (o7 : Option Value) (o8 : Option Value) (o9 : Option Value) (o10 : Option Value) (o11 : Option Value) (o12 : Option Value) (o13 : Option Value) (o14 : Option Value) (o15 : Option Value) (o16 : Option Value) (o17 : Option Value) (o18 : Option Value)  (h : f192_551 tms  x19 s = some r) : Ev X (D + 6) mm192 551 [some (.ref 24), o1, o2, o3, o4, o5, o6, o7, o8, o9, o10, o11, o12, o13, o14, o15, o16, o17, o18, some (.long x19), none] [] (mk s) (encV r) := by
  unfold f192_551 at h
  refine Ev.run (pc' := 555) (ls' := [some (.ref 24), o1, o2, o3, o4, o5, o6, o7, o8, o9, o10, o11, o12, o13, o14, o15, o16, o17, o18, some (.long x19), none]) (st' := [.int (zi 4), .long x19, .ref 24]) (h' := mk s) 3 rfl ?_
  obtain ⟨s1, hq, h⟩ := zb0_some h
  refine Ev.call (M' := mm177) (v := none) (h' := mk s1) rfl rfl rfl (Nat.le_of_ble_eq_true rfl) (k177 hq) ?_
  cases h
  exact Ev.fin rfl rfl
def f192_210 (tms : Nat → zS → Option zS)  (x1 : Int32) (x2 : Int64) (x4 : Int64) (x6 : Int64) (x8 : Int32) (x9 : Int32) (x10 : Int32) (x11 : Int32) (x14 : Int64) (x16 : Int32) (x17 : Int32) (x18 : Int32) (y0 : Int64) (s : zS) : Option (zS) := if x1 = zi 65 then zb1 (f262 x6 (zl 7) s) (fun v2 s1 => zb0 (f189 68 (zL2I v2) (zi 1) s1) (fun s3 => some s3)) else if x1 = zi 66 then zb0 (f189 67 x17 (zi 1) s) (fun s4 => some s4) else if x1 = zi 67 then zb0 (f177 (y0 / (zl 100)) (zi 2) s) (fun s5 => some s5) else if x1 = zi 68 then zb0 (tms 76 s) (fun s6 => some s6) else if x1 = zi 72 then zb0 (f177 (zI2L x10) (zi 2) s) (fun s7 => some s7) else if x1 = zi 73 then zb0 (f177 (zI2L ((zrem (x10 + (zi 11)) (zi 12)) + (zi 1))) (zi 2) s) (fun s8 => some s8) else if x1 = zi 76 then zb0 (f177 (zI2L x8) (zi 3) s) (fun s9 => some s9) else if x1 = zi 77 then zb0 (f177 (zI2L x11) (zi 2) s) (fun s10 => some s10) else if x1 = zi 81 then zb0 (f194 x2 s) (fun s11 => some s11) else if x1 = zi 82 then zb0 (tms 71 s) (fun s12 => some s12) else if x1 = zi 83 then zb0 (f177 (zI2L (zrem x9 (zi 60))) (zi 2) s) (fun s13 => some s13) else if x1 = zi 84 then zb0 (tms 72 s) (fun s14 => some s14) else if x1 = zi 89 then if x14 ≥ (zl 0) then f192_551 tms y0 s else zb0 (f175 (zi 45) s) (fun s15 => f192_551 tms y0 s15) else if x1 = zi 97 then zb1 (f262 x6 (zl 7) s) (fun v17 s16 => zb0 (f189 68 (zL2I v17) (zi 0) s16) (fun s18 => some s18)) else if x1 = zi 98 then zb0 (f189 67 x17 (zi 0) s) (fun s19 => some s19) else if x1 = zi 100 then zb0 (f177 (zI2L (x16 + (zi 1))) (zi 2) s) (fun s20 => some s20) else if x1 = zi 101 then zb0 (f177 (zI2L (x16 + (zi 1))) (zi 1) s) (fun s21 => some s21) else if x1 = zi 106 then zb0 (f177 (zI2L x18) (zi 3) s) (fun s22 => some s22) else if x1 = zi 107 then zb0 (f177 (zI2L x10) (zi 1) s) (fun s23 => some s23) else if x1 = zi 108 then zb0 (f177 (zI2L ((zrem (x10 + (zi 11)) (zi 12)) + (zi 1))) (zi 1) s) (fun s24 => some s24) else if x1 = zi 109 then zb0 (f177 (zI2L (x17 + (zi 1))) (zi 2) s) (fun s25 => some s25) else if x1 = zi 112 then if x10 ≥ (zi 12) then f192_700 tms 70 s else f192_700 tms 69 s else if x1 = zi 114 then zb0 (tms 73 s) (fun s26 => if x10 ≥ (zi 12) then f192_757 tms 75 s26 else f192_757 tms 74 s26) else if x1 = zi 115 then zb0 (f194 x4 s) (fun s27 => some s27) else if x1 = zi 121 then zb0 (f177 (zremL y0 (zl 100)) (zi 2) s) (fun s28 => some s28) else zb0 (tms 77 s) (fun s29 => some s29)
set_option maxRecDepth 100000 in
theorem k192_210 {X : mX} {D : Nat} {tms : Nat → zS → Option zS}  (htms : ∀ {c s s2}, c < 78 → tms c s = some s2 → Ev X (D + 5) mm193 0 [some (.ref 24), some (.ref (mRO + 3 + 2 * c)), none, none] [] (mk s) (encV s2))  (x1 : Int32) (x2 : Int64) (x4 : Int64) (x6 : Int64) (x8 : Int32) (x9 : Int32) (x10 : Int32) (x11 : Int32) (x14 : Int64) (x16 : Int32) (x17 : Int32) (x18 : Int32) (y0 : Int64) (s : zS) (r : zS) (o12 : Option Value) (o13 : Option Value) (o19 : Option Value) (o20 : Option Value)  (h : f192_210 tms  x1 x2 x4 x6 x8 x9 x10 x11 x14 x16 x17 x18 y0 s = some r) : Ev X (D + 6) mm192 210 [some (.ref 24), some (.int x1), some (.long x2), none, some (.long x4), none, some (.long x6), none, some (.int x8), some (.int x9), some (.int x10), some (.int x11), o12, o13, some (.long x14), none, some (.int x16), some (.int x17), some (.int x18), o19, o20] [.long y0] (mk s) (encV r) := by
  unfold f192_210 at h
  refine Ev.run (pc' := 213) (ls' := [some (.ref 24), some (.int x1), some (.long x2), none, some (.long x4), none, some (.long x6), none, some (.int x8), some (.int x9), some (.int x10), some (.int x11), o12, o13, some (.long x14), none, some (.int x16), some (.int x17), some (.int x18), some (.long y0), none]) (st' := [.int x1]) (h' := mk s) 2 rfl ?_
  by_cases hb : x1 = zi 65
  · have h := (if_pos hb).symm.trans h
    refine Ev.tsw (t := 647) (k := 65) rfl hb (by rfl) ?_
    refine Ev.run (pc' := 656) (ls' := [some (.ref 24), some (.int x1), some (.long x2), none, some (.long x4), none, some (.long x6), none, some (.int x8), some (.int x9), some (.int x10), some (.int x11), o12, o13, some (.long x14), none, some (.int x16), some (.int x17), some (.int x18), some (.long y0), none]) (st' := [.long (zl 7), .long x6, .ref (mRO + 3 + 2 * 68), .ref 24]) (h' := mk s) 4 rfl ?_
    obtain ⟨v2, s1, hq, h⟩ := zb1_some h
    refine Ev.call (M' := mm262) (v := some (.long v2)) (h' := mk s1) rfl rfl rfl (Nat.le_of_ble_eq_true rfl) (k262 hq) ?_
    refine Ev.run (pc' := 661) (ls' := [some (.ref 24), some (.int x1), some (.long x2), none, some (.long x4), none, some (.long x6), none, some (.int x8), some (.int x9), some (.int x10), some (.int x11), o12, o13, some (.long x14), none, some (.int x16), some (.int x17), some (.int x18), some (.long y0), none]) (st' := [.int (zi 1), .int (zL2I v2), .ref (mRO + 3 + 2 * 68), .ref 24]) (h' := mk s1) 2 rfl ?_
    obtain ⟨s3, hq, h⟩ := zb0_some h
    refine Ev.call (M' := mm189) (v := none) (h' := mk s3) rfl rfl rfl (Nat.le_of_ble_eq_true rfl) (k189 (by decide) hq) ?_
    cases h
    exact Ev.fin rfl rfl
  have h := (if_neg hb).symm.trans h
  have n_65 := hb
  clear hb
  by_cases hb : x1 = zi 66
  · have h := (if_pos hb).symm.trans h
    refine Ev.tsw (t := 625) (k := 66) rfl hb (by rfl) ?_
    refine Ev.run (pc' := 632) (ls' := [some (.ref 24), some (.int x1), some (.long x2), none, some (.long x4), none, some (.long x6), none, some (.int x8), some (.int x9), some (.int x10), some (.int x11), o12, o13, some (.long x14), none, some (.int x16), some (.int x17), some (.int x18), some (.long y0), none]) (st' := [.int (zi 1), .int x17, .ref (mRO + 3 + 2 * 67), .ref 24]) (h' := mk s) 4 rfl ?_
    obtain ⟨s4, hq, h⟩ := zb0_some h
    refine Ev.call (M' := mm189) (v := none) (h' := mk s4) rfl rfl rfl (Nat.le_of_ble_eq_true rfl) (k189 (by decide) hq) ?_
    cases h
    exact Ev.fin rfl rfl
  have h := (if_neg hb).symm.trans h
  have n_66 := hb
  clear hb
  by_cases hb : x1 = zi 67
  · have h := (if_pos hb).symm.trans h
    refine Ev.tsw (t := 571) (k := 67) rfl hb (by rfl) ?_
    refine Ev.run (pc' := 579) (ls' := [some (.ref 24), some (.int x1), some (.long x2), none, some (.long x4), none, some (.long x6), none, some (.int x8), some (.int x9), some (.int x10), some (.int x11), o12, o13, some (.long x14), none, some (.int x16), some (.int x17), some (.int x18), some (.long y0), none]) (st' := [.int (zi 2), .long (y0 / (zl 100)), .ref 24]) (h' := mk s) 5 rfl ?_
    obtain ⟨s5, hq, h⟩ := zb0_some h
    refine Ev.call (M' := mm177) (v := none) (h' := mk s5) rfl rfl rfl (Nat.le_of_ble_eq_true rfl) (k177 hq) ?_
    cases h
    exact Ev.fin rfl rfl
  have h := (if_neg hb).symm.trans h
  have n_67 := hb
  clear hb
  by_cases hb : x1 = zi 68
  · have h := (if_pos hb).symm.trans h
    refine Ev.tsw (t := 761) (k := 68) rfl hb (by rfl) ?_
    refine Ev.run (pc' := 765) (ls' := [some (.ref 24), some (.int x1), some (.long x2), none, some (.long x4), none, some (.long x6), none, some (.int x8), some (.int x9), some (.int x10), some (.int x11), o12, o13, some (.long x14), none, some (.int x16), some (.int x17), some (.int x18), some (.long y0), none]) (st' := [.ref (mRO + 3 + 2 * 76), .ref 24]) (h' := mk s) 2 rfl ?_
    obtain ⟨s6, hq, h⟩ := zb0_some h
    refine Ev.call (M' := mm193) (v := none) (h' := mk s6) rfl rfl rfl (Nat.le_of_ble_eq_true rfl) (htms (by decide) hq) ?_
    cases h
    exact Ev.fin rfl rfl
  have h := (if_neg hb).symm.trans h
  have n_68 := hb
  clear hb
  by_cases hb : x1 = zi 72
  · have h := (if_pos hb).symm.trans h
    refine Ev.tsw (t := 456) (k := 72) rfl hb (by rfl) ?_
    refine Ev.run (pc' := 461) (ls' := [some (.ref 24), some (.int x1), some (.long x2), none, some (.long x4), none, some (.long x6), none, some (.int x8), some (.int x9), some (.int x10), some (.int x11), o12, o13, some (.long x14), none, some (.int x16), some (.int x17), some (.int x18), some (.long y0), none]) (st' := [.int (zi 2), .long (zI2L x10), .ref 24]) (h' := mk s) 4 rfl ?_
    obtain ⟨s7, hq, h⟩ := zb0_some h
    refine Ev.call (M' := mm177) (v := none) (h' := mk s7) rfl rfl rfl (Nat.le_of_ble_eq_true rfl) (k177 hq) ?_
    cases h
    exact Ev.fin rfl rfl
  have h := (if_neg hb).symm.trans h
  have n_72 := hb
  clear hb
  by_cases hb : x1 = zi 73
  · have h := (if_pos hb).symm.trans h
    refine Ev.tsw (t := 474) (k := 73) rfl hb (by rfl) ?_
    refine Ev.run (pc' := 487) (ls' := [some (.ref 24), some (.int x1), some (.long x2), none, some (.long x4), none, some (.long x6), none, some (.int x8), some (.int x9), some (.int x10), some (.int x11), o12, o13, some (.long x14), none, some (.int x16), some (.int x17), some (.int x18), some (.long y0), none]) (st' := [.int (zi 2), .long (zI2L ((zrem (x10 + (zi 11)) (zi 12)) + (zi 1))), .ref 24]) (h' := mk s) 10 rfl ?_
    obtain ⟨s8, hq, h⟩ := zb0_some h
    refine Ev.call (M' := mm177) (v := none) (h' := mk s8) rfl rfl rfl (Nat.le_of_ble_eq_true rfl) (k177 hq) ?_
    cases h
    exact Ev.fin rfl rfl
  have h := (if_neg hb).symm.trans h
  have n_73 := hb
  clear hb
  by_cases hb : x1 = zi 76
  · have h := (if_pos hb).symm.trans h
    refine Ev.tsw (t := 529) (k := 76) rfl hb (by rfl) ?_
    refine Ev.run (pc' := 534) (ls' := [some (.ref 24), some (.int x1), some (.long x2), none, some (.long x4), none, some (.long x6), none, some (.int x8), some (.int x9), some (.int x10), some (.int x11), o12, o13, some (.long x14), none, some (.int x16), some (.int x17), some (.int x18), some (.long y0), none]) (st' := [.int (zi 3), .long (zI2L x8), .ref 24]) (h' := mk s) 4 rfl ?_
    obtain ⟨s9, hq, h⟩ := zb0_some h
    refine Ev.call (M' := mm177) (v := none) (h' := mk s9) rfl rfl rfl (Nat.le_of_ble_eq_true rfl) (k177 hq) ?_
    cases h
    exact Ev.fin rfl rfl
  have h := (if_neg hb).symm.trans h
  have n_76 := hb
  clear hb
  by_cases hb : x1 = zi 77
  · have h := (if_pos hb).symm.trans h
    refine Ev.tsw (t := 508) (k := 77) rfl hb (by rfl) ?_
    refine Ev.run (pc' := 513) (ls' := [some (.ref 24), some (.int x1), some (.long x2), none, some (.long x4), none, some (.long x6), none, some (.int x8), some (.int x9), some (.int x10), some (.int x11), o12, o13, some (.long x14), none, some (.int x16), some (.int x17), some (.int x18), some (.long y0), none]) (st' := [.int (zi 2), .long (zI2L x11), .ref 24]) (h' := mk s) 4 rfl ?_
    obtain ⟨s10, hq, h⟩ := zb0_some h
    refine Ev.call (M' := mm177) (v := none) (h' := mk s10) rfl rfl rfl (Nat.le_of_ble_eq_true rfl) (k177 hq) ?_
    cases h
    exact Ev.fin rfl rfl
  have h := (if_neg hb).symm.trans h
  have n_77 := hb
  clear hb
  by_cases hb : x1 = zi 81
  · have h := (if_pos hb).symm.trans h
    refine Ev.tsw (t := 711) (k := 81) rfl hb (by rfl) ?_
    refine Ev.run (pc' := 713) (ls' := [some (.ref 24), some (.int x1), some (.long x2), none, some (.long x4), none, some (.long x6), none, some (.int x8), some (.int x9), some (.int x10), some (.int x11), o12, o13, some (.long x14), none, some (.int x16), some (.int x17), some (.int x18), some (.long y0), none]) (st' := [.long x2, .ref 24]) (h' := mk s) 2 rfl ?_
    obtain ⟨s11, hq, h⟩ := zb0_some h
    refine Ev.call (M' := mm194) (v := none) (h' := mk s11) rfl rfl rfl (Nat.le_of_ble_eq_true rfl) (k194 hq) ?_
    cases h
    exact Ev.fin rfl rfl
  have h := (if_neg hb).symm.trans h
  have n_81 := hb
  clear hb
  by_cases hb : x1 = zi 82
  · have h := (if_pos hb).symm.trans h
    refine Ev.tsw (t := 717) (k := 82) rfl hb (by rfl) ?_
    refine Ev.run (pc' := 721) (ls' := [some (.ref 24), some (.int x1), some (.long x2), none, some (.long x4), none, some (.long x6), none, some (.int x8), some (.int x9), some (.int x10), some (.int x11), o12, o13, some (.long x14), none, some (.int x16), some (.int x17), some (.int x18), some (.long y0), none]) (st' := [.ref (mRO + 3 + 2 * 71), .ref 24]) (h' := mk s) 2 rfl ?_
    obtain ⟨s12, hq, h⟩ := zb0_some h
    refine Ev.call (M' := mm193) (v := none) (h' := mk s12) rfl rfl rfl (Nat.le_of_ble_eq_true rfl) (htms (by decide) hq) ?_
    cases h
    exact Ev.fin rfl rfl
  have h := (if_neg hb).symm.trans h
  have n_82 := hb
  clear hb
  by_cases hb : x1 = zi 83
  · have h := (if_pos hb).symm.trans h
    refine Ev.tsw (t := 517) (k := 83) rfl hb (by rfl) ?_
    refine Ev.run (pc' := 525) (ls' := [some (.ref 24), some (.int x1), some (.long x2), none, some (.long x4), none, some (.long x6), none, some (.int x8), some (.int x9), some (.int x10), some (.int x11), o12, o13, some (.long x14), none, some (.int x16), some (.int x17), some (.int x18), some (.long y0), none]) (st' := [.int (zi 2), .long (zI2L (zrem x9 (zi 60))), .ref 24]) (h' := mk s) 6 rfl ?_
    obtain ⟨s13, hq, h⟩ := zb0_some h
    refine Ev.call (M' := mm177) (v := none) (h' := mk s13) rfl rfl rfl (Nat.le_of_ble_eq_true rfl) (k177 hq) ?_
    cases h
    exact Ev.fin rfl rfl
  have h := (if_neg hb).symm.trans h
  have n_83 := hb
  clear hb
  by_cases hb : x1 = zi 84
  · have h := (if_pos hb).symm.trans h
    refine Ev.tsw (t := 725) (k := 84) rfl hb (by rfl) ?_
    refine Ev.run (pc' := 729) (ls' := [some (.ref 24), some (.int x1), some (.long x2), none, some (.long x4), none, some (.long x6), none, some (.int x8), some (.int x9), some (.int x10), some (.int x11), o12, o13, some (.long x14), none, some (.int x16), some (.int x17), some (.int x18), some (.long y0), none]) (st' := [.ref (mRO + 3 + 2 * 72), .ref 24]) (h' := mk s) 2 rfl ?_
    obtain ⟨s14, hq, h⟩ := zb0_some h
    refine Ev.call (M' := mm193) (v := none) (h' := mk s14) rfl rfl rfl (Nat.le_of_ble_eq_true rfl) (htms (by decide) hq) ?_
    cases h
    exact Ev.fin rfl rfl
  have h := (if_neg hb).symm.trans h
  have n_84 := hb
  clear hb
  by_cases hb : x1 = zi 89
  · have h := (if_pos hb).symm.trans h
    refine Ev.tsw (t := 538) (k := 89) rfl hb (by rfl) ?_
    refine Ev.run (pc' := 542) (ls' := [some (.ref 24), some (.int x1), some (.long x2), none, some (.long x4), none, some (.long x6), none, some (.int x8), some (.int x9), some (.int x10), some (.int x11), o12, o13, some (.long x14), none, some (.int x16), some (.int x17), some (.int x18), some (.long y0), none]) (st' := [.int (lg_cmp x14 (zl 0))]) (h' := mk s) 3 rfl ?_
    refine Ev.ifl_ge (t := 551) rfl rfl (fun hb => ?_) (fun hb => ?_)
    · have h := (if_pos hb).symm.trans h
      exact k192_551 htms y0 s _ _ _ _ _ _ _ _ _ _ _ _ _ _ _ _ _ _ _ h
    · have h := (if_neg hb).symm.trans h
      refine Ev.run (pc' := 548) (ls' := [some (.ref 24), some (.int x1), some (.long x2), none, some (.long x4), none, some (.long x6), none, some (.int x8), some (.int x9), some (.int x10), some (.int x11), o12, o13, some (.long x14), none, some (.int x16), some (.int x17), some (.int x18), some (.long y0), none]) (st' := [.int (zi 45), .ref 24]) (h' := mk s) 2 rfl ?_
      obtain ⟨s15, hq, h⟩ := zb0_some h
      refine Ev.call (M' := mm175) (v := none) (h' := mk s15) rfl rfl rfl (Nat.le_of_ble_eq_true rfl) (k175 hq) ?_
      exact k192_551 htms y0 s15 _ _ _ _ _ _ _ _ _ _ _ _ _ _ _ _ _ _ _ h
  have h := (if_neg hb).symm.trans h
  have n_89 := hb
  clear hb
  by_cases hb : x1 = zi 97
  · have h := (if_pos hb).symm.trans h
    refine Ev.tsw (t := 665) (k := 97) rfl hb (by rfl) ?_
    refine Ev.run (pc' := 674) (ls' := [some (.ref 24), some (.int x1), some (.long x2), none, some (.long x4), none, some (.long x6), none, some (.int x8), some (.int x9), some (.int x10), some (.int x11), o12, o13, some (.long x14), none, some (.int x16), some (.int x17), some (.int x18), some (.long y0), none]) (st' := [.long (zl 7), .long x6, .ref (mRO + 3 + 2 * 68), .ref 24]) (h' := mk s) 4 rfl ?_
    obtain ⟨v17, s16, hq, h⟩ := zb1_some h
    refine Ev.call (M' := mm262) (v := some (.long v17)) (h' := mk s16) rfl rfl rfl (Nat.le_of_ble_eq_true rfl) (k262 hq) ?_
    refine Ev.run (pc' := 679) (ls' := [some (.ref 24), some (.int x1), some (.long x2), none, some (.long x4), none, some (.long x6), none, some (.int x8), some (.int x9), some (.int x10), some (.int x11), o12, o13, some (.long x14), none, some (.int x16), some (.int x17), some (.int x18), some (.long y0), none]) (st' := [.int (zi 0), .int (zL2I v17), .ref (mRO + 3 + 2 * 68), .ref 24]) (h' := mk s16) 2 rfl ?_
    obtain ⟨s18, hq, h⟩ := zb0_some h
    refine Ev.call (M' := mm189) (v := none) (h' := mk s18) rfl rfl rfl (Nat.le_of_ble_eq_true rfl) (k189 (by decide) hq) ?_
    cases h
    exact Ev.fin rfl rfl
  have h := (if_neg hb).symm.trans h
  have n_97 := hb
  clear hb
  by_cases hb : x1 = zi 98
  · have h := (if_pos hb).symm.trans h
    refine Ev.tsw (t := 636) (k := 98) rfl hb (by rfl) ?_
    refine Ev.run (pc' := 643) (ls' := [some (.ref 24), some (.int x1), some (.long x2), none, some (.long x4), none, some (.long x6), none, some (.int x8), some (.int x9), some (.int x10), some (.int x11), o12, o13, some (.long x14), none, some (.int x16), some (.int x17), some (.int x18), some (.long y0), none]) (st' := [.int (zi 0), .int x17, .ref (mRO + 3 + 2 * 67), .ref 24]) (h' := mk s) 4 rfl ?_
    obtain ⟨s19, hq, h⟩ := zb0_some h
    refine Ev.call (M' := mm189) (v := none) (h' := mk s19) rfl rfl rfl (Nat.le_of_ble_eq_true rfl) (k189 (by decide) hq) ?_
    cases h
    exact Ev.fin rfl rfl
  have h := (if_neg hb).symm.trans h
  have n_98 := hb
  clear hb
  by_cases hb : x1 = zi 100
  · have h := (if_pos hb).symm.trans h
    refine Ev.tsw (t := 594) (k := 100) rfl hb (by rfl) ?_
    refine Ev.run (pc' := 601) (ls' := [some (.ref 24), some (.int x1), some (.long x2), none, some (.long x4), none, some (.long x6), none, some (.int x8), some (.int x9), some (.int x10), some (.int x11), o12, o13, some (.long x14), none, some (.int x16), some (.int x17), some (.int x18), some (.long y0), none]) (st' := [.int (zi 2), .long (zI2L (x16 + (zi 1))), .ref 24]) (h' := mk s) 6 rfl ?_
    obtain ⟨s20, hq, h⟩ := zb0_some h
    refine Ev.call (M' := mm177) (v := none) (h' := mk s20) rfl rfl rfl (Nat.le_of_ble_eq_true rfl) (k177 hq) ?_
    cases h
    exact Ev.fin rfl rfl
  have h := (if_neg hb).symm.trans h
  have n_100 := hb
  clear hb
  by_cases hb : x1 = zi 101
  · have h := (if_pos hb).symm.trans h
    refine Ev.tsw (t := 605) (k := 101) rfl hb (by rfl) ?_
    refine Ev.run (pc' := 612) (ls' := [some (.ref 24), some (.int x1), some (.long x2), none, some (.long x4), none, some (.long x6), none, some (.int x8), some (.int x9), some (.int x10), some (.int x11), o12, o13, some (.long x14), none, some (.int x16), some (.int x17), some (.int x18), some (.long y0), none]) (st' := [.int (zi 1), .long (zI2L (x16 + (zi 1))), .ref 24]) (h' := mk s) 6 rfl ?_
    obtain ⟨s21, hq, h⟩ := zb0_some h
    refine Ev.call (M' := mm177) (v := none) (h' := mk s21) rfl rfl rfl (Nat.le_of_ble_eq_true rfl) (k177 hq) ?_
    cases h
    exact Ev.fin rfl rfl
  have h := (if_neg hb).symm.trans h
  have n_101 := hb
  clear hb
  by_cases hb : x1 = zi 106
  · have h := (if_pos hb).symm.trans h
    refine Ev.tsw (t := 616) (k := 106) rfl hb (by rfl) ?_
    refine Ev.run (pc' := 621) (ls' := [some (.ref 24), some (.int x1), some (.long x2), none, some (.long x4), none, some (.long x6), none, some (.int x8), some (.int x9), some (.int x10), some (.int x11), o12, o13, some (.long x14), none, some (.int x16), some (.int x17), some (.int x18), some (.long y0), none]) (st' := [.int (zi 3), .long (zI2L x18), .ref 24]) (h' := mk s) 4 rfl ?_
    obtain ⟨s22, hq, h⟩ := zb0_some h
    refine Ev.call (M' := mm177) (v := none) (h' := mk s22) rfl rfl rfl (Nat.le_of_ble_eq_true rfl) (k177 hq) ?_
    cases h
    exact Ev.fin rfl rfl
  have h := (if_neg hb).symm.trans h
  have n_106 := hb
  clear hb
  by_cases hb : x1 = zi 107
  · have h := (if_pos hb).symm.trans h
    refine Ev.tsw (t := 465) (k := 107) rfl hb (by rfl) ?_
    refine Ev.run (pc' := 470) (ls' := [some (.ref 24), some (.int x1), some (.long x2), none, some (.long x4), none, some (.long x6), none, some (.int x8), some (.int x9), some (.int x10), some (.int x11), o12, o13, some (.long x14), none, some (.int x16), some (.int x17), some (.int x18), some (.long y0), none]) (st' := [.int (zi 1), .long (zI2L x10), .ref 24]) (h' := mk s) 4 rfl ?_
    obtain ⟨s23, hq, h⟩ := zb0_some h
    refine Ev.call (M' := mm177) (v := none) (h' := mk s23) rfl rfl rfl (Nat.le_of_ble_eq_true rfl) (k177 hq) ?_
    cases h
    exact Ev.fin rfl rfl
  have h := (if_neg hb).symm.trans h
  have n_107 := hb
  clear hb
  by_cases hb : x1 = zi 108
  · have h := (if_pos hb).symm.trans h
    refine Ev.tsw (t := 491) (k := 108) rfl hb (by rfl) ?_
    refine Ev.run (pc' := 504) (ls' := [some (.ref 24), some (.int x1), some (.long x2), none, some (.long x4), none, some (.long x6), none, some (.int x8), some (.int x9), some (.int x10), some (.int x11), o12, o13, some (.long x14), none, some (.int x16), some (.int x17), some (.int x18), some (.long y0), none]) (st' := [.int (zi 1), .long (zI2L ((zrem (x10 + (zi 11)) (zi 12)) + (zi 1))), .ref 24]) (h' := mk s) 10 rfl ?_
    obtain ⟨s24, hq, h⟩ := zb0_some h
    refine Ev.call (M' := mm177) (v := none) (h' := mk s24) rfl rfl rfl (Nat.le_of_ble_eq_true rfl) (k177 hq) ?_
    cases h
    exact Ev.fin rfl rfl
  have h := (if_neg hb).symm.trans h
  have n_108 := hb
  clear hb
  by_cases hb : x1 = zi 109
  · have h := (if_pos hb).symm.trans h
    refine Ev.tsw (t := 583) (k := 109) rfl hb (by rfl) ?_
    refine Ev.run (pc' := 590) (ls' := [some (.ref 24), some (.int x1), some (.long x2), none, some (.long x4), none, some (.long x6), none, some (.int x8), some (.int x9), some (.int x10), some (.int x11), o12, o13, some (.long x14), none, some (.int x16), some (.int x17), some (.int x18), some (.long y0), none]) (st' := [.int (zi 2), .long (zI2L (x17 + (zi 1))), .ref 24]) (h' := mk s) 6 rfl ?_
    obtain ⟨s25, hq, h⟩ := zb0_some h
    refine Ev.call (M' := mm177) (v := none) (h' := mk s25) rfl rfl rfl (Nat.le_of_ble_eq_true rfl) (k177 hq) ?_
    cases h
    exact Ev.fin rfl rfl
  have h := (if_neg hb).symm.trans h
  have n_109 := hb
  clear hb
  by_cases hb : x1 = zi 112
  · have h := (if_pos hb).symm.trans h
    refine Ev.tsw (t := 683) (k := 112) rfl hb (by rfl) ?_
    refine Ev.run (pc' := 688) (ls' := [some (.ref 24), some (.int x1), some (.long x2), none, some (.long x4), none, some (.long x6), none, some (.int x8), some (.int x9), some (.int x10), some (.int x11), o12, o13, some (.long x14), none, some (.int x16), some (.int x17), some (.int x18), some (.long y0), none]) (st' := [.int (zi 12), .int x10, .ref 24]) (h' := mk s) 3 rfl ?_
    refine Ev.icmp_ge (t := 697) rfl rfl (fun hb => ?_) (fun hb => ?_)
    · have h := (if_pos hb).symm.trans h
      refine Ev.run (pc' := 700) (ls' := [some (.ref 24), some (.int x1), some (.long x2), none, some (.long x4), none, some (.long x6), none, some (.int x8), some (.int x9), some (.int x10), some (.int x11), o12, o13, some (.long x14), none, some (.int x16), some (.int x17), some (.int x18), some (.long y0), none]) (st' := [.ref (mRO + 3 + 2 * 70), .ref 24]) (h' := mk s) 1 rfl ?_
      exact k192_700 htms 70 s _ _ _ _ _ _ _ _ _ _ _ _ _ _ _ _ _ _ _ _ _ _ (by decide) h
    · have h := (if_neg hb).symm.trans h
      refine Ev.run (pc' := 700) (ls' := [some (.ref 24), some (.int x1), some (.long x2), none, some (.long x4), none, some (.long x6), none, some (.int x8), some (.int x9), some (.int x10), some (.int x11), o12, o13, some (.long x14), none, some (.int x16), some (.int x17), some (.int x18), some (.long y0), none]) (st' := [.ref (mRO + 3 + 2 * 69), .ref 24]) (h' := mk s) 2 rfl ?_
      exact k192_700 htms 69 s _ _ _ _ _ _ _ _ _ _ _ _ _ _ _ _ _ _ _ _ _ _ (by decide) h
  have h := (if_neg hb).symm.trans h
  have n_112 := hb
  clear hb
  by_cases hb : x1 = zi 114
  · have h := (if_pos hb).symm.trans h
    refine Ev.tsw (t := 733) (k := 114) rfl hb (by rfl) ?_
    refine Ev.run (pc' := 737) (ls' := [some (.ref 24), some (.int x1), some (.long x2), none, some (.long x4), none, some (.long x6), none, some (.int x8), some (.int x9), some (.int x10), some (.int x11), o12, o13, some (.long x14), none, some (.int x16), some (.int x17), some (.int x18), some (.long y0), none]) (st' := [.ref (mRO + 3 + 2 * 73), .ref 24]) (h' := mk s) 2 rfl ?_
    obtain ⟨s26, hq, h⟩ := zb0_some h
    refine Ev.call (M' := mm193) (v := none) (h' := mk s26) rfl rfl rfl (Nat.le_of_ble_eq_true rfl) (htms (by decide) hq) ?_
    refine Ev.run (pc' := 745) (ls' := [some (.ref 24), some (.int x1), some (.long x2), none, some (.long x4), none, some (.long x6), none, some (.int x8), some (.int x9), some (.int x10), some (.int x11), o12, o13, some (.long x14), none, some (.int x16), some (.int x17), some (.int x18), some (.long y0), none]) (st' := [.int (zi 12), .int x10, .ref 24]) (h' := mk s26) 3 rfl ?_
    refine Ev.icmp_ge (t := 754) rfl rfl (fun hb => ?_) (fun hb => ?_)
    · have h := (if_pos hb).symm.trans h
      refine Ev.run (pc' := 757) (ls' := [some (.ref 24), some (.int x1), some (.long x2), none, some (.long x4), none, some (.long x6), none, some (.int x8), some (.int x9), some (.int x10), some (.int x11), o12, o13, some (.long x14), none, some (.int x16), some (.int x17), some (.int x18), some (.long y0), none]) (st' := [.ref (mRO + 3 + 2 * 75), .ref 24]) (h' := mk s26) 1 rfl ?_
      exact k192_757 htms 75 s26 _ _ _ _ _ _ _ _ _ _ _ _ _ _ _ _ _ _ _ _ _ _ (by decide) h
    · have h := (if_neg hb).symm.trans h
      refine Ev.run (pc' := 757) (ls' := [some (.ref 24), some (.int x1), some (.long x2), none, some (.long x4), none, some (.long x6), none, some (.int x8), some (.int x9), some (.int x10), some (.int x11), o12, o13, some (.long x14), none, some (.int x16), some (.int x17), some (.int x18), some (.long y0), none]) (st' := [.ref (mRO + 3 + 2 * 74), .ref 24]) (h' := mk s26) 2 rfl ?_
      exact k192_757 htms 74 s26 _ _ _ _ _ _ _ _ _ _ _ _ _ _ _ _ _ _ _ _ _ _ (by decide) h
  have h := (if_neg hb).symm.trans h
  have n_114 := hb
  clear hb
  by_cases hb : x1 = zi 115
  · have h := (if_pos hb).symm.trans h
    refine Ev.tsw (t := 704) (k := 115) rfl hb (by rfl) ?_
    refine Ev.run (pc' := 707) (ls' := [some (.ref 24), some (.int x1), some (.long x2), none, some (.long x4), none, some (.long x6), none, some (.int x8), some (.int x9), some (.int x10), some (.int x11), o12, o13, some (.long x14), none, some (.int x16), some (.int x17), some (.int x18), some (.long y0), none]) (st' := [.long x4, .ref 24]) (h' := mk s) 2 rfl ?_
    obtain ⟨s27, hq, h⟩ := zb0_some h
    refine Ev.call (M' := mm194) (v := none) (h' := mk s27) rfl rfl rfl (Nat.le_of_ble_eq_true rfl) (k194 hq) ?_
    cases h
    exact Ev.fin rfl rfl
  have h := (if_neg hb).symm.trans h
  have n_115 := hb
  clear hb
  by_cases hb : x1 = zi 121
  · have h := (if_pos hb).symm.trans h
    refine Ev.tsw (t := 559) (k := 121) rfl hb (by rfl) ?_
    refine Ev.run (pc' := 567) (ls' := [some (.ref 24), some (.int x1), some (.long x2), none, some (.long x4), none, some (.long x6), none, some (.int x8), some (.int x9), some (.int x10), some (.int x11), o12, o13, some (.long x14), none, some (.int x16), some (.int x17), some (.int x18), some (.long y0), none]) (st' := [.int (zi 2), .long (zremL y0 (zl 100)), .ref 24]) (h' := mk s) 5 rfl ?_
    obtain ⟨s28, hq, h⟩ := zb0_some h
    refine Ev.call (M' := mm177) (v := none) (h' := mk s28) rfl rfl rfl (Nat.le_of_ble_eq_true rfl) (k177 hq) ?_
    cases h
    exact Ev.fin rfl rfl
  have h := (if_neg hb).symm.trans h
  have n_121 := hb
  clear hb
  refine Ev.tswd (t := 769) rfl (by rfl) (by decide) (fun q hq hx => ?_) ?_
  · have hq : q < 57 := hq
    have hq2 : q = 0 ∨ q = 1 ∨ q = 2 ∨ q = 3 ∨ q = 4 ∨ q = 5 ∨ q = 6 ∨ q = 7 ∨ q = 8 ∨ q = 9 ∨ q = 10 ∨ q = 11 ∨ q = 12 ∨ q = 13 ∨ q = 14 ∨ q = 15 ∨ q = 16 ∨ q = 17 ∨ q = 18 ∨ q = 19 ∨ q = 20 ∨ q = 21 ∨ q = 22 ∨ q = 23 ∨ q = 24 ∨ q = 25 ∨ q = 26 ∨ q = 27 ∨ q = 28 ∨ q = 29 ∨ q = 30 ∨ q = 31 ∨ q = 32 ∨ q = 33 ∨ q = 34 ∨ q = 35 ∨ q = 36 ∨ q = 37 ∨ q = 38 ∨ q = 39 ∨ q = 40 ∨ q = 41 ∨ q = 42 ∨ q = 43 ∨ q = 44 ∨ q = 45 ∨ q = 46 ∨ q = 47 ∨ q = 48 ∨ q = 49 ∨ q = 50 ∨ q = 51 ∨ q = 52 ∨ q = 53 ∨ q = 54 ∨ q = 55 ∨ q = 56 := by omega
    rcases hq2 with rfl | rfl | rfl | rfl | rfl | rfl | rfl | rfl | rfl | rfl | rfl | rfl | rfl | rfl | rfl | rfl | rfl | rfl | rfl | rfl | rfl | rfl | rfl | rfl | rfl | rfl | rfl | rfl | rfl | rfl | rfl | rfl | rfl | rfl | rfl | rfl | rfl | rfl | rfl | rfl | rfl | rfl | rfl | rfl | rfl | rfl | rfl | rfl | rfl | rfl | rfl | rfl | rfl | rfl | rfl | rfl | rfl
    · exact absurd (zi_of_toInt hx) n_65
    · exact absurd (zi_of_toInt hx) n_66
    · exact absurd (zi_of_toInt hx) n_67
    · exact absurd (zi_of_toInt hx) n_68
    · exact ⟨_, rfl, rfl⟩
    · exact ⟨_, rfl, rfl⟩
    · exact ⟨_, rfl, rfl⟩
    · exact absurd (zi_of_toInt hx) n_72
    · exact absurd (zi_of_toInt hx) n_73
    · exact ⟨_, rfl, rfl⟩
    · exact ⟨_, rfl, rfl⟩
    · exact absurd (zi_of_toInt hx) n_76
    · exact absurd (zi_of_toInt hx) n_77
    · exact ⟨_, rfl, rfl⟩
    · exact ⟨_, rfl, rfl⟩
    · exact ⟨_, rfl, rfl⟩
    · exact absurd (zi_of_toInt hx) n_81
    · exact absurd (zi_of_toInt hx) n_82
    · exact absurd (zi_of_toInt hx) n_83
    · exact absurd (zi_of_toInt hx) n_84
    · exact ⟨_, rfl, rfl⟩
    · exact ⟨_, rfl, rfl⟩
    · exact ⟨_, rfl, rfl⟩
    · exact ⟨_, rfl, rfl⟩
    · exact absurd (zi_of_toInt hx) n_89
    · exact ⟨_, rfl, rfl⟩
    · exact ⟨_, rfl, rfl⟩
    · exact ⟨_, rfl, rfl⟩
    · exact ⟨_, rfl, rfl⟩
    · exact ⟨_, rfl, rfl⟩
    · exact ⟨_, rfl, rfl⟩
    · exact ⟨_, rfl, rfl⟩
    · exact absurd (zi_of_toInt hx) n_97
    · exact absurd (zi_of_toInt hx) n_98
    · exact ⟨_, rfl, rfl⟩
    · exact absurd (zi_of_toInt hx) n_100
    · exact absurd (zi_of_toInt hx) n_101
    · exact ⟨_, rfl, rfl⟩
    · exact ⟨_, rfl, rfl⟩
    · exact ⟨_, rfl, rfl⟩
    · exact ⟨_, rfl, rfl⟩
    · exact absurd (zi_of_toInt hx) n_106
    · exact absurd (zi_of_toInt hx) n_107
    · exact absurd (zi_of_toInt hx) n_108
    · exact absurd (zi_of_toInt hx) n_109
    · exact ⟨_, rfl, rfl⟩
    · exact ⟨_, rfl, rfl⟩
    · exact absurd (zi_of_toInt hx) n_112
    · exact ⟨_, rfl, rfl⟩
    · exact absurd (zi_of_toInt hx) n_114
    · exact absurd (zi_of_toInt hx) n_115
    · exact ⟨_, rfl, rfl⟩
    · exact ⟨_, rfl, rfl⟩
    · exact ⟨_, rfl, rfl⟩
    · exact ⟨_, rfl, rfl⟩
    · exact ⟨_, rfl, rfl⟩
    · exact absurd (zi_of_toInt hx) n_121
  · refine Ev.run (pc' := 773) (ls' := [some (.ref 24), some (.int x1), some (.long x2), none, some (.long x4), none, some (.long x6), none, some (.int x8), some (.int x9), some (.int x10), some (.int x11), o12, o13, some (.long x14), none, some (.int x16), some (.int x17), some (.int x18), some (.long y0), none]) (st' := [.ref (mRO + 3 + 2 * 77), .ref 24]) (h' := mk s) 2 rfl ?_
    obtain ⟨s29, hq, h⟩ := zb0_some h
    refine Ev.call (M' := mm193) (v := none) (h' := mk s29) rfl rfl rfl (Nat.le_of_ble_eq_true rfl) (htms (by decide) hq) ?_
    cases h
    exact Ev.fin rfl rfl
def b192_165 (tms : Nat → zS → Option zS) (rec165 : Int32 → Int64 → Int64 → Int64 → Int32 → Int32 → Int32 → Int32 → Int64 → Int32 → Int32 → Int32 → zS → Option (zS)) (x1 : Int32) (x2 : Int64) (x4 : Int64) (x6 : Int64) (x8 : Int32) (x9 : Int32) (x10 : Int32) (x11 : Int32) (x14 : Int64) (x16 : Int32) (x17 : Int32) (x18 : Int32) (s : zS) : Option (zS) := if x16 < (r191 x14 x17 s) then if x14 ≥ (zl 0) then f192_210 tms x1 x2 x4 x6 x8 x9 x10 x11 x14 x16 x17 x18 x14 s else f192_210 tms x1 x2 x4 x6 x8 x9 x10 x11 x14 x16 x17 x18 (-x14) s else rec165 x1 x2 x4 x6 x8 x9 x10 x11 x14 (x16 - (r191 x14 x17 s)) (x17 + zi 1) x18 s
set_option maxRecDepth 100000 in
theorem kb192_165 {X : mX} {D : Nat} {tms : Nat → zS → Option zS} {rec165 : Int32 → Int64 → Int64 → Int64 → Int32 → Int32 → Int32 → Int32 → Int64 → Int32 → Int32 → Int32 → zS → Option (zS)} (htms : ∀ {c s s2}, c < 78 → tms c s = some s2 → Ev X (D + 5) mm193 0 [some (.ref 24), some (.ref (mRO + 3 + 2 * c)), none, none] [] (mk s) (encV s2)) (hrec165 : ∀ (x1 : Int32) (x2 : Int64) (x4 : Int64) (x6 : Int64) (x8 : Int32) (x9 : Int32) (x10 : Int32) (x11 : Int32) (x14 : Int64) (x16 : Int32) (x17 : Int32) (x18 : Int32) (s : zS) (r : zS) (o12 : Option Value) (o13 : Option Value) (o19 : Option Value) (o20 : Option Value), rec165 x1 x2 x4 x6 x8 x9 x10 x11 x14 x16 x17 x18 s = some r → Ev X (D + 6) mm192 165 [some (.ref 24), some (.int x1), some (.long x2), none, some (.long x4), none, some (.long x6), none, some (.int x8), some (.int x9), some (.int x10), some (.int x11), o12, o13, some (.long x14), none, some (.int x16), some (.int x17), some (.int x18), o19, o20] [] (mk s) (encV r)) (x1 : Int32) (x2 : Int64) (x4 : Int64) (x6 : Int64) (x8 : Int32) (x9 : Int32) (x10 : Int32) (x11 : Int32) (x14 : Int64) (x16 : Int32) (x17 : Int32) (x18 : Int32) (s : zS) (r : zS) (o12 : Option Value) (o13 : Option Value) (o19 : Option Value) (o20 : Option Value)  (h : b192_165 tms rec165 x1 x2 x4 x6 x8 x9 x10 x11 x14 x16 x17 x18 s = some r) : Ev X (D + 6) mm192 165 [some (.ref 24), some (.int x1), some (.long x2), none, some (.long x4), none, some (.long x6), none, some (.int x8), some (.int x9), some (.int x10), some (.int x11), o12, o13, some (.long x14), none, some (.int x16), some (.int x17), some (.int x18), o19, o20] [] (mk s) (encV r) := by
  unfold b192_165 at h
  refine Ev.run (pc' := 171) (ls' := [some (.ref 24), some (.int x1), some (.long x2), none, some (.long x4), none, some (.long x6), none, some (.int x8), some (.int x9), some (.int x10), some (.int x11), o12, o13, some (.long x14), none, some (.int x16), some (.int x17), some (.int x18), o19, o20]) (st' := [.int x17, .long x14, .int x16]) (h' := mk s) 3 rfl ?_
  refine Ev.call (M' := mm191) (v := some (.int (r191 x14 x17 s))) (h' := mk s) rfl rfl rfl (Nat.le_of_ble_eq_true rfl) (k191 (x0 := x14) (x2 := x17) (s := s) (v := r191 x14 x17 s)  rfl) ?_
  refine Ev.icmp_lt (t := 195) rfl rfl (fun hb => ?_) (fun hb => ?_)
  · have h := (if_pos hb).symm.trans h
    refine Ev.run (pc' := 199) (ls' := [some (.ref 24), some (.int x1), some (.long x2), none, some (.long x4), none, some (.long x6), none, some (.int x8), some (.int x9), some (.int x10), some (.int x11), o12, o13, some (.long x14), none, some (.int x16), some (.int x17), some (.int x18), o19, o20]) (st' := [.int (lg_cmp x14 (zl 0))]) (h' := mk s) 3 rfl ?_
    refine Ev.ifl_ge (t := 208) rfl rfl (fun hb => ?_) (fun hb => ?_)
    · have h := (if_pos hb).symm.trans h
      refine Ev.run (pc' := 210) (ls' := [some (.ref 24), some (.int x1), some (.long x2), none, some (.long x4), none, some (.long x6), none, some (.int x8), some (.int x9), some (.int x10), some (.int x11), o12, o13, some (.long x14), none, some (.int x16), some (.int x17), some (.int x18), o19, o20]) (st' := [.long x14]) (h' := mk s) 1 rfl ?_
      exact k192_210 htms x1 x2 x4 x6 x8 x9 x10 x11 x14 x16 x17 x18 x14 s _ _ _ _ _ h
    · have h := (if_neg hb).symm.trans h
      refine Ev.run (pc' := 210) (ls' := [some (.ref 24), some (.int x1), some (.long x2), none, some (.long x4), none, some (.long x6), none, some (.int x8), some (.int x9), some (.int x10), some (.int x11), o12, o13, some (.long x14), none, some (.int x16), some (.int x17), some (.int x18), o19, o20]) (st' := [.long (-x14)]) (h' := mk s) 3 rfl ?_
      exact k192_210 htms x1 x2 x4 x6 x8 x9 x10 x11 x14 x16 x17 x18 (-x14) s _ _ _ _ _ h
  · have h := (if_neg hb).symm.trans h
    refine Ev.run (pc' := 183) (ls' := [some (.ref 24), some (.int x1), some (.long x2), none, some (.long x4), none, some (.long x6), none, some (.int x8), some (.int x9), some (.int x10), some (.int x11), o12, o13, some (.long x14), none, some (.int x16), some (.int x17), some (.int x18), o19, o20]) (st' := [.int x17, .long x14, .int x16]) (h' := mk s) 3 rfl ?_
    refine Ev.call (M' := mm191) (v := some (.int (r191 x14 x17 s))) (h' := mk s) rfl rfl rfl (Nat.le_of_ble_eq_true rfl) (k191 (x0 := x14) (x2 := x17) (s := s) (v := r191 x14 x17 s)  rfl) ?_
    refine Ev.run (pc' := 165) (ls' := [some (.ref 24), some (.int x1), some (.long x2), none, some (.long x4), none, some (.long x6), none, some (.int x8), some (.int x9), some (.int x10), some (.int x11), o12, o13, some (.long x14), none, some (.int (x16 - (r191 x14 x17 s))), some (.int (x17 + zi 1)), some (.int x18), o19, o20]) (st' := []) (h' := mk s) 4 rfl ?_
    exact hrec165 x1 x2 x4 x6 x8 x9 x10 x11 x14 (x16 - (r191 x14 x17 s)) (x17 + zi 1) x18 s _ _ _ _ _ h
def f192_165 (tms : Nat → zS → Option zS)  : Nat → Int32 → Int64 → Int64 → Int64 → Int32 → Int32 → Int32 → Int32 → Int64 → Int32 → Int32 → Int32 → zS → Option (zS)
  | 0, _, _, _, _, _, _, _, _, _, _, _, _, _ => none
  | n + 1, x1, x2, x4, x6, x8, x9, x10, x11, x14, x16, x17, x18, s => b192_165 tms (f192_165 tms n) x1 x2 x4 x6 x8 x9 x10 x11 x14 x16 x17 x18 s
set_option maxRecDepth 100000 in
theorem k192_165 {X : mX} {D : Nat} {tms : Nat → zS → Option zS}  (htms : ∀ {c s s2}, c < 78 → tms c s = some s2 → Ev X (D + 5) mm193 0 [some (.ref 24), some (.ref (mRO + 3 + 2 * c)), none, none] [] (mk s) (encV s2))  (n : Nat) : ∀ (x1 : Int32) (x2 : Int64) (x4 : Int64) (x6 : Int64) (x8 : Int32) (x9 : Int32) (x10 : Int32) (x11 : Int32) (x14 : Int64) (x16 : Int32) (x17 : Int32) (x18 : Int32) (s : zS) (r : zS) (o12 : Option Value) (o13 : Option Value) (o19 : Option Value) (o20 : Option Value), f192_165 tms  n x1 x2 x4 x6 x8 x9 x10 x11 x14 x16 x17 x18 s = some r → Ev X (D + 6) mm192 165 [some (.ref 24), some (.int x1), some (.long x2), none, some (.long x4), none, some (.long x6), none, some (.int x8), some (.int x9), some (.int x10), some (.int x11), o12, o13, some (.long x14), none, some (.int x16), some (.int x17), some (.int x18), o19, o20] [] (mk s) (encV r) := by
  induction n with
  | zero => intro x1 x2 x4 x6 x8 x9 x10 x11 x14 x16 x17 x18 s r o12 o13 o19 o20  h; cases h
  | succ n ih => intro x1 x2 x4 x6 x8 x9 x10 x11 x14 x16 x17 x18 s r o12 o13 o19 o20  h; exact kb192_165 htms ih x1 x2 x4 x6 x8 x9 x10 x11 x14 x16 x17 x18 s r o12 o13 o19 o20  h
def f192_147 (tms : Nat → zS → Option zS) (rec106 : Int32 → Int64 → Int64 → Int64 → Int32 → Int32 → Int32 → Int32 → Int64 → Int32 → Int32 → zS → Option (zS)) (x1 : Int32) (x2 : Int64) (x4 : Int64) (x6 : Int64) (x8 : Int32) (x9 : Int32) (x10 : Int32) (x11 : Int32) (x14 : Int64) (x17 : Int32) (y0 : Int32) (y1 : Int32) (s : zS) : Option (zS) := rec106 x1 x2 x4 x6 x8 x9 x10 x11 (x14 + (zl 1)) (y0 - y1) x17 s
set_option maxRecDepth 100000 in
theorem k192_147 {X : mX} {D : Nat} {tms : Nat → zS → Option zS} {rec106 : Int32 → Int64 → Int64 → Int64 → Int32 → Int32 → Int32 → Int32 → Int64 → Int32 → Int32 → zS → Option (zS)} (htms : ∀ {c s s2}, c < 78 → tms c s = some s2 → Ev X (D + 5) mm193 0 [some (.ref 24), some (.ref (mRO + 3 + 2 * c)), none, none] [] (mk s) (encV s2)) (hrec106 : ∀ (x1 : Int32) (x2 : Int64) (x4 : Int64) (x6 : Int64) (x8 : Int32) (x9 : Int32) (x10 : Int32) (x11 : Int32) (x14 : Int64) (x16 : Int32) (x17 : Int32) (s : zS) (r : zS) (o12 : Option Value) (o18 : Option Value) (o19 : Option Value) (o20 : Option Value), rec106 x1 x2 x4 x6 x8 x9 x10 x11 x14 x16 x17 s = some r → Ev X (D + 6) mm192 106 [some (.ref 24), some (.int x1), some (.long x2), none, some (.long x4), none, some (.long x6), none, some (.int x8), some (.int x9), some (.int x10), some (.int x11), o12, none, some (.long x14), none, some (.int x16), some (.int x17), o18, o19, o20] [] (mk s) (encV r)) (x1 : Int32) (x2 : Int64) (x4 : Int64) (x6 : Int64) (x8 : Int32) (x9 : Int32) (x10 : Int32) (x11 : Int32) (x14 : Int64) (x17 : Int32) (y0 : Int32) (y1 : Int32) (s : zS) (r : zS) (o12 : Option Value) (o16 : Option Value) (o18 : Option Value) (o19 : Option Value) (o20 : Option Value)  (h : f192_147 tms rec106 x1 x2 x4 x6 x8 x9 x10 x11 x14 x17 y0 y1 s = some r) : Ev X (D + 6) mm192 147 [some (.ref 24), some (.int x1), some (.long x2), none, some (.long x4), none, some (.long x6), none, some (.int x8), some (.int x9), some (.int x10), some (.int x11), o12, none, some (.long x14), none, o16, some (.int x17), o18, o19, o20] [.int y1, .int y0] (mk s) (encV r) := by
  unfold f192_147 at h
  refine Ev.run (pc' := 106) (ls' := [some (.ref 24), some (.int x1), some (.long x2), none, some (.long x4), none, some (.long x6), none, some (.int x8), some (.int x9), some (.int x10), some (.int x11), o12, none, some (.long (x14 + (zl 1))), none, some (.int (y0 - y1)), some (.int x17), o18, o19, o20]) (st' := []) (h' := mk s) 7 rfl ?_
  exact hrec106 x1 x2 x4 x6 x8 x9 x10 x11 (x14 + (zl 1)) (y0 - y1) x17 s _ _ _ _ _ h
def f192_125 (tms : Nat → zS → Option zS) (rec106 : Int32 → Int64 → Int64 → Int64 → Int32 → Int32 → Int32 → Int32 → Int64 → Int32 → Int32 → zS → Option (zS)) (x1 : Int32) (x2 : Int64) (x4 : Int64) (x6 : Int64) (x8 : Int32) (x9 : Int32) (x10 : Int32) (x11 : Int32) (x14 : Int64) (x16 : Int32) (x17 : Int32) (y0 : Int32) (y1 : Int32) (s : zS) : Option (zS) := if y0 < y1 then f192_165 tms zF x1 x2 x4 x6 x8 x9 x10 x11 x14 x16 x17 (x16 + (zi 1)) s else if (r190 x14 s) = zi 0 then f192_147 tms rec106 x1 x2 x4 x6 x8 x9 x10 x11 x14 x17 x16 (zi 365) s else f192_147 tms rec106 x1 x2 x4 x6 x8 x9 x10 x11 x14 x17 x16 (zi 366) s
set_option maxRecDepth 100000 in
theorem k192_125 {X : mX} {D : Nat} {tms : Nat → zS → Option zS} {rec106 : Int32 → Int64 → Int64 → Int64 → Int32 → Int32 → Int32 → Int32 → Int64 → Int32 → Int32 → zS → Option (zS)} (htms : ∀ {c s s2}, c < 78 → tms c s = some s2 → Ev X (D + 5) mm193 0 [some (.ref 24), some (.ref (mRO + 3 + 2 * c)), none, none] [] (mk s) (encV s2)) (hrec106 : ∀ (x1 : Int32) (x2 : Int64) (x4 : Int64) (x6 : Int64) (x8 : Int32) (x9 : Int32) (x10 : Int32) (x11 : Int32) (x14 : Int64) (x16 : Int32) (x17 : Int32) (s : zS) (r : zS) (o12 : Option Value) (o18 : Option Value) (o19 : Option Value) (o20 : Option Value), rec106 x1 x2 x4 x6 x8 x9 x10 x11 x14 x16 x17 s = some r → Ev X (D + 6) mm192 106 [some (.ref 24), some (.int x1), some (.long x2), none, some (.long x4), none, some (.long x6), none, some (.int x8), some (.int x9), some (.int x10), some (.int x11), o12, none, some (.long x14), none, some (.int x16), some (.int x17), o18, o19, o20] [] (mk s) (encV r)) (x1 : Int32) (x2 : Int64) (x4 : Int64) (x6 : Int64) (x8 : Int32) (x9 : Int32) (x10 : Int32) (x11 : Int32) (x14 : Int64) (x16 : Int32) (x17 : Int32) (y0 : Int32) (y1 : Int32) (s : zS) (r : zS) (o12 : Option Value) (o18 : Option Value) (o19 : Option Value) (o20 : Option Value)  (h : f192_125 tms rec106 x1 x2 x4 x6 x8 x9 x10 x11 x14 x16 x17 y0 y1 s = some r) : Ev X (D + 6) mm192 125 [some (.ref 24), some (.int x1), some (.long x2), none, some (.long x4), none, some (.long x6), none, some (.int x8), some (.int x9), some (.int x10), some (.int x11), o12, none, some (.long x14), none, some (.int x16), some (.int x17), o18, o19, o20] [.int y1, .int y0] (mk s) (encV r) := by
  unfold f192_125 at h
  refine Ev.icmp_lt (t := 159) rfl rfl (fun hb => ?_) (fun hb => ?_)
  · have h := (if_pos hb).symm.trans h
    refine Ev.run (pc' := 165) (ls' := [some (.ref 24), some (.int x1), some (.long x2), none, some (.long x4), none, some (.long x6), none, some (.int x8), some (.int x9), some (.int x10), some (.int x11), o12, none, some (.long x14), none, some (.int x16), some (.int x17), some (.int (x16 + (zi 1))), o19, o20]) (st' := []) (h' := mk s) 4 rfl ?_
    exact k192_165 htms zF x1 x2 x4 x6 x8 x9 x10 x11 x14 x16 x17 (x16 + (zi 1)) s _ _ _ _ _ h
  · have h := (if_neg hb).symm.trans h
    refine Ev.run (pc' := 132) (ls' := [some (.ref 24), some (.int x1), some (.long x2), none, some (.long x4), none, some (.long x6), none, some (.int x8), some (.int x9), some (.int x10), some (.int x11), o12, none, some (.long x14), none, some (.int x16), some (.int x17), o18, o19, o20]) (st' := [.long x14, .int x16]) (h' := mk s) 2 rfl ?_
    refine Ev.call (M' := mm190) (v := some (.int (r190 x14 s))) (h' := mk s) rfl rfl rfl (Nat.le_of_ble_eq_true rfl) (k190 (x0 := x14) (s := s) (v := r190 x14 s)  rfl) ?_
    refine Ev.if_eq (t := 144) rfl rfl (fun hb => ?_) (fun hb => ?_)
    · have h := (if_pos hb).symm.trans h
      refine Ev.run (pc' := 147) (ls' := [some (.ref 24), some (.int x1), some (.long x2), none, some (.long x4), none, some (.long x6), none, some (.int x8), some (.int x9), some (.int x10), some (.int x11), o12, none, some (.long x14), none, some (.int x16), some (.int x17), o18, o19, o20]) (st' := [.int (zi 365), .int x16]) (h' := mk s) 1 rfl ?_
      exact k192_147 htms hrec106 x1 x2 x4 x6 x8 x9 x10 x11 x14 x17 x16 (zi 365) s _ _ _ _ _ _ h
    · have h := (if_neg hb).symm.trans h
      refine Ev.run (pc' := 147) (ls' := [some (.ref 24), some (.int x1), some (.long x2), none, some (.long x4), none, some (.long x6), none, some (.int x8), some (.int x9), some (.int x10), some (.int x11), o12, none, some (.long x14), none, some (.int x16), some (.int x17), o18, o19, o20]) (st' := [.int (zi 366), .int x16]) (h' := mk s) 2 rfl ?_
      exact k192_147 htms hrec106 x1 x2 x4 x6 x8 x9 x10 x11 x14 x17 x16 (zi 366) s _ _ _ _ _ _ h
def b192_106 (tms : Nat → zS → Option zS) (rec106 : Int32 → Int64 → Int64 → Int64 → Int32 → Int32 → Int32 → Int32 → Int64 → Int32 → Int32 → zS → Option (zS)) (x1 : Int32) (x2 : Int64) (x4 : Int64) (x6 : Int64) (x8 : Int32) (x9 : Int32) (x10 : Int32) (x11 : Int32) (x14 : Int64) (x16 : Int32) (x17 : Int32) (s : zS) : Option (zS) := if (r190 x14 s) = zi 0 then f192_125 tms rec106 x1 x2 x4 x6 x8 x9 x10 x11 x14 x16 x17 x16 (zi 365) s else f192_125 tms rec106 x1 x2 x4 x6 x8 x9 x10 x11 x14 x16 x17 x16 (zi 366) s
set_option maxRecDepth 100000 in
theorem kb192_106 {X : mX} {D : Nat} {tms : Nat → zS → Option zS} {rec106 : Int32 → Int64 → Int64 → Int64 → Int32 → Int32 → Int32 → Int32 → Int64 → Int32 → Int32 → zS → Option (zS)} (htms : ∀ {c s s2}, c < 78 → tms c s = some s2 → Ev X (D + 5) mm193 0 [some (.ref 24), some (.ref (mRO + 3 + 2 * c)), none, none] [] (mk s) (encV s2)) (hrec106 : ∀ (x1 : Int32) (x2 : Int64) (x4 : Int64) (x6 : Int64) (x8 : Int32) (x9 : Int32) (x10 : Int32) (x11 : Int32) (x14 : Int64) (x16 : Int32) (x17 : Int32) (s : zS) (r : zS) (o12 : Option Value) (o18 : Option Value) (o19 : Option Value) (o20 : Option Value), rec106 x1 x2 x4 x6 x8 x9 x10 x11 x14 x16 x17 s = some r → Ev X (D + 6) mm192 106 [some (.ref 24), some (.int x1), some (.long x2), none, some (.long x4), none, some (.long x6), none, some (.int x8), some (.int x9), some (.int x10), some (.int x11), o12, none, some (.long x14), none, some (.int x16), some (.int x17), o18, o19, o20] [] (mk s) (encV r)) (x1 : Int32) (x2 : Int64) (x4 : Int64) (x6 : Int64) (x8 : Int32) (x9 : Int32) (x10 : Int32) (x11 : Int32) (x14 : Int64) (x16 : Int32) (x17 : Int32) (s : zS) (r : zS) (o12 : Option Value) (o18 : Option Value) (o19 : Option Value) (o20 : Option Value)  (h : b192_106 tms rec106 x1 x2 x4 x6 x8 x9 x10 x11 x14 x16 x17 s = some r) : Ev X (D + 6) mm192 106 [some (.ref 24), some (.int x1), some (.long x2), none, some (.long x4), none, some (.long x6), none, some (.int x8), some (.int x9), some (.int x10), some (.int x11), o12, none, some (.long x14), none, some (.int x16), some (.int x17), o18, o19, o20] [] (mk s) (encV r) := by
  unfold b192_106 at h
  refine Ev.run (pc' := 110) (ls' := [some (.ref 24), some (.int x1), some (.long x2), none, some (.long x4), none, some (.long x6), none, some (.int x8), some (.int x9), some (.int x10), some (.int x11), o12, none, some (.long x14), none, some (.int x16), some (.int x17), o18, o19, o20]) (st' := [.long x14, .int x16]) (h' := mk s) 2 rfl ?_
  refine Ev.call (M' := mm190) (v := some (.int (r190 x14 s))) (h' := mk s) rfl rfl rfl (Nat.le_of_ble_eq_true rfl) (k190 (x0 := x14) (s := s) (v := r190 x14 s)  rfl) ?_
  refine Ev.if_eq (t := 122) rfl rfl (fun hb => ?_) (fun hb => ?_)
  · have h := (if_pos hb).symm.trans h
    refine Ev.run (pc' := 125) (ls' := [some (.ref 24), some (.int x1), some (.long x2), none, some (.long x4), none, some (.long x6), none, some (.int x8), some (.int x9), some (.int x10), some (.int x11), o12, none, some (.long x14), none, some (.int x16), some (.int x17), o18, o19, o20]) (st' := [.int (zi 365), .int x16]) (h' := mk s) 1 rfl ?_
    exact k192_125 htms hrec106 x1 x2 x4 x6 x8 x9 x10 x11 x14 x16 x17 x16 (zi 365) s _ _ _ _ _ h
  · have h := (if_neg hb).symm.trans h
    refine Ev.run (pc' := 125) (ls' := [some (.ref 24), some (.int x1), some (.long x2), none, some (.long x4), none, some (.long x6), none, some (.int x8), some (.int x9), some (.int x10), some (.int x11), o12, none, some (.long x14), none, some (.int x16), some (.int x17), o18, o19, o20]) (st' := [.int (zi 366), .int x16]) (h' := mk s) 2 rfl ?_
    exact k192_125 htms hrec106 x1 x2 x4 x6 x8 x9 x10 x11 x14 x16 x17 x16 (zi 366) s _ _ _ _ _ h
def f192_106 (tms : Nat → zS → Option zS)  : Nat → Int32 → Int64 → Int64 → Int64 → Int32 → Int32 → Int32 → Int32 → Int64 → Int32 → Int32 → zS → Option (zS)
  | 0, _, _, _, _, _, _, _, _, _, _, _, _ => none
  | n + 1, x1, x2, x4, x6, x8, x9, x10, x11, x14, x16, x17, s => b192_106 tms (f192_106 tms n) x1 x2 x4 x6 x8 x9 x10 x11 x14 x16 x17 s
set_option maxRecDepth 100000 in
theorem k192_106 {X : mX} {D : Nat} {tms : Nat → zS → Option zS}  (htms : ∀ {c s s2}, c < 78 → tms c s = some s2 → Ev X (D + 5) mm193 0 [some (.ref 24), some (.ref (mRO + 3 + 2 * c)), none, none] [] (mk s) (encV s2))  (n : Nat) : ∀ (x1 : Int32) (x2 : Int64) (x4 : Int64) (x6 : Int64) (x8 : Int32) (x9 : Int32) (x10 : Int32) (x11 : Int32) (x14 : Int64) (x16 : Int32) (x17 : Int32) (s : zS) (r : zS) (o12 : Option Value) (o18 : Option Value) (o19 : Option Value) (o20 : Option Value), f192_106 tms  n x1 x2 x4 x6 x8 x9 x10 x11 x14 x16 x17 s = some r → Ev X (D + 6) mm192 106 [some (.ref 24), some (.int x1), some (.long x2), none, some (.long x4), none, some (.long x6), none, some (.int x8), some (.int x9), some (.int x10), some (.int x11), o12, none, some (.long x14), none, some (.int x16), some (.int x17), o18, o19, o20] [] (mk s) (encV r) := by
  induction n with
  | zero => intro x1 x2 x4 x6 x8 x9 x10 x11 x14 x16 x17 s r o12 o18 o19 o20  h; cases h
  | succ n ih => intro x1 x2 x4 x6 x8 x9 x10 x11 x14 x16 x17 s r o12 o18 o19 o20  h; exact kb192_106 htms ih x1 x2 x4 x6 x8 x9 x10 x11 x14 x16 x17 s r o12 o18 o19 o20  h
def f192 (tms : Nat → zS → Option zS)  (x1 : Int32) (s : zS) : Option (zS) := if mIx (s.1 24 35) 24 then zb1 (f261 (s.2.1 31 ((s.1 24 35).toNatClampNeg)) (zl 1000) s) (fun v2 s1 => zb1 (f261 v2 (zl 86400) s1) (fun v4 s3 => zb1 (f262 (s.2.1 31 ((s.1 24 35).toNatClampNeg)) (zl 1000) s3) (fun v6 s5 => zb1 (f261 v4 (zl 146097) s5) (fun v8 s7 => f192_106 tms zF x1 (s.2.1 31 ((s.1 24 35).toNatClampNeg)) v2 v4 (zL2I v6) (zL2I (v2 - ((zl 86400) * v4))) ((zL2I (v2 - ((zl 86400) * v4))) / (zi 3600)) (zrem ((zL2I (v2 - ((zl 86400) * v4))) / (zi 60)) (zi 60)) ((zl 1970) + ((zl 400) * v8)) (zL2I (v4 - ((zl 146097) * v8))) (zi 0) s7)))) else none
set_option maxRecDepth 100000 in
theorem k192 {X : mX} {D : Nat} {tms : Nat → zS → Option zS} {x1 : Int32} {s : zS} {r : zS} (htms : ∀ {c s s2}, c < 78 → tms c s = some s2 → Ev X (D + 5) mm193 0 [some (.ref 24), some (.ref (mRO + 3 + 2 * c)), none, none] [] (mk s) (encV s2))  (h : f192 tms x1 s = some r) : Ev X (D + 6) mm192 0 [some (.ref 24), some (.int x1), none, none, none, none, none, none, none, none, none, none, none, none, none, none, none, none, none, none, none] [] (mk s) (encV r) := by
  unfold f192 at h
  refine Ev.run (pc' := 8) (ls' := [some (.ref 24), some (.int x1), none, none, none, none, none, none, none, none, none, none, none, none, none, none, none, none, none, none, none]) (st' := [.int (s.1 24 35), .ref 31]) (h' := mk s) 4 rfl ?_
  obtain ⟨hx, h⟩ := zif h
  refine Ev.step (pc' := 9) rfl (ald_l rfl hx) ?_
  refine Ev.run (pc' := 14) (ls' := [some (.ref 24), some (.int x1), some (.long (s.2.1 31 ((s.1 24 35).toNatClampNeg))), none, none, none, none, none, none, none, none, none, none, none, none, none, none, none, none, none, none]) (st' := [.long (zl 1000), .long (s.2.1 31 ((s.1 24 35).toNatClampNeg))]) (h' := mk s) 3 rfl ?_
  obtain ⟨v2, s1, hq, h⟩ := zb1_some h
  refine Ev.call (M' := mm261) (v := some (.long v2)) (h' := mk s1) rfl rfl rfl (Nat.le_of_ble_eq_true rfl) (k261 hq) ?_
  refine Ev.run (pc' := 24) (ls' := [some (.ref 24), some (.int x1), some (.long (s.2.1 31 ((s.1 24 35).toNatClampNeg))), none, some (.long v2), none, none, none, none, none, none, none, none, none, none, none, none, none, none, none, none]) (st' := [.long (zl 86400), .long v2]) (h' := mk s1) 3 rfl ?_
  obtain ⟨v4, s3, hq, h⟩ := zb1_some h
  refine Ev.call (M' := mm261) (v := some (.long v4)) (h' := mk s3) rfl rfl rfl (Nat.le_of_ble_eq_true rfl) (k261 hq) ?_
  refine Ev.run (pc' := 33) (ls' := [some (.ref 24), some (.int x1), some (.long (s.2.1 31 ((s.1 24 35).toNatClampNeg))), none, some (.long v2), none, some (.long v4), none, none, none, none, none, none, none, none, none, none, none, none, none, none]) (st' := [.long (zl 1000), .long (s.2.1 31 ((s.1 24 35).toNatClampNeg))]) (h' := mk s3) 3 rfl ?_
  obtain ⟨v6, s5, hq, h⟩ := zb1_some h
  refine Ev.call (M' := mm262) (v := some (.long v6)) (h' := mk s5) rfl rfl rfl (Nat.le_of_ble_eq_true rfl) (k262 hq) ?_
  refine Ev.run (pc' := 74) (ls' := [some (.ref 24), some (.int x1), some (.long (s.2.1 31 ((s.1 24 35).toNatClampNeg))), none, some (.long v2), none, some (.long v4), none, some (.int (zL2I v6)), some (.int (zL2I (v2 - ((zl 86400) * v4)))), some (.int ((zL2I (v2 - ((zl 86400) * v4))) / (zi 3600))), some (.int (zrem ((zL2I (v2 - ((zl 86400) * v4))) / (zi 60)) (zi 60))), none, none, none, none, none, none, none, none, none]) (st' := [.long (zl 146097), .long v4]) (h' := mk s5) 21 rfl ?_
  obtain ⟨v8, s7, hq, h⟩ := zb1_some h
  refine Ev.call (M' := mm261) (v := some (.long v8)) (h' := mk s7) rfl rfl rfl (Nat.le_of_ble_eq_true rfl) (k261 hq) ?_
  refine Ev.run (pc' := 106) (ls' := [some (.ref 24), some (.int x1), some (.long (s.2.1 31 ((s.1 24 35).toNatClampNeg))), none, some (.long v2), none, some (.long v4), none, some (.int (zL2I v6)), some (.int (zL2I (v2 - ((zl 86400) * v4)))), some (.int ((zL2I (v2 - ((zl 86400) * v4))) / (zi 3600))), some (.int (zrem ((zL2I (v2 - ((zl 86400) * v4))) / (zi 60)) (zi 60))), some (.long v8), none, some (.long ((zl 1970) + ((zl 400) * v8))), none, some (.int (zL2I (v4 - ((zl 146097) * v8)))), some (.int (zi 0)), none, none, none]) (st' := []) (h' := mk s7) 16 rfl ?_
  exact k192_106 htms zF x1 (s.2.1 31 ((s.1 24 35).toNatClampNeg)) v2 v4 (zL2I v6) (zL2I (v2 - ((zl 86400) * v4))) ((zL2I (v2 - ((zl 86400) * v4))) / (zi 3600)) (zrem ((zL2I (v2 - ((zl 86400) * v4))) / (zi 60)) (zi 60)) ((zl 1970) + ((zl 400) * v8)) (zL2I (v4 - ((zl 146097) * v8))) (zi 0) s7 _ _ _ _ _ h
/-! 193 FModel.times(Ljava.lang.String;)V -/
def f193_34 (tim : Int32 → zS → Option zS) (rec2 : Nat → Int32 → zS → Option (zS)) (c1 : Nat) (x2 : Int32) (x3 : Int32) (s : zS) : Option (zS) := zb0 (f175 x3 s) (fun s1 => rec2 c1 (x2 + zi 1) s1)
set_option maxRecDepth 100000 in
theorem k193_34 {X : mX} {D : Nat} {tim : Int32 → zS → Option zS} {rec2 : Nat → Int32 → zS → Option (zS)} (htim : ∀ {x s s2}, tim x s = some s2 → Ev X (D + 4) mm192 0 [some (.ref 24), some (.int x), none, none, none, none, none, none, none, none, none, none, none, none, none, none, none, none, none, none, none] [] (mk s) (encV s2)) (hrec2 : ∀ (c1 : Nat) (x2 : Int32) (s : zS) (r : zS) (o3 : Option Value), c1 < 78 → rec2 c1 x2 s = some r → Ev X (D + 5) mm193 2 [some (.ref 24), some (.ref (mRO + 3 + 2 * c1)), some (.int x2), o3] [] (mk s) (encV r)) (c1 : Nat) (x2 : Int32) (x3 : Int32) (s : zS) (r : zS)  (hc1 : c1 < 78) (h : f193_34 tim rec2 c1 x2 x3 s = some r) : Ev X (D + 5) mm193 34 [some (.ref 24), some (.ref (mRO + 3 + 2 * c1)), some (.int x2), some (.int x3)] [] (mk s) (encV r) := by
  unfold f193_34 at h
  refine Ev.run (pc' := 36) (ls' := [some (.ref 24), some (.ref (mRO + 3 + 2 * c1)), some (.int x2), some (.int x3)]) (st' := [.int x3, .ref 24]) (h' := mk s) 2 rfl ?_
  obtain ⟨s1, hq, h⟩ := zb0_some h
  refine Ev.call (M' := mm175) (v := none) (h' := mk s1) rfl rfl rfl (Nat.le_of_ble_eq_true rfl) (k175 hq) ?_
  refine Ev.run (pc' := 2) (ls' := [some (.ref 24), some (.ref (mRO + 3 + 2 * c1)), some (.int (x2 + zi 1)), some (.int x3)]) (st' := []) (h' := mk s1) 3 rfl ?_
  exact hrec2 c1 (x2 + zi 1) s1 _ _ hc1 h
def b193_2 (tim : Int32 → zS → Option zS) (rec2 : Nat → Int32 → zS → Option (zS)) (c1 : Nat) (x2 : Int32) (s : zS) : Option (zS) := if x2 ≥ (zlen c1) then some s else if mIx x2 (zlenN c1) then if (zchr c1 x2) = (zi 58) then f193_34 tim rec2 c1 x2 (zchr c1 x2) s else if (zchr c1 x2) = (zi 47) then f193_34 tim rec2 c1 x2 (zchr c1 x2) s else if ¬ (zchr c1 x2) = (zi 45) then zb0 (tim (zchr c1 x2) s) (fun s1 => rec2 c1 (x2 + zi 1) s1) else f193_34 tim rec2 c1 x2 (zchr c1 x2) s else none
set_option maxRecDepth 100000 in
theorem kb193_2 {X : mX} {D : Nat} {tim : Int32 → zS → Option zS} {rec2 : Nat → Int32 → zS → Option (zS)} (htim : ∀ {x s s2}, tim x s = some s2 → Ev X (D + 4) mm192 0 [some (.ref 24), some (.int x), none, none, none, none, none, none, none, none, none, none, none, none, none, none, none, none, none, none, none] [] (mk s) (encV s2)) (hrec2 : ∀ (c1 : Nat) (x2 : Int32) (s : zS) (r : zS) (o3 : Option Value), c1 < 78 → rec2 c1 x2 s = some r → Ev X (D + 5) mm193 2 [some (.ref 24), some (.ref (mRO + 3 + 2 * c1)), some (.int x2), o3] [] (mk s) (encV r)) (c1 : Nat) (x2 : Int32) (s : zS) (r : zS) (o3 : Option Value) (hc1 : c1 < 78) (h : b193_2 tim rec2 c1 x2 s = some r) : Ev X (D + 5) mm193 2 [some (.ref 24), some (.ref (mRO + 3 + 2 * c1)), some (.int x2), o3] [] (mk s) (encV r) := by
  unfold b193_2 at h
  refine Ev.run (pc' := 4) (ls' := [some (.ref 24), some (.ref (mRO + 3 + 2 * c1)), some (.int x2), o3]) (st' := [.ref (mRO + 3 + 2 * c1), .int x2]) (h' := mk s) 2 rfl ?_
  refine Ev.call (M' := mm241) (as := [.ref (mRO + 3 + 2 * c1)]) (rest := [.int x2]) (v := some (.int (zlen c1))) (h' := mk s) rfl (litcall rfl rfl hc1 rfl rfl) rfl (Nat.le_of_ble_eq_true rfl) (kstrlen hc1) ?_
  refine Ev.icmp_ge (t := 53) rfl rfl (fun hb => ?_) (fun hb => ?_)
  · have h := (if_pos hb).symm.trans h
    cases h
    exact Ev.fin rfl rfl
  · have h := (if_neg hb).symm.trans h
    refine Ev.run (pc' := 12) (ls' := [some (.ref 24), some (.ref (mRO + 3 + 2 * c1)), some (.int x2), o3]) (st' := [.int x2, .ref (mRO + 3 + 2 * c1)]) (h' := mk s) 2 rfl ?_
    obtain ⟨hx, h⟩ := zif h
    refine Ev.call (M' := mm242) (as := [.ref (mRO + 3 + 2 * c1), .int x2]) (rest := []) (v := some (.int (zchr c1 x2))) (h' := mk s) rfl (litcall rfl rfl hc1 rfl rfl) rfl (Nat.le_of_ble_eq_true rfl) (kcharat hc1 hx) ?_
    refine Ev.run (pc' := 19) (ls' := [some (.ref 24), some (.ref (mRO + 3 + 2 * c1)), some (.int x2), some (.int (zchr c1 x2))]) (st' := [.int (zi 58), .int (zchr c1 x2)]) (h' := mk s) 3 rfl ?_
    refine Ev.icmp_eq (t := 34) rfl rfl (fun hb => ?_) (fun hb => ?_)
    · have h := (if_pos hb).symm.trans h
      exact k193_34 htim hrec2 c1 x2 (zchr c1 x2) s _ hc1 h
    · have h := (if_neg hb).symm.trans h
      refine Ev.run (pc' := 25) (ls' := [some (.ref 24), some (.ref (mRO + 3 + 2 * c1)), some (.int x2), some (.int (zchr c1 x2))]) (st' := [.int (zi 47), .int (zchr c1 x2)]) (h' := mk s) 2 rfl ?_
      refine Ev.icmp_eq (t := 34) rfl rfl (fun hb => ?_) (fun hb => ?_)
      · have h := (if_pos hb).symm.trans h
        exact k193_34 htim hrec2 c1 x2 (zchr c1 x2) s _ hc1 h
      · have h := (if_neg hb).symm.trans h
        refine Ev.run (pc' := 31) (ls' := [some (.ref 24), some (.ref (mRO + 3 + 2 * c1)), some (.int x2), some (.int (zchr c1 x2))]) (st' := [.int (zi 45), .int (zchr c1 x2)]) (h' := mk s) 2 rfl ?_
        refine Ev.icmp_ne (t := 42) rfl rfl (fun hb => ?_) (fun hb => ?_)
        · have h := (if_pos hb).symm.trans h
          refine Ev.run (pc' := 44) (ls' := [some (.ref 24), some (.ref (mRO + 3 + 2 * c1)), some (.int x2), some (.int (zchr c1 x2))]) (st' := [.int (zchr c1 x2), .ref 24]) (h' := mk s) 2 rfl ?_
          obtain ⟨s1, hq, h⟩ := zb0_some h
          refine Ev.call (M' := mm192) (v := none) (h' := mk s1) rfl rfl rfl (Nat.le_of_ble_eq_true rfl) (htim hq) ?_
          refine Ev.run (pc' := 2) (ls' := [some (.ref 24), some (.ref (mRO + 3 + 2 * c1)), some (.int (x2 + zi 1)), some (.int (zchr c1 x2))]) (st' := []) (h' := mk s1) 2 rfl ?_
          exact hrec2 c1 (x2 + zi 1) s1 _ _ hc1 h
        · have h := (if_neg hb).symm.trans h
          exact k193_34 htim hrec2 c1 x2 (zchr c1 x2) s _ hc1 h
def f193_2 (tim : Int32 → zS → Option zS)  : Nat → Nat → Int32 → zS → Option (zS)
  | 0, _, _, _ => none
  | n + 1, c1, x2, s => b193_2 tim (f193_2 tim n) c1 x2 s
set_option maxRecDepth 100000 in
theorem k193_2 {X : mX} {D : Nat} {tim : Int32 → zS → Option zS}  (htim : ∀ {x s s2}, tim x s = some s2 → Ev X (D + 4) mm192 0 [some (.ref 24), some (.int x), none, none, none, none, none, none, none, none, none, none, none, none, none, none, none, none, none, none, none] [] (mk s) (encV s2))  (n : Nat) : ∀ (c1 : Nat) (x2 : Int32) (s : zS) (r : zS) (o3 : Option Value), c1 < 78 → f193_2 tim  n c1 x2 s = some r → Ev X (D + 5) mm193 2 [some (.ref 24), some (.ref (mRO + 3 + 2 * c1)), some (.int x2), o3] [] (mk s) (encV r) := by
  induction n with
  | zero => intro c1 x2 s r o3 hc1 h; cases h
  | succ n ih => intro c1 x2 s r o3 hc1 h; exact kb193_2 htim ih c1 x2 s r o3 hc1 h
def f193 (tim : Int32 → zS → Option zS)  (c1 : Nat) (s : zS) : Option (zS) := f193_2 tim zF c1 (zi 0) s
set_option maxRecDepth 100000 in
theorem k193 {X : mX} {D : Nat} {tim : Int32 → zS → Option zS} {c1 : Nat} {s : zS} {r : zS} (htim : ∀ {x s s2}, tim x s = some s2 → Ev X (D + 4) mm192 0 [some (.ref 24), some (.int x), none, none, none, none, none, none, none, none, none, none, none, none, none, none, none, none, none, none, none] [] (mk s) (encV s2)) (hc1 : c1 < 78) (h : f193 tim c1 s = some r) : Ev X (D + 5) mm193 0 [some (.ref 24), some (.ref (mRO + 3 + 2 * c1)), none, none] [] (mk s) (encV r) := by
  unfold f193 at h
  refine Ev.run (pc' := 2) (ls' := [some (.ref 24), some (.ref (mRO + 3 + 2 * c1)), some (.int (zi 0)), none]) (st' := []) (h' := mk s) 2 rfl ?_
  exact k193_2 htim zF c1 (zi 0) s _ _ hc1 h
def ftime0 (x : Int32) (s : zS) : Option zS := f192 (fun _ _ => none) x s
def ftimes0 (c : Nat) (s : zS) : Option zS := f193 ftime0 c s
def ftime1 (x : Int32) (s : zS) : Option zS := f192 ftimes0 x s
set_option maxRecDepth 100000 in
theorem ktime1 {X : mX} {D : Nat} {x : Int32} {s s2 : zS} (h : ftime1 x s = some s2) : Ev X (D + 8) mm192 0 [some (.ref 24), some (.int x), none, none, none, none, none, none, none, none, none, none, none, none, none, none, none, none, none, none, none] [] (mk s) (encV s2) :=
  k192 (D := D + 2) (tms := ftimes0) (fun {c s s2} hc h => k193 (D := D + 2) (tim := ftime0) (fun {x s s2} h => k192 (D := D) (tms := fun _ _ => none) (fun {_ _ _} _ h => by cases h) h) hc h) h
/-! 14 F.byteOf(JI)I -/
def r14 (x0 : Int64) (x2 : Int32) (s : zS) : Int32 := (zL2I (zushrL x0 ((zi 8) * x2))) &&& (zi 255)
set_option maxRecDepth 100000 in
theorem k14 {X : mX} {D : Nat} {x0 : Int64} {x2 : Int32} {s : zS} {v : Int32} (h : r14 x0 x2 s = v) : Ev X D mm14 0 [some (.long x0), none, some (.int x2)] [] (mk s) (encI (v, s)) := by
  unfold r14 at h
  refine Ev.run (pc' := 11) (ls' := [some (.long x0), none, some (.int x2)]) (st' := [.int ((zL2I (zushrL x0 ((zi 8) * x2))) &&& (zi 255))]) (h' := mk s) 8 rfl ?_
  subst h
  exact Ev.fin rfl rfl
/-! 16 F$Line.length()I -/
def r16 (aa : Nat)  (s : zS) : Int32 := s.1 aa 1
set_option maxRecDepth 100000 in
theorem k16 {X : mX} {D : Nat} {aa : Nat}  {s : zS} (haa : zLine aa) {v : Int32} (h : r16 aa  s = v) : Ev X D mm16 0 [some (.ref aa)] [] (mk s) (encI (v, s)) := by
  rcases haa with rfl | rfl | rfl
  · unfold r16 at h
    refine Ev.run (pc' := 4) (ls' := [some (.ref 1)]) (st' := [.int (s.1 1 1)]) (h' := mk s) 2 rfl ?_
    subst h
    exact Ev.fin rfl rfl
  · unfold r16 at h
    refine Ev.run (pc' := 4) (ls' := [some (.ref 3)]) (st' := [.int (s.1 3 1)]) (h' := mk s) 2 rfl ?_
    subst h
    exact Ev.fin rfl rfl
  · unfold r16 at h
    refine Ev.run (pc' := 4) (ls' := [some (.ref 5)]) (st' := [.int (s.1 5 1)]) (h' := mk s) 2 rfl ?_
    subst h
    exact Ev.fin rfl rfl
/-! 21 F$Line.empty()V -/
def f21 (aa : Nat)   (s : zS) : Option (zS) := some (setI s aa 1 (zi 0))
set_option maxRecDepth 100000 in
theorem k21 {X : mX} {D : Nat} {aa : Nat}  {s : zS} {r : zS} (haa : zLine aa)  (h : f21 aa  s = some r) : Ev X D mm21 0 [some (.ref aa)] [] (mk s) (encV r) := by
  rcases haa with rfl | rfl | rfl
  · unfold f21 at h
    refine Ev.run (pc' := 2) (ls' := [some (.ref 1)]) (st' := [.int (zi 0), .ref 1]) (h' := mk s) 2 rfl ?_
    refine Ev.step (pc' := 5) rfl (put_1_1 (by decide) rfl) ?_
    cases h
    exact Ev.fin rfl rfl
  · unfold f21 at h
    refine Ev.run (pc' := 2) (ls' := [some (.ref 3)]) (st' := [.int (zi 0), .ref 3]) (h' := mk s) 2 rfl ?_
    refine Ev.step (pc' := 5) rfl (put_1_1 (by decide) rfl) ?_
    cases h
    exact Ev.fin rfl rfl
  · unfold f21 at h
    refine Ev.run (pc' := 2) (ls' := [some (.ref 5)]) (st' := [.int (zi 0), .ref 5]) (h' := mk s) 2 rfl ?_
    refine Ev.step (pc' := 5) rfl (put_1_1 (by decide) rfl) ?_
    cases h
    exact Ev.fin rfl rfl
/-! 19 F$Line.add(I)V -/
def f19 (aa : Nat)  (x1 : Int32) (s : zS) : Option (zS) := if (s.1 aa 1) ≥ (zi (zLen aa)) then some s else if mIx (s.1 aa 1) (zLen aa) then some (setI (setB s (aa + 1) ((s.1 aa 1).toNatClampNeg) (zI2B (zI2B x1))) aa 1 ((s.1 aa 1) + (zi 1))) else none
set_option maxRecDepth 100000 in
theorem k19 {X : mX} {D : Nat} {aa : Nat} {x1 : Int32} {s : zS} {r : zS} (haa : zLine aa)  (h : f19 aa x1 s = some r) : Ev X D mm19 0 [some (.ref aa), some (.int x1)] [] (mk s) (encV r) := by
  rcases haa with rfl | rfl | rfl
  · unfold f19 at h
    refine Ev.run (pc' := 9) (ls' := [some (.ref 1), some (.int x1)]) (st' := [.int (zi (zLen 1)), .int (s.1 1 1)]) (h' := mk s) 5 rfl ?_
    refine Ev.icmp_ge (t := 33) rfl rfl (fun hb => ?_) (fun hb => ?_)
    · have h := (if_pos hb).symm.trans h
      cases h
      exact Ev.fin rfl rfl
    · have h := (if_neg hb).symm.trans h
      refine Ev.run (pc' := 22) (ls' := [some (.ref 1), some (.int x1)]) (st' := [.int (zI2B x1), .int (s.1 1 1), .ref (1 + 1)]) (h' := mk s) 6 rfl ?_
      obtain ⟨hx, h⟩ := zif h
      refine Ev.step (pc' := 23) rfl (astL (by decide) hx) ?_
      refine Ev.run (pc' := 30) (ls' := [some (.ref 1), some (.int x1)]) (st' := [.int ((s.1 1 1) + (zi 1)), .ref 1]) (h' := mk (setB s (1 + 1) ((s.1 1 1).toNatClampNeg) (zI2B (zI2B x1)))) 5 rfl ?_
      refine Ev.step (pc' := 33) rfl (put_1_1 (by decide) rfl) ?_
      cases h
      exact Ev.fin rfl rfl
  · unfold f19 at h
    refine Ev.run (pc' := 9) (ls' := [some (.ref 3), some (.int x1)]) (st' := [.int (zi (zLen 3)), .int (s.1 3 1)]) (h' := mk s) 5 rfl ?_
    refine Ev.icmp_ge (t := 33) rfl rfl (fun hb => ?_) (fun hb => ?_)
    · have h := (if_pos hb).symm.trans h
      cases h
      exact Ev.fin rfl rfl
    · have h := (if_neg hb).symm.trans h
      refine Ev.run (pc' := 22) (ls' := [some (.ref 3), some (.int x1)]) (st' := [.int (zI2B x1), .int (s.1 3 1), .ref (3 + 1)]) (h' := mk s) 6 rfl ?_
      obtain ⟨hx, h⟩ := zif h
      refine Ev.step (pc' := 23) rfl (astL (by decide) hx) ?_
      refine Ev.run (pc' := 30) (ls' := [some (.ref 3), some (.int x1)]) (st' := [.int ((s.1 3 1) + (zi 1)), .ref 3]) (h' := mk (setB s (3 + 1) ((s.1 3 1).toNatClampNeg) (zI2B (zI2B x1)))) 5 rfl ?_
      refine Ev.step (pc' := 33) rfl (put_1_1 (by decide) rfl) ?_
      cases h
      exact Ev.fin rfl rfl
  · unfold f19 at h
    refine Ev.run (pc' := 9) (ls' := [some (.ref 5), some (.int x1)]) (st' := [.int (zi (zLen 5)), .int (s.1 5 1)]) (h' := mk s) 5 rfl ?_
    refine Ev.icmp_ge (t := 33) rfl rfl (fun hb => ?_) (fun hb => ?_)
    · have h := (if_pos hb).symm.trans h
      cases h
      exact Ev.fin rfl rfl
    · have h := (if_neg hb).symm.trans h
      refine Ev.run (pc' := 22) (ls' := [some (.ref 5), some (.int x1)]) (st' := [.int (zI2B x1), .int (s.1 5 1), .ref (5 + 1)]) (h' := mk s) 6 rfl ?_
      obtain ⟨hx, h⟩ := zif h
      refine Ev.step (pc' := 23) rfl (astL (by decide) hx) ?_
      refine Ev.run (pc' := 30) (ls' := [some (.ref 5), some (.int x1)]) (st' := [.int ((s.1 5 1) + (zi 1)), .ref 5]) (h' := mk (setB s (5 + 1) ((s.1 5 1).toNatClampNeg) (zI2B (zI2B x1)))) 5 rfl ?_
      refine Ev.step (pc' := 33) rfl (put_1_1 (by decide) rfl) ?_
      cases h
      exact Ev.fin rfl rfl
/-! 1 F.row(JIZ)I -/
def b1_111 (rec111 : Int64 → Int32 → Int32 → zS → Option ((Int32 ⊕ Nat) × zS)) (x1 : Int64) (x5 : Int32) (x6 : Int32) (s : zS) : Option ((Int32 ⊕ Nat) × zS) := if x6 < zi 0 then some (.inl (r16 1 s), s) else zb0 (f19 1 (r14 x1 x6 s) s) (fun s1 => rec111 x1 x5 (x6 + zi (-1)) s1)
set_option maxRecDepth 100000 in
theorem kb1_111 {X : mX} {D : Nat} {rec111 : Int64 → Int32 → Int32 → zS → Option ((Int32 ⊕ Nat) × zS)} (hrec111 : ∀ (x1 : Int64) (x5 : Int32) (x6 : Int32) (s : zS) (r : (Int32 ⊕ Nat) × zS) (o3 : Option Value) (o4 : Option Value), rec111 x1 x5 x6 s = some r → Ev X (D + 1) mm1 111 [some (.ref 0), some (.long x1), none, o3, o4, some (.int x5), some (.int x6)] [] (mk s) (encTI r)) (x1 : Int64) (x5 : Int32) (x6 : Int32) (s : zS) (r : (Int32 ⊕ Nat) × zS) (o3 : Option Value) (o4 : Option Value)  (h : b1_111 rec111 x1 x5 x6 s = some r) : Ev X (D + 1) mm1 111 [some (.ref 0), some (.long x1), none, o3, o4, some (.int x5), some (.int x6)] [] (mk s) (encTI r) := by
  unfold b1_111 at h
  refine Ev.run (pc' := 113) (ls' := [some (.ref 0), some (.long x1), none, o3, o4, some (.int x5), some (.int x6)]) (st' := [.int x6]) (h' := mk s) 1 rfl ?_
  refine Ev.if_lt (t := 135) rfl rfl (fun hb => ?_) (fun hb => ?_)
  · have h := (if_pos hb).symm.trans h
    refine Ev.run (pc' := 139) (ls' := [some (.ref 0), some (.long x1), none, o3, o4, some (.int x5), some (.int x6)]) (st' := [.ref 1]) (h' := mk s) 2 rfl ?_
    refine Ev.call (M' := mm16) (v := some (.int (r16 1 s))) (h' := mk s) rfl rfl rfl (Nat.le_of_ble_eq_true rfl) (k16 (aa := 1) (s := s) (v := r16 1 s) (by decide) rfl) ?_
    cases h
    exact Ev.fin rfl rfl
  · have h := (if_neg hb).symm.trans h
    refine Ev.run (pc' := 123) (ls' := [some (.ref 0), some (.long x1), none, o3, o4, some (.int x5), some (.int x6)]) (st' := [.int x6, .long x1, .ref 1]) (h' := mk s) 4 rfl ?_
    refine Ev.call (M' := mm14) (v := some (.int (r14 x1 x6 s))) (h' := mk s) rfl rfl rfl (Nat.le_of_ble_eq_true rfl) (k14 (x0 := x1) (x2 := x6) (s := s) (v := r14 x1 x6 s)  rfl) ?_
    obtain ⟨s1, hq, h⟩ := zb0_some h
    refine Ev.call (M' := mm19) (v := none) (h' := mk s1) rfl rfl rfl (Nat.le_of_ble_eq_true rfl) (k19 (by decide) hq) ?_
    refine Ev.run (pc' := 111) (ls' := [some (.ref 0), some (.long x1), none, o3, o4, some (.int x5), some (.int (x6 + zi (-1)))]) (st' := []) (h' := mk s1) 2 rfl ?_
    exact hrec111 x1 x5 (x6 + zi (-1)) s1 _ _ _ h
def f1_111  : Nat → Int64 → Int32 → Int32 → zS → Option ((Int32 ⊕ Nat) × zS)
  | 0, _, _, _, _ => none
  | n + 1, x1, x5, x6, s => b1_111 (f1_111 n) x1 x5 x6 s
set_option maxRecDepth 100000 in
theorem k1_111 {X : mX} {D : Nat}   (n : Nat) : ∀ (x1 : Int64) (x5 : Int32) (x6 : Int32) (s : zS) (r : (Int32 ⊕ Nat) × zS) (o3 : Option Value) (o4 : Option Value), f1_111  n x1 x5 x6 s = some r → Ev X (D + 1) mm1 111 [some (.ref 0), some (.long x1), none, o3, o4, some (.int x5), some (.int x6)] [] (mk s) (encTI r) := by
  induction n with
  | zero => intro x1 x5 x6 s r o3 o4  h; cases h
  | succ n ih => intro x1 x5 x6 s r o3 o4  h; exact kb1_111  ih x1 x5 x6 s r o3 o4  h
def f1_72  (x1 : Int64) (x3 : Int32) (x4 : Int32) (y0 : Int32) (s : zS) : Option ((Int32 ⊕ Nat) × zS) := if (y0 + x3) ≤ (zi 800) then if x4 = zi 0 then f1_111 zF x1 y0 (x3 - (zi 1)) s else zb0 (f21 1 s) (fun s1 => f1_111 zF x1 y0 (x3 - (zi 1)) s1) else if s.2.2 < 600000 then some (.inr 0, thr s) else none
set_option maxRecDepth 100000 in
theorem k1_72 {X : mX} {D : Nat}   (x1 : Int64) (x3 : Int32) (x4 : Int32) (y0 : Int32) (s : zS) (r : (Int32 ⊕ Nat) × zS) (o5 : Option Value) (o6 : Option Value)  (h : f1_72  x1 x3 x4 y0 s = some r) : Ev X (D + 1) mm1 72 [some (.ref 0), some (.long x1), none, some (.int x3), some (.int x4), o5, o6] [.int y0] (mk s) (encTI r) := by
  unfold f1_72 at h
  refine Ev.run (pc' := 81) (ls' := [some (.ref 0), some (.long x1), none, some (.int x3), some (.int x4), some (.int y0), o6]) (st' := [.int (zi 800), .int (y0 + x3)]) (h' := mk s) 5 rfl ?_
  refine Ev.icmp_le (t := 94) rfl rfl (fun hb => ?_) (fun hb => ?_)
  · have h := (if_pos hb).symm.trans h
    refine Ev.run (pc' := 96) (ls' := [some (.ref 0), some (.long x1), none, some (.int x3), some (.int x4), some (.int y0), o6]) (st' := [.int x4]) (h' := mk s) 1 rfl ?_
    refine Ev.if_eq (t := 106) rfl rfl (fun hb => ?_) (fun hb => ?_)
    · have h := (if_pos hb).symm.trans h
      refine Ev.run (pc' := 111) (ls' := [some (.ref 0), some (.long x1), none, some (.int x3), some (.int x4), some (.int y0), some (.int (x3 - (zi 1)))]) (st' := []) (h' := mk s) 4 rfl ?_
      exact k1_111 zF x1 y0 (x3 - (zi 1)) s _ _ _ h
    · have h := (if_neg hb).symm.trans h
      refine Ev.run (pc' := 103) (ls' := [some (.ref 0), some (.long x1), none, some (.int x3), some (.int x4), some (.int y0), o6]) (st' := [.ref 1]) (h' := mk s) 2 rfl ?_
      obtain ⟨s1, hq, h⟩ := zb0_some h
      refine Ev.call (M' := mm21) (v := none) (h' := mk s1) rfl rfl rfl (Nat.le_of_ble_eq_true rfl) (k21 (by decide) hq) ?_
      refine Ev.run (pc' := 111) (ls' := [some (.ref 0), some (.long x1), none, some (.int x3), some (.int x4), some (.int y0), some (.int (x3 - (zi 1)))]) (st' := []) (h' := mk s1) 4 rfl ?_
      exact k1_111 zF x1 y0 (x3 - (zi 1)) s1 _ _ _ h
  · have h := (if_neg hb).symm.trans h
    obtain ⟨hx, h⟩ := zif h
    cases h
    exact Ev.throws rfl rfl rfl rfl rfl rfl rfl rfl rfl (by decide) hx
def b1_23 (rec23 : Int64 → Int32 → Int32 → Int32 → zS → Option ((Int32 ⊕ Nat) × zS)) (x1 : Int64) (x3 : Int32) (x4 : Int32) (x5 : Int32) (s : zS) : Option ((Int32 ⊕ Nat) × zS) := if x5 ≥ x3 then if x4 = zi 0 then f1_72 x1 x3 x4 (r16 1 s) s else f1_72 x1 x3 x4 (zi 0) s else if (r14 x1 x5 s) ≤ (zi 127) then rec23 x1 x3 x4 (x5 + zi 1) s else if s.2.2 < 600000 then some (.inr 0, thr s) else none
set_option maxRecDepth 100000 in
theorem kb1_23 {X : mX} {D : Nat} {rec23 : Int64 → Int32 → Int32 → Int32 → zS → Option ((Int32 ⊕ Nat) × zS)} (hrec23 : ∀ (x1 : Int64) (x3 : Int32) (x4 : Int32) (x5 : Int32) (s : zS) (r : (Int32 ⊕ Nat) × zS) (o6 : Option Value), rec23 x1 x3 x4 x5 s = some r → Ev X (D + 1) mm1 23 [some (.ref 0), some (.long x1), none, some (.int x3), some (.int x4), some (.int x5), o6] [] (mk s) (encTI r)) (x1 : Int64) (x3 : Int32) (x4 : Int32) (x5 : Int32) (s : zS) (r : (Int32 ⊕ Nat) × zS) (o6 : Option Value)  (h : b1_23 rec23 x1 x3 x4 x5 s = some r) : Ev X (D + 1) mm1 23 [some (.ref 0), some (.long x1), none, some (.int x3), some (.int x4), some (.int x5), o6] [] (mk s) (encTI r) := by
  unfold b1_23 at h
  refine Ev.run (pc' := 26) (ls' := [some (.ref 0), some (.long x1), none, some (.int x3), some (.int x4), some (.int x5), o6]) (st' := [.int x3, .int x5]) (h' := mk s) 2 rfl ?_
  refine Ev.icmp_ge (t := 56) rfl rfl (fun hb => ?_) (fun hb => ?_)
  · have h := (if_pos hb).symm.trans h
    refine Ev.run (pc' := 58) (ls' := [some (.ref 0), some (.long x1), none, some (.int x3), some (.int x4), some (.int x5), o6]) (st' := [.int x4]) (h' := mk s) 1 rfl ?_
    refine Ev.if_eq (t := 65) rfl rfl (fun hb => ?_) (fun hb => ?_)
    · have h := (if_pos hb).symm.trans h
      refine Ev.run (pc' := 69) (ls' := [some (.ref 0), some (.long x1), none, some (.int x3), some (.int x4), some (.int x5), o6]) (st' := [.ref 1]) (h' := mk s) 2 rfl ?_
      refine Ev.call (M' := mm16) (v := some (.int (r16 1 s))) (h' := mk s) rfl rfl rfl (Nat.le_of_ble_eq_true rfl) (k16 (aa := 1) (s := s) (v := r16 1 s) (by decide) rfl) ?_
      exact k1_72 x1 x3 x4 (r16 1 s) s _ _ _ h
    · have h := (if_neg hb).symm.trans h
      refine Ev.run (pc' := 72) (ls' := [some (.ref 0), some (.long x1), none, some (.int x3), some (.int x4), some (.int x5), o6]) (st' := [.int (zi 0)]) (h' := mk s) 2 rfl ?_
      exact k1_72 x1 x3 x4 (zi 0) s _ _ _ h
  · have h := (if_neg hb).symm.trans h
    refine Ev.run (pc' := 32) (ls' := [some (.ref 0), some (.long x1), none, some (.int x3), some (.int x4), some (.int x5), o6]) (st' := [.int x5, .long x1]) (h' := mk s) 2 rfl ?_
    refine Ev.call (M' := mm14) (v := some (.int (r14 x1 x5 s))) (h' := mk s) rfl rfl rfl (Nat.le_of_ble_eq_true rfl) (k14 (x0 := x1) (x2 := x5) (s := s) (v := r14 x1 x5 s)  rfl) ?_
    refine Ev.run (pc' := 37) (ls' := [some (.ref 0), some (.long x1), none, some (.int x3), some (.int x4), some (.int x5), o6]) (st' := [.int (zi 127), .int (r14 x1 x5 s)]) (h' := mk s) 1 rfl ?_
    refine Ev.icmp_le (t := 50) rfl rfl (fun hb => ?_) (fun hb => ?_)
    · have h := (if_pos hb).symm.trans h
      refine Ev.run (pc' := 23) (ls' := [some (.ref 0), some (.long x1), none, some (.int x3), some (.int x4), some (.int (x5 + zi 1)), o6]) (st' := []) (h' := mk s) 2 rfl ?_
      exact hrec23 x1 x3 x4 (x5 + zi 1) s _ _ h
    · have h := (if_neg hb).symm.trans h
      obtain ⟨hx, h⟩ := zif h
      cases h
      exact Ev.throws rfl rfl rfl rfl rfl rfl rfl rfl rfl (by decide) hx
def f1_23  : Nat → Int64 → Int32 → Int32 → Int32 → zS → Option ((Int32 ⊕ Nat) × zS)
  | 0, _, _, _, _, _ => none
  | n + 1, x1, x3, x4, x5, s => b1_23 (f1_23 n) x1 x3 x4 x5 s
set_option maxRecDepth 100000 in
theorem k1_23 {X : mX} {D : Nat}   (n : Nat) : ∀ (x1 : Int64) (x3 : Int32) (x4 : Int32) (x5 : Int32) (s : zS) (r : (Int32 ⊕ Nat) × zS) (o6 : Option Value), f1_23  n x1 x3 x4 x5 s = some r → Ev X (D + 1) mm1 23 [some (.ref 0), some (.long x1), none, some (.int x3), some (.int x4), some (.int x5), o6] [] (mk s) (encTI r) := by
  induction n with
  | zero => intro x1 x3 x4 x5 s r o6  h; cases h
  | succ n ih => intro x1 x3 x4 x5 s r o6  h; exact kb1_23  ih x1 x3 x4 x5 s r o6  h
def f1_10   (s : zS) : Option ((Int32 ⊕ Nat) × zS) := if s.2.2 < 600000 then some (.inr 0, thr s) else none
set_option maxRecDepth 100000 in
theorem k1_10 {X : mX} {D : Nat}    (s : zS) (r : (Int32 ⊕ Nat) × zS) (o0 : Option Value) (o1 : Option Value) (o2 : Option Value) (o3 : Option Value) (o4 : Option Value) (o5 : Option Value) (o6 : Option Value)  (h : f1_10   s = some r) : Ev X (D + 1) mm1 10 [o0, o1, o2, o3, o4, o5, o6] [] (mk s) (encTI r) := by
  unfold f1_10 at h
  obtain ⟨hx, h⟩ := zif h
  cases h
  exact Ev.throws rfl rfl rfl rfl rfl rfl rfl rfl rfl (by decide) hx
def f1  (x1 : Int64) (x3 : Int32) (x4 : Int32) (s : zS) : Option ((Int32 ⊕ Nat) × zS) := if x3 < zi 0 then f1_10 s else if x3 ≤ (zi 8) then f1_23 zF x1 x3 x4 (zi 0) s else f1_10 s
set_option maxRecDepth 100000 in
theorem k1 {X : mX} {D : Nat} {x1 : Int64} {x3 : Int32} {x4 : Int32} {s : zS} {r : (Int32 ⊕ Nat) × zS}  (h : f1 x1 x3 x4 s = some r) : Ev X (D + 1) mm1 0 [some (.ref 0), some (.long x1), none, some (.int x3), some (.int x4), none, none] [] (mk s) (encTI r) := by
  unfold f1 at h
  refine Ev.run (pc' := 1) (ls' := [some (.ref 0), some (.long x1), none, some (.int x3), some (.int x4), none, none]) (st' := [.int x3]) (h' := mk s) 1 rfl ?_
  refine Ev.if_lt (t := 10) rfl rfl (fun hb => ?_) (fun hb => ?_)
  · have h := (if_pos hb).symm.trans h
    exact k1_10 s _ _ _ _ _ _ _ _ h
  · have h := (if_neg hb).symm.trans h
    refine Ev.run (pc' := 7) (ls' := [some (.ref 0), some (.long x1), none, some (.int x3), some (.int x4), none, none]) (st' := [.int (zi 8), .int x3]) (h' := mk s) 2 rfl ?_
    refine Ev.icmp_le (t := 20) rfl rfl (fun hb => ?_) (fun hb => ?_)
    · have h := (if_pos hb).symm.trans h
      refine Ev.run (pc' := 23) (ls' := [some (.ref 0), some (.long x1), none, some (.int x3), some (.int x4), some (.int (zi 0)), none]) (st' := []) (h' := mk s) 2 rfl ?_
      exact k1_23 zF x1 x3 x4 (zi 0) s _ _ h
    · have h := (if_neg hb).symm.trans h
      exact k1_10 s _ _ _ _ _ _ _ _ h
/-! 265 java.lang.Math.min(II)I -/
def r265 (x0 : Int32) (x1 : Int32) (s : zS) : Int32 := if x0 > x1 then x1 else x0
set_option maxRecDepth 100000 in
theorem k265 {X : mX} {D : Nat} {x0 : Int32} {x1 : Int32} {s : zS} {v : Int32} (h : r265 x0 x1 s = v) : Ev X D mm265 0 [some (.int x0), some (.int x1)] [] (mk s) (encI (v, s)) := by
  unfold r265 at h
  refine Ev.run (pc' := 2) (ls' := [some (.int x0), some (.int x1)]) (st' := [.int x1, .int x0]) (h' := mk s) 2 rfl ?_
  refine Ev.icmp_gt (t := 9) rfl rfl (fun hb => ?_) (fun hb => ?_)
  · have h := (if_pos hb).symm.trans h
    refine Ev.run (pc' := 10) (ls' := [some (.int x0), some (.int x1)]) (st' := [.int x1]) (h' := mk s) 1 rfl ?_
    subst h
    exact Ev.fin rfl rfl
  · have h := (if_neg hb).symm.trans h
    refine Ev.run (pc' := 10) (ls' := [some (.int x0), some (.int x1)]) (st' := [.int x0]) (h' := mk s) 2 rfl ?_
    subst h
    exact Ev.fin rfl rfl
/-! 22 F$Line.moveFrom(LFormatPress$Line;)V -/
def f22   (s : zS) : Option (zS) := if mCp (zi 0) (zi 0) (r265 (s.1 1 1) (zi 400) s) 800 400 then zb0 (f21 1 (setA (setI s 3 1 (r265 (s.1 1 1) (zi 400) s)) 4 (va_cpy (s.1 2) (s.1 4) ((zi 0).toNatClampNeg) ((zi 0).toNatClampNeg) ((r265 (s.1 1 1) (zi 400) s).toNatClampNeg)))) (fun s1 => some s1) else none
set_option maxRecDepth 100000 in
theorem k22 {X : mX} {D : Nat}  {s : zS} {r : zS}  (h : f22  s = some r) : Ev X (D + 1) mm22 0 [some (.ref 3), some (.ref 1)] [] (mk s) (encV r) := by
  unfold f22 at h
  refine Ev.run (pc' := 10) (ls' := [some (.ref 3), some (.ref 1)]) (st' := [.int (zi 400), .int (s.1 1 1), .ref 3]) (h' := mk s) 6 rfl ?_
  refine Ev.call (M' := mm265) (v := some (.int (r265 (s.1 1 1) (zi 400) s))) (h' := mk s) rfl rfl rfl (Nat.le_of_ble_eq_true rfl) (k265 (x0 := (s.1 1 1)) (x1 := (zi 400)) (s := s) (v := r265 (s.1 1 1) (zi 400) s)  rfl) ?_
  refine Ev.step (pc' := 16) rfl (put_1_1 (by decide) rfl) ?_
  refine Ev.run (pc' := 30) (ls' := [some (.ref 3), some (.ref 1)]) (st' := [.int (r265 (s.1 1 1) (zi 400) s), .int (zi 0), .ref 4, .int (zi 0), .ref 2]) (h' := mk (setI s 3 1 (r265 (s.1 1 1) (zi 400) s))) 8 rfl ?_
  obtain ⟨hx, h⟩ := zif h
  refine Ev.step (pc' := 33) rfl (cpy_2_4 rfl rfl hx) ?_
  refine Ev.run (pc' := 34) (ls' := [some (.ref 3), some (.ref 1)]) (st' := [.ref 1]) (h' := mk (setA (setI s 3 1 (r265 (s.1 1 1) (zi 400) s)) 4 (va_cpy (s.1 2) (s.1 4) ((zi 0).toNatClampNeg) ((zi 0).toNatClampNeg) ((r265 (s.1 1 1) (zi 400) s).toNatClampNeg)))) 1 rfl ?_
  obtain ⟨s1, hq, h⟩ := zb0_some h
  refine Ev.call (M' := mm21) (v := none) (h' := mk s1) rfl rfl rfl (Nat.le_of_ble_eq_true rfl) (k21 (by decide) hq) ?_
  cases h
  exact Ev.fin rfl rfl
/-! 13 F.note(II)V -/
def f13  (x1 : Int32) (x2 : Int32) (s : zS) : Option (zS) := if ¬ x1 = zi 0 then some (setI (setI s 0 8 x1) 0 9 x2) else some (setI (setI s 0 8 x1) 0 9 (zi (-1)))
set_option maxRecDepth 100000 in
theorem k13 {X : mX} {D : Nat} {x1 : Int32} {x2 : Int32} {s : zS} {r : zS}  (h : f13 x1 x2 s = some r) : Ev X D mm13 0 [some (.ref 0), some (.int x1), some (.int x2)] [] (mk s) (encV r) := by
  unfold f13 at h
  refine Ev.run (pc' := 2) (ls' := [some (.ref 0), some (.int x1), some (.int x2)]) (st' := [.int x1, .ref 0]) (h' := mk s) 2 rfl ?_
  refine Ev.step (pc' := 5) rfl (put_0_8 rfl) ?_
  refine Ev.run (pc' := 7) (ls' := [some (.ref 0), some (.int x1), some (.int x2)]) (st' := [.int x1, .ref 0]) (h' := mk (setI s 0 8 x1)) 2 rfl ?_
  refine Ev.if_ne (t := 14) rfl rfl (fun hb => ?_) (fun hb => ?_)
  · have h := (if_pos hb).symm.trans h
    refine Ev.run (pc' := 15) (ls' := [some (.ref 0), some (.int x1), some (.int x2)]) (st' := [.int x2, .ref 0]) (h' := mk (setI s 0 8 x1)) 1 rfl ?_
    refine Ev.step (pc' := 18) rfl (put_0_9 rfl) ?_
    cases h
    exact Ev.fin rfl rfl
  · have h := (if_neg hb).symm.trans h
    refine Ev.run (pc' := 15) (ls' := [some (.ref 0), some (.int x1), some (.int x2)]) (st' := [.int (zi (-1)), .ref 0]) (h' := mk (setI s 0 8 x1)) 2 rfl ?_
    refine Ev.step (pc' := 18) rfl (put_0_9 rfl) ?_
    cases h
    exact Ev.fin rfl rfl
/-! 17 F$Line.at(I)I -/
def f17 (aa : Nat)  (x1 : Int32) (s : zS) : Option (Int32 × zS) := if x1 < zi 0 then some (zi (-1), s) else if x1 < (s.1 aa 1) then if mIx x1 (zLen aa) then some ((s.1 (aa + 1) x1.toNatClampNeg) &&& (zi 255), s) else none else some (zi (-1), s)
set_option maxRecDepth 100000 in
theorem k17 {X : mX} {D : Nat} {aa : Nat} {x1 : Int32} {s : zS} {r : Int32 × zS} (haa : zLine aa)  (h : f17 aa x1 s = some r) : Ev X D mm17 0 [some (.ref aa), some (.int x1)] [] (mk s) (encI r) := by
  rcases haa with rfl | rfl | rfl
  · unfold f17 at h
    refine Ev.run (pc' := 1) (ls' := [some (.ref 1), some (.int x1)]) (st' := [.int x1]) (h' := mk s) 1 rfl ?_
    refine Ev.if_lt (t := 12) rfl rfl (fun hb => ?_) (fun hb => ?_)
    · have h := (if_pos hb).symm.trans h
      refine Ev.run (pc' := 26) (ls' := [some (.ref 1), some (.int x1)]) (st' := [.int (zi (-1))]) (h' := mk s) 2 rfl ?_
      cases h
      exact Ev.fin rfl rfl
    · have h := (if_neg hb).symm.trans h
      refine Ev.run (pc' := 9) (ls' := [some (.ref 1), some (.int x1)]) (st' := [.int (s.1 1 1), .int x1]) (h' := mk s) 3 rfl ?_
      refine Ev.icmp_lt (t := 16) rfl rfl (fun hb => ?_) (fun hb => ?_)
      · have h := (if_pos hb).symm.trans h
        refine Ev.run (pc' := 21) (ls' := [some (.ref 1), some (.int x1)]) (st' := [.int x1, .ref (1 + 1)]) (h' := mk s) 3 rfl ?_
        obtain ⟨hx, h⟩ := zif h
        refine Ev.step (pc' := 22) rfl (ald_b rfl hx) ?_
        refine Ev.run (pc' := 26) (ls' := [some (.ref 1), some (.int x1)]) (st' := [.int ((s.1 (1 + 1) x1.toNatClampNeg) &&& (zi 255))]) (h' := mk s) 2 rfl ?_
        cases h
        exact Ev.fin rfl rfl
      · have h := (if_neg hb).symm.trans h
        refine Ev.run (pc' := 26) (ls' := [some (.ref 1), some (.int x1)]) (st' := [.int (zi (-1))]) (h' := mk s) 2 rfl ?_
        cases h
        exact Ev.fin rfl rfl
  · unfold f17 at h
    refine Ev.run (pc' := 1) (ls' := [some (.ref 3), some (.int x1)]) (st' := [.int x1]) (h' := mk s) 1 rfl ?_
    refine Ev.if_lt (t := 12) rfl rfl (fun hb => ?_) (fun hb => ?_)
    · have h := (if_pos hb).symm.trans h
      refine Ev.run (pc' := 26) (ls' := [some (.ref 3), some (.int x1)]) (st' := [.int (zi (-1))]) (h' := mk s) 2 rfl ?_
      cases h
      exact Ev.fin rfl rfl
    · have h := (if_neg hb).symm.trans h
      refine Ev.run (pc' := 9) (ls' := [some (.ref 3), some (.int x1)]) (st' := [.int (s.1 3 1), .int x1]) (h' := mk s) 3 rfl ?_
      refine Ev.icmp_lt (t := 16) rfl rfl (fun hb => ?_) (fun hb => ?_)
      · have h := (if_pos hb).symm.trans h
        refine Ev.run (pc' := 21) (ls' := [some (.ref 3), some (.int x1)]) (st' := [.int x1, .ref (3 + 1)]) (h' := mk s) 3 rfl ?_
        obtain ⟨hx, h⟩ := zif h
        refine Ev.step (pc' := 22) rfl (ald_b rfl hx) ?_
        refine Ev.run (pc' := 26) (ls' := [some (.ref 3), some (.int x1)]) (st' := [.int ((s.1 (3 + 1) x1.toNatClampNeg) &&& (zi 255))]) (h' := mk s) 2 rfl ?_
        cases h
        exact Ev.fin rfl rfl
      · have h := (if_neg hb).symm.trans h
        refine Ev.run (pc' := 26) (ls' := [some (.ref 3), some (.int x1)]) (st' := [.int (zi (-1))]) (h' := mk s) 2 rfl ?_
        cases h
        exact Ev.fin rfl rfl
  · unfold f17 at h
    refine Ev.run (pc' := 1) (ls' := [some (.ref 5), some (.int x1)]) (st' := [.int x1]) (h' := mk s) 1 rfl ?_
    refine Ev.if_lt (t := 12) rfl rfl (fun hb => ?_) (fun hb => ?_)
    · have h := (if_pos hb).symm.trans h
      refine Ev.run (pc' := 26) (ls' := [some (.ref 5), some (.int x1)]) (st' := [.int (zi (-1))]) (h' := mk s) 2 rfl ?_
      cases h
      exact Ev.fin rfl rfl
    · have h := (if_neg hb).symm.trans h
      refine Ev.run (pc' := 9) (ls' := [some (.ref 5), some (.int x1)]) (st' := [.int (s.1 5 1), .int x1]) (h' := mk s) 3 rfl ?_
      refine Ev.icmp_lt (t := 16) rfl rfl (fun hb => ?_) (fun hb => ?_)
      · have h := (if_pos hb).symm.trans h
        refine Ev.run (pc' := 21) (ls' := [some (.ref 5), some (.int x1)]) (st' := [.int x1, .ref (5 + 1)]) (h' := mk s) 3 rfl ?_
        obtain ⟨hx, h⟩ := zif h
        refine Ev.step (pc' := 22) rfl (ald_b rfl hx) ?_
        refine Ev.run (pc' := 26) (ls' := [some (.ref 5), some (.int x1)]) (st' := [.int ((s.1 (5 + 1) x1.toNatClampNeg) &&& (zi 255))]) (h' := mk s) 2 rfl ?_
        cases h
        exact Ev.fin rfl rfl
      · have h := (if_neg hb).symm.trans h
        refine Ev.run (pc' := 26) (ls' := [some (.ref 5), some (.int x1)]) (st' := [.int (zi (-1))]) (h' := mk s) 2 rfl ?_
        cases h
        exact Ev.fin rfl rfl
/-! 45 F$Spec.isDigit(I)Z -/
def r45 (x0 : Int32) (s : zS) : Int32 := if x0 < (zi 48) then zi 0 else if x0 > (zi 57) then zi 0 else zi 1
set_option maxRecDepth 100000 in
theorem k45 {X : mX} {D : Nat} {x0 : Int32} {s : zS} {v : Int32} (h : r45 x0 s = v) : Ev X D mm45 0 [some (.int x0)] [] (mk s) (encI (v, s)) := by
  unfold r45 at h
  refine Ev.run (pc' := 3) (ls' := [some (.int x0)]) (st' := [.int (zi 48), .int x0]) (h' := mk s) 2 rfl ?_
  refine Ev.icmp_lt (t := 16) rfl rfl (fun hb => ?_) (fun hb => ?_)
  · have h := (if_pos hb).symm.trans h
    refine Ev.run (pc' := 17) (ls' := [some (.int x0)]) (st' := [.int (zi 0)]) (h' := mk s) 1 rfl ?_
    subst h
    exact Ev.fin rfl rfl
  · have h := (if_neg hb).symm.trans h
    refine Ev.run (pc' := 9) (ls' := [some (.int x0)]) (st' := [.int (zi 57), .int x0]) (h' := mk s) 2 rfl ?_
    refine Ev.icmp_gt (t := 16) rfl rfl (fun hb => ?_) (fun hb => ?_)
    · have h := (if_pos hb).symm.trans h
      refine Ev.run (pc' := 17) (ls' := [some (.int x0)]) (st' := [.int (zi 0)]) (h' := mk s) 1 rfl ?_
      subst h
      exact Ev.fin rfl rfl
    · have h := (if_neg hb).symm.trans h
      refine Ev.run (pc' := 17) (ls' := [some (.int x0)]) (st' := [.int (zi 1)]) (h' := mk s) 2 rfl ?_
      subst h
      exact Ev.fin rfl rfl
