/-! decompiled methods, 5; printed by wip/gen/gen8.py -/
/-! 136 F$NumberReader.trim()V -/
def b136_56 (rec56 : zS → Option (zS))  (s : zS) : Option (zS) := if (s.1 21 4) ≤ (s.1 21 3) then some s else zb1 (f17 1 ((s.1 21 4) - (zi 1)) s) (fun v2 s1 => if v2 > (zi 32) then some s1 else rec56 (setI s1 21 4 ((s1.1 21 4) - (zi 1))))
set_option maxRecDepth 100000 in
theorem kb136_56 {X : mX} {D : Nat} {rec56 : zS → Option (zS)} (hrec56 : ∀  (s : zS) (r : zS) , rec56  s = some r → Ev X (D + 1) mm136 56 [some (.ref 21)] [] (mk s) (encV r))  (s : zS) (r : zS)   (h : b136_56 rec56  s = some r) : Ev X (D + 1) mm136 56 [some (.ref 21)] [] (mk s) (encV r) := by
  unfold b136_56 at h
  refine Ev.run (pc' := 64) (ls' := [some (.ref 21)]) (st' := [.int (s.1 21 3), .int (s.1 21 4)]) (h' := mk s) 4 rfl ?_
  refine Ev.icmp_le (t := 98) rfl rfl (fun hb => ?_) (fun hb => ?_)
  · have h := (if_pos hb).symm.trans h
    cases h
    exact Ev.fin rfl rfl
  · have h := (if_neg hb).symm.trans h
    refine Ev.run (pc' := 77) (ls' := [some (.ref 21)]) (st' := [.int ((s.1 21 4) - (zi 1)), .ref 1]) (h' := mk s) 6 rfl ?_
    obtain ⟨v2, s1, hq, h⟩ := zb1_some h
    refine Ev.call (M' := mm17) (v := some (.int v2)) (h' := mk s1) rfl rfl rfl (Nat.le_of_ble_eq_true rfl) (k17 (by decide) hq) ?_
    refine Ev.run (pc' := 82) (ls' := [some (.ref 21)]) (st' := [.int (zi 32), .int v2]) (h' := mk s1) 1 rfl ?_
    refine Ev.icmp_gt (t := 98) rfl rfl (fun hb => ?_) (fun hb => ?_)
    · have h := (if_pos hb).symm.trans h
      cases h
      exact Ev.fin rfl rfl
    · have h := (if_neg hb).symm.trans h
      refine Ev.run (pc' := 92) (ls' := [some (.ref 21)]) (st' := [.int ((s1.1 21 4) - (zi 1)), .ref 21]) (h' := mk s1) 5 rfl ?_
      refine Ev.step (pc' := 95) rfl (put_10_4 rfl) ?_
      refine Ev.run (pc' := 56) (ls' := [some (.ref 21)]) (st' := []) (h' := mk (setI s1 21 4 ((s1.1 21 4) - (zi 1)))) 1 rfl ?_
      exact hrec56 (setI s1 21 4 ((s1.1 21 4) - (zi 1))) _ h
def f136_56  : Nat → zS → Option (zS)
  | 0, _ => none
  | n + 1, s => b136_56 (f136_56 n)  s
set_option maxRecDepth 100000 in
theorem k136_56 {X : mX} {D : Nat}   (n : Nat) : ∀  (s : zS) (r : zS) , f136_56  n  s = some r → Ev X (D + 1) mm136 56 [some (.ref 21)] [] (mk s) (encV r) := by
  induction n with
  | zero => intro  s r   h; cases h
  | succ n ih => intro  s r   h; exact kb136_56  ih  s r   h
def b136_16 (rec16 : zS → Option (zS))  (s : zS) : Option (zS) := if (s.1 21 3) ≥ (s.1 21 4) then f136_56 zF s else zb1 (f17 1 (s.1 21 3) s) (fun v2 s1 => if v2 > (zi 32) then f136_56 zF s1 else rec16 (setI s1 21 3 ((s1.1 21 3) + (zi 1))))
set_option maxRecDepth 100000 in
theorem kb136_16 {X : mX} {D : Nat} {rec16 : zS → Option (zS)} (hrec16 : ∀  (s : zS) (r : zS) , rec16  s = some r → Ev X (D + 1) mm136 16 [some (.ref 21)] [] (mk s) (encV r))  (s : zS) (r : zS)   (h : b136_16 rec16  s = some r) : Ev X (D + 1) mm136 16 [some (.ref 21)] [] (mk s) (encV r) := by
  unfold b136_16 at h
  refine Ev.run (pc' := 24) (ls' := [some (.ref 21)]) (st' := [.int (s.1 21 4), .int (s.1 21 3)]) (h' := mk s) 4 rfl ?_
  refine Ev.icmp_ge (t := 56) rfl rfl (fun hb => ?_) (fun hb => ?_)
  · have h := (if_pos hb).symm.trans h
    exact k136_56 zF s _ h
  · have h := (if_neg hb).symm.trans h
    refine Ev.run (pc' := 35) (ls' := [some (.ref 21)]) (st' := [.int (s.1 21 3), .ref 1]) (h' := mk s) 4 rfl ?_
    obtain ⟨v2, s1, hq, h⟩ := zb1_some h
    refine Ev.call (M' := mm17) (v := some (.int v2)) (h' := mk s1) rfl rfl rfl (Nat.le_of_ble_eq_true rfl) (k17 (by decide) hq) ?_
    refine Ev.run (pc' := 40) (ls' := [some (.ref 21)]) (st' := [.int (zi 32), .int v2]) (h' := mk s1) 1 rfl ?_
    refine Ev.icmp_gt (t := 56) rfl rfl (fun hb => ?_) (fun hb => ?_)
    · have h := (if_pos hb).symm.trans h
      exact k136_56 zF s1 _ h
    · have h := (if_neg hb).symm.trans h
      refine Ev.run (pc' := 50) (ls' := [some (.ref 21)]) (st' := [.int ((s1.1 21 3) + (zi 1)), .ref 21]) (h' := mk s1) 5 rfl ?_
      refine Ev.step (pc' := 53) rfl (put_10_3 rfl) ?_
      refine Ev.run (pc' := 16) (ls' := [some (.ref 21)]) (st' := []) (h' := mk (setI s1 21 3 ((s1.1 21 3) + (zi 1)))) 1 rfl ?_
      exact hrec16 (setI s1 21 3 ((s1.1 21 3) + (zi 1))) _ h
def f136_16  : Nat → zS → Option (zS)
  | 0, _ => none
  | n + 1, s => b136_16 (f136_16 n)  s
set_option maxRecDepth 100000 in
theorem k136_16 {X : mX} {D : Nat}   (n : Nat) : ∀  (s : zS) (r : zS) , f136_16  n  s = some r → Ev X (D + 1) mm136 16 [some (.ref 21)] [] (mk s) (encV r) := by
  induction n with
  | zero => intro  s r   h; cases h
  | succ n ih => intro  s r   h; exact kb136_16  ih  s r   h
def f136   (s : zS) : Option (zS) := f136_16 zF (setI (setI s 21 3 (zi 0)) 21 4 (r16 1 (setI s 21 3 (zi 0))))
set_option maxRecDepth 100000 in
theorem k136 {X : mX} {D : Nat}  {s : zS} {r : zS}  (h : f136  s = some r) : Ev X (D + 1) mm136 0 [some (.ref 21)] [] (mk s) (encV r) := by
  unfold f136 at h
  refine Ev.run (pc' := 2) (ls' := [some (.ref 21)]) (st' := [.int (zi 0), .ref 21]) (h' := mk s) 2 rfl ?_
  refine Ev.step (pc' := 5) rfl (put_10_3 rfl) ?_
  refine Ev.run (pc' := 10) (ls' := [some (.ref 21)]) (st' := [.ref 1, .ref 21]) (h' := mk (setI s 21 3 (zi 0))) 3 rfl ?_
  refine Ev.call (M' := mm16) (v := some (.int (r16 1 (setI s 21 3 (zi 0))))) (h' := mk (setI s 21 3 (zi 0))) rfl rfl rfl (Nat.le_of_ble_eq_true rfl) (k16 (aa := 1) (s := setI s 21 3 (zi 0)) (v := r16 1 (setI s 21 3 (zi 0))) (by decide) rfl) ?_
  refine Ev.step (pc' := 16) rfl (put_10_4 rfl) ?_
  exact k136_16 zF (setI (setI s 21 3 (zi 0)) 21 4 (r16 1 (setI s 21 3 (zi 0)))) _ h
/-! 137 F$NumberReader.peek()I -/
def f137   (s : zS) : Option (Int32 × zS) := if (s.1 21 3) ≥ (s.1 21 4) then some (zi (-1), s) else zb1 (f17 1 (s.1 21 3) s) (fun v2 s1 => some (v2, s1))
set_option maxRecDepth 100000 in
theorem k137 {X : mX} {D : Nat}  {s : zS} {r : Int32 × zS}  (h : f137  s = some r) : Ev X (D + 1) mm137 0 [some (.ref 21)] [] (mk s) (encI r) := by
  unfold f137 at h
  refine Ev.run (pc' := 8) (ls' := [some (.ref 21)]) (st' := [.int (s.1 21 4), .int (s.1 21 3)]) (h' := mk s) 4 rfl ?_
  refine Ev.icmp_ge (t := 25) rfl rfl (fun hb => ?_) (fun hb => ?_)
  · have h := (if_pos hb).symm.trans h
    refine Ev.run (pc' := 26) (ls' := [some (.ref 21)]) (st' := [.int (zi (-1))]) (h' := mk s) 1 rfl ?_
    cases h
    exact Ev.fin rfl rfl
  · have h := (if_neg hb).symm.trans h
    refine Ev.run (pc' := 19) (ls' := [some (.ref 21)]) (st' := [.int (s.1 21 3), .ref 1]) (h' := mk s) 4 rfl ?_
    obtain ⟨v2, s1, hq, h⟩ := zb1_some h
    refine Ev.call (M' := mm17) (v := some (.int v2)) (h' := mk s1) rfl rfl rfl (Nat.le_of_ble_eq_true rfl) (k17 (by decide) hq) ?_
    refine Ev.run (pc' := 26) (ls' := [some (.ref 21)]) (st' := [.int v2]) (h' := mk s1) 1 rfl ?_
    cases h
    exact Ev.fin rfl rfl
/-! 138 F$NumberReader.takeSign()Z -/
def f138_27  (x1 : Int32) (s : zS) : Option (Int32 × zS) := if ¬ x1 = (zi 45) then some (zi 0, s) else some (zi 1, s)
set_option maxRecDepth 100000 in
theorem k138_27 {X : mX} {D : Nat}   (x1 : Int32) (s : zS) (r : Int32 × zS) (o0 : Option Value)  (h : f138_27  x1 s = some r) : Ev X (D + 2) mm138 27 [o0, some (.int x1)] [] (mk s) (encI r) := by
  unfold f138_27 at h
  refine Ev.run (pc' := 30) (ls' := [o0, some (.int x1)]) (st' := [.int (zi 45), .int x1]) (h' := mk s) 2 rfl ?_
  refine Ev.icmp_ne (t := 37) rfl rfl (fun hb => ?_) (fun hb => ?_)
  · have h := (if_pos hb).symm.trans h
    refine Ev.run (pc' := 38) (ls' := [o0, some (.int x1)]) (st' := [.int (zi 0)]) (h' := mk s) 1 rfl ?_
    cases h
    exact Ev.fin rfl rfl
  · have h := (if_neg hb).symm.trans h
    refine Ev.run (pc' := 38) (ls' := [o0, some (.int x1)]) (st' := [.int (zi 1)]) (h' := mk s) 2 rfl ?_
    cases h
    exact Ev.fin rfl rfl
def f138   (s : zS) : Option (Int32 × zS) := zb1 (f137 s) (fun v2 s1 => if v2 = (zi 43) then f138_27 v2 (setI s1 21 3 ((s1.1 21 3) + (zi 1))) else if ¬ v2 = (zi 45) then f138_27 v2 s1 else f138_27 v2 (setI s1 21 3 ((s1.1 21 3) + (zi 1))))
set_option maxRecDepth 100000 in
theorem k138 {X : mX} {D : Nat}  {s : zS} {r : Int32 × zS}  (h : f138  s = some r) : Ev X (D + 2) mm138 0 [some (.ref 21), none] [] (mk s) (encI r) := by
  unfold f138 at h
  refine Ev.run (pc' := 1) (ls' := [some (.ref 21), none]) (st' := [.ref 21]) (h' := mk s) 1 rfl ?_
  obtain ⟨v2, s1, hq, h⟩ := zb1_some h
  refine Ev.call (M' := mm137) (v := some (.int v2)) (h' := mk s1) rfl rfl rfl (Nat.le_of_ble_eq_true rfl) (k137 hq) ?_
  refine Ev.run (pc' := 8) (ls' := [some (.ref 21), some (.int v2)]) (st' := [.int (zi 43), .int v2]) (h' := mk s1) 3 rfl ?_
  refine Ev.icmp_eq (t := 17) rfl rfl (fun hb => ?_) (fun hb => ?_)
  · have h := (if_pos hb).symm.trans h
    refine Ev.run (pc' := 24) (ls' := [some (.ref 21), some (.int v2)]) (st' := [.int ((s1.1 21 3) + (zi 1)), .ref 21]) (h' := mk s1) 5 rfl ?_
    refine Ev.step (pc' := 27) rfl (put_10_3 rfl) ?_
    exact k138_27 v2 (setI s1 21 3 ((s1.1 21 3) + (zi 1))) _ _ h
  · have h := (if_neg hb).symm.trans h
    refine Ev.run (pc' := 14) (ls' := [some (.ref 21), some (.int v2)]) (st' := [.int (zi 45), .int v2]) (h' := mk s1) 2 rfl ?_
    refine Ev.icmp_ne (t := 27) rfl rfl (fun hb => ?_) (fun hb => ?_)
    · have h := (if_pos hb).symm.trans h
      exact k138_27 v2 s1 _ _ h
    · have h := (if_neg hb).symm.trans h
      refine Ev.run (pc' := 24) (ls' := [some (.ref 21), some (.int v2)]) (st' := [.int ((s1.1 21 3) + (zi 1)), .ref 21]) (h' := mk s1) 5 rfl ?_
      refine Ev.step (pc' := 27) rfl (put_10_3 rfl) ?_
      exact k138_27 v2 (setI s1 21 3 ((s1.1 21 3) + (zi 1))) _ _ h
/-! 139 F$NumberReader.isRest(Ljava.lang.String;)Z -/
def b139_20 (rec20 : Nat → Int32 → zS → Option (Int32 × zS)) (c1 : Nat) (x2 : Int32) (s : zS) : Option (Int32 × zS) := if x2 ≥ (zlen c1) then some (zi 1, s) else zb1 (f17 1 ((s.1 21 3) + x2) s) (fun v2 s1 => if mIx x2 (zlenN c1) then if v2 = (zchr c1 x2) then rec20 c1 (x2 + zi 1) s1 else some (zi 0, s1) else none)
set_option maxRecDepth 100000 in
theorem kb139_20 {X : mX} {D : Nat} {rec20 : Nat → Int32 → zS → Option (Int32 × zS)} (hrec20 : ∀ (c1 : Nat) (x2 : Int32) (s : zS) (r : Int32 × zS) , c1 < 78 → rec20 c1 x2 s = some r → Ev X (D + 5) mm139 20 [some (.ref 21), some (.ref (mRO + 3 + 2 * c1)), some (.int x2)] [] (mk s) (encI r)) (c1 : Nat) (x2 : Int32) (s : zS) (r : Int32 × zS)  (hc1 : c1 < 78) (h : b139_20 rec20 c1 x2 s = some r) : Ev X (D + 5) mm139 20 [some (.ref 21), some (.ref (mRO + 3 + 2 * c1)), some (.int x2)] [] (mk s) (encI r) := by
  unfold b139_20 at h
  refine Ev.run (pc' := 22) (ls' := [some (.ref 21), some (.ref (mRO + 3 + 2 * c1)), some (.int x2)]) (st' := [.ref (mRO + 3 + 2 * c1), .int x2]) (h' := mk s) 2 rfl ?_
  refine Ev.call (M' := mm241) (as := [.ref (mRO + 3 + 2 * c1)]) (rest := [.int x2]) (v := some (.int (zlen c1))) (h' := mk s) rfl (litcall rfl rfl hc1 rfl rfl) rfl (Nat.le_of_ble_eq_true rfl) (kstrlen hc1) ?_
  refine Ev.icmp_ge (t := 57) rfl rfl (fun hb => ?_) (fun hb => ?_)
  · have h := (if_pos hb).symm.trans h
    refine Ev.run (pc' := 58) (ls' := [some (.ref 21), some (.ref (mRO + 3 + 2 * c1)), some (.int x2)]) (st' := [.int (zi 1)]) (h' := mk s) 1 rfl ?_
    cases h
    exact Ev.fin rfl rfl
  · have h := (if_neg hb).symm.trans h
    refine Ev.run (pc' := 38) (ls' := [some (.ref 21), some (.ref (mRO + 3 + 2 * c1)), some (.int x2)]) (st' := [.int ((s.1 21 3) + x2), .ref 1]) (h' := mk s) 6 rfl ?_
    obtain ⟨v2, s1, hq, h⟩ := zb1_some h
    refine Ev.call (M' := mm17) (v := some (.int v2)) (h' := mk s1) rfl rfl rfl (Nat.le_of_ble_eq_true rfl) (k17 (by decide) hq) ?_
    refine Ev.run (pc' := 43) (ls' := [some (.ref 21), some (.ref (mRO + 3 + 2 * c1)), some (.int x2)]) (st' := [.int x2, .ref (mRO + 3 + 2 * c1), .int v2]) (h' := mk s1) 2 rfl ?_
    obtain ⟨hx, h⟩ := zif h
    refine Ev.call (M' := mm242) (as := [.ref (mRO + 3 + 2 * c1), .int x2]) (rest := [.int v2]) (v := some (.int (zchr c1 x2))) (h' := mk s1) rfl (litcall rfl rfl hc1 rfl rfl) rfl (Nat.le_of_ble_eq_true rfl) (kcharat hc1 hx) ?_
    refine Ev.icmp_eq (t := 51) rfl rfl (fun hb => ?_) (fun hb => ?_)
    · have h := (if_pos hb).symm.trans h
      refine Ev.run (pc' := 20) (ls' := [some (.ref 21), some (.ref (mRO + 3 + 2 * c1)), some (.int (x2 + zi 1))]) (st' := []) (h' := mk s1) 2 rfl ?_
      exact hrec20 c1 (x2 + zi 1) s1 _ hc1 h
    · have h := (if_neg hb).symm.trans h
      refine Ev.run (pc' := 50) (ls' := [some (.ref 21), some (.ref (mRO + 3 + 2 * c1)), some (.int x2)]) (st' := [.int (zi 0)]) (h' := mk s1) 1 rfl ?_
      cases h
      exact Ev.fin rfl rfl
def f139_20  : Nat → Nat → Int32 → zS → Option (Int32 × zS)
  | 0, _, _, _ => none
  | n + 1, c1, x2, s => b139_20 (f139_20 n) c1 x2 s
set_option maxRecDepth 100000 in
theorem k139_20 {X : mX} {D : Nat}   (n : Nat) : ∀ (c1 : Nat) (x2 : Int32) (s : zS) (r : Int32 × zS) , c1 < 78 → f139_20  n c1 x2 s = some r → Ev X (D + 5) mm139 20 [some (.ref 21), some (.ref (mRO + 3 + 2 * c1)), some (.int x2)] [] (mk s) (encI r) := by
  induction n with
  | zero => intro c1 x2 s r  hc1 h; cases h
  | succ n ih => intro c1 x2 s r  hc1 h; exact kb139_20  ih c1 x2 s r  hc1 h
def f139  (c1 : Nat) (s : zS) : Option (Int32 × zS) := if ((s.1 21 4) - (s.1 21 3)) = (zlen c1) then f139_20 zF c1 (zi 0) s else some (zi 0, s)
set_option maxRecDepth 100000 in
theorem k139 {X : mX} {D : Nat} {c1 : Nat} {s : zS} {r : Int32 × zS} (hc1 : c1 < 78) (h : f139 c1 s = some r) : Ev X (D + 5) mm139 0 [some (.ref 21), some (.ref (mRO + 3 + 2 * c1)), none] [] (mk s) (encI r) := by
  unfold f139 at h
  refine Ev.run (pc' := 10) (ls' := [some (.ref 21), some (.ref (mRO + 3 + 2 * c1)), none]) (st' := [.ref (mRO + 3 + 2 * c1), .int ((s.1 21 4) - (s.1 21 3))]) (h' := mk s) 6 rfl ?_
  refine Ev.call (M' := mm241) (as := [.ref (mRO + 3 + 2 * c1)]) (rest := [.int ((s.1 21 4) - (s.1 21 3))]) (v := some (.int (zlen c1))) (h' := mk s) rfl (litcall rfl rfl hc1 rfl rfl) rfl (Nat.le_of_ble_eq_true rfl) (kstrlen hc1) ?_
  refine Ev.icmp_eq (t := 18) rfl rfl (fun hb => ?_) (fun hb => ?_)
  · have h := (if_pos hb).symm.trans h
    refine Ev.run (pc' := 20) (ls' := [some (.ref 21), some (.ref (mRO + 3 + 2 * c1)), some (.int (zi 0))]) (st' := []) (h' := mk s) 2 rfl ?_
    exact k139_20 zF c1 (zi 0) s _ hc1 h
  · have h := (if_neg hb).symm.trans h
    refine Ev.run (pc' := 17) (ls' := [some (.ref 21), some (.ref (mRO + 3 + 2 * c1)), none]) (st' := [.int (zi 0)]) (h' := mk s) 1 rfl ?_
    cases h
    exact Ev.fin rfl rfl
/-! 149 F$Binary.infinity(Z)J -/
def r149 (x0 : Int32) (s : zS) : Int64 := if x0 = zi 0 then zl 9218868437227405312 else zl 2139095040
set_option maxRecDepth 100000 in
theorem k149 {X : mX} {D : Nat} {x0 : Int32} {s : zS} {v : Int64} (h : r149 x0 s = v) : Ev X D mm149 0 [some (.int x0)] [] (mk s) (encL (v, s)) := by
  unfold r149 at h
  refine Ev.run (pc' := 1) (ls' := [some (.int x0)]) (st' := [.int x0]) (h' := mk s) 1 rfl ?_
  refine Ev.if_eq (t := 10) rfl rfl (fun hb => ?_) (fun hb => ?_)
  · have h := (if_pos hb).symm.trans h
    refine Ev.run (pc' := 13) (ls' := [some (.int x0)]) (st' := [.long (zl 9218868437227405312)]) (h' := mk s) 1 rfl ?_
    subst h
    exact Ev.fin rfl rfl
  · have h := (if_neg hb).symm.trans h
    refine Ev.run (pc' := 13) (ls' := [some (.int x0)]) (st' := [.long (zl 2139095040)]) (h' := mk s) 2 rfl ?_
    subst h
    exact Ev.fin rfl rfl
/-! 147 F$NumberReader.signed(J)J -/
def r147 (x1 : Int64) (s : zS) : Int64 := if ¬ (s.1 21 5) = zi 0 then if (s.1 21 2) = zi 0 then x1 ||| (zl (-9223372036854775808)) else zI2L (zL2I (x1 ||| (zl 2147483648))) else x1
set_option maxRecDepth 100000 in
theorem k147 {X : mX} {D : Nat} {x1 : Int64} {s : zS} {v : Int64} (h : r147 x1 s = v) : Ev X D mm147 0 [some (.ref 21), some (.long x1), none] [] (mk s) (encL (v, s)) := by
  unfold r147 at h
  refine Ev.run (pc' := 4) (ls' := [some (.ref 21), some (.long x1), none]) (st' := [.int (s.1 21 5)]) (h' := mk s) 2 rfl ?_
  refine Ev.if_ne (t := 9) rfl rfl (fun hb => ?_) (fun hb => ?_)
  · have h := (if_pos hb).symm.trans h
    refine Ev.run (pc' := 13) (ls' := [some (.ref 21), some (.long x1), none]) (st' := [.int (s.1 21 2)]) (h' := mk s) 2 rfl ?_
    refine Ev.if_eq (t := 26) rfl rfl (fun hb => ?_) (fun hb => ?_)
    · have h := (if_pos hb).symm.trans h
      refine Ev.run (pc' := 31) (ls' := [some (.ref 21), some (.long x1), none]) (st' := [.long (x1 ||| (zl (-9223372036854775808)))]) (h' := mk s) 3 rfl ?_
      subst h
      exact Ev.fin rfl rfl
    · have h := (if_neg hb).symm.trans h
      refine Ev.run (pc' := 31) (ls' := [some (.ref 21), some (.long x1), none]) (st' := [.long (zI2L (zL2I (x1 ||| (zl 2147483648))))]) (h' := mk s) 6 rfl ?_
      subst h
      exact Ev.fin rfl rfl
  · have h := (if_neg hb).symm.trans h
    refine Ev.run (pc' := 8) (ls' := [some (.ref 21), some (.long x1), none]) (st' := [.long x1]) (h' := mk s) 1 rfl ?_
    subst h
    exact Ev.fin rfl rfl
/-! 150 F$Binary.empty()V -/
def f150   (s : zS) : Option (zS) := some (setI (setI (setI s 22 1 (zi 0)) 22 2 (zi 0)) 22 3 (zi 0))
set_option maxRecDepth 100000 in
theorem k150 {X : mX} {D : Nat}  {s : zS} {r : zS}  (h : f150  s = some r) : Ev X D mm150 0 [some (.ref 22)] [] (mk s) (encV r) := by
  unfold f150 at h
  refine Ev.run (pc' := 2) (ls' := [some (.ref 22)]) (st' := [.int (zi 0), .ref 22]) (h' := mk s) 2 rfl ?_
  refine Ev.step (pc' := 5) rfl (put_11_1 rfl) ?_
  refine Ev.run (pc' := 7) (ls' := [some (.ref 22)]) (st' := [.int (zi 0), .ref 22]) (h' := mk (setI s 22 1 (zi 0))) 2 rfl ?_
  refine Ev.step (pc' := 10) rfl (put_11_2 rfl) ?_
  refine Ev.run (pc' := 12) (ls' := [some (.ref 22)]) (st' := [.int (zi 0), .ref 22]) (h' := mk (setI (setI s 22 1 (zi 0)) 22 2 (zi 0))) 2 rfl ?_
  refine Ev.step (pc' := 15) rfl (put_11_3 (by decide) rfl) ?_
  cases h
  exact Ev.fin rfl rfl
/-! 142 F$NumberReader.digitOf(II)I -/
def f142_17  (x0 : Int32) (x1 : Int32) (s : zS) : Option (Int32 × zS) := if ¬ x1 = (zi 16) then some (zi (-1), s) else if (x0 ||| (zi 32)) < (zi 97) then some (zi (-1), s) else if (x0 ||| (zi 32)) > (zi 102) then some (zi (-1), s) else some (((x0 ||| (zi 32)) - (zi 97)) + (zi 10), s)
set_option maxRecDepth 100000 in
theorem k142_17 {X : mX} {D : Nat}   (x0 : Int32) (x1 : Int32) (s : zS) (r : Int32 × zS) (o2 : Option Value)  (h : f142_17  x0 x1 s = some r) : Ev X D mm142 17 [some (.int x0), some (.int x1), o2] [] (mk s) (encI r) := by
  unfold f142_17 at h
  refine Ev.run (pc' := 25) (ls' := [some (.int x0), some (.int x1), some (.int (x0 ||| (zi 32)))]) (st' := [.int (zi 16), .int x1]) (h' := mk s) 6 rfl ?_
  refine Ev.icmp_ne (t := 50) rfl rfl (fun hb => ?_) (fun hb => ?_)
  · have h := (if_pos hb).symm.trans h
    refine Ev.run (pc' := 51) (ls' := [some (.int x0), some (.int x1), some (.int (x0 ||| (zi 32)))]) (st' := [.int (zi (-1))]) (h' := mk s) 1 rfl ?_
    cases h
    exact Ev.fin rfl rfl
  · have h := (if_neg hb).symm.trans h
    refine Ev.run (pc' := 31) (ls' := [some (.int x0), some (.int x1), some (.int (x0 ||| (zi 32)))]) (st' := [.int (zi 97), .int (x0 ||| (zi 32))]) (h' := mk s) 2 rfl ?_
    refine Ev.icmp_lt (t := 50) rfl rfl (fun hb => ?_) (fun hb => ?_)
    · have h := (if_pos hb).symm.trans h
      refine Ev.run (pc' := 51) (ls' := [some (.int x0), some (.int x1), some (.int (x0 ||| (zi 32)))]) (st' := [.int (zi (-1))]) (h' := mk s) 1 rfl ?_
      cases h
      exact Ev.fin rfl rfl
    · have h := (if_neg hb).symm.trans h
      refine Ev.run (pc' := 37) (ls' := [some (.int x0), some (.int x1), some (.int (x0 ||| (zi 32)))]) (st' := [.int (zi 102), .int (x0 ||| (zi 32))]) (h' := mk s) 2 rfl ?_
      refine Ev.icmp_gt (t := 50) rfl rfl (fun hb => ?_) (fun hb => ?_)
      · have h := (if_pos hb).symm.trans h
        refine Ev.run (pc' := 51) (ls' := [some (.int x0), some (.int x1), some (.int (x0 ||| (zi 32)))]) (st' := [.int (zi (-1))]) (h' := mk s) 1 rfl ?_
        cases h
        exact Ev.fin rfl rfl
      · have h := (if_neg hb).symm.trans h
        refine Ev.run (pc' := 51) (ls' := [some (.int x0), some (.int x1), some (.int (x0 ||| (zi 32)))]) (st' := [.int (((x0 ||| (zi 32)) - (zi 97)) + (zi 10))]) (h' := mk s) 6 rfl ?_
        cases h
        exact Ev.fin rfl rfl
def f142  (x0 : Int32) (x1 : Int32) (s : zS) : Option (Int32 × zS) := if x0 < (zi 48) then f142_17 x0 x1 s else if x0 > (zi 57) then f142_17 x0 x1 s else some (x0 - (zi 48), s)
set_option maxRecDepth 100000 in
theorem k142 {X : mX} {D : Nat} {x0 : Int32} {x1 : Int32} {s : zS} {r : Int32 × zS}  (h : f142 x0 x1 s = some r) : Ev X D mm142 0 [some (.int x0), some (.int x1), none] [] (mk s) (encI r) := by
  unfold f142 at h
  refine Ev.run (pc' := 3) (ls' := [some (.int x0), some (.int x1), none]) (st' := [.int (zi 48), .int x0]) (h' := mk s) 2 rfl ?_
  refine Ev.icmp_lt (t := 17) rfl rfl (fun hb => ?_) (fun hb => ?_)
  · have h := (if_pos hb).symm.trans h
    exact k142_17 x0 x1 s _ _ h
  · have h := (if_neg hb).symm.trans h
    refine Ev.run (pc' := 9) (ls' := [some (.int x0), some (.int x1), none]) (st' := [.int (zi 57), .int x0]) (h' := mk s) 2 rfl ?_
    refine Ev.icmp_gt (t := 17) rfl rfl (fun hb => ?_) (fun hb => ?_)
    · have h := (if_pos hb).symm.trans h
      exact k142_17 x0 x1 s _ _ h
    · have h := (if_neg hb).symm.trans h
      refine Ev.run (pc' := 16) (ls' := [some (.int x0), some (.int x1), none]) (st' := [.int (x0 - (zi 48))]) (h' := mk s) 3 rfl ?_
      cases h
      exact Ev.fin rfl rfl
/-! 141 F$NumberReader.countDigit(IZ)V -/
def f141_24  (x1 : Int32) (y1 : Int32) (y2 : Int32) (s : zS) : Option (zS) := if x1 > zi 0 then some (setI (setI s 21 7 (y1 + y2)) 21 8 ((s.1 21 8) + (zi 1))) else if (s.1 21 8) ≤ zi 0 then some (setI (setI s 21 7 (y1 + y2)) 21 8 ((s.1 21 8) + (zi 0))) else some (setI (setI s 21 7 (y1 + y2)) 21 8 ((s.1 21 8) + (zi 1)))
set_option maxRecDepth 100000 in
theorem k141_24 {X : mX} {D : Nat}   (x1 : Int32) (y1 : Int32) (y2 : Int32) (s : zS) (r : zS) (o2 : Option Value)  (h : f141_24  x1 y1 y2 s = some r) : Ev X D mm141 24 [some (.ref 21), some (.int x1), o2] [.int y2, .int y1, .ref 21] (mk s) (encV r) := by
  unfold f141_24 at h
  refine Ev.run (pc' := 25) (ls' := [some (.ref 21), some (.int x1), o2]) (st' := [.int (y1 + y2), .ref 21]) (h' := mk s) 1 rfl ?_
  refine Ev.step (pc' := 28) rfl (put_10_7 rfl) ?_
  refine Ev.run (pc' := 34) (ls' := [some (.ref 21), some (.int x1), o2]) (st' := [.int x1, .int (s.1 21 8), .ref 21]) (h' := mk (setI s 21 7 (y1 + y2))) 4 rfl ?_
  refine Ev.if_gt (t := 44) rfl rfl (fun hb => ?_) (fun hb => ?_)
  · have h := (if_pos hb).symm.trans h
    refine Ev.run (pc' := 50) (ls' := [some (.ref 21), some (.int x1), o2]) (st' := [.int ((s.1 21 8) + (zi 1)), .ref 21]) (h' := mk (setI s 21 7 (y1 + y2))) 3 rfl ?_
    refine Ev.step (pc' := 53) rfl (put_10_8 rfl) ?_
    cases h
    exact Ev.fin rfl rfl
  · have h := (if_neg hb).symm.trans h
    refine Ev.run (pc' := 41) (ls' := [some (.ref 21), some (.int x1), o2]) (st' := [.int (s.1 21 8), .int (s.1 21 8), .ref 21]) (h' := mk (setI s 21 7 (y1 + y2))) 2 rfl ?_
    refine Ev.if_le (t := 48) rfl rfl (fun hb => ?_) (fun hb => ?_)
    · have h := (if_pos hb).symm.trans h
      refine Ev.run (pc' := 50) (ls' := [some (.ref 21), some (.int x1), o2]) (st' := [.int ((s.1 21 8) + (zi 0)), .ref 21]) (h' := mk (setI s 21 7 (y1 + y2))) 2 rfl ?_
      refine Ev.step (pc' := 53) rfl (put_10_8 rfl) ?_
      cases h
      exact Ev.fin rfl rfl
    · have h := (if_neg hb).symm.trans h
      refine Ev.run (pc' := 50) (ls' := [some (.ref 21), some (.int x1), o2]) (st' := [.int ((s.1 21 8) + (zi 1)), .ref 21]) (h' := mk (setI s 21 7 (y1 + y2))) 3 rfl ?_
      refine Ev.step (pc' := 53) rfl (put_10_8 rfl) ?_
      cases h
      exact Ev.fin rfl rfl
def f141  (x1 : Int32) (x2 : Int32) (s : zS) : Option (zS) := if x2 = zi 0 then f141_24 x1 (s.1 21 7) (zi 0) (setI s 21 6 ((s.1 21 6) + (zi 1))) else f141_24 x1 (s.1 21 7) (zi 1) (setI s 21 6 ((s.1 21 6) + (zi 1)))
set_option maxRecDepth 100000 in
theorem k141 {X : mX} {D : Nat} {x1 : Int32} {x2 : Int32} {s : zS} {r : zS}  (h : f141 x1 x2 s = some r) : Ev X D mm141 0 [some (.ref 21), some (.int x1), some (.int x2)] [] (mk s) (encV r) := by
  unfold f141 at h
  refine Ev.run (pc' := 7) (ls' := [some (.ref 21), some (.int x1), some (.int x2)]) (st' := [.int ((s.1 21 6) + (zi 1)), .ref 21]) (h' := mk s) 5 rfl ?_
  refine Ev.step (pc' := 10) rfl (put_10_6 rfl) ?_
  refine Ev.run (pc' := 16) (ls' := [some (.ref 21), some (.int x1), some (.int x2)]) (st' := [.int x2, .int (s.1 21 7), .ref 21]) (h' := mk (setI s 21 6 ((s.1 21 6) + (zi 1)))) 4 rfl ?_
  refine Ev.if_eq (t := 23) rfl rfl (fun hb => ?_) (fun hb => ?_)
  · have h := (if_pos hb).symm.trans h
    refine Ev.run (pc' := 24) (ls' := [some (.ref 21), some (.int x1), some (.int x2)]) (st' := [.int (zi 0), .int (s.1 21 7), .ref 21]) (h' := mk (setI s 21 6 ((s.1 21 6) + (zi 1)))) 1 rfl ?_
    exact k141_24 x1 (s.1 21 7) (zi 0) (setI s 21 6 ((s.1 21 6) + (zi 1))) _ _ h
  · have h := (if_neg hb).symm.trans h
    refine Ev.run (pc' := 24) (ls' := [some (.ref 21), some (.int x1), some (.int x2)]) (st' := [.int (zi 1), .int (s.1 21 7), .ref 21]) (h' := mk (setI s 21 6 ((s.1 21 6) + (zi 1)))) 2 rfl ?_
    exact k141_24 x1 (s.1 21 7) (zi 1) (setI s 21 6 ((s.1 21 6) + (zi 1))) _ _ h
/-! 151 F$Binary.multiplyAdd(JJ)V -/
def b151_6 (rec6 : Int64 → Int64 → Int32 → zS → Option (zS)) (x1 : Int64) (x5 : Int64) (x7 : Int32) (s : zS) : Option (zS) := if x7 ≥ (s.1 22 1) then if x5 = (zl 0) then some s else if (s.1 22 1) ≥ (zi 128) then some s else if mIx (s.1 22 1) 128 then some (setI (setK s 23 ((s.1 22 1).toNatClampNeg) x5) 22 1 ((s.1 22 1) + (zi 1))) else none else if mIx x7 128 then if mIx x7 128 then rec6 x1 (zushrL (((s.2.1 23 x7.toNatClampNeg) * x1) + x5) (zi 32)) (x7 + zi 1) (setK s 23 x7.toNatClampNeg ((((s.2.1 23 x7.toNatClampNeg) * x1) + x5) &&& (zl 4294967295))) else none else none
set_option maxRecDepth 100000 in
theorem kb151_6 {X : mX} {D : Nat} {rec6 : Int64 → Int64 → Int32 → zS → Option (zS)} (hrec6 : ∀ (x1 : Int64) (x5 : Int64) (x7 : Int32) (s : zS) (r : zS) (o3 : Option Value) (o8 : Option Value) (o9 : Option Value), rec6 x1 x5 x7 s = some r → Ev X D mm151 6 [some (.ref 22), some (.long x1), none, o3, none, some (.long x5), none, some (.int x7), o8, o9] [] (mk s) (encV r)) (x1 : Int64) (x5 : Int64) (x7 : Int32) (s : zS) (r : zS) (o3 : Option Value) (o8 : Option Value) (o9 : Option Value)  (h : b151_6 rec6 x1 x5 x7 s = some r) : Ev X D mm151 6 [some (.ref 22), some (.long x1), none, o3, none, some (.long x5), none, some (.int x7), o8, o9] [] (mk s) (encV r) := by
  unfold b151_6 at h
  refine Ev.run (pc' := 12) (ls' := [some (.ref 22), some (.long x1), none, o3, none, some (.long x5), none, some (.int x7), o8, o9]) (st' := [.int (s.1 22 1), .int x7]) (h' := mk s) 3 rfl ?_
  refine Ev.icmp_ge (t := 55) rfl rfl (fun hb => ?_) (fun hb => ?_)
  · have h := (if_pos hb).symm.trans h
    refine Ev.run (pc' := 59) (ls' := [some (.ref 22), some (.long x1), none, o3, none, some (.long x5), none, some (.int x7), o8, o9]) (st' := [.int (lg_cmp x5 (zl 0))]) (h' := mk s) 3 rfl ?_
    refine Ev.ifl_eq (t := 93) rfl rfl (fun hb => ?_) (fun hb => ?_)
    · have h := (if_pos hb).symm.trans h
      cases h
      exact Ev.fin rfl rfl
    · have h := (if_neg hb).symm.trans h
      refine Ev.run (pc' := 69) (ls' := [some (.ref 22), some (.long x1), none, o3, none, some (.long x5), none, some (.int x7), o8, o9]) (st' := [.int (zi 128), .int (s.1 22 1)]) (h' := mk s) 3 rfl ?_
      refine Ev.icmp_ge (t := 93) rfl rfl (fun hb => ?_) (fun hb => ?_)
      · have h := (if_pos hb).symm.trans h
        cases h
        exact Ev.fin rfl rfl
      · have h := (if_neg hb).symm.trans h
        refine Ev.run (pc' := 82) (ls' := [some (.ref 22), some (.long x1), none, o3, none, some (.long x5), none, some (.int x7), o8, o9]) (st' := [.long x5, .int (s.1 22 1), .ref 23]) (h' := mk s) 5 rfl ?_
        obtain ⟨hx, h⟩ := zif h
        refine Ev.step (pc' := 83) rfl (ast_23 hx) ?_
        refine Ev.run (pc' := 90) (ls' := [some (.ref 22), some (.long x1), none, o3, none, some (.long x5), none, some (.int x7), o8, o9]) (st' := [.int ((s.1 22 1) + (zi 1)), .ref 22]) (h' := mk (setK s 23 ((s.1 22 1).toNatClampNeg) x5)) 5 rfl ?_
        refine Ev.step (pc' := 93) rfl (put_11_1 rfl) ?_
        cases h
        exact Ev.fin rfl rfl
  · have h := (if_neg hb).symm.trans h
    refine Ev.run (pc' := 21) (ls' := [some (.ref 22), some (.long x1), none, o3, none, some (.long x5), none, some (.int x7), o8, o9]) (st' := [.int x7, .ref 23]) (h' := mk s) 3 rfl ?_
    obtain ⟨hx, h⟩ := zif h
    refine Ev.step (pc' := 22) rfl (ald_l rfl hx) ?_
    refine Ev.run (pc' := 41) (ls' := [some (.ref 22), some (.long x1), none, o3, none, some (.long x5), none, some (.int x7), some (.long (((s.2.1 23 x7.toNatClampNeg) * x1) + x5)), none]) (st' := [.long ((((s.2.1 23 x7.toNatClampNeg) * x1) + x5) &&& (zl 4294967295)), .int x7, .ref 23]) (h' := mk s) 11 rfl ?_
    obtain ⟨hx, h⟩ := zif h
    refine Ev.step (pc' := 42) rfl (ast_23 hx) ?_
    refine Ev.run (pc' := 6) (ls' := [some (.ref 22), some (.long x1), none, o3, none, some (.long (zushrL (((s.2.1 23 x7.toNatClampNeg) * x1) + x5) (zi 32))), none, some (.int (x7 + zi 1)), some (.long (((s.2.1 23 x7.toNatClampNeg) * x1) + x5)), none]) (st' := []) (h' := mk (setK s 23 x7.toNatClampNeg ((((s.2.1 23 x7.toNatClampNeg) * x1) + x5) &&& (zl 4294967295)))) 6 rfl ?_
    exact hrec6 x1 (zushrL (((s.2.1 23 x7.toNatClampNeg) * x1) + x5) (zi 32)) (x7 + zi 1) (setK s 23 x7.toNatClampNeg ((((s.2.1 23 x7.toNatClampNeg) * x1) + x5) &&& (zl 4294967295))) _ _ _ _ h
def f151_6  : Nat → Int64 → Int64 → Int32 → zS → Option (zS)
  | 0, _, _, _, _ => none
  | n + 1, x1, x5, x7, s => b151_6 (f151_6 n) x1 x5 x7 s
set_option maxRecDepth 100000 in
theorem k151_6 {X : mX} {D : Nat}   (n : Nat) : ∀ (x1 : Int64) (x5 : Int64) (x7 : Int32) (s : zS) (r : zS) (o3 : Option Value) (o8 : Option Value) (o9 : Option Value), f151_6  n x1 x5 x7 s = some r → Ev X D mm151 6 [some (.ref 22), some (.long x1), none, o3, none, some (.long x5), none, some (.int x7), o8, o9] [] (mk s) (encV r) := by
  induction n with
  | zero => intro x1 x5 x7 s r o3 o8 o9  h; cases h
  | succ n ih => intro x1 x5 x7 s r o3 o8 o9  h; exact kb151_6  ih x1 x5 x7 s r o3 o8 o9  h
def f151  (x1 : Int64) (x3 : Int64) (s : zS) : Option (zS) := f151_6 zF x1 x3 (zi 0) s
set_option maxRecDepth 100000 in
theorem k151 {X : mX} {D : Nat} {x1 : Int64} {x3 : Int64} {s : zS} {r : zS}  (h : f151 x1 x3 s = some r) : Ev X D mm151 0 [some (.ref 22), some (.long x1), none, some (.long x3), none, none, none, none, none, none] [] (mk s) (encV r) := by
  unfold f151 at h
  refine Ev.run (pc' := 6) (ls' := [some (.ref 22), some (.long x1), none, some (.long x3), none, some (.long x3), none, some (.int (zi 0)), none, none]) (st' := []) (h' := mk s) 4 rfl ?_
  exact k151_6 zF x1 x3 (zi 0) s _ _ _ _ h
/-! 140 F$NumberReader.takeDigits(I)V -/
def f140_137  (x3 : Int32) (x4 : Int32) (s : zS) : Option (zS) := zb0 (f151 (zI2L x3) (zI2L x4) s) (fun s1 => some s1)
set_option maxRecDepth 100000 in
theorem k140_137 {X : mX} {D : Nat}   (x3 : Int32) (x4 : Int32) (s : zS) (r : zS) (o1 : Option Value) (o2 : Option Value) (o5 : Option Value)  (h : f140_137  x3 x4 s = some r) : Ev X (D + 2) mm140 137 [some (.ref 21), o1, o2, some (.int x3), some (.int x4), o5] [] (mk s) (encV r) := by
  unfold f140_137 at h
  refine Ev.run (pc' := 146) (ls' := [some (.ref 21), o1, o2, some (.int x3), some (.int x4), o5]) (st' := [.long (zI2L x4), .long (zI2L x3), .ref 22]) (h' := mk s) 6 rfl ?_
  obtain ⟨s1, hq, h⟩ := zb0_some h
  refine Ev.call (M' := mm151) (v := none) (h' := mk s1) rfl rfl rfl (Nat.le_of_ble_eq_true rfl) (k151 hq) ?_
  cases h
  exact Ev.fin rfl rfl
def f140_124 (rec29 : Int32 → Int32 → Int32 → Int32 → zS → Option (zS)) (x1 : Int32) (x2 : Int32) (x3 : Int32) (x4 : Int32) (s : zS) : Option (zS) := rec29 x1 x2 x3 x4 (setI s 21 3 ((s.1 21 3) + (zi 1)))
set_option maxRecDepth 100000 in
theorem k140_124 {X : mX} {D : Nat} {rec29 : Int32 → Int32 → Int32 → Int32 → zS → Option (zS)} (hrec29 : ∀ (x1 : Int32) (x2 : Int32) (x3 : Int32) (x4 : Int32) (s : zS) (r : zS) (o5 : Option Value), rec29 x1 x2 x3 x4 s = some r → Ev X (D + 2) mm140 29 [some (.ref 21), some (.int x1), some (.int x2), some (.int x3), some (.int x4), o5] [] (mk s) (encV r)) (x1 : Int32) (x2 : Int32) (x3 : Int32) (x4 : Int32) (s : zS) (r : zS) (o5 : Option Value)  (h : f140_124 rec29 x1 x2 x3 x4 s = some r) : Ev X (D + 2) mm140 124 [some (.ref 21), some (.int x1), some (.int x2), some (.int x3), some (.int x4), o5] [] (mk s) (encV r) := by
  unfold f140_124 at h
  refine Ev.run (pc' := 131) (ls' := [some (.ref 21), some (.int x1), some (.int x2), some (.int x3), some (.int x4), o5]) (st' := [.int ((s.1 21 3) + (zi 1)), .ref 21]) (h' := mk s) 5 rfl ?_
  refine Ev.step (pc' := 134) rfl (put_10_3 rfl) ?_
  refine Ev.run (pc' := 29) (ls' := [some (.ref 21), some (.int x1), some (.int x2), some (.int x3), some (.int x4), o5]) (st' := []) (h' := mk (setI s 21 3 ((s.1 21 3) + (zi 1)))) 1 rfl ?_
  exact hrec29 x1 x2 x3 x4 (setI s 21 3 ((s.1 21 3) + (zi 1))) _ _ h
def f140_71 (rec29 : Int32 → Int32 → Int32 → Int32 → zS → Option (zS)) (x1 : Int32) (x2 : Int32) (x3 : Int32) (x4 : Int32) (x5 : Int32) (s : zS) : Option (zS) := if x5 ≥ zi 0 then zb0 (f141 x5 x2 s) (fun s1 => if (x3 * x1) < (zi 100000000) then f140_124 rec29 x1 x2 (x3 * x1) ((x4 * x1) + x5) s1 else zb0 (f151 (zI2L (x3 * x1)) (zI2L ((x4 * x1) + x5)) s1) (fun s2 => f140_124 rec29 x1 x2 (zi 1) (zi 0) s2)) else f140_124 rec29 x1 (zi 1) x3 x4 s
set_option maxRecDepth 100000 in
theorem k140_71 {X : mX} {D : Nat} {rec29 : Int32 → Int32 → Int32 → Int32 → zS → Option (zS)} (hrec29 : ∀ (x1 : Int32) (x2 : Int32) (x3 : Int32) (x4 : Int32) (s : zS) (r : zS) (o5 : Option Value), rec29 x1 x2 x3 x4 s = some r → Ev X (D + 2) mm140 29 [some (.ref 21), some (.int x1), some (.int x2), some (.int x3), some (.int x4), o5] [] (mk s) (encV r)) (x1 : Int32) (x2 : Int32) (x3 : Int32) (x4 : Int32) (x5 : Int32) (s : zS) (r : zS)   (h : f140_71 rec29 x1 x2 x3 x4 x5 s = some r) : Ev X (D + 2) mm140 71 [some (.ref 21), some (.int x1), some (.int x2), some (.int x3), some (.int x4), some (.int x5)] [] (mk s) (encV r) := by
  unfold f140_71 at h
  refine Ev.run (pc' := 73) (ls' := [some (.ref 21), some (.int x1), some (.int x2), some (.int x3), some (.int x4), some (.int x5)]) (st' := [.int x5]) (h' := mk s) 1 rfl ?_
  refine Ev.if_ge (t := 81) rfl rfl (fun hb => ?_) (fun hb => ?_)
  · have h := (if_pos hb).symm.trans h
    refine Ev.run (pc' := 85) (ls' := [some (.ref 21), some (.int x1), some (.int x2), some (.int x3), some (.int x4), some (.int x5)]) (st' := [.int x2, .int x5, .ref 21]) (h' := mk s) 3 rfl ?_
    obtain ⟨s1, hq, h⟩ := zb0_some h
    refine Ev.call (M' := mm141) (v := none) (h' := mk s1) rfl rfl rfl (Nat.le_of_ble_eq_true rfl) (k141 hq) ?_
    refine Ev.run (pc' := 104) (ls' := [some (.ref 21), some (.int x1), some (.int x2), some (.int (x3 * x1)), some (.int ((x4 * x1) + x5)), some (.int x5)]) (st' := [.int (zi 100000000), .int (x3 * x1)]) (h' := mk s1) 12 rfl ?_
    refine Ev.icmp_lt (t := 124) rfl rfl (fun hb => ?_) (fun hb => ?_)
    · have h := (if_pos hb).symm.trans h
      exact k140_124 hrec29 x1 x2 (x3 * x1) ((x4 * x1) + x5) s1 _ _ h
    · have h := (if_neg hb).symm.trans h
      refine Ev.run (pc' := 116) (ls' := [some (.ref 21), some (.int x1), some (.int x2), some (.int (x3 * x1)), some (.int ((x4 * x1) + x5)), some (.int x5)]) (st' := [.long (zI2L ((x4 * x1) + x5)), .long (zI2L (x3 * x1)), .ref 22]) (h' := mk s1) 6 rfl ?_
      obtain ⟨s2, hq, h⟩ := zb0_some h
      refine Ev.call (M' := mm151) (v := none) (h' := mk s2) rfl rfl rfl (Nat.le_of_ble_eq_true rfl) (k151 hq) ?_
      refine Ev.run (pc' := 124) (ls' := [some (.ref 21), some (.int x1), some (.int x2), some (.int (zi 1)), some (.int (zi 0)), some (.int x5)]) (st' := []) (h' := mk s2) 4 rfl ?_
      exact k140_124 hrec29 x1 x2 (zi 1) (zi 0) s2 _ _ h
  · have h := (if_neg hb).symm.trans h
    refine Ev.run (pc' := 124) (ls' := [some (.ref 21), some (.int x1), some (.int (zi 1)), some (.int x3), some (.int x4), some (.int x5)]) (st' := []) (h' := mk s) 3 rfl ?_
    exact k140_124 hrec29 x1 (zi 1) x3 x4 s _ _ h
def b140_29 (rec29 : Int32 → Int32 → Int32 → Int32 → zS → Option (zS)) (x1 : Int32) (x2 : Int32) (x3 : Int32) (x4 : Int32) (s : zS) : Option (zS) := if (s.1 21 3) ≥ (s.1 21 4) then f140_137 x3 x4 s else zb1 (f137 s) (fun v2 s1 => zb1 (f142 v2 x1 s1) (fun v4 s3 => if v4 ≥ zi 0 then f140_71 rec29 x1 x2 x3 x4 v4 s3 else if ¬ x2 = zi 0 then f140_137 x3 x4 s3 else zb1 (f137 s3) (fun v6 s5 => if v6 = (zi 46) then f140_71 rec29 x1 x2 x3 x4 v4 s5 else f140_137 x3 x4 s5)))
set_option maxRecDepth 100000 in
theorem kb140_29 {X : mX} {D : Nat} {rec29 : Int32 → Int32 → Int32 → Int32 → zS → Option (zS)} (hrec29 : ∀ (x1 : Int32) (x2 : Int32) (x3 : Int32) (x4 : Int32) (s : zS) (r : zS) (o5 : Option Value), rec29 x1 x2 x3 x4 s = some r → Ev X (D + 2) mm140 29 [some (.ref 21), some (.int x1), some (.int x2), some (.int x3), some (.int x4), o5] [] (mk s) (encV r)) (x1 : Int32) (x2 : Int32) (x3 : Int32) (x4 : Int32) (s : zS) (r : zS) (o5 : Option Value)  (h : b140_29 rec29 x1 x2 x3 x4 s = some r) : Ev X (D + 2) mm140 29 [some (.ref 21), some (.int x1), some (.int x2), some (.int x3), some (.int x4), o5] [] (mk s) (encV r) := by
  unfold b140_29 at h
  refine Ev.run (pc' := 37) (ls' := [some (.ref 21), some (.int x1), some (.int x2), some (.int x3), some (.int x4), o5]) (st' := [.int (s.1 21 4), .int (s.1 21 3)]) (h' := mk s) 4 rfl ?_
  refine Ev.icmp_ge (t := 137) rfl rfl (fun hb => ?_) (fun hb => ?_)
  · have h := (if_pos hb).symm.trans h
    exact k140_137 x3 x4 s _ _ _ _ h
  · have h := (if_neg hb).symm.trans h
    refine Ev.run (pc' := 41) (ls' := [some (.ref 21), some (.int x1), some (.int x2), some (.int x3), some (.int x4), o5]) (st' := [.ref 21]) (h' := mk s) 1 rfl ?_
    obtain ⟨v2, s1, hq, h⟩ := zb1_some h
    refine Ev.call (M' := mm137) (v := some (.int v2)) (h' := mk s1) rfl rfl rfl (Nat.le_of_ble_eq_true rfl) (k137 hq) ?_
    refine Ev.run (pc' := 45) (ls' := [some (.ref 21), some (.int x1), some (.int x2), some (.int x3), some (.int x4), o5]) (st' := [.int x1, .int v2]) (h' := mk s1) 1 rfl ?_
    obtain ⟨v4, s3, hq, h⟩ := zb1_some h
    refine Ev.call (M' := mm142) (v := some (.int v4)) (h' := mk s3) rfl rfl rfl (Nat.le_of_ble_eq_true rfl) (k142 hq) ?_
    refine Ev.run (pc' := 52) (ls' := [some (.ref 21), some (.int x1), some (.int x2), some (.int x3), some (.int x4), some (.int v4)]) (st' := [.int v4]) (h' := mk s3) 2 rfl ?_
    refine Ev.if_ge (t := 71) rfl rfl (fun hb => ?_) (fun hb => ?_)
    · have h := (if_pos hb).symm.trans h
      exact k140_71 hrec29 x1 x2 x3 x4 v4 s3 _ h
    · have h := (if_neg hb).symm.trans h
      refine Ev.run (pc' := 56) (ls' := [some (.ref 21), some (.int x1), some (.int x2), some (.int x3), some (.int x4), some (.int v4)]) (st' := [.int x2]) (h' := mk s3) 1 rfl ?_
      refine Ev.if_ne (t := 137) rfl rfl (fun hb => ?_) (fun hb => ?_)
      · have h := (if_pos hb).symm.trans h
        exact k140_137 x3 x4 s3 _ _ _ _ h
      · have h := (if_neg hb).symm.trans h
        refine Ev.run (pc' := 60) (ls' := [some (.ref 21), some (.int x1), some (.int x2), some (.int x3), some (.int x4), some (.int v4)]) (st' := [.ref 21]) (h' := mk s3) 1 rfl ?_
        obtain ⟨v6, s5, hq, h⟩ := zb1_some h
        refine Ev.call (M' := mm137) (v := some (.int v6)) (h' := mk s5) rfl rfl rfl (Nat.le_of_ble_eq_true rfl) (k137 hq) ?_
        refine Ev.run (pc' := 65) (ls' := [some (.ref 21), some (.int x1), some (.int x2), some (.int x3), some (.int x4), some (.int v4)]) (st' := [.int (zi 46), .int v6]) (h' := mk s5) 1 rfl ?_
        refine Ev.icmp_eq (t := 71) rfl rfl (fun hb => ?_) (fun hb => ?_)
        · have h := (if_pos hb).symm.trans h
          exact k140_71 hrec29 x1 x2 x3 x4 v4 s5 _ h
        · have h := (if_neg hb).symm.trans h
          refine Ev.run (pc' := 137) (ls' := [some (.ref 21), some (.int x1), some (.int x2), some (.int x3), some (.int x4), some (.int v4)]) (st' := []) (h' := mk s5) 1 rfl ?_
          exact k140_137 x3 x4 s5 _ _ _ _ h
def f140_29  : Nat → Int32 → Int32 → Int32 → Int32 → zS → Option (zS)
  | 0, _, _, _, _, _ => none
  | n + 1, x1, x2, x3, x4, s => b140_29 (f140_29 n) x1 x2 x3 x4 s
set_option maxRecDepth 100000 in
theorem k140_29 {X : mX} {D : Nat}   (n : Nat) : ∀ (x1 : Int32) (x2 : Int32) (x3 : Int32) (x4 : Int32) (s : zS) (r : zS) (o5 : Option Value), f140_29  n x1 x2 x3 x4 s = some r → Ev X (D + 2) mm140 29 [some (.ref 21), some (.int x1), some (.int x2), some (.int x3), some (.int x4), o5] [] (mk s) (encV r) := by
  induction n with
  | zero => intro x1 x2 x3 x4 s r o5  h; cases h
  | succ n ih => intro x1 x2 x3 x4 s r o5  h; exact kb140_29  ih x1 x2 x3 x4 s r o5  h
def f140  (x1 : Int32) (s : zS) : Option (zS) := zb0 (f150 s) (fun s1 => f140_29 zF x1 (zi 0) (zi 1) (zi 0) (setI (setI (setI s1 21 6 (zi 0)) 21 7 (zi 0)) 21 8 (zi 0)))
set_option maxRecDepth 100000 in
theorem k140 {X : mX} {D : Nat} {x1 : Int32} {s : zS} {r : zS}  (h : f140 x1 s = some r) : Ev X (D + 2) mm140 0 [some (.ref 21), some (.int x1), none, none, none, none] [] (mk s) (encV r) := by
  unfold f140 at h
  refine Ev.run (pc' := 4) (ls' := [some (.ref 21), some (.int x1), none, none, none, none]) (st' := [.ref 22]) (h' := mk s) 2 rfl ?_
  obtain ⟨s1, hq, h⟩ := zb0_some h
  refine Ev.call (M' := mm150) (v := none) (h' := mk s1) rfl rfl rfl (Nat.le_of_ble_eq_true rfl) (k150 hq) ?_
  refine Ev.run (pc' := 9) (ls' := [some (.ref 21), some (.int x1), none, none, none, none]) (st' := [.int (zi 0), .ref 21]) (h' := mk s1) 2 rfl ?_
  refine Ev.step (pc' := 12) rfl (put_10_6 rfl) ?_
  refine Ev.run (pc' := 14) (ls' := [some (.ref 21), some (.int x1), none, none, none, none]) (st' := [.int (zi 0), .ref 21]) (h' := mk (setI s1 21 6 (zi 0))) 2 rfl ?_
  refine Ev.step (pc' := 17) rfl (put_10_7 rfl) ?_
  refine Ev.run (pc' := 19) (ls' := [some (.ref 21), some (.int x1), none, none, none, none]) (st' := [.int (zi 0), .ref 21]) (h' := mk (setI (setI s1 21 6 (zi 0)) 21 7 (zi 0))) 2 rfl ?_
  refine Ev.step (pc' := 22) rfl (put_10_8 rfl) ?_
  refine Ev.run (pc' := 29) (ls' := [some (.ref 21), some (.int x1), some (.int (zi 0)), some (.int (zi 1)), some (.int (zi 0)), none]) (st' := []) (h' := mk (setI (setI (setI s1 21 6 (zi 0)) 21 7 (zi 0)) 21 8 (zi 0))) 6 rfl ?_
  exact k140_29 zF x1 (zi 0) (zi 1) (zi 0) (setI (setI (setI s1 21 6 (zi 0)) 21 7 (zi 0)) 21 8 (zi 0)) _ _ h
/-! 143 F$NumberReader.takeExponent(Z)Z -/
def f143_135  (x3 : Int32) (y1 : Int32) (s : zS) : Option (Int32 × zS) := if (s.1 21 3) ≤ x3 then some (zi 0, setI s 21 9 y1) else some (zi 1, setI s 21 9 y1)
set_option maxRecDepth 100000 in
theorem k143_135 {X : mX} {D : Nat}   (x3 : Int32) (y1 : Int32) (s : zS) (r : Int32 × zS) (o1 : Option Value) (o2 : Option Value)  (h : f143_135  x3 y1 s = some r) : Ev X (D + 3) mm143 135 [some (.ref 21), o1, o2, some (.int x3)] [.int y1, .ref 21] (mk s) (encI r) := by
  unfold f143_135 at h
  refine Ev.step (pc' := 138) rfl (put_10_9 rfl) ?_
  refine Ev.run (pc' := 143) (ls' := [some (.ref 21), o1, o2, some (.int x3)]) (st' := [.int x3, .int (s.1 21 3)]) (h' := mk (setI s 21 9 y1)) 3 rfl ?_
  refine Ev.icmp_le (t := 150) rfl rfl (fun hb => ?_) (fun hb => ?_)
  · have h := (if_pos hb).symm.trans h
    refine Ev.run (pc' := 151) (ls' := [some (.ref 21), o1, o2, some (.int x3)]) (st' := [.int (zi 0)]) (h' := mk (setI s 21 9 y1)) 1 rfl ?_
    cases h
    exact Ev.fin rfl rfl
  · have h := (if_neg hb).symm.trans h
    refine Ev.run (pc' := 151) (ls' := [some (.ref 21), o1, o2, some (.int x3)]) (st' := [.int (zi 1)]) (h' := mk (setI s 21 9 y1)) 2 rfl ?_
    cases h
    exact Ev.fin rfl rfl
def f143_118  (x2 : Int32) (x3 : Int32) (s : zS) : Option (Int32 × zS) := if x2 = zi 0 then f143_135 x3 (s.1 21 9) s else f143_135 x3 (-(s.1 21 9)) s
set_option maxRecDepth 100000 in
theorem k143_118 {X : mX} {D : Nat}   (x2 : Int32) (x3 : Int32) (s : zS) (r : Int32 × zS) (o1 : Option Value)  (h : f143_118  x2 x3 s = some r) : Ev X (D + 3) mm143 118 [some (.ref 21), o1, some (.int x2), some (.int x3)] [] (mk s) (encI r) := by
  unfold f143_118 at h
  refine Ev.run (pc' := 120) (ls' := [some (.ref 21), o1, some (.int x2), some (.int x3)]) (st' := [.int x2, .ref 21]) (h' := mk s) 2 rfl ?_
  refine Ev.if_eq (t := 131) rfl rfl (fun hb => ?_) (fun hb => ?_)
  · have h := (if_pos hb).symm.trans h
    refine Ev.run (pc' := 135) (ls' := [some (.ref 21), o1, some (.int x2), some (.int x3)]) (st' := [.int (s.1 21 9), .ref 21]) (h' := mk s) 2 rfl ?_
    exact k143_135 x3 (s.1 21 9) s _ _ _ h
  · have h := (if_neg hb).symm.trans h
    refine Ev.run (pc' := 135) (ls' := [some (.ref 21), o1, some (.int x2), some (.int x3)]) (st' := [.int (-(s.1 21 9)), .ref 21]) (h' := mk s) 4 rfl ?_
    exact k143_135 x3 (-(s.1 21 9)) s _ _ _ h
def b143_56 (rec56 : Int32 → Int32 → zS → Option (Int32 × zS)) (x2 : Int32) (x3 : Int32) (s : zS) : Option (Int32 × zS) := if (s.1 21 3) ≥ (s.1 21 4) then f143_118 x2 x3 s else zb1 (f137 s) (fun v2 s1 => zb1 (f142 v2 (zi 10) s1) (fun v4 s3 => if v4 < zi 0 then f143_118 x2 x3 s3 else zb1 (f137 s3) (fun v6 s5 => zb1 (f142 v6 (zi 10) s5) (fun v8 s7 => rec56 x2 x3 (setI (setI s7 21 9 (r265 (((s3.1 21 9) * (zi 10)) + v8) (zi 100000) s7)) 21 3 ((s7.1 21 3) + (zi 1)))))))
set_option maxRecDepth 100000 in
theorem kb143_56 {X : mX} {D : Nat} {rec56 : Int32 → Int32 → zS → Option (Int32 × zS)} (hrec56 : ∀ (x2 : Int32) (x3 : Int32) (s : zS) (r : Int32 × zS) (o1 : Option Value), rec56 x2 x3 s = some r → Ev X (D + 3) mm143 56 [some (.ref 21), o1, some (.int x2), some (.int x3)] [] (mk s) (encI r)) (x2 : Int32) (x3 : Int32) (s : zS) (r : Int32 × zS) (o1 : Option Value)  (h : b143_56 rec56 x2 x3 s = some r) : Ev X (D + 3) mm143 56 [some (.ref 21), o1, some (.int x2), some (.int x3)] [] (mk s) (encI r) := by
  unfold b143_56 at h
  refine Ev.run (pc' := 64) (ls' := [some (.ref 21), o1, some (.int x2), some (.int x3)]) (st' := [.int (s.1 21 4), .int (s.1 21 3)]) (h' := mk s) 4 rfl ?_
  refine Ev.icmp_ge (t := 118) rfl rfl (fun hb => ?_) (fun hb => ?_)
  · have h := (if_pos hb).symm.trans h
    exact k143_118 x2 x3 s _ _ h
  · have h := (if_neg hb).symm.trans h
    refine Ev.run (pc' := 68) (ls' := [some (.ref 21), o1, some (.int x2), some (.int x3)]) (st' := [.ref 21]) (h' := mk s) 1 rfl ?_
    obtain ⟨v2, s1, hq, h⟩ := zb1_some h
    refine Ev.call (M' := mm137) (v := some (.int v2)) (h' := mk s1) rfl rfl rfl (Nat.le_of_ble_eq_true rfl) (k137 hq) ?_
    refine Ev.run (pc' := 73) (ls' := [some (.ref 21), o1, some (.int x2), some (.int x3)]) (st' := [.int (zi 10), .int v2]) (h' := mk s1) 1 rfl ?_
    obtain ⟨v4, s3, hq, h⟩ := zb1_some h
    refine Ev.call (M' := mm142) (v := some (.int v4)) (h' := mk s3) rfl rfl rfl (Nat.le_of_ble_eq_true rfl) (k142 hq) ?_
    refine Ev.if_lt (t := 118) rfl rfl (fun hb => ?_) (fun hb => ?_)
    · have h := (if_pos hb).symm.trans h
      exact k143_118 x2 x3 s3 _ _ h
    · have h := (if_neg hb).symm.trans h
      refine Ev.run (pc' := 88) (ls' := [some (.ref 21), o1, some (.int x2), some (.int x3)]) (st' := [.ref 21, .int ((s3.1 21 9) * (zi 10)), .ref 21]) (h' := mk s3) 6 rfl ?_
      obtain ⟨v6, s5, hq, h⟩ := zb1_some h
      refine Ev.call (M' := mm137) (v := some (.int v6)) (h' := mk s5) rfl rfl rfl (Nat.le_of_ble_eq_true rfl) (k137 hq) ?_
      refine Ev.run (pc' := 93) (ls' := [some (.ref 21), o1, some (.int x2), some (.int x3)]) (st' := [.int (zi 10), .int v6, .int ((s3.1 21 9) * (zi 10)), .ref 21]) (h' := mk s5) 1 rfl ?_
      obtain ⟨v8, s7, hq, h⟩ := zb1_some h
      refine Ev.call (M' := mm142) (v := some (.int v8)) (h' := mk s7) rfl rfl rfl (Nat.le_of_ble_eq_true rfl) (k142 hq) ?_
      refine Ev.run (pc' := 99) (ls' := [some (.ref 21), o1, some (.int x2), some (.int x3)]) (st' := [.int (zi 100000), .int (((s3.1 21 9) * (zi 10)) + v8), .ref 21]) (h' := mk s7) 2 rfl ?_
      refine Ev.call (M' := mm265) (v := some (.int (r265 (((s3.1 21 9) * (zi 10)) + v8) (zi 100000) s7))) (h' := mk s7) rfl rfl rfl (Nat.le_of_ble_eq_true rfl) (k265 (x0 := (((s3.1 21 9) * (zi 10)) + v8)) (x1 := (zi 100000)) (s := s7) (v := r265 (((s3.1 21 9) * (zi 10)) + v8) (zi 100000) s7)  rfl) ?_
      refine Ev.step (pc' := 105) rfl (put_10_9 rfl) ?_
      refine Ev.run (pc' := 112) (ls' := [some (.ref 21), o1, some (.int x2), some (.int x3)]) (st' := [.int ((s7.1 21 3) + (zi 1)), .ref 21]) (h' := mk (setI s7 21 9 (r265 (((s3.1 21 9) * (zi 10)) + v8) (zi 100000) s7))) 5 rfl ?_
      refine Ev.step (pc' := 115) rfl (put_10_3 rfl) ?_
      refine Ev.run (pc' := 56) (ls' := [some (.ref 21), o1, some (.int x2), some (.int x3)]) (st' := []) (h' := mk (setI (setI s7 21 9 (r265 (((s3.1 21 9) * (zi 10)) + v8) (zi 100000) s7)) 21 3 ((s7.1 21 3) + (zi 1)))) 1 rfl ?_
      exact hrec56 x2 x3 (setI (setI s7 21 9 (r265 (((s3.1 21 9) * (zi 10)) + v8) (zi 100000) s7)) 21 3 ((s7.1 21 3) + (zi 1))) _ _ h
def f143_56  : Nat → Int32 → Int32 → zS → Option (Int32 × zS)
  | 0, _, _, _ => none
  | n + 1, x2, x3, s => b143_56 (f143_56 n) x2 x3 s
set_option maxRecDepth 100000 in
theorem k143_56 {X : mX} {D : Nat}   (n : Nat) : ∀ (x2 : Int32) (x3 : Int32) (s : zS) (r : Int32 × zS) (o1 : Option Value), f143_56  n x2 x3 s = some r → Ev X (D + 3) mm143 56 [some (.ref 21), o1, some (.int x2), some (.int x3)] [] (mk s) (encI r) := by
  induction n with
  | zero => intro x2 x3 s r o1  h; cases h
  | succ n ih => intro x2 x3 s r o1  h; exact kb143_56  ih x2 x3 s r o1  h
def f143_23  (x1 : Int32) (y0 : Int32) (y1 : Int32) (s : zS) : Option (Int32 × zS) := if y0 = y1 then zb1 (f138 (setI s 21 3 ((s.1 21 3) + (zi 1)))) (fun v2 s1 => f143_56 zF v2 (s1.1 21 3) s1) else if ¬ x1 = zi 0 then some (zi 0, s) else some (zi 1, s)
set_option maxRecDepth 100000 in
theorem k143_23 {X : mX} {D : Nat}   (x1 : Int32) (y0 : Int32) (y1 : Int32) (s : zS) (r : Int32 × zS) (o2 : Option Value) (o3 : Option Value)  (h : f143_23  x1 y0 y1 s = some r) : Ev X (D + 3) mm143 23 [some (.ref 21), some (.int x1), o2, o3] [.int y1, .int y0] (mk s) (encI r) := by
  unfold f143_23 at h
  refine Ev.icmp_eq (t := 36) rfl rfl (fun hb => ?_) (fun hb => ?_)
  · have h := (if_pos hb).symm.trans h
    refine Ev.run (pc' := 43) (ls' := [some (.ref 21), some (.int x1), o2, o3]) (st' := [.int ((s.1 21 3) + (zi 1)), .ref 21]) (h' := mk s) 5 rfl ?_
    refine Ev.step (pc' := 46) rfl (put_10_3 rfl) ?_
    refine Ev.run (pc' := 47) (ls' := [some (.ref 21), some (.int x1), o2, o3]) (st' := [.ref 21]) (h' := mk (setI s 21 3 ((s.1 21 3) + (zi 1)))) 1 rfl ?_
    obtain ⟨v2, s1, hq, h⟩ := zb1_some h
    refine Ev.call (M' := mm138) (v := some (.int v2)) (h' := mk s1) rfl rfl rfl (Nat.le_of_ble_eq_true rfl) (k138 hq) ?_
    refine Ev.run (pc' := 56) (ls' := [some (.ref 21), some (.int x1), some (.int v2), some (.int (s1.1 21 3))]) (st' := []) (h' := mk s1) 4 rfl ?_
    exact k143_56 zF v2 (s1.1 21 3) s1 _ _ h
  · have h := (if_neg hb).symm.trans h
    refine Ev.run (pc' := 27) (ls' := [some (.ref 21), some (.int x1), o2, o3]) (st' := [.int x1]) (h' := mk s) 1 rfl ?_
    refine Ev.if_ne (t := 34) rfl rfl (fun hb => ?_) (fun hb => ?_)
    · have h := (if_pos hb).symm.trans h
      refine Ev.run (pc' := 35) (ls' := [some (.ref 21), some (.int x1), o2, o3]) (st' := [.int (zi 0)]) (h' := mk s) 1 rfl ?_
      cases h
      exact Ev.fin rfl rfl
    · have h := (if_neg hb).symm.trans h
      refine Ev.run (pc' := 35) (ls' := [some (.ref 21), some (.int x1), o2, o3]) (st' := [.int (zi 1)]) (h' := mk s) 2 rfl ?_
      cases h
      exact Ev.fin rfl rfl
def f143  (x1 : Int32) (s : zS) : Option (Int32 × zS) := zb1 (f137 (setI s 21 9 (zi 0))) (fun v2 s1 => if x1 = zi 0 then f143_23 x1 (v2 ||| (zi 32)) (zi 101) s1 else f143_23 x1 (v2 ||| (zi 32)) (zi 112) s1)
set_option maxRecDepth 100000 in
theorem k143 {X : mX} {D : Nat} {x1 : Int32} {s : zS} {r : Int32 × zS}  (h : f143 x1 s = some r) : Ev X (D + 3) mm143 0 [some (.ref 21), some (.int x1), none, none] [] (mk s) (encI r) := by
  unfold f143 at h
  refine Ev.run (pc' := 2) (ls' := [some (.ref 21), some (.int x1), none, none]) (st' := [.int (zi 0), .ref 21]) (h' := mk s) 2 rfl ?_
  refine Ev.step (pc' := 5) rfl (put_10_9 rfl) ?_
  refine Ev.run (pc' := 6) (ls' := [some (.ref 21), some (.int x1), none, none]) (st' := [.ref 21]) (h' := mk (setI s 21 9 (zi 0))) 1 rfl ?_
  obtain ⟨v2, s1, hq, h⟩ := zb1_some h
  refine Ev.call (M' := mm137) (v := some (.int v2)) (h' := mk s1) rfl rfl rfl (Nat.le_of_ble_eq_true rfl) (k137 hq) ?_
  refine Ev.run (pc' := 13) (ls' := [some (.ref 21), some (.int x1), none, none]) (st' := [.int x1, .int (v2 ||| (zi 32))]) (h' := mk s1) 3 rfl ?_
  refine Ev.if_eq (t := 21) rfl rfl (fun hb => ?_) (fun hb => ?_)
  · have h := (if_pos hb).symm.trans h
    refine Ev.run (pc' := 23) (ls' := [some (.ref 21), some (.int x1), none, none]) (st' := [.int (zi 101), .int (v2 ||| (zi 32))]) (h' := mk s1) 1 rfl ?_
    exact k143_23 x1 (v2 ||| (zi 32)) (zi 101) s1 _ _ _ h
  · have h := (if_neg hb).symm.trans h
    refine Ev.run (pc' := 23) (ls' := [some (.ref 21), some (.int x1), none, none]) (st' := [.int (zi 112), .int (v2 ||| (zi 32))]) (h' := mk s1) 2 rfl ?_
    exact k143_23 x1 (v2 ||| (zi 32)) (zi 112) s1 _ _ _ h
/-! 144 F$NumberReader.takeSuffix()V -/
def f144   (s : zS) : Option (zS) := zb1 (f137 s) (fun v2 s1 => if (v2 ||| (zi 32)) = (zi 102) then some (setI s1 21 3 ((s1.1 21 3) + (zi 1))) else if ¬ (v2 ||| (zi 32)) = (zi 100) then some s1 else some (setI s1 21 3 ((s1.1 21 3) + (zi 1))))
set_option maxRecDepth 100000 in
theorem k144 {X : mX} {D : Nat}  {s : zS} {r : zS}  (h : f144  s = some r) : Ev X (D + 2) mm144 0 [some (.ref 21), none] [] (mk s) (encV r) := by
  unfold f144 at h
  refine Ev.run (pc' := 1) (ls' := [some (.ref 21), none]) (st' := [.ref 21]) (h' := mk s) 1 rfl ?_
  obtain ⟨v2, s1, hq, h⟩ := zb1_some h
  refine Ev.call (M' := mm137) (v := some (.int v2)) (h' := mk s1) rfl rfl rfl (Nat.le_of_ble_eq_true rfl) (k137 hq) ?_
  refine Ev.run (pc' := 11) (ls' := [some (.ref 21), some (.int (v2 ||| (zi 32)))]) (st' := [.int (zi 102), .int (v2 ||| (zi 32))]) (h' := mk s1) 5 rfl ?_
  refine Ev.icmp_eq (t := 20) rfl rfl (fun hb => ?_) (fun hb => ?_)
  · have h := (if_pos hb).symm.trans h
    refine Ev.run (pc' := 27) (ls' := [some (.ref 21), some (.int (v2 ||| (zi 32)))]) (st' := [.int ((s1.1 21 3) + (zi 1)), .ref 21]) (h' := mk s1) 5 rfl ?_
    refine Ev.step (pc' := 30) rfl (put_10_3 rfl) ?_
    cases h
    exact Ev.fin rfl rfl
  · have h := (if_neg hb).symm.trans h
    refine Ev.run (pc' := 17) (ls' := [some (.ref 21), some (.int (v2 ||| (zi 32)))]) (st' := [.int (zi 100), .int (v2 ||| (zi 32))]) (h' := mk s1) 2 rfl ?_
    refine Ev.icmp_ne (t := 30) rfl rfl (fun hb => ?_) (fun hb => ?_)
    · have h := (if_pos hb).symm.trans h
      cases h
      exact Ev.fin rfl rfl
    · have h := (if_neg hb).symm.trans h
      refine Ev.run (pc' := 27) (ls' := [some (.ref 21), some (.int (v2 ||| (zi 32)))]) (st' := [.int ((s1.1 21 3) + (zi 1)), .ref 21]) (h' := mk s1) 5 rfl ?_
      refine Ev.step (pc' := 30) rfl (put_10_3 rfl) ?_
      cases h
      exact Ev.fin rfl rfl
/-! 157 F$Binary.bit(I)Z -/
def f157  (x1 : Int32) (s : zS) : Option (Int32 × zS) := if x1 < zi 0 then some (zi 0, s) else if (x1 / (zi 32)) ≥ (s.1 22 1) then some (zi 0, s) else if mIx (x1 / (zi 32)) 128 then if ((zushrL (s.2.1 23 ((x1 / (zi 32)).toNatClampNeg)) (zrem x1 (zi 32))) &&& (zl 1)) = (zl 0) then some (zi 0, s) else some (zi 1, s) else none
set_option maxRecDepth 100000 in
theorem k157 {X : mX} {D : Nat} {x1 : Int32} {s : zS} {r : Int32 × zS}  (h : f157 x1 s = some r) : Ev X D mm157 0 [some (.ref 22), some (.int x1), none] [] (mk s) (encI r) := by
  unfold f157 at h
  refine Ev.run (pc' := 6) (ls' := [some (.ref 22), some (.int x1), some (.int (x1 / (zi 32)))]) (st' := [.int x1]) (h' := mk s) 5 rfl ?_
  refine Ev.if_lt (t := 39) rfl rfl (fun hb => ?_) (fun hb => ?_)
  · have h := (if_pos hb).symm.trans h
    refine Ev.run (pc' := 40) (ls' := [some (.ref 22), some (.int x1), some (.int (x1 / (zi 32)))]) (st' := [.int (zi 0)]) (h' := mk s) 1 rfl ?_
    cases h
    exact Ev.fin rfl rfl
  · have h := (if_neg hb).symm.trans h
    refine Ev.run (pc' := 14) (ls' := [some (.ref 22), some (.int x1), some (.int (x1 / (zi 32)))]) (st' := [.int (s.1 22 1), .int (x1 / (zi 32))]) (h' := mk s) 3 rfl ?_
    refine Ev.icmp_ge (t := 39) rfl rfl (fun hb => ?_) (fun hb => ?_)
    · have h := (if_pos hb).symm.trans h
      refine Ev.run (pc' := 40) (ls' := [some (.ref 22), some (.int x1), some (.int (x1 / (zi 32)))]) (st' := [.int (zi 0)]) (h' := mk s) 1 rfl ?_
      cases h
      exact Ev.fin rfl rfl
    · have h := (if_neg hb).symm.trans h
      refine Ev.run (pc' := 22) (ls' := [some (.ref 22), some (.int x1), some (.int (x1 / (zi 32)))]) (st' := [.int (x1 / (zi 32)), .ref 23]) (h' := mk s) 3 rfl ?_
      obtain ⟨hx, h⟩ := zif h
      refine Ev.step (pc' := 23) rfl (ald_l rfl hx) ?_
      refine Ev.run (pc' := 32) (ls' := [some (.ref 22), some (.int x1), some (.int (x1 / (zi 32)))]) (st' := [.int (lg_cmp ((zushrL (s.2.1 23 ((x1 / (zi 32)).toNatClampNeg)) (zrem x1 (zi 32))) &&& (zl 1)) (zl 0))]) (h' := mk s) 8 rfl ?_
      refine Ev.ifl_eq (t := 39) rfl rfl (fun hb => ?_) (fun hb => ?_)
      · have h := (if_pos hb).symm.trans h
        refine Ev.run (pc' := 40) (ls' := [some (.ref 22), some (.int x1), some (.int (x1 / (zi 32)))]) (st' := [.int (zi 0)]) (h' := mk s) 1 rfl ?_
        cases h
        exact Ev.fin rfl rfl
      · have h := (if_neg hb).symm.trans h
        refine Ev.run (pc' := 40) (ls' := [some (.ref 22), some (.int x1), some (.int (x1 / (zi 32)))]) (st' := [.int (zi 1)]) (h' := mk s) 2 rfl ?_
        cases h
        exact Ev.fin rfl rfl
/-! 156 F$Binary.length()I -/
def b156_17 (rec17 : Int32 → zS → Option (Int32 × zS)) (x1 : Int32) (s : zS) : Option (Int32 × zS) := if x1 ≤ zi 0 then some (x1, s) else zb1 (f157 (x1 - (zi 1)) s) (fun v2 s1 => if ¬ v2 = zi 0 then some (x1, s1) else rec17 (x1 + zi (-1)) s1)
set_option maxRecDepth 100000 in
theorem kb156_17 {X : mX} {D : Nat} {rec17 : Int32 → zS → Option (Int32 × zS)} (hrec17 : ∀ (x1 : Int32) (s : zS) (r : Int32 × zS) , rec17 x1 s = some r → Ev X (D + 1) mm156 17 [some (.ref 22), some (.int x1)] [] (mk s) (encI r)) (x1 : Int32) (s : zS) (r : Int32 × zS)   (h : b156_17 rec17 x1 s = some r) : Ev X (D + 1) mm156 17 [some (.ref 22), some (.int x1)] [] (mk s) (encI r) := by
  unfold b156_17 at h
  refine Ev.run (pc' := 18) (ls' := [some (.ref 22), some (.int x1)]) (st' := [.int x1]) (h' := mk s) 1 rfl ?_
  refine Ev.if_le (t := 37) rfl rfl (fun hb => ?_) (fun hb => ?_)
  · have h := (if_pos hb).symm.trans h
    refine Ev.run (pc' := 38) (ls' := [some (.ref 22), some (.int x1)]) (st' := [.int x1]) (h' := mk s) 1 rfl ?_
    cases h
    exact Ev.fin rfl rfl
  · have h := (if_neg hb).symm.trans h
    refine Ev.run (pc' := 25) (ls' := [some (.ref 22), some (.int x1)]) (st' := [.int (x1 - (zi 1)), .ref 22]) (h' := mk s) 4 rfl ?_
    obtain ⟨v2, s1, hq, h⟩ := zb1_some h
    refine Ev.call (M' := mm157) (v := some (.int v2)) (h' := mk s1) rfl rfl rfl (Nat.le_of_ble_eq_true rfl) (k157 hq) ?_
    refine Ev.if_ne (t := 37) rfl rfl (fun hb => ?_) (fun hb => ?_)
    · have h := (if_pos hb).symm.trans h
      refine Ev.run (pc' := 38) (ls' := [some (.ref 22), some (.int x1)]) (st' := [.int x1]) (h' := mk s1) 1 rfl ?_
      cases h
      exact Ev.fin rfl rfl
    · have h := (if_neg hb).symm.trans h
      refine Ev.run (pc' := 17) (ls' := [some (.ref 22), some (.int (x1 + zi (-1)))]) (st' := []) (h' := mk s1) 2 rfl ?_
      exact hrec17 (x1 + zi (-1)) s1 _ h
def f156_17  : Nat → Int32 → zS → Option (Int32 × zS)
  | 0, _, _ => none
  | n + 1, x1, s => b156_17 (f156_17 n) x1 s
set_option maxRecDepth 100000 in
theorem k156_17 {X : mX} {D : Nat}   (n : Nat) : ∀ (x1 : Int32) (s : zS) (r : Int32 × zS) , f156_17  n x1 s = some r → Ev X (D + 1) mm156 17 [some (.ref 22), some (.int x1)] [] (mk s) (encI r) := by
  induction n with
  | zero => intro x1 s r   h; cases h
  | succ n ih => intro x1 s r   h; exact kb156_17  ih x1 s r   h
def f156   (s : zS) : Option (Int32 × zS) := if ¬ (s.1 22 1) = zi 0 then f156_17 zF ((zi 32) * (s.1 22 1)) s else some (zi 0, s)
set_option maxRecDepth 100000 in
theorem k156 {X : mX} {D : Nat}  {s : zS} {r : Int32 × zS}  (h : f156  s = some r) : Ev X (D + 1) mm156 0 [some (.ref 22), none] [] (mk s) (encI r) := by
  unfold f156 at h
  refine Ev.run (pc' := 4) (ls' := [some (.ref 22), none]) (st' := [.int (s.1 22 1)]) (h' := mk s) 2 rfl ?_
  refine Ev.if_ne (t := 9) rfl rfl (fun hb => ?_) (fun hb => ?_)
  · have h := (if_pos hb).symm.trans h
    refine Ev.run (pc' := 17) (ls' := [some (.ref 22), some (.int ((zi 32) * (s.1 22 1)))]) (st' := []) (h' := mk s) 5 rfl ?_
    exact k156_17 zF ((zi 32) * (s.1 22 1)) s _ h
  · have h := (if_neg hb).symm.trans h
    refine Ev.run (pc' := 8) (ls' := [some (.ref 22), none]) (st' := [.int (zi 0)]) (h' := mk s) 1 rfl ?_
    cases h
    exact Ev.fin rfl rfl
/-! 160 F$Binary.bitsFrom(II)J -/
def b160_7 (rec7 : Int32 → Int32 → Int64 → Int32 → zS → Option (Int64 × zS)) (x1 : Int32) (x2 : Int32) (x3 : Int64) (x5 : Int32) (s : zS) : Option (Int64 × zS) := if x5 < (r264 x1 (zi 0) s) then if x1 ≥ zi 0 then some (x3, s) else some (zshlL x3 (-x1), s) else zb1 (f157 x5 s) (fun v2 s1 => if v2 = zi 0 then rec7 x1 x2 ((zshlL x3 (zi 1)) ||| (zI2L (zi 0))) (x5 + zi (-1)) s1 else rec7 x1 x2 ((zshlL x3 (zi 1)) ||| (zI2L (zi 1))) (x5 + zi (-1)) s1)
set_option maxRecDepth 100000 in
theorem kb160_7 {X : mX} {D : Nat} {rec7 : Int32 → Int32 → Int64 → Int32 → zS → Option (Int64 × zS)} (hrec7 : ∀ (x1 : Int32) (x2 : Int32) (x3 : Int64) (x5 : Int32) (s : zS) (r : Int64 × zS) , rec7 x1 x2 x3 x5 s = some r → Ev X (D + 1) mm160 7 [some (.ref 22), some (.int x1), some (.int x2), some (.long x3), none, some (.int x5)] [] (mk s) (encL r)) (x1 : Int32) (x2 : Int32) (x3 : Int64) (x5 : Int32) (s : zS) (r : Int64 × zS)   (h : b160_7 rec7 x1 x2 x3 x5 s = some r) : Ev X (D + 1) mm160 7 [some (.ref 22), some (.int x1), some (.int x2), some (.long x3), none, some (.int x5)] [] (mk s) (encL r) := by
  unfold b160_7 at h
  refine Ev.run (pc' := 11) (ls' := [some (.ref 22), some (.int x1), some (.int x2), some (.long x3), none, some (.int x5)]) (st' := [.int (zi 0), .int x1, .int x5]) (h' := mk s) 3 rfl ?_
  refine Ev.call (M' := mm264) (v := some (.int (r264 x1 (zi 0) s))) (h' := mk s) rfl rfl rfl (Nat.le_of_ble_eq_true rfl) (k264 (x0 := x1) (x1 := (zi 0)) (s := s) (v := r264 x1 (zi 0) s)  rfl) ?_
  refine Ev.icmp_lt (t := 43) rfl rfl (fun hb => ?_) (fun hb => ?_)
  · have h := (if_pos hb).symm.trans h
    refine Ev.run (pc' := 44) (ls' := [some (.ref 22), some (.int x1), some (.int x2), some (.long x3), none, some (.int x5)]) (st' := [.int x1]) (h' := mk s) 1 rfl ?_
    refine Ev.if_ge (t := 54) rfl rfl (fun hb => ?_) (fun hb => ?_)
    · have h := (if_pos hb).symm.trans h
      refine Ev.run (pc' := 55) (ls' := [some (.ref 22), some (.int x1), some (.int x2), some (.long x3), none, some (.int x5)]) (st' := [.long x3]) (h' := mk s) 1 rfl ?_
      cases h
      exact Ev.fin rfl rfl
    · have h := (if_neg hb).symm.trans h
      refine Ev.run (pc' := 55) (ls' := [some (.ref 22), some (.int x1), some (.int x2), some (.long x3), none, some (.int x5)]) (st' := [.long (zshlL x3 (-x1))]) (h' := mk s) 5 rfl ?_
      cases h
      exact Ev.fin rfl rfl
  · have h := (if_neg hb).symm.trans h
    refine Ev.run (pc' := 23) (ls' := [some (.ref 22), some (.int x1), some (.int x2), some (.long x3), none, some (.int x5)]) (st' := [.int x5, .ref 22, .long (zshlL x3 (zi 1))]) (h' := mk s) 5 rfl ?_
    obtain ⟨v2, s1, hq, h⟩ := zb1_some h
    refine Ev.call (M' := mm157) (v := some (.int v2)) (h' := mk s1) rfl rfl rfl (Nat.le_of_ble_eq_true rfl) (k157 hq) ?_
    refine Ev.if_eq (t := 33) rfl rfl (fun hb => ?_) (fun hb => ?_)
    · have h := (if_pos hb).symm.trans h
      refine Ev.run (pc' := 7) (ls' := [some (.ref 22), some (.int x1), some (.int x2), some (.long ((zshlL x3 (zi 1)) ||| (zI2L (zi 0)))), none, some (.int (x5 + zi (-1)))]) (st' := []) (h' := mk s1) 6 rfl ?_
      exact hrec7 x1 x2 ((zshlL x3 (zi 1)) ||| (zI2L (zi 0))) (x5 + zi (-1)) s1 _ h
    · have h := (if_neg hb).symm.trans h
      refine Ev.run (pc' := 7) (ls' := [some (.ref 22), some (.int x1), some (.int x2), some (.long ((zshlL x3 (zi 1)) ||| (zI2L (zi 1)))), none, some (.int (x5 + zi (-1)))]) (st' := []) (h' := mk s1) 7 rfl ?_
      exact hrec7 x1 x2 ((zshlL x3 (zi 1)) ||| (zI2L (zi 1))) (x5 + zi (-1)) s1 _ h
def f160_7  : Nat → Int32 → Int32 → Int64 → Int32 → zS → Option (Int64 × zS)
  | 0, _, _, _, _, _ => none
  | n + 1, x1, x2, x3, x5, s => b160_7 (f160_7 n) x1 x2 x3 x5 s
set_option maxRecDepth 100000 in
theorem k160_7 {X : mX} {D : Nat}   (n : Nat) : ∀ (x1 : Int32) (x2 : Int32) (x3 : Int64) (x5 : Int32) (s : zS) (r : Int64 × zS) , f160_7  n x1 x2 x3 x5 s = some r → Ev X (D + 1) mm160 7 [some (.ref 22), some (.int x1), some (.int x2), some (.long x3), none, some (.int x5)] [] (mk s) (encL r) := by
  induction n with
  | zero => intro x1 x2 x3 x5 s r   h; cases h
  | succ n ih => intro x1 x2 x3 x5 s r   h; exact kb160_7  ih x1 x2 x3 x5 s r   h
def f160  (x1 : Int32) (x2 : Int32) (s : zS) : Option (Int64 × zS) := f160_7 zF x1 x2 (zl 0) (x2 - (zi 1)) s
set_option maxRecDepth 100000 in
theorem k160 {X : mX} {D : Nat} {x1 : Int32} {x2 : Int32} {s : zS} {r : Int64 × zS}  (h : f160 x1 x2 s = some r) : Ev X (D + 1) mm160 0 [some (.ref 22), some (.int x1), some (.int x2), none, none, none] [] (mk s) (encL r) := by
  unfold f160 at h
  refine Ev.run (pc' := 7) (ls' := [some (.ref 22), some (.int x1), some (.int x2), some (.long (zl 0)), none, some (.int (x2 - (zi 1)))]) (st' := []) (h' := mk s) 6 rfl ?_
  exact k160_7 zF x1 x2 (zl 0) (x2 - (zi 1)) s _ h
/-! 158 F$Binary.anyBitBelow(I)Z -/
def b158_18 (rec18 : Int32 → Int32 → Int32 → zS → Option (Int32 × zS)) (x1 : Int32) (x2 : Int32) (x3 : Int32) (s : zS) : Option (Int32 × zS) := if x3 ≥ x2 then if x1 ≤ zi 0 then some (zi 0, s) else if x2 ≥ (s.1 22 1) then some (zi 0, s) else if mIx x2 128 then if ((s.2.1 23 x2.toNatClampNeg) &&& ((zshlL (zl 1) (zrem x1 (zi 32))) - (zl 1))) = (zl 0) then some (zi 0, s) else some (zi 1, s) else none else if mIx x3 128 then if (s.2.1 23 x3.toNatClampNeg) = (zl 0) then rec18 x1 x2 (x3 + zi 1) s else some (zi 1, s) else none
set_option maxRecDepth 100000 in
theorem kb158_18 {X : mX} {D : Nat} {rec18 : Int32 → Int32 → Int32 → zS → Option (Int32 × zS)} (hrec18 : ∀ (x1 : Int32) (x2 : Int32) (x3 : Int32) (s : zS) (r : Int32 × zS) , rec18 x1 x2 x3 s = some r → Ev X (D + 1) mm158 18 [some (.ref 22), some (.int x1), some (.int x2), some (.int x3)] [] (mk s) (encI r)) (x1 : Int32) (x2 : Int32) (x3 : Int32) (s : zS) (r : Int32 × zS)   (h : b158_18 rec18 x1 x2 x3 s = some r) : Ev X (D + 1) mm158 18 [some (.ref 22), some (.int x1), some (.int x2), some (.int x3)] [] (mk s) (encI r) := by
  unfold b158_18 at h
  refine Ev.run (pc' := 20) (ls' := [some (.ref 22), some (.int x1), some (.int x2), some (.int x3)]) (st' := [.int x2, .int x3]) (h' := mk s) 2 rfl ?_
  refine Ev.icmp_ge (t := 42) rfl rfl (fun hb => ?_) (fun hb => ?_)
  · have h := (if_pos hb).symm.trans h
    refine Ev.run (pc' := 43) (ls' := [some (.ref 22), some (.int x1), some (.int x2), some (.int x3)]) (st' := [.int x1]) (h' := mk s) 1 rfl ?_
    refine Ev.if_le (t := 78) rfl rfl (fun hb => ?_) (fun hb => ?_)
    · have h := (if_pos hb).symm.trans h
      refine Ev.run (pc' := 79) (ls' := [some (.ref 22), some (.int x1), some (.int x2), some (.int x3)]) (st' := [.int (zi 0)]) (h' := mk s) 1 rfl ?_
      cases h
      exact Ev.fin rfl rfl
    · have h := (if_neg hb).symm.trans h
      refine Ev.run (pc' := 51) (ls' := [some (.ref 22), some (.int x1), some (.int x2), some (.int x3)]) (st' := [.int (s.1 22 1), .int x2]) (h' := mk s) 3 rfl ?_
      refine Ev.icmp_ge (t := 78) rfl rfl (fun hb => ?_) (fun hb => ?_)
      · have h := (if_pos hb).symm.trans h
        refine Ev.run (pc' := 79) (ls' := [some (.ref 22), some (.int x1), some (.int x2), some (.int x3)]) (st' := [.int (zi 0)]) (h' := mk s) 1 rfl ?_
        cases h
        exact Ev.fin rfl rfl
      · have h := (if_neg hb).symm.trans h
        refine Ev.run (pc' := 59) (ls' := [some (.ref 22), some (.int x1), some (.int x2), some (.int x3)]) (st' := [.int x2, .ref 23]) (h' := mk s) 3 rfl ?_
        obtain ⟨hx, h⟩ := zif h
        refine Ev.step (pc' := 60) rfl (ald_l rfl hx) ?_
        refine Ev.run (pc' := 71) (ls' := [some (.ref 22), some (.int x1), some (.int x2), some (.int x3)]) (st' := [.int (lg_cmp ((s.2.1 23 x2.toNatClampNeg) &&& ((zshlL (zl 1) (zrem x1 (zi 32))) - (zl 1))) (zl 0))]) (h' := mk s) 10 rfl ?_
        refine Ev.ifl_eq (t := 78) rfl rfl (fun hb => ?_) (fun hb => ?_)
        · have h := (if_pos hb).symm.trans h
          refine Ev.run (pc' := 79) (ls' := [some (.ref 22), some (.int x1), some (.int x2), some (.int x3)]) (st' := [.int (zi 0)]) (h' := mk s) 1 rfl ?_
          cases h
          exact Ev.fin rfl rfl
        · have h := (if_neg hb).symm.trans h
          refine Ev.run (pc' := 79) (ls' := [some (.ref 22), some (.int x1), some (.int x2), some (.int x3)]) (st' := [.int (zi 1)]) (h' := mk s) 2 rfl ?_
          cases h
          exact Ev.fin rfl rfl
  · have h := (if_neg hb).symm.trans h
    refine Ev.run (pc' := 28) (ls' := [some (.ref 22), some (.int x1), some (.int x2), some (.int x3)]) (st' := [.int x3, .ref 23]) (h' := mk s) 3 rfl ?_
    obtain ⟨hx, h⟩ := zif h
    refine Ev.step (pc' := 29) rfl (ald_l rfl hx) ?_
    refine Ev.run (pc' := 31) (ls' := [some (.ref 22), some (.int x1), some (.int x2), some (.int x3)]) (st' := [.int (lg_cmp (s.2.1 23 x3.toNatClampNeg) (zl 0))]) (h' := mk s) 2 rfl ?_
    refine Ev.ifl_eq (t := 36) rfl rfl (fun hb => ?_) (fun hb => ?_)
    · have h := (if_pos hb).symm.trans h
      refine Ev.run (pc' := 18) (ls' := [some (.ref 22), some (.int x1), some (.int x2), some (.int (x3 + zi 1))]) (st' := []) (h' := mk s) 2 rfl ?_
      exact hrec18 x1 x2 (x3 + zi 1) s _ h
    · have h := (if_neg hb).symm.trans h
      refine Ev.run (pc' := 35) (ls' := [some (.ref 22), some (.int x1), some (.int x2), some (.int x3)]) (st' := [.int (zi 1)]) (h' := mk s) 1 rfl ?_
      cases h
      exact Ev.fin rfl rfl
def f158_18  : Nat → Int32 → Int32 → Int32 → zS → Option (Int32 × zS)
  | 0, _, _, _, _ => none
  | n + 1, x1, x2, x3, s => b158_18 (f158_18 n) x1 x2 x3 s
set_option maxRecDepth 100000 in
theorem k158_18 {X : mX} {D : Nat}   (n : Nat) : ∀ (x1 : Int32) (x2 : Int32) (x3 : Int32) (s : zS) (r : Int32 × zS) , f158_18  n x1 x2 x3 s = some r → Ev X (D + 1) mm158 18 [some (.ref 22), some (.int x1), some (.int x2), some (.int x3)] [] (mk s) (encI r) := by
  induction n with
  | zero => intro x1 x2 x3 s r   h; cases h
  | succ n ih => intro x1 x2 x3 s r   h; exact kb158_18  ih x1 x2 x3 s r   h
def f158  (x1 : Int32) (s : zS) : Option (Int32 × zS) := f158_18 zF x1 (r265 ((r264 x1 (zi 0) s) / (zi 32)) (s.1 22 1) s) (zi 0) s
set_option maxRecDepth 100000 in
theorem k158 {X : mX} {D : Nat} {x1 : Int32} {s : zS} {r : Int32 × zS}  (h : f158 x1 s = some r) : Ev X (D + 1) mm158 0 [some (.ref 22), some (.int x1), none, none] [] (mk s) (encI r) := by
  unfold f158 at h
  refine Ev.run (pc' := 2) (ls' := [some (.ref 22), some (.int x1), none, none]) (st' := [.int (zi 0), .int x1]) (h' := mk s) 2 rfl ?_
  refine Ev.call (M' := mm264) (v := some (.int (r264 x1 (zi 0) s))) (h' := mk s) rfl rfl rfl (Nat.le_of_ble_eq_true rfl) (k264 (x0 := x1) (x1 := (zi 0)) (s := s) (v := r264 x1 (zi 0) s)  rfl) ?_
  refine Ev.run (pc' := 12) (ls' := [some (.ref 22), some (.int x1), none, none]) (st' := [.int (s.1 22 1), .int ((r264 x1 (zi 0) s) / (zi 32))]) (h' := mk s) 4 rfl ?_
  refine Ev.call (M' := mm265) (v := some (.int (r265 ((r264 x1 (zi 0) s) / (zi 32)) (s.1 22 1) s))) (h' := mk s) rfl rfl rfl (Nat.le_of_ble_eq_true rfl) (k265 (x0 := ((r264 x1 (zi 0) s) / (zi 32))) (x1 := (s.1 22 1)) (s := s) (v := r265 ((r264 x1 (zi 0) s) / (zi 32)) (s.1 22 1) s)  rfl) ?_
  refine Ev.run (pc' := 18) (ls' := [some (.ref 22), some (.int x1), some (.int (r265 ((r264 x1 (zi 0) s) / (zi 32)) (s.1 22 1) s)), some (.int (zi 0))]) (st' := []) (h' := mk s) 3 rfl ?_
  exact k158_18 zF x1 (r265 ((r264 x1 (zi 0) s) / (zi 32)) (s.1 22 1) s) (zi 0) s _ h
/-! 159 F$Binary.rounded(IZ)J -/
def f159_176  (x3 : Int32) (x4 : Int32) (x9 : Int32) (x11 : Int64) (s : zS) : Option (Int64 × zS) := some ((zshlL (zI2L (x9 - x4)) x3) + x11, s)
set_option maxRecDepth 100000 in
theorem k159_176 {X : mX} {D : Nat}   (x3 : Int32) (x4 : Int32) (x9 : Int32) (x11 : Int64) (s : zS) (r : Int64 × zS) (o0 : Option Value) (o1 : Option Value) (o2 : Option Value) (o5 : Option Value) (o6 : Option Value) (o7 : Option Value) (o8 : Option Value) (o10 : Option Value) (o13 : Option Value)  (h : f159_176  x3 x4 x9 x11 s = some r) : Ev X (D + 2) mm159 176 [o0, o1, o2, some (.int x3), some (.int x4), o5, o6, o7, o8, some (.int x9), o10, some (.long x11), none, o13] [] (mk s) (encL r) := by
  unfold f159_176 at h
  refine Ev.run (pc' := 187) (ls' := [o0, o1, o2, some (.int x3), some (.int x4), o5, o6, o7, o8, some (.int x9), o10, some (.long x11), none, o13]) (st' := [.long ((zshlL (zI2L (x9 - x4)) x3) + x11)]) (h' := mk s) 8 rfl ?_
  cases h
  exact Ev.fin rfl rfl
def f159_141  (x3 : Int32) (x4 : Int32) (x9 : Int32) (x10 : Int32) (x11 : Int64) (y0 : Int32) (s : zS) : Option (Int64 × zS) := zb1 (f157 (x10 - (zi 1)) s) (fun v2 s1 => if v2 = zi 0 then f159_176 x3 x4 x9 x11 s1 else if ¬ y0 = zi 0 then f159_176 x3 x4 x9 (x11 + (zl 1)) s1 else if (zremL x11 (zl 2)) = (zl 0) then f159_176 x3 x4 x9 x11 s1 else f159_176 x3 x4 x9 (x11 + (zl 1)) s1)
set_option maxRecDepth 100000 in
theorem k159_141 {X : mX} {D : Nat}   (x3 : Int32) (x4 : Int32) (x9 : Int32) (x10 : Int32) (x11 : Int64) (y0 : Int32) (s : zS) (r : Int64 × zS) (o1 : Option Value) (o2 : Option Value) (o5 : Option Value) (o6 : Option Value) (o7 : Option Value) (o8 : Option Value) (o13 : Option Value)  (h : f159_141  x3 x4 x9 x10 x11 y0 s = some r) : Ev X (D + 2) mm159 141 [some (.ref 22), o1, o2, some (.int x3), some (.int x4), o5, o6, o7, o8, some (.int x9), some (.int x10), some (.long x11), none, o13] [.int y0] (mk s) (encL r) := by
  unfold f159_141 at h
  refine Ev.run (pc' := 148) (ls' := [some (.ref 22), o1, o2, some (.int x3), some (.int x4), o5, o6, o7, o8, some (.int x9), some (.int x10), some (.long x11), none, some (.int y0)]) (st' := [.int (x10 - (zi 1)), .ref 22]) (h' := mk s) 5 rfl ?_
  obtain ⟨v2, s1, hq, h⟩ := zb1_some h
  refine Ev.call (M' := mm157) (v := some (.int v2)) (h' := mk s1) rfl rfl rfl (Nat.le_of_ble_eq_true rfl) (k157 hq) ?_
  refine Ev.if_eq (t := 176) rfl rfl (fun hb => ?_) (fun hb => ?_)
  · have h := (if_pos hb).symm.trans h
    exact k159_176 x3 x4 x9 x11 s1 _ _ _ _ _ _ _ _ _ _ h
  · have h := (if_neg hb).symm.trans h
    refine Ev.run (pc' := 156) (ls' := [some (.ref 22), o1, o2, some (.int x3), some (.int x4), o5, o6, o7, o8, some (.int x9), some (.int x10), some (.long x11), none, some (.int y0)]) (st' := [.int y0]) (h' := mk s1) 1 rfl ?_
    refine Ev.if_ne (t := 170) rfl rfl (fun hb => ?_) (fun hb => ?_)
    · have h := (if_pos hb).symm.trans h
      refine Ev.run (pc' := 176) (ls' := [some (.ref 22), o1, o2, some (.int x3), some (.int x4), o5, o6, o7, o8, some (.int x9), some (.int x10), some (.long (x11 + (zl 1))), none, some (.int y0)]) (st' := []) (h' := mk s1) 4 rfl ?_
      exact k159_176 x3 x4 x9 (x11 + (zl 1)) s1 _ _ _ _ _ _ _ _ _ _ h
    · have h := (if_neg hb).symm.trans h
      refine Ev.run (pc' := 167) (ls' := [some (.ref 22), o1, o2, some (.int x3), some (.int x4), o5, o6, o7, o8, some (.int x9), some (.int x10), some (.long x11), none, some (.int y0)]) (st' := [.int (lg_cmp (zremL x11 (zl 2)) (zl 0))]) (h' := mk s1) 5 rfl ?_
      refine Ev.ifl_eq (t := 176) rfl rfl (fun hb => ?_) (fun hb => ?_)
      · have h := (if_pos hb).symm.trans h
        exact k159_176 x3 x4 x9 x11 s1 _ _ _ _ _ _ _ _ _ _ h
      · have h := (if_neg hb).symm.trans h
        refine Ev.run (pc' := 176) (ls' := [some (.ref 22), o1, o2, some (.int x3), some (.int x4), o5, o6, o7, o8, some (.int x9), some (.int x10), some (.long (x11 + (zl 1))), none, some (.int y0)]) (st' := []) (h' := mk s1) 4 rfl ?_
        exact k159_176 x3 x4 x9 (x11 + (zl 1)) s1 _ _ _ _ _ _ _ _ _ _ h
def f159_76  (x2 : Int32) (x6 : Int32) (s : zS) : Option (Int64 × zS) := if ¬ x6 = zi 0 then some (r149 x2 s, s) else some (zl 0, s)
set_option maxRecDepth 100000 in
theorem k159_76 {X : mX} {D : Nat}   (x2 : Int32) (x6 : Int32) (s : zS) (r : Int64 × zS) (o0 : Option Value) (o1 : Option Value) (o3 : Option Value) (o4 : Option Value) (o5 : Option Value) (o7 : Option Value) (o8 : Option Value) (o9 : Option Value) (o10 : Option Value) (o11 : Option Value) (o12 : Option Value) (o13 : Option Value)  (h : f159_76  x2 x6 s = some r) : Ev X (D + 2) mm159 76 [o0, o1, some (.int x2), o3, o4, o5, some (.int x6), o7, o8, o9, o10, o11, o12, o13] [] (mk s) (encL r) := by
  unfold f159_76 at h
  refine Ev.run (pc' := 78) (ls' := [o0, o1, some (.int x2), o3, o4, o5, some (.int x6), o7, o8, o9, o10, o11, o12, o13]) (st' := [.int x6]) (h' := mk s) 1 rfl ?_
  refine Ev.if_ne (t := 85) rfl rfl (fun hb => ?_) (fun hb => ?_)
  · have h := (if_pos hb).symm.trans h
    refine Ev.run (pc' := 86) (ls' := [o0, o1, some (.int x2), o3, o4, o5, some (.int x6), o7, o8, o9, o10, o11, o12, o13]) (st' := [.int x2]) (h' := mk s) 1 rfl ?_
    refine Ev.call (M' := mm149) (v := some (.long (r149 x2 s))) (h' := mk s) rfl rfl rfl (Nat.le_of_ble_eq_true rfl) (k149 (x0 := x2) (s := s) (v := r149 x2 s)  rfl) ?_
    cases h
    exact Ev.fin rfl rfl
  · have h := (if_neg hb).symm.trans h
    refine Ev.run (pc' := 89) (ls' := [o0, o1, some (.int x2), o3, o4, o5, some (.int x6), o7, o8, o9, o10, o11, o12, o13]) (st' := [.long (zl 0)]) (h' := mk s) 2 rfl ?_
    cases h
    exact Ev.fin rfl rfl
def f159_39  (x1 : Int32) (x2 : Int32) (x3 : Int32) (x4 : Int32) (y0 : Int32) (s : zS) : Option (Int64 × zS) := zb1 (f156 s) (fun v2 s1 => if v2 = zi 0 then f159_76 x2 v2 s1 else if (((x1 - (s1.1 22 2)) + v2) - (zi 1)) ≤ y0 then zb1 (f160 ((r264 ((((x1 - (s1.1 22 2)) + v2) - (zi 1)) - x3) x4 s1) - (x1 - (s1.1 22 2))) v2 s1) (fun v4 s3 => if ¬ (s3.1 22 3) = zi 0 then f159_141 x3 x4 (r264 ((((x1 - (s1.1 22 2)) + v2) - (zi 1)) - x3) x4 s1) ((r264 ((((x1 - (s1.1 22 2)) + v2) - (zi 1)) - x3) x4 s1) - (x1 - (s1.1 22 2))) v4 (zi 1) s3 else zb1 (f158 (((r264 ((((x1 - (s1.1 22 2)) + v2) - (zi 1)) - x3) x4 s1) - (x1 - (s1.1 22 2))) - (zi 1)) s3) (fun v6 s5 => if v6 = zi 0 then f159_141 x3 x4 (r264 ((((x1 - (s1.1 22 2)) + v2) - (zi 1)) - x3) x4 s1) ((r264 ((((x1 - (s1.1 22 2)) + v2) - (zi 1)) - x3) x4 s1) - (x1 - (s1.1 22 2))) v4 (zi 0) s5 else f159_141 x3 x4 (r264 ((((x1 - (s1.1 22 2)) + v2) - (zi 1)) - x3) x4 s1) ((r264 ((((x1 - (s1.1 22 2)) + v2) - (zi 1)) - x3) x4 s1) - (x1 - (s1.1 22 2))) v4 (zi 1) s5)) else f159_76 x2 v2 s1)
set_option maxRecDepth 100000 in
theorem k159_39 {X : mX} {D : Nat}   (x1 : Int32) (x2 : Int32) (x3 : Int32) (x4 : Int32) (y0 : Int32) (s : zS) (r : Int64 × zS) (o5 : Option Value) (o6 : Option Value) (o7 : Option Value) (o8 : Option Value) (o9 : Option Value) (o10 : Option Value) (o11 : Option Value) (o12 : Option Value) (o13 : Option Value)  (h : f159_39  x1 x2 x3 x4 y0 s = some r) : Ev X (D + 2) mm159 39 [some (.ref 22), some (.int x1), some (.int x2), some (.int x3), some (.int x4), o5, o6, o7, o8, o9, o10, o11, o12, o13] [.int y0] (mk s) (encL r) := by
  unfold f159_39 at h
  refine Ev.run (pc' := 42) (ls' := [some (.ref 22), some (.int x1), some (.int x2), some (.int x3), some (.int x4), some (.int y0), o6, o7, o8, o9, o10, o11, o12, o13]) (st' := [.ref 22]) (h' := mk s) 2 rfl ?_
  obtain ⟨v2, s1, hq, h⟩ := zb1_some h
  refine Ev.call (M' := mm156) (v := some (.int v2)) (h' := mk s1) rfl rfl rfl (Nat.le_of_ble_eq_true rfl) (k156 hq) ?_
  refine Ev.run (pc' := 66) (ls' := [some (.ref 22), some (.int x1), some (.int x2), some (.int x3), some (.int x4), some (.int y0), some (.int v2), some (.int (x1 - (s1.1 22 2))), some (.int (((x1 - (s1.1 22 2)) + v2) - (zi 1))), o9, o10, o11, o12, o13]) (st' := [.int v2]) (h' := mk s1) 13 rfl ?_
  refine Ev.if_eq (t := 76) rfl rfl (fun hb => ?_) (fun hb => ?_)
  · have h := (if_pos hb).symm.trans h
    exact k159_76 x2 v2 s1 _ _ _ _ _ _ _ _ _ _ _ _ _ h
  · have h := (if_neg hb).symm.trans h
    refine Ev.run (pc' := 73) (ls' := [some (.ref 22), some (.int x1), some (.int x2), some (.int x3), some (.int x4), some (.int y0), some (.int v2), some (.int (x1 - (s1.1 22 2))), some (.int (((x1 - (s1.1 22 2)) + v2) - (zi 1))), o9, o10, o11, o12, o13]) (st' := [.int y0, .int (((x1 - (s1.1 22 2)) + v2) - (zi 1))]) (h' := mk s1) 2 rfl ?_
    refine Ev.icmp_le (t := 90) rfl rfl (fun hb => ?_) (fun hb => ?_)
    · have h := (if_pos hb).symm.trans h
      refine Ev.run (pc' := 96) (ls' := [some (.ref 22), some (.int x1), some (.int x2), some (.int x3), some (.int x4), some (.int y0), some (.int v2), some (.int (x1 - (s1.1 22 2))), some (.int (((x1 - (s1.1 22 2)) + v2) - (zi 1))), o9, o10, o11, o12, o13]) (st' := [.int x4, .int ((((x1 - (s1.1 22 2)) + v2) - (zi 1)) - x3)]) (h' := mk s1) 4 rfl ?_
      refine Ev.call (M' := mm264) (v := some (.int (r264 ((((x1 - (s1.1 22 2)) + v2) - (zi 1)) - x3) x4 s1))) (h' := mk s1) rfl rfl rfl (Nat.le_of_ble_eq_true rfl) (k264 (x0 := ((((x1 - (s1.1 22 2)) + v2) - (zi 1)) - x3)) (x1 := x4) (s := s1) (v := r264 ((((x1 - (s1.1 22 2)) + v2) - (zi 1)) - x3) x4 s1)  rfl) ?_
      refine Ev.run (pc' := 113) (ls' := [some (.ref 22), some (.int x1), some (.int x2), some (.int x3), some (.int x4), some (.int y0), some (.int v2), some (.int (x1 - (s1.1 22 2))), some (.int (((x1 - (s1.1 22 2)) + v2) - (zi 1))), some (.int (r264 ((((x1 - (s1.1 22 2)) + v2) - (zi 1)) - x3) x4 s1)), some (.int ((r264 ((((x1 - (s1.1 22 2)) + v2) - (zi 1)) - x3) x4 s1) - (x1 - (s1.1 22 2)))), o11, o12, o13]) (st' := [.int v2, .int ((r264 ((((x1 - (s1.1 22 2)) + v2) - (zi 1)) - x3) x4 s1) - (x1 - (s1.1 22 2))), .ref 22]) (h' := mk s1) 8 rfl ?_
      obtain ⟨v4, s3, hq, h⟩ := zb1_some h
      refine Ev.call (M' := mm160) (v := some (.long v4)) (h' := mk s3) rfl rfl rfl (Nat.le_of_ble_eq_true rfl) (k160 hq) ?_
      refine Ev.run (pc' := 122) (ls' := [some (.ref 22), some (.int x1), some (.int x2), some (.int x3), some (.int x4), some (.int y0), some (.int v2), some (.int (x1 - (s1.1 22 2))), some (.int (((x1 - (s1.1 22 2)) + v2) - (zi 1))), some (.int (r264 ((((x1 - (s1.1 22 2)) + v2) - (zi 1)) - x3) x4 s1)), some (.int ((r264 ((((x1 - (s1.1 22 2)) + v2) - (zi 1)) - x3) x4 s1) - (x1 - (s1.1 22 2)))), some (.long v4), none, o13]) (st' := [.int (s3.1 22 3)]) (h' := mk s3) 3 rfl ?_
      refine Ev.if_ne (t := 136) rfl rfl (fun hb => ?_) (fun hb => ?_)
      · have h := (if_pos hb).symm.trans h
        refine Ev.run (pc' := 141) (ls' := [some (.ref 22), some (.int x1), some (.int x2), some (.int x3), some (.int x4), some (.int y0), some (.int v2), some (.int (x1 - (s1.1 22 2))), some (.int (((x1 - (s1.1 22 2)) + v2) - (zi 1))), some (.int (r264 ((((x1 - (s1.1 22 2)) + v2) - (zi 1)) - x3) x4 s1)), some (.int ((r264 ((((x1 - (s1.1 22 2)) + v2) - (zi 1)) - x3) x4 s1) - (x1 - (s1.1 22 2)))), some (.long v4), none, o13]) (st' := [.int (zi 1)]) (h' := mk s3) 2 rfl ?_
        exact k159_141 x3 x4 (r264 ((((x1 - (s1.1 22 2)) + v2) - (zi 1)) - x3) x4 s1) ((r264 ((((x1 - (s1.1 22 2)) + v2) - (zi 1)) - x3) x4 s1) - (x1 - (s1.1 22 2))) v4 (zi 1) s3 _ _ _ _ _ _ _ _ h
      · have h := (if_neg hb).symm.trans h
        refine Ev.run (pc' := 130) (ls' := [some (.ref 22), some (.int x1), some (.int x2), some (.int x3), some (.int x4), some (.int y0), some (.int v2), some (.int (x1 - (s1.1 22 2))), some (.int (((x1 - (s1.1 22 2)) + v2) - (zi 1))), some (.int (r264 ((((x1 - (s1.1 22 2)) + v2) - (zi 1)) - x3) x4 s1)), some (.int ((r264 ((((x1 - (s1.1 22 2)) + v2) - (zi 1)) - x3) x4 s1) - (x1 - (s1.1 22 2)))), some (.long v4), none, o13]) (st' := [.int (((r264 ((((x1 - (s1.1 22 2)) + v2) - (zi 1)) - x3) x4 s1) - (x1 - (s1.1 22 2))) - (zi 1)), .ref 22]) (h' := mk s3) 4 rfl ?_
        obtain ⟨v6, s5, hq, h⟩ := zb1_some h
        refine Ev.call (M' := mm158) (v := some (.int v6)) (h' := mk s5) rfl rfl rfl (Nat.le_of_ble_eq_true rfl) (k158 hq) ?_
        refine Ev.if_eq (t := 140) rfl rfl (fun hb => ?_) (fun hb => ?_)
        · have h := (if_pos hb).symm.trans h
          refine Ev.run (pc' := 141) (ls' := [some (.ref 22), some (.int x1), some (.int x2), some (.int x3), some (.int x4), some (.int y0), some (.int v2), some (.int (x1 - (s1.1 22 2))), some (.int (((x1 - (s1.1 22 2)) + v2) - (zi 1))), some (.int (r264 ((((x1 - (s1.1 22 2)) + v2) - (zi 1)) - x3) x4 s1)), some (.int ((r264 ((((x1 - (s1.1 22 2)) + v2) - (zi 1)) - x3) x4 s1) - (x1 - (s1.1 22 2)))), some (.long v4), none, o13]) (st' := [.int (zi 0)]) (h' := mk s5) 1 rfl ?_
          exact k159_141 x3 x4 (r264 ((((x1 - (s1.1 22 2)) + v2) - (zi 1)) - x3) x4 s1) ((r264 ((((x1 - (s1.1 22 2)) + v2) - (zi 1)) - x3) x4 s1) - (x1 - (s1.1 22 2))) v4 (zi 0) s5 _ _ _ _ _ _ _ _ h
        · have h := (if_neg hb).symm.trans h
          refine Ev.run (pc' := 141) (ls' := [some (.ref 22), some (.int x1), some (.int x2), some (.int x3), some (.int x4), some (.int y0), some (.int v2), some (.int (x1 - (s1.1 22 2))), some (.int (((x1 - (s1.1 22 2)) + v2) - (zi 1))), some (.int (r264 ((((x1 - (s1.1 22 2)) + v2) - (zi 1)) - x3) x4 s1)), some (.int ((r264 ((((x1 - (s1.1 22 2)) + v2) - (zi 1)) - x3) x4 s1) - (x1 - (s1.1 22 2)))), some (.long v4), none, o13]) (st' := [.int (zi 1)]) (h' := mk s5) 2 rfl ?_
          exact k159_141 x3 x4 (r264 ((((x1 - (s1.1 22 2)) + v2) - (zi 1)) - x3) x4 s1) ((r264 ((((x1 - (s1.1 22 2)) + v2) - (zi 1)) - x3) x4 s1) - (x1 - (s1.1 22 2))) v4 (zi 1) s5 _ _ _ _ _ _ _ _ h
    · have h := (if_neg hb).symm.trans h
      exact k159_76 x2 v2 s1 _ _ _ _ _ _ _ _ _ _ _ _ _ h
def f159_25  (x1 : Int32) (x2 : Int32) (x3 : Int32) (y0 : Int32) (s : zS) : Option (Int64 × zS) := if x2 = zi 0 then f159_39 x1 x2 x3 y0 (zi 1023) s else f159_39 x1 x2 x3 y0 (zi 127) s
set_option maxRecDepth 100000 in
theorem k159_25 {X : mX} {D : Nat}   (x1 : Int32) (x2 : Int32) (x3 : Int32) (y0 : Int32) (s : zS) (r : Int64 × zS) (o4 : Option Value) (o5 : Option Value) (o6 : Option Value) (o7 : Option Value) (o8 : Option Value) (o9 : Option Value) (o10 : Option Value) (o11 : Option Value) (o12 : Option Value) (o13 : Option Value)  (h : f159_25  x1 x2 x3 y0 s = some r) : Ev X (D + 2) mm159 25 [some (.ref 22), some (.int x1), some (.int x2), some (.int x3), o4, o5, o6, o7, o8, o9, o10, o11, o12, o13] [.int y0] (mk s) (encL r) := by
  unfold f159_25 at h
  refine Ev.run (pc' := 28) (ls' := [some (.ref 22), some (.int x1), some (.int x2), some (.int x3), some (.int y0), o5, o6, o7, o8, o9, o10, o11, o12, o13]) (st' := [.int x2]) (h' := mk s) 2 rfl ?_
  refine Ev.if_eq (t := 36) rfl rfl (fun hb => ?_) (fun hb => ?_)
  · have h := (if_pos hb).symm.trans h
    refine Ev.run (pc' := 39) (ls' := [some (.ref 22), some (.int x1), some (.int x2), some (.int x3), some (.int y0), o5, o6, o7, o8, o9, o10, o11, o12, o13]) (st' := [.int (zi 1023)]) (h' := mk s) 1 rfl ?_
    exact k159_39 x1 x2 x3 y0 (zi 1023) s _ _ _ _ _ _ _ _ _ _ h
  · have h := (if_neg hb).symm.trans h
    refine Ev.run (pc' := 39) (ls' := [some (.ref 22), some (.int x1), some (.int x2), some (.int x3), some (.int y0), o5, o6, o7, o8, o9, o10, o11, o12, o13]) (st' := [.int (zi 127)]) (h' := mk s) 2 rfl ?_
    exact k159_39 x1 x2 x3 y0 (zi 127) s _ _ _ _ _ _ _ _ _ _ h
def f159_11  (x1 : Int32) (x2 : Int32) (y0 : Int32) (s : zS) : Option (Int64 × zS) := if x2 = zi 0 then f159_25 x1 x2 y0 (zi (-1074)) s else f159_25 x1 x2 y0 (zi (-149)) s
set_option maxRecDepth 100000 in
theorem k159_11 {X : mX} {D : Nat}   (x1 : Int32) (x2 : Int32) (y0 : Int32) (s : zS) (r : Int64 × zS) (o3 : Option Value) (o4 : Option Value) (o5 : Option Value) (o6 : Option Value) (o7 : Option Value) (o8 : Option Value) (o9 : Option Value) (o10 : Option Value) (o11 : Option Value) (o12 : Option Value) (o13 : Option Value)  (h : f159_11  x1 x2 y0 s = some r) : Ev X (D + 2) mm159 11 [some (.ref 22), some (.int x1), some (.int x2), o3, o4, o5, o6, o7, o8, o9, o10, o11, o12, o13] [.int y0] (mk s) (encL r) := by
  unfold f159_11 at h
  refine Ev.run (pc' := 13) (ls' := [some (.ref 22), some (.int x1), some (.int x2), some (.int y0), o4, o5, o6, o7, o8, o9, o10, o11, o12, o13]) (st' := [.int x2]) (h' := mk s) 2 rfl ?_
  refine Ev.if_eq (t := 22) rfl rfl (fun hb => ?_) (fun hb => ?_)
  · have h := (if_pos hb).symm.trans h
    refine Ev.run (pc' := 25) (ls' := [some (.ref 22), some (.int x1), some (.int x2), some (.int y0), o4, o5, o6, o7, o8, o9, o10, o11, o12, o13]) (st' := [.int (zi (-1074))]) (h' := mk s) 1 rfl ?_
    exact k159_25 x1 x2 y0 (zi (-1074)) s _ _ _ _ _ _ _ _ _ _ _ h
  · have h := (if_neg hb).symm.trans h
    refine Ev.run (pc' := 25) (ls' := [some (.ref 22), some (.int x1), some (.int x2), some (.int y0), o4, o5, o6, o7, o8, o9, o10, o11, o12, o13]) (st' := [.int (zi (-149))]) (h' := mk s) 2 rfl ?_
    exact k159_25 x1 x2 y0 (zi (-149)) s _ _ _ _ _ _ _ _ _ _ _ h
def f159  (x1 : Int32) (x2 : Int32) (s : zS) : Option (Int64 × zS) := if x2 = zi 0 then f159_11 x1 x2 (zi 52) s else f159_11 x1 x2 (zi 23) s
set_option maxRecDepth 100000 in
theorem k159 {X : mX} {D : Nat} {x1 : Int32} {x2 : Int32} {s : zS} {r : Int64 × zS}  (h : f159 x1 x2 s = some r) : Ev X (D + 2) mm159 0 [some (.ref 22), some (.int x1), some (.int x2), none, none, none, none, none, none, none, none, none, none, none] [] (mk s) (encL r) := by
  unfold f159 at h
  refine Ev.run (pc' := 1) (ls' := [some (.ref 22), some (.int x1), some (.int x2), none, none, none, none, none, none, none, none, none, none, none]) (st' := [.int x2]) (h' := mk s) 1 rfl ?_
  refine Ev.if_eq (t := 9) rfl rfl (fun hb => ?_) (fun hb => ?_)
  · have h := (if_pos hb).symm.trans h
    refine Ev.run (pc' := 11) (ls' := [some (.ref 22), some (.int x1), some (.int x2), none, none, none, none, none, none, none, none, none, none, none]) (st' := [.int (zi 52)]) (h' := mk s) 1 rfl ?_
    exact k159_11 x1 x2 (zi 52) s _ _ _ _ _ _ _ _ _ _ _ _ h
  · have h := (if_neg hb).symm.trans h
    refine Ev.run (pc' := 11) (ls' := [some (.ref 22), some (.int x1), some (.int x2), none, none, none, none, none, none, none, none, none, none, none]) (st' := [.int (zi 23)]) (h' := mk s) 2 rfl ?_
    exact k159_11 x1 x2 (zi 23) s _ _ _ _ _ _ _ _ _ _ _ _ h
/-! 145 F$NumberReader.valueOfSixteens()J -/
def f145   (s : zS) : Option (Int64 × zS) := zb1 (f159 ((s.1 21 9) - ((zi 4) * (s.1 21 7))) (s.1 21 2) s) (fun v2 s1 => some (v2, s1))
set_option maxRecDepth 100000 in
theorem k145 {X : mX} {D : Nat}  {s : zS} {r : Int64 × zS}  (h : f145  s = some r) : Ev X (D + 3) mm145 0 [some (.ref 21)] [] (mk s) (encL r) := by
  unfold f145 at h
  refine Ev.run (pc' := 19) (ls' := [some (.ref 21)]) (st' := [.int (s.1 21 2), .int ((s.1 21 9) - ((zi 4) * (s.1 21 7))), .ref 22]) (h' := mk s) 11 rfl ?_
  obtain ⟨v2, s1, hq, h⟩ := zb1_some h
  refine Ev.call (M' := mm159) (v := some (.long v2)) (h' := mk s1) rfl rfl rfl (Nat.le_of_ble_eq_true rfl) (k159 hq) ?_
  cases h
  exact Ev.fin rfl rfl
/-! 154 F$Binary.raise(I)V -/
def b154_46 (rec46 : Int32 → Int32 → zS → Option (zS)) (x2 : Int32) (x3 : Int32) (s : zS) : Option (zS) := if x3 ≥ x2 then some (setI (setI s 22 1 ((s.1 22 1) + x2)) 22 2 ((s.1 22 2) + (x2 * (zi 32)))) else if mIx x3 128 then rec46 x2 (x3 + zi 1) (setK s 23 x3.toNatClampNeg (zl 0)) else none
set_option maxRecDepth 100000 in
theorem kb154_46 {X : mX} {D : Nat} {rec46 : Int32 → Int32 → zS → Option (zS)} (hrec46 : ∀ (x2 : Int32) (x3 : Int32) (s : zS) (r : zS) (o1 : Option Value), rec46 x2 x3 s = some r → Ev X (D + 1) mm154 46 [some (.ref 22), o1, some (.int x2), some (.int x3)] [] (mk s) (encV r)) (x2 : Int32) (x3 : Int32) (s : zS) (r : zS) (o1 : Option Value)  (h : b154_46 rec46 x2 x3 s = some r) : Ev X (D + 1) mm154 46 [some (.ref 22), o1, some (.int x2), some (.int x3)] [] (mk s) (encV r) := by
  unfold b154_46 at h
  refine Ev.run (pc' := 48) (ls' := [some (.ref 22), o1, some (.int x2), some (.int x3)]) (st' := [.int x2, .int x3]) (h' := mk s) 2 rfl ?_
  refine Ev.icmp_ge (t := 64) rfl rfl (fun hb => ?_) (fun hb => ?_)
  · have h := (if_pos hb).symm.trans h
    refine Ev.run (pc' := 71) (ls' := [some (.ref 22), o1, some (.int x2), some (.int x3)]) (st' := [.int ((s.1 22 1) + x2), .ref 22]) (h' := mk s) 5 rfl ?_
    refine Ev.step (pc' := 74) rfl (put_11_1 rfl) ?_
    refine Ev.run (pc' := 84) (ls' := [some (.ref 22), o1, some (.int x2), some (.int x3)]) (st' := [.int ((s.1 22 2) + (x2 * (zi 32))), .ref 22]) (h' := mk (setI s 22 1 ((s.1 22 1) + x2))) 7 rfl ?_
    refine Ev.step (pc' := 87) rfl (put_11_2 rfl) ?_
    cases h
    exact Ev.fin rfl rfl
  · have h := (if_neg hb).symm.trans h
    refine Ev.run (pc' := 57) (ls' := [some (.ref 22), o1, some (.int x2), some (.int x3)]) (st' := [.long (zl 0), .int x3, .ref 23]) (h' := mk s) 4 rfl ?_
    obtain ⟨hx, h⟩ := zif h
    refine Ev.step (pc' := 58) rfl (ast_23 hx) ?_
    refine Ev.run (pc' := 46) (ls' := [some (.ref 22), o1, some (.int x2), some (.int (x3 + zi 1))]) (st' := []) (h' := mk (setK s 23 x3.toNatClampNeg (zl 0))) 2 rfl ?_
    exact hrec46 x2 (x3 + zi 1) (setK s 23 x3.toNatClampNeg (zl 0)) _ _ h
def f154_46  : Nat → Int32 → Int32 → zS → Option (zS)
  | 0, _, _, _ => none
  | n + 1, x2, x3, s => b154_46 (f154_46 n) x2 x3 s
set_option maxRecDepth 100000 in
theorem k154_46 {X : mX} {D : Nat}   (n : Nat) : ∀ (x2 : Int32) (x3 : Int32) (s : zS) (r : zS) (o1 : Option Value), f154_46  n x2 x3 s = some r → Ev X (D + 1) mm154 46 [some (.ref 22), o1, some (.int x2), some (.int x3)] [] (mk s) (encV r) := by
  induction n with
  | zero => intro x2 x3 s r o1  h; cases h
  | succ n ih => intro x2 x3 s r o1  h; exact kb154_46  ih x2 x3 s r o1  h
def b154_20 (rec20 : Int32 → Int32 → zS → Option (zS)) (x2 : Int32) (x3 : Int32) (s : zS) : Option (zS) := if x3 < zi 0 then f154_46 zF x2 (zi 0) s else if mIx x3 128 then if mIx (x3 + x2) 128 then rec20 x2 (x3 + zi (-1)) (setK s 23 ((x3 + x2).toNatClampNeg) (s.2.1 23 x3.toNatClampNeg)) else none else none
set_option maxRecDepth 100000 in
theorem kb154_20 {X : mX} {D : Nat} {rec20 : Int32 → Int32 → zS → Option (zS)} (hrec20 : ∀ (x2 : Int32) (x3 : Int32) (s : zS) (r : zS) (o1 : Option Value), rec20 x2 x3 s = some r → Ev X (D + 1) mm154 20 [some (.ref 22), o1, some (.int x2), some (.int x3)] [] (mk s) (encV r)) (x2 : Int32) (x3 : Int32) (s : zS) (r : zS) (o1 : Option Value)  (h : b154_20 rec20 x2 x3 s = some r) : Ev X (D + 1) mm154 20 [some (.ref 22), o1, some (.int x2), some (.int x3)] [] (mk s) (encV r) := by
  unfold b154_20 at h
  refine Ev.run (pc' := 21) (ls' := [some (.ref 22), o1, some (.int x2), some (.int x3)]) (st' := [.int x3]) (h' := mk s) 1 rfl ?_
  refine Ev.if_lt (t := 44) rfl rfl (fun hb => ?_) (fun hb => ?_)
  · have h := (if_pos hb).symm.trans h
    refine Ev.run (pc' := 46) (ls' := [some (.ref 22), o1, some (.int x2), some (.int (zi 0))]) (st' := []) (h' := mk s) 2 rfl ?_
    exact k154_46 zF x2 (zi 0) s _ _ h
  · have h := (if_neg hb).symm.trans h
    refine Ev.run (pc' := 36) (ls' := [some (.ref 22), o1, some (.int x2), some (.int x3)]) (st' := [.int x3, .ref 23, .int (x3 + x2), .ref 23]) (h' := mk s) 8 rfl ?_
    obtain ⟨hx, h⟩ := zif h
    refine Ev.step (pc' := 37) rfl (ald_l rfl hx) ?_
    obtain ⟨hx, h⟩ := zif h
    refine Ev.step (pc' := 38) rfl (ast_23 hx) ?_
    refine Ev.run (pc' := 20) (ls' := [some (.ref 22), o1, some (.int x2), some (.int (x3 + zi (-1)))]) (st' := []) (h' := mk (setK s 23 ((x3 + x2).toNatClampNeg) (s.2.1 23 x3.toNatClampNeg))) 2 rfl ?_
    exact hrec20 x2 (x3 + zi (-1)) (setK s 23 ((x3 + x2).toNatClampNeg) (s.2.1 23 x3.toNatClampNeg)) _ _ h
def f154_20  : Nat → Int32 → Int32 → zS → Option (zS)
  | 0, _, _, _ => none
  | n + 1, x2, x3, s => b154_20 (f154_20 n) x2 x3 s
set_option maxRecDepth 100000 in
theorem k154_20 {X : mX} {D : Nat}   (n : Nat) : ∀ (x2 : Int32) (x3 : Int32) (s : zS) (r : zS) (o1 : Option Value), f154_20  n x2 x3 s = some r → Ev X (D + 1) mm154 20 [some (.ref 22), o1, some (.int x2), some (.int x3)] [] (mk s) (encV r) := by
  induction n with
  | zero => intro x2 x3 s r o1  h; cases h
  | succ n ih => intro x2 x3 s r o1  h; exact kb154_20  ih x2 x3 s r o1  h
def f154  (x1 : Int32) (s : zS) : Option (zS) := f154_20 zF (r265 x1 ((zi 128) - (s.1 22 1)) s) ((s.1 22 1) - (zi 1)) s
set_option maxRecDepth 100000 in
theorem k154 {X : mX} {D : Nat} {x1 : Int32} {s : zS} {r : zS}  (h : f154 x1 s = some r) : Ev X (D + 1) mm154 0 [some (.ref 22), some (.int x1), none, none] [] (mk s) (encV r) := by
  unfold f154 at h
  refine Ev.run (pc' := 9) (ls' := [some (.ref 22), some (.int x1), none, none]) (st' := [.int ((zi 128) - (s.1 22 1)), .int x1]) (h' := mk s) 5 rfl ?_
  refine Ev.call (M' := mm265) (v := some (.int (r265 x1 ((zi 128) - (s.1 22 1)) s))) (h' := mk s) rfl rfl rfl (Nat.le_of_ble_eq_true rfl) (k265 (x0 := x1) (x1 := ((zi 128) - (s.1 22 1))) (s := s) (v := r265 x1 ((zi 128) - (s.1 22 1)) s)  rfl) ?_
  refine Ev.run (pc' := 20) (ls' := [some (.ref 22), some (.int x1), some (.int (r265 x1 ((zi 128) - (s.1 22 1)) s)), some (.int ((s.1 22 1) - (zi 1)))]) (st' := []) (h' := mk s) 6 rfl ?_
  exact k154_20 zF (r265 x1 ((zi 128) - (s.1 22 1)) s) ((s.1 22 1) - (zi 1)) s _ _ h
/-! 155 F$Binary.divide(J)V -/
def b155_73 (rec73 : zS → Option (zS))  (s : zS) : Option (zS) := if (s.1 22 1) ≤ zi 0 then some s else if mIx ((s.1 22 1) - (zi 1)) 128 then if ¬ (s.2.1 23 (((s.1 22 1) - (zi 1)).toNatClampNeg)) = (zl 0) then some s else rec73 (setI s 22 1 ((s.1 22 1) - (zi 1))) else none
set_option maxRecDepth 100000 in
theorem kb155_73 {X : mX} {D : Nat} {rec73 : zS → Option (zS)} (hrec73 : ∀  (s : zS) (r : zS) (o1 : Option Value) (o2 : Option Value) (o3 : Option Value) (o4 : Option Value) (o5 : Option Value) (o6 : Option Value) (o7 : Option Value), rec73  s = some r → Ev X D mm155 73 [some (.ref 22), o1, o2, o3, o4, o5, o6, o7] [] (mk s) (encV r))  (s : zS) (r : zS) (o1 : Option Value) (o2 : Option Value) (o3 : Option Value) (o4 : Option Value) (o5 : Option Value) (o6 : Option Value) (o7 : Option Value)  (h : b155_73 rec73  s = some r) : Ev X D mm155 73 [some (.ref 22), o1, o2, o3, o4, o5, o6, o7] [] (mk s) (encV r) := by
  unfold b155_73 at h
  refine Ev.run (pc' := 77) (ls' := [some (.ref 22), o1, o2, o3, o4, o5, o6, o7]) (st' := [.int (s.1 22 1)]) (h' := mk s) 2 rfl ?_
  refine Ev.if_le (t := 109) rfl rfl (fun hb => ?_) (fun hb => ?_)
  · have h := (if_pos hb).symm.trans h
    cases h
    exact Ev.fin rfl rfl
  · have h := (if_neg hb).symm.trans h
    refine Ev.run (pc' := 90) (ls' := [some (.ref 22), o1, o2, o3, o4, o5, o6, o7]) (st' := [.int ((s.1 22 1) - (zi 1)), .ref 23]) (h' := mk s) 6 rfl ?_
    obtain ⟨hx, h⟩ := zif h
    refine Ev.step (pc' := 91) rfl (ald_l rfl hx) ?_
    refine Ev.run (pc' := 93) (ls' := [some (.ref 22), o1, o2, o3, o4, o5, o6, o7]) (st' := [.int (lg_cmp (s.2.1 23 (((s.1 22 1) - (zi 1)).toNatClampNeg)) (zl 0))]) (h' := mk s) 2 rfl ?_
    refine Ev.ifl_ne (t := 109) rfl rfl (fun hb => ?_) (fun hb => ?_)
    · have h := (if_pos hb).symm.trans h
      cases h
      exact Ev.fin rfl rfl
    · have h := (if_neg hb).symm.trans h
      refine Ev.run (pc' := 103) (ls' := [some (.ref 22), o1, o2, o3, o4, o5, o6, o7]) (st' := [.int ((s.1 22 1) - (zi 1)), .ref 22]) (h' := mk s) 5 rfl ?_
      refine Ev.step (pc' := 106) rfl (put_11_1 rfl) ?_
      refine Ev.run (pc' := 73) (ls' := [some (.ref 22), o1, o2, o3, o4, o5, o6, o7]) (st' := []) (h' := mk (setI s 22 1 ((s.1 22 1) - (zi 1)))) 1 rfl ?_
      exact hrec73 (setI s 22 1 ((s.1 22 1) - (zi 1))) _ _ _ _ _ _ _ _ h
def f155_73  : Nat → zS → Option (zS)
  | 0, _ => none
  | n + 1, s => b155_73 (f155_73 n)  s
set_option maxRecDepth 100000 in
theorem k155_73 {X : mX} {D : Nat}   (n : Nat) : ∀  (s : zS) (r : zS) (o1 : Option Value) (o2 : Option Value) (o3 : Option Value) (o4 : Option Value) (o5 : Option Value) (o6 : Option Value) (o7 : Option Value), f155_73  n  s = some r → Ev X D mm155 73 [some (.ref 22), o1, o2, o3, o4, o5, o6, o7] [] (mk s) (encV r) := by
  induction n with
  | zero => intro  s r o1 o2 o3 o4 o5 o6 o7  h; cases h
  | succ n ih => intro  s r o1 o2 o3 o4 o5 o6 o7  h; exact kb155_73  ih  s r o1 o2 o3 o4 o5 o6 o7  h
def b155_10 (rec10 : Int64 → Int64 → Int32 → zS → Option (zS)) (x1 : Int64) (x3 : Int64) (x5 : Int32) (s : zS) : Option (zS) := if x5 < zi 0 then if ¬ (s.1 22 3) = zi 0 then f155_73 zF (setI s 22 3 (zi 1)) else if x3 = (zl 0) then f155_73 zF (setI s 22 3 (zi 0)) else f155_73 zF (setI s 22 3 (zi 1)) else if mIx x5 128 then if ¬ x1 = zl 0 then if mIx x5 128 then if ¬ x1 = zl 0 then rec10 x1 (zremL ((zshlL x3 (zi 32)) ||| (s.2.1 23 x5.toNatClampNeg)) x1) (x5 + zi (-1)) (setK s 23 x5.toNatClampNeg (((zshlL x3 (zi 32)) ||| (s.2.1 23 x5.toNatClampNeg)) / x1)) else none else none else none else none
set_option maxRecDepth 100000 in
theorem kb155_10 {X : mX} {D : Nat} {rec10 : Int64 → Int64 → Int32 → zS → Option (zS)} (hrec10 : ∀ (x1 : Int64) (x3 : Int64) (x5 : Int32) (s : zS) (r : zS) (o6 : Option Value) (o7 : Option Value), rec10 x1 x3 x5 s = some r → Ev X D mm155 10 [some (.ref 22), some (.long x1), none, some (.long x3), none, some (.int x5), o6, o7] [] (mk s) (encV r)) (x1 : Int64) (x3 : Int64) (x5 : Int32) (s : zS) (r : zS) (o6 : Option Value) (o7 : Option Value)  (h : b155_10 rec10 x1 x3 x5 s = some r) : Ev X D mm155 10 [some (.ref 22), some (.long x1), none, some (.long x3), none, some (.int x5), o6, o7] [] (mk s) (encV r) := by
  unfold b155_10 at h
  refine Ev.run (pc' := 12) (ls' := [some (.ref 22), some (.long x1), none, some (.long x3), none, some (.int x5), o6, o7]) (st' := [.int x5]) (h' := mk s) 1 rfl ?_
  refine Ev.if_lt (t := 51) rfl rfl (fun hb => ?_) (fun hb => ?_)
  · have h := (if_pos hb).symm.trans h
    refine Ev.run (pc' := 56) (ls' := [some (.ref 22), some (.long x1), none, some (.long x3), none, some (.int x5), o6, o7]) (st' := [.int (s.1 22 3), .ref 22]) (h' := mk s) 3 rfl ?_
    refine Ev.if_ne (t := 65) rfl rfl (fun hb => ?_) (fun hb => ?_)
    · have h := (if_pos hb).symm.trans h
      refine Ev.run (pc' := 70) (ls' := [some (.ref 22), some (.long x1), none, some (.long x3), none, some (.int x5), o6, o7]) (st' := [.int (zi 1), .ref 22]) (h' := mk s) 2 rfl ?_
      refine Ev.step (pc' := 73) rfl (put_11_3 (by decide) rfl) ?_
      exact k155_73 zF (setI s 22 3 (zi 1)) _ _ _ _ _ _ _ _ h
    · have h := (if_neg hb).symm.trans h
      refine Ev.run (pc' := 62) (ls' := [some (.ref 22), some (.long x1), none, some (.long x3), none, some (.int x5), o6, o7]) (st' := [.int (lg_cmp x3 (zl 0)), .ref 22]) (h' := mk s) 3 rfl ?_
      refine Ev.ifl_eq (t := 69) rfl rfl (fun hb => ?_) (fun hb => ?_)
      · have h := (if_pos hb).symm.trans h
        refine Ev.run (pc' := 70) (ls' := [some (.ref 22), some (.long x1), none, some (.long x3), none, some (.int x5), o6, o7]) (st' := [.int (zi 0), .ref 22]) (h' := mk s) 1 rfl ?_
        refine Ev.step (pc' := 73) rfl (put_11_3 (by decide) rfl) ?_
        exact k155_73 zF (setI s 22 3 (zi 0)) _ _ _ _ _ _ _ _ h
      · have h := (if_neg hb).symm.trans h
        refine Ev.run (pc' := 70) (ls' := [some (.ref 22), some (.long x1), none, some (.long x3), none, some (.int x5), o6, o7]) (st' := [.int (zi 1), .ref 22]) (h' := mk s) 2 rfl ?_
        refine Ev.step (pc' := 73) rfl (put_11_3 (by decide) rfl) ?_
        exact k155_73 zF (setI s 22 3 (zi 1)) _ _ _ _ _ _ _ _ h
  · have h := (if_neg hb).symm.trans h
    refine Ev.run (pc' := 25) (ls' := [some (.ref 22), some (.long x1), none, some (.long x3), none, some (.int x5), o6, o7]) (st' := [.int x5, .ref 23, .long (zshlL x3 (zi 32))]) (h' := mk s) 6 rfl ?_
    obtain ⟨hx, h⟩ := zif h
    refine Ev.step (pc' := 26) rfl (ald_l rfl hx) ?_
    refine Ev.run (pc' := 38) (ls' := [some (.ref 22), some (.long x1), none, some (.long x3), none, some (.int x5), some (.long ((zshlL x3 (zi 32)) ||| (s.2.1 23 x5.toNatClampNeg))), none]) (st' := [.long x1, .long ((zshlL x3 (zi 32)) ||| (s.2.1 23 x5.toNatClampNeg)), .int x5, .ref 23]) (h' := mk s) 7 rfl ?_
    obtain ⟨hx, h⟩ := zif h
    refine Ev.step (pc' := 39) rfl (ldiv_ok hx) ?_
    obtain ⟨hx, h⟩ := zif h
    refine Ev.step (pc' := 40) rfl (ast_23 hx) ?_
    refine Ev.run (pc' := 43) (ls' := [some (.ref 22), some (.long x1), none, some (.long x3), none, some (.int x5), some (.long ((zshlL x3 (zi 32)) ||| (s.2.1 23 x5.toNatClampNeg))), none]) (st' := [.long x1, .long ((zshlL x3 (zi 32)) ||| (s.2.1 23 x5.toNatClampNeg))]) (h' := mk (setK s 23 x5.toNatClampNeg (((zshlL x3 (zi 32)) ||| (s.2.1 23 x5.toNatClampNeg)) / x1))) 2 rfl ?_
    obtain ⟨hx, h⟩ := zif h
    refine Ev.step (pc' := 44) rfl (lrem_ok hx) ?_
    refine Ev.run (pc' := 10) (ls' := [some (.ref 22), some (.long x1), none, some (.long (zremL ((zshlL x3 (zi 32)) ||| (s.2.1 23 x5.toNatClampNeg)) x1)), none, some (.int (x5 + zi (-1))), some (.long ((zshlL x3 (zi 32)) ||| (s.2.1 23 x5.toNatClampNeg))), none]) (st' := []) (h' := mk (setK s 23 x5.toNatClampNeg (((zshlL x3 (zi 32)) ||| (s.2.1 23 x5.toNatClampNeg)) / x1))) 3 rfl ?_
    exact hrec10 x1 (zremL ((zshlL x3 (zi 32)) ||| (s.2.1 23 x5.toNatClampNeg)) x1) (x5 + zi (-1)) (setK s 23 x5.toNatClampNeg (((zshlL x3 (zi 32)) ||| (s.2.1 23 x5.toNatClampNeg)) / x1)) _ _ _ h
def f155_10  : Nat → Int64 → Int64 → Int32 → zS → Option (zS)
  | 0, _, _, _, _ => none
  | n + 1, x1, x3, x5, s => b155_10 (f155_10 n) x1 x3 x5 s
set_option maxRecDepth 100000 in
theorem k155_10 {X : mX} {D : Nat}   (n : Nat) : ∀ (x1 : Int64) (x3 : Int64) (x5 : Int32) (s : zS) (r : zS) (o6 : Option Value) (o7 : Option Value), f155_10  n x1 x3 x5 s = some r → Ev X D mm155 10 [some (.ref 22), some (.long x1), none, some (.long x3), none, some (.int x5), o6, o7] [] (mk s) (encV r) := by
  induction n with
  | zero => intro x1 x3 x5 s r o6 o7  h; cases h
  | succ n ih => intro x1 x3 x5 s r o6 o7  h; exact kb155_10  ih x1 x3 x5 s r o6 o7  h
def f155  (x1 : Int64) (s : zS) : Option (zS) := f155_10 zF x1 (zl 0) ((s.1 22 1) - (zi 1)) s
set_option maxRecDepth 100000 in
theorem k155 {X : mX} {D : Nat} {x1 : Int64} {s : zS} {r : zS}  (h : f155 x1 s = some r) : Ev X D mm155 0 [some (.ref 22), some (.long x1), none, none, none, none, none, none] [] (mk s) (encV r) := by
  unfold f155 at h
  refine Ev.run (pc' := 10) (ls' := [some (.ref 22), some (.long x1), none, some (.long (zl 0)), none, some (.int ((s.1 22 1) - (zi 1))), none, none]) (st' := []) (h' := mk s) 7 rfl ?_
  exact k155_10 zF x1 (zl 0) ((s.1 22 1) - (zi 1)) s _ _ _ h
/-! 153 F$Binary.divideByFives(I)V -/
def b153_42 (rec42 : Int32 → Int32 → zS → Option (zS)) (x3 : Int32) (x4 : Int32) (s : zS) : Option (zS) := if x4 ≤ zi 0 then some s else zb1 (f114 (zi 5) (r265 x4 (zi 13) s) s) (fun v2 s1 => zb0 (f155 v2 s1) (fun s3 => rec42 x3 (x4 + zi (-13)) s3))
set_option maxRecDepth 100000 in
theorem kb153_42 {X : mX} {D : Nat} {rec42 : Int32 → Int32 → zS → Option (zS)} (hrec42 : ∀ (x3 : Int32) (x4 : Int32) (s : zS) (r : zS) (o1 : Option Value) (o2 : Option Value), rec42 x3 x4 s = some r → Ev X (D + 2) mm153 42 [some (.ref 22), o1, o2, some (.int x3), some (.int x4)] [] (mk s) (encV r)) (x3 : Int32) (x4 : Int32) (s : zS) (r : zS) (o1 : Option Value) (o2 : Option Value)  (h : b153_42 rec42 x3 x4 s = some r) : Ev X (D + 2) mm153 42 [some (.ref 22), o1, o2, some (.int x3), some (.int x4)] [] (mk s) (encV r) := by
  unfold b153_42 at h
  refine Ev.run (pc' := 44) (ls' := [some (.ref 22), o1, o2, some (.int x3), some (.int x4)]) (st' := [.int x4]) (h' := mk s) 1 rfl ?_
  refine Ev.if_le (t := 68) rfl rfl (fun hb => ?_) (fun hb => ?_)
  · have h := (if_pos hb).symm.trans h
    cases h
    exact Ev.fin rfl rfl
  · have h := (if_neg hb).symm.trans h
    refine Ev.run (pc' := 53) (ls' := [some (.ref 22), o1, o2, some (.int x3), some (.int x4)]) (st' := [.int (zi 13), .int x4, .int (zi 5), .ref 22]) (h' := mk s) 4 rfl ?_
    refine Ev.call (M' := mm265) (v := some (.int (r265 x4 (zi 13) s))) (h' := mk s) rfl rfl rfl (Nat.le_of_ble_eq_true rfl) (k265 (x0 := x4) (x1 := (zi 13)) (s := s) (v := r265 x4 (zi 13) s)  rfl) ?_
    obtain ⟨v2, s1, hq, h⟩ := zb1_some h
    refine Ev.call (M' := mm114) (v := some (.long v2)) (h' := mk s1) rfl rfl rfl (Nat.le_of_ble_eq_true rfl) (k114 hq) ?_
    obtain ⟨s3, hq, h⟩ := zb0_some h
    refine Ev.call (M' := mm155) (v := none) (h' := mk s3) rfl rfl rfl (Nat.le_of_ble_eq_true rfl) (k155 hq) ?_
    refine Ev.run (pc' := 42) (ls' := [some (.ref 22), o1, o2, some (.int x3), some (.int (x4 + zi (-13)))]) (st' := []) (h' := mk s3) 2 rfl ?_
    exact hrec42 x3 (x4 + zi (-13)) s3 _ _ _ h
def f153_42  : Nat → Int32 → Int32 → zS → Option (zS)
  | 0, _, _, _ => none
  | n + 1, x3, x4, s => b153_42 (f153_42 n) x3 x4 s
set_option maxRecDepth 100000 in
theorem k153_42 {X : mX} {D : Nat}   (n : Nat) : ∀ (x3 : Int32) (x4 : Int32) (s : zS) (r : zS) (o1 : Option Value) (o2 : Option Value), f153_42  n x3 x4 s = some r → Ev X (D + 2) mm153 42 [some (.ref 22), o1, o2, some (.int x3), some (.int x4)] [] (mk s) (encV r) := by
  induction n with
  | zero => intro x3 x4 s r o1 o2  h; cases h
  | succ n ih => intro x3 x4 s r o1 o2  h; exact kb153_42  ih x3 x4 s r o1 o2  h
def f153  (x1 : Int32) (s : zS) : Option (zS) := zb1 (f156 s) (fun v2 s1 => if (((((x1 * (zi 2322)) / (zi 1000)) + (zi 1)) + (zi 66)) - v2) ≤ zi 0 then f153_42 zF (((((x1 * (zi 2322)) / (zi 1000)) + (zi 1)) + (zi 66)) - v2) x1 s1 else zb0 (f154 ((((((((x1 * (zi 2322)) / (zi 1000)) + (zi 1)) + (zi 66)) - v2) + (zi 32)) - (zi 1)) / (zi 32)) s1) (fun s3 => f153_42 zF (((((x1 * (zi 2322)) / (zi 1000)) + (zi 1)) + (zi 66)) - v2) x1 s3))
set_option maxRecDepth 100000 in
theorem k153 {X : mX} {D : Nat} {x1 : Int32} {s : zS} {r : zS}  (h : f153 x1 s = some r) : Ev X (D + 2) mm153 0 [some (.ref 22), some (.int x1), none, none, none] [] (mk s) (encV r) := by
  unfold f153 at h
  refine Ev.run (pc' := 17) (ls' := [some (.ref 22), some (.int x1), some (.int (((x1 * (zi 2322)) / (zi 1000)) + (zi 1))), none, none]) (st' := [.ref 22, .int ((((x1 * (zi 2322)) / (zi 1000)) + (zi 1)) + (zi 66))]) (h' := mk s) 12 rfl ?_
  obtain ⟨v2, s1, hq, h⟩ := zb1_some h
  refine Ev.call (M' := mm156) (v := some (.int v2)) (h' := mk s1) rfl rfl rfl (Nat.le_of_ble_eq_true rfl) (k156 hq) ?_
  refine Ev.run (pc' := 23) (ls' := [some (.ref 22), some (.int x1), some (.int (((x1 * (zi 2322)) / (zi 1000)) + (zi 1))), some (.int (((((x1 * (zi 2322)) / (zi 1000)) + (zi 1)) + (zi 66)) - v2)), none]) (st' := [.int (((((x1 * (zi 2322)) / (zi 1000)) + (zi 1)) + (zi 66)) - v2)]) (h' := mk s1) 3 rfl ?_
  refine Ev.if_le (t := 39) rfl rfl (fun hb => ?_) (fun hb => ?_)
  · have h := (if_pos hb).symm.trans h
    refine Ev.run (pc' := 42) (ls' := [some (.ref 22), some (.int x1), some (.int (((x1 * (zi 2322)) / (zi 1000)) + (zi 1))), some (.int (((((x1 * (zi 2322)) / (zi 1000)) + (zi 1)) + (zi 66)) - v2)), some (.int x1)]) (st' := []) (h' := mk s1) 2 rfl ?_
    exact k153_42 zF (((((x1 * (zi 2322)) / (zi 1000)) + (zi 1)) + (zi 66)) - v2) x1 s1 _ _ _ h
  · have h := (if_neg hb).symm.trans h
    refine Ev.run (pc' := 36) (ls' := [some (.ref 22), some (.int x1), some (.int (((x1 * (zi 2322)) / (zi 1000)) + (zi 1))), some (.int (((((x1 * (zi 2322)) / (zi 1000)) + (zi 1)) + (zi 66)) - v2)), none]) (st' := [.int ((((((((x1 * (zi 2322)) / (zi 1000)) + (zi 1)) + (zi 66)) - v2) + (zi 32)) - (zi 1)) / (zi 32)), .ref 22]) (h' := mk s1) 8 rfl ?_
    obtain ⟨s3, hq, h⟩ := zb0_some h
    refine Ev.call (M' := mm154) (v := none) (h' := mk s3) rfl rfl rfl (Nat.le_of_ble_eq_true rfl) (k154 hq) ?_
    refine Ev.run (pc' := 42) (ls' := [some (.ref 22), some (.int x1), some (.int (((x1 * (zi 2322)) / (zi 1000)) + (zi 1))), some (.int (((((x1 * (zi 2322)) / (zi 1000)) + (zi 1)) + (zi 66)) - v2)), some (.int x1)]) (st' := []) (h' := mk s3) 2 rfl ?_
    exact k153_42 zF (((((x1 * (zi 2322)) / (zi 1000)) + (zi 1)) + (zi 66)) - v2) x1 s3 _ _ _ h
/-! 152 F$Binary.multiplyByFives(I)V -/
def b152_2 (rec2 : Int32 → Int32 → zS → Option (zS)) (x1 : Int32) (x2 : Int32) (s : zS) : Option (zS) := if x2 ≤ zi 0 then some s else zb1 (f114 (zi 5) (r265 x2 (zi 13) s) s) (fun v2 s1 => zb0 (f151 v2 (zl 0) s1) (fun s3 => rec2 x1 (x2 + zi (-13)) s3))
set_option maxRecDepth 100000 in
theorem kb152_2 {X : mX} {D : Nat} {rec2 : Int32 → Int32 → zS → Option (zS)} (hrec2 : ∀ (x1 : Int32) (x2 : Int32) (s : zS) (r : zS) , rec2 x1 x2 s = some r → Ev X (D + 1) mm152 2 [some (.ref 22), some (.int x1), some (.int x2)] [] (mk s) (encV r)) (x1 : Int32) (x2 : Int32) (s : zS) (r : zS)   (h : b152_2 rec2 x1 x2 s = some r) : Ev X (D + 1) mm152 2 [some (.ref 22), some (.int x1), some (.int x2)] [] (mk s) (encV r) := by
  unfold b152_2 at h
  refine Ev.run (pc' := 3) (ls' := [some (.ref 22), some (.int x1), some (.int x2)]) (st' := [.int x2]) (h' := mk s) 1 rfl ?_
  refine Ev.if_le (t := 27) rfl rfl (fun hb => ?_) (fun hb => ?_)
  · have h := (if_pos hb).symm.trans h
    cases h
    exact Ev.fin rfl rfl
  · have h := (if_neg hb).symm.trans h
    refine Ev.run (pc' := 11) (ls' := [some (.ref 22), some (.int x1), some (.int x2)]) (st' := [.int (zi 13), .int x2, .int (zi 5), .ref 22]) (h' := mk s) 4 rfl ?_
    refine Ev.call (M' := mm265) (v := some (.int (r265 x2 (zi 13) s))) (h' := mk s) rfl rfl rfl (Nat.le_of_ble_eq_true rfl) (k265 (x0 := x2) (x1 := (zi 13)) (s := s) (v := r265 x2 (zi 13) s)  rfl) ?_
    obtain ⟨v2, s1, hq, h⟩ := zb1_some h
    refine Ev.call (M' := mm114) (v := some (.long v2)) (h' := mk s1) rfl rfl rfl (Nat.le_of_ble_eq_true rfl) (k114 hq) ?_
    refine Ev.run (pc' := 18) (ls' := [some (.ref 22), some (.int x1), some (.int x2)]) (st' := [.long (zl 0), .long v2, .ref 22]) (h' := mk s1) 1 rfl ?_
    obtain ⟨s3, hq, h⟩ := zb0_some h
    refine Ev.call (M' := mm151) (v := none) (h' := mk s3) rfl rfl rfl (Nat.le_of_ble_eq_true rfl) (k151 hq) ?_
    refine Ev.run (pc' := 2) (ls' := [some (.ref 22), some (.int x1), some (.int (x2 + zi (-13)))]) (st' := []) (h' := mk s3) 2 rfl ?_
    exact hrec2 x1 (x2 + zi (-13)) s3 _ h
def f152_2  : Nat → Int32 → Int32 → zS → Option (zS)
  | 0, _, _, _ => none
  | n + 1, x1, x2, s => b152_2 (f152_2 n) x1 x2 s
set_option maxRecDepth 100000 in
theorem k152_2 {X : mX} {D : Nat}   (n : Nat) : ∀ (x1 : Int32) (x2 : Int32) (s : zS) (r : zS) , f152_2  n x1 x2 s = some r → Ev X (D + 1) mm152 2 [some (.ref 22), some (.int x1), some (.int x2)] [] (mk s) (encV r) := by
  induction n with
  | zero => intro x1 x2 s r   h; cases h
  | succ n ih => intro x1 x2 s r   h; exact kb152_2  ih x1 x2 s r   h
def f152  (x1 : Int32) (s : zS) : Option (zS) := f152_2 zF x1 x1 s
set_option maxRecDepth 100000 in
theorem k152 {X : mX} {D : Nat} {x1 : Int32} {s : zS} {r : zS}  (h : f152 x1 s = some r) : Ev X (D + 1) mm152 0 [some (.ref 22), some (.int x1), none] [] (mk s) (encV r) := by
  unfold f152 at h
  refine Ev.run (pc' := 2) (ls' := [some (.ref 22), some (.int x1), some (.int x1)]) (st' := []) (h' := mk s) 2 rfl ?_
  exact k152_2 zF x1 x1 s _ h
/-! 146 F$NumberReader.valueOfTens()J -/
def f146_72  (x1 : Int32) (s : zS) : Option (Int64 × zS) := zb1 (f159 x1 (s.1 21 2) s) (fun v2 s1 => some (v2, s1))
set_option maxRecDepth 100000 in
theorem k146_72 {X : mX} {D : Nat}   (x1 : Int32) (s : zS) (r : Int64 × zS) (o2 : Option Value)  (h : f146_72  x1 s = some r) : Ev X (D + 3) mm146 72 [some (.ref 21), some (.int x1), o2] [] (mk s) (encL r) := by
  unfold f146_72 at h
  refine Ev.run (pc' := 81) (ls' := [some (.ref 21), some (.int x1), o2]) (st' := [.int (s.1 21 2), .int x1, .ref 22]) (h' := mk s) 5 rfl ?_
  obtain ⟨v2, s1, hq, h⟩ := zb1_some h
  refine Ev.call (M' := mm159) (v := some (.long v2)) (h' := mk s1) rfl rfl rfl (Nat.le_of_ble_eq_true rfl) (k159 hq) ?_
  cases h
  exact Ev.fin rfl rfl
def f146   (s : zS) : Option (Int64 × zS) := if (s.1 21 8) = zi 0 then some (zl 0, s) else if ((s.1 21 8) + ((s.1 21 9) - (s.1 21 7))) ≥ (zi (-400)) then if ((s.1 21 8) + ((s.1 21 9) - (s.1 21 7))) ≤ (zi 400) then if ((s.1 21 9) - (s.1 21 7)) ≥ zi 0 then zb0 (f152 ((s.1 21 9) - (s.1 21 7)) s) (fun s1 => f146_72 ((s.1 21 9) - (s.1 21 7)) s1) else zb0 (f153 (-((s.1 21 9) - (s.1 21 7))) s) (fun s2 => f146_72 ((s.1 21 9) - (s.1 21 7)) s2) else some (r149 (s.1 21 2) s, s) else some (zl 0, s)
set_option maxRecDepth 100000 in
theorem k146 {X : mX} {D : Nat}  {s : zS} {r : Int64 × zS}  (h : f146  s = some r) : Ev X (D + 3) mm146 0 [some (.ref 21), none, none] [] (mk s) (encL r) := by
  unfold f146 at h
  refine Ev.run (pc' := 21) (ls' := [some (.ref 21), some (.int ((s.1 21 9) - (s.1 21 7))), some (.int ((s.1 21 8) + ((s.1 21 9) - (s.1 21 7))))]) (st' := [.int (s.1 21 8)]) (h' := mk s) 13 rfl ?_
  refine Ev.if_eq (t := 31) rfl rfl (fun hb => ?_) (fun hb => ?_)
  · have h := (if_pos hb).symm.trans h
    refine Ev.run (pc' := 32) (ls' := [some (.ref 21), some (.int ((s.1 21 9) - (s.1 21 7))), some (.int ((s.1 21 8) + ((s.1 21 9) - (s.1 21 7))))]) (st' := [.long (zl 0)]) (h' := mk s) 1 rfl ?_
    cases h
    exact Ev.fin rfl rfl
  · have h := (if_neg hb).symm.trans h
    refine Ev.run (pc' := 28) (ls' := [some (.ref 21), some (.int ((s.1 21 9) - (s.1 21 7))), some (.int ((s.1 21 8) + ((s.1 21 9) - (s.1 21 7))))]) (st' := [.int (zi (-400)), .int ((s.1 21 8) + ((s.1 21 9) - (s.1 21 7)))]) (h' := mk s) 2 rfl ?_
    refine Ev.icmp_ge (t := 33) rfl rfl (fun hb => ?_) (fun hb => ?_)
    · have h := (if_pos hb).symm.trans h
      refine Ev.run (pc' := 37) (ls' := [some (.ref 21), some (.int ((s.1 21 9) - (s.1 21 7))), some (.int ((s.1 21 8) + ((s.1 21 9) - (s.1 21 7))))]) (st' := [.int (zi 400), .int ((s.1 21 8) + ((s.1 21 9) - (s.1 21 7)))]) (h' := mk s) 2 rfl ?_
      refine Ev.icmp_le (t := 48) rfl rfl (fun hb => ?_) (fun hb => ?_)
      · have h := (if_pos hb).symm.trans h
        refine Ev.run (pc' := 49) (ls' := [some (.ref 21), some (.int ((s.1 21 9) - (s.1 21 7))), some (.int ((s.1 21 8) + ((s.1 21 9) - (s.1 21 7))))]) (st' := [.int ((s.1 21 9) - (s.1 21 7))]) (h' := mk s) 1 rfl ?_
        refine Ev.if_ge (t := 64) rfl rfl (fun hb => ?_) (fun hb => ?_)
        · have h := (if_pos hb).symm.trans h
          refine Ev.run (pc' := 69) (ls' := [some (.ref 21), some (.int ((s.1 21 9) - (s.1 21 7))), some (.int ((s.1 21 8) + ((s.1 21 9) - (s.1 21 7))))]) (st' := [.int ((s.1 21 9) - (s.1 21 7)), .ref 22]) (h' := mk s) 3 rfl ?_
          obtain ⟨s1, hq, h⟩ := zb0_some h
          refine Ev.call (M' := mm152) (v := none) (h' := mk s1) rfl rfl rfl (Nat.le_of_ble_eq_true rfl) (k152 hq) ?_
          exact k146_72 ((s.1 21 9) - (s.1 21 7)) s1 _ _ h
        · have h := (if_neg hb).symm.trans h
          refine Ev.run (pc' := 58) (ls' := [some (.ref 21), some (.int ((s.1 21 9) - (s.1 21 7))), some (.int ((s.1 21 8) + ((s.1 21 9) - (s.1 21 7))))]) (st' := [.int (-((s.1 21 9) - (s.1 21 7))), .ref 22]) (h' := mk s) 4 rfl ?_
          obtain ⟨s2, hq, h⟩ := zb0_some h
          refine Ev.call (M' := mm153) (v := none) (h' := mk s2) rfl rfl rfl (Nat.le_of_ble_eq_true rfl) (k153 hq) ?_
          refine Ev.run (pc' := 72) (ls' := [some (.ref 21), some (.int ((s.1 21 9) - (s.1 21 7))), some (.int ((s.1 21 8) + ((s.1 21 9) - (s.1 21 7))))]) (st' := []) (h' := mk s2) 1 rfl ?_
          exact k146_72 ((s.1 21 9) - (s.1 21 7)) s2 _ _ h
      · have h := (if_neg hb).symm.trans h
        refine Ev.run (pc' := 44) (ls' := [some (.ref 21), some (.int ((s.1 21 9) - (s.1 21 7))), some (.int ((s.1 21 8) + ((s.1 21 9) - (s.1 21 7))))]) (st' := [.int (s.1 21 2)]) (h' := mk s) 2 rfl ?_
        refine Ev.call (M' := mm149) (v := some (.long (r149 (s.1 21 2) s))) (h' := mk s) rfl rfl rfl (Nat.le_of_ble_eq_true rfl) (k149 (x0 := (s.1 21 2)) (s := s) (v := r149 (s.1 21 2) s)  rfl) ?_
        cases h
        exact Ev.fin rfl rfl
    · have h := (if_neg hb).symm.trans h
      refine Ev.run (pc' := 32) (ls' := [some (.ref 21), some (.int ((s.1 21 9) - (s.1 21 7))), some (.int ((s.1 21 8) + ((s.1 21 9) - (s.1 21 7))))]) (st' := [.long (zl 0)]) (h' := mk s) 1 rfl ?_
      cases h
      exact Ev.fin rfl rfl
