/-! decompiled methods, 7; printed by wip/gen/gen8.py -/
/-! 234 FModel$Decimal.set(JI)V -/
def b234_27 (aa : Nat) (rec27 : Int32 → Int32 → zS → Option (zS)) (x3 : Int32) (x4 : Int32) (s : zS) : Option (zS) := if x4 ≤ x3 then some s else zb0 (f233 aa s) (fun s1 => rec27 x3 (x4 + zi (-1)) s1)
set_option maxRecDepth 100000 in
theorem kb234_27 {X : mX} {D : Nat} {aa : Nat} {rec27 : Int32 → Int32 → zS → Option (zS)} (haa : zMdec aa) (hrec27 : ∀ (x3 : Int32) (x4 : Int32) (s : zS) (r : zS) (o1 : Option Value) (o2 : Option Value), rec27 x3 x4 s = some r → Ev X (D + 2) mm234 27 [some (.ref aa), o1, o2, some (.int x3), some (.int x4)] [] (mk s) (encV r)) (x3 : Int32) (x4 : Int32) (s : zS) (r : zS) (o1 : Option Value) (o2 : Option Value)  (h : b234_27 aa rec27 x3 x4 s = some r) : Ev X (D + 2) mm234 27 [some (.ref aa), o1, o2, some (.int x3), some (.int x4)] [] (mk s) (encV r) := by
  rcases haa with rfl | rfl | rfl
  · unfold b234_27 at h
    refine Ev.run (pc' := 30) (ls' := [some (.ref 32), o1, o2, some (.int x3), some (.int x4)]) (st' := [.int x3, .int x4]) (h' := mk s) 2 rfl ?_
    refine Ev.icmp_le (t := 43) rfl rfl (fun hb => ?_) (fun hb => ?_)
    · have h := (if_pos hb).symm.trans h
      first | (obtain rfl := Option.some.inj h) | (cases h)
      exact Ev.fin rfl rfl
    · have h := (if_neg hb).symm.trans h
      refine Ev.run (pc' := 34) (ls' := [some (.ref 32), o1, o2, some (.int x3), some (.int x4)]) (st' := [.ref 32]) (h' := mk s) 1 rfl ?_
      obtain ⟨s1, hq, h⟩ := zb0_some h
      refine Ev.call (M' := mm233) (v := none) (h' := mk s1) rfl rfl rfl (Nat.le_of_ble_eq_true rfl) (k233 (by decide) hq) ?_
      refine Ev.run (pc' := 27) (ls' := [some (.ref 32), o1, o2, some (.int x3), some (.int (x4 + zi (-1)))]) (st' := []) (h' := mk s1) 2 rfl ?_
      exact hrec27 x3 (x4 + zi (-1)) s1 _ _ _ h
  · unfold b234_27 at h
    refine Ev.run (pc' := 30) (ls' := [some (.ref 34), o1, o2, some (.int x3), some (.int x4)]) (st' := [.int x3, .int x4]) (h' := mk s) 2 rfl ?_
    refine Ev.icmp_le (t := 43) rfl rfl (fun hb => ?_) (fun hb => ?_)
    · have h := (if_pos hb).symm.trans h
      first | (obtain rfl := Option.some.inj h) | (cases h)
      exact Ev.fin rfl rfl
    · have h := (if_neg hb).symm.trans h
      refine Ev.run (pc' := 34) (ls' := [some (.ref 34), o1, o2, some (.int x3), some (.int x4)]) (st' := [.ref 34]) (h' := mk s) 1 rfl ?_
      obtain ⟨s1, hq, h⟩ := zb0_some h
      refine Ev.call (M' := mm233) (v := none) (h' := mk s1) rfl rfl rfl (Nat.le_of_ble_eq_true rfl) (k233 (by decide) hq) ?_
      refine Ev.run (pc' := 27) (ls' := [some (.ref 34), o1, o2, some (.int x3), some (.int (x4 + zi (-1)))]) (st' := []) (h' := mk s1) 2 rfl ?_
      exact hrec27 x3 (x4 + zi (-1)) s1 _ _ _ h
  · unfold b234_27 at h
    refine Ev.run (pc' := 30) (ls' := [some (.ref 36), o1, o2, some (.int x3), some (.int x4)]) (st' := [.int x3, .int x4]) (h' := mk s) 2 rfl ?_
    refine Ev.icmp_le (t := 43) rfl rfl (fun hb => ?_) (fun hb => ?_)
    · have h := (if_pos hb).symm.trans h
      first | (obtain rfl := Option.some.inj h) | (cases h)
      exact Ev.fin rfl rfl
    · have h := (if_neg hb).symm.trans h
      refine Ev.run (pc' := 34) (ls' := [some (.ref 36), o1, o2, some (.int x3), some (.int x4)]) (st' := [.ref 36]) (h' := mk s) 1 rfl ?_
      obtain ⟨s1, hq, h⟩ := zb0_some h
      refine Ev.call (M' := mm233) (v := none) (h' := mk s1) rfl rfl rfl (Nat.le_of_ble_eq_true rfl) (k233 (by decide) hq) ?_
      refine Ev.run (pc' := 27) (ls' := [some (.ref 36), o1, o2, some (.int x3), some (.int (x4 + zi (-1)))]) (st' := []) (h' := mk s1) 2 rfl ?_
      exact hrec27 x3 (x4 + zi (-1)) s1 _ _ _ h
def f234_27 (aa : Nat)  : Nat → Int32 → Int32 → zS → Option (zS)
  | 0, _, _, _ => none
  | n + 1, x3, x4, s => b234_27 aa (f234_27 aa n) x3 x4 s
set_option maxRecDepth 100000 in
theorem k234_27 {X : mX} {D : Nat} {aa : Nat}  (haa : zMdec aa)  (n : Nat) : ∀ (x3 : Int32) (x4 : Int32) (s : zS) (r : zS) (o1 : Option Value) (o2 : Option Value), f234_27 aa  n x3 x4 s = some r → Ev X (D + 2) mm234 27 [some (.ref aa), o1, o2, some (.int x3), some (.int x4)] [] (mk s) (encV r) := by
  induction n with
  | zero => intro x3 x4 s r o1 o2  h; cases h
  | succ n ih => intro x3 x4 s r o1 o2  h; exact kb234_27 haa ih x3 x4 s r o1 o2  h
def b234_8 (aa : Nat) (rec8 : Int32 → Int32 → zS → Option (zS)) (x3 : Int32) (x4 : Int32) (s : zS) : Option (zS) := if x4 ≥ x3 then f234_27 aa zF x3 (zi 0) s else zb0 (f232 aa s) (fun s1 => rec8 x3 (x4 + zi 1) s1)
set_option maxRecDepth 100000 in
theorem kb234_8 {X : mX} {D : Nat} {aa : Nat} {rec8 : Int32 → Int32 → zS → Option (zS)} (haa : zMdec aa) (hrec8 : ∀ (x3 : Int32) (x4 : Int32) (s : zS) (r : zS) (o1 : Option Value) (o2 : Option Value), rec8 x3 x4 s = some r → Ev X (D + 2) mm234 8 [some (.ref aa), o1, o2, some (.int x3), some (.int x4)] [] (mk s) (encV r)) (x3 : Int32) (x4 : Int32) (s : zS) (r : zS) (o1 : Option Value) (o2 : Option Value)  (h : b234_8 aa rec8 x3 x4 s = some r) : Ev X (D + 2) mm234 8 [some (.ref aa), o1, o2, some (.int x3), some (.int x4)] [] (mk s) (encV r) := by
  rcases haa with rfl | rfl | rfl
  · unfold b234_8 at h
    refine Ev.run (pc' := 11) (ls' := [some (.ref 32), o1, o2, some (.int x3), some (.int x4)]) (st' := [.int x3, .int x4]) (h' := mk s) 2 rfl ?_
    refine Ev.icmp_ge (t := 24) rfl rfl (fun hb => ?_) (fun hb => ?_)
    · have h := (if_pos hb).symm.trans h
      refine Ev.run (pc' := 27) (ls' := [some (.ref 32), o1, o2, some (.int x3), some (.int (zi 0))]) (st' := []) (h' := mk s) 2 rfl ?_
      exact k234_27 (by decide) zF x3 (zi 0) s _ _ _ h
    · have h := (if_neg hb).symm.trans h
      refine Ev.run (pc' := 15) (ls' := [some (.ref 32), o1, o2, some (.int x3), some (.int x4)]) (st' := [.ref 32]) (h' := mk s) 1 rfl ?_
      obtain ⟨s1, hq, h⟩ := zb0_some h
      refine Ev.call (M' := mm232) (v := none) (h' := mk s1) rfl rfl rfl (Nat.le_of_ble_eq_true rfl) (k232 (by decide) hq) ?_
      refine Ev.run (pc' := 8) (ls' := [some (.ref 32), o1, o2, some (.int x3), some (.int (x4 + zi 1))]) (st' := []) (h' := mk s1) 2 rfl ?_
      exact hrec8 x3 (x4 + zi 1) s1 _ _ _ h
  · unfold b234_8 at h
    refine Ev.run (pc' := 11) (ls' := [some (.ref 34), o1, o2, some (.int x3), some (.int x4)]) (st' := [.int x3, .int x4]) (h' := mk s) 2 rfl ?_
    refine Ev.icmp_ge (t := 24) rfl rfl (fun hb => ?_) (fun hb => ?_)
    · have h := (if_pos hb).symm.trans h
      refine Ev.run (pc' := 27) (ls' := [some (.ref 34), o1, o2, some (.int x3), some (.int (zi 0))]) (st' := []) (h' := mk s) 2 rfl ?_
      exact k234_27 (by decide) zF x3 (zi 0) s _ _ _ h
    · have h := (if_neg hb).symm.trans h
      refine Ev.run (pc' := 15) (ls' := [some (.ref 34), o1, o2, some (.int x3), some (.int x4)]) (st' := [.ref 34]) (h' := mk s) 1 rfl ?_
      obtain ⟨s1, hq, h⟩ := zb0_some h
      refine Ev.call (M' := mm232) (v := none) (h' := mk s1) rfl rfl rfl (Nat.le_of_ble_eq_true rfl) (k232 (by decide) hq) ?_
      refine Ev.run (pc' := 8) (ls' := [some (.ref 34), o1, o2, some (.int x3), some (.int (x4 + zi 1))]) (st' := []) (h' := mk s1) 2 rfl ?_
      exact hrec8 x3 (x4 + zi 1) s1 _ _ _ h
  · unfold b234_8 at h
    refine Ev.run (pc' := 11) (ls' := [some (.ref 36), o1, o2, some (.int x3), some (.int x4)]) (st' := [.int x3, .int x4]) (h' := mk s) 2 rfl ?_
    refine Ev.icmp_ge (t := 24) rfl rfl (fun hb => ?_) (fun hb => ?_)
    · have h := (if_pos hb).symm.trans h
      refine Ev.run (pc' := 27) (ls' := [some (.ref 36), o1, o2, some (.int x3), some (.int (zi 0))]) (st' := []) (h' := mk s) 2 rfl ?_
      exact k234_27 (by decide) zF x3 (zi 0) s _ _ _ h
    · have h := (if_neg hb).symm.trans h
      refine Ev.run (pc' := 15) (ls' := [some (.ref 36), o1, o2, some (.int x3), some (.int x4)]) (st' := [.ref 36]) (h' := mk s) 1 rfl ?_
      obtain ⟨s1, hq, h⟩ := zb0_some h
      refine Ev.call (M' := mm232) (v := none) (h' := mk s1) rfl rfl rfl (Nat.le_of_ble_eq_true rfl) (k232 (by decide) hq) ?_
      refine Ev.run (pc' := 8) (ls' := [some (.ref 36), o1, o2, some (.int x3), some (.int (x4 + zi 1))]) (st' := []) (h' := mk s1) 2 rfl ?_
      exact hrec8 x3 (x4 + zi 1) s1 _ _ _ h
def f234_8 (aa : Nat)  : Nat → Int32 → Int32 → zS → Option (zS)
  | 0, _, _, _ => none
  | n + 1, x3, x4, s => b234_8 aa (f234_8 aa n) x3 x4 s
set_option maxRecDepth 100000 in
theorem k234_8 {X : mX} {D : Nat} {aa : Nat}  (haa : zMdec aa)  (n : Nat) : ∀ (x3 : Int32) (x4 : Int32) (s : zS) (r : zS) (o1 : Option Value) (o2 : Option Value), f234_8 aa  n x3 x4 s = some r → Ev X (D + 2) mm234 8 [some (.ref aa), o1, o2, some (.int x3), some (.int x4)] [] (mk s) (encV r) := by
  induction n with
  | zero => intro x3 x4 s r o1 o2  h; cases h
  | succ n ih => intro x3 x4 s r o1 o2  h; exact kb234_8 haa ih x3 x4 s r o1 o2  h
def f234 (aa : Nat)  (x1 : Int64) (x3 : Int32) (s : zS) : Option (zS) := zb0 (f231 aa x1 s) (fun s1 => f234_8 aa zF x3 (zi 0) s1)
set_option maxRecDepth 100000 in
theorem k234 {X : mX} {D : Nat} {aa : Nat} {x1 : Int64} {x3 : Int32} {s : zS} {r : zS} (haa : zMdec aa)  (h : f234 aa x1 x3 s = some r) : Ev X (D + 2) mm234 0 [some (.ref aa), some (.long x1), none, some (.int x3), none] [] (mk s) (encV r) := by
  rcases haa with rfl | rfl | rfl
  · unfold f234 at h
    refine Ev.run (pc' := 2) (ls' := [some (.ref 32), some (.long x1), none, some (.int x3), none]) (st' := [.long x1, .ref 32]) (h' := mk s) 2 rfl ?_
    obtain ⟨s1, hq, h⟩ := zb0_some h
    refine Ev.call (M' := mm231) (v := none) (h' := mk s1) rfl rfl rfl (Nat.le_of_ble_eq_true rfl) (k231 (by decide) hq) ?_
    refine Ev.run (pc' := 8) (ls' := [some (.ref 32), some (.long x1), none, some (.int x3), some (.int (zi 0))]) (st' := []) (h' := mk s1) 2 rfl ?_
    exact k234_8 (by decide) zF x3 (zi 0) s1 _ _ _ h
  · unfold f234 at h
    refine Ev.run (pc' := 2) (ls' := [some (.ref 34), some (.long x1), none, some (.int x3), none]) (st' := [.long x1, .ref 34]) (h' := mk s) 2 rfl ?_
    obtain ⟨s1, hq, h⟩ := zb0_some h
    refine Ev.call (M' := mm231) (v := none) (h' := mk s1) rfl rfl rfl (Nat.le_of_ble_eq_true rfl) (k231 (by decide) hq) ?_
    refine Ev.run (pc' := 8) (ls' := [some (.ref 34), some (.long x1), none, some (.int x3), some (.int (zi 0))]) (st' := []) (h' := mk s1) 2 rfl ?_
    exact k234_8 (by decide) zF x3 (zi 0) s1 _ _ _ h
  · unfold f234 at h
    refine Ev.run (pc' := 2) (ls' := [some (.ref 36), some (.long x1), none, some (.int x3), none]) (st' := [.long x1, .ref 36]) (h' := mk s) 2 rfl ?_
    obtain ⟨s1, hq, h⟩ := zb0_some h
    refine Ev.call (M' := mm231) (v := none) (h' := mk s1) rfl rfl rfl (Nat.le_of_ble_eq_true rfl) (k231 (by decide) hq) ?_
    refine Ev.run (pc' := 8) (ls' := [some (.ref 36), some (.long x1), none, some (.int x3), some (.int (zi 0))]) (st' := []) (h' := mk s1) 2 rfl ?_
    exact k234_8 (by decide) zF x3 (zi 0) s1 _ _ _ h
/-! 172 FModel.cut(I)V -/
def b172_25 (rec25 : Int32 → Int32 → zS → Option (zS)) (x1 : Int32) (x2 : Int32) (s : zS) : Option (zS) := if x2 ≥ (s.1 24 28) then some s else zb1 (f235 32 ((s.1 24 27) - x2) s) (fun v2 s1 => if mIx x2 2400 then rec25 x1 (x2 + zi 1) (setB s1 38 x2.toNatClampNeg (zI2B (zI2B v2))) else none)
set_option maxRecDepth 100000 in
theorem kb172_25 {X : mX} {D : Nat} {rec25 : Int32 → Int32 → zS → Option (zS)} (hrec25 : ∀ (x1 : Int32) (x2 : Int32) (s : zS) (r : zS) , rec25 x1 x2 s = some r → Ev X (D + 2) mm172 25 [some (.ref 24), some (.int x1), some (.int x2)] [] (mk s) (encV r)) (x1 : Int32) (x2 : Int32) (s : zS) (r : zS)   (h : b172_25 rec25 x1 x2 s = some r) : Ev X (D + 2) mm172 25 [some (.ref 24), some (.int x1), some (.int x2)] [] (mk s) (encV r) := by
  unfold b172_25 at h
  refine Ev.run (pc' := 30) (ls' := [some (.ref 24), some (.int x1), some (.int x2)]) (st' := [.int (s.1 24 28), .int x2]) (h' := mk s) 3 rfl ?_
  refine Ev.icmp_ge (t := 59) rfl rfl (fun hb => ?_) (fun hb => ?_)
  · have h := (if_pos hb).symm.trans h
    first | (obtain rfl := Option.some.inj h) | (cases h)
    exact Ev.fin rfl rfl
  · have h := (if_neg hb).symm.trans h
    refine Ev.run (pc' := 48) (ls' := [some (.ref 24), some (.int x1), some (.int x2)]) (st' := [.int ((s.1 24 27) - x2), .ref 32, .int x2, .ref 38]) (h' := mk s) 9 rfl ?_
    obtain ⟨v2, s1, hq, h⟩ := zb1_some h
    refine Ev.call (M' := mm235) (v := some (.int v2)) (h' := mk s1) rfl rfl rfl (Nat.le_of_ble_eq_true rfl) (k235 (by decide) hq) ?_
    refine Ev.run (pc' := 52) (ls' := [some (.ref 24), some (.int x1), some (.int x2)]) (st' := [.int (zI2B v2), .int x2, .ref 38]) (h' := mk s1) 1 rfl ?_
    obtain ⟨hx, h⟩ := zif h
    refine Ev.step (pc' := 53) rfl (ast_38 hx) ?_
    refine Ev.run (pc' := 25) (ls' := [some (.ref 24), some (.int x1), some (.int (x2 + zi 1))]) (st' := []) (h' := mk (setB s1 38 x2.toNatClampNeg (zI2B (zI2B v2)))) 2 rfl ?_
    exact hrec25 x1 (x2 + zi 1) (setB s1 38 x2.toNatClampNeg (zI2B (zI2B v2))) _ h
def f172_25  : Nat → Int32 → Int32 → zS → Option (zS)
  | 0, _, _, _ => none
  | n + 1, x1, x2, s => b172_25 (f172_25 n) x1 x2 s
set_option maxRecDepth 100000 in
theorem k172_25 {X : mX} {D : Nat}   (n : Nat) : ∀ (x1 : Int32) (x2 : Int32) (s : zS) (r : zS) , f172_25  n x1 x2 s = some r → Ev X (D + 2) mm172 25 [some (.ref 24), some (.int x1), some (.int x2)] [] (mk s) (encV r) := by
  induction n with
  | zero => intro x1 x2 s r   h; cases h
  | succ n ih => intro x1 x2 s r   h; exact kb172_25  ih x1 x2 s r   h
def f172  (x1 : Int32) (s : zS) : Option (zS) := zb1 (f237 32 s) (fun v2 s1 => f172_25 zF x1 (zi 0) (setI (setI s1 24 27 v2) 24 28 ((v2 - x1) + (zi 1))))
set_option maxRecDepth 100000 in
theorem k172 {X : mX} {D : Nat} {x1 : Int32} {s : zS} {r : zS}  (h : f172 x1 s = some r) : Ev X (D + 2) mm172 0 [some (.ref 24), some (.int x1), none] [] (mk s) (encV r) := by
  unfold f172 at h
  refine Ev.run (pc' := 5) (ls' := [some (.ref 24), some (.int x1), none]) (st' := [.ref 32, .ref 24]) (h' := mk s) 3 rfl ?_
  obtain ⟨v2, s1, hq, h⟩ := zb1_some h
  refine Ev.call (M' := mm237) (v := some (.int v2)) (h' := mk s1) rfl rfl rfl (Nat.le_of_ble_eq_true rfl) (k237 (by decide) hq) ?_
  refine Ev.step (pc' := 11) rfl (put_12_27 rfl) ?_
  refine Ev.run (pc' := 20) (ls' := [some (.ref 24), some (.int x1), none]) (st' := [.int ((v2 - x1) + (zi 1)), .ref 24]) (h' := mk (setI s1 24 27 v2)) 7 rfl ?_
  refine Ev.step (pc' := 23) rfl (put_12_28 rfl) ?_
  refine Ev.run (pc' := 25) (ls' := [some (.ref 24), some (.int x1), some (.int (zi 0))]) (st' := []) (h' := mk (setI (setI s1 24 27 v2) 24 28 ((v2 - x1) + (zi 1)))) 2 rfl ?_
  exact k172_25 zF x1 (zi 0) (setI (setI s1 24 27 v2) 24 28 ((v2 - x1) + (zi 1))) _ h
/-! 238 FModel$Decimal.low()I -/
def r238 (aa : Nat)  (s : zS) : Int32 := (zi 9) * ((zi 45) - (r264 (s.1 aa 2) (zi 45) s))
set_option maxRecDepth 100000 in
theorem k238 {X : mX} {D : Nat} {aa : Nat}  {s : zS} (haa : zMdec aa) {v : Int32} (h : r238 aa  s = v) : Ev X (D + 1) mm238 0 [some (.ref aa)] [] (mk s) (encI (v, s)) := by
  rcases haa with rfl | rfl | rfl
  · unfold r238 at h
    refine Ev.run (pc' := 10) (ls' := [some (.ref 32)]) (st' := [.int (zi 45), .int (s.1 32 2), .int (zi 45), .int (zi 9)]) (h' := mk s) 5 rfl ?_
    refine Ev.call (M' := mm264) (v := some (.int (r264 (s.1 32 2) (zi 45) s))) (h' := mk s) rfl rfl rfl (Nat.le_of_ble_eq_true rfl) (k264 (x0 := (s.1 32 2)) (x1 := (zi 45)) (s := s) (v := r264 (s.1 32 2) (zi 45) s)  rfl) ?_
    refine Ev.run (pc' := 15) (ls' := [some (.ref 32)]) (st' := [.int ((zi 9) * ((zi 45) - (r264 (s.1 32 2) (zi 45) s)))]) (h' := mk s) 2 rfl ?_
    subst h
    exact Ev.fin rfl rfl
  · unfold r238 at h
    refine Ev.run (pc' := 10) (ls' := [some (.ref 34)]) (st' := [.int (zi 45), .int (s.1 34 2), .int (zi 45), .int (zi 9)]) (h' := mk s) 5 rfl ?_
    refine Ev.call (M' := mm264) (v := some (.int (r264 (s.1 34 2) (zi 45) s))) (h' := mk s) rfl rfl rfl (Nat.le_of_ble_eq_true rfl) (k264 (x0 := (s.1 34 2)) (x1 := (zi 45)) (s := s) (v := r264 (s.1 34 2) (zi 45) s)  rfl) ?_
    refine Ev.run (pc' := 15) (ls' := [some (.ref 34)]) (st' := [.int ((zi 9) * ((zi 45) - (r264 (s.1 34 2) (zi 45) s)))]) (h' := mk s) 2 rfl ?_
    subst h
    exact Ev.fin rfl rfl
  · unfold r238 at h
    refine Ev.run (pc' := 10) (ls' := [some (.ref 36)]) (st' := [.int (zi 45), .int (s.1 36 2), .int (zi 45), .int (zi 9)]) (h' := mk s) 5 rfl ?_
    refine Ev.call (M' := mm264) (v := some (.int (r264 (s.1 36 2) (zi 45) s))) (h' := mk s) rfl rfl rfl (Nat.le_of_ble_eq_true rfl) (k264 (x0 := (s.1 36 2)) (x1 := (zi 45)) (s := s) (v := r264 (s.1 36 2) (zi 45) s)  rfl) ?_
    refine Ev.run (pc' := 15) (ls' := [some (.ref 36)]) (st' := [.int ((zi 9) * ((zi 45) - (r264 (s.1 36 2) (zi 45) s)))]) (h' := mk s) 2 rfl ?_
    subst h
    exact Ev.fin rfl rfl
/-! 239 FModel$Decimal.isBelow(I)Z -/
def b239_4 (aa : Nat) (rec4 : Int32 → Int32 → zS → Option (Int32 × zS)) (x1 : Int32) (x2 : Int32) (s : zS) : Option (Int32 × zS) := if x2 < (r238 aa s) then some (zi 0, s) else zb1 (f235 aa x2 s) (fun v2 s1 => if v2 = zi 0 then rec4 x1 (x2 + zi (-1)) s1 else some (zi 1, s1))
set_option maxRecDepth 100000 in
theorem kb239_4 {X : mX} {D : Nat} {aa : Nat} {rec4 : Int32 → Int32 → zS → Option (Int32 × zS)} (haa : zMdec aa) (hrec4 : ∀ (x1 : Int32) (x2 : Int32) (s : zS) (r : Int32 × zS) , rec4 x1 x2 s = some r → Ev X (D + 2) mm239 4 [some (.ref aa), some (.int x1), some (.int x2)] [] (mk s) (encI r)) (x1 : Int32) (x2 : Int32) (s : zS) (r : Int32 × zS)   (h : b239_4 aa rec4 x1 x2 s = some r) : Ev X (D + 2) mm239 4 [some (.ref aa), some (.int x1), some (.int x2)] [] (mk s) (encI r) := by
  rcases haa with rfl | rfl | rfl
  · unfold b239_4 at h
    refine Ev.run (pc' := 6) (ls' := [some (.ref 32), some (.int x1), some (.int x2)]) (st' := [.ref 32, .int x2]) (h' := mk s) 2 rfl ?_
    refine Ev.call (M' := mm238) (v := some (.int (r238 32 s))) (h' := mk s) rfl rfl rfl (Nat.le_of_ble_eq_true rfl) (k238 (aa := 32) (s := s) (v := r238 32 s) (by decide) rfl) ?_
    refine Ev.icmp_lt (t := 28) rfl rfl (fun hb => ?_) (fun hb => ?_)
    · have h := (if_pos hb).symm.trans h
      refine Ev.run (pc' := 29) (ls' := [some (.ref 32), some (.int x1), some (.int x2)]) (st' := [.int (zi 0)]) (h' := mk s) 1 rfl ?_
      first | (obtain rfl := Option.some.inj h) | (cases h)
      exact Ev.fin rfl rfl
    · have h := (if_neg hb).symm.trans h
      refine Ev.run (pc' := 14) (ls' := [some (.ref 32), some (.int x1), some (.int x2)]) (st' := [.int x2, .ref 32]) (h' := mk s) 2 rfl ?_
      obtain ⟨v2, s1, hq, h⟩ := zb1_some h
      refine Ev.call (M' := mm235) (v := some (.int v2)) (h' := mk s1) rfl rfl rfl (Nat.le_of_ble_eq_true rfl) (k235 (by decide) hq) ?_
      refine Ev.if_eq (t := 22) rfl rfl (fun hb => ?_) (fun hb => ?_)
      · have h := (if_pos hb).symm.trans h
        refine Ev.run (pc' := 4) (ls' := [some (.ref 32), some (.int x1), some (.int (x2 + zi (-1)))]) (st' := []) (h' := mk s1) 2 rfl ?_
        exact hrec4 x1 (x2 + zi (-1)) s1 _ h
      · have h := (if_neg hb).symm.trans h
        refine Ev.run (pc' := 21) (ls' := [some (.ref 32), some (.int x1), some (.int x2)]) (st' := [.int (zi 1)]) (h' := mk s1) 1 rfl ?_
        first | (obtain rfl := Option.some.inj h) | (cases h)
        exact Ev.fin rfl rfl
  · unfold b239_4 at h
    refine Ev.run (pc' := 6) (ls' := [some (.ref 34), some (.int x1), some (.int x2)]) (st' := [.ref 34, .int x2]) (h' := mk s) 2 rfl ?_
    refine Ev.call (M' := mm238) (v := some (.int (r238 34 s))) (h' := mk s) rfl rfl rfl (Nat.le_of_ble_eq_true rfl) (k238 (aa := 34) (s := s) (v := r238 34 s) (by decide) rfl) ?_
    refine Ev.icmp_lt (t := 28) rfl rfl (fun hb => ?_) (fun hb => ?_)
    · have h := (if_pos hb).symm.trans h
      refine Ev.run (pc' := 29) (ls' := [some (.ref 34), some (.int x1), some (.int x2)]) (st' := [.int (zi 0)]) (h' := mk s) 1 rfl ?_
      first | (obtain rfl := Option.some.inj h) | (cases h)
      exact Ev.fin rfl rfl
    · have h := (if_neg hb).symm.trans h
      refine Ev.run (pc' := 14) (ls' := [some (.ref 34), some (.int x1), some (.int x2)]) (st' := [.int x2, .ref 34]) (h' := mk s) 2 rfl ?_
      obtain ⟨v2, s1, hq, h⟩ := zb1_some h
      refine Ev.call (M' := mm235) (v := some (.int v2)) (h' := mk s1) rfl rfl rfl (Nat.le_of_ble_eq_true rfl) (k235 (by decide) hq) ?_
      refine Ev.if_eq (t := 22) rfl rfl (fun hb => ?_) (fun hb => ?_)
      · have h := (if_pos hb).symm.trans h
        refine Ev.run (pc' := 4) (ls' := [some (.ref 34), some (.int x1), some (.int (x2 + zi (-1)))]) (st' := []) (h' := mk s1) 2 rfl ?_
        exact hrec4 x1 (x2 + zi (-1)) s1 _ h
      · have h := (if_neg hb).symm.trans h
        refine Ev.run (pc' := 21) (ls' := [some (.ref 34), some (.int x1), some (.int x2)]) (st' := [.int (zi 1)]) (h' := mk s1) 1 rfl ?_
        first | (obtain rfl := Option.some.inj h) | (cases h)
        exact Ev.fin rfl rfl
  · unfold b239_4 at h
    refine Ev.run (pc' := 6) (ls' := [some (.ref 36), some (.int x1), some (.int x2)]) (st' := [.ref 36, .int x2]) (h' := mk s) 2 rfl ?_
    refine Ev.call (M' := mm238) (v := some (.int (r238 36 s))) (h' := mk s) rfl rfl rfl (Nat.le_of_ble_eq_true rfl) (k238 (aa := 36) (s := s) (v := r238 36 s) (by decide) rfl) ?_
    refine Ev.icmp_lt (t := 28) rfl rfl (fun hb => ?_) (fun hb => ?_)
    · have h := (if_pos hb).symm.trans h
      refine Ev.run (pc' := 29) (ls' := [some (.ref 36), some (.int x1), some (.int x2)]) (st' := [.int (zi 0)]) (h' := mk s) 1 rfl ?_
      first | (obtain rfl := Option.some.inj h) | (cases h)
      exact Ev.fin rfl rfl
    · have h := (if_neg hb).symm.trans h
      refine Ev.run (pc' := 14) (ls' := [some (.ref 36), some (.int x1), some (.int x2)]) (st' := [.int x2, .ref 36]) (h' := mk s) 2 rfl ?_
      obtain ⟨v2, s1, hq, h⟩ := zb1_some h
      refine Ev.call (M' := mm235) (v := some (.int v2)) (h' := mk s1) rfl rfl rfl (Nat.le_of_ble_eq_true rfl) (k235 (by decide) hq) ?_
      refine Ev.if_eq (t := 22) rfl rfl (fun hb => ?_) (fun hb => ?_)
      · have h := (if_pos hb).symm.trans h
        refine Ev.run (pc' := 4) (ls' := [some (.ref 36), some (.int x1), some (.int (x2 + zi (-1)))]) (st' := []) (h' := mk s1) 2 rfl ?_
        exact hrec4 x1 (x2 + zi (-1)) s1 _ h
      · have h := (if_neg hb).symm.trans h
        refine Ev.run (pc' := 21) (ls' := [some (.ref 36), some (.int x1), some (.int x2)]) (st' := [.int (zi 1)]) (h' := mk s1) 1 rfl ?_
        first | (obtain rfl := Option.some.inj h) | (cases h)
        exact Ev.fin rfl rfl
def f239_4 (aa : Nat)  : Nat → Int32 → Int32 → zS → Option (Int32 × zS)
  | 0, _, _, _ => none
  | n + 1, x1, x2, s => b239_4 aa (f239_4 aa n) x1 x2 s
set_option maxRecDepth 100000 in
theorem k239_4 {X : mX} {D : Nat} {aa : Nat}  (haa : zMdec aa)  (n : Nat) : ∀ (x1 : Int32) (x2 : Int32) (s : zS) (r : Int32 × zS) , f239_4 aa  n x1 x2 s = some r → Ev X (D + 2) mm239 4 [some (.ref aa), some (.int x1), some (.int x2)] [] (mk s) (encI r) := by
  induction n with
  | zero => intro x1 x2 s r   h; cases h
  | succ n ih => intro x1 x2 s r   h; exact kb239_4 haa ih x1 x2 s r   h
def f239 (aa : Nat)  (x1 : Int32) (s : zS) : Option (Int32 × zS) := f239_4 aa zF x1 (x1 - (zi 1)) s
set_option maxRecDepth 100000 in
theorem k239 {X : mX} {D : Nat} {aa : Nat} {x1 : Int32} {s : zS} {r : Int32 × zS} (haa : zMdec aa)  (h : f239 aa x1 s = some r) : Ev X (D + 2) mm239 0 [some (.ref aa), some (.int x1), none] [] (mk s) (encI r) := by
  rcases haa with rfl | rfl | rfl
  · unfold f239 at h
    refine Ev.run (pc' := 4) (ls' := [some (.ref 32), some (.int x1), some (.int (x1 - (zi 1)))]) (st' := []) (h' := mk s) 4 rfl ?_
    exact k239_4 (by decide) zF x1 (x1 - (zi 1)) s _ h
  · unfold f239 at h
    refine Ev.run (pc' := 4) (ls' := [some (.ref 34), some (.int x1), some (.int (x1 - (zi 1)))]) (st' := []) (h' := mk s) 4 rfl ?_
    exact k239_4 (by decide) zF x1 (x1 - (zi 1)) s _ h
  · unfold f239 at h
    refine Ev.run (pc' := 4) (ls' := [some (.ref 36), some (.int x1), some (.int (x1 - (zi 1)))]) (st' := []) (h' := mk s) 4 rfl ?_
    exact k239_4 (by decide) zF x1 (x1 - (zi 1)) s _ h
/-! 174 FModel.compare(LFormatPressModel$Decimal;)I -/
def b174_45 (xx : Nat) (rec45 : Int32 → Int32 → zS → Option (Int32 × zS)) (x2 : Int32) (x3 : Int32) (s : zS) : Option (Int32 × zS) := if x2 < x3 then some (zi 0, s) else zb1 (f165 x2 s) (fun v2 s1 => zb1 (f235 xx x2 s1) (fun v4 s3 => if (v2 - v4) = zi 0 then rec45 (x2 + zi (-1)) x3 s3 else some (v2 - v4, s3)))
set_option maxRecDepth 100000 in
theorem kb174_45 {X : mX} {D : Nat} {xx : Nat} {rec45 : Int32 → Int32 → zS → Option (Int32 × zS)} (hxx : zMdec xx) (hrec45 : ∀ (x2 : Int32) (x3 : Int32) (s : zS) (r : Int32 × zS) (o4 : Option Value), rec45 x2 x3 s = some r → Ev X (D + 2) mm174 45 [some (.ref 24), some (.ref xx), some (.int x2), some (.int x3), o4] [] (mk s) (encI r)) (x2 : Int32) (x3 : Int32) (s : zS) (r : Int32 × zS) (o4 : Option Value)  (h : b174_45 xx rec45 x2 x3 s = some r) : Ev X (D + 2) mm174 45 [some (.ref 24), some (.ref xx), some (.int x2), some (.int x3), o4] [] (mk s) (encI r) := by
  rcases hxx with rfl | rfl | rfl
  · unfold b174_45 at h
    refine Ev.run (pc' := 47) (ls' := [some (.ref 24), some (.ref 32), some (.int x2), some (.int x3), o4]) (st' := [.int x3, .int x2]) (h' := mk s) 2 rfl ?_
    refine Ev.icmp_lt (t := 77) rfl rfl (fun hb => ?_) (fun hb => ?_)
    · have h := (if_pos hb).symm.trans h
      refine Ev.run (pc' := 78) (ls' := [some (.ref 24), some (.ref 32), some (.int x2), some (.int x3), o4]) (st' := [.int (zi 0)]) (h' := mk s) 1 rfl ?_
      first | (obtain rfl := Option.some.inj h) | (cases h)
      exact Ev.fin rfl rfl
    · have h := (if_neg hb).symm.trans h
      refine Ev.run (pc' := 52) (ls' := [some (.ref 24), some (.ref 32), some (.int x2), some (.int x3), o4]) (st' := [.int x2, .ref 24]) (h' := mk s) 2 rfl ?_
      obtain ⟨v2, s1, hq, h⟩ := zb1_some h
      refine Ev.call (M' := mm165) (v := some (.int v2)) (h' := mk s1) rfl rfl rfl (Nat.le_of_ble_eq_true rfl) (k165 hq) ?_
      refine Ev.run (pc' := 57) (ls' := [some (.ref 24), some (.ref 32), some (.int x2), some (.int x3), o4]) (st' := [.int x2, .ref 32, .int v2]) (h' := mk s1) 2 rfl ?_
      obtain ⟨v4, s3, hq, h⟩ := zb1_some h
      refine Ev.call (M' := mm235) (v := some (.int v4)) (h' := mk s3) rfl rfl rfl (Nat.le_of_ble_eq_true rfl) (k235 (by decide) hq) ?_
      refine Ev.run (pc' := 65) (ls' := [some (.ref 24), some (.ref 32), some (.int x2), some (.int x3), some (.int (v2 - v4))]) (st' := [.int (v2 - v4)]) (h' := mk s3) 3 rfl ?_
      refine Ev.if_eq (t := 71) rfl rfl (fun hb => ?_) (fun hb => ?_)
      · have h := (if_pos hb).symm.trans h
        refine Ev.run (pc' := 45) (ls' := [some (.ref 24), some (.ref 32), some (.int (x2 + zi (-1))), some (.int x3), some (.int (v2 - v4))]) (st' := []) (h' := mk s3) 2 rfl ?_
        exact hrec45 (x2 + zi (-1)) x3 s3 _ _ h
      · have h := (if_neg hb).symm.trans h
        refine Ev.run (pc' := 70) (ls' := [some (.ref 24), some (.ref 32), some (.int x2), some (.int x3), some (.int (v2 - v4))]) (st' := [.int (v2 - v4)]) (h' := mk s3) 1 rfl ?_
        first | (obtain rfl := Option.some.inj h) | (cases h)
        exact Ev.fin rfl rfl
  · unfold b174_45 at h
    refine Ev.run (pc' := 47) (ls' := [some (.ref 24), some (.ref 34), some (.int x2), some (.int x3), o4]) (st' := [.int x3, .int x2]) (h' := mk s) 2 rfl ?_
    refine Ev.icmp_lt (t := 77) rfl rfl (fun hb => ?_) (fun hb => ?_)
    · have h := (if_pos hb).symm.trans h
      refine Ev.run (pc' := 78) (ls' := [some (.ref 24), some (.ref 34), some (.int x2), some (.int x3), o4]) (st' := [.int (zi 0)]) (h' := mk s) 1 rfl ?_
      first | (obtain rfl := Option.some.inj h) | (cases h)
      exact Ev.fin rfl rfl
    · have h := (if_neg hb).symm.trans h
      refine Ev.run (pc' := 52) (ls' := [some (.ref 24), some (.ref 34), some (.int x2), some (.int x3), o4]) (st' := [.int x2, .ref 24]) (h' := mk s) 2 rfl ?_
      obtain ⟨v2, s1, hq, h⟩ := zb1_some h
      refine Ev.call (M' := mm165) (v := some (.int v2)) (h' := mk s1) rfl rfl rfl (Nat.le_of_ble_eq_true rfl) (k165 hq) ?_
      refine Ev.run (pc' := 57) (ls' := [some (.ref 24), some (.ref 34), some (.int x2), some (.int x3), o4]) (st' := [.int x2, .ref 34, .int v2]) (h' := mk s1) 2 rfl ?_
      obtain ⟨v4, s3, hq, h⟩ := zb1_some h
      refine Ev.call (M' := mm235) (v := some (.int v4)) (h' := mk s3) rfl rfl rfl (Nat.le_of_ble_eq_true rfl) (k235 (by decide) hq) ?_
      refine Ev.run (pc' := 65) (ls' := [some (.ref 24), some (.ref 34), some (.int x2), some (.int x3), some (.int (v2 - v4))]) (st' := [.int (v2 - v4)]) (h' := mk s3) 3 rfl ?_
      refine Ev.if_eq (t := 71) rfl rfl (fun hb => ?_) (fun hb => ?_)
      · have h := (if_pos hb).symm.trans h
        refine Ev.run (pc' := 45) (ls' := [some (.ref 24), some (.ref 34), some (.int (x2 + zi (-1))), some (.int x3), some (.int (v2 - v4))]) (st' := []) (h' := mk s3) 2 rfl ?_
        exact hrec45 (x2 + zi (-1)) x3 s3 _ _ h
      · have h := (if_neg hb).symm.trans h
        refine Ev.run (pc' := 70) (ls' := [some (.ref 24), some (.ref 34), some (.int x2), some (.int x3), some (.int (v2 - v4))]) (st' := [.int (v2 - v4)]) (h' := mk s3) 1 rfl ?_
        first | (obtain rfl := Option.some.inj h) | (cases h)
        exact Ev.fin rfl rfl
  · unfold b174_45 at h
    refine Ev.run (pc' := 47) (ls' := [some (.ref 24), some (.ref 36), some (.int x2), some (.int x3), o4]) (st' := [.int x3, .int x2]) (h' := mk s) 2 rfl ?_
    refine Ev.icmp_lt (t := 77) rfl rfl (fun hb => ?_) (fun hb => ?_)
    · have h := (if_pos hb).symm.trans h
      refine Ev.run (pc' := 78) (ls' := [some (.ref 24), some (.ref 36), some (.int x2), some (.int x3), o4]) (st' := [.int (zi 0)]) (h' := mk s) 1 rfl ?_
      first | (obtain rfl := Option.some.inj h) | (cases h)
      exact Ev.fin rfl rfl
    · have h := (if_neg hb).symm.trans h
      refine Ev.run (pc' := 52) (ls' := [some (.ref 24), some (.ref 36), some (.int x2), some (.int x3), o4]) (st' := [.int x2, .ref 24]) (h' := mk s) 2 rfl ?_
      obtain ⟨v2, s1, hq, h⟩ := zb1_some h
      refine Ev.call (M' := mm165) (v := some (.int v2)) (h' := mk s1) rfl rfl rfl (Nat.le_of_ble_eq_true rfl) (k165 hq) ?_
      refine Ev.run (pc' := 57) (ls' := [some (.ref 24), some (.ref 36), some (.int x2), some (.int x3), o4]) (st' := [.int x2, .ref 36, .int v2]) (h' := mk s1) 2 rfl ?_
      obtain ⟨v4, s3, hq, h⟩ := zb1_some h
      refine Ev.call (M' := mm235) (v := some (.int v4)) (h' := mk s3) rfl rfl rfl (Nat.le_of_ble_eq_true rfl) (k235 (by decide) hq) ?_
      refine Ev.run (pc' := 65) (ls' := [some (.ref 24), some (.ref 36), some (.int x2), some (.int x3), some (.int (v2 - v4))]) (st' := [.int (v2 - v4)]) (h' := mk s3) 3 rfl ?_
      refine Ev.if_eq (t := 71) rfl rfl (fun hb => ?_) (fun hb => ?_)
      · have h := (if_pos hb).symm.trans h
        refine Ev.run (pc' := 45) (ls' := [some (.ref 24), some (.ref 36), some (.int (x2 + zi (-1))), some (.int x3), some (.int (v2 - v4))]) (st' := []) (h' := mk s3) 2 rfl ?_
        exact hrec45 (x2 + zi (-1)) x3 s3 _ _ h
      · have h := (if_neg hb).symm.trans h
        refine Ev.run (pc' := 70) (ls' := [some (.ref 24), some (.ref 36), some (.int x2), some (.int x3), some (.int (v2 - v4))]) (st' := [.int (v2 - v4)]) (h' := mk s3) 1 rfl ?_
        first | (obtain rfl := Option.some.inj h) | (cases h)
        exact Ev.fin rfl rfl
def f174_45 (xx : Nat)  : Nat → Int32 → Int32 → zS → Option (Int32 × zS)
  | 0, _, _, _ => none
  | n + 1, x2, x3, s => b174_45 xx (f174_45 xx n) x2 x3 s
set_option maxRecDepth 100000 in
theorem k174_45 {X : mX} {D : Nat} {xx : Nat}  (hxx : zMdec xx)  (n : Nat) : ∀ (x2 : Int32) (x3 : Int32) (s : zS) (r : Int32 × zS) (o4 : Option Value), f174_45 xx  n x2 x3 s = some r → Ev X (D + 2) mm174 45 [some (.ref 24), some (.ref xx), some (.int x2), some (.int x3), o4] [] (mk s) (encI r) := by
  induction n with
  | zero => intro x2 x3 s r o4  h; cases h
  | succ n ih => intro x2 x3 s r o4  h; exact kb174_45 hxx ih x2 x3 s r o4  h
def f174_22 (xx : Nat)  (y0 : Int32) (y1 : Int32) (s : zS) : Option (Int32 × zS) := f174_45 xx zF (r264 y0 y1 s) (r265 (((s.1 24 27) - (s.1 24 28)) + (zi 1)) (r238 xx s) s) s
set_option maxRecDepth 100000 in
theorem k174_22 {X : mX} {D : Nat} {xx : Nat}  (hxx : zMdec xx)  (y0 : Int32) (y1 : Int32) (s : zS) (r : Int32 × zS) (o2 : Option Value) (o3 : Option Value) (o4 : Option Value)  (h : f174_22 xx  y0 y1 s = some r) : Ev X (D + 2) mm174 22 [some (.ref 24), some (.ref xx), o2, o3, o4] [.int y1, .int y0] (mk s) (encI r) := by
  rcases hxx with rfl | rfl | rfl
  · unfold f174_22 at h
    refine Ev.call (M' := mm264) (v := some (.int (r264 y0 y1 s))) (h' := mk s) rfl rfl rfl (Nat.le_of_ble_eq_true rfl) (k264 (x0 := y0) (x1 := y1) (s := s) (v := r264 y0 y1 s)  rfl) ?_
    refine Ev.run (pc' := 38) (ls' := [some (.ref 24), some (.ref 32), some (.int (r264 y0 y1 s)), o3, o4]) (st' := [.ref 32, .int (((s.1 24 27) - (s.1 24 28)) + (zi 1))]) (h' := mk s) 9 rfl ?_
    refine Ev.call (M' := mm238) (v := some (.int (r238 32 s))) (h' := mk s) rfl rfl rfl (Nat.le_of_ble_eq_true rfl) (k238 (aa := 32) (s := s) (v := r238 32 s) (by decide) rfl) ?_
    refine Ev.call (M' := mm265) (v := some (.int (r265 (((s.1 24 27) - (s.1 24 28)) + (zi 1)) (r238 32 s) s))) (h' := mk s) rfl rfl rfl (Nat.le_of_ble_eq_true rfl) (k265 (x0 := (((s.1 24 27) - (s.1 24 28)) + (zi 1))) (x1 := (r238 32 s)) (s := s) (v := r265 (((s.1 24 27) - (s.1 24 28)) + (zi 1)) (r238 32 s) s)  rfl) ?_
    refine Ev.run (pc' := 45) (ls' := [some (.ref 24), some (.ref 32), some (.int (r264 y0 y1 s)), some (.int (r265 (((s.1 24 27) - (s.1 24 28)) + (zi 1)) (r238 32 s) s)), o4]) (st' := []) (h' := mk s) 1 rfl ?_
    exact k174_45 (by decide) zF (r264 y0 y1 s) (r265 (((s.1 24 27) - (s.1 24 28)) + (zi 1)) (r238 32 s) s) s _ _ h
  · unfold f174_22 at h
    refine Ev.call (M' := mm264) (v := some (.int (r264 y0 y1 s))) (h' := mk s) rfl rfl rfl (Nat.le_of_ble_eq_true rfl) (k264 (x0 := y0) (x1 := y1) (s := s) (v := r264 y0 y1 s)  rfl) ?_
    refine Ev.run (pc' := 38) (ls' := [some (.ref 24), some (.ref 34), some (.int (r264 y0 y1 s)), o3, o4]) (st' := [.ref 34, .int (((s.1 24 27) - (s.1 24 28)) + (zi 1))]) (h' := mk s) 9 rfl ?_
    refine Ev.call (M' := mm238) (v := some (.int (r238 34 s))) (h' := mk s) rfl rfl rfl (Nat.le_of_ble_eq_true rfl) (k238 (aa := 34) (s := s) (v := r238 34 s) (by decide) rfl) ?_
    refine Ev.call (M' := mm265) (v := some (.int (r265 (((s.1 24 27) - (s.1 24 28)) + (zi 1)) (r238 34 s) s))) (h' := mk s) rfl rfl rfl (Nat.le_of_ble_eq_true rfl) (k265 (x0 := (((s.1 24 27) - (s.1 24 28)) + (zi 1))) (x1 := (r238 34 s)) (s := s) (v := r265 (((s.1 24 27) - (s.1 24 28)) + (zi 1)) (r238 34 s) s)  rfl) ?_
    refine Ev.run (pc' := 45) (ls' := [some (.ref 24), some (.ref 34), some (.int (r264 y0 y1 s)), some (.int (r265 (((s.1 24 27) - (s.1 24 28)) + (zi 1)) (r238 34 s) s)), o4]) (st' := []) (h' := mk s) 1 rfl ?_
    exact k174_45 (by decide) zF (r264 y0 y1 s) (r265 (((s.1 24 27) - (s.1 24 28)) + (zi 1)) (r238 34 s) s) s _ _ h
  · unfold f174_22 at h
    refine Ev.call (M' := mm264) (v := some (.int (r264 y0 y1 s))) (h' := mk s) rfl rfl rfl (Nat.le_of_ble_eq_true rfl) (k264 (x0 := y0) (x1 := y1) (s := s) (v := r264 y0 y1 s)  rfl) ?_
    refine Ev.run (pc' := 38) (ls' := [some (.ref 24), some (.ref 36), some (.int (r264 y0 y1 s)), o3, o4]) (st' := [.ref 36, .int (((s.1 24 27) - (s.1 24 28)) + (zi 1))]) (h' := mk s) 9 rfl ?_
    refine Ev.call (M' := mm238) (v := some (.int (r238 36 s))) (h' := mk s) rfl rfl rfl (Nat.le_of_ble_eq_true rfl) (k238 (aa := 36) (s := s) (v := r238 36 s) (by decide) rfl) ?_
    refine Ev.call (M' := mm265) (v := some (.int (r265 (((s.1 24 27) - (s.1 24 28)) + (zi 1)) (r238 36 s) s))) (h' := mk s) rfl rfl rfl (Nat.le_of_ble_eq_true rfl) (k265 (x0 := (((s.1 24 27) - (s.1 24 28)) + (zi 1))) (x1 := (r238 36 s)) (s := s) (v := r265 (((s.1 24 27) - (s.1 24 28)) + (zi 1)) (r238 36 s) s)  rfl) ?_
    refine Ev.run (pc' := 45) (ls' := [some (.ref 24), some (.ref 36), some (.int (r264 y0 y1 s)), some (.int (r265 (((s.1 24 27) - (s.1 24 28)) + (zi 1)) (r238 36 s) s)), o4]) (st' := []) (h' := mk s) 1 rfl ?_
    exact k174_45 (by decide) zF (r264 y0 y1 s) (r265 (((s.1 24 27) - (s.1 24 28)) + (zi 1)) (r238 36 s) s) s _ _ h
def f174 (xx : Nat)   (s : zS) : Option (Int32 × zS) := zb1 (f236 xx s) (fun v2 s1 => if v2 = zi 0 then zb1 (f237 xx s1) (fun v4 s3 => f174_22 xx (s.1 24 27) v4 s3) else f174_22 xx (s.1 24 27) (s1.1 24 27) s1)
set_option maxRecDepth 100000 in
theorem k174 {X : mX} {D : Nat} {xx : Nat}  {s : zS} {r : Int32 × zS} (hxx : zMdec xx)  (h : f174 xx  s = some r) : Ev X (D + 2) mm174 0 [some (.ref 24), some (.ref xx), none, none, none] [] (mk s) (encI r) := by
  rcases hxx with rfl | rfl | rfl
  · unfold f174 at h
    refine Ev.run (pc' := 5) (ls' := [some (.ref 24), some (.ref 32), none, none, none]) (st' := [.ref 32, .int (s.1 24 27)]) (h' := mk s) 3 rfl ?_
    obtain ⟨v2, s1, hq, h⟩ := zb1_some h
    refine Ev.call (M' := mm236) (v := some (.int v2)) (h' := mk s1) rfl rfl rfl (Nat.le_of_ble_eq_true rfl) (k236 (by decide) hq) ?_
    refine Ev.if_eq (t := 18) rfl rfl (fun hb => ?_) (fun hb => ?_)
    · have h := (if_pos hb).symm.trans h
      refine Ev.run (pc' := 19) (ls' := [some (.ref 24), some (.ref 32), none, none, none]) (st' := [.ref 32, .int (s.1 24 27)]) (h' := mk s1) 1 rfl ?_
      obtain ⟨v4, s3, hq, h⟩ := zb1_some h
      refine Ev.call (M' := mm237) (v := some (.int v4)) (h' := mk s3) rfl rfl rfl (Nat.le_of_ble_eq_true rfl) (k237 (by decide) hq) ?_
      exact k174_22 (by decide) (s.1 24 27) v4 s3 _ _ _ _ h
    · have h := (if_neg hb).symm.trans h
      refine Ev.run (pc' := 22) (ls' := [some (.ref 24), some (.ref 32), none, none, none]) (st' := [.int (s1.1 24 27), .int (s.1 24 27)]) (h' := mk s1) 3 rfl ?_
      exact k174_22 (by decide) (s.1 24 27) (s1.1 24 27) s1 _ _ _ _ h
  · unfold f174 at h
    refine Ev.run (pc' := 5) (ls' := [some (.ref 24), some (.ref 34), none, none, none]) (st' := [.ref 34, .int (s.1 24 27)]) (h' := mk s) 3 rfl ?_
    obtain ⟨v2, s1, hq, h⟩ := zb1_some h
    refine Ev.call (M' := mm236) (v := some (.int v2)) (h' := mk s1) rfl rfl rfl (Nat.le_of_ble_eq_true rfl) (k236 (by decide) hq) ?_
    refine Ev.if_eq (t := 18) rfl rfl (fun hb => ?_) (fun hb => ?_)
    · have h := (if_pos hb).symm.trans h
      refine Ev.run (pc' := 19) (ls' := [some (.ref 24), some (.ref 34), none, none, none]) (st' := [.ref 34, .int (s.1 24 27)]) (h' := mk s1) 1 rfl ?_
      obtain ⟨v4, s3, hq, h⟩ := zb1_some h
      refine Ev.call (M' := mm237) (v := some (.int v4)) (h' := mk s3) rfl rfl rfl (Nat.le_of_ble_eq_true rfl) (k237 (by decide) hq) ?_
      exact k174_22 (by decide) (s.1 24 27) v4 s3 _ _ _ _ h
    · have h := (if_neg hb).symm.trans h
      refine Ev.run (pc' := 22) (ls' := [some (.ref 24), some (.ref 34), none, none, none]) (st' := [.int (s1.1 24 27), .int (s.1 24 27)]) (h' := mk s1) 3 rfl ?_
      exact k174_22 (by decide) (s.1 24 27) (s1.1 24 27) s1 _ _ _ _ h
  · unfold f174 at h
    refine Ev.run (pc' := 5) (ls' := [some (.ref 24), some (.ref 36), none, none, none]) (st' := [.ref 36, .int (s.1 24 27)]) (h' := mk s) 3 rfl ?_
    obtain ⟨v2, s1, hq, h⟩ := zb1_some h
    refine Ev.call (M' := mm236) (v := some (.int v2)) (h' := mk s1) rfl rfl rfl (Nat.le_of_ble_eq_true rfl) (k236 (by decide) hq) ?_
    refine Ev.if_eq (t := 18) rfl rfl (fun hb => ?_) (fun hb => ?_)
    · have h := (if_pos hb).symm.trans h
      refine Ev.run (pc' := 19) (ls' := [some (.ref 24), some (.ref 36), none, none, none]) (st' := [.ref 36, .int (s.1 24 27)]) (h' := mk s1) 1 rfl ?_
      obtain ⟨v4, s3, hq, h⟩ := zb1_some h
      refine Ev.call (M' := mm237) (v := some (.int v4)) (h' := mk s3) rfl rfl rfl (Nat.le_of_ble_eq_true rfl) (k237 (by decide) hq) ?_
      exact k174_22 (by decide) (s.1 24 27) v4 s3 _ _ _ _ h
    · have h := (if_neg hb).symm.trans h
      refine Ev.run (pc' := 22) (ls' := [some (.ref 24), some (.ref 36), none, none, none]) (st' := [.int (s1.1 24 27), .int (s.1 24 27)]) (h' := mk s1) 3 rfl ?_
      exact k174_22 (by decide) (s.1 24 27) (s1.1 24 27) s1 _ _ _ _ h
/-! 173 FModel.isIn(Z)Z -/
def f173  (x1 : Int32) (s : zS) : Option (Int32 × zS) := zb1 (f174 34 s) (fun v2 s1 => zb1 (f174 36 s1) (fun v4 s3 => if x1 = zi 0 then if v2 ≤ zi 0 then some (zi 0, s3) else if v4 ≥ zi 0 then some (zi 0, s3) else some (zi 1, s3) else if v2 < zi 0 then some (zi 0, s3) else if v4 > zi 0 then some (zi 0, s3) else some (zi 1, s3)))
set_option maxRecDepth 100000 in
theorem k173 {X : mX} {D : Nat} {x1 : Int32} {s : zS} {r : Int32 × zS}  (h : f173 x1 s = some r) : Ev X (D + 3) mm173 0 [some (.ref 24), some (.int x1), none, none] [] (mk s) (encI r) := by
  unfold f173 at h
  refine Ev.run (pc' := 5) (ls' := [some (.ref 24), some (.int x1), none, none]) (st' := [.ref 34, .ref 24]) (h' := mk s) 3 rfl ?_
  obtain ⟨v2, s1, hq, h⟩ := zb1_some h
  refine Ev.call (M' := mm174) (v := some (.int v2)) (h' := mk s1) rfl rfl rfl (Nat.le_of_ble_eq_true rfl) (k174 (by decide) hq) ?_
  refine Ev.run (pc' := 14) (ls' := [some (.ref 24), some (.int x1), some (.int v2), none]) (st' := [.ref 36, .ref 24]) (h' := mk s1) 4 rfl ?_
  obtain ⟨v4, s3, hq, h⟩ := zb1_some h
  refine Ev.call (M' := mm174) (v := some (.int v4)) (h' := mk s3) rfl rfl rfl (Nat.le_of_ble_eq_true rfl) (k174 (by decide) hq) ?_
  refine Ev.run (pc' := 19) (ls' := [some (.ref 24), some (.int x1), some (.int v2), some (.int v4)]) (st' := [.int x1]) (h' := mk s3) 2 rfl ?_
  refine Ev.if_eq (t := 38) rfl rfl (fun hb => ?_) (fun hb => ?_)
  · have h := (if_pos hb).symm.trans h
    refine Ev.run (pc' := 39) (ls' := [some (.ref 24), some (.int x1), some (.int v2), some (.int v4)]) (st' := [.int v2]) (h' := mk s3) 1 rfl ?_
    refine Ev.if_le (t := 50) rfl rfl (fun hb => ?_) (fun hb => ?_)
    · have h := (if_pos hb).symm.trans h
      refine Ev.run (pc' := 51) (ls' := [some (.ref 24), some (.int x1), some (.int v2), some (.int v4)]) (st' := [.int (zi 0)]) (h' := mk s3) 1 rfl ?_
      first | (obtain rfl := Option.some.inj h) | (cases h)
      exact Ev.fin rfl rfl
    · have h := (if_neg hb).symm.trans h
      refine Ev.run (pc' := 43) (ls' := [some (.ref 24), some (.int x1), some (.int v2), some (.int v4)]) (st' := [.int v4]) (h' := mk s3) 1 rfl ?_
      refine Ev.if_ge (t := 50) rfl rfl (fun hb => ?_) (fun hb => ?_)
      · have h := (if_pos hb).symm.trans h
        refine Ev.run (pc' := 51) (ls' := [some (.ref 24), some (.int x1), some (.int v2), some (.int v4)]) (st' := [.int (zi 0)]) (h' := mk s3) 1 rfl ?_
        first | (obtain rfl := Option.some.inj h) | (cases h)
        exact Ev.fin rfl rfl
      · have h := (if_neg hb).symm.trans h
        refine Ev.run (pc' := 51) (ls' := [some (.ref 24), some (.int x1), some (.int v2), some (.int v4)]) (st' := [.int (zi 1)]) (h' := mk s3) 2 rfl ?_
        first | (obtain rfl := Option.some.inj h) | (cases h)
        exact Ev.fin rfl rfl
  · have h := (if_neg hb).symm.trans h
    refine Ev.run (pc' := 23) (ls' := [some (.ref 24), some (.int x1), some (.int v2), some (.int v4)]) (st' := [.int v2]) (h' := mk s3) 1 rfl ?_
    refine Ev.if_lt (t := 34) rfl rfl (fun hb => ?_) (fun hb => ?_)
    · have h := (if_pos hb).symm.trans h
      refine Ev.run (pc' := 51) (ls' := [some (.ref 24), some (.int x1), some (.int v2), some (.int v4)]) (st' := [.int (zi 0)]) (h' := mk s3) 2 rfl ?_
      first | (obtain rfl := Option.some.inj h) | (cases h)
      exact Ev.fin rfl rfl
    · have h := (if_neg hb).symm.trans h
      refine Ev.run (pc' := 27) (ls' := [some (.ref 24), some (.int x1), some (.int v2), some (.int v4)]) (st' := [.int v4]) (h' := mk s3) 1 rfl ?_
      refine Ev.if_gt (t := 34) rfl rfl (fun hb => ?_) (fun hb => ?_)
      · have h := (if_pos hb).symm.trans h
        refine Ev.run (pc' := 51) (ls' := [some (.ref 24), some (.int x1), some (.int v2), some (.int v4)]) (st' := [.int (zi 0)]) (h' := mk s3) 2 rfl ?_
        first | (obtain rfl := Option.some.inj h) | (cases h)
        exact Ev.fin rfl rfl
      · have h := (if_neg hb).symm.trans h
        refine Ev.run (pc' := 51) (ls' := [some (.ref 24), some (.int x1), some (.int v2), some (.int v4)]) (st' := [.int (zi 1)]) (h' := mk s3) 2 rfl ?_
        first | (obtain rfl := Option.some.inj h) | (cases h)
        exact Ev.fin rfl rfl
/-! 171 FModel.shortest(JIZ)V -/
def f171_246  (x7 : Int32) (x12 : Int32) (y0 : Int32) (s : zS) : Option (zS) := zb0 (f172 x7 s) (fun s1 => if y0 = zi 0 then some s1 else zb0 (f164 s1) (fun s2 => some s2))
set_option maxRecDepth 100000 in
theorem k171_246 {X : mX} {D : Nat}   (x7 : Int32) (x12 : Int32) (y0 : Int32) (s : zS) (r : zS) (o1 : Option Value) (o2 : Option Value) (o3 : Option Value) (o4 : Option Value) (o5 : Option Value) (o6 : Option Value) (o8 : Option Value) (o9 : Option Value) (o10 : Option Value) (o11 : Option Value) (o13 : Option Value)  (h : f171_246  x7 x12 y0 s = some r) : Ev X (D + 4) mm171 246 [some (.ref 24), o1, o2, o3, o4, o5, o6, some (.int x7), o8, o9, o10, o11, some (.int x12), o13] [.int y0] (mk s) (encV r) := by
  unfold f171_246 at h
  refine Ev.run (pc' := 251) (ls' := [some (.ref 24), o1, o2, o3, o4, o5, o6, some (.int x7), o8, o9, o10, o11, some (.int x12), some (.int y0)]) (st' := [.int x7, .ref 24]) (h' := mk s) 3 rfl ?_
  obtain ⟨s1, hq, h⟩ := zb0_some h
  refine Ev.call (M' := mm172) (v := none) (h' := mk s1) rfl rfl rfl (Nat.le_of_ble_eq_true rfl) (k172 hq) ?_
  refine Ev.run (pc' := 256) (ls' := [some (.ref 24), o1, o2, o3, o4, o5, o6, some (.int x7), o8, o9, o10, o11, some (.int x12), some (.int y0)]) (st' := [.int y0]) (h' := mk s1) 1 rfl ?_
  refine Ev.if_eq (t := 263) rfl rfl (fun hb => ?_) (fun hb => ?_)
  · have h := (if_pos hb).symm.trans h
    first | (obtain rfl := Option.some.inj h) | (cases h)
    exact Ev.fin rfl rfl
  · have h := (if_neg hb).symm.trans h
    refine Ev.run (pc' := 260) (ls' := [some (.ref 24), o1, o2, o3, o4, o5, o6, some (.int x7), o8, o9, o10, o11, some (.int x12), some (.int y0)]) (st' := [.ref 24]) (h' := mk s1) 1 rfl ?_
    obtain ⟨s2, hq, h⟩ := zb0_some h
    refine Ev.call (M' := mm164) (v := none) (h' := mk s2) rfl rfl rfl (Nat.le_of_ble_eq_true rfl) (k164 hq) ?_
    first | (obtain rfl := Option.some.inj h) | (cases h)
    exact Ev.fin rfl rfl
def f171_202  (x7 : Int32) (x8 : Int32) (x10 : Int32) (x11 : Int32) (x12 : Int32) (s : zS) : Option (zS) := if x11 = zi 0 then f171_246 x7 x12 (zi 0) s else if x10 = zi 0 then f171_246 x7 x12 (zi 1) s else if x12 = zi 0 then if x8 < (zi 5) then f171_246 x7 x12 (zi 0) s else f171_246 x7 x12 (zi 1) s else zb1 (f235 32 x7 s) (fun v2 s1 => if ¬ (zrem v2 (zi 2)) = (zi 1) then f171_246 x7 x12 (zi 0) s1 else f171_246 x7 x12 (zi 1) s1)
set_option maxRecDepth 100000 in
theorem k171_202 {X : mX} {D : Nat}   (x7 : Int32) (x8 : Int32) (x10 : Int32) (x11 : Int32) (x12 : Int32) (s : zS) (r : zS) (o1 : Option Value) (o2 : Option Value) (o3 : Option Value) (o4 : Option Value) (o5 : Option Value) (o6 : Option Value) (o9 : Option Value) (o13 : Option Value)  (h : f171_202  x7 x8 x10 x11 x12 s = some r) : Ev X (D + 4) mm171 202 [some (.ref 24), o1, o2, o3, o4, o5, o6, some (.int x7), some (.int x8), o9, some (.int x10), some (.int x11), some (.int x12), o13] [] (mk s) (encV r) := by
  unfold f171_202 at h
  refine Ev.run (pc' := 204) (ls' := [some (.ref 24), o1, o2, o3, o4, o5, o6, some (.int x7), some (.int x8), o9, some (.int x10), some (.int x11), some (.int x12), o13]) (st' := [.int x11]) (h' := mk s) 1 rfl ?_
  refine Ev.if_eq (t := 245) rfl rfl (fun hb => ?_) (fun hb => ?_)
  · have h := (if_pos hb).symm.trans h
    refine Ev.run (pc' := 246) (ls' := [some (.ref 24), o1, o2, o3, o4, o5, o6, some (.int x7), some (.int x8), o9, some (.int x10), some (.int x11), some (.int x12), o13]) (st' := [.int (zi 0)]) (h' := mk s) 1 rfl ?_
    exact k171_246 x7 x12 (zi 0) s _ _ _ _ _ _ _ _ _ _ _ _ h
  · have h := (if_neg hb).symm.trans h
    refine Ev.run (pc' := 209) (ls' := [some (.ref 24), o1, o2, o3, o4, o5, o6, some (.int x7), some (.int x8), o9, some (.int x10), some (.int x11), some (.int x12), o13]) (st' := [.int x10]) (h' := mk s) 1 rfl ?_
    refine Ev.if_eq (t := 241) rfl rfl (fun hb => ?_) (fun hb => ?_)
    · have h := (if_pos hb).symm.trans h
      refine Ev.run (pc' := 246) (ls' := [some (.ref 24), o1, o2, o3, o4, o5, o6, some (.int x7), some (.int x8), o9, some (.int x10), some (.int x11), some (.int x12), o13]) (st' := [.int (zi 1)]) (h' := mk s) 2 rfl ?_
      exact k171_246 x7 x12 (zi 1) s _ _ _ _ _ _ _ _ _ _ _ _ h
    · have h := (if_neg hb).symm.trans h
      refine Ev.run (pc' := 214) (ls' := [some (.ref 24), o1, o2, o3, o4, o5, o6, some (.int x7), some (.int x8), o9, some (.int x10), some (.int x11), some (.int x12), o13]) (st' := [.int x12]) (h' := mk s) 1 rfl ?_
      refine Ev.if_eq (t := 235) rfl rfl (fun hb => ?_) (fun hb => ?_)
      · have h := (if_pos hb).symm.trans h
        refine Ev.run (pc' := 238) (ls' := [some (.ref 24), o1, o2, o3, o4, o5, o6, some (.int x7), some (.int x8), o9, some (.int x10), some (.int x11), some (.int x12), o13]) (st' := [.int (zi 5), .int x8]) (h' := mk s) 2 rfl ?_
        refine Ev.icmp_lt (t := 245) rfl rfl (fun hb => ?_) (fun hb => ?_)
        · have h := (if_pos hb).symm.trans h
          refine Ev.run (pc' := 246) (ls' := [some (.ref 24), o1, o2, o3, o4, o5, o6, some (.int x7), some (.int x8), o9, some (.int x10), some (.int x11), some (.int x12), o13]) (st' := [.int (zi 0)]) (h' := mk s) 1 rfl ?_
          exact k171_246 x7 x12 (zi 0) s _ _ _ _ _ _ _ _ _ _ _ _ h
        · have h := (if_neg hb).symm.trans h
          refine Ev.run (pc' := 246) (ls' := [some (.ref 24), o1, o2, o3, o4, o5, o6, some (.int x7), some (.int x8), o9, some (.int x10), some (.int x11), some (.int x12), o13]) (st' := [.int (zi 1)]) (h' := mk s) 2 rfl ?_
          exact k171_246 x7 x12 (zi 1) s _ _ _ _ _ _ _ _ _ _ _ _ h
      · have h := (if_neg hb).symm.trans h
        refine Ev.run (pc' := 223) (ls' := [some (.ref 24), o1, o2, o3, o4, o5, o6, some (.int x7), some (.int x8), o9, some (.int x10), some (.int x11), some (.int x12), o13]) (st' := [.int x7, .ref 32]) (h' := mk s) 3 rfl ?_
        obtain ⟨v2, s1, hq, h⟩ := zb1_some h
        refine Ev.call (M' := mm235) (v := some (.int v2)) (h' := mk s1) rfl rfl rfl (Nat.le_of_ble_eq_true rfl) (k235 (by decide) hq) ?_
        refine Ev.run (pc' := 229) (ls' := [some (.ref 24), o1, o2, o3, o4, o5, o6, some (.int x7), some (.int x8), o9, some (.int x10), some (.int x11), some (.int x12), o13]) (st' := [.int (zi 1), .int (zrem v2 (zi 2))]) (h' := mk s1) 3 rfl ?_
        refine Ev.icmp_ne (t := 245) rfl rfl (fun hb => ?_) (fun hb => ?_)
        · have h := (if_pos hb).symm.trans h
          refine Ev.run (pc' := 246) (ls' := [some (.ref 24), o1, o2, o3, o4, o5, o6, some (.int x7), some (.int x8), o9, some (.int x10), some (.int x11), some (.int x12), o13]) (st' := [.int (zi 0)]) (h' := mk s1) 1 rfl ?_
          exact k171_246 x7 x12 (zi 0) s1 _ _ _ _ _ _ _ _ _ _ _ _ h
        · have h := (if_neg hb).symm.trans h
          refine Ev.run (pc' := 246) (ls' := [some (.ref 24), o1, o2, o3, o4, o5, o6, some (.int x7), some (.int x8), o9, some (.int x10), some (.int x11), some (.int x12), o13]) (st' := [.int (zi 1)]) (h' := mk s1) 3 rfl ?_
          exact k171_246 x7 x12 (zi 1) s1 _ _ _ _ _ _ _ _ _ _ _ _ h
def f171_187 (rec86 : Int32 → Int32 → zS → Option (zS)) (x5 : Int32) (x6 : Int32) (x7 : Int32) (x8 : Int32) (x10 : Int32) (x11 : Int32) (y0 : Int32) (s : zS) : Option (zS) := if ¬ x10 = zi 0 then f171_202 x7 x8 x10 x11 y0 s else if ¬ x11 = zi 0 then f171_202 x7 x8 x10 x11 y0 s else rec86 x5 (x6 + zi 1) s
set_option maxRecDepth 100000 in
theorem k171_187 {X : mX} {D : Nat} {rec86 : Int32 → Int32 → zS → Option (zS)} (hrec86 : ∀ (x5 : Int32) (x6 : Int32) (s : zS) (r : zS) (o1 : Option Value) (o2 : Option Value) (o3 : Option Value) (o4 : Option Value) (o7 : Option Value) (o8 : Option Value) (o9 : Option Value) (o10 : Option Value) (o11 : Option Value) (o12 : Option Value) (o13 : Option Value), rec86 x5 x6 s = some r → Ev X (D + 4) mm171 86 [some (.ref 24), o1, o2, o3, o4, some (.int x5), some (.int x6), o7, o8, o9, o10, o11, o12, o13] [] (mk s) (encV r)) (x5 : Int32) (x6 : Int32) (x7 : Int32) (x8 : Int32) (x10 : Int32) (x11 : Int32) (y0 : Int32) (s : zS) (r : zS) (o1 : Option Value) (o2 : Option Value) (o3 : Option Value) (o4 : Option Value) (o9 : Option Value) (o12 : Option Value) (o13 : Option Value)  (h : f171_187 rec86 x5 x6 x7 x8 x10 x11 y0 s = some r) : Ev X (D + 4) mm171 187 [some (.ref 24), o1, o2, o3, o4, some (.int x5), some (.int x6), some (.int x7), some (.int x8), o9, some (.int x10), some (.int x11), o12, o13] [.int y0] (mk s) (encV r) := by
  unfold f171_187 at h
  refine Ev.run (pc' := 191) (ls' := [some (.ref 24), o1, o2, o3, o4, some (.int x5), some (.int x6), some (.int x7), some (.int x8), o9, some (.int x10), some (.int x11), some (.int y0), o13]) (st' := [.int x10]) (h' := mk s) 2 rfl ?_
  refine Ev.if_ne (t := 202) rfl rfl (fun hb => ?_) (fun hb => ?_)
  · have h := (if_pos hb).symm.trans h
    exact k171_202 x7 x8 x10 x11 y0 s _ _ _ _ _ _ _ _ _ h
  · have h := (if_neg hb).symm.trans h
    refine Ev.run (pc' := 196) (ls' := [some (.ref 24), o1, o2, o3, o4, some (.int x5), some (.int x6), some (.int x7), some (.int x8), o9, some (.int x10), some (.int x11), some (.int y0), o13]) (st' := [.int x11]) (h' := mk s) 1 rfl ?_
    refine Ev.if_ne (t := 202) rfl rfl (fun hb => ?_) (fun hb => ?_)
    · have h := (if_pos hb).symm.trans h
      exact k171_202 x7 x8 x10 x11 y0 s _ _ _ _ _ _ _ _ _ h
    · have h := (if_neg hb).symm.trans h
      refine Ev.run (pc' := 86) (ls' := [some (.ref 24), o1, o2, o3, o4, some (.int x5), some (.int (x6 + zi 1)), some (.int x7), some (.int x8), o9, some (.int x10), some (.int x11), some (.int y0), o13]) (st' := []) (h' := mk s) 3 rfl ?_
      exact hrec86 x5 (x6 + zi 1) s _ _ _ _ _ _ _ _ _ _ _ _ h
def b171_86 (rec86 : Int32 → Int32 → zS → Option (zS)) (x5 : Int32) (x6 : Int32) (s : zS) : Option (zS) := zb1 (f237 32 s) (fun v2 s1 => zb1 (f235 32 (((v2 - x6) + (zi 1)) - (zi 1)) s1) (fun v4 s3 => zb0 (f172 ((v2 - x6) + (zi 1)) s3) (fun s5 => zb1 (f239 32 ((v2 - x6) + (zi 1)) s5) (fun v7 s6 => zb1 (f173 x5 s6) (fun v9 s8 => if ¬ v7 = zi 0 then zb0 (f172 ((v2 - x6) + (zi 1)) s8) (fun s10 => zb0 (f164 s10) (fun s11 => zb1 (f173 x5 s11) (fun v13 s12 => if ¬ v4 = (zi 5) then f171_187 rec86 x5 x6 ((v2 - x6) + (zi 1)) v4 v9 v13 (zi 0) s12 else zb1 (f239 32 (((v2 - x6) + (zi 1)) - (zi 1)) s12) (fun v15 s14 => if ¬ v15 = zi 0 then f171_187 rec86 x5 x6 ((v2 - x6) + (zi 1)) v4 v9 v13 (zi 0) s14 else f171_187 rec86 x5 x6 ((v2 - x6) + (zi 1)) v4 v9 v13 (zi 1) s14)))) else some s8)))))
set_option maxRecDepth 100000 in
theorem kb171_86 {X : mX} {D : Nat} {rec86 : Int32 → Int32 → zS → Option (zS)} (hrec86 : ∀ (x5 : Int32) (x6 : Int32) (s : zS) (r : zS) (o1 : Option Value) (o2 : Option Value) (o3 : Option Value) (o4 : Option Value) (o7 : Option Value) (o8 : Option Value) (o9 : Option Value) (o10 : Option Value) (o11 : Option Value) (o12 : Option Value) (o13 : Option Value), rec86 x5 x6 s = some r → Ev X (D + 4) mm171 86 [some (.ref 24), o1, o2, o3, o4, some (.int x5), some (.int x6), o7, o8, o9, o10, o11, o12, o13] [] (mk s) (encV r)) (x5 : Int32) (x6 : Int32) (s : zS) (r : zS) (o1 : Option Value) (o2 : Option Value) (o3 : Option Value) (o4 : Option Value) (o7 : Option Value) (o8 : Option Value) (o9 : Option Value) (o10 : Option Value) (o11 : Option Value) (o12 : Option Value) (o13 : Option Value)  (h : b171_86 rec86 x5 x6 s = some r) : Ev X (D + 4) mm171 86 [some (.ref 24), o1, o2, o3, o4, some (.int x5), some (.int x6), o7, o8, o9, o10, o11, o12, o13] [] (mk s) (encV r) := by
  unfold b171_86 at h
  refine Ev.run (pc' := 90) (ls' := [some (.ref 24), o1, o2, o3, o4, some (.int x5), some (.int x6), o7, o8, o9, o10, o11, o12, o13]) (st' := [.ref 32]) (h' := mk s) 2 rfl ?_
  obtain ⟨v2, s1, hq, h⟩ := zb1_some h
  refine Ev.call (M' := mm237) (v := some (.int v2)) (h' := mk s1) rfl rfl rfl (Nat.le_of_ble_eq_true rfl) (k237 (by decide) hq) ?_
  refine Ev.run (pc' := 108) (ls' := [some (.ref 24), o1, o2, o3, o4, some (.int x5), some (.int x6), some (.int ((v2 - x6) + (zi 1))), o8, o9, o10, o11, o12, o13]) (st' := [.int (((v2 - x6) + (zi 1)) - (zi 1)), .ref 32]) (h' := mk s1) 10 rfl ?_
  obtain ⟨v4, s3, hq, h⟩ := zb1_some h
  refine Ev.call (M' := mm235) (v := some (.int v4)) (h' := mk s3) rfl rfl rfl (Nat.le_of_ble_eq_true rfl) (k235 (by decide) hq) ?_
  refine Ev.run (pc' := 116) (ls' := [some (.ref 24), o1, o2, o3, o4, some (.int x5), some (.int x6), some (.int ((v2 - x6) + (zi 1))), some (.int v4), o9, o10, o11, o12, o13]) (st' := [.int ((v2 - x6) + (zi 1)), .ref 24]) (h' := mk s3) 3 rfl ?_
  obtain ⟨s5, hq, h⟩ := zb0_some h
  refine Ev.call (M' := mm172) (v := none) (h' := mk s5) rfl rfl rfl (Nat.le_of_ble_eq_true rfl) (k172 hq) ?_
  refine Ev.run (pc' := 125) (ls' := [some (.ref 24), o1, o2, o3, o4, some (.int x5), some (.int x6), some (.int ((v2 - x6) + (zi 1))), some (.int v4), o9, o10, o11, o12, o13]) (st' := [.int ((v2 - x6) + (zi 1)), .ref 32]) (h' := mk s5) 3 rfl ?_
  obtain ⟨v7, s6, hq, h⟩ := zb1_some h
  refine Ev.call (M' := mm239) (v := some (.int v7)) (h' := mk s6) rfl rfl rfl (Nat.le_of_ble_eq_true rfl) (k239 (by decide) hq) ?_
  refine Ev.run (pc' := 133) (ls' := [some (.ref 24), o1, o2, o3, o4, some (.int x5), some (.int x6), some (.int ((v2 - x6) + (zi 1))), some (.int v4), some (.int v7), o10, o11, o12, o13]) (st' := [.int x5, .ref 24]) (h' := mk s6) 3 rfl ?_
  obtain ⟨v9, s8, hq, h⟩ := zb1_some h
  refine Ev.call (M' := mm173) (v := some (.int v9)) (h' := mk s8) rfl rfl rfl (Nat.le_of_ble_eq_true rfl) (k173 hq) ?_
  refine Ev.run (pc' := 140) (ls' := [some (.ref 24), o1, o2, o3, o4, some (.int x5), some (.int x6), some (.int ((v2 - x6) + (zi 1))), some (.int v4), some (.int v7), some (.int v9), o11, o12, o13]) (st' := [.int v7]) (h' := mk s8) 2 rfl ?_
  refine Ev.if_ne (t := 144) rfl rfl (fun hb => ?_) (fun hb => ?_)
  · have h := (if_pos hb).symm.trans h
    refine Ev.run (pc' := 147) (ls' := [some (.ref 24), o1, o2, o3, o4, some (.int x5), some (.int x6), some (.int ((v2 - x6) + (zi 1))), some (.int v4), some (.int v7), some (.int v9), o11, o12, o13]) (st' := [.int ((v2 - x6) + (zi 1)), .ref 24]) (h' := mk s8) 2 rfl ?_
    obtain ⟨s10, hq, h⟩ := zb0_some h
    refine Ev.call (M' := mm172) (v := none) (h' := mk s10) rfl rfl rfl (Nat.le_of_ble_eq_true rfl) (k172 hq) ?_
    refine Ev.run (pc' := 151) (ls' := [some (.ref 24), o1, o2, o3, o4, some (.int x5), some (.int x6), some (.int ((v2 - x6) + (zi 1))), some (.int v4), some (.int v7), some (.int v9), o11, o12, o13]) (st' := [.ref 24]) (h' := mk s10) 1 rfl ?_
    obtain ⟨s11, hq, h⟩ := zb0_some h
    refine Ev.call (M' := mm164) (v := none) (h' := mk s11) rfl rfl rfl (Nat.le_of_ble_eq_true rfl) (k164 hq) ?_
    refine Ev.run (pc' := 157) (ls' := [some (.ref 24), o1, o2, o3, o4, some (.int x5), some (.int x6), some (.int ((v2 - x6) + (zi 1))), some (.int v4), some (.int v7), some (.int v9), o11, o12, o13]) (st' := [.int x5, .ref 24]) (h' := mk s11) 2 rfl ?_
    obtain ⟨v13, s12, hq, h⟩ := zb1_some h
    refine Ev.call (M' := mm173) (v := some (.int v13)) (h' := mk s12) rfl rfl rfl (Nat.le_of_ble_eq_true rfl) (k173 hq) ?_
    refine Ev.run (pc' := 165) (ls' := [some (.ref 24), o1, o2, o3, o4, some (.int x5), some (.int x6), some (.int ((v2 - x6) + (zi 1))), some (.int v4), some (.int v7), some (.int v9), some (.int v13), o12, o13]) (st' := [.int (zi 5), .int v4]) (h' := mk s12) 3 rfl ?_
    refine Ev.icmp_ne (t := 186) rfl rfl (fun hb => ?_) (fun hb => ?_)
    · have h := (if_pos hb).symm.trans h
      refine Ev.run (pc' := 187) (ls' := [some (.ref 24), o1, o2, o3, o4, some (.int x5), some (.int x6), some (.int ((v2 - x6) + (zi 1))), some (.int v4), some (.int v7), some (.int v9), some (.int v13), o12, o13]) (st' := [.int (zi 0)]) (h' := mk s12) 1 rfl ?_
      exact k171_187 hrec86 x5 x6 ((v2 - x6) + (zi 1)) v4 v9 v13 (zi 0) s12 _ _ _ _ _ _ _ _ h
    · have h := (if_neg hb).symm.trans h
      refine Ev.run (pc' := 176) (ls' := [some (.ref 24), o1, o2, o3, o4, some (.int x5), some (.int x6), some (.int ((v2 - x6) + (zi 1))), some (.int v4), some (.int v7), some (.int v9), some (.int v13), o12, o13]) (st' := [.int (((v2 - x6) + (zi 1)) - (zi 1)), .ref 32]) (h' := mk s12) 5 rfl ?_
      obtain ⟨v15, s14, hq, h⟩ := zb1_some h
      refine Ev.call (M' := mm239) (v := some (.int v15)) (h' := mk s14) rfl rfl rfl (Nat.le_of_ble_eq_true rfl) (k239 (by decide) hq) ?_
      refine Ev.if_ne (t := 186) rfl rfl (fun hb => ?_) (fun hb => ?_)
      · have h := (if_pos hb).symm.trans h
        refine Ev.run (pc' := 187) (ls' := [some (.ref 24), o1, o2, o3, o4, some (.int x5), some (.int x6), some (.int ((v2 - x6) + (zi 1))), some (.int v4), some (.int v7), some (.int v9), some (.int v13), o12, o13]) (st' := [.int (zi 0)]) (h' := mk s14) 1 rfl ?_
        exact k171_187 hrec86 x5 x6 ((v2 - x6) + (zi 1)) v4 v9 v13 (zi 0) s14 _ _ _ _ _ _ _ _ h
      · have h := (if_neg hb).symm.trans h
        refine Ev.run (pc' := 187) (ls' := [some (.ref 24), o1, o2, o3, o4, some (.int x5), some (.int x6), some (.int ((v2 - x6) + (zi 1))), some (.int v4), some (.int v7), some (.int v9), some (.int v13), o12, o13]) (st' := [.int (zi 1)]) (h' := mk s14) 2 rfl ?_
        exact k171_187 hrec86 x5 x6 ((v2 - x6) + (zi 1)) v4 v9 v13 (zi 1) s14 _ _ _ _ _ _ _ _ h
  · have h := (if_neg hb).symm.trans h
    first | (obtain rfl := Option.some.inj h) | (cases h)
    exact Ev.fin rfl rfl
def f171_86  : Nat → Int32 → Int32 → zS → Option (zS)
  | 0, _, _, _ => none
  | n + 1, x5, x6, s => b171_86 (f171_86 n) x5 x6 s
set_option maxRecDepth 100000 in
theorem k171_86 {X : mX} {D : Nat}   (n : Nat) : ∀ (x5 : Int32) (x6 : Int32) (s : zS) (r : zS) (o1 : Option Value) (o2 : Option Value) (o3 : Option Value) (o4 : Option Value) (o7 : Option Value) (o8 : Option Value) (o9 : Option Value) (o10 : Option Value) (o11 : Option Value) (o12 : Option Value) (o13 : Option Value), f171_86  n x5 x6 s = some r → Ev X (D + 4) mm171 86 [some (.ref 24), o1, o2, o3, o4, some (.int x5), some (.int x6), o7, o8, o9, o10, o11, o12, o13] [] (mk s) (encV r) := by
  induction n with
  | zero => intro x5 x6 s r o1 o2 o3 o4 o7 o8 o9 o10 o11 o12 o13  h; cases h
  | succ n ih => intro x5 x6 s r o1 o2 o3 o4 o7 o8 o9 o10 o11 o12 o13  h; exact kb171_86  ih x5 x6 s r o1 o2 o3 o4 o7 o8 o9 o10 o11 o12 o13  h
def f171_68  (x1 : Int64) (x4 : Int32) (s : zS) : Option (zS) := if ¬ (x1 &&& (zl 1)) = (zl 0) then f171_86 zF (zi 0) (zi 2) s else f171_86 zF (zi 1) (zi 2) s
set_option maxRecDepth 100000 in
theorem k171_68 {X : mX} {D : Nat}   (x1 : Int64) (x4 : Int32) (s : zS) (r : zS) (o3 : Option Value) (o5 : Option Value) (o6 : Option Value) (o7 : Option Value) (o8 : Option Value) (o9 : Option Value) (o10 : Option Value) (o11 : Option Value) (o12 : Option Value) (o13 : Option Value)  (h : f171_68  x1 x4 s = some r) : Ev X (D + 4) mm171 68 [some (.ref 24), some (.long x1), none, o3, some (.int x4), o5, o6, o7, o8, o9, o10, o11, o12, o13] [] (mk s) (encV r) := by
  unfold f171_68 at h
  refine Ev.run (pc' := 73) (ls' := [some (.ref 24), some (.long x1), none, o3, some (.int x4), o5, o6, o7, o8, o9, o10, o11, o12, o13]) (st' := [.int (lg_cmp (x1 &&& (zl 1)) (zl 0))]) (h' := mk s) 5 rfl ?_
  refine Ev.ifl_ne (t := 80) rfl rfl (fun hb => ?_) (fun hb => ?_)
  · have h := (if_pos hb).symm.trans h
    refine Ev.run (pc' := 86) (ls' := [some (.ref 24), some (.long x1), none, o3, some (.int x4), some (.int (zi 0)), some (.int (zi 2)), o7, o8, o9, o10, o11, o12, o13]) (st' := []) (h' := mk s) 4 rfl ?_
    exact k171_86 zF (zi 0) (zi 2) s _ _ _ _ _ _ _ _ _ _ _ _ h
  · have h := (if_neg hb).symm.trans h
    refine Ev.run (pc' := 86) (ls' := [some (.ref 24), some (.long x1), none, o3, some (.int x4), some (.int (zi 1)), some (.int (zi 2)), o7, o8, o9, o10, o11, o12, o13]) (st' := []) (h' := mk s) 5 rfl ?_
    exact k171_86 zF (zi 1) (zi 2) s _ _ _ _ _ _ _ _ _ _ _ _ h
def f171  (x1 : Int64) (x3 : Int32) (x4 : Int32) (s : zS) : Option (zS) := zb0 (f234 32 x1 x3 s) (fun s1 => zb0 (f234 36 (((zl 2) * x1) + (zl 1)) (x3 - (zi 1)) s1) (fun s2 => if x4 = zi 0 then zb0 (f234 34 (((zl 2) * x1) - (zl 1)) (x3 - (zi 1)) s2) (fun s3 => f171_68 x1 x4 s3) else zb0 (f234 34 (((zl 4) * x1) - (zl 1)) (x3 - (zi 2)) s2) (fun s4 => f171_68 x1 x4 s4)))
set_option maxRecDepth 100000 in
theorem k171 {X : mX} {D : Nat} {x1 : Int64} {x3 : Int32} {x4 : Int32} {s : zS} {r : zS}  (h : f171 x1 x3 x4 s = some r) : Ev X (D + 4) mm171 0 [some (.ref 24), some (.long x1), none, some (.int x3), some (.int x4), none, none, none, none, none, none, none, none, none] [] (mk s) (encV r) := by
  unfold f171 at h
  refine Ev.run (pc' := 6) (ls' := [some (.ref 24), some (.long x1), none, some (.int x3), some (.int x4), none, none, none, none, none, none, none, none, none]) (st' := [.int x3, .long x1, .ref 32]) (h' := mk s) 4 rfl ?_
  obtain ⟨s1, hq, h⟩ := zb0_some h
  refine Ev.call (M' := mm234) (v := none) (h' := mk s1) rfl rfl rfl (Nat.le_of_ble_eq_true rfl) (k234 (by decide) hq) ?_
  refine Ev.run (pc' := 23) (ls' := [some (.ref 24), some (.long x1), none, some (.int x3), some (.int x4), none, none, none, none, none, none, none, none, none]) (st' := [.int (x3 - (zi 1)), .long (((zl 2) * x1) + (zl 1)), .ref 36]) (h' := mk s1) 10 rfl ?_
  obtain ⟨s2, hq, h⟩ := zb0_some h
  refine Ev.call (M' := mm234) (v := none) (h' := mk s2) rfl rfl rfl (Nat.le_of_ble_eq_true rfl) (k234 (by decide) hq) ?_
  refine Ev.run (pc' := 28) (ls' := [some (.ref 24), some (.long x1), none, some (.int x3), some (.int x4), none, none, none, none, none, none, none, none, none]) (st' := [.int x4]) (h' := mk s2) 1 rfl ?_
  refine Ev.if_eq (t := 51) rfl rfl (fun hb => ?_) (fun hb => ?_)
  · have h := (if_pos hb).symm.trans h
    refine Ev.run (pc' := 65) (ls' := [some (.ref 24), some (.long x1), none, some (.int x3), some (.int x4), none, none, none, none, none, none, none, none, none]) (st' := [.int (x3 - (zi 1)), .long (((zl 2) * x1) - (zl 1)), .ref 34]) (h' := mk s2) 10 rfl ?_
    obtain ⟨s3, hq, h⟩ := zb0_some h
    refine Ev.call (M' := mm234) (v := none) (h' := mk s3) rfl rfl rfl (Nat.le_of_ble_eq_true rfl) (k234 (by decide) hq) ?_
    exact k171_68 x1 x4 s3 _ _ _ _ _ _ _ _ _ _ _ h
  · have h := (if_neg hb).symm.trans h
    refine Ev.run (pc' := 45) (ls' := [some (.ref 24), some (.long x1), none, some (.int x3), some (.int x4), none, none, none, none, none, none, none, none, none]) (st' := [.int (x3 - (zi 2)), .long (((zl 4) * x1) - (zl 1)), .ref 34]) (h' := mk s2) 10 rfl ?_
    obtain ⟨s4, hq, h⟩ := zb0_some h
    refine Ev.call (M' := mm234) (v := none) (h' := mk s4) rfl rfl rfl (Nat.le_of_ble_eq_true rfl) (k234 (by decide) hq) ?_
    refine Ev.run (pc' := 68) (ls' := [some (.ref 24), some (.long x1), none, some (.int x3), some (.int x4), none, none, none, none, none, none, none, none, none]) (st' := []) (h' := mk s4) 1 rfl ?_
    exact k171_68 x1 x4 s4 _ _ _ _ _ _ _ _ _ _ _ h
/-! 178 FModel.character(I)V -/
def f178_103  (x1 : Int32) (x2 : Int32) (s : zS) : Option (zS) := zb0 (f175 ((zi 128) ||| (x1 &&& (zi 63))) s) (fun s1 => some (setI s1 24 31 (x2 + (zi 1))))
set_option maxRecDepth 100000 in
theorem k178_103 {X : mX} {D : Nat}   (x1 : Int32) (x2 : Int32) (s : zS) (r : zS)   (h : f178_103  x1 x2 s = some r) : Ev X (D + 1) mm178 103 [some (.ref 24), some (.int x1), some (.int x2)] [] (mk s) (encV r) := by
  unfold f178_103 at h
  refine Ev.run (pc' := 112) (ls' := [some (.ref 24), some (.int x1), some (.int x2)]) (st' := [.int ((zi 128) ||| (x1 &&& (zi 63))), .ref 24]) (h' := mk s) 6 rfl ?_
  obtain ⟨s1, hq, h⟩ := zb0_some h
  refine Ev.call (M' := mm175) (v := none) (h' := mk s1) rfl rfl rfl (Nat.le_of_ble_eq_true rfl) (k175 hq) ?_
  refine Ev.run (pc' := 119) (ls' := [some (.ref 24), some (.int x1), some (.int x2)]) (st' := [.int (x2 + (zi 1)), .ref 24]) (h' := mk s1) 4 rfl ?_
  refine Ev.step (pc' := 122) rfl (put_12_31 rfl) ?_
  first | (obtain rfl := Option.some.inj h) | (cases h)
  exact Ev.fin rfl rfl
def f178_88  (x1 : Int32) (x2 : Int32) (s : zS) : Option (zS) := zb0 (f175 ((zi 128) ||| ((zshr x1 (zi 6)) &&& (zi 63))) s) (fun s1 => f178_103 x1 x2 s1)
set_option maxRecDepth 100000 in
theorem k178_88 {X : mX} {D : Nat}   (x1 : Int32) (x2 : Int32) (s : zS) (r : zS)   (h : f178_88  x1 x2 s = some r) : Ev X (D + 1) mm178 88 [some (.ref 24), some (.int x1), some (.int x2)] [] (mk s) (encV r) := by
  unfold f178_88 at h
  refine Ev.run (pc' := 100) (ls' := [some (.ref 24), some (.int x1), some (.int x2)]) (st' := [.int ((zi 128) ||| ((zshr x1 (zi 6)) &&& (zi 63))), .ref 24]) (h' := mk s) 8 rfl ?_
  obtain ⟨s1, hq, h⟩ := zb0_some h
  refine Ev.call (M' := mm175) (v := none) (h' := mk s1) rfl rfl rfl (Nat.le_of_ble_eq_true rfl) (k175 hq) ?_
  exact k178_103 x1 x2 s1 _ h
def f178  (x1 : Int32) (s : zS) : Option (zS) := if x1 ≥ (zi 128) then if x1 ≥ (zi 2048) then if x1 ≥ (zi 65536) then zb0 (f175 ((zi 240) ||| (zshr x1 (zi 18))) s) (fun s1 => zb0 (f175 ((zi 128) ||| ((zshr x1 (zi 12)) &&& (zi 63))) s1) (fun s2 => f178_88 x1 (s.1 24 31) s2)) else zb0 (f175 ((zi 224) ||| (zshr x1 (zi 12))) s) (fun s3 => f178_88 x1 (s.1 24 31) s3) else zb0 (f175 ((zi 192) ||| (zshr x1 (zi 6))) s) (fun s4 => f178_103 x1 (s.1 24 31) s4) else zb0 (f175 x1 s) (fun s5 => some s5)
set_option maxRecDepth 100000 in
theorem k178 {X : mX} {D : Nat} {x1 : Int32} {s : zS} {r : zS}  (h : f178 x1 s = some r) : Ev X (D + 1) mm178 0 [some (.ref 24), some (.int x1), none] [] (mk s) (encV r) := by
  unfold f178 at h
  refine Ev.run (pc' := 4) (ls' := [some (.ref 24), some (.int x1), none]) (st' := [.int (zi 128), .int x1]) (h' := mk s) 2 rfl ?_
  refine Ev.icmp_ge (t := 13) rfl rfl (fun hb => ?_) (fun hb => ?_)
  · have h := (if_pos hb).symm.trans h
    refine Ev.run (pc' := 22) (ls' := [some (.ref 24), some (.int x1), some (.int (s.1 24 31))]) (st' := [.int (zi 2048), .int x1]) (h' := mk s) 5 rfl ?_
    refine Ev.icmp_ge (t := 40) rfl rfl (fun hb => ?_) (fun hb => ?_)
    · have h := (if_pos hb).symm.trans h
      refine Ev.run (pc' := 43) (ls' := [some (.ref 24), some (.int x1), some (.int (s.1 24 31))]) (st' := [.int (zi 65536), .int x1]) (h' := mk s) 2 rfl ?_
      refine Ev.icmp_ge (t := 61) rfl rfl (fun hb => ?_) (fun hb => ?_)
      · have h := (if_pos hb).symm.trans h
        refine Ev.run (pc' := 70) (ls' := [some (.ref 24), some (.int x1), some (.int (s.1 24 31))]) (st' := [.int ((zi 240) ||| (zshr x1 (zi 18))), .ref 24]) (h' := mk s) 6 rfl ?_
        obtain ⟨s1, hq, h⟩ := zb0_some h
        refine Ev.call (M' := mm175) (v := none) (h' := mk s1) rfl rfl rfl (Nat.le_of_ble_eq_true rfl) (k175 hq) ?_
        refine Ev.run (pc' := 85) (ls' := [some (.ref 24), some (.int x1), some (.int (s.1 24 31))]) (st' := [.int ((zi 128) ||| ((zshr x1 (zi 12)) &&& (zi 63))), .ref 24]) (h' := mk s1) 8 rfl ?_
        obtain ⟨s2, hq, h⟩ := zb0_some h
        refine Ev.call (M' := mm175) (v := none) (h' := mk s2) rfl rfl rfl (Nat.le_of_ble_eq_true rfl) (k175 hq) ?_
        exact k178_88 x1 (s.1 24 31) s2 _ h
      · have h := (if_neg hb).symm.trans h
        refine Ev.run (pc' := 55) (ls' := [some (.ref 24), some (.int x1), some (.int (s.1 24 31))]) (st' := [.int ((zi 224) ||| (zshr x1 (zi 12))), .ref 24]) (h' := mk s) 6 rfl ?_
        obtain ⟨s3, hq, h⟩ := zb0_some h
        refine Ev.call (M' := mm175) (v := none) (h' := mk s3) rfl rfl rfl (Nat.le_of_ble_eq_true rfl) (k175 hq) ?_
        refine Ev.run (pc' := 88) (ls' := [some (.ref 24), some (.int x1), some (.int (s.1 24 31))]) (st' := []) (h' := mk s3) 1 rfl ?_
        exact k178_88 x1 (s.1 24 31) s3 _ h
    · have h := (if_neg hb).symm.trans h
      refine Ev.run (pc' := 34) (ls' := [some (.ref 24), some (.int x1), some (.int (s.1 24 31))]) (st' := [.int ((zi 192) ||| (zshr x1 (zi 6))), .ref 24]) (h' := mk s) 6 rfl ?_
      obtain ⟨s4, hq, h⟩ := zb0_some h
      refine Ev.call (M' := mm175) (v := none) (h' := mk s4) rfl rfl rfl (Nat.le_of_ble_eq_true rfl) (k175 hq) ?_
      refine Ev.run (pc' := 103) (ls' := [some (.ref 24), some (.int x1), some (.int (s.1 24 31))]) (st' := []) (h' := mk s4) 1 rfl ?_
      exact k178_103 x1 (s.1 24 31) s4 _ h
  · have h := (if_neg hb).symm.trans h
    refine Ev.run (pc' := 9) (ls' := [some (.ref 24), some (.int x1), none]) (st' := [.int x1, .ref 24]) (h' := mk s) 2 rfl ?_
    obtain ⟨s5, hq, h⟩ := zb0_some h
    refine Ev.call (M' := mm175) (v := none) (h' := mk s5) rfl rfl rfl (Nat.le_of_ble_eq_true rfl) (k175 hq) ?_
    first | (obtain rfl := Option.some.inj h) | (cases h)
    exact Ev.fin rfl rfl
/-! 179 FModel.shortText(JZ)V -/
def f179_426  (y1 : Int64) (s : zS) : Option (zS) := zb0 (f177 y1 (zi 1) s) (fun s1 => some s1)
set_option maxRecDepth 100000 in
theorem k179_426 {X : mX} {D : Nat}   (y1 : Int64) (s : zS) (r : zS) (o0 : Option Value) (o1 : Option Value) (o2 : Option Value) (o3 : Option Value) (o4 : Option Value) (o5 : Option Value) (o6 : Option Value) (o7 : Option Value)  (h : f179_426  y1 s = some r) : Ev X (D + 6) mm179 426 [o0, o1, o2, o3, o4, o5, o6, o7] [.long y1, .ref 24] (mk s) (encV r) := by
  unfold f179_426 at h
  refine Ev.run (pc' := 427) (ls' := [o0, o1, o2, o3, o4, o5, o6, o7]) (st' := [.int (zi 1), .long y1, .ref 24]) (h' := mk s) 1 rfl ?_
  obtain ⟨s1, hq, h⟩ := zb0_some h
  refine Ev.call (M' := mm177) (v := none) (h' := mk s1) rfl rfl rfl (Nat.le_of_ble_eq_true rfl) (k177 hq) ?_
  first | (obtain rfl := Option.some.inj h) | (cases h)
  exact Ev.fin rfl rfl
def f179_404   (s : zS) : Option (zS) := if (s.1 24 27) ≥ zi 0 then f179_426 (zI2L (s.1 24 27)) s else f179_426 (zI2L (-(s.1 24 27))) s
set_option maxRecDepth 100000 in
theorem k179_404 {X : mX} {D : Nat}    (s : zS) (r : zS) (o1 : Option Value) (o2 : Option Value) (o3 : Option Value) (o4 : Option Value) (o5 : Option Value) (o6 : Option Value) (o7 : Option Value)  (h : f179_404   s = some r) : Ev X (D + 6) mm179 404 [some (.ref 24), o1, o2, o3, o4, o5, o6, o7] [] (mk s) (encV r) := by
  unfold f179_404 at h
  refine Ev.run (pc' := 409) (ls' := [some (.ref 24), o1, o2, o3, o4, o5, o6, o7]) (st' := [.int (s.1 24 27), .ref 24]) (h' := mk s) 3 rfl ?_
  refine Ev.if_ge (t := 421) rfl rfl (fun hb => ?_) (fun hb => ?_)
  · have h := (if_pos hb).symm.trans h
    refine Ev.run (pc' := 426) (ls' := [some (.ref 24), o1, o2, o3, o4, o5, o6, o7]) (st' := [.long (zI2L (s.1 24 27)), .ref 24]) (h' := mk s) 3 rfl ?_
    exact k179_426 (zI2L (s.1 24 27)) s _ _ _ _ _ _ _ _ _ h
  · have h := (if_neg hb).symm.trans h
    refine Ev.run (pc' := 426) (ls' := [some (.ref 24), o1, o2, o3, o4, o5, o6, o7]) (st' := [.long (zI2L (-(s.1 24 27))), .ref 24]) (h' := mk s) 5 rfl ?_
    exact k179_426 (zI2L (-(s.1 24 27))) s _ _ _ _ _ _ _ _ _ h
def b179_350 (rec350 : Int32 → Int32 → zS → Option (zS)) (x6 : Int32) (x7 : Int32) (s : zS) : Option (zS) := if x7 < (r265 x6 ((s.1 24 27) - (zi 1)) s) then zb0 (f175 (zi 69) s) (fun s1 => if (s1.1 24 27) ≥ zi 0 then f179_404 s1 else zb0 (f175 (zi 45) s1) (fun s2 => f179_404 s2)) else zb1 (f165 x7 s) (fun v4 s3 => zb0 (f175 ((zi 48) + v4) s3) (fun s5 => rec350 x6 (x7 + zi (-1)) s5))
set_option maxRecDepth 100000 in
theorem kb179_350 {X : mX} {D : Nat} {rec350 : Int32 → Int32 → zS → Option (zS)} (hrec350 : ∀ (x6 : Int32) (x7 : Int32) (s : zS) (r : zS) (o1 : Option Value) (o2 : Option Value) (o3 : Option Value) (o4 : Option Value) (o5 : Option Value), rec350 x6 x7 s = some r → Ev X (D + 6) mm179 350 [some (.ref 24), o1, o2, o3, o4, o5, some (.int x6), some (.int x7)] [] (mk s) (encV r)) (x6 : Int32) (x7 : Int32) (s : zS) (r : zS) (o1 : Option Value) (o2 : Option Value) (o3 : Option Value) (o4 : Option Value) (o5 : Option Value)  (h : b179_350 rec350 x6 x7 s = some r) : Ev X (D + 6) mm179 350 [some (.ref 24), o1, o2, o3, o4, o5, some (.int x6), some (.int x7)] [] (mk s) (encV r) := by
  unfold b179_350 at h
  refine Ev.run (pc' := 360) (ls' := [some (.ref 24), o1, o2, o3, o4, o5, some (.int x6), some (.int x7)]) (st' := [.int ((s.1 24 27) - (zi 1)), .int x6, .int x7]) (h' := mk s) 6 rfl ?_
  refine Ev.call (M' := mm265) (v := some (.int (r265 x6 ((s.1 24 27) - (zi 1)) s))) (h' := mk s) rfl rfl rfl (Nat.le_of_ble_eq_true rfl) (k265 (x0 := x6) (x1 := ((s.1 24 27) - (zi 1))) (s := s) (v := r265 x6 ((s.1 24 27) - (zi 1)) s)  rfl) ?_
  refine Ev.icmp_lt (t := 385) rfl rfl (fun hb => ?_) (fun hb => ?_)
  · have h := (if_pos hb).symm.trans h
    refine Ev.run (pc' := 388) (ls' := [some (.ref 24), o1, o2, o3, o4, o5, some (.int x6), some (.int x7)]) (st' := [.int (zi 69), .ref 24]) (h' := mk s) 2 rfl ?_
    obtain ⟨s1, hq, h⟩ := zb0_some h
    refine Ev.call (M' := mm175) (v := none) (h' := mk s1) rfl rfl rfl (Nat.le_of_ble_eq_true rfl) (k175 hq) ?_
    refine Ev.run (pc' := 395) (ls' := [some (.ref 24), o1, o2, o3, o4, o5, some (.int x6), some (.int x7)]) (st' := [.int (s1.1 24 27)]) (h' := mk s1) 2 rfl ?_
    refine Ev.if_ge (t := 404) rfl rfl (fun hb => ?_) (fun hb => ?_)
    · have h := (if_pos hb).symm.trans h
      exact k179_404 s1 _ _ _ _ _ _ _ _ h
    · have h := (if_neg hb).symm.trans h
      refine Ev.run (pc' := 401) (ls' := [some (.ref 24), o1, o2, o3, o4, o5, some (.int x6), some (.int x7)]) (st' := [.int (zi 45), .ref 24]) (h' := mk s1) 2 rfl ?_
      obtain ⟨s2, hq, h⟩ := zb0_some h
      refine Ev.call (M' := mm175) (v := none) (h' := mk s2) rfl rfl rfl (Nat.le_of_ble_eq_true rfl) (k175 hq) ?_
      exact k179_404 s2 _ _ _ _ _ _ _ _ h
  · have h := (if_neg hb).symm.trans h
    refine Ev.run (pc' := 372) (ls' := [some (.ref 24), o1, o2, o3, o4, o5, some (.int x6), some (.int x7)]) (st' := [.int x7, .ref 24, .int (zi 48), .ref 24]) (h' := mk s) 4 rfl ?_
    obtain ⟨v4, s3, hq, h⟩ := zb1_some h
    refine Ev.call (M' := mm165) (v := some (.int v4)) (h' := mk s3) rfl rfl rfl (Nat.le_of_ble_eq_true rfl) (k165 hq) ?_
    refine Ev.run (pc' := 376) (ls' := [some (.ref 24), o1, o2, o3, o4, o5, some (.int x6), some (.int x7)]) (st' := [.int ((zi 48) + v4), .ref 24]) (h' := mk s3) 1 rfl ?_
    obtain ⟨s5, hq, h⟩ := zb0_some h
    refine Ev.call (M' := mm175) (v := none) (h' := mk s5) rfl rfl rfl (Nat.le_of_ble_eq_true rfl) (k175 hq) ?_
    refine Ev.run (pc' := 350) (ls' := [some (.ref 24), o1, o2, o3, o4, o5, some (.int x6), some (.int (x7 + zi (-1)))]) (st' := []) (h' := mk s5) 2 rfl ?_
    exact hrec350 x6 (x7 + zi (-1)) s5 _ _ _ _ _ _ h
def f179_350  : Nat → Int32 → Int32 → zS → Option (zS)
  | 0, _, _, _ => none
  | n + 1, x6, x7, s => b179_350 (f179_350 n) x6 x7 s
set_option maxRecDepth 100000 in
theorem k179_350 {X : mX} {D : Nat}   (n : Nat) : ∀ (x6 : Int32) (x7 : Int32) (s : zS) (r : zS) (o1 : Option Value) (o2 : Option Value) (o3 : Option Value) (o4 : Option Value) (o5 : Option Value), f179_350  n x6 x7 s = some r → Ev X (D + 6) mm179 350 [some (.ref 24), o1, o2, o3, o4, o5, some (.int x6), some (.int x7)] [] (mk s) (encV r) := by
  induction n with
  | zero => intro x6 x7 s r o1 o2 o3 o4 o5  h; cases h
  | succ n ih => intro x6 x7 s r o1 o2 o3 o4 o5  h; exact kb179_350  ih x6 x7 s r o1 o2 o3 o4 o5  h
def f179_321  (x6 : Int32) (s : zS) : Option (zS) := zb1 (f165 (s.1 24 27) s) (fun v2 s1 => zb0 (f175 ((zi 48) + v2) s1) (fun s3 => zb0 (f175 (zi 46) s3) (fun s4 => f179_350 zF x6 ((s4.1 24 27) - (zi 1)) s4)))
set_option maxRecDepth 100000 in
theorem k179_321 {X : mX} {D : Nat}   (x6 : Int32) (s : zS) (r : zS) (o1 : Option Value) (o2 : Option Value) (o3 : Option Value) (o4 : Option Value) (o5 : Option Value) (o7 : Option Value)  (h : f179_321  x6 s = some r) : Ev X (D + 6) mm179 321 [some (.ref 24), o1, o2, o3, o4, o5, some (.int x6), o7] [] (mk s) (encV r) := by
  unfold f179_321 at h
  refine Ev.run (pc' := 329) (ls' := [some (.ref 24), o1, o2, o3, o4, o5, some (.int x6), o7]) (st' := [.int (s.1 24 27), .ref 24, .int (zi 48), .ref 24]) (h' := mk s) 5 rfl ?_
  obtain ⟨v2, s1, hq, h⟩ := zb1_some h
  refine Ev.call (M' := mm165) (v := some (.int v2)) (h' := mk s1) rfl rfl rfl (Nat.le_of_ble_eq_true rfl) (k165 hq) ?_
  refine Ev.run (pc' := 333) (ls' := [some (.ref 24), o1, o2, o3, o4, o5, some (.int x6), o7]) (st' := [.int ((zi 48) + v2), .ref 24]) (h' := mk s1) 1 rfl ?_
  obtain ⟨s3, hq, h⟩ := zb0_some h
  refine Ev.call (M' := mm175) (v := none) (h' := mk s3) rfl rfl rfl (Nat.le_of_ble_eq_true rfl) (k175 hq) ?_
  refine Ev.run (pc' := 339) (ls' := [some (.ref 24), o1, o2, o3, o4, o5, some (.int x6), o7]) (st' := [.int (zi 46), .ref 24]) (h' := mk s3) 2 rfl ?_
  obtain ⟨s4, hq, h⟩ := zb0_some h
  refine Ev.call (M' := mm175) (v := none) (h' := mk s4) rfl rfl rfl (Nat.le_of_ble_eq_true rfl) (k175 hq) ?_
  refine Ev.run (pc' := 350) (ls' := [some (.ref 24), o1, o2, o3, o4, o5, some (.int x6), some (.int ((s4.1 24 27) - (zi 1)))]) (st' := []) (h' := mk s4) 5 rfl ?_
  exact k179_350 zF x6 ((s4.1 24 27) - (zi 1)) s4 _ _ _ _ _ _ h
def b179_290 (rec290 : Int32 → Int32 → zS → Option (zS)) (x6 : Int32) (x7 : Int32) (s : zS) : Option (zS) := if x7 < (r265 x6 (zi (-1)) s) then some s else zb1 (f165 x7 s) (fun v2 s1 => zb0 (f175 ((zi 48) + v2) s1) (fun s3 => rec290 x6 (x7 + zi (-1)) s3))
set_option maxRecDepth 100000 in
theorem kb179_290 {X : mX} {D : Nat} {rec290 : Int32 → Int32 → zS → Option (zS)} (hrec290 : ∀ (x6 : Int32) (x7 : Int32) (s : zS) (r : zS) (o1 : Option Value) (o2 : Option Value) (o3 : Option Value) (o4 : Option Value) (o5 : Option Value), rec290 x6 x7 s = some r → Ev X (D + 6) mm179 290 [some (.ref 24), o1, o2, o3, o4, o5, some (.int x6), some (.int x7)] [] (mk s) (encV r)) (x6 : Int32) (x7 : Int32) (s : zS) (r : zS) (o1 : Option Value) (o2 : Option Value) (o3 : Option Value) (o4 : Option Value) (o5 : Option Value)  (h : b179_290 rec290 x6 x7 s = some r) : Ev X (D + 6) mm179 290 [some (.ref 24), o1, o2, o3, o4, o5, some (.int x6), some (.int x7)] [] (mk s) (encV r) := by
  unfold b179_290 at h
  refine Ev.run (pc' := 295) (ls' := [some (.ref 24), o1, o2, o3, o4, o5, some (.int x6), some (.int x7)]) (st' := [.int (zi (-1)), .int x6, .int x7]) (h' := mk s) 3 rfl ?_
  refine Ev.call (M' := mm265) (v := some (.int (r265 x6 (zi (-1)) s))) (h' := mk s) rfl rfl rfl (Nat.le_of_ble_eq_true rfl) (k265 (x0 := x6) (x1 := (zi (-1))) (s := s) (v := r265 x6 (zi (-1)) s)  rfl) ?_
  refine Ev.icmp_lt (t := 320) rfl rfl (fun hb => ?_) (fun hb => ?_)
  · have h := (if_pos hb).symm.trans h
    first | (obtain rfl := Option.some.inj h) | (cases h)
    exact Ev.fin rfl rfl
  · have h := (if_neg hb).symm.trans h
    refine Ev.run (pc' := 307) (ls' := [some (.ref 24), o1, o2, o3, o4, o5, some (.int x6), some (.int x7)]) (st' := [.int x7, .ref 24, .int (zi 48), .ref 24]) (h' := mk s) 4 rfl ?_
    obtain ⟨v2, s1, hq, h⟩ := zb1_some h
    refine Ev.call (M' := mm165) (v := some (.int v2)) (h' := mk s1) rfl rfl rfl (Nat.le_of_ble_eq_true rfl) (k165 hq) ?_
    refine Ev.run (pc' := 311) (ls' := [some (.ref 24), o1, o2, o3, o4, o5, some (.int x6), some (.int x7)]) (st' := [.int ((zi 48) + v2), .ref 24]) (h' := mk s1) 1 rfl ?_
    obtain ⟨s3, hq, h⟩ := zb0_some h
    refine Ev.call (M' := mm175) (v := none) (h' := mk s3) rfl rfl rfl (Nat.le_of_ble_eq_true rfl) (k175 hq) ?_
    refine Ev.run (pc' := 290) (ls' := [some (.ref 24), o1, o2, o3, o4, o5, some (.int x6), some (.int (x7 + zi (-1)))]) (st' := []) (h' := mk s3) 2 rfl ?_
    exact hrec290 x6 (x7 + zi (-1)) s3 _ _ _ _ _ _ h
def f179_290  : Nat → Int32 → Int32 → zS → Option (zS)
  | 0, _, _, _ => none
  | n + 1, x6, x7, s => b179_290 (f179_290 n) x6 x7 s
set_option maxRecDepth 100000 in
theorem k179_290 {X : mX} {D : Nat}   (n : Nat) : ∀ (x6 : Int32) (x7 : Int32) (s : zS) (r : zS) (o1 : Option Value) (o2 : Option Value) (o3 : Option Value) (o4 : Option Value) (o5 : Option Value), f179_290  n x6 x7 s = some r → Ev X (D + 6) mm179 290 [some (.ref 24), o1, o2, o3, o4, o5, some (.int x6), some (.int x7)] [] (mk s) (encV r) := by
  induction n with
  | zero => intro x6 x7 s r o1 o2 o3 o4 o5  h; cases h
  | succ n ih => intro x6 x7 s r o1 o2 o3 o4 o5  h; exact kb179_290  ih x6 x7 s r o1 o2 o3 o4 o5  h
def b179_257 (rec257 : Int32 → Int32 → zS → Option (zS)) (x6 : Int32) (x7 : Int32) (s : zS) : Option (zS) := if x7 < zi 0 then zb0 (f175 (zi 46) s) (fun s1 => f179_290 zF x6 (zi (-1)) s1) else zb1 (f165 x7 s) (fun v3 s2 => zb0 (f175 ((zi 48) + v3) s2) (fun s4 => rec257 x6 (x7 + zi (-1)) s4))
set_option maxRecDepth 100000 in
theorem kb179_257 {X : mX} {D : Nat} {rec257 : Int32 → Int32 → zS → Option (zS)} (hrec257 : ∀ (x6 : Int32) (x7 : Int32) (s : zS) (r : zS) (o1 : Option Value) (o2 : Option Value) (o3 : Option Value) (o4 : Option Value) (o5 : Option Value), rec257 x6 x7 s = some r → Ev X (D + 6) mm179 257 [some (.ref 24), o1, o2, o3, o4, o5, some (.int x6), some (.int x7)] [] (mk s) (encV r)) (x6 : Int32) (x7 : Int32) (s : zS) (r : zS) (o1 : Option Value) (o2 : Option Value) (o3 : Option Value) (o4 : Option Value) (o5 : Option Value)  (h : b179_257 rec257 x6 x7 s = some r) : Ev X (D + 6) mm179 257 [some (.ref 24), o1, o2, o3, o4, o5, some (.int x6), some (.int x7)] [] (mk s) (encV r) := by
  unfold b179_257 at h
  refine Ev.run (pc' := 259) (ls' := [some (.ref 24), o1, o2, o3, o4, o5, some (.int x6), some (.int x7)]) (st' := [.int x7]) (h' := mk s) 1 rfl ?_
  refine Ev.if_lt (t := 281) rfl rfl (fun hb => ?_) (fun hb => ?_)
  · have h := (if_pos hb).symm.trans h
    refine Ev.run (pc' := 284) (ls' := [some (.ref 24), o1, o2, o3, o4, o5, some (.int x6), some (.int x7)]) (st' := [.int (zi 46), .ref 24]) (h' := mk s) 2 rfl ?_
    obtain ⟨s1, hq, h⟩ := zb0_some h
    refine Ev.call (M' := mm175) (v := none) (h' := mk s1) rfl rfl rfl (Nat.le_of_ble_eq_true rfl) (k175 hq) ?_
    refine Ev.run (pc' := 290) (ls' := [some (.ref 24), o1, o2, o3, o4, o5, some (.int x6), some (.int (zi (-1)))]) (st' := []) (h' := mk s1) 2 rfl ?_
    exact k179_290 zF x6 (zi (-1)) s1 _ _ _ _ _ _ h
  · have h := (if_neg hb).symm.trans h
    refine Ev.run (pc' := 268) (ls' := [some (.ref 24), o1, o2, o3, o4, o5, some (.int x6), some (.int x7)]) (st' := [.int x7, .ref 24, .int (zi 48), .ref 24]) (h' := mk s) 4 rfl ?_
    obtain ⟨v3, s2, hq, h⟩ := zb1_some h
    refine Ev.call (M' := mm165) (v := some (.int v3)) (h' := mk s2) rfl rfl rfl (Nat.le_of_ble_eq_true rfl) (k165 hq) ?_
    refine Ev.run (pc' := 272) (ls' := [some (.ref 24), o1, o2, o3, o4, o5, some (.int x6), some (.int x7)]) (st' := [.int ((zi 48) + v3), .ref 24]) (h' := mk s2) 1 rfl ?_
    obtain ⟨s4, hq, h⟩ := zb0_some h
    refine Ev.call (M' := mm175) (v := none) (h' := mk s4) rfl rfl rfl (Nat.le_of_ble_eq_true rfl) (k175 hq) ?_
    refine Ev.run (pc' := 257) (ls' := [some (.ref 24), o1, o2, o3, o4, o5, some (.int x6), some (.int (x7 + zi (-1)))]) (st' := []) (h' := mk s4) 2 rfl ?_
    exact hrec257 x6 (x7 + zi (-1)) s4 _ _ _ _ _ _ h
def f179_257  : Nat → Int32 → Int32 → zS → Option (zS)
  | 0, _, _, _ => none
  | n + 1, x6, x7, s => b179_257 (f179_257 n) x6 x7 s
set_option maxRecDepth 100000 in
theorem k179_257 {X : mX} {D : Nat}   (n : Nat) : ∀ (x6 : Int32) (x7 : Int32) (s : zS) (r : zS) (o1 : Option Value) (o2 : Option Value) (o3 : Option Value) (o4 : Option Value) (o5 : Option Value), f179_257  n x6 x7 s = some r → Ev X (D + 6) mm179 257 [some (.ref 24), o1, o2, o3, o4, o5, some (.int x6), some (.int x7)] [] (mk s) (encV r) := by
  induction n with
  | zero => intro x6 x7 s r o1 o2 o3 o4 o5  h; cases h
  | succ n ih => intro x6 x7 s r o1 o2 o3 o4 o5  h; exact kb179_257  ih x6 x7 s r o1 o2 o3 o4 o5  h
def f179_229  (x6 : Int32) (s : zS) : Option (zS) := if (s.1 24 27) < (zi (-3)) then f179_321 x6 s else if (s.1 24 27) ≥ (zi 7) then f179_321 x6 s else f179_257 zF x6 (r264 (s.1 24 27) (zi 0) s) s
set_option maxRecDepth 100000 in
theorem k179_229 {X : mX} {D : Nat}   (x6 : Int32) (s : zS) (r : zS) (o1 : Option Value) (o2 : Option Value) (o3 : Option Value) (o4 : Option Value) (o5 : Option Value) (o7 : Option Value)  (h : f179_229  x6 s = some r) : Ev X (D + 6) mm179 229 [some (.ref 24), o1, o2, o3, o4, o5, some (.int x6), o7] [] (mk s) (encV r) := by
  unfold f179_229 at h
  refine Ev.run (pc' := 235) (ls' := [some (.ref 24), o1, o2, o3, o4, o5, some (.int x6), o7]) (st' := [.int (zi (-3)), .int (s.1 24 27)]) (h' := mk s) 3 rfl ?_
  refine Ev.icmp_lt (t := 321) rfl rfl (fun hb => ?_) (fun hb => ?_)
  · have h := (if_pos hb).symm.trans h
    exact k179_321 x6 s _ _ _ _ _ _ _ h
  · have h := (if_neg hb).symm.trans h
    refine Ev.run (pc' := 244) (ls' := [some (.ref 24), o1, o2, o3, o4, o5, some (.int x6), o7]) (st' := [.int (zi 7), .int (s.1 24 27)]) (h' := mk s) 3 rfl ?_
    refine Ev.icmp_ge (t := 321) rfl rfl (fun hb => ?_) (fun hb => ?_)
    · have h := (if_pos hb).symm.trans h
      exact k179_321 x6 s _ _ _ _ _ _ _ h
    · have h := (if_neg hb).symm.trans h
      refine Ev.run (pc' := 252) (ls' := [some (.ref 24), o1, o2, o3, o4, o5, some (.int x6), o7]) (st' := [.int (zi 0), .int (s.1 24 27)]) (h' := mk s) 3 rfl ?_
      refine Ev.call (M' := mm264) (v := some (.int (r264 (s.1 24 27) (zi 0) s))) (h' := mk s) rfl rfl rfl (Nat.le_of_ble_eq_true rfl) (k264 (x0 := (s.1 24 27)) (x1 := (zi 0)) (s := s) (v := r264 (s.1 24 27) (zi 0) s)  rfl) ?_
      refine Ev.run (pc' := 257) (ls' := [some (.ref 24), o1, o2, o3, o4, o5, some (.int x6), some (.int (r264 (s.1 24 27) (zi 0) s))]) (st' := []) (h' := mk s) 1 rfl ?_
      exact k179_257 zF x6 (r264 (s.1 24 27) (zi 0) s) s _ _ _ _ _ _ h
def b179_205 (rec205 : Int32 → zS → Option (zS)) (x6 : Int32) (s : zS) : Option (zS) := if x6 ≥ (s.1 24 27) then f179_229 x6 s else zb1 (f165 x6 s) (fun v2 s1 => if ¬ v2 = zi 0 then f179_229 x6 s1 else rec205 (x6 + zi 1) s1)
set_option maxRecDepth 100000 in
theorem kb179_205 {X : mX} {D : Nat} {rec205 : Int32 → zS → Option (zS)} (hrec205 : ∀ (x6 : Int32) (s : zS) (r : zS) (o1 : Option Value) (o2 : Option Value) (o3 : Option Value) (o4 : Option Value) (o7 : Option Value), rec205 x6 s = some r → Ev X (D + 6) mm179 205 [some (.ref 24), o1, o2, o3, o4, none, some (.int x6), o7] [] (mk s) (encV r)) (x6 : Int32) (s : zS) (r : zS) (o1 : Option Value) (o2 : Option Value) (o3 : Option Value) (o4 : Option Value) (o7 : Option Value)  (h : b179_205 rec205 x6 s = some r) : Ev X (D + 6) mm179 205 [some (.ref 24), o1, o2, o3, o4, none, some (.int x6), o7] [] (mk s) (encV r) := by
  unfold b179_205 at h
  refine Ev.run (pc' := 211) (ls' := [some (.ref 24), o1, o2, o3, o4, none, some (.int x6), o7]) (st' := [.int (s.1 24 27), .int x6]) (h' := mk s) 3 rfl ?_
  refine Ev.icmp_ge (t := 229) rfl rfl (fun hb => ?_) (fun hb => ?_)
  · have h := (if_pos hb).symm.trans h
    exact k179_229 x6 s _ _ _ _ _ _ _ h
  · have h := (if_neg hb).symm.trans h
    refine Ev.run (pc' := 217) (ls' := [some (.ref 24), o1, o2, o3, o4, none, some (.int x6), o7]) (st' := [.int x6, .ref 24]) (h' := mk s) 2 rfl ?_
    obtain ⟨v2, s1, hq, h⟩ := zb1_some h
    refine Ev.call (M' := mm165) (v := some (.int v2)) (h' := mk s1) rfl rfl rfl (Nat.le_of_ble_eq_true rfl) (k165 hq) ?_
    refine Ev.if_ne (t := 229) rfl rfl (fun hb => ?_) (fun hb => ?_)
    · have h := (if_pos hb).symm.trans h
      exact k179_229 x6 s1 _ _ _ _ _ _ _ h
    · have h := (if_neg hb).symm.trans h
      refine Ev.run (pc' := 205) (ls' := [some (.ref 24), o1, o2, o3, o4, none, some (.int (x6 + zi 1)), o7]) (st' := []) (h' := mk s1) 2 rfl ?_
      exact hrec205 (x6 + zi 1) s1 _ _ _ _ _ _ h
def f179_205  : Nat → Int32 → zS → Option (zS)
  | 0, _, _ => none
  | n + 1, x6, s => b179_205 (f179_205 n) x6 s
set_option maxRecDepth 100000 in
theorem k179_205 {X : mX} {D : Nat}   (n : Nat) : ∀ (x6 : Int32) (s : zS) (r : zS) (o1 : Option Value) (o2 : Option Value) (o3 : Option Value) (o4 : Option Value) (o7 : Option Value), f179_205  n x6 s = some r → Ev X (D + 6) mm179 205 [some (.ref 24), o1, o2, o3, o4, none, some (.int x6), o7] [] (mk s) (encV r) := by
  induction n with
  | zero => intro x6 s r o1 o2 o3 o4 o7  h; cases h
  | succ n ih => intro x6 s r o1 o2 o3 o4 o7  h; exact kb179_205  ih x6 s r o1 o2 o3 o4 o7  h
def f179_192   (s : zS) : Option (zS) := f179_205 zF (((s.1 24 27) - (s.1 24 28)) + (zi 1)) s
set_option maxRecDepth 100000 in
theorem k179_192 {X : mX} {D : Nat}    (s : zS) (r : zS) (o1 : Option Value) (o2 : Option Value) (o3 : Option Value) (o4 : Option Value) (o6 : Option Value) (o7 : Option Value)  (h : f179_192   s = some r) : Ev X (D + 6) mm179 192 [some (.ref 24), o1, o2, o3, o4, none, o6, o7] [] (mk s) (encV r) := by
  unfold f179_192 at h
  refine Ev.run (pc' := 205) (ls' := [some (.ref 24), o1, o2, o3, o4, none, some (.int (((s.1 24 27) - (s.1 24 28)) + (zi 1))), o7]) (st' := []) (h' := mk s) 8 rfl ?_
  exact k179_205 zF (((s.1 24 27) - (s.1 24 28)) + (zi 1)) s _ _ _ _ _ _ h
def f179_189  (y1 : Int64) (y2 : Int32) (y3 : Int32) (s : zS) : Option (zS) := zb0 (f171 y1 y2 y3 s) (fun s1 => f179_192 s1)
set_option maxRecDepth 100000 in
theorem k179_189 {X : mX} {D : Nat}   (y1 : Int64) (y2 : Int32) (y3 : Int32) (s : zS) (r : zS) (o1 : Option Value) (o2 : Option Value) (o3 : Option Value) (o4 : Option Value) (o6 : Option Value) (o7 : Option Value)  (h : f179_189  y1 y2 y3 s = some r) : Ev X (D + 6) mm179 189 [some (.ref 24), o1, o2, o3, o4, none, o6, o7] [.int y3, .int y2, .long y1, .ref 24] (mk s) (encV r) := by
  unfold f179_189 at h
  obtain ⟨s1, hq, h⟩ := zb0_some h
  refine Ev.call (M' := mm171) (v := none) (h' := mk s1) rfl rfl rfl (Nat.le_of_ble_eq_true rfl) (k171 hq) ?_
  exact k179_192 s1 _ _ _ _ _ _ _ h
def f179_142  (y1 : Int64) (y2 : Int32) (y3 : Int32) (s : zS) : Option (zS) := zb0 (f171 y1 y2 y3 s) (fun s1 => f179_192 s1)
set_option maxRecDepth 100000 in
theorem k179_142 {X : mX} {D : Nat}   (y1 : Int64) (y2 : Int32) (y3 : Int32) (s : zS) (r : zS) (o1 : Option Value) (o2 : Option Value) (o3 : Option Value) (o4 : Option Value) (o6 : Option Value) (o7 : Option Value)  (h : f179_142  y1 y2 y3 s = some r) : Ev X (D + 6) mm179 142 [some (.ref 24), o1, o2, o3, o4, none, o6, o7] [.int y3, .int y2, .long y1, .ref 24] (mk s) (encV r) := by
  unfold f179_142 at h
  obtain ⟨s1, hq, h⟩ := zb0_some h
  refine Ev.call (M' := mm171) (v := none) (h' := mk s1) rfl rfl rfl (Nat.le_of_ble_eq_true rfl) (k171 hq) ?_
  refine Ev.run (pc' := 192) (ls' := [some (.ref 24), o1, o2, o3, o4, none, o6, o7]) (st' := []) (h' := mk s1) 1 rfl ?_
  exact k179_192 s1 _ _ _ _ _ _ _ h
def f179_116  (x6 : Int32) (x7 : Int32) (y1 : Int64) (s : zS) : Option (zS) := if ¬ x6 = zi 0 then f179_142 y1 ((r264 x7 (zi 1) s) - (zi 150)) (zi 0) s else if x7 ≤ (zi 1) then f179_142 y1 ((r264 x7 (zi 1) s) - (zi 150)) (zi 0) s else f179_142 y1 ((r264 x7 (zi 1) s) - (zi 150)) (zi 1) s
set_option maxRecDepth 100000 in
theorem k179_116 {X : mX} {D : Nat}   (x6 : Int32) (x7 : Int32) (y1 : Int64) (s : zS) (r : zS) (o1 : Option Value) (o2 : Option Value) (o3 : Option Value) (o4 : Option Value)  (h : f179_116  x6 x7 y1 s = some r) : Ev X (D + 6) mm179 116 [some (.ref 24), o1, o2, o3, o4, none, some (.int x6), some (.int x7)] [.long y1, .ref 24] (mk s) (encV r) := by
  unfold f179_116 at h
  refine Ev.run (pc' := 119) (ls' := [some (.ref 24), o1, o2, o3, o4, none, some (.int x6), some (.int x7)]) (st' := [.int (zi 1), .int x7, .long y1, .ref 24]) (h' := mk s) 2 rfl ?_
  refine Ev.call (M' := mm264) (v := some (.int (r264 x7 (zi 1) s))) (h' := mk s) rfl rfl rfl (Nat.le_of_ble_eq_true rfl) (k264 (x0 := x7) (x1 := (zi 1)) (s := s) (v := r264 x7 (zi 1) s)  rfl) ?_
  refine Ev.run (pc' := 128) (ls' := [some (.ref 24), o1, o2, o3, o4, none, some (.int x6), some (.int x7)]) (st' := [.int x6, .int ((r264 x7 (zi 1) s) - (zi 150)), .long y1, .ref 24]) (h' := mk s) 3 rfl ?_
  refine Ev.if_ne (t := 141) rfl rfl (fun hb => ?_) (fun hb => ?_)
  · have h := (if_pos hb).symm.trans h
    refine Ev.run (pc' := 142) (ls' := [some (.ref 24), o1, o2, o3, o4, none, some (.int x6), some (.int x7)]) (st' := [.int (zi 0), .int ((r264 x7 (zi 1) s) - (zi 150)), .long y1, .ref 24]) (h' := mk s) 1 rfl ?_
    exact k179_142 y1 ((r264 x7 (zi 1) s) - (zi 150)) (zi 0) s _ _ _ _ _ _ _ h
  · have h := (if_neg hb).symm.trans h
    refine Ev.run (pc' := 134) (ls' := [some (.ref 24), o1, o2, o3, o4, none, some (.int x6), some (.int x7)]) (st' := [.int (zi 1), .int x7, .int ((r264 x7 (zi 1) s) - (zi 150)), .long y1, .ref 24]) (h' := mk s) 2 rfl ?_
    refine Ev.icmp_le (t := 141) rfl rfl (fun hb => ?_) (fun hb => ?_)
    · have h := (if_pos hb).symm.trans h
      refine Ev.run (pc' := 142) (ls' := [some (.ref 24), o1, o2, o3, o4, none, some (.int x6), some (.int x7)]) (st' := [.int (zi 0), .int ((r264 x7 (zi 1) s) - (zi 150)), .long y1, .ref 24]) (h' := mk s) 1 rfl ?_
      exact k179_142 y1 ((r264 x7 (zi 1) s) - (zi 150)) (zi 0) s _ _ _ _ _ _ _ h
    · have h := (if_neg hb).symm.trans h
      refine Ev.run (pc' := 142) (ls' := [some (.ref 24), o1, o2, o3, o4, none, some (.int x6), some (.int x7)]) (st' := [.int (zi 1), .int ((r264 x7 (zi 1) s) - (zi 150)), .long y1, .ref 24]) (h' := mk s) 2 rfl ?_
      exact k179_142 y1 ((r264 x7 (zi 1) s) - (zi 150)) (zi 1) s _ _ _ _ _ _ _ h
def f179_43  (x1 : Int64) (x3 : Int32) (x4 : Int64) (s : zS) : Option (zS) := if (r169 x4 s) = zi 0 then if ¬ (x4 &&& (zl 9223372036854775807)) = (zl 0) then if x3 = zi 0 then if ¬ (x4 &&& (zl 4503599627370495)) = (zl 0) then f179_189 (r166 x4 s) (r167 x4 s) (zi 0) s else if ((zshrL x4 (zi 52)) &&& (zl 2047)) ≤ (zl 1) then f179_189 (r166 x4 s) (r167 x4 s) (zi 0) s else f179_189 (r166 x4 s) (r167 x4 s) (zi 1) s else if ¬ ((zL2I (zshrL x1 (zi 23))) &&& (zi 255)) = zi 0 then f179_116 ((zL2I x1) &&& (zi 8388607)) ((zL2I (zshrL x1 (zi 23))) &&& (zi 255)) (zI2L (((zL2I x1) &&& (zi 8388607)) ||| (zi 8388608))) s else f179_116 ((zL2I x1) &&& (zi 8388607)) ((zL2I (zshrL x1 (zi 23))) &&& (zi 255)) (zI2L ((zL2I x1) &&& (zi 8388607))) s else zb0 (f176 65 s) (fun s1 => some s1) else zb0 (f176 64 s) (fun s2 => some s2)
set_option maxRecDepth 100000 in
theorem k179_43 {X : mX} {D : Nat}   (x1 : Int64) (x3 : Int32) (x4 : Int64) (s : zS) (r : zS) (o6 : Option Value) (o7 : Option Value)  (h : f179_43  x1 x3 x4 s = some r) : Ev X (D + 6) mm179 43 [some (.ref 24), some (.long x1), none, some (.int x3), some (.long x4), none, o6, o7] [] (mk s) (encV r) := by
  unfold f179_43 at h
  refine Ev.run (pc' := 45) (ls' := [some (.ref 24), some (.long x1), none, some (.int x3), some (.long x4), none, o6, o7]) (st' := [.long x4]) (h' := mk s) 1 rfl ?_
  refine Ev.call (M' := mm169) (v := some (.int (r169 x4 s))) (h' := mk s) rfl rfl rfl (Nat.le_of_ble_eq_true rfl) (k169 (x0 := x4) (s := s) (v := r169 x4 s)  rfl) ?_
  refine Ev.if_eq (t := 58) rfl rfl (fun hb => ?_) (fun hb => ?_)
  · have h := (if_pos hb).symm.trans h
    refine Ev.run (pc' := 66) (ls' := [some (.ref 24), some (.long x1), none, some (.int x3), some (.long x4), none, o6, o7]) (st' := [.int (lg_cmp (x4 &&& (zl 9223372036854775807)) (zl 0))]) (h' := mk s) 5 rfl ?_
    refine Ev.ifl_ne (t := 76) rfl rfl (fun hb => ?_) (fun hb => ?_)
    · have h := (if_pos hb).symm.trans h
      refine Ev.run (pc' := 77) (ls' := [some (.ref 24), some (.long x1), none, some (.int x3), some (.long x4), none, o6, o7]) (st' := [.int x3]) (h' := mk s) 1 rfl ?_
      refine Ev.if_eq (t := 148) rfl rfl (fun hb => ?_) (fun hb => ?_)
      · have h := (if_pos hb).symm.trans h
        refine Ev.run (pc' := 151) (ls' := [some (.ref 24), some (.long x1), none, some (.int x3), some (.long x4), none, o6, o7]) (st' := [.long x4, .ref 24]) (h' := mk s) 2 rfl ?_
        refine Ev.call (M' := mm166) (v := some (.long (r166 x4 s))) (h' := mk s) rfl rfl rfl (Nat.le_of_ble_eq_true rfl) (k166 (x0 := x4) (s := s) (v := r166 x4 s)  rfl) ?_
        refine Ev.run (pc' := 156) (ls' := [some (.ref 24), some (.long x1), none, some (.int x3), some (.long x4), none, o6, o7]) (st' := [.long x4, .long (r166 x4 s), .ref 24]) (h' := mk s) 1 rfl ?_
        refine Ev.call (M' := mm167) (v := some (.int (r167 x4 s))) (h' := mk s) rfl rfl rfl (Nat.le_of_ble_eq_true rfl) (k167 (x0 := x4) (s := s) (v := r167 x4 s)  rfl) ?_
        refine Ev.run (pc' := 167) (ls' := [some (.ref 24), some (.long x1), none, some (.int x3), some (.long x4), none, o6, o7]) (st' := [.int (lg_cmp (x4 &&& (zl 4503599627370495)) (zl 0)), .int (r167 x4 s), .long (r166 x4 s), .ref 24]) (h' := mk s) 5 rfl ?_
        refine Ev.ifl_ne (t := 188) rfl rfl (fun hb => ?_) (fun hb => ?_)
        · have h := (if_pos hb).symm.trans h
          refine Ev.run (pc' := 189) (ls' := [some (.ref 24), some (.long x1), none, some (.int x3), some (.long x4), none, o6, o7]) (st' := [.int (zi 0), .int (r167 x4 s), .long (r166 x4 s), .ref 24]) (h' := mk s) 1 rfl ?_
          exact k179_189 (r166 x4 s) (r167 x4 s) (zi 0) s _ _ _ _ _ _ _ h
        · have h := (if_neg hb).symm.trans h
          refine Ev.run (pc' := 181) (ls' := [some (.ref 24), some (.long x1), none, some (.int x3), some (.long x4), none, o6, o7]) (st' := [.int (lg_cmp ((zshrL x4 (zi 52)) &&& (zl 2047)) (zl 1)), .int (r167 x4 s), .long (r166 x4 s), .ref 24]) (h' := mk s) 7 rfl ?_
          refine Ev.ifl_le (t := 188) rfl rfl (fun hb => ?_) (fun hb => ?_)
          · have h := (if_pos hb).symm.trans h
            refine Ev.run (pc' := 189) (ls' := [some (.ref 24), some (.long x1), none, some (.int x3), some (.long x4), none, o6, o7]) (st' := [.int (zi 0), .int (r167 x4 s), .long (r166 x4 s), .ref 24]) (h' := mk s) 1 rfl ?_
            exact k179_189 (r166 x4 s) (r167 x4 s) (zi 0) s _ _ _ _ _ _ _ h
          · have h := (if_neg hb).symm.trans h
            refine Ev.run (pc' := 189) (ls' := [some (.ref 24), some (.long x1), none, some (.int x3), some (.long x4), none, o6, o7]) (st' := [.int (zi 1), .int (r167 x4 s), .long (r166 x4 s), .ref 24]) (h' := mk s) 2 rfl ?_
            exact k179_189 (r166 x4 s) (r167 x4 s) (zi 1) s _ _ _ _ _ _ _ h
      · have h := (if_neg hb).symm.trans h
        refine Ev.run (pc' := 101) (ls' := [some (.ref 24), some (.long x1), none, some (.int x3), some (.long x4), none, some (.int ((zL2I x1) &&& (zi 8388607))), some (.int ((zL2I (zshrL x1 (zi 23))) &&& (zi 255)))]) (st' := [.int ((zL2I (zshrL x1 (zi 23))) &&& (zi 255)), .ref 24]) (h' := mk s) 14 rfl ?_
        refine Ev.if_ne (t := 110) rfl rfl (fun hb => ?_) (fun hb => ?_)
        · have h := (if_pos hb).symm.trans h
          refine Ev.run (pc' := 116) (ls' := [some (.ref 24), some (.long x1), none, some (.int x3), some (.long x4), none, some (.int ((zL2I x1) &&& (zi 8388607))), some (.int ((zL2I (zshrL x1 (zi 23))) &&& (zi 255)))]) (st' := [.long (zI2L (((zL2I x1) &&& (zi 8388607)) ||| (zi 8388608))), .ref 24]) (h' := mk s) 4 rfl ?_
          exact k179_116 ((zL2I x1) &&& (zi 8388607)) ((zL2I (zshrL x1 (zi 23))) &&& (zi 255)) (zI2L (((zL2I x1) &&& (zi 8388607)) ||| (zi 8388608))) s _ _ _ _ _ h
        · have h := (if_neg hb).symm.trans h
          refine Ev.run (pc' := 116) (ls' := [some (.ref 24), some (.long x1), none, some (.int x3), some (.long x4), none, some (.int ((zL2I x1) &&& (zi 8388607))), some (.int ((zL2I (zshrL x1 (zi 23))) &&& (zi 255)))]) (st' := [.long (zI2L ((zL2I x1) &&& (zi 8388607))), .ref 24]) (h' := mk s) 3 rfl ?_
          exact k179_116 ((zL2I x1) &&& (zi 8388607)) ((zL2I (zshrL x1 (zi 23))) &&& (zi 255)) (zI2L ((zL2I x1) &&& (zi 8388607))) s _ _ _ _ _ h
    · have h := (if_neg hb).symm.trans h
      refine Ev.run (pc' := 72) (ls' := [some (.ref 24), some (.long x1), none, some (.int x3), some (.long x4), none, o6, o7]) (st' := [.ref (mRO + 3 + 2 * 65), .ref 24]) (h' := mk s) 2 rfl ?_
      obtain ⟨s1, hq, h⟩ := zb0_some h
      refine Ev.call (M' := mm176) (v := none) (h' := mk s1) rfl rfl rfl (Nat.le_of_ble_eq_true rfl) (k176 (by decide) hq) ?_
      first | (obtain rfl := Option.some.inj h) | (cases h)
      exact Ev.fin rfl rfl
  · have h := (if_neg hb).symm.trans h
    refine Ev.run (pc' := 54) (ls' := [some (.ref 24), some (.long x1), none, some (.int x3), some (.long x4), none, o6, o7]) (st' := [.ref (mRO + 3 + 2 * 64), .ref 24]) (h' := mk s) 2 rfl ?_
    obtain ⟨s2, hq, h⟩ := zb0_some h
    refine Ev.call (M' := mm176) (v := none) (h' := mk s2) rfl rfl rfl (Nat.le_of_ble_eq_true rfl) (k176 (by decide) hq) ?_
    first | (obtain rfl := Option.some.inj h) | (cases h)
    exact Ev.fin rfl rfl
def f179_13  (x1 : Int64) (x3 : Int32) (y0 : Int64) (s : zS) : Option (zS) := if (r168 y0 s) = zi 0 then if y0 ≥ (zl 0) then f179_43 x1 x3 y0 s else zb0 (f175 (zi 45) s) (fun s1 => f179_43 x1 x3 y0 s1) else zb0 (f176 63 s) (fun s2 => some s2)
set_option maxRecDepth 100000 in
theorem k179_13 {X : mX} {D : Nat}   (x1 : Int64) (x3 : Int32) (y0 : Int64) (s : zS) (r : zS) (o4 : Option Value) (o5 : Option Value) (o6 : Option Value) (o7 : Option Value)  (h : f179_13  x1 x3 y0 s = some r) : Ev X (D + 6) mm179 13 [some (.ref 24), some (.long x1), none, some (.int x3), o4, o5, o6, o7] [.long y0] (mk s) (encV r) := by
  unfold f179_13 at h
  refine Ev.run (pc' := 17) (ls' := [some (.ref 24), some (.long x1), none, some (.int x3), some (.long y0), none, o6, o7]) (st' := [.long y0]) (h' := mk s) 2 rfl ?_
  refine Ev.call (M' := mm168) (v := some (.int (r168 y0 s))) (h' := mk s) rfl rfl rfl (Nat.le_of_ble_eq_true rfl) (k168 (x0 := y0) (s := s) (v := r168 y0 s)  rfl) ?_
  refine Ev.if_eq (t := 30) rfl rfl (fun hb => ?_) (fun hb => ?_)
  · have h := (if_pos hb).symm.trans h
    refine Ev.run (pc' := 34) (ls' := [some (.ref 24), some (.long x1), none, some (.int x3), some (.long y0), none, o6, o7]) (st' := [.int (lg_cmp y0 (zl 0))]) (h' := mk s) 3 rfl ?_
    refine Ev.ifl_ge (t := 43) rfl rfl (fun hb => ?_) (fun hb => ?_)
    · have h := (if_pos hb).symm.trans h
      exact k179_43 x1 x3 y0 s _ _ _ h
    · have h := (if_neg hb).symm.trans h
      refine Ev.run (pc' := 40) (ls' := [some (.ref 24), some (.long x1), none, some (.int x3), some (.long y0), none, o6, o7]) (st' := [.int (zi 45), .ref 24]) (h' := mk s) 2 rfl ?_
      obtain ⟨s1, hq, h⟩ := zb0_some h
      refine Ev.call (M' := mm175) (v := none) (h' := mk s1) rfl rfl rfl (Nat.le_of_ble_eq_true rfl) (k175 hq) ?_
      exact k179_43 x1 x3 y0 s1 _ _ _ h
  · have h := (if_neg hb).symm.trans h
    refine Ev.run (pc' := 26) (ls' := [some (.ref 24), some (.long x1), none, some (.int x3), some (.long y0), none, o6, o7]) (st' := [.ref (mRO + 3 + 2 * 63), .ref 24]) (h' := mk s) 2 rfl ?_
    obtain ⟨s2, hq, h⟩ := zb0_some h
    refine Ev.call (M' := mm176) (v := none) (h' := mk s2) rfl rfl rfl (Nat.le_of_ble_eq_true rfl) (k176 (by decide) hq) ?_
    first | (obtain rfl := Option.some.inj h) | (cases h)
    exact Ev.fin rfl rfl
def f179  (x1 : Int64) (x3 : Int32) (s : zS) : Option (zS) := if x3 = zi 0 then f179_13 x1 x3 x1 s else zb1 (f170 (zL2I x1) s) (fun v2 s1 => f179_13 x1 x3 v2 s1)
set_option maxRecDepth 100000 in
theorem k179 {X : mX} {D : Nat} {x1 : Int64} {x3 : Int32} {s : zS} {r : zS}  (h : f179 x1 x3 s = some r) : Ev X (D + 6) mm179 0 [some (.ref 24), some (.long x1), none, some (.int x3), none, none, none, none] [] (mk s) (encV r) := by
  unfold f179 at h
  refine Ev.run (pc' := 1) (ls' := [some (.ref 24), some (.long x1), none, some (.int x3), none, none, none, none]) (st' := [.int x3]) (h' := mk s) 1 rfl ?_
  refine Ev.if_eq (t := 12) rfl rfl (fun hb => ?_) (fun hb => ?_)
  · have h := (if_pos hb).symm.trans h
    refine Ev.run (pc' := 13) (ls' := [some (.ref 24), some (.long x1), none, some (.int x3), none, none, none, none]) (st' := [.long x1]) (h' := mk s) 1 rfl ?_
    exact k179_13 x1 x3 x1 s _ _ _ _ _ h
  · have h := (if_neg hb).symm.trans h
    refine Ev.run (pc' := 6) (ls' := [some (.ref 24), some (.long x1), none, some (.int x3), none, none, none, none]) (st' := [.int (zL2I x1)]) (h' := mk s) 2 rfl ?_
    obtain ⟨v2, s1, hq, h⟩ := zb1_some h
    refine Ev.call (M' := mm170) (v := some (.long v2)) (h' := mk s1) rfl rfl rfl (Nat.le_of_ble_eq_true rfl) (k170 hq) ?_
    refine Ev.run (pc' := 13) (ls' := [some (.ref 24), some (.long x1), none, some (.int x3), none, none, none, none]) (st' := [.long v2]) (h' := mk s1) 1 rfl ?_
    exact k179_13 x1 x3 v2 s1 _ _ _ _ _ h
/-! 180 FModel.has(II)Z -/
def r180 (x0 : Int32) (x1 : Int32) (s : zS) : Int32 := if (x0 &&& x1) = zi 0 then zi 0 else zi 1
set_option maxRecDepth 100000 in
theorem k180 {X : mX} {D : Nat} {x0 : Int32} {x1 : Int32} {s : zS} {v : Int32} (h : r180 x0 x1 s = v) : Ev X D mm180 0 [some (.int x0), some (.int x1)] [] (mk s) (encI (v, s)) := by
  unfold r180 at h
  refine Ev.run (pc' := 3) (ls' := [some (.int x0), some (.int x1)]) (st' := [.int (x0 &&& x1)]) (h' := mk s) 3 rfl ?_
  refine Ev.if_eq (t := 10) rfl rfl (fun hb => ?_) (fun hb => ?_)
  · have h := (if_pos hb).symm.trans h
    refine Ev.run (pc' := 11) (ls' := [some (.int x0), some (.int x1)]) (st' := [.int (zi 0)]) (h' := mk s) 1 rfl ?_
    subst h
    exact Ev.fin rfl rfl
  · have h := (if_neg hb).symm.trans h
    refine Ev.run (pc' := 11) (ls' := [some (.int x0), some (.int x1)]) (st' := [.int (zi 1)]) (h' := mk s) 2 rfl ?_
    subst h
    exact Ev.fin rfl rfl
/-! 181 FModel.digit(I)V -/
def f181  (x1 : Int32) (s : zS) : Option (zS) := if mIx (s.1 24 33) 6000 then some (setB (setI s 24 33 ((s.1 24 33) + (zi 1))) 40 ((s.1 24 33).toNatClampNeg) (zI2B (zI2B x1))) else none
set_option maxRecDepth 100000 in
theorem k181 {X : mX} {D : Nat} {x1 : Int32} {s : zS} {r : zS}  (h : f181 x1 s = some r) : Ev X D mm181 0 [some (.ref 24), some (.int x1)] [] (mk s) (encV r) := by
  unfold f181 at h
  refine Ev.run (pc' := 12) (ls' := [some (.ref 24), some (.int x1)]) (st' := [.int ((s.1 24 33) + (zi 1)), .ref 24, .int (s.1 24 33), .ref 40]) (h' := mk s) 8 rfl ?_
  refine Ev.step (pc' := 15) rfl (put_12_33 rfl) ?_
  refine Ev.run (pc' := 17) (ls' := [some (.ref 24), some (.int x1)]) (st' := [.int (zI2B x1), .int (s.1 24 33), .ref 40]) (h' := mk (setI s 24 33 ((s.1 24 33) + (zi 1)))) 2 rfl ?_
  obtain ⟨hx, h⟩ := zif h
  refine Ev.step (pc' := 18) rfl (ast_40 hx) ?_
  first | (obtain rfl := Option.some.inj h) | (cases h)
  exact Ev.fin rfl rfl
