/-! decompiled methods, 11; printed by wip/gen/gen8.py -/
/-! 240 FModel$Decimal.add(II)V -/
def f240_108 (aa : Nat)  (x3 : Int32) (s : zS) : Option (zS) := some (setI (setI s aa 1 (r265 (s.1 aa 1) x3 s)) aa 2 (r264 (s.1 aa 2) (x3 + (zi 1)) (setI s aa 1 (r265 (s.1 aa 1) x3 s))))
set_option maxRecDepth 100000 in
theorem k240_108 {X : mX} {D : Nat} {aa : Nat}  (haa : zMdec aa)  (x3 : Int32) (s : zS) (r : zS) (o1 : Option Value) (o2 : Option Value) (o4 : Option Value) (o5 : Option Value) (o6 : Option Value)  (h : f240_108 aa  x3 s = some r) : Ev X (D + 1) mm240 108 [some (.ref aa), o1, o2, some (.int x3), o4, o5, o6] [] (mk s) (encV r) := by
  rcases haa with rfl | rfl | rfl
  · unfold f240_108 at h
    refine Ev.run (pc' := 114) (ls' := [some (.ref 32), o1, o2, some (.int x3), o4, o5, o6]) (st' := [.int x3, .int (s.1 32 1), .ref 32]) (h' := mk s) 4 rfl ?_
    refine Ev.call (M' := mm265) (v := some (.int (r265 (s.1 32 1) x3 s))) (h' := mk s) rfl rfl rfl (Nat.le_of_ble_eq_true rfl) (k265 (x0 := (s.1 32 1)) (x1 := x3) (s := s) (v := r265 (s.1 32 1) x3 s)  rfl) ?_
    refine Ev.step (pc' := 120) rfl (put_13_1 (by decide) rfl) ?_
    refine Ev.run (pc' := 128) (ls' := [some (.ref 32), o1, o2, some (.int x3), o4, o5, o6]) (st' := [.int (x3 + (zi 1)), .int (s.1 32 2), .ref 32]) (h' := mk (setI s 32 1 (r265 (s.1 32 1) x3 s))) 6 rfl ?_
    refine Ev.call (M' := mm264) (v := some (.int (r264 (s.1 32 2) (x3 + (zi 1)) (setI s 32 1 (r265 (s.1 32 1) x3 s))))) (h' := mk (setI s 32 1 (r265 (s.1 32 1) x3 s))) rfl rfl rfl (Nat.le_of_ble_eq_true rfl) (k264 (x0 := (s.1 32 2)) (x1 := (x3 + (zi 1))) (s := setI s 32 1 (r265 (s.1 32 1) x3 s)) (v := r264 (s.1 32 2) (x3 + (zi 1)) (setI s 32 1 (r265 (s.1 32 1) x3 s)))  rfl) ?_
    refine Ev.step (pc' := 134) rfl (put_13_2 (by decide) rfl) ?_
    first | (obtain rfl := Option.some.inj h) | (cases h)
    exact Ev.fin rfl rfl
  · unfold f240_108 at h
    refine Ev.run (pc' := 114) (ls' := [some (.ref 34), o1, o2, some (.int x3), o4, o5, o6]) (st' := [.int x3, .int (s.1 34 1), .ref 34]) (h' := mk s) 4 rfl ?_
    refine Ev.call (M' := mm265) (v := some (.int (r265 (s.1 34 1) x3 s))) (h' := mk s) rfl rfl rfl (Nat.le_of_ble_eq_true rfl) (k265 (x0 := (s.1 34 1)) (x1 := x3) (s := s) (v := r265 (s.1 34 1) x3 s)  rfl) ?_
    refine Ev.step (pc' := 120) rfl (put_13_1 (by decide) rfl) ?_
    refine Ev.run (pc' := 128) (ls' := [some (.ref 34), o1, o2, some (.int x3), o4, o5, o6]) (st' := [.int (x3 + (zi 1)), .int (s.1 34 2), .ref 34]) (h' := mk (setI s 34 1 (r265 (s.1 34 1) x3 s))) 6 rfl ?_
    refine Ev.call (M' := mm264) (v := some (.int (r264 (s.1 34 2) (x3 + (zi 1)) (setI s 34 1 (r265 (s.1 34 1) x3 s))))) (h' := mk (setI s 34 1 (r265 (s.1 34 1) x3 s))) rfl rfl rfl (Nat.le_of_ble_eq_true rfl) (k264 (x0 := (s.1 34 2)) (x1 := (x3 + (zi 1))) (s := setI s 34 1 (r265 (s.1 34 1) x3 s)) (v := r264 (s.1 34 2) (x3 + (zi 1)) (setI s 34 1 (r265 (s.1 34 1) x3 s)))  rfl) ?_
    refine Ev.step (pc' := 134) rfl (put_13_2 (by decide) rfl) ?_
    first | (obtain rfl := Option.some.inj h) | (cases h)
    exact Ev.fin rfl rfl
  · unfold f240_108 at h
    refine Ev.run (pc' := 114) (ls' := [some (.ref 36), o1, o2, some (.int x3), o4, o5, o6]) (st' := [.int x3, .int (s.1 36 1), .ref 36]) (h' := mk s) 4 rfl ?_
    refine Ev.call (M' := mm265) (v := some (.int (r265 (s.1 36 1) x3 s))) (h' := mk s) rfl rfl rfl (Nat.le_of_ble_eq_true rfl) (k265 (x0 := (s.1 36 1)) (x1 := x3) (s := s) (v := r265 (s.1 36 1) x3 s)  rfl) ?_
    refine Ev.step (pc' := 120) rfl (put_13_1 (by decide) rfl) ?_
    refine Ev.run (pc' := 128) (ls' := [some (.ref 36), o1, o2, some (.int x3), o4, o5, o6]) (st' := [.int (x3 + (zi 1)), .int (s.1 36 2), .ref 36]) (h' := mk (setI s 36 1 (r265 (s.1 36 1) x3 s))) 6 rfl ?_
    refine Ev.call (M' := mm264) (v := some (.int (r264 (s.1 36 2) (x3 + (zi 1)) (setI s 36 1 (r265 (s.1 36 1) x3 s))))) (h' := mk (setI s 36 1 (r265 (s.1 36 1) x3 s))) rfl rfl rfl (Nat.le_of_ble_eq_true rfl) (k264 (x0 := (s.1 36 2)) (x1 := (x3 + (zi 1))) (s := setI s 36 1 (r265 (s.1 36 1) x3 s)) (v := r264 (s.1 36 2) (x3 + (zi 1)) (setI s 36 1 (r265 (s.1 36 1) x3 s)))  rfl) ?_
    refine Ev.step (pc' := 134) rfl (put_13_2 (by decide) rfl) ?_
    first | (obtain rfl := Option.some.inj h) | (cases h)
    exact Ev.fin rfl rfl
def b240_54 (aa : Nat) (rec54 : Int32 → Int32 → Int32 → Int32 → zS → Option (zS)) (x3 : Int32) (x4 : Int32) (x5 : Int32) (x6 : Int32) (s : zS) : Option (zS) := if x6 ≥ x4 then if mIx x3 465 then if mIx x3 465 then if ¬ (s.1 aa 1) = (s.1 aa 2) then f240_108 aa x3 (setB s (aa + 1) x3.toNatClampNeg ((s.1 (aa + 1) x3.toNatClampNeg) + x5)) else f240_108 aa x3 (setI (setI (setB s (aa + 1) x3.toNatClampNeg ((s.1 (aa + 1) x3.toNatClampNeg) + x5)) aa 1 x3) aa 2 (x3 + (zi 1))) else none else none else rec54 x3 x4 (x5 * (zi 10)) (x6 + zi 1) s
set_option maxRecDepth 100000 in
theorem kb240_54 {X : mX} {D : Nat} {aa : Nat} {rec54 : Int32 → Int32 → Int32 → Int32 → zS → Option (zS)} (haa : zMdec aa) (hrec54 : ∀ (x3 : Int32) (x4 : Int32) (x5 : Int32) (x6 : Int32) (s : zS) (r : zS) (o1 : Option Value) (o2 : Option Value), rec54 x3 x4 x5 x6 s = some r → Ev X (D + 1) mm240 54 [some (.ref aa), o1, o2, some (.int x3), some (.int x4), some (.int x5), some (.int x6)] [] (mk s) (encV r)) (x3 : Int32) (x4 : Int32) (x5 : Int32) (x6 : Int32) (s : zS) (r : zS) (o1 : Option Value) (o2 : Option Value)  (h : b240_54 aa rec54 x3 x4 x5 x6 s = some r) : Ev X (D + 1) mm240 54 [some (.ref aa), o1, o2, some (.int x3), some (.int x4), some (.int x5), some (.int x6)] [] (mk s) (encV r) := by
  rcases haa with rfl | rfl | rfl
  · unfold b240_54 at h
    refine Ev.run (pc' := 58) (ls' := [some (.ref 32), o1, o2, some (.int x3), some (.int x4), some (.int x5), some (.int x6)]) (st' := [.int x4, .int x6]) (h' := mk s) 2 rfl ?_
    refine Ev.icmp_ge (t := 74) rfl rfl (fun hb => ?_) (fun hb => ?_)
    · have h := (if_pos hb).symm.trans h
      refine Ev.run (pc' := 80) (ls' := [some (.ref 32), o1, o2, some (.int x3), some (.int x4), some (.int x5), some (.int x6)]) (st' := [.int x3, .ref (32 + 1), .int x3, .ref (32 + 1)]) (h' := mk s) 4 rfl ?_
      obtain ⟨hx, h⟩ := zif h
      refine Ev.step (pc' := 81) rfl (ald_i rfl hx) ?_
      refine Ev.run (pc' := 84) (ls' := [some (.ref 32), o1, o2, some (.int x3), some (.int x4), some (.int x5), some (.int x6)]) (st' := [.int ((s.1 (32 + 1) x3.toNatClampNeg) + x5), .int x3, .ref (32 + 1)]) (h' := mk s) 2 rfl ?_
      obtain ⟨hx, h⟩ := zif h
      refine Ev.step (pc' := 85) rfl (astM (by decide) hx) ?_
      refine Ev.run (pc' := 93) (ls' := [some (.ref 32), o1, o2, some (.int x3), some (.int x4), some (.int x5), some (.int x6)]) (st' := [.int (s.1 32 2), .int (s.1 32 1)]) (h' := mk (setB s (32 + 1) x3.toNatClampNeg ((s.1 (32 + 1) x3.toNatClampNeg) + x5))) 4 rfl ?_
      refine Ev.icmp_ne (t := 108) rfl rfl (fun hb => ?_) (fun hb => ?_)
      · have h := (if_pos hb).symm.trans h
        exact k240_108 (by decide) x3 (setB s (32 + 1) x3.toNatClampNeg ((s.1 (32 + 1) x3.toNatClampNeg) + x5)) _ _ _ _ _ _ h
      · have h := (if_neg hb).symm.trans h
        refine Ev.run (pc' := 98) (ls' := [some (.ref 32), o1, o2, some (.int x3), some (.int x4), some (.int x5), some (.int x6)]) (st' := [.int x3, .ref 32]) (h' := mk (setB s (32 + 1) x3.toNatClampNeg ((s.1 (32 + 1) x3.toNatClampNeg) + x5))) 2 rfl ?_
        refine Ev.step (pc' := 101) rfl (put_13_1 (by decide) rfl) ?_
        refine Ev.run (pc' := 105) (ls' := [some (.ref 32), o1, o2, some (.int x3), some (.int x4), some (.int x5), some (.int x6)]) (st' := [.int (x3 + (zi 1)), .ref 32]) (h' := mk (setI (setB s (32 + 1) x3.toNatClampNeg ((s.1 (32 + 1) x3.toNatClampNeg) + x5)) 32 1 x3)) 4 rfl ?_
        refine Ev.step (pc' := 108) rfl (put_13_2 (by decide) rfl) ?_
        exact k240_108 (by decide) x3 (setI (setI (setB s (32 + 1) x3.toNatClampNeg ((s.1 (32 + 1) x3.toNatClampNeg) + x5)) 32 1 x3) 32 2 (x3 + (zi 1))) _ _ _ _ _ _ h
    · have h := (if_neg hb).symm.trans h
      refine Ev.run (pc' := 54) (ls' := [some (.ref 32), o1, o2, some (.int x3), some (.int x4), some (.int (x5 * (zi 10))), some (.int (x6 + zi 1))]) (st' := []) (h' := mk s) 6 rfl ?_
      exact hrec54 x3 x4 (x5 * (zi 10)) (x6 + zi 1) s _ _ _ h
  · unfold b240_54 at h
    refine Ev.run (pc' := 58) (ls' := [some (.ref 34), o1, o2, some (.int x3), some (.int x4), some (.int x5), some (.int x6)]) (st' := [.int x4, .int x6]) (h' := mk s) 2 rfl ?_
    refine Ev.icmp_ge (t := 74) rfl rfl (fun hb => ?_) (fun hb => ?_)
    · have h := (if_pos hb).symm.trans h
      refine Ev.run (pc' := 80) (ls' := [some (.ref 34), o1, o2, some (.int x3), some (.int x4), some (.int x5), some (.int x6)]) (st' := [.int x3, .ref (34 + 1), .int x3, .ref (34 + 1)]) (h' := mk s) 4 rfl ?_
      obtain ⟨hx, h⟩ := zif h
      refine Ev.step (pc' := 81) rfl (ald_i rfl hx) ?_
      refine Ev.run (pc' := 84) (ls' := [some (.ref 34), o1, o2, some (.int x3), some (.int x4), some (.int x5), some (.int x6)]) (st' := [.int ((s.1 (34 + 1) x3.toNatClampNeg) + x5), .int x3, .ref (34 + 1)]) (h' := mk s) 2 rfl ?_
      obtain ⟨hx, h⟩ := zif h
      refine Ev.step (pc' := 85) rfl (astM (by decide) hx) ?_
      refine Ev.run (pc' := 93) (ls' := [some (.ref 34), o1, o2, some (.int x3), some (.int x4), some (.int x5), some (.int x6)]) (st' := [.int (s.1 34 2), .int (s.1 34 1)]) (h' := mk (setB s (34 + 1) x3.toNatClampNeg ((s.1 (34 + 1) x3.toNatClampNeg) + x5))) 4 rfl ?_
      refine Ev.icmp_ne (t := 108) rfl rfl (fun hb => ?_) (fun hb => ?_)
      · have h := (if_pos hb).symm.trans h
        exact k240_108 (by decide) x3 (setB s (34 + 1) x3.toNatClampNeg ((s.1 (34 + 1) x3.toNatClampNeg) + x5)) _ _ _ _ _ _ h
      · have h := (if_neg hb).symm.trans h
        refine Ev.run (pc' := 98) (ls' := [some (.ref 34), o1, o2, some (.int x3), some (.int x4), some (.int x5), some (.int x6)]) (st' := [.int x3, .ref 34]) (h' := mk (setB s (34 + 1) x3.toNatClampNeg ((s.1 (34 + 1) x3.toNatClampNeg) + x5))) 2 rfl ?_
        refine Ev.step (pc' := 101) rfl (put_13_1 (by decide) rfl) ?_
        refine Ev.run (pc' := 105) (ls' := [some (.ref 34), o1, o2, some (.int x3), some (.int x4), some (.int x5), some (.int x6)]) (st' := [.int (x3 + (zi 1)), .ref 34]) (h' := mk (setI (setB s (34 + 1) x3.toNatClampNeg ((s.1 (34 + 1) x3.toNatClampNeg) + x5)) 34 1 x3)) 4 rfl ?_
        refine Ev.step (pc' := 108) rfl (put_13_2 (by decide) rfl) ?_
        exact k240_108 (by decide) x3 (setI (setI (setB s (34 + 1) x3.toNatClampNeg ((s.1 (34 + 1) x3.toNatClampNeg) + x5)) 34 1 x3) 34 2 (x3 + (zi 1))) _ _ _ _ _ _ h
    · have h := (if_neg hb).symm.trans h
      refine Ev.run (pc' := 54) (ls' := [some (.ref 34), o1, o2, some (.int x3), some (.int x4), some (.int (x5 * (zi 10))), some (.int (x6 + zi 1))]) (st' := []) (h' := mk s) 6 rfl ?_
      exact hrec54 x3 x4 (x5 * (zi 10)) (x6 + zi 1) s _ _ _ h
  · unfold b240_54 at h
    refine Ev.run (pc' := 58) (ls' := [some (.ref 36), o1, o2, some (.int x3), some (.int x4), some (.int x5), some (.int x6)]) (st' := [.int x4, .int x6]) (h' := mk s) 2 rfl ?_
    refine Ev.icmp_ge (t := 74) rfl rfl (fun hb => ?_) (fun hb => ?_)
    · have h := (if_pos hb).symm.trans h
      refine Ev.run (pc' := 80) (ls' := [some (.ref 36), o1, o2, some (.int x3), some (.int x4), some (.int x5), some (.int x6)]) (st' := [.int x3, .ref (36 + 1), .int x3, .ref (36 + 1)]) (h' := mk s) 4 rfl ?_
      obtain ⟨hx, h⟩ := zif h
      refine Ev.step (pc' := 81) rfl (ald_i rfl hx) ?_
      refine Ev.run (pc' := 84) (ls' := [some (.ref 36), o1, o2, some (.int x3), some (.int x4), some (.int x5), some (.int x6)]) (st' := [.int ((s.1 (36 + 1) x3.toNatClampNeg) + x5), .int x3, .ref (36 + 1)]) (h' := mk s) 2 rfl ?_
      obtain ⟨hx, h⟩ := zif h
      refine Ev.step (pc' := 85) rfl (astM (by decide) hx) ?_
      refine Ev.run (pc' := 93) (ls' := [some (.ref 36), o1, o2, some (.int x3), some (.int x4), some (.int x5), some (.int x6)]) (st' := [.int (s.1 36 2), .int (s.1 36 1)]) (h' := mk (setB s (36 + 1) x3.toNatClampNeg ((s.1 (36 + 1) x3.toNatClampNeg) + x5))) 4 rfl ?_
      refine Ev.icmp_ne (t := 108) rfl rfl (fun hb => ?_) (fun hb => ?_)
      · have h := (if_pos hb).symm.trans h
        exact k240_108 (by decide) x3 (setB s (36 + 1) x3.toNatClampNeg ((s.1 (36 + 1) x3.toNatClampNeg) + x5)) _ _ _ _ _ _ h
      · have h := (if_neg hb).symm.trans h
        refine Ev.run (pc' := 98) (ls' := [some (.ref 36), o1, o2, some (.int x3), some (.int x4), some (.int x5), some (.int x6)]) (st' := [.int x3, .ref 36]) (h' := mk (setB s (36 + 1) x3.toNatClampNeg ((s.1 (36 + 1) x3.toNatClampNeg) + x5))) 2 rfl ?_
        refine Ev.step (pc' := 101) rfl (put_13_1 (by decide) rfl) ?_
        refine Ev.run (pc' := 105) (ls' := [some (.ref 36), o1, o2, some (.int x3), some (.int x4), some (.int x5), some (.int x6)]) (st' := [.int (x3 + (zi 1)), .ref 36]) (h' := mk (setI (setB s (36 + 1) x3.toNatClampNeg ((s.1 (36 + 1) x3.toNatClampNeg) + x5)) 36 1 x3)) 4 rfl ?_
        refine Ev.step (pc' := 108) rfl (put_13_2 (by decide) rfl) ?_
        exact k240_108 (by decide) x3 (setI (setI (setB s (36 + 1) x3.toNatClampNeg ((s.1 (36 + 1) x3.toNatClampNeg) + x5)) 36 1 x3) 36 2 (x3 + (zi 1))) _ _ _ _ _ _ h
    · have h := (if_neg hb).symm.trans h
      refine Ev.run (pc' := 54) (ls' := [some (.ref 36), o1, o2, some (.int x3), some (.int x4), some (.int (x5 * (zi 10))), some (.int (x6 + zi 1))]) (st' := []) (h' := mk s) 6 rfl ?_
      exact hrec54 x3 x4 (x5 * (zi 10)) (x6 + zi 1) s _ _ _ h
def f240_54 (aa : Nat)  : Nat → Int32 → Int32 → Int32 → Int32 → zS → Option (zS)
  | 0, _, _, _, _, _ => none
  | n + 1, x3, x4, x5, x6, s => b240_54 aa (f240_54 aa n) x3 x4 x5 x6 s
set_option maxRecDepth 100000 in
theorem k240_54 {X : mX} {D : Nat} {aa : Nat}  (haa : zMdec aa)  (n : Nat) : ∀ (x3 : Int32) (x4 : Int32) (x5 : Int32) (x6 : Int32) (s : zS) (r : zS) (o1 : Option Value) (o2 : Option Value), f240_54 aa  n x3 x4 x5 x6 s = some r → Ev X (D + 1) mm240 54 [some (.ref aa), o1, o2, some (.int x3), some (.int x4), some (.int x5), some (.int x6)] [] (mk s) (encV r) := by
  induction n with
  | zero => intro x3 x4 x5 x6 s r o1 o2  h; cases h
  | succ n ih => intro x3 x4 x5 x6 s r o1 o2  h; exact kb240_54 haa ih x3 x4 x5 x6 s r o1 o2  h
def f240_24 (aa : Nat)  (x1 : Int32) (x2 : Int32) (y0 : Int32) (s : zS) : Option (zS) := if x2 < zi 0 then f240_54 aa zF y0 ((zi 8) - (zrem ((-x2) - (zi 1)) (zi 9))) x1 (zi 0) s else f240_54 aa zF y0 (zrem x2 (zi 9)) x1 (zi 0) s
set_option maxRecDepth 100000 in
theorem k240_24 {X : mX} {D : Nat} {aa : Nat}  (haa : zMdec aa)  (x1 : Int32) (x2 : Int32) (y0 : Int32) (s : zS) (r : zS) (o3 : Option Value) (o4 : Option Value) (o5 : Option Value) (o6 : Option Value)  (h : f240_24 aa  x1 x2 y0 s = some r) : Ev X (D + 1) mm240 24 [some (.ref aa), some (.int x1), some (.int x2), o3, o4, o5, o6] [.int y0] (mk s) (encV r) := by
  rcases haa with rfl | rfl | rfl
  · unfold f240_24 at h
    refine Ev.run (pc' := 26) (ls' := [some (.ref 32), some (.int x1), some (.int x2), some (.int y0), o4, o5, o6]) (st' := [.int x2]) (h' := mk s) 2 rfl ?_
    refine Ev.if_lt (t := 36) rfl rfl (fun hb => ?_) (fun hb => ?_)
    · have h := (if_pos hb).symm.trans h
      refine Ev.run (pc' := 54) (ls' := [some (.ref 32), some (.int x1), some (.int x2), some (.int y0), some (.int ((zi 8) - (zrem ((-x2) - (zi 1)) (zi 9)))), some (.int x1), some (.int (zi 0))]) (st' := []) (h' := mk s) 13 rfl ?_
      exact k240_54 (by decide) zF y0 ((zi 8) - (zrem ((-x2) - (zi 1)) (zi 9))) x1 (zi 0) s _ _ _ h
    · have h := (if_neg hb).symm.trans h
      refine Ev.run (pc' := 54) (ls' := [some (.ref 32), some (.int x1), some (.int x2), some (.int y0), some (.int (zrem x2 (zi 9))), some (.int x1), some (.int (zi 0))]) (st' := []) (h' := mk s) 9 rfl ?_
      exact k240_54 (by decide) zF y0 (zrem x2 (zi 9)) x1 (zi 0) s _ _ _ h
  · unfold f240_24 at h
    refine Ev.run (pc' := 26) (ls' := [some (.ref 34), some (.int x1), some (.int x2), some (.int y0), o4, o5, o6]) (st' := [.int x2]) (h' := mk s) 2 rfl ?_
    refine Ev.if_lt (t := 36) rfl rfl (fun hb => ?_) (fun hb => ?_)
    · have h := (if_pos hb).symm.trans h
      refine Ev.run (pc' := 54) (ls' := [some (.ref 34), some (.int x1), some (.int x2), some (.int y0), some (.int ((zi 8) - (zrem ((-x2) - (zi 1)) (zi 9)))), some (.int x1), some (.int (zi 0))]) (st' := []) (h' := mk s) 13 rfl ?_
      exact k240_54 (by decide) zF y0 ((zi 8) - (zrem ((-x2) - (zi 1)) (zi 9))) x1 (zi 0) s _ _ _ h
    · have h := (if_neg hb).symm.trans h
      refine Ev.run (pc' := 54) (ls' := [some (.ref 34), some (.int x1), some (.int x2), some (.int y0), some (.int (zrem x2 (zi 9))), some (.int x1), some (.int (zi 0))]) (st' := []) (h' := mk s) 9 rfl ?_
      exact k240_54 (by decide) zF y0 (zrem x2 (zi 9)) x1 (zi 0) s _ _ _ h
  · unfold f240_24 at h
    refine Ev.run (pc' := 26) (ls' := [some (.ref 36), some (.int x1), some (.int x2), some (.int y0), o4, o5, o6]) (st' := [.int x2]) (h' := mk s) 2 rfl ?_
    refine Ev.if_lt (t := 36) rfl rfl (fun hb => ?_) (fun hb => ?_)
    · have h := (if_pos hb).symm.trans h
      refine Ev.run (pc' := 54) (ls' := [some (.ref 36), some (.int x1), some (.int x2), some (.int y0), some (.int ((zi 8) - (zrem ((-x2) - (zi 1)) (zi 9)))), some (.int x1), some (.int (zi 0))]) (st' := []) (h' := mk s) 13 rfl ?_
      exact k240_54 (by decide) zF y0 ((zi 8) - (zrem ((-x2) - (zi 1)) (zi 9))) x1 (zi 0) s _ _ _ h
    · have h := (if_neg hb).symm.trans h
      refine Ev.run (pc' := 54) (ls' := [some (.ref 36), some (.int x1), some (.int x2), some (.int y0), some (.int (zrem x2 (zi 9))), some (.int x1), some (.int (zi 0))]) (st' := []) (h' := mk s) 9 rfl ?_
      exact k240_54 (by decide) zF y0 (zrem x2 (zi 9)) x1 (zi 0) s _ _ _ h
def f240 (aa : Nat)  (x1 : Int32) (x2 : Int32) (s : zS) : Option (zS) := if x2 < zi 0 then f240_24 aa x1 x2 ((zi 45) + (((-x2) - (zi 1)) / (zi 9))) s else f240_24 aa x1 x2 ((zi 44) - (x2 / (zi 9))) s
set_option maxRecDepth 100000 in
theorem k240 {X : mX} {D : Nat} {aa : Nat} {x1 : Int32} {x2 : Int32} {s : zS} {r : zS} (haa : zMdec aa)  (h : f240 aa x1 x2 s = some r) : Ev X (D + 1) mm240 0 [some (.ref aa), some (.int x1), some (.int x2), none, none, none, none] [] (mk s) (encV r) := by
  rcases haa with rfl | rfl | rfl
  · unfold f240 at h
    refine Ev.run (pc' := 1) (ls' := [some (.ref 32), some (.int x1), some (.int x2), none, none, none, none]) (st' := [.int x2]) (h' := mk s) 1 rfl ?_
    refine Ev.if_lt (t := 14) rfl rfl (fun hb => ?_) (fun hb => ?_)
    · have h := (if_pos hb).symm.trans h
      refine Ev.run (pc' := 24) (ls' := [some (.ref 32), some (.int x1), some (.int x2), none, none, none, none]) (st' := [.int ((zi 45) + (((-x2) - (zi 1)) / (zi 9)))]) (h' := mk s) 8 rfl ?_
      exact k240_24 (by decide) x1 x2 ((zi 45) + (((-x2) - (zi 1)) / (zi 9))) s _ _ _ _ _ h
    · have h := (if_neg hb).symm.trans h
      refine Ev.run (pc' := 24) (ls' := [some (.ref 32), some (.int x1), some (.int x2), none, none, none, none]) (st' := [.int ((zi 44) - (x2 / (zi 9)))]) (h' := mk s) 6 rfl ?_
      exact k240_24 (by decide) x1 x2 ((zi 44) - (x2 / (zi 9))) s _ _ _ _ _ h
  · unfold f240 at h
    refine Ev.run (pc' := 1) (ls' := [some (.ref 34), some (.int x1), some (.int x2), none, none, none, none]) (st' := [.int x2]) (h' := mk s) 1 rfl ?_
    refine Ev.if_lt (t := 14) rfl rfl (fun hb => ?_) (fun hb => ?_)
    · have h := (if_pos hb).symm.trans h
      refine Ev.run (pc' := 24) (ls' := [some (.ref 34), some (.int x1), some (.int x2), none, none, none, none]) (st' := [.int ((zi 45) + (((-x2) - (zi 1)) / (zi 9)))]) (h' := mk s) 8 rfl ?_
      exact k240_24 (by decide) x1 x2 ((zi 45) + (((-x2) - (zi 1)) / (zi 9))) s _ _ _ _ _ h
    · have h := (if_neg hb).symm.trans h
      refine Ev.run (pc' := 24) (ls' := [some (.ref 34), some (.int x1), some (.int x2), none, none, none, none]) (st' := [.int ((zi 44) - (x2 / (zi 9)))]) (h' := mk s) 6 rfl ?_
      exact k240_24 (by decide) x1 x2 ((zi 44) - (x2 / (zi 9))) s _ _ _ _ _ h
  · unfold f240 at h
    refine Ev.run (pc' := 1) (ls' := [some (.ref 36), some (.int x1), some (.int x2), none, none, none, none]) (st' := [.int x2]) (h' := mk s) 1 rfl ?_
    refine Ev.if_lt (t := 14) rfl rfl (fun hb => ?_) (fun hb => ?_)
    · have h := (if_pos hb).symm.trans h
      refine Ev.run (pc' := 24) (ls' := [some (.ref 36), some (.int x1), some (.int x2), none, none, none, none]) (st' := [.int ((zi 45) + (((-x2) - (zi 1)) / (zi 9)))]) (h' := mk s) 8 rfl ?_
      exact k240_24 (by decide) x1 x2 ((zi 45) + (((-x2) - (zi 1)) / (zi 9))) s _ _ _ _ _ h
    · have h := (if_neg hb).symm.trans h
      refine Ev.run (pc' := 24) (ls' := [some (.ref 36), some (.int x1), some (.int x2), none, none, none, none]) (st' := [.int ((zi 44) - (x2 / (zi 9)))]) (h' := mk s) 6 rfl ?_
      exact k240_24 (by decide) x1 x2 ((zi 44) - (x2 / (zi 9))) s _ _ _ _ _ h
/-! 214 FModel.whole()J -/
def f214   (s : zS) : Option (Int64 × zS) := if mIx (zi 43) 465 then if mIx (zi 44) 465 then some (((zI2L (s.1 33 ((zi 43).toNatClampNeg))) * (zl 1000000000)) + (zI2L (s.1 33 ((zi 44).toNatClampNeg))), s) else none else none
set_option maxRecDepth 100000 in
theorem k214 {X : mX} {D : Nat}  {s : zS} {r : Int64 × zS}  (h : f214  s = some r) : Ev X D mm214 0 [some (.ref 24)] [] (mk s) (encL r) := by
  unfold f214 at h
  refine Ev.run (pc' := 9) (ls' := [some (.ref 24)]) (st' := [.int (zi 43), .ref 33]) (h' := mk s) 4 rfl ?_
  obtain ⟨hx, h⟩ := zif h
  refine Ev.step (pc' := 10) rfl (ald_i rfl hx) ?_
  refine Ev.run (pc' := 24) (ls' := [some (.ref 24)]) (st' := [.int (zi 44), .ref 33, .long ((zI2L (s.1 33 ((zi 43).toNatClampNeg))) * (zl 1000000000))]) (h' := mk s) 7 rfl ?_
  obtain ⟨hx, h⟩ := zif h
  refine Ev.step (pc' := 25) rfl (ald_i rfl hx) ?_
  refine Ev.run (pc' := 27) (ls' := [some (.ref 24)]) (st' := [.long (((zI2L (s.1 33 ((zi 43).toNatClampNeg))) * (zl 1000000000)) + (zI2L (s.1 33 ((zi 44).toNatClampNeg))))]) (h' := mk s) 2 rfl ?_
  first | (obtain rfl := Option.some.inj h) | (cases h)
  exact Ev.fin rfl rfl
/-! 268 java.lang.Integer.numberOfLeadingZeros(I)I -/
def f268_61  (x0 : Int32) (x1 : Int32) (s : zS) : Option (Int32 × zS) := if x0 < (zi 4) then some (x1 - (zushr x0 (zi 1)), s) else some ((x1 + zi (-2)) - (zushr (zushr x0 (zi 2)) (zi 1)), s)
set_option maxRecDepth 100000 in
theorem k268_61 {X : mX} {D : Nat}   (x0 : Int32) (x1 : Int32) (s : zS) (r : Int32 × zS)   (h : f268_61  x0 x1 s = some r) : Ev X D mm268 61 [some (.int x0), some (.int x1)] [] (mk s) (encI r) := by
  unfold f268_61 at h
  refine Ev.run (pc' := 63) (ls' := [some (.int x0), some (.int x1)]) (st' := [.int (zi 4), .int x0]) (h' := mk s) 2 rfl ?_
  refine Ev.icmp_lt (t := 73) rfl rfl (fun hb => ?_) (fun hb => ?_)
  · have h := (if_pos hb).symm.trans h
    refine Ev.run (pc' := 78) (ls' := [some (.int x0), some (.int x1)]) (st' := [.int (x1 - (zushr x0 (zi 1)))]) (h' := mk s) 5 rfl ?_
    first | (obtain rfl := Option.some.inj h) | (cases h)
    exact Ev.fin rfl rfl
  · have h := (if_neg hb).symm.trans h
    refine Ev.run (pc' := 78) (ls' := [some (.int (zushr x0 (zi 2))), some (.int (x1 + zi (-2)))]) (st' := [.int ((x1 + zi (-2)) - (zushr (zushr x0 (zi 2)) (zi 1)))]) (h' := mk s) 10 rfl ?_
    first | (obtain rfl := Option.some.inj h) | (cases h)
    exact Ev.fin rfl rfl
def f268_48  (x0 : Int32) (x1 : Int32) (s : zS) : Option (Int32 × zS) := if x0 < (zi 16) then f268_61 x0 x1 s else f268_61 (zushr x0 (zi 4)) (x1 + zi (-4)) s
set_option maxRecDepth 100000 in
theorem k268_48 {X : mX} {D : Nat}   (x0 : Int32) (x1 : Int32) (s : zS) (r : Int32 × zS)   (h : f268_48  x0 x1 s = some r) : Ev X D mm268 48 [some (.int x0), some (.int x1)] [] (mk s) (encI r) := by
  unfold f268_48 at h
  refine Ev.run (pc' := 51) (ls' := [some (.int x0), some (.int x1)]) (st' := [.int (zi 16), .int x0]) (h' := mk s) 2 rfl ?_
  refine Ev.icmp_lt (t := 61) rfl rfl (fun hb => ?_) (fun hb => ?_)
  · have h := (if_pos hb).symm.trans h
    exact k268_61 x0 x1 s _ h
  · have h := (if_neg hb).symm.trans h
    refine Ev.run (pc' := 61) (ls' := [some (.int (zushr x0 (zi 4))), some (.int (x1 + zi (-4)))]) (st' := []) (h' := mk s) 5 rfl ?_
    exact k268_61 (zushr x0 (zi 4)) (x1 + zi (-4)) s _ h
def f268_33  (x0 : Int32) (x1 : Int32) (s : zS) : Option (Int32 × zS) := if x0 < (zi 256) then f268_48 x0 x1 s else f268_48 (zushr x0 (zi 8)) (x1 + zi (-8)) s
set_option maxRecDepth 100000 in
theorem k268_33 {X : mX} {D : Nat}   (x0 : Int32) (x1 : Int32) (s : zS) (r : Int32 × zS)   (h : f268_33  x0 x1 s = some r) : Ev X D mm268 33 [some (.int x0), some (.int x1)] [] (mk s) (encI r) := by
  unfold f268_33 at h
  refine Ev.run (pc' := 37) (ls' := [some (.int x0), some (.int x1)]) (st' := [.int (zi 256), .int x0]) (h' := mk s) 2 rfl ?_
  refine Ev.icmp_lt (t := 48) rfl rfl (fun hb => ?_) (fun hb => ?_)
  · have h := (if_pos hb).symm.trans h
    exact k268_48 x0 x1 s _ h
  · have h := (if_neg hb).symm.trans h
    refine Ev.run (pc' := 48) (ls' := [some (.int (zushr x0 (zi 8))), some (.int (x1 + zi (-8)))]) (st' := []) (h' := mk s) 5 rfl ?_
    exact k268_48 (zushr x0 (zi 8)) (x1 + zi (-8)) s _ h
def f268  (x0 : Int32) (s : zS) : Option (Int32 × zS) := if x0 > zi 0 then if x0 < (zi 65536) then f268_33 x0 (zi 31) s else f268_33 (zushr x0 (zi 16)) ((zi 31) + zi (-16)) s else if ¬ x0 = zi 0 then some (zi 0, s) else some (zi 32, s)
set_option maxRecDepth 100000 in
theorem k268 {X : mX} {D : Nat} {x0 : Int32} {s : zS} {r : Int32 × zS}  (h : f268 x0 s = some r) : Ev X D mm268 0 [some (.int x0), none] [] (mk s) (encI r) := by
  unfold f268 at h
  refine Ev.run (pc' := 1) (ls' := [some (.int x0), none]) (st' := [.int x0]) (h' := mk s) 1 rfl ?_
  refine Ev.if_gt (t := 15) rfl rfl (fun hb => ?_) (fun hb => ?_)
  · have h := (if_pos hb).symm.trans h
    refine Ev.run (pc' := 22) (ls' := [some (.int x0), some (.int (zi 31))]) (st' := [.int (zi 65536), .int x0]) (h' := mk s) 4 rfl ?_
    refine Ev.icmp_lt (t := 33) rfl rfl (fun hb => ?_) (fun hb => ?_)
    · have h := (if_pos hb).symm.trans h
      exact k268_33 x0 (zi 31) s _ h
    · have h := (if_neg hb).symm.trans h
      refine Ev.run (pc' := 33) (ls' := [some (.int (zushr x0 (zi 16))), some (.int ((zi 31) + zi (-16)))]) (st' := []) (h' := mk s) 5 rfl ?_
      exact k268_33 (zushr x0 (zi 16)) ((zi 31) + zi (-16)) s _ h
  · have h := (if_neg hb).symm.trans h
    refine Ev.run (pc' := 5) (ls' := [some (.int x0), none]) (st' := [.int x0]) (h' := mk s) 1 rfl ?_
    refine Ev.if_ne (t := 13) rfl rfl (fun hb => ?_) (fun hb => ?_)
    · have h := (if_pos hb).symm.trans h
      refine Ev.run (pc' := 14) (ls' := [some (.int x0), none]) (st' := [.int (zi 0)]) (h' := mk s) 1 rfl ?_
      first | (obtain rfl := Option.some.inj h) | (cases h)
      exact Ev.fin rfl rfl
    · have h := (if_neg hb).symm.trans h
      refine Ev.run (pc' := 14) (ls' := [some (.int x0), none]) (st' := [.int (zi 32)]) (h' := mk s) 2 rfl ?_
      first | (obtain rfl := Option.some.inj h) | (cases h)
      exact Ev.fin rfl rfl
/-! 267 java.lang.Long.numberOfLeadingZeros(J)I -/
def f267  (x0 : Int64) (s : zS) : Option (Int32 × zS) := if ¬ (zL2I (zushrL x0 (zi 32))) = zi 0 then zb1 (f268 (zL2I (zushrL x0 (zi 32))) s) (fun v2 s1 => some (v2, s1)) else zb1 (f268 (zL2I x0) s) (fun v4 s3 => some ((zi 32) + v4, s3))
set_option maxRecDepth 100000 in
theorem k267 {X : mX} {D : Nat} {x0 : Int64} {s : zS} {r : Int32 × zS}  (h : f267 x0 s = some r) : Ev X (D + 1) mm267 0 [some (.long x0), none, none] [] (mk s) (encI r) := by
  unfold f267 at h
  refine Ev.run (pc' := 7) (ls' := [some (.long x0), none, some (.int (zL2I (zushrL x0 (zi 32))))]) (st' := [.int (zL2I (zushrL x0 (zi 32)))]) (h' := mk s) 6 rfl ?_
  refine Ev.if_ne (t := 21) rfl rfl (fun hb => ?_) (fun hb => ?_)
  · have h := (if_pos hb).symm.trans h
    refine Ev.run (pc' := 22) (ls' := [some (.long x0), none, some (.int (zL2I (zushrL x0 (zi 32))))]) (st' := [.int (zL2I (zushrL x0 (zi 32)))]) (h' := mk s) 1 rfl ?_
    obtain ⟨v2, s1, hq, h⟩ := zb1_some h
    refine Ev.call (M' := mm268) (v := some (.int v2)) (h' := mk s1) rfl rfl rfl (Nat.le_of_ble_eq_true rfl) (k268 hq) ?_
    first | (obtain rfl := Option.some.inj h) | (cases h)
    exact Ev.fin rfl rfl
  · have h := (if_neg hb).symm.trans h
    refine Ev.run (pc' := 14) (ls' := [some (.long x0), none, some (.int (zL2I (zushrL x0 (zi 32))))]) (st' := [.int (zL2I x0), .int (zi 32)]) (h' := mk s) 3 rfl ?_
    obtain ⟨v4, s3, hq, h⟩ := zb1_some h
    refine Ev.call (M' := mm268) (v := some (.int v4)) (h' := mk s3) rfl rfl rfl (Nat.le_of_ble_eq_true rfl) (k268 hq) ?_
    refine Ev.run (pc' := 25) (ls' := [some (.long x0), none, some (.int (zL2I (zushrL x0 (zi 32))))]) (st' := [.int ((zi 32) + v4)]) (h' := mk s3) 2 rfl ?_
    first | (obtain rfl := Option.some.inj h) | (cases h)
    exact Ev.fin rfl rfl
/-! 213 FModel.bits()I -/
def f213   (s : zS) : Option (Int32 × zS) := if (s.1 32 1) ≥ (zi 43) then zb1 (f214 s) (fun v2 s1 => zb1 (f267 v2 s1) (fun v4 s3 => some ((zi 64) - v4, s3))) else some (zi (-1), s)
set_option maxRecDepth 100000 in
theorem k213 {X : mX} {D : Nat}  {s : zS} {r : Int32 × zS}  (h : f213  s = some r) : Ev X (D + 2) mm213 0 [some (.ref 24), none, none] [] (mk s) (encI r) := by
  unfold f213 at h
  refine Ev.run (pc' := 9) (ls' := [some (.ref 24), none, none]) (st' := [.int (zi 43), .int (s.1 32 1)]) (h' := mk s) 4 rfl ?_
  refine Ev.icmp_ge (t := 14) rfl rfl (fun hb => ?_) (fun hb => ?_)
  · have h := (if_pos hb).symm.trans h
    refine Ev.run (pc' := 15) (ls' := [some (.ref 24), none, none]) (st' := [.ref 24]) (h' := mk s) 1 rfl ?_
    obtain ⟨v2, s1, hq, h⟩ := zb1_some h
    refine Ev.call (M' := mm214) (v := some (.long v2)) (h' := mk s1) rfl rfl rfl (Nat.le_of_ble_eq_true rfl) (k214 hq) ?_
    refine Ev.run (pc' := 22) (ls' := [some (.ref 24), some (.long v2), none]) (st' := [.long v2, .int (zi 64)]) (h' := mk s1) 3 rfl ?_
    obtain ⟨v4, s3, hq, h⟩ := zb1_some h
    refine Ev.call (M' := mm267) (v := some (.int v4)) (h' := mk s3) rfl rfl rfl (Nat.le_of_ble_eq_true rfl) (k267 hq) ?_
    refine Ev.run (pc' := 26) (ls' := [some (.ref 24), some (.long v2), none]) (st' := [.int ((zi 64) - v4)]) (h' := mk s3) 1 rfl ?_
    first | (obtain rfl := Option.some.inj h) | (cases h)
    exact Ev.fin rfl rfl
  · have h := (if_neg hb).symm.trans h
    refine Ev.run (pc' := 13) (ls' := [some (.ref 24), none, none]) (st' := [.int (zi (-1))]) (h' := mk s) 1 rfl ?_
    first | (obtain rfl := Option.some.inj h) | (cases h)
    exact Ev.fin rfl rfl
/-! 211 FModel.nearest(Z)J -/
def f211_166  (x1 : Int32) (x4 : Int32) (x5 : Int64) (s : zS) : Option (Int64 × zS) := zb1 (f212 x5 x4 x1 s) (fun v2 s1 => some (v2, s1))
set_option maxRecDepth 100000 in
theorem k211_166 {X : mX} {D : Nat}   (x1 : Int32) (x4 : Int32) (x5 : Int64) (s : zS) (r : Int64 × zS) (o2 : Option Value) (o3 : Option Value) (o7 : Option Value) (o8 : Option Value)  (h : f211_166  x1 x4 x5 s = some r) : Ev X (D + 3) mm211 166 [some (.ref 24), some (.int x1), o2, o3, some (.int x4), some (.long x5), none, o7, o8] [] (mk s) (encL r) := by
  unfold f211_166 at h
  refine Ev.run (pc' := 172) (ls' := [some (.ref 24), some (.int x1), o2, o3, some (.int x4), some (.long x5), none, o7, o8]) (st' := [.int x1, .int x4, .long x5, .ref 24]) (h' := mk s) 4 rfl ?_
  obtain ⟨v2, s1, hq, h⟩ := zb1_some h
  refine Ev.call (M' := mm212) (v := some (.long v2)) (h' := mk s1) rfl rfl rfl (Nat.le_of_ble_eq_true rfl) (k212 hq) ?_
  first | (obtain rfl := Option.some.inj h) | (cases h)
  exact Ev.fin rfl rfl
def f211_139  (x1 : Int32) (x4 : Int32) (x5 : Int64) (x7 : Int32) (y0 : Int32) (s : zS) : Option (Int64 × zS) := if x7 = zi 0 then f211_166 x1 x4 x5 s else if y0 = zi 0 then f211_166 x1 x4 (x5 + (zl 1)) s else if ¬ (x5 &&& (zl 1)) = (zl 1) then f211_166 x1 x4 x5 s else f211_166 x1 x4 (x5 + (zl 1)) s
set_option maxRecDepth 100000 in
theorem k211_139 {X : mX} {D : Nat}   (x1 : Int32) (x4 : Int32) (x5 : Int64) (x7 : Int32) (y0 : Int32) (s : zS) (r : Int64 × zS) (o2 : Option Value) (o3 : Option Value) (o8 : Option Value)  (h : f211_139  x1 x4 x5 x7 y0 s = some r) : Ev X (D + 3) mm211 139 [some (.ref 24), some (.int x1), o2, o3, some (.int x4), some (.long x5), none, some (.int x7), o8] [.int y0] (mk s) (encL r) := by
  unfold f211_139 at h
  refine Ev.run (pc' := 143) (ls' := [some (.ref 24), some (.int x1), o2, o3, some (.int x4), some (.long x5), none, some (.int x7), some (.int y0)]) (st' := [.int x7]) (h' := mk s) 2 rfl ?_
  refine Ev.if_eq (t := 166) rfl rfl (fun hb => ?_) (fun hb => ?_)
  · have h := (if_pos hb).symm.trans h
    exact k211_166 x1 x4 x5 s _ _ _ _ _ h
  · have h := (if_neg hb).symm.trans h
    refine Ev.run (pc' := 148) (ls' := [some (.ref 24), some (.int x1), o2, o3, some (.int x4), some (.long x5), none, some (.int x7), some (.int y0)]) (st' := [.int y0]) (h' := mk s) 1 rfl ?_
    refine Ev.if_eq (t := 160) rfl rfl (fun hb => ?_) (fun hb => ?_)
    · have h := (if_pos hb).symm.trans h
      refine Ev.run (pc' := 166) (ls' := [some (.ref 24), some (.int x1), o2, o3, some (.int x4), some (.long (x5 + (zl 1))), none, some (.int x7), some (.int y0)]) (st' := []) (h' := mk s) 4 rfl ?_
      exact k211_166 x1 x4 (x5 + (zl 1)) s _ _ _ _ _ h
    · have h := (if_neg hb).symm.trans h
      refine Ev.run (pc' := 157) (ls' := [some (.ref 24), some (.int x1), o2, o3, some (.int x4), some (.long x5), none, some (.int x7), some (.int y0)]) (st' := [.int (lg_cmp (x5 &&& (zl 1)) (zl 1))]) (h' := mk s) 5 rfl ?_
      refine Ev.ifl_ne (t := 166) rfl rfl (fun hb => ?_) (fun hb => ?_)
      · have h := (if_pos hb).symm.trans h
        exact k211_166 x1 x4 x5 s _ _ _ _ _ h
      · have h := (if_neg hb).symm.trans h
        refine Ev.run (pc' := 166) (ls' := [some (.ref 24), some (.int x1), o2, o3, some (.int x4), some (.long (x5 + (zl 1))), none, some (.int x7), some (.int y0)]) (st' := []) (h' := mk s) 4 rfl ?_
        exact k211_166 x1 x4 (x5 + (zl 1)) s _ _ _ _ _ h
def f211_109  (x1 : Int32) (x4 : Int32) (x5 : Int64) (y0 : Int32) (s : zS) : Option (Int64 × zS) := zb1 (f235 32 (zi (-1)) s) (fun v2 s1 => if ¬ v2 = (zi 5) then f211_139 x1 x4 x5 y0 (zi 0) s1 else zb1 (f239 32 (zi (-1)) s1) (fun v4 s3 => if ¬ v4 = zi 0 then f211_139 x1 x4 x5 y0 (zi 0) s3 else f211_139 x1 x4 x5 y0 (zi 1) s3))
set_option maxRecDepth 100000 in
theorem k211_109 {X : mX} {D : Nat}   (x1 : Int32) (x4 : Int32) (x5 : Int64) (y0 : Int32) (s : zS) (r : Int64 × zS) (o2 : Option Value) (o3 : Option Value) (o7 : Option Value) (o8 : Option Value)  (h : f211_109  x1 x4 x5 y0 s = some r) : Ev X (D + 3) mm211 109 [some (.ref 24), some (.int x1), o2, o3, some (.int x4), some (.long x5), none, o7, o8] [.int y0] (mk s) (encL r) := by
  unfold f211_109 at h
  refine Ev.run (pc' := 116) (ls' := [some (.ref 24), some (.int x1), o2, o3, some (.int x4), some (.long x5), none, some (.int y0), o8]) (st' := [.int (zi (-1)), .ref 32]) (h' := mk s) 4 rfl ?_
  obtain ⟨v2, s1, hq, h⟩ := zb1_some h
  refine Ev.call (M' := mm235) (v := some (.int v2)) (h' := mk s1) rfl rfl rfl (Nat.le_of_ble_eq_true rfl) (k235 (by decide) hq) ?_
  refine Ev.run (pc' := 120) (ls' := [some (.ref 24), some (.int x1), o2, o3, some (.int x4), some (.long x5), none, some (.int y0), o8]) (st' := [.int (zi 5), .int v2]) (h' := mk s1) 1 rfl ?_
  refine Ev.icmp_ne (t := 138) rfl rfl (fun hb => ?_) (fun hb => ?_)
  · have h := (if_pos hb).symm.trans h
    refine Ev.run (pc' := 139) (ls' := [some (.ref 24), some (.int x1), o2, o3, some (.int x4), some (.long x5), none, some (.int y0), o8]) (st' := [.int (zi 0)]) (h' := mk s1) 1 rfl ?_
    exact k211_139 x1 x4 x5 y0 (zi 0) s1 _ _ _ _ h
  · have h := (if_neg hb).symm.trans h
    refine Ev.run (pc' := 128) (ls' := [some (.ref 24), some (.int x1), o2, o3, some (.int x4), some (.long x5), none, some (.int y0), o8]) (st' := [.int (zi (-1)), .ref 32]) (h' := mk s1) 3 rfl ?_
    obtain ⟨v4, s3, hq, h⟩ := zb1_some h
    refine Ev.call (M' := mm239) (v := some (.int v4)) (h' := mk s3) rfl rfl rfl (Nat.le_of_ble_eq_true rfl) (k239 (by decide) hq) ?_
    refine Ev.if_ne (t := 138) rfl rfl (fun hb => ?_) (fun hb => ?_)
    · have h := (if_pos hb).symm.trans h
      refine Ev.run (pc' := 139) (ls' := [some (.ref 24), some (.int x1), o2, o3, some (.int x4), some (.long x5), none, some (.int y0), o8]) (st' := [.int (zi 0)]) (h' := mk s3) 1 rfl ?_
      exact k211_139 x1 x4 x5 y0 (zi 0) s3 _ _ _ _ h
    · have h := (if_neg hb).symm.trans h
      refine Ev.run (pc' := 139) (ls' := [some (.ref 24), some (.int x1), o2, o3, some (.int x4), some (.long x5), none, some (.int y0), o8]) (st' := [.int (zi 1)]) (h' := mk s3) 2 rfl ?_
      exact k211_139 x1 x4 x5 y0 (zi 1) s3 _ _ _ _ h
def f211_86  (x1 : Int32) (x4 : Int32) (s : zS) : Option (Int64 × zS) := zb1 (f214 s) (fun v2 s1 => zb1 (f235 32 (zi (-1)) s1) (fun v4 s3 => if v4 < (zi 5) then f211_109 x1 x4 v2 (zi 0) s3 else f211_109 x1 x4 v2 (zi 1) s3))
set_option maxRecDepth 100000 in
theorem k211_86 {X : mX} {D : Nat}   (x1 : Int32) (x4 : Int32) (s : zS) (r : Int64 × zS) (o2 : Option Value) (o3 : Option Value) (o5 : Option Value) (o6 : Option Value) (o7 : Option Value) (o8 : Option Value)  (h : f211_86  x1 x4 s = some r) : Ev X (D + 3) mm211 86 [some (.ref 24), some (.int x1), o2, o3, some (.int x4), o5, o6, o7, o8] [] (mk s) (encL r) := by
  unfold f211_86 at h
  refine Ev.run (pc' := 87) (ls' := [some (.ref 24), some (.int x1), o2, o3, some (.int x4), o5, o6, o7, o8]) (st' := [.ref 24]) (h' := mk s) 1 rfl ?_
  obtain ⟨v2, s1, hq, h⟩ := zb1_some h
  refine Ev.call (M' := mm214) (v := some (.long v2)) (h' := mk s1) rfl rfl rfl (Nat.le_of_ble_eq_true rfl) (k214 hq) ?_
  refine Ev.run (pc' := 97) (ls' := [some (.ref 24), some (.int x1), o2, o3, some (.int x4), some (.long v2), none, o7, o8]) (st' := [.int (zi (-1)), .ref 32]) (h' := mk s1) 4 rfl ?_
  obtain ⟨v4, s3, hq, h⟩ := zb1_some h
  refine Ev.call (M' := mm235) (v := some (.int v4)) (h' := mk s3) rfl rfl rfl (Nat.le_of_ble_eq_true rfl) (k235 (by decide) hq) ?_
  refine Ev.run (pc' := 101) (ls' := [some (.ref 24), some (.int x1), o2, o3, some (.int x4), some (.long v2), none, o7, o8]) (st' := [.int (zi 5), .int v4]) (h' := mk s3) 1 rfl ?_
  refine Ev.icmp_lt (t := 108) rfl rfl (fun hb => ?_) (fun hb => ?_)
  · have h := (if_pos hb).symm.trans h
    refine Ev.run (pc' := 109) (ls' := [some (.ref 24), some (.int x1), o2, o3, some (.int x4), some (.long v2), none, o7, o8]) (st' := [.int (zi 0)]) (h' := mk s3) 1 rfl ?_
    exact k211_109 x1 x4 v2 (zi 0) s3 _ _ _ _ _ h
  · have h := (if_neg hb).symm.trans h
    refine Ev.run (pc' := 109) (ls' := [some (.ref 24), some (.int x1), o2, o3, some (.int x4), some (.long v2), none, o7, o8]) (st' := [.int (zi 1)]) (h' := mk s3) 2 rfl ?_
    exact k211_109 x1 x4 v2 (zi 1) s3 _ _ _ _ _ h
def b211_59 (rec59 : Int32 → Int32 → Int32 → Int32 → zS → Option (Int64 × zS)) (x1 : Int32) (x2 : Int32) (x3 : Int32) (x4 : Int32) (s : zS) : Option (Int64 × zS) := zb1 (f213 s) (fun v2 s1 => if v2 ≥ x2 then f211_86 x1 x4 s1 else if x4 ≤ x3 then f211_86 x1 x4 s1 else zb0 (f232 32 s1) (fun s3 => rec59 x1 x2 x3 (x4 + zi (-1)) s3))
set_option maxRecDepth 100000 in
theorem kb211_59 {X : mX} {D : Nat} {rec59 : Int32 → Int32 → Int32 → Int32 → zS → Option (Int64 × zS)} (hrec59 : ∀ (x1 : Int32) (x2 : Int32) (x3 : Int32) (x4 : Int32) (s : zS) (r : Int64 × zS) (o5 : Option Value) (o6 : Option Value) (o7 : Option Value) (o8 : Option Value), rec59 x1 x2 x3 x4 s = some r → Ev X (D + 3) mm211 59 [some (.ref 24), some (.int x1), some (.int x2), some (.int x3), some (.int x4), o5, o6, o7, o8] [] (mk s) (encL r)) (x1 : Int32) (x2 : Int32) (x3 : Int32) (x4 : Int32) (s : zS) (r : Int64 × zS) (o5 : Option Value) (o6 : Option Value) (o7 : Option Value) (o8 : Option Value)  (h : b211_59 rec59 x1 x2 x3 x4 s = some r) : Ev X (D + 3) mm211 59 [some (.ref 24), some (.int x1), some (.int x2), some (.int x3), some (.int x4), o5, o6, o7, o8] [] (mk s) (encL r) := by
  unfold b211_59 at h
  refine Ev.run (pc' := 60) (ls' := [some (.ref 24), some (.int x1), some (.int x2), some (.int x3), some (.int x4), o5, o6, o7, o8]) (st' := [.ref 24]) (h' := mk s) 1 rfl ?_
  obtain ⟨v2, s1, hq, h⟩ := zb1_some h
  refine Ev.call (M' := mm213) (v := some (.int v2)) (h' := mk s1) rfl rfl rfl (Nat.le_of_ble_eq_true rfl) (k213 hq) ?_
  refine Ev.run (pc' := 64) (ls' := [some (.ref 24), some (.int x1), some (.int x2), some (.int x3), some (.int x4), o5, o6, o7, o8]) (st' := [.int x2, .int v2]) (h' := mk s1) 1 rfl ?_
  refine Ev.icmp_ge (t := 86) rfl rfl (fun hb => ?_) (fun hb => ?_)
  · have h := (if_pos hb).symm.trans h
    exact k211_86 x1 x4 s1 _ _ _ _ _ _ _ h
  · have h := (if_neg hb).symm.trans h
    refine Ev.run (pc' := 70) (ls' := [some (.ref 24), some (.int x1), some (.int x2), some (.int x3), some (.int x4), o5, o6, o7, o8]) (st' := [.int x3, .int x4]) (h' := mk s1) 2 rfl ?_
    refine Ev.icmp_le (t := 86) rfl rfl (fun hb => ?_) (fun hb => ?_)
    · have h := (if_pos hb).symm.trans h
      exact k211_86 x1 x4 s1 _ _ _ _ _ _ _ h
    · have h := (if_neg hb).symm.trans h
      refine Ev.run (pc' := 77) (ls' := [some (.ref 24), some (.int x1), some (.int x2), some (.int x3), some (.int x4), o5, o6, o7, o8]) (st' := [.ref 32]) (h' := mk s1) 2 rfl ?_
      obtain ⟨s3, hq, h⟩ := zb0_some h
      refine Ev.call (M' := mm232) (v := none) (h' := mk s3) rfl rfl rfl (Nat.le_of_ble_eq_true rfl) (k232 (by decide) hq) ?_
      refine Ev.run (pc' := 59) (ls' := [some (.ref 24), some (.int x1), some (.int x2), some (.int x3), some (.int (x4 + zi (-1))), o5, o6, o7, o8]) (st' := []) (h' := mk s3) 2 rfl ?_
      exact hrec59 x1 x2 x3 (x4 + zi (-1)) s3 _ _ _ _ _ h
def f211_59  : Nat → Int32 → Int32 → Int32 → Int32 → zS → Option (Int64 × zS)
  | 0, _, _, _, _, _ => none
  | n + 1, x1, x2, x3, x4, s => b211_59 (f211_59 n) x1 x2 x3 x4 s
set_option maxRecDepth 100000 in
theorem k211_59 {X : mX} {D : Nat}   (n : Nat) : ∀ (x1 : Int32) (x2 : Int32) (x3 : Int32) (x4 : Int32) (s : zS) (r : Int64 × zS) (o5 : Option Value) (o6 : Option Value) (o7 : Option Value) (o8 : Option Value), f211_59  n x1 x2 x3 x4 s = some r → Ev X (D + 3) mm211 59 [some (.ref 24), some (.int x1), some (.int x2), some (.int x3), some (.int x4), o5, o6, o7, o8] [] (mk s) (encL r) := by
  induction n with
  | zero => intro x1 x2 x3 x4 s r o5 o6 o7 o8  h; cases h
  | succ n ih => intro x1 x2 x3 x4 s r o5 o6 o7 o8  h; exact kb211_59  ih x1 x2 x3 x4 s r o5 o6 o7 o8  h
def f211_46 (rec29 : Int32 → Int32 → Int32 → Int32 → zS → Option (Int64 × zS)) (x1 : Int32) (x2 : Int32) (x3 : Int32) (x4 : Int32) (s : zS) : Option (Int64 × zS) := zb0 (f233 32 s) (fun s1 => rec29 x1 x2 x3 (x4 + zi 1) s1)
set_option maxRecDepth 100000 in
theorem k211_46 {X : mX} {D : Nat} {rec29 : Int32 → Int32 → Int32 → Int32 → zS → Option (Int64 × zS)} (hrec29 : ∀ (x1 : Int32) (x2 : Int32) (x3 : Int32) (x4 : Int32) (s : zS) (r : Int64 × zS) (o5 : Option Value) (o6 : Option Value) (o7 : Option Value) (o8 : Option Value), rec29 x1 x2 x3 x4 s = some r → Ev X (D + 3) mm211 29 [some (.ref 24), some (.int x1), some (.int x2), some (.int x3), some (.int x4), o5, o6, o7, o8] [] (mk s) (encL r)) (x1 : Int32) (x2 : Int32) (x3 : Int32) (x4 : Int32) (s : zS) (r : Int64 × zS) (o5 : Option Value) (o6 : Option Value) (o7 : Option Value) (o8 : Option Value)  (h : f211_46 rec29 x1 x2 x3 x4 s = some r) : Ev X (D + 3) mm211 46 [some (.ref 24), some (.int x1), some (.int x2), some (.int x3), some (.int x4), o5, o6, o7, o8] [] (mk s) (encL r) := by
  unfold f211_46 at h
  refine Ev.run (pc' := 50) (ls' := [some (.ref 24), some (.int x1), some (.int x2), some (.int x3), some (.int x4), o5, o6, o7, o8]) (st' := [.ref 32]) (h' := mk s) 2 rfl ?_
  obtain ⟨s1, hq, h⟩ := zb0_some h
  refine Ev.call (M' := mm233) (v := none) (h' := mk s1) rfl rfl rfl (Nat.le_of_ble_eq_true rfl) (k233 (by decide) hq) ?_
  refine Ev.run (pc' := 29) (ls' := [some (.ref 24), some (.int x1), some (.int x2), some (.int x3), some (.int (x4 + zi 1)), o5, o6, o7, o8]) (st' := []) (h' := mk s1) 2 rfl ?_
  exact hrec29 x1 x2 x3 (x4 + zi 1) s1 _ _ _ _ _ h
def b211_29 (rec29 : Int32 → Int32 → Int32 → Int32 → zS → Option (Int64 × zS)) (x1 : Int32) (x2 : Int32) (x3 : Int32) (x4 : Int32) (s : zS) : Option (Int64 × zS) := zb1 (f213 s) (fun v2 s1 => if v2 ≥ (x2 + (zi 1)) then f211_46 rec29 x1 x2 x3 x4 s1 else zb1 (f213 s1) (fun v4 s3 => if v4 ≥ zi 0 then f211_59 zF x1 x2 x3 x4 s3 else f211_46 rec29 x1 x2 x3 x4 s3))
set_option maxRecDepth 100000 in
theorem kb211_29 {X : mX} {D : Nat} {rec29 : Int32 → Int32 → Int32 → Int32 → zS → Option (Int64 × zS)} (hrec29 : ∀ (x1 : Int32) (x2 : Int32) (x3 : Int32) (x4 : Int32) (s : zS) (r : Int64 × zS) (o5 : Option Value) (o6 : Option Value) (o7 : Option Value) (o8 : Option Value), rec29 x1 x2 x3 x4 s = some r → Ev X (D + 3) mm211 29 [some (.ref 24), some (.int x1), some (.int x2), some (.int x3), some (.int x4), o5, o6, o7, o8] [] (mk s) (encL r)) (x1 : Int32) (x2 : Int32) (x3 : Int32) (x4 : Int32) (s : zS) (r : Int64 × zS) (o5 : Option Value) (o6 : Option Value) (o7 : Option Value) (o8 : Option Value)  (h : b211_29 rec29 x1 x2 x3 x4 s = some r) : Ev X (D + 3) mm211 29 [some (.ref 24), some (.int x1), some (.int x2), some (.int x3), some (.int x4), o5, o6, o7, o8] [] (mk s) (encL r) := by
  unfold b211_29 at h
  refine Ev.run (pc' := 30) (ls' := [some (.ref 24), some (.int x1), some (.int x2), some (.int x3), some (.int x4), o5, o6, o7, o8]) (st' := [.ref 24]) (h' := mk s) 1 rfl ?_
  obtain ⟨v2, s1, hq, h⟩ := zb1_some h
  refine Ev.call (M' := mm213) (v := some (.int v2)) (h' := mk s1) rfl rfl rfl (Nat.le_of_ble_eq_true rfl) (k213 hq) ?_
  refine Ev.run (pc' := 36) (ls' := [some (.ref 24), some (.int x1), some (.int x2), some (.int x3), some (.int x4), o5, o6, o7, o8]) (st' := [.int (x2 + (zi 1)), .int v2]) (h' := mk s1) 3 rfl ?_
  refine Ev.icmp_ge (t := 46) rfl rfl (fun hb => ?_) (fun hb => ?_)
  · have h := (if_pos hb).symm.trans h
    exact k211_46 hrec29 x1 x2 x3 x4 s1 _ _ _ _ _ h
  · have h := (if_neg hb).symm.trans h
    refine Ev.run (pc' := 40) (ls' := [some (.ref 24), some (.int x1), some (.int x2), some (.int x3), some (.int x4), o5, o6, o7, o8]) (st' := [.ref 24]) (h' := mk s1) 1 rfl ?_
    obtain ⟨v4, s3, hq, h⟩ := zb1_some h
    refine Ev.call (M' := mm213) (v := some (.int v4)) (h' := mk s3) rfl rfl rfl (Nat.le_of_ble_eq_true rfl) (k213 hq) ?_
    refine Ev.if_ge (t := 59) rfl rfl (fun hb => ?_) (fun hb => ?_)
    · have h := (if_pos hb).symm.trans h
      exact k211_59 zF x1 x2 x3 x4 s3 _ _ _ _ _ h
    · have h := (if_neg hb).symm.trans h
      exact k211_46 hrec29 x1 x2 x3 x4 s3 _ _ _ _ _ h
def f211_29  : Nat → Int32 → Int32 → Int32 → Int32 → zS → Option (Int64 × zS)
  | 0, _, _, _, _, _ => none
  | n + 1, x1, x2, x3, x4, s => b211_29 (f211_29 n) x1 x2 x3 x4 s
set_option maxRecDepth 100000 in
theorem k211_29 {X : mX} {D : Nat}   (n : Nat) : ∀ (x1 : Int32) (x2 : Int32) (x3 : Int32) (x4 : Int32) (s : zS) (r : Int64 × zS) (o5 : Option Value) (o6 : Option Value) (o7 : Option Value) (o8 : Option Value), f211_29  n x1 x2 x3 x4 s = some r → Ev X (D + 3) mm211 29 [some (.ref 24), some (.int x1), some (.int x2), some (.int x3), some (.int x4), o5, o6, o7, o8] [] (mk s) (encL r) := by
  induction n with
  | zero => intro x1 x2 x3 x4 s r o5 o6 o7 o8  h; cases h
  | succ n ih => intro x1 x2 x3 x4 s r o5 o6 o7 o8  h; exact kb211_29  ih x1 x2 x3 x4 s r o5 o6 o7 o8  h
def f211_11  (x1 : Int32) (y0 : Int32) (s : zS) : Option (Int64 × zS) := if x1 = zi 0 then f211_29 zF x1 y0 (zi (-1074)) (zi 0) s else f211_29 zF x1 y0 (zi (-149)) (zi 0) s
set_option maxRecDepth 100000 in
theorem k211_11 {X : mX} {D : Nat}   (x1 : Int32) (y0 : Int32) (s : zS) (r : Int64 × zS) (o2 : Option Value) (o3 : Option Value) (o4 : Option Value) (o5 : Option Value) (o6 : Option Value) (o7 : Option Value) (o8 : Option Value)  (h : f211_11  x1 y0 s = some r) : Ev X (D + 3) mm211 11 [some (.ref 24), some (.int x1), o2, o3, o4, o5, o6, o7, o8] [.int y0] (mk s) (encL r) := by
  unfold f211_11 at h
  refine Ev.run (pc' := 13) (ls' := [some (.ref 24), some (.int x1), some (.int y0), o3, o4, o5, o6, o7, o8]) (st' := [.int x1]) (h' := mk s) 2 rfl ?_
  refine Ev.if_eq (t := 22) rfl rfl (fun hb => ?_) (fun hb => ?_)
  · have h := (if_pos hb).symm.trans h
    refine Ev.run (pc' := 29) (ls' := [some (.ref 24), some (.int x1), some (.int y0), some (.int (zi (-1074))), some (.int (zi 0)), o5, o6, o7, o8]) (st' := []) (h' := mk s) 4 rfl ?_
    exact k211_29 zF x1 y0 (zi (-1074)) (zi 0) s _ _ _ _ _ h
  · have h := (if_neg hb).symm.trans h
    refine Ev.run (pc' := 29) (ls' := [some (.ref 24), some (.int x1), some (.int y0), some (.int (zi (-149))), some (.int (zi 0)), o5, o6, o7, o8]) (st' := []) (h' := mk s) 5 rfl ?_
    exact k211_29 zF x1 y0 (zi (-149)) (zi 0) s _ _ _ _ _ h
def f211  (x1 : Int32) (s : zS) : Option (Int64 × zS) := if x1 = zi 0 then f211_11 x1 (zi 53) s else f211_11 x1 (zi 24) s
set_option maxRecDepth 100000 in
theorem k211 {X : mX} {D : Nat} {x1 : Int32} {s : zS} {r : Int64 × zS}  (h : f211 x1 s = some r) : Ev X (D + 3) mm211 0 [some (.ref 24), some (.int x1), none, none, none, none, none, none, none] [] (mk s) (encL r) := by
  unfold f211 at h
  refine Ev.run (pc' := 1) (ls' := [some (.ref 24), some (.int x1), none, none, none, none, none, none, none]) (st' := [.int x1]) (h' := mk s) 1 rfl ?_
  refine Ev.if_eq (t := 9) rfl rfl (fun hb => ?_) (fun hb => ?_)
  · have h := (if_pos hb).symm.trans h
    refine Ev.run (pc' := 11) (ls' := [some (.ref 24), some (.int x1), none, none, none, none, none, none, none]) (st' := [.int (zi 53)]) (h' := mk s) 1 rfl ?_
    exact k211_11 x1 (zi 53) s _ _ _ _ _ _ _ _ h
  · have h := (if_neg hb).symm.trans h
    refine Ev.run (pc' := 11) (ls' := [some (.ref 24), some (.int x1), none, none, none, none, none, none, none]) (st' := [.int (zi 24)]) (h' := mk s) 2 rfl ?_
    exact k211_11 x1 (zi 24) s _ _ _ _ _ _ _ _ h
/-! 210 FModel.decimals(Z)J -/
def f210_259 (rec185 : Int32 → Int32 → Int32 → Int32 → Int32 → Int32 → zS → Option (Int64 × zS)) (x1 : Int32) (x5 : Int32) (x8 : Int32) (x9 : Int32) (x11 : Int32) (x12 : Int32) (s : zS) : Option (Int64 × zS) := zb0 (f240 32 (x12 - (zi 48)) x9 s) (fun s1 => rec185 x1 x5 x8 (x9 + zi (-1)) (zi 1) (x11 + zi 1) s1)
set_option maxRecDepth 100000 in
theorem k210_259 {X : mX} {D : Nat} {rec185 : Int32 → Int32 → Int32 → Int32 → Int32 → Int32 → zS → Option (Int64 × zS)} (hrec185 : ∀ (x1 : Int32) (x5 : Int32) (x8 : Int32) (x9 : Int32) (x10 : Int32) (x11 : Int32) (s : zS) (r : Int64 × zS) (o2 : Option Value) (o3 : Option Value) (o4 : Option Value) (o6 : Option Value) (o7 : Option Value) (o12 : Option Value), rec185 x1 x5 x8 x9 x10 x11 s = some r → Ev X (D + 4) mm210 185 [some (.ref 24), some (.int x1), o2, o3, o4, some (.int x5), o6, o7, some (.int x8), some (.int x9), some (.int x10), some (.int x11), o12] [] (mk s) (encL r)) (x1 : Int32) (x5 : Int32) (x8 : Int32) (x9 : Int32) (x11 : Int32) (x12 : Int32) (s : zS) (r : Int64 × zS) (o2 : Option Value) (o3 : Option Value) (o4 : Option Value) (o6 : Option Value) (o7 : Option Value) (o10 : Option Value)  (h : f210_259 rec185 x1 x5 x8 x9 x11 x12 s = some r) : Ev X (D + 4) mm210 259 [some (.ref 24), some (.int x1), o2, o3, o4, some (.int x5), o6, o7, some (.int x8), some (.int x9), o10, some (.int x11), some (.int x12)] [] (mk s) (encL r) := by
  unfold f210_259 at h
  refine Ev.run (pc' := 273) (ls' := [some (.ref 24), some (.int x1), o2, o3, o4, some (.int x5), o6, o7, some (.int x8), some (.int x9), some (.int (zi 1)), some (.int x11), some (.int x12)]) (st' := [.int x9, .int (x12 - (zi 48)), .ref 32]) (h' := mk s) 8 rfl ?_
  obtain ⟨s1, hq, h⟩ := zb0_some h
  refine Ev.call (M' := mm240) (v := none) (h' := mk s1) rfl rfl rfl (Nat.le_of_ble_eq_true rfl) (k240 (by decide) hq) ?_
  refine Ev.run (pc' := 185) (ls' := [some (.ref 24), some (.int x1), o2, o3, o4, some (.int x5), o6, o7, some (.int x8), some (.int (x9 + zi (-1))), some (.int (zi 1)), some (.int (x11 + zi 1)), some (.int x12)]) (st' := []) (h' := mk s1) 3 rfl ?_
  exact hrec185 x1 x5 x8 (x9 + zi (-1)) (zi 1) (x11 + zi 1) s1 _ _ _ _ _ _ _ h
def f210_244 (rec185 : Int32 → Int32 → Int32 → Int32 → Int32 → Int32 → zS → Option (Int64 × zS)) (x1 : Int32) (x5 : Int32) (x8 : Int32) (x9 : Int32) (x10 : Int32) (x11 : Int32) (x12 : Int32) (s : zS) : Option (Int64 × zS) := if ¬ x10 = zi 0 then f210_259 rec185 x1 x5 x8 x9 x11 x12 s else if x9 ≥ (zi (-400)) then f210_259 rec185 x1 x5 x8 x9 x11 x12 s else some (zl 0, s)
set_option maxRecDepth 100000 in
theorem k210_244 {X : mX} {D : Nat} {rec185 : Int32 → Int32 → Int32 → Int32 → Int32 → Int32 → zS → Option (Int64 × zS)} (hrec185 : ∀ (x1 : Int32) (x5 : Int32) (x8 : Int32) (x9 : Int32) (x10 : Int32) (x11 : Int32) (s : zS) (r : Int64 × zS) (o2 : Option Value) (o3 : Option Value) (o4 : Option Value) (o6 : Option Value) (o7 : Option Value) (o12 : Option Value), rec185 x1 x5 x8 x9 x10 x11 s = some r → Ev X (D + 4) mm210 185 [some (.ref 24), some (.int x1), o2, o3, o4, some (.int x5), o6, o7, some (.int x8), some (.int x9), some (.int x10), some (.int x11), o12] [] (mk s) (encL r)) (x1 : Int32) (x5 : Int32) (x8 : Int32) (x9 : Int32) (x10 : Int32) (x11 : Int32) (x12 : Int32) (s : zS) (r : Int64 × zS) (o2 : Option Value) (o3 : Option Value) (o4 : Option Value) (o6 : Option Value) (o7 : Option Value)  (h : f210_244 rec185 x1 x5 x8 x9 x10 x11 x12 s = some r) : Ev X (D + 4) mm210 244 [some (.ref 24), some (.int x1), o2, o3, o4, some (.int x5), o6, o7, some (.int x8), some (.int x9), some (.int x10), some (.int x11), some (.int x12)] [] (mk s) (encL r) := by
  unfold f210_244 at h
  refine Ev.run (pc' := 246) (ls' := [some (.ref 24), some (.int x1), o2, o3, o4, some (.int x5), o6, o7, some (.int x8), some (.int x9), some (.int x10), some (.int x11), some (.int x12)]) (st' := [.int x10]) (h' := mk s) 1 rfl ?_
  refine Ev.if_ne (t := 259) rfl rfl (fun hb => ?_) (fun hb => ?_)
  · have h := (if_pos hb).symm.trans h
    exact k210_259 hrec185 x1 x5 x8 x9 x11 x12 s _ _ _ _ _ _ _ h
  · have h := (if_neg hb).symm.trans h
    refine Ev.run (pc' := 254) (ls' := [some (.ref 24), some (.int x1), o2, o3, o4, some (.int x5), o6, o7, some (.int x8), some (.int x9), some (.int x10), some (.int x11), some (.int x12)]) (st' := [.int (zi (-400)), .int x9]) (h' := mk s) 2 rfl ?_
    refine Ev.icmp_ge (t := 259) rfl rfl (fun hb => ?_) (fun hb => ?_)
    · have h := (if_pos hb).symm.trans h
      exact k210_259 hrec185 x1 x5 x8 x9 x11 x12 s _ _ _ _ _ _ _ h
    · have h := (if_neg hb).symm.trans h
      refine Ev.run (pc' := 258) (ls' := [some (.ref 24), some (.int x1), o2, o3, o4, some (.int x5), o6, o7, some (.int x8), some (.int x9), some (.int x10), some (.int x11), some (.int x12)]) (st' := [.long (zl 0)]) (h' := mk s) 1 rfl ?_
      first | (obtain rfl := Option.some.inj h) | (cases h)
      exact Ev.fin rfl rfl
def b210_185 (rec185 : Int32 → Int32 → Int32 → Int32 → Int32 → Int32 → zS → Option (Int64 × zS)) (x1 : Int32) (x5 : Int32) (x8 : Int32) (x9 : Int32) (x10 : Int32) (x11 : Int32) (s : zS) : Option (Int64 × zS) := if x11 ≥ x5 then if x10 = zi 0 then some (zl 0, s) else zb1 (f211 x1 s) (fun v2 s1 => some (v2, s1)) else zb1 (f205 x11 s) (fun v4 s3 => if ¬ v4 = (zi 46) then if v4 = (zi 48) then rec185 x1 x5 x8 (x9 + zi (-1)) x10 (x11 + zi 1) s3 else if ¬ x10 = zi 0 then f210_244 rec185 x1 x5 x8 x9 x10 x11 v4 s3 else if x9 ≤ (zi 400) then f210_244 rec185 x1 x5 x8 x9 x10 x11 v4 s3 else if x1 = zi 0 then some (zl 9218868437227405312, s3) else some (zl 2139095040, s3) else rec185 x1 x5 x8 x9 x10 (x11 + zi 1) s3)
set_option maxRecDepth 100000 in
theorem kb210_185 {X : mX} {D : Nat} {rec185 : Int32 → Int32 → Int32 → Int32 → Int32 → Int32 → zS → Option (Int64 × zS)} (hrec185 : ∀ (x1 : Int32) (x5 : Int32) (x8 : Int32) (x9 : Int32) (x10 : Int32) (x11 : Int32) (s : zS) (r : Int64 × zS) (o2 : Option Value) (o3 : Option Value) (o4 : Option Value) (o6 : Option Value) (o7 : Option Value) (o12 : Option Value), rec185 x1 x5 x8 x9 x10 x11 s = some r → Ev X (D + 4) mm210 185 [some (.ref 24), some (.int x1), o2, o3, o4, some (.int x5), o6, o7, some (.int x8), some (.int x9), some (.int x10), some (.int x11), o12] [] (mk s) (encL r)) (x1 : Int32) (x5 : Int32) (x8 : Int32) (x9 : Int32) (x10 : Int32) (x11 : Int32) (s : zS) (r : Int64 × zS) (o2 : Option Value) (o3 : Option Value) (o4 : Option Value) (o6 : Option Value) (o7 : Option Value) (o12 : Option Value)  (h : b210_185 rec185 x1 x5 x8 x9 x10 x11 s = some r) : Ev X (D + 4) mm210 185 [some (.ref 24), some (.int x1), o2, o3, o4, some (.int x5), o6, o7, some (.int x8), some (.int x9), some (.int x10), some (.int x11), o12] [] (mk s) (encL r) := by
  unfold b210_185 at h
  refine Ev.run (pc' := 189) (ls' := [some (.ref 24), some (.int x1), o2, o3, o4, some (.int x5), o6, o7, some (.int x8), some (.int x9), some (.int x10), some (.int x11), o12]) (st' := [.int x5, .int x11]) (h' := mk s) 2 rfl ?_
  refine Ev.icmp_ge (t := 285) rfl rfl (fun hb => ?_) (fun hb => ?_)
  · have h := (if_pos hb).symm.trans h
    refine Ev.run (pc' := 287) (ls' := [some (.ref 24), some (.int x1), o2, o3, o4, some (.int x5), o6, o7, some (.int x8), some (.int x9), some (.int x10), some (.int x11), o12]) (st' := [.int x10]) (h' := mk s) 1 rfl ?_
    refine Ev.if_eq (t := 298) rfl rfl (fun hb => ?_) (fun hb => ?_)
    · have h := (if_pos hb).symm.trans h
      refine Ev.run (pc' := 299) (ls' := [some (.ref 24), some (.int x1), o2, o3, o4, some (.int x5), o6, o7, some (.int x8), some (.int x9), some (.int x10), some (.int x11), o12]) (st' := [.long (zl 0)]) (h' := mk s) 1 rfl ?_
      first | (obtain rfl := Option.some.inj h) | (cases h)
      exact Ev.fin rfl rfl
    · have h := (if_neg hb).symm.trans h
      refine Ev.run (pc' := 292) (ls' := [some (.ref 24), some (.int x1), o2, o3, o4, some (.int x5), o6, o7, some (.int x8), some (.int x9), some (.int x10), some (.int x11), o12]) (st' := [.int x1, .ref 24]) (h' := mk s) 2 rfl ?_
      obtain ⟨v2, s1, hq, h⟩ := zb1_some h
      refine Ev.call (M' := mm211) (v := some (.long v2)) (h' := mk s1) rfl rfl rfl (Nat.le_of_ble_eq_true rfl) (k211 hq) ?_
      refine Ev.run (pc' := 299) (ls' := [some (.ref 24), some (.int x1), o2, o3, o4, some (.int x5), o6, o7, some (.int x8), some (.int x9), some (.int x10), some (.int x11), o12]) (st' := [.long v2]) (h' := mk s1) 1 rfl ?_
      first | (obtain rfl := Option.some.inj h) | (cases h)
      exact Ev.fin rfl rfl
  · have h := (if_neg hb).symm.trans h
    refine Ev.run (pc' := 195) (ls' := [some (.ref 24), some (.int x1), o2, o3, o4, some (.int x5), o6, o7, some (.int x8), some (.int x9), some (.int x10), some (.int x11), o12]) (st' := [.int x11, .ref 24]) (h' := mk s) 2 rfl ?_
    obtain ⟨v4, s3, hq, h⟩ := zb1_some h
    refine Ev.call (M' := mm205) (v := some (.int v4)) (h' := mk s3) rfl rfl rfl (Nat.le_of_ble_eq_true rfl) (k205 hq) ?_
    refine Ev.run (pc' := 204) (ls' := [some (.ref 24), some (.int x1), o2, o3, o4, some (.int x5), o6, o7, some (.int x8), some (.int x9), some (.int x10), some (.int x11), some (.int v4)]) (st' := [.int (zi 46), .int v4]) (h' := mk s3) 3 rfl ?_
    refine Ev.icmp_ne (t := 210) rfl rfl (fun hb => ?_) (fun hb => ?_)
    · have h := (if_pos hb).symm.trans h
      refine Ev.run (pc' := 214) (ls' := [some (.ref 24), some (.int x1), o2, o3, o4, some (.int x5), o6, o7, some (.int x8), some (.int x9), some (.int x10), some (.int x11), some (.int v4)]) (st' := [.int (zi 48), .int v4]) (h' := mk s3) 2 rfl ?_
      refine Ev.icmp_eq (t := 276) rfl rfl (fun hb => ?_) (fun hb => ?_)
      · have h := (if_pos hb).symm.trans h
        refine Ev.run (pc' := 185) (ls' := [some (.ref 24), some (.int x1), o2, o3, o4, some (.int x5), o6, o7, some (.int x8), some (.int (x9 + zi (-1))), some (.int x10), some (.int (x11 + zi 1)), some (.int v4)]) (st' := []) (h' := mk s3) 3 rfl ?_
        exact hrec185 x1 x5 x8 (x9 + zi (-1)) x10 (x11 + zi 1) s3 _ _ _ _ _ _ _ h
      · have h := (if_neg hb).symm.trans h
        refine Ev.run (pc' := 219) (ls' := [some (.ref 24), some (.int x1), o2, o3, o4, some (.int x5), o6, o7, some (.int x8), some (.int x9), some (.int x10), some (.int x11), some (.int v4)]) (st' := [.int x10]) (h' := mk s3) 1 rfl ?_
        refine Ev.if_ne (t := 244) rfl rfl (fun hb => ?_) (fun hb => ?_)
        · have h := (if_pos hb).symm.trans h
          exact k210_244 hrec185 x1 x5 x8 x9 x10 x11 v4 s3 _ _ _ _ _ _ h
        · have h := (if_neg hb).symm.trans h
          refine Ev.run (pc' := 227) (ls' := [some (.ref 24), some (.int x1), o2, o3, o4, some (.int x5), o6, o7, some (.int x8), some (.int x9), some (.int x10), some (.int x11), some (.int v4)]) (st' := [.int (zi 400), .int x9]) (h' := mk s3) 2 rfl ?_
          refine Ev.icmp_le (t := 244) rfl rfl (fun hb => ?_) (fun hb => ?_)
          · have h := (if_pos hb).symm.trans h
            exact k210_244 hrec185 x1 x5 x8 x9 x10 x11 v4 s3 _ _ _ _ _ _ h
          · have h := (if_neg hb).symm.trans h
            refine Ev.run (pc' := 231) (ls' := [some (.ref 24), some (.int x1), o2, o3, o4, some (.int x5), o6, o7, some (.int x8), some (.int x9), some (.int x10), some (.int x11), some (.int v4)]) (st' := [.int x1]) (h' := mk s3) 1 rfl ?_
            refine Ev.if_eq (t := 240) rfl rfl (fun hb => ?_) (fun hb => ?_)
            · have h := (if_pos hb).symm.trans h
              refine Ev.run (pc' := 243) (ls' := [some (.ref 24), some (.int x1), o2, o3, o4, some (.int x5), o6, o7, some (.int x8), some (.int x9), some (.int x10), some (.int x11), some (.int v4)]) (st' := [.long (zl 9218868437227405312)]) (h' := mk s3) 1 rfl ?_
              first | (obtain rfl := Option.some.inj h) | (cases h)
              exact Ev.fin rfl rfl
            · have h := (if_neg hb).symm.trans h
              refine Ev.run (pc' := 243) (ls' := [some (.ref 24), some (.int x1), o2, o3, o4, some (.int x5), o6, o7, some (.int x8), some (.int x9), some (.int x10), some (.int x11), some (.int v4)]) (st' := [.long (zl 2139095040)]) (h' := mk s3) 2 rfl ?_
              first | (obtain rfl := Option.some.inj h) | (cases h)
              exact Ev.fin rfl rfl
    · have h := (if_neg hb).symm.trans h
      refine Ev.run (pc' := 185) (ls' := [some (.ref 24), some (.int x1), o2, o3, o4, some (.int x5), o6, o7, some (.int x8), some (.int x9), some (.int x10), some (.int (x11 + zi 1)), some (.int v4)]) (st' := []) (h' := mk s3) 3 rfl ?_
      exact hrec185 x1 x5 x8 x9 x10 (x11 + zi 1) s3 _ _ _ _ _ _ _ h
def f210_185  : Nat → Int32 → Int32 → Int32 → Int32 → Int32 → Int32 → zS → Option (Int64 × zS)
  | 0, _, _, _, _, _, _, _ => none
  | n + 1, x1, x5, x8, x9, x10, x11, s => b210_185 (f210_185 n) x1 x5 x8 x9 x10 x11 s
set_option maxRecDepth 100000 in
theorem k210_185 {X : mX} {D : Nat}   (n : Nat) : ∀ (x1 : Int32) (x5 : Int32) (x8 : Int32) (x9 : Int32) (x10 : Int32) (x11 : Int32) (s : zS) (r : Int64 × zS) (o2 : Option Value) (o3 : Option Value) (o4 : Option Value) (o6 : Option Value) (o7 : Option Value) (o12 : Option Value), f210_185  n x1 x5 x8 x9 x10 x11 s = some r → Ev X (D + 4) mm210 185 [some (.ref 24), some (.int x1), o2, o3, o4, some (.int x5), o6, o7, some (.int x8), some (.int x9), some (.int x10), some (.int x11), o12] [] (mk s) (encL r) := by
  induction n with
  | zero => intro x1 x5 x8 x9 x10 x11 s r o2 o3 o4 o6 o7 o12  h; cases h
  | succ n ih => intro x1 x5 x8 x9 x10 x11 s r o2 o3 o4 o6 o7 o12  h; exact kb210_185  ih x1 x5 x8 x9 x10 x11 s r o2 o3 o4 o6 o7 o12  h
def f210_154  (x1 : Int32) (x5 : Int32) (x6 : Int32) (y0 : Int32) (s : zS) : Option (Int64 × zS) := zb0 (f230 32 s) (fun s1 => f210_185 zF x1 x5 ((y0 - (zi 1)) + x6) ((y0 - (zi 1)) + x6) (zi 0) (s1.1 24 38) s1)
set_option maxRecDepth 100000 in
theorem k210_154 {X : mX} {D : Nat}   (x1 : Int32) (x5 : Int32) (x6 : Int32) (y0 : Int32) (s : zS) (r : Int64 × zS) (o2 : Option Value) (o3 : Option Value) (o4 : Option Value) (o7 : Option Value) (o8 : Option Value) (o9 : Option Value) (o10 : Option Value) (o11 : Option Value) (o12 : Option Value)  (h : f210_154  x1 x5 x6 y0 s = some r) : Ev X (D + 4) mm210 154 [some (.ref 24), some (.int x1), o2, o3, o4, some (.int x5), some (.int x6), o7, o8, o9, o10, o11, o12] [.int y0] (mk s) (encL r) := by
  unfold f210_154 at h
  refine Ev.run (pc' := 169) (ls' := [some (.ref 24), some (.int x1), o2, o3, o4, some (.int x5), some (.int x6), some (.int y0), some (.int ((y0 - (zi 1)) + x6)), o9, o10, o11, o12]) (st' := [.ref 32]) (h' := mk s) 9 rfl ?_
  obtain ⟨s1, hq, h⟩ := zb0_some h
  refine Ev.call (M' := mm230) (v := none) (h' := mk s1) rfl rfl rfl (Nat.le_of_ble_eq_true rfl) (k230 (by decide) hq) ?_
  refine Ev.run (pc' := 185) (ls' := [some (.ref 24), some (.int x1), o2, o3, o4, some (.int x5), some (.int x6), some (.int y0), some (.int ((y0 - (zi 1)) + x6)), some (.int ((y0 - (zi 1)) + x6)), some (.int (zi 0)), some (.int (s1.1 24 38)), o12]) (st' := []) (h' := mk s1) 7 rfl ?_
  exact k210_185 zF x1 x5 ((y0 - (zi 1)) + x6) ((y0 - (zi 1)) + x6) (zi 0) (s1.1 24 38) s1 _ _ _ _ _ _ _ h
def f210_123  (x1 : Int32) (x4 : Int32) (x5 : Int32) (x6 : Int32) (s : zS) : Option (Int64 × zS) := if ¬ (s.1 24 40) = zi 0 then if x4 ≥ zi 0 then f210_154 x1 x5 x6 (x4 - (s.1 24 38)) s else f210_154 x1 x5 x6 (x5 - (s.1 24 38)) s else some (zl 0, s)
set_option maxRecDepth 100000 in
theorem k210_123 {X : mX} {D : Nat}   (x1 : Int32) (x4 : Int32) (x5 : Int32) (x6 : Int32) (s : zS) (r : Int64 × zS) (o2 : Option Value) (o3 : Option Value) (o7 : Option Value) (o8 : Option Value) (o9 : Option Value) (o10 : Option Value) (o11 : Option Value) (o12 : Option Value)  (h : f210_123  x1 x4 x5 x6 s = some r) : Ev X (D + 4) mm210 123 [some (.ref 24), some (.int x1), o2, o3, some (.int x4), some (.int x5), some (.int x6), o7, o8, o9, o10, o11, o12] [] (mk s) (encL r) := by
  unfold f210_123 at h
  refine Ev.run (pc' := 127) (ls' := [some (.ref 24), some (.int x1), o2, o3, some (.int x4), some (.int x5), some (.int x6), o7, o8, o9, o10, o11, o12]) (st' := [.int (s.1 24 40)]) (h' := mk s) 2 rfl ?_
  refine Ev.if_ne (t := 132) rfl rfl (fun hb => ?_) (fun hb => ?_)
  · have h := (if_pos hb).symm.trans h
    refine Ev.run (pc' := 134) (ls' := [some (.ref 24), some (.int x1), o2, o3, some (.int x4), some (.int x5), some (.int x6), o7, o8, o9, o10, o11, o12]) (st' := [.int x4]) (h' := mk s) 1 rfl ?_
    refine Ev.if_ge (t := 147) rfl rfl (fun hb => ?_) (fun hb => ?_)
    · have h := (if_pos hb).symm.trans h
      refine Ev.run (pc' := 154) (ls' := [some (.ref 24), some (.int x1), o2, o3, some (.int x4), some (.int x5), some (.int x6), o7, o8, o9, o10, o11, o12]) (st' := [.int (x4 - (s.1 24 38))]) (h' := mk s) 4 rfl ?_
      exact k210_154 x1 x5 x6 (x4 - (s.1 24 38)) s _ _ _ _ _ _ _ _ _ _ h
    · have h := (if_neg hb).symm.trans h
      refine Ev.run (pc' := 154) (ls' := [some (.ref 24), some (.int x1), o2, o3, some (.int x4), some (.int x5), some (.int x6), o7, o8, o9, o10, o11, o12]) (st' := [.int (x5 - (s.1 24 38))]) (h' := mk s) 5 rfl ?_
      exact k210_154 x1 x5 x6 (x5 - (s.1 24 38)) s _ _ _ _ _ _ _ _ _ _ h
  · have h := (if_neg hb).symm.trans h
    refine Ev.run (pc' := 131) (ls' := [some (.ref 24), some (.int x1), o2, o3, some (.int x4), some (.int x5), some (.int x6), o7, o8, o9, o10, o11, o12]) (st' := [.long (zl 0)]) (h' := mk s) 1 rfl ?_
    first | (obtain rfl := Option.some.inj h) | (cases h)
    exact Ev.fin rfl rfl
def f210_98  (x1 : Int32) (x2 : Int32) (x4 : Int32) (x5 : Int32) (s : zS) : Option (Int64 × zS) := zb1 (f209 (x2 + (zi 1)) s) (fun v2 s1 => f210_123 x1 x4 x5 v2 s1)
set_option maxRecDepth 100000 in
theorem k210_98 {X : mX} {D : Nat}   (x1 : Int32) (x2 : Int32) (x4 : Int32) (x5 : Int32) (s : zS) (r : Int64 × zS) (o3 : Option Value) (o6 : Option Value) (o7 : Option Value) (o8 : Option Value) (o9 : Option Value) (o10 : Option Value) (o11 : Option Value) (o12 : Option Value)  (h : f210_98  x1 x2 x4 x5 s = some r) : Ev X (D + 4) mm210 98 [some (.ref 24), some (.int x1), some (.int x2), o3, some (.int x4), some (.int x5), o6, o7, o8, o9, o10, o11, o12] [] (mk s) (encL r) := by
  unfold f210_98 at h
  refine Ev.run (pc' := 102) (ls' := [some (.ref 24), some (.int x1), some (.int x2), o3, some (.int x4), some (.int x5), o6, o7, o8, o9, o10, o11, o12]) (st' := [.int (x2 + (zi 1)), .ref 24]) (h' := mk s) 4 rfl ?_
  obtain ⟨v2, s1, hq, h⟩ := zb1_some h
  refine Ev.call (M' := mm209) (v := some (.int v2)) (h' := mk s1) rfl rfl rfl (Nat.le_of_ble_eq_true rfl) (k209 hq) ?_
  refine Ev.run (pc' := 123) (ls' := [some (.ref 24), some (.int x1), some (.int x2), o3, some (.int x4), some (.int x5), some (.int v2), o7, o8, o9, o10, o11, o12]) (st' := []) (h' := mk s1) 2 rfl ?_
  exact k210_123 x1 x4 x5 v2 s1 _ _ _ _ _ _ _ _ _ h
def f210_61  (x1 : Int32) (x2 : Int32) (x3 : Int32) (x4 : Int32) (s : zS) : Option (Int64 × zS) := if ¬ x3 = zi 0 then zb1 (f205 x2 s) (fun v2 s1 => if v2 = (zi 101) then f210_98 x1 x2 x4 x2 s1 else zb1 (f205 x2 s1) (fun v4 s3 => if ¬ v4 = (zi 69) then if x2 = (s3.1 24 39) then f210_123 x1 x4 x2 (zi 0) s3 else f210_123 x1 x4 x2 (zi 0) (setI s3 24 40 (zi 0)) else f210_98 x1 x2 x4 x2 s3)) else some (zl 0, setI s 24 40 (zi 0))
set_option maxRecDepth 100000 in
theorem k210_61 {X : mX} {D : Nat}   (x1 : Int32) (x2 : Int32) (x3 : Int32) (x4 : Int32) (s : zS) (r : Int64 × zS) (o5 : Option Value) (o6 : Option Value) (o7 : Option Value) (o8 : Option Value) (o9 : Option Value) (o10 : Option Value) (o11 : Option Value) (o12 : Option Value)  (h : f210_61  x1 x2 x3 x4 s = some r) : Ev X (D + 4) mm210 61 [some (.ref 24), some (.int x1), some (.int x2), some (.int x3), some (.int x4), o5, o6, o7, o8, o9, o10, o11, o12] [] (mk s) (encL r) := by
  unfold f210_61 at h
  refine Ev.run (pc' := 62) (ls' := [some (.ref 24), some (.int x1), some (.int x2), some (.int x3), some (.int x4), o5, o6, o7, o8, o9, o10, o11, o12]) (st' := [.int x3]) (h' := mk s) 1 rfl ?_
  refine Ev.if_ne (t := 72) rfl rfl (fun hb => ?_) (fun hb => ?_)
  · have h := (if_pos hb).symm.trans h
    refine Ev.run (pc' := 80) (ls' := [some (.ref 24), some (.int x1), some (.int x2), some (.int x3), some (.int x4), some (.int x2), some (.int (zi 0)), o7, o8, o9, o10, o11, o12]) (st' := [.int x2, .ref 24]) (h' := mk s) 6 rfl ?_
    obtain ⟨v2, s1, hq, h⟩ := zb1_some h
    refine Ev.call (M' := mm205) (v := some (.int v2)) (h' := mk s1) rfl rfl rfl (Nat.le_of_ble_eq_true rfl) (k205 hq) ?_
    refine Ev.run (pc' := 85) (ls' := [some (.ref 24), some (.int x1), some (.int x2), some (.int x3), some (.int x4), some (.int x2), some (.int (zi 0)), o7, o8, o9, o10, o11, o12]) (st' := [.int (zi 101), .int v2]) (h' := mk s1) 1 rfl ?_
    refine Ev.icmp_eq (t := 98) rfl rfl (fun hb => ?_) (fun hb => ?_)
    · have h := (if_pos hb).symm.trans h
      exact k210_98 x1 x2 x4 x2 s1 _ _ _ _ _ _ _ _ _ h
    · have h := (if_neg hb).symm.trans h
      refine Ev.run (pc' := 90) (ls' := [some (.ref 24), some (.int x1), some (.int x2), some (.int x3), some (.int x4), some (.int x2), some (.int (zi 0)), o7, o8, o9, o10, o11, o12]) (st' := [.int x2, .ref 24]) (h' := mk s1) 2 rfl ?_
      obtain ⟨v4, s3, hq, h⟩ := zb1_some h
      refine Ev.call (M' := mm205) (v := some (.int v4)) (h' := mk s3) rfl rfl rfl (Nat.le_of_ble_eq_true rfl) (k205 hq) ?_
      refine Ev.run (pc' := 95) (ls' := [some (.ref 24), some (.int x1), some (.int x2), some (.int x3), some (.int x4), some (.int x2), some (.int (zi 0)), o7, o8, o9, o10, o11, o12]) (st' := [.int (zi 69), .int v4]) (h' := mk s3) 1 rfl ?_
      refine Ev.icmp_ne (t := 110) rfl rfl (fun hb => ?_) (fun hb => ?_)
      · have h := (if_pos hb).symm.trans h
        refine Ev.run (pc' := 115) (ls' := [some (.ref 24), some (.int x1), some (.int x2), some (.int x3), some (.int x4), some (.int x2), some (.int (zi 0)), o7, o8, o9, o10, o11, o12]) (st' := [.int (s3.1 24 39), .int x2]) (h' := mk s3) 3 rfl ?_
        refine Ev.icmp_eq (t := 123) rfl rfl (fun hb => ?_) (fun hb => ?_)
        · have h := (if_pos hb).symm.trans h
          exact k210_123 x1 x4 x2 (zi 0) s3 _ _ _ _ _ _ _ _ _ h
        · have h := (if_neg hb).symm.trans h
          refine Ev.run (pc' := 120) (ls' := [some (.ref 24), some (.int x1), some (.int x2), some (.int x3), some (.int x4), some (.int x2), some (.int (zi 0)), o7, o8, o9, o10, o11, o12]) (st' := [.int (zi 0), .ref 24]) (h' := mk s3) 2 rfl ?_
          refine Ev.step (pc' := 123) rfl (put_12_40 (by decide) rfl) ?_
          exact k210_123 x1 x4 x2 (zi 0) (setI s3 24 40 (zi 0)) _ _ _ _ _ _ _ _ _ h
      · have h := (if_neg hb).symm.trans h
        exact k210_98 x1 x2 x4 x2 s3 _ _ _ _ _ _ _ _ _ h
  · have h := (if_neg hb).symm.trans h
    refine Ev.run (pc' := 67) (ls' := [some (.ref 24), some (.int x1), some (.int x2), some (.int x3), some (.int x4), o5, o6, o7, o8, o9, o10, o11, o12]) (st' := [.int (zi 0), .ref 24]) (h' := mk s) 2 rfl ?_
    refine Ev.step (pc' := 70) rfl (put_12_40 (by decide) rfl) ?_
    refine Ev.run (pc' := 71) (ls' := [some (.ref 24), some (.int x1), some (.int x2), some (.int x3), some (.int x4), o5, o6, o7, o8, o9, o10, o11, o12]) (st' := [.long (zl 0)]) (h' := mk (setI s 24 40 (zi 0))) 1 rfl ?_
    first | (obtain rfl := Option.some.inj h) | (cases h)
    exact Ev.fin rfl rfl
def f210_36 (rec10 : Int32 → Int32 → Int32 → Int32 → zS → Option (Int64 × zS)) (x1 : Int32) (x2 : Int32) (x3 : Int32) (x4 : Int32) (s : zS) : Option (Int64 × zS) := zb1 (f205 x2 s) (fun v2 s1 => if ¬ v2 = (zi 46) then rec10 x1 (x2 + zi 1) (x3 + zi 1) x4 s1 else rec10 x1 (x2 + zi 1) x3 x2 s1)
set_option maxRecDepth 100000 in
theorem k210_36 {X : mX} {D : Nat} {rec10 : Int32 → Int32 → Int32 → Int32 → zS → Option (Int64 × zS)} (hrec10 : ∀ (x1 : Int32) (x2 : Int32) (x3 : Int32) (x4 : Int32) (s : zS) (r : Int64 × zS) (o5 : Option Value) (o6 : Option Value) (o7 : Option Value) (o8 : Option Value) (o9 : Option Value) (o10 : Option Value) (o11 : Option Value) (o12 : Option Value), rec10 x1 x2 x3 x4 s = some r → Ev X (D + 4) mm210 10 [some (.ref 24), some (.int x1), some (.int x2), some (.int x3), some (.int x4), o5, o6, o7, o8, o9, o10, o11, o12] [] (mk s) (encL r)) (x1 : Int32) (x2 : Int32) (x3 : Int32) (x4 : Int32) (s : zS) (r : Int64 × zS) (o5 : Option Value) (o6 : Option Value) (o7 : Option Value) (o8 : Option Value) (o9 : Option Value) (o10 : Option Value) (o11 : Option Value) (o12 : Option Value)  (h : f210_36 rec10 x1 x2 x3 x4 s = some r) : Ev X (D + 4) mm210 36 [some (.ref 24), some (.int x1), some (.int x2), some (.int x3), some (.int x4), o5, o6, o7, o8, o9, o10, o11, o12] [] (mk s) (encL r) := by
  unfold f210_36 at h
  refine Ev.run (pc' := 38) (ls' := [some (.ref 24), some (.int x1), some (.int x2), some (.int x3), some (.int x4), o5, o6, o7, o8, o9, o10, o11, o12]) (st' := [.int x2, .ref 24]) (h' := mk s) 2 rfl ?_
  obtain ⟨v2, s1, hq, h⟩ := zb1_some h
  refine Ev.call (M' := mm205) (v := some (.int v2)) (h' := mk s1) rfl rfl rfl (Nat.le_of_ble_eq_true rfl) (k205 hq) ?_
  refine Ev.run (pc' := 43) (ls' := [some (.ref 24), some (.int x1), some (.int x2), some (.int x3), some (.int x4), o5, o6, o7, o8, o9, o10, o11, o12]) (st' := [.int (zi 46), .int v2]) (h' := mk s1) 1 rfl ?_
  refine Ev.icmp_ne (t := 52) rfl rfl (fun hb => ?_) (fun hb => ?_)
  · have h := (if_pos hb).symm.trans h
    refine Ev.run (pc' := 10) (ls' := [some (.ref 24), some (.int x1), some (.int (x2 + zi 1)), some (.int (x3 + zi 1)), some (.int x4), o5, o6, o7, o8, o9, o10, o11, o12]) (st' := []) (h' := mk s1) 3 rfl ?_
    exact hrec10 x1 (x2 + zi 1) (x3 + zi 1) x4 s1 _ _ _ _ _ _ _ _ _ h
  · have h := (if_neg hb).symm.trans h
    refine Ev.run (pc' := 10) (ls' := [some (.ref 24), some (.int x1), some (.int (x2 + zi 1)), some (.int x3), some (.int x2), o5, o6, o7, o8, o9, o10, o11, o12]) (st' := []) (h' := mk s1) 5 rfl ?_
    exact hrec10 x1 (x2 + zi 1) x3 x2 s1 _ _ _ _ _ _ _ _ _ h
def b210_10 (rec10 : Int32 → Int32 → Int32 → Int32 → zS → Option (Int64 × zS)) (x1 : Int32) (x2 : Int32) (x3 : Int32) (x4 : Int32) (s : zS) : Option (Int64 × zS) := zb1 (f205 x2 s) (fun v2 s1 => if ¬ (r196 v2 s1) = zi 0 then f210_36 rec10 x1 x2 x3 x4 s1 else zb1 (f205 x2 s1) (fun v4 s3 => if ¬ v4 = (zi 46) then f210_61 x1 x2 x3 x4 s3 else if x4 ≥ zi 0 then f210_61 x1 x2 x3 x4 s3 else f210_36 rec10 x1 x2 x3 x4 s3))
set_option maxRecDepth 100000 in
theorem kb210_10 {X : mX} {D : Nat} {rec10 : Int32 → Int32 → Int32 → Int32 → zS → Option (Int64 × zS)} (hrec10 : ∀ (x1 : Int32) (x2 : Int32) (x3 : Int32) (x4 : Int32) (s : zS) (r : Int64 × zS) (o5 : Option Value) (o6 : Option Value) (o7 : Option Value) (o8 : Option Value) (o9 : Option Value) (o10 : Option Value) (o11 : Option Value) (o12 : Option Value), rec10 x1 x2 x3 x4 s = some r → Ev X (D + 4) mm210 10 [some (.ref 24), some (.int x1), some (.int x2), some (.int x3), some (.int x4), o5, o6, o7, o8, o9, o10, o11, o12] [] (mk s) (encL r)) (x1 : Int32) (x2 : Int32) (x3 : Int32) (x4 : Int32) (s : zS) (r : Int64 × zS) (o5 : Option Value) (o6 : Option Value) (o7 : Option Value) (o8 : Option Value) (o9 : Option Value) (o10 : Option Value) (o11 : Option Value) (o12 : Option Value)  (h : b210_10 rec10 x1 x2 x3 x4 s = some r) : Ev X (D + 4) mm210 10 [some (.ref 24), some (.int x1), some (.int x2), some (.int x3), some (.int x4), o5, o6, o7, o8, o9, o10, o11, o12] [] (mk s) (encL r) := by
  unfold b210_10 at h
  refine Ev.run (pc' := 12) (ls' := [some (.ref 24), some (.int x1), some (.int x2), some (.int x3), some (.int x4), o5, o6, o7, o8, o9, o10, o11, o12]) (st' := [.int x2, .ref 24]) (h' := mk s) 2 rfl ?_
  obtain ⟨v2, s1, hq, h⟩ := zb1_some h
  refine Ev.call (M' := mm205) (v := some (.int v2)) (h' := mk s1) rfl rfl rfl (Nat.le_of_ble_eq_true rfl) (k205 hq) ?_
  refine Ev.call (M' := mm196) (v := some (.int (r196 v2 s1))) (h' := mk s1) rfl rfl rfl (Nat.le_of_ble_eq_true rfl) (k196 (x0 := v2) (s := s1) (v := r196 v2 s1)  rfl) ?_
  refine Ev.if_ne (t := 36) rfl rfl (fun hb => ?_) (fun hb => ?_)
  · have h := (if_pos hb).symm.trans h
    exact k210_36 hrec10 x1 x2 x3 x4 s1 _ _ _ _ _ _ _ _ _ h
  · have h := (if_neg hb).symm.trans h
    refine Ev.run (pc' := 23) (ls' := [some (.ref 24), some (.int x1), some (.int x2), some (.int x3), some (.int x4), o5, o6, o7, o8, o9, o10, o11, o12]) (st' := [.int x2, .ref 24]) (h' := mk s1) 2 rfl ?_
    obtain ⟨v4, s3, hq, h⟩ := zb1_some h
    refine Ev.call (M' := mm205) (v := some (.int v4)) (h' := mk s3) rfl rfl rfl (Nat.le_of_ble_eq_true rfl) (k205 hq) ?_
    refine Ev.run (pc' := 28) (ls' := [some (.ref 24), some (.int x1), some (.int x2), some (.int x3), some (.int x4), o5, o6, o7, o8, o9, o10, o11, o12]) (st' := [.int (zi 46), .int v4]) (h' := mk s3) 1 rfl ?_
    refine Ev.icmp_ne (t := 61) rfl rfl (fun hb => ?_) (fun hb => ?_)
    · have h := (if_pos hb).symm.trans h
      exact k210_61 x1 x2 x3 x4 s3 _ _ _ _ _ _ _ _ _ h
    · have h := (if_neg hb).symm.trans h
      refine Ev.run (pc' := 33) (ls' := [some (.ref 24), some (.int x1), some (.int x2), some (.int x3), some (.int x4), o5, o6, o7, o8, o9, o10, o11, o12]) (st' := [.int x4]) (h' := mk s3) 1 rfl ?_
      refine Ev.if_ge (t := 61) rfl rfl (fun hb => ?_) (fun hb => ?_)
      · have h := (if_pos hb).symm.trans h
        exact k210_61 x1 x2 x3 x4 s3 _ _ _ _ _ _ _ _ _ h
      · have h := (if_neg hb).symm.trans h
        exact k210_36 hrec10 x1 x2 x3 x4 s3 _ _ _ _ _ _ _ _ _ h
def f210_10  : Nat → Int32 → Int32 → Int32 → Int32 → zS → Option (Int64 × zS)
  | 0, _, _, _, _, _ => none
  | n + 1, x1, x2, x3, x4, s => b210_10 (f210_10 n) x1 x2 x3 x4 s
set_option maxRecDepth 100000 in
theorem k210_10 {X : mX} {D : Nat}   (n : Nat) : ∀ (x1 : Int32) (x2 : Int32) (x3 : Int32) (x4 : Int32) (s : zS) (r : Int64 × zS) (o5 : Option Value) (o6 : Option Value) (o7 : Option Value) (o8 : Option Value) (o9 : Option Value) (o10 : Option Value) (o11 : Option Value) (o12 : Option Value), f210_10  n x1 x2 x3 x4 s = some r → Ev X (D + 4) mm210 10 [some (.ref 24), some (.int x1), some (.int x2), some (.int x3), some (.int x4), o5, o6, o7, o8, o9, o10, o11, o12] [] (mk s) (encL r) := by
  induction n with
  | zero => intro x1 x2 x3 x4 s r o5 o6 o7 o8 o9 o10 o11 o12  h; cases h
  | succ n ih => intro x1 x2 x3 x4 s r o5 o6 o7 o8 o9 o10 o11 o12  h; exact kb210_10  ih x1 x2 x3 x4 s r o5 o6 o7 o8 o9 o10 o11 o12  h
def f210  (x1 : Int32) (s : zS) : Option (Int64 × zS) := f210_10 zF x1 (s.1 24 38) (zi 0) (zi (-1)) s
set_option maxRecDepth 100000 in
theorem k210 {X : mX} {D : Nat} {x1 : Int32} {s : zS} {r : Int64 × zS}  (h : f210 x1 s = some r) : Ev X (D + 4) mm210 0 [some (.ref 24), some (.int x1), none, none, none, none, none, none, none, none, none, none, none] [] (mk s) (encL r) := by
  unfold f210 at h
  refine Ev.run (pc' := 10) (ls' := [some (.ref 24), some (.int x1), some (.int (s.1 24 38)), some (.int (zi 0)), some (.int (zi (-1))), none, none, none, none, none, none, none, none]) (st' := []) (h' := mk s) 7 rfl ?_
  exact k210_10 zF x1 (s.1 24 38) (zi 0) (zi (-1)) s _ _ _ _ _ _ _ _ _ h
/-! 208 FModel.reads(Z)J -/
def f208_331  (x1 : Int32) (x5 : Int64) (x8 : Int32) (s : zS) : Option (Int64 × zS) := if x8 = zi 0 then zb1 (f210 x1 s) (fun v2 s1 => some (x5 ||| v2, s1)) else zb1 (f215 x1 s) (fun v4 s3 => some (x5 ||| v4, s3))
set_option maxRecDepth 100000 in
theorem k208_331 {X : mX} {D : Nat}   (x1 : Int32) (x5 : Int64) (x8 : Int32) (s : zS) (r : Int64 × zS) (o2 : Option Value) (o3 : Option Value) (o4 : Option Value) (o7 : Option Value) (o9 : Option Value) (o10 : Option Value)  (h : f208_331  x1 x5 x8 s = some r) : Ev X (D + 6) mm208 331 [some (.ref 24), some (.int x1), o2, o3, o4, some (.long x5), none, o7, some (.int x8), o9, o10] [] (mk s) (encL r) := by
  unfold f208_331 at h
  refine Ev.run (pc' := 333) (ls' := [some (.ref 24), some (.int x1), o2, o3, o4, some (.long x5), none, o7, some (.int x8), o9, o10]) (st' := [.int x8]) (h' := mk s) 1 rfl ?_
  refine Ev.if_eq (t := 344) rfl rfl (fun hb => ?_) (fun hb => ?_)
  · have h := (if_pos hb).symm.trans h
    refine Ev.run (pc' := 346) (ls' := [some (.ref 24), some (.int x1), o2, o3, o4, some (.long x5), none, o7, some (.int x8), o9, o10]) (st' := [.int x1, .ref 24]) (h' := mk s) 2 rfl ?_
    obtain ⟨v2, s1, hq, h⟩ := zb1_some h
    refine Ev.call (M' := mm210) (v := some (.long v2)) (h' := mk s1) rfl rfl rfl (Nat.le_of_ble_eq_true rfl) (k210 hq) ?_
    refine Ev.run (pc' := 356) (ls' := [some (.ref 24), some (.int x1), o2, o3, o4, some (.long x5), none, o7, some (.int x8), some (.long v2), none]) (st' := [.long (x5 ||| v2)]) (h' := mk s1) 4 rfl ?_
    first | (obtain rfl := Option.some.inj h) | (cases h)
    exact Ev.fin rfl rfl
  · have h := (if_neg hb).symm.trans h
    refine Ev.run (pc' := 338) (ls' := [some (.ref 24), some (.int x1), o2, o3, o4, some (.long x5), none, o7, some (.int x8), o9, o10]) (st' := [.int x1, .ref 24]) (h' := mk s) 2 rfl ?_
    obtain ⟨v4, s3, hq, h⟩ := zb1_some h
    refine Ev.call (M' := mm215) (v := some (.long v4)) (h' := mk s3) rfl rfl rfl (Nat.le_of_ble_eq_true rfl) (k215 hq) ?_
    refine Ev.run (pc' := 356) (ls' := [some (.ref 24), some (.int x1), o2, o3, o4, some (.long x5), none, o7, some (.int x8), some (.long v4), none]) (st' := [.long (x5 ||| v4)]) (h' := mk s3) 5 rfl ?_
    first | (obtain rfl := Option.some.inj h) | (cases h)
    exact Ev.fin rfl rfl
def f208_291  (x1 : Int32) (x5 : Int64) (x7 : Int32) (y0 : Int32) (s : zS) : Option (Int64 × zS) := if x7 = (zi 102) then f208_331 x1 x5 y0 (setI s 24 39 ((s.1 24 39) - (zi 1))) else if x7 = (zi 70) then f208_331 x1 x5 y0 (setI s 24 39 ((s.1 24 39) - (zi 1))) else if x7 = (zi 100) then f208_331 x1 x5 y0 (setI s 24 39 ((s.1 24 39) - (zi 1))) else if ¬ x7 = (zi 68) then f208_331 x1 x5 y0 s else f208_331 x1 x5 y0 (setI s 24 39 ((s.1 24 39) - (zi 1)))
set_option maxRecDepth 100000 in
theorem k208_291 {X : mX} {D : Nat}   (x1 : Int32) (x5 : Int64) (x7 : Int32) (y0 : Int32) (s : zS) (r : Int64 × zS) (o2 : Option Value) (o3 : Option Value) (o4 : Option Value) (o8 : Option Value) (o9 : Option Value) (o10 : Option Value)  (h : f208_291  x1 x5 x7 y0 s = some r) : Ev X (D + 6) mm208 291 [some (.ref 24), some (.int x1), o2, o3, o4, some (.long x5), none, some (.int x7), o8, o9, o10] [.int y0] (mk s) (encL r) := by
  unfold f208_291 at h
  refine Ev.run (pc' := 297) (ls' := [some (.ref 24), some (.int x1), o2, o3, o4, some (.long x5), none, some (.int x7), some (.int y0), o9, o10]) (st' := [.int (zi 102), .int x7]) (h' := mk s) 3 rfl ?_
  refine Ev.icmp_eq (t := 321) rfl rfl (fun hb => ?_) (fun hb => ?_)
  · have h := (if_pos hb).symm.trans h
    refine Ev.run (pc' := 328) (ls' := [some (.ref 24), some (.int x1), o2, o3, o4, some (.long x5), none, some (.int x7), some (.int y0), o9, o10]) (st' := [.int ((s.1 24 39) - (zi 1)), .ref 24]) (h' := mk s) 5 rfl ?_
    refine Ev.step (pc' := 331) rfl (put_12_39 rfl) ?_
    exact k208_331 x1 x5 y0 (setI s 24 39 ((s.1 24 39) - (zi 1))) _ _ _ _ _ _ _ h
  · have h := (if_neg hb).symm.trans h
    refine Ev.run (pc' := 304) (ls' := [some (.ref 24), some (.int x1), o2, o3, o4, some (.long x5), none, some (.int x7), some (.int y0), o9, o10]) (st' := [.int (zi 70), .int x7]) (h' := mk s) 2 rfl ?_
    refine Ev.icmp_eq (t := 321) rfl rfl (fun hb => ?_) (fun hb => ?_)
    · have h := (if_pos hb).symm.trans h
      refine Ev.run (pc' := 328) (ls' := [some (.ref 24), some (.int x1), o2, o3, o4, some (.long x5), none, some (.int x7), some (.int y0), o9, o10]) (st' := [.int ((s.1 24 39) - (zi 1)), .ref 24]) (h' := mk s) 5 rfl ?_
      refine Ev.step (pc' := 331) rfl (put_12_39 rfl) ?_
      exact k208_331 x1 x5 y0 (setI s 24 39 ((s.1 24 39) - (zi 1))) _ _ _ _ _ _ _ h
    · have h := (if_neg hb).symm.trans h
      refine Ev.run (pc' := 311) (ls' := [some (.ref 24), some (.int x1), o2, o3, o4, some (.long x5), none, some (.int x7), some (.int y0), o9, o10]) (st' := [.int (zi 100), .int x7]) (h' := mk s) 2 rfl ?_
      refine Ev.icmp_eq (t := 321) rfl rfl (fun hb => ?_) (fun hb => ?_)
      · have h := (if_pos hb).symm.trans h
        refine Ev.run (pc' := 328) (ls' := [some (.ref 24), some (.int x1), o2, o3, o4, some (.long x5), none, some (.int x7), some (.int y0), o9, o10]) (st' := [.int ((s.1 24 39) - (zi 1)), .ref 24]) (h' := mk s) 5 rfl ?_
        refine Ev.step (pc' := 331) rfl (put_12_39 rfl) ?_
        exact k208_331 x1 x5 y0 (setI s 24 39 ((s.1 24 39) - (zi 1))) _ _ _ _ _ _ _ h
      · have h := (if_neg hb).symm.trans h
        refine Ev.run (pc' := 318) (ls' := [some (.ref 24), some (.int x1), o2, o3, o4, some (.long x5), none, some (.int x7), some (.int y0), o9, o10]) (st' := [.int (zi 68), .int x7]) (h' := mk s) 2 rfl ?_
        refine Ev.icmp_ne (t := 331) rfl rfl (fun hb => ?_) (fun hb => ?_)
        · have h := (if_pos hb).symm.trans h
          exact k208_331 x1 x5 y0 s _ _ _ _ _ _ _ h
        · have h := (if_neg hb).symm.trans h
          refine Ev.run (pc' := 328) (ls' := [some (.ref 24), some (.int x1), o2, o3, o4, some (.long x5), none, some (.int x7), some (.int y0), o9, o10]) (st' := [.int ((s.1 24 39) - (zi 1)), .ref 24]) (h' := mk s) 5 rfl ?_
          refine Ev.step (pc' := 331) rfl (put_12_39 rfl) ?_
          exact k208_331 x1 x5 y0 (setI s 24 39 ((s.1 24 39) - (zi 1))) _ _ _ _ _ _ _ h
def f208_241  (x1 : Int32) (x5 : Int64) (y0 : Int32) (s : zS) : Option (Int64 × zS) := zb1 (f205 (s.1 24 38) s) (fun v2 s1 => if ¬ v2 = (zi 48) then f208_291 x1 x5 y0 (zi 0) s1 else zb1 (f205 ((s1.1 24 38) + (zi 1)) s1) (fun v4 s3 => if v4 = (zi 120) then f208_291 x1 x5 y0 (zi 1) s3 else zb1 (f205 ((s3.1 24 38) + (zi 1)) s3) (fun v6 s5 => if ¬ v6 = (zi 88) then f208_291 x1 x5 y0 (zi 0) s5 else f208_291 x1 x5 y0 (zi 1) s5)))
set_option maxRecDepth 100000 in
theorem k208_241 {X : mX} {D : Nat}   (x1 : Int32) (x5 : Int64) (y0 : Int32) (s : zS) (r : Int64 × zS) (o2 : Option Value) (o3 : Option Value) (o4 : Option Value) (o7 : Option Value) (o8 : Option Value) (o9 : Option Value) (o10 : Option Value)  (h : f208_241  x1 x5 y0 s = some r) : Ev X (D + 6) mm208 241 [some (.ref 24), some (.int x1), o2, o3, o4, some (.long x5), none, o7, o8, o9, o10] [.int y0] (mk s) (encL r) := by
  unfold f208_241 at h
  refine Ev.run (pc' := 248) (ls' := [some (.ref 24), some (.int x1), o2, o3, o4, some (.long x5), none, some (.int y0), o8, o9, o10]) (st' := [.int (s.1 24 38), .ref 24]) (h' := mk s) 4 rfl ?_
  obtain ⟨v2, s1, hq, h⟩ := zb1_some h
  refine Ev.call (M' := mm205) (v := some (.int v2)) (h' := mk s1) rfl rfl rfl (Nat.le_of_ble_eq_true rfl) (k205 hq) ?_
  refine Ev.run (pc' := 253) (ls' := [some (.ref 24), some (.int x1), o2, o3, o4, some (.long x5), none, some (.int y0), o8, o9, o10]) (st' := [.int (zi 48), .int v2]) (h' := mk s1) 1 rfl ?_
  refine Ev.icmp_ne (t := 290) rfl rfl (fun hb => ?_) (fun hb => ?_)
  · have h := (if_pos hb).symm.trans h
    refine Ev.run (pc' := 291) (ls' := [some (.ref 24), some (.int x1), o2, o3, o4, some (.long x5), none, some (.int y0), o8, o9, o10]) (st' := [.int (zi 0)]) (h' := mk s1) 1 rfl ?_
    exact k208_291 x1 x5 y0 (zi 0) s1 _ _ _ _ _ _ _ h
  · have h := (if_neg hb).symm.trans h
    refine Ev.run (pc' := 263) (ls' := [some (.ref 24), some (.int x1), o2, o3, o4, some (.long x5), none, some (.int y0), o8, o9, o10]) (st' := [.int ((s1.1 24 38) + (zi 1)), .ref 24]) (h' := mk s1) 5 rfl ?_
    obtain ⟨v4, s3, hq, h⟩ := zb1_some h
    refine Ev.call (M' := mm205) (v := some (.int v4)) (h' := mk s3) rfl rfl rfl (Nat.le_of_ble_eq_true rfl) (k205 hq) ?_
    refine Ev.run (pc' := 268) (ls' := [some (.ref 24), some (.int x1), o2, o3, o4, some (.long x5), none, some (.int y0), o8, o9, o10]) (st' := [.int (zi 120), .int v4]) (h' := mk s3) 1 rfl ?_
    refine Ev.icmp_eq (t := 286) rfl rfl (fun hb => ?_) (fun hb => ?_)
    · have h := (if_pos hb).symm.trans h
      refine Ev.run (pc' := 291) (ls' := [some (.ref 24), some (.int x1), o2, o3, o4, some (.long x5), none, some (.int y0), o8, o9, o10]) (st' := [.int (zi 1)]) (h' := mk s3) 2 rfl ?_
      exact k208_291 x1 x5 y0 (zi 1) s3 _ _ _ _ _ _ _ h
    · have h := (if_neg hb).symm.trans h
      refine Ev.run (pc' := 278) (ls' := [some (.ref 24), some (.int x1), o2, o3, o4, some (.long x5), none, some (.int y0), o8, o9, o10]) (st' := [.int ((s3.1 24 38) + (zi 1)), .ref 24]) (h' := mk s3) 5 rfl ?_
      obtain ⟨v6, s5, hq, h⟩ := zb1_some h
      refine Ev.call (M' := mm205) (v := some (.int v6)) (h' := mk s5) rfl rfl rfl (Nat.le_of_ble_eq_true rfl) (k205 hq) ?_
      refine Ev.run (pc' := 283) (ls' := [some (.ref 24), some (.int x1), o2, o3, o4, some (.long x5), none, some (.int y0), o8, o9, o10]) (st' := [.int (zi 88), .int v6]) (h' := mk s5) 1 rfl ?_
      refine Ev.icmp_ne (t := 290) rfl rfl (fun hb => ?_) (fun hb => ?_)
      · have h := (if_pos hb).symm.trans h
        refine Ev.run (pc' := 291) (ls' := [some (.ref 24), some (.int x1), o2, o3, o4, some (.long x5), none, some (.int y0), o8, o9, o10]) (st' := [.int (zi 0)]) (h' := mk s5) 1 rfl ?_
        exact k208_291 x1 x5 y0 (zi 0) s5 _ _ _ _ _ _ _ h
      · have h := (if_neg hb).symm.trans h
        refine Ev.run (pc' := 291) (ls' := [some (.ref 24), some (.int x1), o2, o3, o4, some (.long x5), none, some (.int y0), o8, o9, o10]) (st' := [.int (zi 1)]) (h' := mk s5) 2 rfl ?_
        exact k208_291 x1 x5 y0 (zi 1) s5 _ _ _ _ _ _ _ h
def f208_172  (x1 : Int32) (x3 : Int64) (y0 : Int64) (s : zS) : Option (Int64 × zS) := zb1 (f207 63 (setI s 24 40 (zi 1))) (fun v2 s1 => if v2 = zi 0 then zb1 (f207 64 s1) (fun v4 s3 => if v4 = zi 0 then if (s3.1 24 39) ≤ (s3.1 24 38) then f208_241 x1 y0 (zi (-1)) s3 else zb1 (f205 ((s3.1 24 39) - (zi 1)) s3) (fun v6 s5 => f208_241 x1 y0 v6 s5) else some (y0 ||| x3, s3)) else if x1 = zi 0 then some (zl 9221120237041090560, s1) else some (zl 2143289344, s1))
set_option maxRecDepth 100000 in
theorem k208_172 {X : mX} {D : Nat}   (x1 : Int32) (x3 : Int64) (y0 : Int64) (s : zS) (r : Int64 × zS) (o2 : Option Value) (o5 : Option Value) (o6 : Option Value) (o7 : Option Value) (o8 : Option Value) (o9 : Option Value) (o10 : Option Value)  (h : f208_172  x1 x3 y0 s = some r) : Ev X (D + 6) mm208 172 [some (.ref 24), some (.int x1), o2, some (.long x3), none, o5, o6, o7, o8, o9, o10] [.long y0] (mk s) (encL r) := by
  unfold f208_172 at h
  refine Ev.run (pc' := 176) (ls' := [some (.ref 24), some (.int x1), o2, some (.long x3), none, some (.long y0), none, o7, o8, o9, o10]) (st' := [.int (zi 1), .ref 24]) (h' := mk s) 3 rfl ?_
  refine Ev.step (pc' := 179) rfl (put_12_40 (by decide) rfl) ?_
  refine Ev.run (pc' := 182) (ls' := [some (.ref 24), some (.int x1), o2, some (.long x3), none, some (.long y0), none, o7, o8, o9, o10]) (st' := [.ref (mRO + 3 + 2 * 63), .ref 24]) (h' := mk (setI s 24 40 (zi 1))) 2 rfl ?_
  obtain ⟨v2, s1, hq, h⟩ := zb1_some h
  refine Ev.call (M' := mm207) (v := some (.int v2)) (h' := mk s1) rfl rfl rfl (Nat.le_of_ble_eq_true rfl) (k207 (by decide) hq) ?_
  refine Ev.if_eq (t := 202) rfl rfl (fun hb => ?_) (fun hb => ?_)
  · have h := (if_pos hb).symm.trans h
    refine Ev.run (pc' := 205) (ls' := [some (.ref 24), some (.int x1), o2, some (.long x3), none, some (.long y0), none, o7, o8, o9, o10]) (st' := [.ref (mRO + 3 + 2 * 64), .ref 24]) (h' := mk s1) 2 rfl ?_
    obtain ⟨v4, s3, hq, h⟩ := zb1_some h
    refine Ev.call (M' := mm207) (v := some (.int v4)) (h' := mk s3) rfl rfl rfl (Nat.le_of_ble_eq_true rfl) (k207 (by decide) hq) ?_
    refine Ev.if_eq (t := 216) rfl rfl (fun hb => ?_) (fun hb => ?_)
    · have h := (if_pos hb).symm.trans h
      refine Ev.run (pc' := 224) (ls' := [some (.ref 24), some (.int x1), o2, some (.long x3), none, some (.long y0), none, o7, o8, o9, o10]) (st' := [.int (s3.1 24 38), .int (s3.1 24 39)]) (h' := mk s3) 4 rfl ?_
      refine Ev.icmp_le (t := 240) rfl rfl (fun hb => ?_) (fun hb => ?_)
      · have h := (if_pos hb).symm.trans h
        refine Ev.run (pc' := 241) (ls' := [some (.ref 24), some (.int x1), o2, some (.long x3), none, some (.long y0), none, o7, o8, o9, o10]) (st' := [.int (zi (-1))]) (h' := mk s3) 1 rfl ?_
        exact k208_241 x1 y0 (zi (-1)) s3 _ _ _ _ _ _ _ _ h
      · have h := (if_neg hb).symm.trans h
        refine Ev.run (pc' := 234) (ls' := [some (.ref 24), some (.int x1), o2, some (.long x3), none, some (.long y0), none, o7, o8, o9, o10]) (st' := [.int ((s3.1 24 39) - (zi 1)), .ref 24]) (h' := mk s3) 5 rfl ?_
        obtain ⟨v6, s5, hq, h⟩ := zb1_some h
        refine Ev.call (M' := mm205) (v := some (.int v6)) (h' := mk s5) rfl rfl rfl (Nat.le_of_ble_eq_true rfl) (k205 hq) ?_
        refine Ev.run (pc' := 241) (ls' := [some (.ref 24), some (.int x1), o2, some (.long x3), none, some (.long y0), none, o7, o8, o9, o10]) (st' := [.int v6]) (h' := mk s5) 1 rfl ?_
        exact k208_241 x1 y0 v6 s5 _ _ _ _ _ _ _ _ h
    · have h := (if_neg hb).symm.trans h
      refine Ev.run (pc' := 215) (ls' := [some (.ref 24), some (.int x1), o2, some (.long x3), none, some (.long y0), none, o7, o8, o9, o10]) (st' := [.long (y0 ||| x3)]) (h' := mk s3) 3 rfl ?_
      first | (obtain rfl := Option.some.inj h) | (cases h)
      exact Ev.fin rfl rfl
  · have h := (if_neg hb).symm.trans h
    refine Ev.run (pc' := 189) (ls' := [some (.ref 24), some (.int x1), o2, some (.long x3), none, some (.long y0), none, o7, o8, o9, o10]) (st' := [.int x1]) (h' := mk s1) 1 rfl ?_
    refine Ev.if_eq (t := 198) rfl rfl (fun hb => ?_) (fun hb => ?_)
    · have h := (if_pos hb).symm.trans h
      refine Ev.run (pc' := 201) (ls' := [some (.ref 24), some (.int x1), o2, some (.long x3), none, some (.long y0), none, o7, o8, o9, o10]) (st' := [.long (zl 9221120237041090560)]) (h' := mk s1) 1 rfl ?_
      first | (obtain rfl := Option.some.inj h) | (cases h)
      exact Ev.fin rfl rfl
    · have h := (if_neg hb).symm.trans h
      refine Ev.run (pc' := 201) (ls' := [some (.ref 24), some (.int x1), o2, some (.long x3), none, some (.long y0), none, o7, o8, o9, o10]) (st' := [.long (zl 2143289344)]) (h' := mk s1) 2 rfl ?_
      first | (obtain rfl := Option.some.inj h) | (cases h)
      exact Ev.fin rfl rfl
def f208_150  (x1 : Int32) (x2 : Int32) (y0 : Int64) (s : zS) : Option (Int64 × zS) := if x2 = zi 0 then f208_172 x1 y0 (zl 0) s else if x1 = zi 0 then f208_172 x1 y0 (zl (-9223372036854775808)) s else f208_172 x1 y0 (zl 2147483648) s
set_option maxRecDepth 100000 in
theorem k208_150 {X : mX} {D : Nat}   (x1 : Int32) (x2 : Int32) (y0 : Int64) (s : zS) (r : Int64 × zS) (o3 : Option Value) (o4 : Option Value) (o5 : Option Value) (o6 : Option Value) (o7 : Option Value) (o8 : Option Value) (o9 : Option Value) (o10 : Option Value)  (h : f208_150  x1 x2 y0 s = some r) : Ev X (D + 6) mm208 150 [some (.ref 24), some (.int x1), some (.int x2), o3, o4, o5, o6, o7, o8, o9, o10] [.long y0] (mk s) (encL r) := by
  unfold f208_150 at h
  refine Ev.run (pc' := 152) (ls' := [some (.ref 24), some (.int x1), some (.int x2), some (.long y0), none, o5, o6, o7, o8, o9, o10]) (st' := [.int x2]) (h' := mk s) 2 rfl ?_
  refine Ev.if_eq (t := 171) rfl rfl (fun hb => ?_) (fun hb => ?_)
  · have h := (if_pos hb).symm.trans h
    refine Ev.run (pc' := 172) (ls' := [some (.ref 24), some (.int x1), some (.int x2), some (.long y0), none, o5, o6, o7, o8, o9, o10]) (st' := [.long (zl 0)]) (h' := mk s) 1 rfl ?_
    exact k208_172 x1 y0 (zl 0) s _ _ _ _ _ _ _ _ h
  · have h := (if_neg hb).symm.trans h
    refine Ev.run (pc' := 156) (ls' := [some (.ref 24), some (.int x1), some (.int x2), some (.long y0), none, o5, o6, o7, o8, o9, o10]) (st' := [.int x1]) (h' := mk s) 1 rfl ?_
    refine Ev.if_eq (t := 165) rfl rfl (fun hb => ?_) (fun hb => ?_)
    · have h := (if_pos hb).symm.trans h
      refine Ev.run (pc' := 172) (ls' := [some (.ref 24), some (.int x1), some (.int x2), some (.long y0), none, o5, o6, o7, o8, o9, o10]) (st' := [.long (zl (-9223372036854775808))]) (h' := mk s) 2 rfl ?_
      exact k208_172 x1 y0 (zl (-9223372036854775808)) s _ _ _ _ _ _ _ _ h
    · have h := (if_neg hb).symm.trans h
      refine Ev.run (pc' := 172) (ls' := [some (.ref 24), some (.int x1), some (.int x2), some (.long y0), none, o5, o6, o7, o8, o9, o10]) (st' := [.long (zl 2147483648)]) (h' := mk s) 2 rfl ?_
      exact k208_172 x1 y0 (zl 2147483648) s _ _ _ _ _ _ _ _ h
def f208_137  (x1 : Int32) (x2 : Int32) (s : zS) : Option (Int64 × zS) := if x1 = zi 0 then f208_150 x1 x2 (zl 9218868437227405312) s else f208_150 x1 x2 (zl 2139095040) s
set_option maxRecDepth 100000 in
theorem k208_137 {X : mX} {D : Nat}   (x1 : Int32) (x2 : Int32) (s : zS) (r : Int64 × zS) (o3 : Option Value) (o4 : Option Value) (o5 : Option Value) (o6 : Option Value) (o7 : Option Value) (o8 : Option Value) (o9 : Option Value) (o10 : Option Value)  (h : f208_137  x1 x2 s = some r) : Ev X (D + 6) mm208 137 [some (.ref 24), some (.int x1), some (.int x2), o3, o4, o5, o6, o7, o8, o9, o10] [] (mk s) (encL r) := by
  unfold f208_137 at h
  refine Ev.run (pc' := 138) (ls' := [some (.ref 24), some (.int x1), some (.int x2), o3, o4, o5, o6, o7, o8, o9, o10]) (st' := [.int x1]) (h' := mk s) 1 rfl ?_
  refine Ev.if_eq (t := 147) rfl rfl (fun hb => ?_) (fun hb => ?_)
  · have h := (if_pos hb).symm.trans h
    refine Ev.run (pc' := 150) (ls' := [some (.ref 24), some (.int x1), some (.int x2), o3, o4, o5, o6, o7, o8, o9, o10]) (st' := [.long (zl 9218868437227405312)]) (h' := mk s) 1 rfl ?_
    exact k208_150 x1 x2 (zl 9218868437227405312) s _ _ _ _ _ _ _ _ _ h
  · have h := (if_neg hb).symm.trans h
    refine Ev.run (pc' := 150) (ls' := [some (.ref 24), some (.int x1), some (.int x2), o3, o4, o5, o6, o7, o8, o9, o10]) (st' := [.long (zl 2139095040)]) (h' := mk s) 2 rfl ?_
    exact k208_150 x1 x2 (zl 2139095040) s _ _ _ _ _ _ _ _ _ h
def f208_109  (x1 : Int32) (y0 : Int32) (s : zS) : Option (Int64 × zS) := if ¬ y0 = zi 0 then f208_137 x1 y0 (setI s 24 38 ((s.1 24 38) + (zi 1))) else zb1 (f205 (s.1 24 38) s) (fun v2 s1 => if ¬ v2 = (zi 43) then f208_137 x1 y0 s1 else f208_137 x1 y0 (setI s1 24 38 ((s1.1 24 38) + (zi 1))))
set_option maxRecDepth 100000 in
theorem k208_109 {X : mX} {D : Nat}   (x1 : Int32) (y0 : Int32) (s : zS) (r : Int64 × zS) (o2 : Option Value) (o3 : Option Value) (o4 : Option Value) (o5 : Option Value) (o6 : Option Value) (o7 : Option Value) (o8 : Option Value) (o9 : Option Value) (o10 : Option Value)  (h : f208_109  x1 y0 s = some r) : Ev X (D + 6) mm208 109 [some (.ref 24), some (.int x1), o2, o3, o4, o5, o6, o7, o8, o9, o10] [.int y0] (mk s) (encL r) := by
  unfold f208_109 at h
  refine Ev.run (pc' := 111) (ls' := [some (.ref 24), some (.int x1), some (.int y0), o3, o4, o5, o6, o7, o8, o9, o10]) (st' := [.int y0]) (h' := mk s) 2 rfl ?_
  refine Ev.if_ne (t := 127) rfl rfl (fun hb => ?_) (fun hb => ?_)
  · have h := (if_pos hb).symm.trans h
    refine Ev.run (pc' := 134) (ls' := [some (.ref 24), some (.int x1), some (.int y0), o3, o4, o5, o6, o7, o8, o9, o10]) (st' := [.int ((s.1 24 38) + (zi 1)), .ref 24]) (h' := mk s) 5 rfl ?_
    refine Ev.step (pc' := 137) rfl (put_12_38 rfl) ?_
    exact k208_137 x1 y0 (setI s 24 38 ((s.1 24 38) + (zi 1))) _ _ _ _ _ _ _ _ _ h
  · have h := (if_neg hb).symm.trans h
    refine Ev.run (pc' := 119) (ls' := [some (.ref 24), some (.int x1), some (.int y0), o3, o4, o5, o6, o7, o8, o9, o10]) (st' := [.int (s.1 24 38), .ref 24]) (h' := mk s) 3 rfl ?_
    obtain ⟨v2, s1, hq, h⟩ := zb1_some h
    refine Ev.call (M' := mm205) (v := some (.int v2)) (h' := mk s1) rfl rfl rfl (Nat.le_of_ble_eq_true rfl) (k205 hq) ?_
    refine Ev.run (pc' := 124) (ls' := [some (.ref 24), some (.int x1), some (.int y0), o3, o4, o5, o6, o7, o8, o9, o10]) (st' := [.int (zi 43), .int v2]) (h' := mk s1) 1 rfl ?_
    refine Ev.icmp_ne (t := 137) rfl rfl (fun hb => ?_) (fun hb => ?_)
    · have h := (if_pos hb).symm.trans h
      exact k208_137 x1 y0 s1 _ _ _ _ _ _ _ _ _ h
    · have h := (if_neg hb).symm.trans h
      refine Ev.run (pc' := 134) (ls' := [some (.ref 24), some (.int x1), some (.int y0), o3, o4, o5, o6, o7, o8, o9, o10]) (st' := [.int ((s1.1 24 38) + (zi 1)), .ref 24]) (h' := mk s1) 5 rfl ?_
      refine Ev.step (pc' := 137) rfl (put_12_38 rfl) ?_
      exact k208_137 x1 y0 (setI s1 24 38 ((s1.1 24 38) + (zi 1))) _ _ _ _ _ _ _ _ _ h
def f208_91  (x1 : Int32) (s : zS) : Option (Int64 × zS) := zb1 (f205 (s.1 24 38) s) (fun v2 s1 => if ¬ v2 = (zi 45) then f208_109 x1 (zi 0) s1 else f208_109 x1 (zi 1) s1)
set_option maxRecDepth 100000 in
theorem k208_91 {X : mX} {D : Nat}   (x1 : Int32) (s : zS) (r : Int64 × zS) (o2 : Option Value) (o3 : Option Value) (o4 : Option Value) (o5 : Option Value) (o6 : Option Value) (o7 : Option Value) (o8 : Option Value) (o9 : Option Value) (o10 : Option Value)  (h : f208_91  x1 s = some r) : Ev X (D + 6) mm208 91 [some (.ref 24), some (.int x1), o2, o3, o4, o5, o6, o7, o8, o9, o10] [] (mk s) (encL r) := by
  unfold f208_91 at h
  refine Ev.run (pc' := 96) (ls' := [some (.ref 24), some (.int x1), o2, o3, o4, o5, o6, o7, o8, o9, o10]) (st' := [.int (s.1 24 38), .ref 24]) (h' := mk s) 3 rfl ?_
  obtain ⟨v2, s1, hq, h⟩ := zb1_some h
  refine Ev.call (M' := mm205) (v := some (.int v2)) (h' := mk s1) rfl rfl rfl (Nat.le_of_ble_eq_true rfl) (k205 hq) ?_
  refine Ev.run (pc' := 101) (ls' := [some (.ref 24), some (.int x1), o2, o3, o4, o5, o6, o7, o8, o9, o10]) (st' := [.int (zi 45), .int v2]) (h' := mk s1) 1 rfl ?_
  refine Ev.icmp_ne (t := 108) rfl rfl (fun hb => ?_) (fun hb => ?_)
  · have h := (if_pos hb).symm.trans h
    refine Ev.run (pc' := 109) (ls' := [some (.ref 24), some (.int x1), o2, o3, o4, o5, o6, o7, o8, o9, o10]) (st' := [.int (zi 0)]) (h' := mk s1) 1 rfl ?_
    exact k208_109 x1 (zi 0) s1 _ _ _ _ _ _ _ _ _ _ h
  · have h := (if_neg hb).symm.trans h
    refine Ev.run (pc' := 109) (ls' := [some (.ref 24), some (.int x1), o2, o3, o4, o5, o6, o7, o8, o9, o10]) (st' := [.int (zi 1)]) (h' := mk s1) 2 rfl ?_
    exact k208_109 x1 (zi 1) s1 _ _ _ _ _ _ _ _ _ _ h
def b208_51 (rec51 : Int32 → zS → Option (Int64 × zS)) (x1 : Int32) (s : zS) : Option (Int64 × zS) := if (s.1 24 39) ≤ (s.1 24 38) then f208_91 x1 s else if mIx ((s.1 24 39) - (zi 1)) 800 then if (s.1 25 (((s.1 24 39) - (zi 1)).toNatClampNeg)) > (zi 32) then f208_91 x1 s else rec51 x1 (setI s 24 39 ((s.1 24 39) - (zi 1))) else none
set_option maxRecDepth 100000 in
theorem kb208_51 {X : mX} {D : Nat} {rec51 : Int32 → zS → Option (Int64 × zS)} (hrec51 : ∀ (x1 : Int32) (s : zS) (r : Int64 × zS) (o2 : Option Value) (o3 : Option Value) (o4 : Option Value) (o5 : Option Value) (o6 : Option Value) (o7 : Option Value) (o8 : Option Value) (o9 : Option Value) (o10 : Option Value), rec51 x1 s = some r → Ev X (D + 6) mm208 51 [some (.ref 24), some (.int x1), o2, o3, o4, o5, o6, o7, o8, o9, o10] [] (mk s) (encL r)) (x1 : Int32) (s : zS) (r : Int64 × zS) (o2 : Option Value) (o3 : Option Value) (o4 : Option Value) (o5 : Option Value) (o6 : Option Value) (o7 : Option Value) (o8 : Option Value) (o9 : Option Value) (o10 : Option Value)  (h : b208_51 rec51 x1 s = some r) : Ev X (D + 6) mm208 51 [some (.ref 24), some (.int x1), o2, o3, o4, o5, o6, o7, o8, o9, o10] [] (mk s) (encL r) := by
  unfold b208_51 at h
  refine Ev.run (pc' := 59) (ls' := [some (.ref 24), some (.int x1), o2, o3, o4, o5, o6, o7, o8, o9, o10]) (st' := [.int (s.1 24 38), .int (s.1 24 39)]) (h' := mk s) 4 rfl ?_
  refine Ev.icmp_le (t := 91) rfl rfl (fun hb => ?_) (fun hb => ?_)
  · have h := (if_pos hb).symm.trans h
    exact k208_91 x1 s _ _ _ _ _ _ _ _ _ _ h
  · have h := (if_neg hb).symm.trans h
    refine Ev.run (pc' := 72) (ls' := [some (.ref 24), some (.int x1), o2, o3, o4, o5, o6, o7, o8, o9, o10]) (st' := [.int ((s.1 24 39) - (zi 1)), .ref 25]) (h' := mk s) 6 rfl ?_
    obtain ⟨hx, h⟩ := zif h
    refine Ev.step (pc' := 73) rfl (ald_b rfl hx) ?_
    refine Ev.run (pc' := 75) (ls' := [some (.ref 24), some (.int x1), o2, o3, o4, o5, o6, o7, o8, o9, o10]) (st' := [.int (zi 32), .int (s.1 25 (((s.1 24 39) - (zi 1)).toNatClampNeg))]) (h' := mk s) 1 rfl ?_
    refine Ev.icmp_gt (t := 91) rfl rfl (fun hb => ?_) (fun hb => ?_)
    · have h := (if_pos hb).symm.trans h
      exact k208_91 x1 s _ _ _ _ _ _ _ _ _ _ h
    · have h := (if_neg hb).symm.trans h
      refine Ev.run (pc' := 85) (ls' := [some (.ref 24), some (.int x1), o2, o3, o4, o5, o6, o7, o8, o9, o10]) (st' := [.int ((s.1 24 39) - (zi 1)), .ref 24]) (h' := mk s) 5 rfl ?_
      refine Ev.step (pc' := 88) rfl (put_12_39 rfl) ?_
      refine Ev.run (pc' := 51) (ls' := [some (.ref 24), some (.int x1), o2, o3, o4, o5, o6, o7, o8, o9, o10]) (st' := []) (h' := mk (setI s 24 39 ((s.1 24 39) - (zi 1)))) 1 rfl ?_
      exact hrec51 x1 (setI s 24 39 ((s.1 24 39) - (zi 1))) _ _ _ _ _ _ _ _ _ _ h
def f208_51  : Nat → Int32 → zS → Option (Int64 × zS)
  | 0, _, _ => none
  | n + 1, x1, s => b208_51 (f208_51 n) x1 s
set_option maxRecDepth 100000 in
theorem k208_51 {X : mX} {D : Nat}   (n : Nat) : ∀ (x1 : Int32) (s : zS) (r : Int64 × zS) (o2 : Option Value) (o3 : Option Value) (o4 : Option Value) (o5 : Option Value) (o6 : Option Value) (o7 : Option Value) (o8 : Option Value) (o9 : Option Value) (o10 : Option Value), f208_51  n x1 s = some r → Ev X (D + 6) mm208 51 [some (.ref 24), some (.int x1), o2, o3, o4, o5, o6, o7, o8, o9, o10] [] (mk s) (encL r) := by
  induction n with
  | zero => intro x1 s r o2 o3 o4 o5 o6 o7 o8 o9 o10  h; cases h
  | succ n ih => intro x1 s r o2 o3 o4 o5 o6 o7 o8 o9 o10  h; exact kb208_51  ih x1 s r o2 o3 o4 o5 o6 o7 o8 o9 o10  h
def b208_13 (rec13 : Int32 → zS → Option (Int64 × zS)) (x1 : Int32) (s : zS) : Option (Int64 × zS) := if (s.1 24 38) ≥ (s.1 24 39) then f208_51 zF x1 s else if mIx (s.1 24 38) 800 then if (s.1 25 ((s.1 24 38).toNatClampNeg)) > (zi 32) then f208_51 zF x1 s else rec13 x1 (setI s 24 38 ((s.1 24 38) + (zi 1))) else none
set_option maxRecDepth 100000 in
theorem kb208_13 {X : mX} {D : Nat} {rec13 : Int32 → zS → Option (Int64 × zS)} (hrec13 : ∀ (x1 : Int32) (s : zS) (r : Int64 × zS) (o2 : Option Value) (o3 : Option Value) (o4 : Option Value) (o5 : Option Value) (o6 : Option Value) (o7 : Option Value) (o8 : Option Value) (o9 : Option Value) (o10 : Option Value), rec13 x1 s = some r → Ev X (D + 6) mm208 13 [some (.ref 24), some (.int x1), o2, o3, o4, o5, o6, o7, o8, o9, o10] [] (mk s) (encL r)) (x1 : Int32) (s : zS) (r : Int64 × zS) (o2 : Option Value) (o3 : Option Value) (o4 : Option Value) (o5 : Option Value) (o6 : Option Value) (o7 : Option Value) (o8 : Option Value) (o9 : Option Value) (o10 : Option Value)  (h : b208_13 rec13 x1 s = some r) : Ev X (D + 6) mm208 13 [some (.ref 24), some (.int x1), o2, o3, o4, o5, o6, o7, o8, o9, o10] [] (mk s) (encL r) := by
  unfold b208_13 at h
  refine Ev.run (pc' := 21) (ls' := [some (.ref 24), some (.int x1), o2, o3, o4, o5, o6, o7, o8, o9, o10]) (st' := [.int (s.1 24 39), .int (s.1 24 38)]) (h' := mk s) 4 rfl ?_
  refine Ev.icmp_ge (t := 51) rfl rfl (fun hb => ?_) (fun hb => ?_)
  · have h := (if_pos hb).symm.trans h
    exact k208_51 zF x1 s _ _ _ _ _ _ _ _ _ _ h
  · have h := (if_neg hb).symm.trans h
    refine Ev.run (pc' := 32) (ls' := [some (.ref 24), some (.int x1), o2, o3, o4, o5, o6, o7, o8, o9, o10]) (st' := [.int (s.1 24 38), .ref 25]) (h' := mk s) 4 rfl ?_
    obtain ⟨hx, h⟩ := zif h
    refine Ev.step (pc' := 33) rfl (ald_b rfl hx) ?_
    refine Ev.run (pc' := 35) (ls' := [some (.ref 24), some (.int x1), o2, o3, o4, o5, o6, o7, o8, o9, o10]) (st' := [.int (zi 32), .int (s.1 25 ((s.1 24 38).toNatClampNeg))]) (h' := mk s) 1 rfl ?_
    refine Ev.icmp_gt (t := 51) rfl rfl (fun hb => ?_) (fun hb => ?_)
    · have h := (if_pos hb).symm.trans h
      exact k208_51 zF x1 s _ _ _ _ _ _ _ _ _ _ h
    · have h := (if_neg hb).symm.trans h
      refine Ev.run (pc' := 45) (ls' := [some (.ref 24), some (.int x1), o2, o3, o4, o5, o6, o7, o8, o9, o10]) (st' := [.int ((s.1 24 38) + (zi 1)), .ref 24]) (h' := mk s) 5 rfl ?_
      refine Ev.step (pc' := 48) rfl (put_12_38 rfl) ?_
      refine Ev.run (pc' := 13) (ls' := [some (.ref 24), some (.int x1), o2, o3, o4, o5, o6, o7, o8, o9, o10]) (st' := []) (h' := mk (setI s 24 38 ((s.1 24 38) + (zi 1)))) 1 rfl ?_
      exact hrec13 x1 (setI s 24 38 ((s.1 24 38) + (zi 1))) _ _ _ _ _ _ _ _ _ _ h
def f208_13  : Nat → Int32 → zS → Option (Int64 × zS)
  | 0, _, _ => none
  | n + 1, x1, s => b208_13 (f208_13 n) x1 s
set_option maxRecDepth 100000 in
theorem k208_13 {X : mX} {D : Nat}   (n : Nat) : ∀ (x1 : Int32) (s : zS) (r : Int64 × zS) (o2 : Option Value) (o3 : Option Value) (o4 : Option Value) (o5 : Option Value) (o6 : Option Value) (o7 : Option Value) (o8 : Option Value) (o9 : Option Value) (o10 : Option Value), f208_13  n x1 s = some r → Ev X (D + 6) mm208 13 [some (.ref 24), some (.int x1), o2, o3, o4, o5, o6, o7, o8, o9, o10] [] (mk s) (encL r) := by
  induction n with
  | zero => intro x1 s r o2 o3 o4 o5 o6 o7 o8 o9 o10  h; cases h
  | succ n ih => intro x1 s r o2 o3 o4 o5 o6 o7 o8 o9 o10  h; exact kb208_13  ih x1 s r o2 o3 o4 o5 o6 o7 o8 o9 o10  h
def f208  (x1 : Int32) (s : zS) : Option (Int64 × zS) := f208_13 zF x1 (setI (setI s 24 38 (zi 0)) 24 39 (s.1 24 4))
set_option maxRecDepth 100000 in
theorem k208 {X : mX} {D : Nat} {x1 : Int32} {s : zS} {r : Int64 × zS}  (h : f208 x1 s = some r) : Ev X (D + 6) mm208 0 [some (.ref 24), some (.int x1), none, none, none, none, none, none, none, none, none] [] (mk s) (encL r) := by
  unfold f208 at h
  refine Ev.run (pc' := 2) (ls' := [some (.ref 24), some (.int x1), none, none, none, none, none, none, none, none, none]) (st' := [.int (zi 0), .ref 24]) (h' := mk s) 2 rfl ?_
  refine Ev.step (pc' := 5) rfl (put_12_38 rfl) ?_
  refine Ev.run (pc' := 10) (ls' := [some (.ref 24), some (.int x1), none, none, none, none, none, none, none, none, none]) (st' := [.int (s.1 24 4), .ref 24]) (h' := mk (setI s 24 38 (zi 0))) 3 rfl ?_
  refine Ev.step (pc' := 13) rfl (put_12_39 rfl) ?_
  exact k208_13 zF x1 (setI (setI s 24 38 (zi 0)) 24 39 (s.1 24 4)) _ _ _ _ _ _ _ _ _ _ h
/-! 216 FModel.row(JIZ)I -/
def b216_117 (rec117 : Int64 → Int32 → Int32 → zS → Option (Int32 × zS)) (x1 : Int64) (x6 : Int32) (x7 : Int32) (s : zS) : Option (Int32 × zS) := if x7 < zi 0 then some (s.1 24 4, s) else if mIx (s.1 24 4) 800 then rec117 x1 x6 (x7 + zi (-1)) (setB (setI s 24 4 ((s.1 24 4) + (zi 1))) 25 ((s.1 24 4).toNatClampNeg) (zI2B (zI2B (zL2I (zshrL x1 ((zi 8) * x7)))))) else none
set_option maxRecDepth 100000 in
theorem kb216_117 {X : mX} {D : Nat} {rec117 : Int64 → Int32 → Int32 → zS → Option (Int32 × zS)} (hrec117 : ∀ (x1 : Int64) (x6 : Int32) (x7 : Int32) (s : zS) (r : Int32 × zS) (o3 : Option Value) (o4 : Option Value) (o5 : Option Value), rec117 x1 x6 x7 s = some r → Ev X D mm216 117 [some (.ref 24), some (.long x1), none, o3, o4, o5, some (.int x6), some (.int x7)] [] (mk s) (encI r)) (x1 : Int64) (x6 : Int32) (x7 : Int32) (s : zS) (r : Int32 × zS) (o3 : Option Value) (o4 : Option Value) (o5 : Option Value)  (h : b216_117 rec117 x1 x6 x7 s = some r) : Ev X D mm216 117 [some (.ref 24), some (.long x1), none, o3, o4, o5, some (.int x6), some (.int x7)] [] (mk s) (encI r) := by
  unfold b216_117 at h
  refine Ev.run (pc' := 119) (ls' := [some (.ref 24), some (.long x1), none, o3, o4, o5, some (.int x6), some (.int x7)]) (st' := [.int x7]) (h' := mk s) 1 rfl ?_
  refine Ev.if_lt (t := 153) rfl rfl (fun hb => ?_) (fun hb => ?_)
  · have h := (if_pos hb).symm.trans h
    refine Ev.run (pc' := 157) (ls' := [some (.ref 24), some (.long x1), none, o3, o4, o5, some (.int x6), some (.int x7)]) (st' := [.int (s.1 24 4)]) (h' := mk s) 2 rfl ?_
    first | (obtain rfl := Option.some.inj h) | (cases h)
    exact Ev.fin rfl rfl
  · have h := (if_neg hb).symm.trans h
    refine Ev.run (pc' := 134) (ls' := [some (.ref 24), some (.long x1), none, o3, o4, o5, some (.int x6), some (.int x7)]) (st' := [.int ((s.1 24 4) + (zi 1)), .ref 24, .int (s.1 24 4), .ref 25]) (h' := mk s) 8 rfl ?_
    refine Ev.step (pc' := 137) rfl (put_12_4 rfl) ?_
    refine Ev.run (pc' := 146) (ls' := [some (.ref 24), some (.long x1), none, o3, o4, o5, some (.int x6), some (.int x7)]) (st' := [.int (zI2B (zL2I (zshrL x1 ((zi 8) * x7)))), .int (s.1 24 4), .ref 25]) (h' := mk (setI s 24 4 ((s.1 24 4) + (zi 1)))) 7 rfl ?_
    obtain ⟨hx, h⟩ := zif h
    refine Ev.step (pc' := 147) rfl (ast_25 hx) ?_
    refine Ev.run (pc' := 117) (ls' := [some (.ref 24), some (.long x1), none, o3, o4, o5, some (.int x6), some (.int (x7 + zi (-1)))]) (st' := []) (h' := mk (setB (setI s 24 4 ((s.1 24 4) + (zi 1))) 25 ((s.1 24 4).toNatClampNeg) (zI2B (zI2B (zL2I (zshrL x1 ((zi 8) * x7))))))) 2 rfl ?_
    exact hrec117 x1 x6 (x7 + zi (-1)) (setB (setI s 24 4 ((s.1 24 4) + (zi 1))) 25 ((s.1 24 4).toNatClampNeg) (zI2B (zI2B (zL2I (zshrL x1 ((zi 8) * x7)))))) _ _ _ _ h
def f216_117  : Nat → Int64 → Int32 → Int32 → zS → Option (Int32 × zS)
  | 0, _, _, _, _ => none
  | n + 1, x1, x6, x7, s => b216_117 (f216_117 n) x1 x6 x7 s
set_option maxRecDepth 100000 in
theorem k216_117 {X : mX} {D : Nat}   (n : Nat) : ∀ (x1 : Int64) (x6 : Int32) (x7 : Int32) (s : zS) (r : Int32 × zS) (o3 : Option Value) (o4 : Option Value) (o5 : Option Value), f216_117  n x1 x6 x7 s = some r → Ev X D mm216 117 [some (.ref 24), some (.long x1), none, o3, o4, o5, some (.int x6), some (.int x7)] [] (mk s) (encI r) := by
  induction n with
  | zero => intro x1 x6 x7 s r o3 o4 o5  h; cases h
  | succ n ih => intro x1 x6 x7 s r o3 o4 o5  h; exact kb216_117  ih x1 x6 x7 s r o3 o4 o5  h
def f216_96  (x1 : Int64) (x3 : Int32) (x5 : Int32) (x6 : Int32) (y1 : Int32) (s : zS) : Option (Int32 × zS) := if ¬ x6 = zi 0 then f216_117 zF x1 x6 (x3 - (zi 1)) (setI (setI s 24 9 y1) 24 4 x5) else some (zi 0, setI s 24 9 y1)
set_option maxRecDepth 100000 in
theorem k216_96 {X : mX} {D : Nat}   (x1 : Int64) (x3 : Int32) (x5 : Int32) (x6 : Int32) (y1 : Int32) (s : zS) (r : Int32 × zS) (o4 : Option Value) (o7 : Option Value)  (h : f216_96  x1 x3 x5 x6 y1 s = some r) : Ev X D mm216 96 [some (.ref 24), some (.long x1), none, some (.int x3), o4, some (.int x5), some (.int x6), o7] [.int y1, .ref 24] (mk s) (encI r) := by
  unfold f216_96 at h
  refine Ev.step (pc' := 99) rfl (put_12_9 rfl) ?_
  refine Ev.run (pc' := 101) (ls' := [some (.ref 24), some (.long x1), none, some (.int x3), o4, some (.int x5), some (.int x6), o7]) (st' := [.int x6]) (h' := mk (setI s 24 9 y1)) 1 rfl ?_
  refine Ev.if_ne (t := 106) rfl rfl (fun hb => ?_) (fun hb => ?_)
  · have h := (if_pos hb).symm.trans h
    refine Ev.run (pc' := 109) (ls' := [some (.ref 24), some (.long x1), none, some (.int x3), o4, some (.int x5), some (.int x6), o7]) (st' := [.int x5, .ref 24]) (h' := mk (setI s 24 9 y1)) 2 rfl ?_
    refine Ev.step (pc' := 112) rfl (put_12_4 rfl) ?_
    refine Ev.run (pc' := 117) (ls' := [some (.ref 24), some (.long x1), none, some (.int x3), o4, some (.int x5), some (.int x6), some (.int (x3 - (zi 1)))]) (st' := []) (h' := mk (setI (setI s 24 9 y1) 24 4 x5)) 4 rfl ?_
    exact k216_117 zF x1 x6 (x3 - (zi 1)) (setI (setI s 24 9 y1) 24 4 x5) _ _ _ _ h
  · have h := (if_neg hb).symm.trans h
    refine Ev.run (pc' := 105) (ls' := [some (.ref 24), some (.long x1), none, some (.int x3), o4, some (.int x5), some (.int x6), o7]) (st' := [.int (zi 0)]) (h' := mk (setI s 24 9 y1)) 1 rfl ?_
    first | (obtain rfl := Option.some.inj h) | (cases h)
    exact Ev.fin rfl rfl
def f216_85  (x1 : Int64) (x3 : Int32) (x5 : Int32) (x6 : Int32) (s : zS) : Option (Int32 × zS) := if x6 = zi 0 then f216_96 x1 x3 x5 x6 (zi 1) s else f216_96 x1 x3 x5 x6 (zi 0) s
set_option maxRecDepth 100000 in
theorem k216_85 {X : mX} {D : Nat}   (x1 : Int64) (x3 : Int32) (x5 : Int32) (x6 : Int32) (s : zS) (r : Int32 × zS) (o4 : Option Value) (o7 : Option Value)  (h : f216_85  x1 x3 x5 x6 s = some r) : Ev X D mm216 85 [some (.ref 24), some (.long x1), none, some (.int x3), o4, some (.int x5), some (.int x6), o7] [] (mk s) (encI r) := by
  unfold f216_85 at h
  refine Ev.run (pc' := 88) (ls' := [some (.ref 24), some (.long x1), none, some (.int x3), o4, some (.int x5), some (.int x6), o7]) (st' := [.int x6, .ref 24]) (h' := mk s) 2 rfl ?_
  refine Ev.if_eq (t := 95) rfl rfl (fun hb => ?_) (fun hb => ?_)
  · have h := (if_pos hb).symm.trans h
    refine Ev.run (pc' := 96) (ls' := [some (.ref 24), some (.long x1), none, some (.int x3), o4, some (.int x5), some (.int x6), o7]) (st' := [.int (zi 1), .ref 24]) (h' := mk s) 1 rfl ?_
    exact k216_96 x1 x3 x5 x6 (zi 1) s _ _ _ h
  · have h := (if_neg hb).symm.trans h
    refine Ev.run (pc' := 96) (ls' := [some (.ref 24), some (.long x1), none, some (.int x3), o4, some (.int x5), some (.int x6), o7]) (st' := [.int (zi 0), .ref 24]) (h' := mk s) 2 rfl ?_
    exact k216_96 x1 x3 x5 x6 (zi 0) s _ _ _ h
def b216_45 (rec45 : Int64 → Int32 → Int32 → Int32 → Int32 → zS → Option (Int32 × zS)) (x1 : Int64) (x3 : Int32) (x5 : Int32) (x6 : Int32) (x7 : Int32) (s : zS) : Option (Int32 × zS) := if x7 ≥ x3 then f216_85 x1 x3 x5 x6 s else if x6 = zi 0 then f216_85 x1 x3 x5 x6 s else if ¬ ((zshrL x1 ((zi 8) * x7)) &&& (zl 128)) = (zl 0) then rec45 x1 x3 x5 (zi 0) (x7 + zi 1) s else rec45 x1 x3 x5 (zi 1) (x7 + zi 1) s
set_option maxRecDepth 100000 in
theorem kb216_45 {X : mX} {D : Nat} {rec45 : Int64 → Int32 → Int32 → Int32 → Int32 → zS → Option (Int32 × zS)} (hrec45 : ∀ (x1 : Int64) (x3 : Int32) (x5 : Int32) (x6 : Int32) (x7 : Int32) (s : zS) (r : Int32 × zS) (o4 : Option Value), rec45 x1 x3 x5 x6 x7 s = some r → Ev X D mm216 45 [some (.ref 24), some (.long x1), none, some (.int x3), o4, some (.int x5), some (.int x6), some (.int x7)] [] (mk s) (encI r)) (x1 : Int64) (x3 : Int32) (x5 : Int32) (x6 : Int32) (x7 : Int32) (s : zS) (r : Int32 × zS) (o4 : Option Value)  (h : b216_45 rec45 x1 x3 x5 x6 x7 s = some r) : Ev X D mm216 45 [some (.ref 24), some (.long x1), none, some (.int x3), o4, some (.int x5), some (.int x6), some (.int x7)] [] (mk s) (encI r) := by
  unfold b216_45 at h
  refine Ev.run (pc' := 48) (ls' := [some (.ref 24), some (.long x1), none, some (.int x3), o4, some (.int x5), some (.int x6), some (.int x7)]) (st' := [.int x3, .int x7]) (h' := mk s) 2 rfl ?_
  refine Ev.icmp_ge (t := 85) rfl rfl (fun hb => ?_) (fun hb => ?_)
  · have h := (if_pos hb).symm.trans h
    exact k216_85 x1 x3 x5 x6 s _ _ _ h
  · have h := (if_neg hb).symm.trans h
    refine Ev.run (pc' := 53) (ls' := [some (.ref 24), some (.long x1), none, some (.int x3), o4, some (.int x5), some (.int x6), some (.int x7)]) (st' := [.int x6]) (h' := mk s) 1 rfl ?_
    refine Ev.if_eq (t := 85) rfl rfl (fun hb => ?_) (fun hb => ?_)
    · have h := (if_pos hb).symm.trans h
      exact k216_85 x1 x3 x5 x6 s _ _ _ h
    · have h := (if_neg hb).symm.trans h
      refine Ev.run (pc' := 69) (ls' := [some (.ref 24), some (.long x1), none, some (.int x3), o4, some (.int x5), some (.int x6), some (.int x7)]) (st' := [.int (lg_cmp ((zshrL x1 ((zi 8) * x7)) &&& (zl 128)) (zl 0))]) (h' := mk s) 9 rfl ?_
      refine Ev.ifl_ne (t := 76) rfl rfl (fun hb => ?_) (fun hb => ?_)
      · have h := (if_pos hb).symm.trans h
        refine Ev.run (pc' := 45) (ls' := [some (.ref 24), some (.long x1), none, some (.int x3), o4, some (.int x5), some (.int (zi 0)), some (.int (x7 + zi 1))]) (st' := []) (h' := mk s) 4 rfl ?_
        exact hrec45 x1 x3 x5 (zi 0) (x7 + zi 1) s _ _ h
      · have h := (if_neg hb).symm.trans h
        refine Ev.run (pc' := 45) (ls' := [some (.ref 24), some (.long x1), none, some (.int x3), o4, some (.int x5), some (.int (zi 1)), some (.int (x7 + zi 1))]) (st' := []) (h' := mk s) 5 rfl ?_
        exact hrec45 x1 x3 x5 (zi 1) (x7 + zi 1) s _ _ h
def f216_45  : Nat → Int64 → Int32 → Int32 → Int32 → Int32 → zS → Option (Int32 × zS)
  | 0, _, _, _, _, _, _ => none
  | n + 1, x1, x3, x5, x6, x7, s => b216_45 (f216_45 n) x1 x3 x5 x6 x7 s
set_option maxRecDepth 100000 in
theorem k216_45 {X : mX} {D : Nat}   (n : Nat) : ∀ (x1 : Int64) (x3 : Int32) (x5 : Int32) (x6 : Int32) (x7 : Int32) (s : zS) (r : Int32 × zS) (o4 : Option Value), f216_45  n x1 x3 x5 x6 x7 s = some r → Ev X D mm216 45 [some (.ref 24), some (.long x1), none, some (.int x3), o4, some (.int x5), some (.int x6), some (.int x7)] [] (mk s) (encI r) := by
  induction n with
  | zero => intro x1 x3 x5 x6 x7 s r o4  h; cases h
  | succ n ih => intro x1 x3 x5 x6 x7 s r o4  h; exact kb216_45  ih x1 x3 x5 x6 x7 s r o4  h
def f216_13  (x1 : Int64) (x3 : Int32) (x4 : Int32) (y0 : Int32) (s : zS) : Option (Int32 × zS) := if x3 < zi 0 then f216_45 zF x1 x3 y0 (zi 0) (zi 0) s else if x3 > (zi 8) then f216_45 zF x1 x3 y0 (zi 0) (zi 0) s else if (y0 + x3) > (zi 800) then f216_45 zF x1 x3 y0 (zi 0) (zi 0) s else f216_45 zF x1 x3 y0 (zi 1) (zi 0) s
set_option maxRecDepth 100000 in
theorem k216_13 {X : mX} {D : Nat}   (x1 : Int64) (x3 : Int32) (x4 : Int32) (y0 : Int32) (s : zS) (r : Int32 × zS) (o5 : Option Value) (o6 : Option Value) (o7 : Option Value)  (h : f216_13  x1 x3 x4 y0 s = some r) : Ev X D mm216 13 [some (.ref 24), some (.long x1), none, some (.int x3), some (.int x4), o5, o6, o7] [.int y0] (mk s) (encI r) := by
  unfold f216_13 at h
  refine Ev.run (pc' := 16) (ls' := [some (.ref 24), some (.long x1), none, some (.int x3), some (.int x4), some (.int y0), o6, o7]) (st' := [.int x3]) (h' := mk s) 2 rfl ?_
  refine Ev.if_lt (t := 39) rfl rfl (fun hb => ?_) (fun hb => ?_)
  · have h := (if_pos hb).symm.trans h
    refine Ev.run (pc' := 45) (ls' := [some (.ref 24), some (.long x1), none, some (.int x3), some (.int x4), some (.int y0), some (.int (zi 0)), some (.int (zi 0))]) (st' := []) (h' := mk s) 4 rfl ?_
    exact k216_45 zF x1 x3 y0 (zi 0) (zi 0) s _ _ h
  · have h := (if_neg hb).symm.trans h
    refine Ev.run (pc' := 22) (ls' := [some (.ref 24), some (.long x1), none, some (.int x3), some (.int x4), some (.int y0), o6, o7]) (st' := [.int (zi 8), .int x3]) (h' := mk s) 2 rfl ?_
    refine Ev.icmp_gt (t := 39) rfl rfl (fun hb => ?_) (fun hb => ?_)
    · have h := (if_pos hb).symm.trans h
      refine Ev.run (pc' := 45) (ls' := [some (.ref 24), some (.long x1), none, some (.int x3), some (.int x4), some (.int y0), some (.int (zi 0)), some (.int (zi 0))]) (st' := []) (h' := mk s) 4 rfl ?_
      exact k216_45 zF x1 x3 y0 (zi 0) (zi 0) s _ _ h
    · have h := (if_neg hb).symm.trans h
      refine Ev.run (pc' := 32) (ls' := [some (.ref 24), some (.long x1), none, some (.int x3), some (.int x4), some (.int y0), o6, o7]) (st' := [.int (zi 800), .int (y0 + x3)]) (h' := mk s) 4 rfl ?_
      refine Ev.icmp_gt (t := 39) rfl rfl (fun hb => ?_) (fun hb => ?_)
      · have h := (if_pos hb).symm.trans h
        refine Ev.run (pc' := 45) (ls' := [some (.ref 24), some (.long x1), none, some (.int x3), some (.int x4), some (.int y0), some (.int (zi 0)), some (.int (zi 0))]) (st' := []) (h' := mk s) 4 rfl ?_
        exact k216_45 zF x1 x3 y0 (zi 0) (zi 0) s _ _ h
      · have h := (if_neg hb).symm.trans h
        refine Ev.run (pc' := 45) (ls' := [some (.ref 24), some (.long x1), none, some (.int x3), some (.int x4), some (.int y0), some (.int (zi 1)), some (.int (zi 0))]) (st' := []) (h' := mk s) 5 rfl ?_
        exact k216_45 zF x1 x3 y0 (zi 1) (zi 0) s _ _ h
def f216  (x1 : Int64) (x3 : Int32) (x4 : Int32) (s : zS) : Option (Int32 × zS) := if x4 = zi 0 then f216_13 x1 x3 x4 (s.1 24 4) s else f216_13 x1 x3 x4 (zi 0) s
set_option maxRecDepth 100000 in
theorem k216 {X : mX} {D : Nat} {x1 : Int64} {x3 : Int32} {x4 : Int32} {s : zS} {r : Int32 × zS}  (h : f216 x1 x3 x4 s = some r) : Ev X D mm216 0 [some (.ref 24), some (.long x1), none, some (.int x3), some (.int x4), none, none, none] [] (mk s) (encI r) := by
  unfold f216 at h
  refine Ev.run (pc' := 2) (ls' := [some (.ref 24), some (.long x1), none, some (.int x3), some (.int x4), none, none, none]) (st' := [.int x4]) (h' := mk s) 1 rfl ?_
  refine Ev.if_eq (t := 9) rfl rfl (fun hb => ?_) (fun hb => ?_)
  · have h := (if_pos hb).symm.trans h
    refine Ev.run (pc' := 13) (ls' := [some (.ref 24), some (.long x1), none, some (.int x3), some (.int x4), none, none, none]) (st' := [.int (s.1 24 4)]) (h' := mk s) 2 rfl ?_
    exact k216_13 x1 x3 x4 (s.1 24 4) s _ _ _ _ h
  · have h := (if_neg hb).symm.trans h
    refine Ev.run (pc' := 13) (ls' := [some (.ref 24), some (.long x1), none, some (.int x3), some (.int x4), none, none, none]) (st' := [.int (zi 0)]) (h' := mk s) 2 rfl ?_
    exact k216_13 x1 x3 x4 (zi 0) s _ _ _ _ h
