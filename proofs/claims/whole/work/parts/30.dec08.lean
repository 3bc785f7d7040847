/-! decompiled methods, 8; printed by wip/gen/gen8.py -/
/-! 183 FModel.whole(I)V -/
def f183_318  (y1 : Int32) (y2 : Int32) (s : zS) : Option (zS) := zb0 (f182 y1 y2 (zi 1) s) (fun s1 => some s1)
theorem k183_318 {X : mX} {D : Nat}   (y1 : Int32) (y2 : Int32) (s : zS) (r : zS) (o0 : Option Value) (o1 : Option Value) (o2 : Option Value) (o3 : Option Value) (o4 : Option Value) (o5 : Option Value) (o6 : Option Value) (o7 : Option Value) (o8 : Option Value) (o9 : Option Value) (o10 : Option Value)  (h : f183_318  y1 y2 s = some r) : Ev X (D + 7) mm183 318 [o0, o1, o2, o3, o4, o5, o6, o7, o8, o9, o10] [.int y2, .int y1, .ref 24] (mk s) (encV r) := by
  unfold f183_318 at h
  refine Ev.run (pc' := 319) (ls' := [o0, o1, o2, o3, o4, o5, o6, o7, o8, o9, o10]) (st' := [.int (zi 1), .int y2, .int y1, .ref 24]) (h' := mk s) 1 rfl ?_
  obtain ⟨s1, hq, h⟩ := zb0_some h
  refine Ev.call (M' := mm182) (v := none) (h' := mk s1) rfl rfl rfl (Nat.le_of_ble_eq_true rfl) (k182 hq) ?_
  cases h
  exact Ev.fin rfl rfl
def f183_281 (rec238 : Int32 → Int64 → Int32 → Int32 → Int32 → zS → Option (zS)) (x1 : Int32) (x3 : Int64) (x6 : Int32) (x7 : Int32) (x8 : Int32) (y1 : Int32) (s : zS) : Option (zS) := zb0 (f181 y1 s) (fun s1 => rec238 x1 x3 x6 x7 (x8 - x6) s1)
theorem k183_281 {X : mX} {D : Nat} {rec238 : Int32 → Int64 → Int32 → Int32 → Int32 → zS → Option (zS)} (hrec238 : ∀ (x1 : Int32) (x3 : Int64) (x6 : Int32) (x7 : Int32) (x8 : Int32) (s : zS) (r : zS) (o2 : Option Value) (o5 : Option Value) (o9 : Option Value) (o10 : Option Value), rec238 x1 x3 x6 x7 x8 s = some r → Ev X (D + 7) mm183 238 [some (.ref 24), some (.int x1), o2, some (.long x3), none, o5, some (.int x6), some (.int x7), some (.int x8), o9, o10] [] (mk s) (encV r)) (x1 : Int32) (x3 : Int64) (x6 : Int32) (x7 : Int32) (x8 : Int32) (y1 : Int32) (s : zS) (r : zS) (o2 : Option Value) (o5 : Option Value) (o9 : Option Value) (o10 : Option Value)  (h : f183_281 rec238 x1 x3 x6 x7 x8 y1 s = some r) : Ev X (D + 7) mm183 281 [some (.ref 24), some (.int x1), o2, some (.long x3), none, o5, some (.int x6), some (.int x7), some (.int x8), o9, o10] [.int y1, .ref 24] (mk s) (encV r) := by
  unfold f183_281 at h
  obtain ⟨s1, hq, h⟩ := zb0_some h
  refine Ev.call (M' := mm181) (v := none) (h' := mk s1) rfl rfl rfl (Nat.le_of_ble_eq_true rfl) (k181 hq) ?_
  refine Ev.run (pc' := 238) (ls' := [some (.ref 24), some (.int x1), o2, some (.long x3), none, o5, some (.int x6), some (.int x7), some (.int (x8 - x6)), o9, o10]) (st' := []) (h' := mk s1) 5 rfl ?_
  exact hrec238 x1 x3 x6 x7 (x8 - x6) s1 _ _ _ _ _ h
def b183_238 (rec238 : Int32 → Int64 → Int32 → Int32 → Int32 → zS → Option (zS)) (x1 : Int32) (x3 : Int64) (x6 : Int32) (x7 : Int32) (x8 : Int32) (s : zS) : Option (zS) := if x8 < zi 0 then if ¬ x1 = (zi 16) then f183_318 (zi 0) (zi 0) s else if (r180 (s.1 24 15) (zi 2) s) = zi 0 then f183_318 (zi 0) (zi 0) s else f183_318 (zi 0) (zi 1) s else if ((zL2I (zushrL x3 x8)) &&& ((zshl (zi 1) x6) - (zi 1))) ≥ (zi 10) then f183_281 rec238 x1 x3 x6 x7 x8 (((zi 97) + ((zL2I (zushrL x3 x8)) &&& ((zshl (zi 1) x6) - (zi 1)))) - (zi 10)) s else f183_281 rec238 x1 x3 x6 x7 x8 ((zi 48) + ((zL2I (zushrL x3 x8)) &&& ((zshl (zi 1) x6) - (zi 1)))) s
theorem kb183_238 {X : mX} {D : Nat} {rec238 : Int32 → Int64 → Int32 → Int32 → Int32 → zS → Option (zS)} (hrec238 : ∀ (x1 : Int32) (x3 : Int64) (x6 : Int32) (x7 : Int32) (x8 : Int32) (s : zS) (r : zS) (o2 : Option Value) (o5 : Option Value) (o9 : Option Value) (o10 : Option Value), rec238 x1 x3 x6 x7 x8 s = some r → Ev X (D + 7) mm183 238 [some (.ref 24), some (.int x1), o2, some (.long x3), none, o5, some (.int x6), some (.int x7), some (.int x8), o9, o10] [] (mk s) (encV r)) (x1 : Int32) (x3 : Int64) (x6 : Int32) (x7 : Int32) (x8 : Int32) (s : zS) (r : zS) (o2 : Option Value) (o5 : Option Value) (o9 : Option Value) (o10 : Option Value)  (h : b183_238 rec238 x1 x3 x6 x7 x8 s = some r) : Ev X (D + 7) mm183 238 [some (.ref 24), some (.int x1), o2, some (.long x3), none, o5, some (.int x6), some (.int x7), some (.int x8), o9, o10] [] (mk s) (encV r) := by
  unfold b183_238 at h
  refine Ev.run (pc' := 240) (ls' := [some (.ref 24), some (.int x1), o2, some (.long x3), none, o5, some (.int x6), some (.int x7), some (.int x8), o9, o10]) (st' := [.int x8]) (h' := mk s) 1 rfl ?_
  refine Ev.if_lt (t := 294) rfl rfl (fun hb => ?_) (fun hb => ?_)
  · have h := (if_pos hb).symm.trans h
    refine Ev.run (pc' := 299) (ls' := [some (.ref 24), some (.int x1), o2, some (.long x3), none, o5, some (.int x6), some (.int x7), some (.int x8), o9, o10]) (st' := [.int (zi 16), .int x1, .int (zi 0), .ref 24]) (h' := mk s) 4 rfl ?_
    refine Ev.icmp_ne (t := 317) rfl rfl (fun hb => ?_) (fun hb => ?_)
    · have h := (if_pos hb).symm.trans h
      refine Ev.run (pc' := 318) (ls' := [some (.ref 24), some (.int x1), o2, some (.long x3), none, o5, some (.int x6), some (.int x7), some (.int x8), o9, o10]) (st' := [.int (zi 0), .int (zi 0), .ref 24]) (h' := mk s) 1 rfl ?_
      exact k183_318 (zi 0) (zi 0) s _ _ _ _ _ _ _ _ _ _ _ _ h
    · have h := (if_neg hb).symm.trans h
      refine Ev.run (pc' := 307) (ls' := [some (.ref 24), some (.int x1), o2, some (.long x3), none, o5, some (.int x6), some (.int x7), some (.int x8), o9, o10]) (st' := [.int (zi 2), .int (s.1 24 15), .int (zi 0), .ref 24]) (h' := mk s) 3 rfl ?_
      refine Ev.call (M' := mm180) (v := some (.int (r180 (s.1 24 15) (zi 2) s))) (h' := mk s) rfl rfl rfl (Nat.le_of_ble_eq_true rfl) (k180 (x0 := (s.1 24 15)) (x1 := (zi 2)) (s := s)  rfl) ?_
      refine Ev.if_eq (t := 317) rfl rfl (fun hb => ?_) (fun hb => ?_)
      · have h := (if_pos hb).symm.trans h
        refine Ev.run (pc' := 318) (ls' := [some (.ref 24), some (.int x1), o2, some (.long x3), none, o5, some (.int x6), some (.int x7), some (.int x8), o9, o10]) (st' := [.int (zi 0), .int (zi 0), .ref 24]) (h' := mk s) 1 rfl ?_
        exact k183_318 (zi 0) (zi 0) s _ _ _ _ _ _ _ _ _ _ _ _ h
      · have h := (if_neg hb).symm.trans h
        refine Ev.run (pc' := 318) (ls' := [some (.ref 24), some (.int x1), o2, some (.long x3), none, o5, some (.int x6), some (.int x7), some (.int x8), o9, o10]) (st' := [.int (zi 1), .int (zi 0), .ref 24]) (h' := mk s) 2 rfl ?_
        exact k183_318 (zi 0) (zi 1) s _ _ _ _ _ _ _ _ _ _ _ _ h
  · have h := (if_neg hb).symm.trans h
    refine Ev.run (pc' := 262) (ls' := [some (.ref 24), some (.int x1), o2, some (.long x3), none, o5, some (.int x6), some (.int x7), some (.int x8), some (.int ((zL2I (zushrL x3 x8)) &&& ((zshl (zi 1) x6) - (zi 1)))), o10]) (st' := [.int (zi 10), .int ((zL2I (zushrL x3 x8)) &&& ((zshl (zi 1) x6) - (zi 1))), .ref 24]) (h' := mk s) 14 rfl ?_
    refine Ev.icmp_ge (t := 273) rfl rfl (fun hb => ?_) (fun hb => ?_)
    · have h := (if_pos hb).symm.trans h
      refine Ev.run (pc' := 281) (ls' := [some (.ref 24), some (.int x1), o2, some (.long x3), none, o5, some (.int x6), some (.int x7), some (.int x8), some (.int ((zL2I (zushrL x3 x8)) &&& ((zshl (zi 1) x6) - (zi 1)))), o10]) (st' := [.int (((zi 97) + ((zL2I (zushrL x3 x8)) &&& ((zshl (zi 1) x6) - (zi 1)))) - (zi 10)), .ref 24]) (h' := mk s) 5 rfl ?_
      exact k183_281 hrec238 x1 x3 x6 x7 x8 (((zi 97) + ((zL2I (zushrL x3 x8)) &&& ((zshl (zi 1) x6) - (zi 1)))) - (zi 10)) s _ _ _ _ _ h
    · have h := (if_neg hb).symm.trans h
      refine Ev.run (pc' := 281) (ls' := [some (.ref 24), some (.int x1), o2, some (.long x3), none, o5, some (.int x6), some (.int x7), some (.int x8), some (.int ((zL2I (zushrL x3 x8)) &&& ((zshl (zi 1) x6) - (zi 1)))), o10]) (st' := [.int ((zi 48) + ((zL2I (zushrL x3 x8)) &&& ((zshl (zi 1) x6) - (zi 1)))), .ref 24]) (h' := mk s) 4 rfl ?_
      exact k183_281 hrec238 x1 x3 x6 x7 x8 ((zi 48) + ((zL2I (zushrL x3 x8)) &&& ((zshl (zi 1) x6) - (zi 1)))) s _ _ _ _ _ h
def f183_238  : Nat → Int32 → Int64 → Int32 → Int32 → Int32 → zS → Option (zS)
  | 0, _, _, _, _, _, _ => none
  | n + 1, x1, x3, x6, x7, x8, s => b183_238 (f183_238 n) x1 x3 x6 x7 x8 s
theorem k183_238 {X : mX} {D : Nat}   (n : Nat) : ∀ (x1 : Int32) (x3 : Int64) (x6 : Int32) (x7 : Int32) (x8 : Int32) (s : zS) (r : zS) (o2 : Option Value) (o5 : Option Value) (o9 : Option Value) (o10 : Option Value), f183_238  n x1 x3 x6 x7 x8 s = some r → Ev X (D + 7) mm183 238 [some (.ref 24), some (.int x1), o2, some (.long x3), none, o5, some (.int x6), some (.int x7), some (.int x8), o9, o10] [] (mk s) (encV r) := by
  induction n with
  | zero => intro x1 x3 x6 x7 x8 s r o2 o5 o9 o10  h; cases h
  | succ n ih => intro x1 x3 x6 x7 x8 s r o2 o5 o9 o10  h; exact kb183_238  ih x1 x3 x6 x7 x8 s r o2 o5 o9 o10  h
def b183_208 (rec208 : Int32 → Int64 → Int32 → Int32 → zS → Option (zS)) (x1 : Int32) (x3 : Int64) (x6 : Int32) (x7 : Int32) (s : zS) : Option (zS) := if x7 ≤ zi 0 then if ¬ x6 = zi 0 then f183_238 zF x1 x3 x6 x7 ((x7 / x6) * x6) s else none else if ¬ (zushrL x3 x7) = (zl 0) then if ¬ x6 = zi 0 then f183_238 zF x1 x3 x6 x7 ((x7 / x6) * x6) s else none else rec208 x1 x3 x6 (x7 + zi (-1)) s
theorem kb183_208 {X : mX} {D : Nat} {rec208 : Int32 → Int64 → Int32 → Int32 → zS → Option (zS)} (hrec208 : ∀ (x1 : Int32) (x3 : Int64) (x6 : Int32) (x7 : Int32) (s : zS) (r : zS) (o2 : Option Value) (o5 : Option Value) (o8 : Option Value) (o9 : Option Value) (o10 : Option Value), rec208 x1 x3 x6 x7 s = some r → Ev X (D + 7) mm183 208 [some (.ref 24), some (.int x1), o2, some (.long x3), none, o5, some (.int x6), some (.int x7), o8, o9, o10] [] (mk s) (encV r)) (x1 : Int32) (x3 : Int64) (x6 : Int32) (x7 : Int32) (s : zS) (r : zS) (o2 : Option Value) (o5 : Option Value) (o8 : Option Value) (o9 : Option Value) (o10 : Option Value)  (h : b183_208 rec208 x1 x3 x6 x7 s = some r) : Ev X (D + 7) mm183 208 [some (.ref 24), some (.int x1), o2, some (.long x3), none, o5, some (.int x6), some (.int x7), o8, o9, o10] [] (mk s) (encV r) := by
  unfold b183_208 at h
  refine Ev.run (pc' := 210) (ls' := [some (.ref 24), some (.int x1), o2, some (.long x3), none, o5, some (.int x6), some (.int x7), o8, o9, o10]) (st' := [.int x7]) (h' := mk s) 1 rfl ?_
  refine Ev.if_le (t := 228) rfl rfl (fun hb => ?_) (fun hb => ?_)
  · have h := (if_pos hb).symm.trans h
    refine Ev.run (pc' := 232) (ls' := [some (.ref 24), some (.int x1), o2, some (.long x3), none, o5, some (.int x6), some (.int x7), o8, o9, o10]) (st' := [.int x6, .int x7]) (h' := mk s) 2 rfl ?_
    obtain ⟨hx, h⟩ := zif h
    refine Ev.step (pc' := 233) rfl (idiv_ok hx) ?_
    refine Ev.run (pc' := 238) (ls' := [some (.ref 24), some (.int x1), o2, some (.long x3), none, o5, some (.int x6), some (.int x7), some (.int ((x7 / x6) * x6)), o9, o10]) (st' := []) (h' := mk s) 3 rfl ?_
    exact k183_238 zF x1 x3 x6 x7 ((x7 / x6) * x6) s _ _ _ _ _ h
  · have h := (if_neg hb).symm.trans h
    refine Ev.run (pc' := 219) (ls' := [some (.ref 24), some (.int x1), o2, some (.long x3), none, o5, some (.int x6), some (.int x7), o8, o9, o10]) (st' := [.int (lg_cmp (zushrL x3 x7) (zl 0))]) (h' := mk s) 5 rfl ?_
    refine Ev.ifl_ne (t := 228) rfl rfl (fun hb => ?_) (fun hb => ?_)
    · have h := (if_pos hb).symm.trans h
      refine Ev.run (pc' := 232) (ls' := [some (.ref 24), some (.int x1), o2, some (.long x3), none, o5, some (.int x6), some (.int x7), o8, o9, o10]) (st' := [.int x6, .int x7]) (h' := mk s) 2 rfl ?_
      obtain ⟨hx, h⟩ := zif h
      refine Ev.step (pc' := 233) rfl (idiv_ok hx) ?_
      refine Ev.run (pc' := 238) (ls' := [some (.ref 24), some (.int x1), o2, some (.long x3), none, o5, some (.int x6), some (.int x7), some (.int ((x7 / x6) * x6)), o9, o10]) (st' := []) (h' := mk s) 3 rfl ?_
      exact k183_238 zF x1 x3 x6 x7 ((x7 / x6) * x6) s _ _ _ _ _ h
    · have h := (if_neg hb).symm.trans h
      refine Ev.run (pc' := 208) (ls' := [some (.ref 24), some (.int x1), o2, some (.long x3), none, o5, some (.int x6), some (.int (x7 + zi (-1))), o8, o9, o10]) (st' := []) (h' := mk s) 2 rfl ?_
      exact hrec208 x1 x3 x6 (x7 + zi (-1)) s _ _ _ _ _ _ h
def f183_208  : Nat → Int32 → Int64 → Int32 → Int32 → zS → Option (zS)
  | 0, _, _, _, _, _ => none
  | n + 1, x1, x3, x6, x7, s => b183_208 (f183_208 n) x1 x3 x6 x7 s
theorem k183_208 {X : mX} {D : Nat}   (n : Nat) : ∀ (x1 : Int32) (x3 : Int64) (x6 : Int32) (x7 : Int32) (s : zS) (r : zS) (o2 : Option Value) (o5 : Option Value) (o8 : Option Value) (o9 : Option Value) (o10 : Option Value), f183_208  n x1 x3 x6 x7 s = some r → Ev X (D + 7) mm183 208 [some (.ref 24), some (.int x1), o2, some (.long x3), none, o5, some (.int x6), some (.int x7), o8, o9, o10] [] (mk s) (encV r) := by
  induction n with
  | zero => intro x1 x3 x6 x7 s r o2 o5 o8 o9 o10  h; cases h
  | succ n ih => intro x1 x3 x6 x7 s r o2 o5 o8 o9 o10  h; exact kb183_208  ih x1 x3 x6 x7 s r o2 o5 o8 o9 o10  h
def f183_181  (x1 : Int32) (x3 : Int64) (x6 : Int32) (s : zS) : Option (zS) := if ¬ x1 = (zi 8) then f183_208 zF x1 x3 x6 (zi 63) s else if (r180 (s.1 24 15) (zi 2) s) = zi 0 then f183_208 zF x1 x3 x6 (zi 63) s else zb0 (f181 (zi 48) s) (fun s1 => f183_208 zF x1 x3 x6 (zi 63) s1)
theorem k183_181 {X : mX} {D : Nat}   (x1 : Int32) (x3 : Int64) (x6 : Int32) (s : zS) (r : zS) (o2 : Option Value) (o5 : Option Value) (o7 : Option Value) (o8 : Option Value) (o9 : Option Value) (o10 : Option Value)  (h : f183_181  x1 x3 x6 s = some r) : Ev X (D + 7) mm183 181 [some (.ref 24), some (.int x1), o2, some (.long x3), none, o5, some (.int x6), o7, o8, o9, o10] [] (mk s) (encV r) := by
  unfold f183_181 at h
  refine Ev.run (pc' := 184) (ls' := [some (.ref 24), some (.int x1), o2, some (.long x3), none, o5, some (.int x6), o7, o8, o9, o10]) (st' := [.int (zi 8), .int x1]) (h' := mk s) 2 rfl ?_
  refine Ev.icmp_ne (t := 204) rfl rfl (fun hb => ?_) (fun hb => ?_)
  · have h := (if_pos hb).symm.trans h
    refine Ev.run (pc' := 208) (ls' := [some (.ref 24), some (.int x1), o2, some (.long x3), none, o5, some (.int x6), some (.int (zi 63)), o8, o9, o10]) (st' := []) (h' := mk s) 2 rfl ?_
    exact k183_208 zF x1 x3 x6 (zi 63) s _ _ _ _ _ _ h
  · have h := (if_neg hb).symm.trans h
    refine Ev.run (pc' := 192) (ls' := [some (.ref 24), some (.int x1), o2, some (.long x3), none, o5, some (.int x6), o7, o8, o9, o10]) (st' := [.int (zi 2), .int (s.1 24 15)]) (h' := mk s) 3 rfl ?_
    refine Ev.call (M' := mm180) (v := some (.int (r180 (s.1 24 15) (zi 2) s))) (h' := mk s) rfl rfl rfl (Nat.le_of_ble_eq_true rfl) (k180 (x0 := (s.1 24 15)) (x1 := (zi 2)) (s := s)  rfl) ?_
    refine Ev.if_eq (t := 204) rfl rfl (fun hb => ?_) (fun hb => ?_)
    · have h := (if_pos hb).symm.trans h
      refine Ev.run (pc' := 208) (ls' := [some (.ref 24), some (.int x1), o2, some (.long x3), none, o5, some (.int x6), some (.int (zi 63)), o8, o9, o10]) (st' := []) (h' := mk s) 2 rfl ?_
      exact k183_208 zF x1 x3 x6 (zi 63) s _ _ _ _ _ _ h
    · have h := (if_neg hb).symm.trans h
      refine Ev.run (pc' := 201) (ls' := [some (.ref 24), some (.int x1), o2, some (.long x3), none, o5, some (.int x6), o7, o8, o9, o10]) (st' := [.int (zi 48), .ref 24]) (h' := mk s) 2 rfl ?_
      obtain ⟨s1, hq, h⟩ := zb0_some h
      refine Ev.call (M' := mm181) (v := none) (h' := mk s1) rfl rfl rfl (Nat.le_of_ble_eq_true rfl) (k181 hq) ?_
      refine Ev.run (pc' := 208) (ls' := [some (.ref 24), some (.int x1), o2, some (.long x3), none, o5, some (.int x6), some (.int (zi 63)), o8, o9, o10]) (st' := []) (h' := mk s1) 2 rfl ?_
      exact k183_208 zF x1 x3 x6 (zi 63) s1 _ _ _ _ _ _ h
def f183_163  (x1 : Int32) (x2 : Int32) (x3 : Int64) (x5 : Int32) (y0 : Int32) (s : zS) : Option (zS) := if x5 ≥ (zi 64) then f183_181 x1 x3 y0 s else f183_181 x1 (x3 &&& ((zshlL (zl 1) x5) - (zl 1))) y0 s
theorem k183_163 {X : mX} {D : Nat}   (x1 : Int32) (x2 : Int32) (x3 : Int64) (x5 : Int32) (y0 : Int32) (s : zS) (r : zS) (o6 : Option Value) (o7 : Option Value) (o8 : Option Value) (o9 : Option Value) (o10 : Option Value)  (h : f183_163  x1 x2 x3 x5 y0 s = some r) : Ev X (D + 7) mm183 163 [some (.ref 24), some (.int x1), some (.int x2), some (.long x3), none, some (.int x5), o6, o7, o8, o9, o10] [.int y0] (mk s) (encV r) := by
  unfold f183_163 at h
  refine Ev.run (pc' := 169) (ls' := [some (.ref 24), some (.int x1), some (.int x2), some (.long x3), none, some (.int x5), some (.int y0), o7, o8, o9, o10]) (st' := [.int (zi 64), .int x5]) (h' := mk s) 3 rfl ?_
  refine Ev.icmp_ge (t := 181) rfl rfl (fun hb => ?_) (fun hb => ?_)
  · have h := (if_pos hb).symm.trans h
    exact k183_181 x1 x3 y0 s _ _ _ _ _ _ _ h
  · have h := (if_neg hb).symm.trans h
    refine Ev.run (pc' := 181) (ls' := [some (.ref 24), some (.int x1), some (.int x2), some (.long (x3 &&& ((zshlL (zl 1) x5) - (zl 1)))), none, some (.int x5), some (.int y0), o7, o8, o9, o10]) (st' := []) (h' := mk s) 8 rfl ?_
    exact k183_181 x1 (x3 &&& ((zshlL (zl 1) x5) - (zl 1))) y0 s _ _ _ _ _ _ _ h
def f183_120 (rec85 : Int32 → Int64 → Int64 → zS → Option (zS)) (x5 : Int32) (x6 : Int64) (x8 : Int64) (y1 : Int32) (y2 : Int32) (s : zS) : Option (zS) := zb0 (f181 (y1 + y2) s) (fun s1 => rec85 x5 x6 (x8 / (zl 10)) s1)
theorem k183_120 {X : mX} {D : Nat} {rec85 : Int32 → Int64 → Int64 → zS → Option (zS)} (hrec85 : ∀ (x5 : Int32) (x6 : Int64) (x8 : Int64) (s : zS) (r : zS) (o1 : Option Value) (o2 : Option Value) (o3 : Option Value) (o4 : Option Value) (o10 : Option Value), rec85 x5 x6 x8 s = some r → Ev X (D + 7) mm183 85 [some (.ref 24), o1, o2, o3, o4, some (.int x5), some (.long x6), none, some (.long x8), none, o10] [] (mk s) (encV r)) (x5 : Int32) (x6 : Int64) (x8 : Int64) (y1 : Int32) (y2 : Int32) (s : zS) (r : zS) (o1 : Option Value) (o2 : Option Value) (o3 : Option Value) (o4 : Option Value) (o10 : Option Value)  (h : f183_120 rec85 x5 x6 x8 y1 y2 s = some r) : Ev X (D + 7) mm183 120 [some (.ref 24), o1, o2, o3, o4, some (.int x5), some (.long x6), none, some (.long x8), none, o10] [.int y2, .int y1, .ref 24] (mk s) (encV r) := by
  unfold f183_120 at h
  refine Ev.run (pc' := 121) (ls' := [some (.ref 24), o1, o2, o3, o4, some (.int x5), some (.long x6), none, some (.long x8), none, o10]) (st' := [.int (y1 + y2), .ref 24]) (h' := mk s) 1 rfl ?_
  obtain ⟨s1, hq, h⟩ := zb0_some h
  refine Ev.call (M' := mm181) (v := none) (h' := mk s1) rfl rfl rfl (Nat.le_of_ble_eq_true rfl) (k181 hq) ?_
  refine Ev.run (pc' := 85) (ls' := [some (.ref 24), o1, o2, o3, o4, some (.int x5), some (.long x6), none, some (.long (x8 / (zl 10))), none, o10]) (st' := []) (h' := mk s1) 5 rfl ?_
  exact hrec85 x5 x6 (x8 / (zl 10)) s1 _ _ _ _ _ _ h
def b183_85 (rec85 : Int32 → Int64 → Int64 → zS → Option (zS)) (x5 : Int32) (x6 : Int64) (x8 : Int64) (s : zS) : Option (zS) := if x8 ≤ (zl 0) then zb0 (f182 x5 (zi 0) (zi 1) s) (fun s1 => some s1) else if ¬ x8 = zl 0 then if (zL2I (zremL (x6 / x8) (zl 10))) ≥ zi 0 then f183_120 rec85 x5 x6 x8 (zi 48) (zL2I (zremL (x6 / x8) (zl 10))) s else f183_120 rec85 x5 x6 x8 (zi 48) (-(zL2I (zremL (x6 / x8) (zl 10)))) s else none
theorem kb183_85 {X : mX} {D : Nat} {rec85 : Int32 → Int64 → Int64 → zS → Option (zS)} (hrec85 : ∀ (x5 : Int32) (x6 : Int64) (x8 : Int64) (s : zS) (r : zS) (o1 : Option Value) (o2 : Option Value) (o3 : Option Value) (o4 : Option Value) (o10 : Option Value), rec85 x5 x6 x8 s = some r → Ev X (D + 7) mm183 85 [some (.ref 24), o1, o2, o3, o4, some (.int x5), some (.long x6), none, some (.long x8), none, o10] [] (mk s) (encV r)) (x5 : Int32) (x6 : Int64) (x8 : Int64) (s : zS) (r : zS) (o1 : Option Value) (o2 : Option Value) (o3 : Option Value) (o4 : Option Value) (o10 : Option Value)  (h : b183_85 rec85 x5 x6 x8 s = some r) : Ev X (D + 7) mm183 85 [some (.ref 24), o1, o2, o3, o4, some (.int x5), some (.long x6), none, some (.long x8), none, o10] [] (mk s) (encV r) := by
  unfold b183_85 at h
  refine Ev.run (pc' := 89) (ls' := [some (.ref 24), o1, o2, o3, o4, some (.int x5), some (.long x6), none, some (.long x8), none, o10]) (st' := [.int (lg_cmp x8 (zl 0))]) (h' := mk s) 3 rfl ?_
  refine Ev.ifl_le (t := 135) rfl rfl (fun hb => ?_) (fun hb => ?_)
  · have h := (if_pos hb).symm.trans h
    refine Ev.run (pc' := 140) (ls' := [some (.ref 24), o1, o2, o3, o4, some (.int x5), some (.long x6), none, some (.long x8), none, o10]) (st' := [.int (zi 1), .int (zi 0), .int x5, .ref 24]) (h' := mk s) 4 rfl ?_
    obtain ⟨s1, hq, h⟩ := zb0_some h
    refine Ev.call (M' := mm182) (v := none) (h' := mk s1) rfl rfl rfl (Nat.le_of_ble_eq_true rfl) (k182 hq) ?_
    cases h
    exact Ev.fin rfl rfl
  · have h := (if_neg hb).symm.trans h
    refine Ev.run (pc' := 96) (ls' := [some (.ref 24), o1, o2, o3, o4, some (.int x5), some (.long x6), none, some (.long x8), none, o10]) (st' := [.long x8, .long x6]) (h' := mk s) 2 rfl ?_
    obtain ⟨hx, h⟩ := zif h
    refine Ev.step (pc' := 97) rfl (ldiv_ok hx) ?_
    refine Ev.run (pc' := 109) (ls' := [some (.ref 24), o1, o2, o3, o4, some (.int x5), some (.long x6), none, some (.long x8), none, some (.int (zL2I (zremL (x6 / x8) (zl 10))))]) (st' := [.int (zL2I (zremL (x6 / x8) (zl 10))), .int (zi 48), .ref 24]) (h' := mk s) 7 rfl ?_
    refine Ev.if_ge (t := 118) rfl rfl (fun hb => ?_) (fun hb => ?_)
    · have h := (if_pos hb).symm.trans h
      refine Ev.run (pc' := 120) (ls' := [some (.ref 24), o1, o2, o3, o4, some (.int x5), some (.long x6), none, some (.long x8), none, some (.int (zL2I (zremL (x6 / x8) (zl 10))))]) (st' := [.int (zL2I (zremL (x6 / x8) (zl 10))), .int (zi 48), .ref 24]) (h' := mk s) 1 rfl ?_
      exact k183_120 hrec85 x5 x6 x8 (zi 48) (zL2I (zremL (x6 / x8) (zl 10))) s _ _ _ _ _ _ h
    · have h := (if_neg hb).symm.trans h
      refine Ev.run (pc' := 120) (ls' := [some (.ref 24), o1, o2, o3, o4, some (.int x5), some (.long x6), none, some (.long x8), none, some (.int (zL2I (zremL (x6 / x8) (zl 10))))]) (st' := [.int (-(zL2I (zremL (x6 / x8) (zl 10)))), .int (zi 48), .ref 24]) (h' := mk s) 3 rfl ?_
      exact k183_120 hrec85 x5 x6 x8 (zi 48) (-(zL2I (zremL (x6 / x8) (zl 10)))) s _ _ _ _ _ _ h
def f183_85  : Nat → Int32 → Int64 → Int64 → zS → Option (zS)
  | 0, _, _, _, _ => none
  | n + 1, x5, x6, x8, s => b183_85 (f183_85 n) x5 x6 x8 s
theorem k183_85 {X : mX} {D : Nat}   (n : Nat) : ∀ (x5 : Int32) (x6 : Int64) (x8 : Int64) (s : zS) (r : zS) (o1 : Option Value) (o2 : Option Value) (o3 : Option Value) (o4 : Option Value) (o10 : Option Value), f183_85  n x5 x6 x8 s = some r → Ev X (D + 7) mm183 85 [some (.ref 24), o1, o2, o3, o4, some (.int x5), some (.long x6), none, some (.long x8), none, o10] [] (mk s) (encV r) := by
  induction n with
  | zero => intro x5 x6 x8 s r o1 o2 o3 o4 o10  h; cases h
  | succ n ih => intro x5 x6 x8 s r o1 o2 o3 o4 o10  h; exact kb183_85  ih x5 x6 x8 s r o1 o2 o3 o4 o10  h
def b183_50 (rec50 : Int32 → Int64 → Int64 → zS → Option (zS)) (x5 : Int32) (x6 : Int64) (x8 : Int64) (s : zS) : Option (zS) := if ¬ x8 = zl 0 then if (x6 / x8) > (zl 9) then rec50 x5 x6 (x8 * (zl 10)) s else if ¬ x8 = zl 0 then if (x6 / x8) ≥ (zl (-9)) then f183_85 zF x5 x6 x8 s else rec50 x5 x6 (x8 * (zl 10)) s else none else none
theorem kb183_50 {X : mX} {D : Nat} {rec50 : Int32 → Int64 → Int64 → zS → Option (zS)} (hrec50 : ∀ (x5 : Int32) (x6 : Int64) (x8 : Int64) (s : zS) (r : zS) (o1 : Option Value) (o2 : Option Value) (o3 : Option Value) (o4 : Option Value) (o10 : Option Value), rec50 x5 x6 x8 s = some r → Ev X (D + 7) mm183 50 [some (.ref 24), o1, o2, o3, o4, some (.int x5), some (.long x6), none, some (.long x8), none, o10] [] (mk s) (encV r)) (x5 : Int32) (x6 : Int64) (x8 : Int64) (s : zS) (r : zS) (o1 : Option Value) (o2 : Option Value) (o3 : Option Value) (o4 : Option Value) (o10 : Option Value)  (h : b183_50 rec50 x5 x6 x8 s = some r) : Ev X (D + 7) mm183 50 [some (.ref 24), o1, o2, o3, o4, some (.int x5), some (.long x6), none, some (.long x8), none, o10] [] (mk s) (encV r) := by
  unfold b183_50 at h
  refine Ev.run (pc' := 54) (ls' := [some (.ref 24), o1, o2, o3, o4, some (.int x5), some (.long x6), none, some (.long x8), none, o10]) (st' := [.long x8, .long x6]) (h' := mk s) 2 rfl ?_
  obtain ⟨hx, h⟩ := zif h
  refine Ev.step (pc' := 55) rfl (ldiv_ok hx) ?_
  refine Ev.run (pc' := 59) (ls' := [some (.ref 24), o1, o2, o3, o4, some (.int x5), some (.long x6), none, some (.long x8), none, o10]) (st' := [.int (lg_cmp (x6 / x8) (zl 9))]) (h' := mk s) 2 rfl ?_
  refine Ev.ifl_gt (t := 74) rfl rfl (fun hb => ?_) (fun hb => ?_)
  · have h := (if_pos hb).symm.trans h
    refine Ev.run (pc' := 50) (ls' := [some (.ref 24), o1, o2, o3, o4, some (.int x5), some (.long x6), none, some (.long (x8 * (zl 10))), none, o10]) (st' := []) (h' := mk s) 5 rfl ?_
    exact hrec50 x5 x6 (x8 * (zl 10)) s _ _ _ _ _ _ h
  · have h := (if_neg hb).symm.trans h
    refine Ev.run (pc' := 66) (ls' := [some (.ref 24), o1, o2, o3, o4, some (.int x5), some (.long x6), none, some (.long x8), none, o10]) (st' := [.long x8, .long x6]) (h' := mk s) 2 rfl ?_
    obtain ⟨hx, h⟩ := zif h
    refine Ev.step (pc' := 67) rfl (ldiv_ok hx) ?_
    refine Ev.run (pc' := 71) (ls' := [some (.ref 24), o1, o2, o3, o4, some (.int x5), some (.long x6), none, some (.long x8), none, o10]) (st' := [.int (lg_cmp (x6 / x8) (zl (-9)))]) (h' := mk s) 2 rfl ?_
    refine Ev.ifl_ge (t := 85) rfl rfl (fun hb => ?_) (fun hb => ?_)
    · have h := (if_pos hb).symm.trans h
      exact k183_85 zF x5 x6 x8 s _ _ _ _ _ _ h
    · have h := (if_neg hb).symm.trans h
      refine Ev.run (pc' := 50) (ls' := [some (.ref 24), o1, o2, o3, o4, some (.int x5), some (.long x6), none, some (.long (x8 * (zl 10))), none, o10]) (st' := []) (h' := mk s) 5 rfl ?_
      exact hrec50 x5 x6 (x8 * (zl 10)) s _ _ _ _ _ _ h
def f183_50  : Nat → Int32 → Int64 → Int64 → zS → Option (zS)
  | 0, _, _, _, _ => none
  | n + 1, x5, x6, x8, s => b183_50 (f183_50 n) x5 x6 x8 s
theorem k183_50 {X : mX} {D : Nat}   (n : Nat) : ∀ (x5 : Int32) (x6 : Int64) (x8 : Int64) (s : zS) (r : zS) (o1 : Option Value) (o2 : Option Value) (o3 : Option Value) (o4 : Option Value) (o10 : Option Value), f183_50  n x5 x6 x8 s = some r → Ev X (D + 7) mm183 50 [some (.ref 24), o1, o2, o3, o4, some (.int x5), some (.long x6), none, some (.long x8), none, o10] [] (mk s) (encV r) := by
  induction n with
  | zero => intro x5 x6 x8 s r o1 o2 o3 o4 o10  h; cases h
  | succ n ih => intro x5 x6 x8 s r o1 o2 o3 o4 o10  h; exact kb183_50  ih x5 x6 x8 s r o1 o2 o3 o4 o10  h
def f183  (x1 : Int32) (s : zS) : Option (zS) := if mIx (s.1 24 35) 24 then if mIx (s.1 24 35) 24 then if ¬ x1 = (zi 10) then if ¬ x1 = (zi 8) then f183_163 x1 (s.1 29 ((s.1 24 35).toNatClampNeg)) (s.2.1 31 ((s.1 24 35).toNatClampNeg)) (zshl (zi 8) ((s.1 29 ((s.1 24 35).toNatClampNeg)) - (zi 3))) (zi 4) (setI s 24 33 (zi 0)) else f183_163 x1 (s.1 29 ((s.1 24 35).toNatClampNeg)) (s.2.1 31 ((s.1 24 35).toNatClampNeg)) (zshl (zi 8) ((s.1 29 ((s.1 24 35).toNatClampNeg)) - (zi 3))) (zi 3) (setI s 24 33 (zi 0)) else if (s.2.1 31 ((s.1 24 35).toNatClampNeg)) ≥ (zl 0) then f183_50 zF (zi 0) (s.2.1 31 ((s.1 24 35).toNatClampNeg)) (zl 1) (setI s 24 33 (zi 0)) else f183_50 zF (zi 1) (s.2.1 31 ((s.1 24 35).toNatClampNeg)) (zl 1) (setI s 24 33 (zi 0)) else none else none
theorem k183 {X : mX} {D : Nat} {x1 : Int32} {s : zS} {r : zS}  (h : f183 x1 s = some r) : Ev X (D + 7) mm183 0 [some (.ref 24), some (.int x1), none, none, none, none, none, none, none, none, none] [] (mk s) (encV r) := by
  unfold f183 at h
  refine Ev.run (pc' := 8) (ls' := [some (.ref 24), some (.int x1), none, none, none, none, none, none, none, none, none]) (st' := [.int (s.1 24 35), .ref 29]) (h' := mk s) 4 rfl ?_
  obtain ⟨hx, h⟩ := zif h
  refine Ev.step (pc' := 9) rfl (ald_i rfl hx) ?_
  refine Ev.run (pc' := 18) (ls' := [some (.ref 24), some (.int x1), some (.int (s.1 29 ((s.1 24 35).toNatClampNeg))), none, none, none, none, none, none, none, none]) (st' := [.int (s.1 24 35), .ref 31]) (h' := mk s) 5 rfl ?_
  obtain ⟨hx, h⟩ := zif h
  refine Ev.step (pc' := 19) rfl (ald_l rfl hx) ?_
  refine Ev.run (pc' := 22) (ls' := [some (.ref 24), some (.int x1), some (.int (s.1 29 ((s.1 24 35).toNatClampNeg))), some (.long (s.2.1 31 ((s.1 24 35).toNatClampNeg))), none, none, none, none, none, none, none]) (st' := [.int (zi 0), .ref 24]) (h' := mk s) 3 rfl ?_
  refine Ev.step (pc' := 25) rfl (put_12_33 rfl) ?_
  refine Ev.run (pc' := 28) (ls' := [some (.ref 24), some (.int x1), some (.int (s.1 29 ((s.1 24 35).toNatClampNeg))), some (.long (s.2.1 31 ((s.1 24 35).toNatClampNeg))), none, none, none, none, none, none, none]) (st' := [.int (zi 10), .int x1]) (h' := mk (setI s 24 33 (zi 0))) 2 rfl ?_
  refine Ev.icmp_ne (t := 144) rfl rfl (fun hb => ?_) (fun hb => ?_)
  · have h := (if_pos hb).symm.trans h
    refine Ev.run (pc' := 155) (ls' := [some (.ref 24), some (.int x1), some (.int (s.1 29 ((s.1 24 35).toNatClampNeg))), some (.long (s.2.1 31 ((s.1 24 35).toNatClampNeg))), none, some (.int (zshl (zi 8) ((s.1 29 ((s.1 24 35).toNatClampNeg)) - (zi 3)))), none, none, none, none, none]) (st' := [.int (zi 8), .int x1]) (h' := mk (setI s 24 33 (zi 0))) 8 rfl ?_
    refine Ev.icmp_ne (t := 162) rfl rfl (fun hb => ?_) (fun hb => ?_)
    · have h := (if_pos hb).symm.trans h
      refine Ev.run (pc' := 163) (ls' := [some (.ref 24), some (.int x1), some (.int (s.1 29 ((s.1 24 35).toNatClampNeg))), some (.long (s.2.1 31 ((s.1 24 35).toNatClampNeg))), none, some (.int (zshl (zi 8) ((s.1 29 ((s.1 24 35).toNatClampNeg)) - (zi 3)))), none, none, none, none, none]) (st' := [.int (zi 4)]) (h' := mk (setI s 24 33 (zi 0))) 1 rfl ?_
      exact k183_163 x1 (s.1 29 ((s.1 24 35).toNatClampNeg)) (s.2.1 31 ((s.1 24 35).toNatClampNeg)) (zshl (zi 8) ((s.1 29 ((s.1 24 35).toNatClampNeg)) - (zi 3))) (zi 4) (setI s 24 33 (zi 0)) _ _ _ _ _ _ h
    · have h := (if_neg hb).symm.trans h
      refine Ev.run (pc' := 163) (ls' := [some (.ref 24), some (.int x1), some (.int (s.1 29 ((s.1 24 35).toNatClampNeg))), some (.long (s.2.1 31 ((s.1 24 35).toNatClampNeg))), none, some (.int (zshl (zi 8) ((s.1 29 ((s.1 24 35).toNatClampNeg)) - (zi 3)))), none, none, none, none, none]) (st' := [.int (zi 3)]) (h' := mk (setI s 24 33 (zi 0))) 2 rfl ?_
      exact k183_163 x1 (s.1 29 ((s.1 24 35).toNatClampNeg)) (s.2.1 31 ((s.1 24 35).toNatClampNeg)) (zshl (zi 8) ((s.1 29 ((s.1 24 35).toNatClampNeg)) - (zi 3))) (zi 3) (setI s 24 33 (zi 0)) _ _ _ _ _ _ h
  · have h := (if_neg hb).symm.trans h
    refine Ev.run (pc' := 34) (ls' := [some (.ref 24), some (.int x1), some (.int (s.1 29 ((s.1 24 35).toNatClampNeg))), some (.long (s.2.1 31 ((s.1 24 35).toNatClampNeg))), none, none, none, none, none, none, none]) (st' := [.int (lg_cmp (s.2.1 31 ((s.1 24 35).toNatClampNeg)) (zl 0))]) (h' := mk (setI s 24 33 (zi 0))) 3 rfl ?_
    refine Ev.ifl_ge (t := 41) rfl rfl (fun hb => ?_) (fun hb => ?_)
    · have h := (if_pos hb).symm.trans h
      refine Ev.run (pc' := 50) (ls' := [some (.ref 24), some (.int x1), some (.int (s.1 29 ((s.1 24 35).toNatClampNeg))), some (.long (s.2.1 31 ((s.1 24 35).toNatClampNeg))), none, some (.int (zi 0)), some (.long (s.2.1 31 ((s.1 24 35).toNatClampNeg))), none, some (.long (zl 1)), none, none]) (st' := []) (h' := mk (setI s 24 33 (zi 0))) 6 rfl ?_
      exact k183_50 zF (zi 0) (s.2.1 31 ((s.1 24 35).toNatClampNeg)) (zl 1) (setI s 24 33 (zi 0)) _ _ _ _ _ _ h
    · have h := (if_neg hb).symm.trans h
      refine Ev.run (pc' := 50) (ls' := [some (.ref 24), some (.int x1), some (.int (s.1 29 ((s.1 24 35).toNatClampNeg))), some (.long (s.2.1 31 ((s.1 24 35).toNatClampNeg))), none, some (.int (zi 1)), some (.long (s.2.1 31 ((s.1 24 35).toNatClampNeg))), none, some (.long (zl 1)), none, none]) (st' := []) (h' := mk (setI s 24 33 (zi 0))) 7 rfl ?_
      exact k183_50 zF (zi 1) (s.2.1 31 ((s.1 24 35).toNatClampNeg)) (zl 1) (setI s 24 33 (zi 0)) _ _ _ _ _ _ h
/-! 188 FModel.hex(J)V -/
def f188_419  (x9 : Int32) (s : zS) : Option (zS) := zb0 (f181 ((zi 48) + (zrem x9 (zi 10))) s) (fun s1 => some s1)
theorem k188_419 {X : mX} {D : Nat}   (x9 : Int32) (s : zS) (r : zS) (o1 : Option Value) (o2 : Option Value) (o3 : Option Value) (o4 : Option Value) (o5 : Option Value) (o6 : Option Value) (o7 : Option Value) (o8 : Option Value) (o10 : Option Value) (o11 : Option Value) (o12 : Option Value) (o13 : Option Value) (o14 : Option Value) (o15 : Option Value)  (h : f188_419  x9 s = some r) : Ev X (D + 1) mm188 419 [some (.ref 24), o1, o2, o3, o4, o5, o6, o7, o8, some (.int x9), o10, o11, o12, o13, o14, o15] [] (mk s) (encV r) := by
  unfold f188_419 at h
  refine Ev.run (pc' := 428) (ls' := [some (.ref 24), o1, o2, o3, o4, o5, o6, o7, o8, some (.int x9), o10, o11, o12, o13, o14, o15]) (st' := [.int ((zi 48) + (zrem x9 (zi 10))), .ref 24]) (h' := mk s) 6 rfl ?_
  obtain ⟨s1, hq, h⟩ := zb0_some h
  refine Ev.call (M' := mm181) (v := none) (h' := mk s1) rfl rfl rfl (Nat.le_of_ble_eq_true rfl) (k181 hq) ?_
  cases h
  exact Ev.fin rfl rfl
def f188_397  (x9 : Int32) (s : zS) : Option (zS) := if x9 ≤ (zi 9) then f188_419 x9 s else zb0 (f181 ((zi 48) + (zrem (x9 / (zi 10)) (zi 10))) s) (fun s1 => f188_419 x9 s1)
theorem k188_397 {X : mX} {D : Nat}   (x9 : Int32) (s : zS) (r : zS) (o1 : Option Value) (o2 : Option Value) (o3 : Option Value) (o4 : Option Value) (o5 : Option Value) (o6 : Option Value) (o7 : Option Value) (o8 : Option Value) (o10 : Option Value) (o11 : Option Value) (o12 : Option Value) (o13 : Option Value) (o14 : Option Value) (o15 : Option Value)  (h : f188_397  x9 s = some r) : Ev X (D + 1) mm188 397 [some (.ref 24), o1, o2, o3, o4, o5, o6, o7, o8, some (.int x9), o10, o11, o12, o13, o14, o15] [] (mk s) (encV r) := by
  unfold f188_397 at h
  refine Ev.run (pc' := 401) (ls' := [some (.ref 24), o1, o2, o3, o4, o5, o6, o7, o8, some (.int x9), o10, o11, o12, o13, o14, o15]) (st' := [.int (zi 9), .int x9]) (h' := mk s) 2 rfl ?_
  refine Ev.icmp_le (t := 419) rfl rfl (fun hb => ?_) (fun hb => ?_)
  · have h := (if_pos hb).symm.trans h
    exact k188_419 x9 s _ _ _ _ _ _ _ _ _ _ _ _ _ _ _ h
  · have h := (if_neg hb).symm.trans h
    refine Ev.run (pc' := 416) (ls' := [some (.ref 24), o1, o2, o3, o4, o5, o6, o7, o8, some (.int x9), o10, o11, o12, o13, o14, o15]) (st' := [.int ((zi 48) + (zrem (x9 / (zi 10)) (zi 10))), .ref 24]) (h' := mk s) 8 rfl ?_
    obtain ⟨s1, hq, h⟩ := zb0_some h
    refine Ev.call (M' := mm181) (v := none) (h' := mk s1) rfl rfl rfl (Nat.le_of_ble_eq_true rfl) (k181 hq) ?_
    exact k188_419 x9 s1 _ _ _ _ _ _ _ _ _ _ _ _ _ _ _ h
def f188_375  (x9 : Int32) (s : zS) : Option (zS) := if x9 ≤ (zi 99) then f188_397 x9 s else zb0 (f181 ((zi 48) + (zrem (x9 / (zi 100)) (zi 10))) s) (fun s1 => f188_397 x9 s1)
theorem k188_375 {X : mX} {D : Nat}   (x9 : Int32) (s : zS) (r : zS) (o1 : Option Value) (o2 : Option Value) (o3 : Option Value) (o4 : Option Value) (o5 : Option Value) (o6 : Option Value) (o7 : Option Value) (o8 : Option Value) (o10 : Option Value) (o11 : Option Value) (o12 : Option Value) (o13 : Option Value) (o14 : Option Value) (o15 : Option Value)  (h : f188_375  x9 s = some r) : Ev X (D + 1) mm188 375 [some (.ref 24), o1, o2, o3, o4, o5, o6, o7, o8, some (.int x9), o10, o11, o12, o13, o14, o15] [] (mk s) (encV r) := by
  unfold f188_375 at h
  refine Ev.run (pc' := 379) (ls' := [some (.ref 24), o1, o2, o3, o4, o5, o6, o7, o8, some (.int x9), o10, o11, o12, o13, o14, o15]) (st' := [.int (zi 99), .int x9]) (h' := mk s) 2 rfl ?_
  refine Ev.icmp_le (t := 397) rfl rfl (fun hb => ?_) (fun hb => ?_)
  · have h := (if_pos hb).symm.trans h
    exact k188_397 x9 s _ _ _ _ _ _ _ _ _ _ _ _ _ _ _ h
  · have h := (if_neg hb).symm.trans h
    refine Ev.run (pc' := 394) (ls' := [some (.ref 24), o1, o2, o3, o4, o5, o6, o7, o8, some (.int x9), o10, o11, o12, o13, o14, o15]) (st' := [.int ((zi 48) + (zrem (x9 / (zi 100)) (zi 10))), .ref 24]) (h' := mk s) 8 rfl ?_
    obtain ⟨s1, hq, h⟩ := zb0_some h
    refine Ev.call (M' := mm181) (v := none) (h' := mk s1) rfl rfl rfl (Nat.le_of_ble_eq_true rfl) (k181 hq) ?_
    exact k188_397 x9 s1 _ _ _ _ _ _ _ _ _ _ _ _ _ _ _ h
def f188_352  (x8 : Int32) (y0 : Int32) (s : zS) : Option (zS) := if y0 ≤ (zi 999) then f188_375 y0 s else zb0 (f181 ((zi 48) + (y0 / (zi 1000))) s) (fun s1 => f188_375 y0 s1)
theorem k188_352 {X : mX} {D : Nat}   (x8 : Int32) (y0 : Int32) (s : zS) (r : zS) (o1 : Option Value) (o2 : Option Value) (o3 : Option Value) (o4 : Option Value) (o5 : Option Value) (o6 : Option Value) (o7 : Option Value) (o9 : Option Value) (o10 : Option Value) (o11 : Option Value) (o12 : Option Value) (o13 : Option Value) (o14 : Option Value) (o15 : Option Value)  (h : f188_352  x8 y0 s = some r) : Ev X (D + 1) mm188 352 [some (.ref 24), o1, o2, o3, o4, o5, o6, o7, some (.int x8), o9, o10, o11, o12, o13, o14, o15] [.int y0] (mk s) (encV r) := by
  unfold f188_352 at h
  refine Ev.run (pc' := 359) (ls' := [some (.ref 24), o1, o2, o3, o4, o5, o6, o7, some (.int x8), some (.int y0), o10, o11, o12, o13, o14, o15]) (st' := [.int (zi 999), .int y0]) (h' := mk s) 3 rfl ?_
  refine Ev.icmp_le (t := 375) rfl rfl (fun hb => ?_) (fun hb => ?_)
  · have h := (if_pos hb).symm.trans h
    exact k188_375 y0 s _ _ _ _ _ _ _ _ _ _ _ _ _ _ _ h
  · have h := (if_neg hb).symm.trans h
    refine Ev.run (pc' := 372) (ls' := [some (.ref 24), o1, o2, o3, o4, o5, o6, o7, some (.int x8), some (.int y0), o10, o11, o12, o13, o14, o15]) (st' := [.int ((zi 48) + (y0 / (zi 1000))), .ref 24]) (h' := mk s) 6 rfl ?_
    obtain ⟨s1, hq, h⟩ := zb0_some h
    refine Ev.call (M' := mm181) (v := none) (h' := mk s1) rfl rfl rfl (Nat.le_of_ble_eq_true rfl) (k181 hq) ?_
    exact k188_375 y0 s1 _ _ _ _ _ _ _ _ _ _ _ _ _ _ _ h
def f188_339  (x8 : Int32) (s : zS) : Option (zS) := if x8 ≥ zi 0 then f188_352 x8 x8 s else f188_352 x8 (-x8) s
theorem k188_339 {X : mX} {D : Nat}   (x8 : Int32) (s : zS) (r : zS) (o1 : Option Value) (o2 : Option Value) (o3 : Option Value) (o4 : Option Value) (o5 : Option Value) (o6 : Option Value) (o7 : Option Value) (o9 : Option Value) (o10 : Option Value) (o11 : Option Value) (o12 : Option Value) (o13 : Option Value) (o14 : Option Value) (o15 : Option Value)  (h : f188_339  x8 s = some r) : Ev X (D + 1) mm188 339 [some (.ref 24), o1, o2, o3, o4, o5, o6, o7, some (.int x8), o9, o10, o11, o12, o13, o14, o15] [] (mk s) (encV r) := by
  unfold f188_339 at h
  refine Ev.run (pc' := 341) (ls' := [some (.ref 24), o1, o2, o3, o4, o5, o6, o7, some (.int x8), o9, o10, o11, o12, o13, o14, o15]) (st' := [.int x8]) (h' := mk s) 1 rfl ?_
  refine Ev.if_ge (t := 350) rfl rfl (fun hb => ?_) (fun hb => ?_)
  · have h := (if_pos hb).symm.trans h
    refine Ev.run (pc' := 352) (ls' := [some (.ref 24), o1, o2, o3, o4, o5, o6, o7, some (.int x8), o9, o10, o11, o12, o13, o14, o15]) (st' := [.int x8]) (h' := mk s) 1 rfl ?_
    exact k188_352 x8 x8 s _ _ _ _ _ _ _ _ _ _ _ _ _ _ _ h
  · have h := (if_neg hb).symm.trans h
    refine Ev.run (pc' := 352) (ls' := [some (.ref 24), o1, o2, o3, o4, o5, o6, o7, some (.int x8), o9, o10, o11, o12, o13, o14, o15]) (st' := [.int (-x8)]) (h' := mk s) 3 rfl ?_
    exact k188_352 x8 (-x8) s _ _ _ _ _ _ _ _ _ _ _ _ _ _ _ h
def f188_313 (rec255 : Int32 → Int64 → Int32 → Int32 → zS → Option (zS)) (x4 : Int32) (x5 : Int64) (x8 : Int32) (x9 : Int32) (y1 : Int32) (s : zS) : Option (zS) := zb0 (f181 y1 s) (fun s1 => rec255 x4 x5 x8 (x9 + zi 1) s1)
theorem k188_313 {X : mX} {D : Nat} {rec255 : Int32 → Int64 → Int32 → Int32 → zS → Option (zS)} (hrec255 : ∀ (x4 : Int32) (x5 : Int64) (x8 : Int32) (x9 : Int32) (s : zS) (r : zS) (o1 : Option Value) (o2 : Option Value) (o3 : Option Value) (o7 : Option Value) (o10 : Option Value) (o11 : Option Value) (o12 : Option Value) (o13 : Option Value) (o14 : Option Value) (o15 : Option Value), rec255 x4 x5 x8 x9 s = some r → Ev X (D + 1) mm188 255 [some (.ref 24), o1, o2, o3, some (.int x4), some (.long x5), none, o7, some (.int x8), some (.int x9), o10, o11, o12, o13, o14, o15] [] (mk s) (encV r)) (x4 : Int32) (x5 : Int64) (x8 : Int32) (x9 : Int32) (y1 : Int32) (s : zS) (r : zS) (o1 : Option Value) (o2 : Option Value) (o3 : Option Value) (o7 : Option Value) (o10 : Option Value) (o11 : Option Value) (o12 : Option Value) (o13 : Option Value) (o14 : Option Value) (o15 : Option Value)  (h : f188_313 rec255 x4 x5 x8 x9 y1 s = some r) : Ev X (D + 1) mm188 313 [some (.ref 24), o1, o2, o3, some (.int x4), some (.long x5), none, o7, some (.int x8), some (.int x9), o10, o11, o12, o13, o14, o15] [.int y1, .ref 24] (mk s) (encV r) := by
  unfold f188_313 at h
  obtain ⟨s1, hq, h⟩ := zb0_some h
  refine Ev.call (M' := mm181) (v := none) (h' := mk s1) rfl rfl rfl (Nat.le_of_ble_eq_true rfl) (k181 hq) ?_
  refine Ev.run (pc' := 255) (ls' := [some (.ref 24), o1, o2, o3, some (.int x4), some (.long x5), none, o7, some (.int x8), some (.int (x9 + zi 1)), o10, o11, o12, o13, o14, o15]) (st' := []) (h' := mk s1) 2 rfl ?_
  exact hrec255 x4 x5 x8 (x9 + zi 1) s1 _ _ _ _ _ _ _ _ _ _ _ h
def f188_287 (rec255 : Int32 → Int64 → Int32 → Int32 → zS → Option (zS)) (x4 : Int32) (x5 : Int64) (x8 : Int32) (x9 : Int32) (y0 : Int32) (s : zS) : Option (zS) := if y0 ≥ (zi 10) then f188_313 rec255 x4 x5 x8 x9 (((zi 97) + y0) - (zi 10)) s else f188_313 rec255 x4 x5 x8 x9 ((zi 48) + y0) s
theorem k188_287 {X : mX} {D : Nat} {rec255 : Int32 → Int64 → Int32 → Int32 → zS → Option (zS)} (hrec255 : ∀ (x4 : Int32) (x5 : Int64) (x8 : Int32) (x9 : Int32) (s : zS) (r : zS) (o1 : Option Value) (o2 : Option Value) (o3 : Option Value) (o7 : Option Value) (o10 : Option Value) (o11 : Option Value) (o12 : Option Value) (o13 : Option Value) (o14 : Option Value) (o15 : Option Value), rec255 x4 x5 x8 x9 s = some r → Ev X (D + 1) mm188 255 [some (.ref 24), o1, o2, o3, some (.int x4), some (.long x5), none, o7, some (.int x8), some (.int x9), o10, o11, o12, o13, o14, o15] [] (mk s) (encV r)) (x4 : Int32) (x5 : Int64) (x8 : Int32) (x9 : Int32) (y0 : Int32) (s : zS) (r : zS) (o1 : Option Value) (o2 : Option Value) (o3 : Option Value) (o7 : Option Value) (o10 : Option Value) (o11 : Option Value) (o12 : Option Value) (o13 : Option Value) (o14 : Option Value) (o15 : Option Value)  (h : f188_287 rec255 x4 x5 x8 x9 y0 s = some r) : Ev X (D + 1) mm188 287 [some (.ref 24), o1, o2, o3, some (.int x4), some (.long x5), none, o7, some (.int x8), some (.int x9), o10, o11, o12, o13, o14, o15] [.int y0] (mk s) (encV r) := by
  unfold f188_287 at h
  refine Ev.run (pc' := 294) (ls' := [some (.ref 24), o1, o2, o3, some (.int x4), some (.long x5), none, o7, some (.int x8), some (.int x9), some (.int y0), o11, o12, o13, o14, o15]) (st' := [.int (zi 10), .int y0, .ref 24]) (h' := mk s) 4 rfl ?_
  refine Ev.icmp_ge (t := 305) rfl rfl (fun hb => ?_) (fun hb => ?_)
  · have h := (if_pos hb).symm.trans h
    refine Ev.run (pc' := 313) (ls' := [some (.ref 24), o1, o2, o3, some (.int x4), some (.long x5), none, o7, some (.int x8), some (.int x9), some (.int y0), o11, o12, o13, o14, o15]) (st' := [.int (((zi 97) + y0) - (zi 10)), .ref 24]) (h' := mk s) 5 rfl ?_
    exact k188_313 hrec255 x4 x5 x8 x9 (((zi 97) + y0) - (zi 10)) s _ _ _ _ _ _ _ _ _ _ _ h
  · have h := (if_neg hb).symm.trans h
    refine Ev.run (pc' := 313) (ls' := [some (.ref 24), o1, o2, o3, some (.int x4), some (.long x5), none, o7, some (.int x8), some (.int x9), some (.int y0), o11, o12, o13, o14, o15]) (st' := [.int ((zi 48) + y0), .ref 24]) (h' := mk s) 4 rfl ?_
    exact k188_313 hrec255 x4 x5 x8 x9 ((zi 48) + y0) s _ _ _ _ _ _ _ _ _ _ _ h
def b188_255 (rec255 : Int32 → Int64 → Int32 → Int32 → zS → Option (zS)) (x4 : Int32) (x5 : Int64) (x8 : Int32) (x9 : Int32) (s : zS) : Option (zS) := if x9 > x4 then zb0 (f181 (zi 112) s) (fun s1 => if x8 ≥ zi 0 then f188_339 x8 s1 else zb0 (f181 (zi 45) s1) (fun s2 => f188_339 x8 s2)) else if x9 ≤ (zi 13) then f188_287 rec255 x4 x5 x8 x9 ((zL2I (zshrL x5 ((zi 52) - ((zi 4) * x9)))) &&& (zi 15)) s else f188_287 rec255 x4 x5 x8 x9 (zi 0) s
theorem kb188_255 {X : mX} {D : Nat} {rec255 : Int32 → Int64 → Int32 → Int32 → zS → Option (zS)} (hrec255 : ∀ (x4 : Int32) (x5 : Int64) (x8 : Int32) (x9 : Int32) (s : zS) (r : zS) (o1 : Option Value) (o2 : Option Value) (o3 : Option Value) (o7 : Option Value) (o10 : Option Value) (o11 : Option Value) (o12 : Option Value) (o13 : Option Value) (o14 : Option Value) (o15 : Option Value), rec255 x4 x5 x8 x9 s = some r → Ev X (D + 1) mm188 255 [some (.ref 24), o1, o2, o3, some (.int x4), some (.long x5), none, o7, some (.int x8), some (.int x9), o10, o11, o12, o13, o14, o15] [] (mk s) (encV r)) (x4 : Int32) (x5 : Int64) (x8 : Int32) (x9 : Int32) (s : zS) (r : zS) (o1 : Option Value) (o2 : Option Value) (o3 : Option Value) (o7 : Option Value) (o10 : Option Value) (o11 : Option Value) (o12 : Option Value) (o13 : Option Value) (o14 : Option Value) (o15 : Option Value)  (h : b188_255 rec255 x4 x5 x8 x9 s = some r) : Ev X (D + 1) mm188 255 [some (.ref 24), o1, o2, o3, some (.int x4), some (.long x5), none, o7, some (.int x8), some (.int x9), o10, o11, o12, o13, o14, o15] [] (mk s) (encV r) := by
  unfold b188_255 at h
  refine Ev.run (pc' := 259) (ls' := [some (.ref 24), o1, o2, o3, some (.int x4), some (.long x5), none, o7, some (.int x8), some (.int x9), o10, o11, o12, o13, o14, o15]) (st' := [.int x4, .int x9]) (h' := mk s) 2 rfl ?_
  refine Ev.icmp_gt (t := 322) rfl rfl (fun hb => ?_) (fun hb => ?_)
  · have h := (if_pos hb).symm.trans h
    refine Ev.run (pc' := 325) (ls' := [some (.ref 24), o1, o2, o3, some (.int x4), some (.long x5), none, o7, some (.int x8), some (.int x9), o10, o11, o12, o13, o14, o15]) (st' := [.int (zi 112), .ref 24]) (h' := mk s) 2 rfl ?_
    obtain ⟨s1, hq, h⟩ := zb0_some h
    refine Ev.call (M' := mm181) (v := none) (h' := mk s1) rfl rfl rfl (Nat.le_of_ble_eq_true rfl) (k181 hq) ?_
    refine Ev.run (pc' := 330) (ls' := [some (.ref 24), o1, o2, o3, some (.int x4), some (.long x5), none, o7, some (.int x8), some (.int x9), o10, o11, o12, o13, o14, o15]) (st' := [.int x8]) (h' := mk s1) 1 rfl ?_
    refine Ev.if_ge (t := 339) rfl rfl (fun hb => ?_) (fun hb => ?_)
    · have h := (if_pos hb).symm.trans h
      exact k188_339 x8 s1 _ _ _ _ _ _ _ _ _ _ _ _ _ _ _ h
    · have h := (if_neg hb).symm.trans h
      refine Ev.run (pc' := 336) (ls' := [some (.ref 24), o1, o2, o3, some (.int x4), some (.long x5), none, o7, some (.int x8), some (.int x9), o10, o11, o12, o13, o14, o15]) (st' := [.int (zi 45), .ref 24]) (h' := mk s1) 2 rfl ?_
      obtain ⟨s2, hq, h⟩ := zb0_some h
      refine Ev.call (M' := mm181) (v := none) (h' := mk s2) rfl rfl rfl (Nat.le_of_ble_eq_true rfl) (k181 hq) ?_
      exact k188_339 x8 s2 _ _ _ _ _ _ _ _ _ _ _ _ _ _ _ h
  · have h := (if_neg hb).symm.trans h
    refine Ev.run (pc' := 266) (ls' := [some (.ref 24), o1, o2, o3, some (.int x4), some (.long x5), none, o7, some (.int x8), some (.int x9), o10, o11, o12, o13, o14, o15]) (st' := [.int (zi 13), .int x9]) (h' := mk s) 2 rfl ?_
    refine Ev.icmp_le (t := 273) rfl rfl (fun hb => ?_) (fun hb => ?_)
    · have h := (if_pos hb).symm.trans h
      refine Ev.run (pc' := 287) (ls' := [some (.ref 24), o1, o2, o3, some (.int x4), some (.long x5), none, o7, some (.int x8), some (.int x9), o10, o11, o12, o13, o14, o15]) (st' := [.int ((zL2I (zshrL x5 ((zi 52) - ((zi 4) * x9)))) &&& (zi 15))]) (h' := mk s) 10 rfl ?_
      exact k188_287 hrec255 x4 x5 x8 x9 ((zL2I (zshrL x5 ((zi 52) - ((zi 4) * x9)))) &&& (zi 15)) s _ _ _ _ _ _ _ _ _ _ _ h
    · have h := (if_neg hb).symm.trans h
      refine Ev.run (pc' := 287) (ls' := [some (.ref 24), o1, o2, o3, some (.int x4), some (.long x5), none, o7, some (.int x8), some (.int x9), o10, o11, o12, o13, o14, o15]) (st' := [.int (zi 0)]) (h' := mk s) 2 rfl ?_
      exact k188_287 hrec255 x4 x5 x8 x9 (zi 0) s _ _ _ _ _ _ _ _ _ _ _ h
def f188_255  : Nat → Int32 → Int64 → Int32 → Int32 → zS → Option (zS)
  | 0, _, _, _, _, _ => none
  | n + 1, x4, x5, x8, x9, s => b188_255 (f188_255 n) x4 x5 x8 x9 s
theorem k188_255 {X : mX} {D : Nat}   (n : Nat) : ∀ (x4 : Int32) (x5 : Int64) (x8 : Int32) (x9 : Int32) (s : zS) (r : zS) (o1 : Option Value) (o2 : Option Value) (o3 : Option Value) (o7 : Option Value) (o10 : Option Value) (o11 : Option Value) (o12 : Option Value) (o13 : Option Value) (o14 : Option Value) (o15 : Option Value), f188_255  n x4 x5 x8 x9 s = some r → Ev X (D + 1) mm188 255 [some (.ref 24), o1, o2, o3, some (.int x4), some (.long x5), none, o7, some (.int x8), some (.int x9), o10, o11, o12, o13, o14, o15] [] (mk s) (encV r) := by
  induction n with
  | zero => intro x4 x5 x8 x9 s r o1 o2 o3 o7 o10 o11 o12 o13 o14 o15  h; cases h
  | succ n ih => intro x4 x5 x8 x9 s r o1 o2 o3 o7 o10 o11 o12 o13 o14 o15  h; exact kb188_255  ih x4 x5 x8 x9 s r o1 o2 o3 o7 o10 o11 o12 o13 o14 o15  h
def f188_237  (x4 : Int32) (x5 : Int64) (x7 : Int32) (x8 : Int32) (s : zS) : Option (zS) := zb0 (f181 ((zi 48) + x7) s) (fun s1 => zb0 (f181 (zi 46) s1) (fun s2 => f188_255 zF x4 x5 x8 (zi 1) s2))
theorem k188_237 {X : mX} {D : Nat}   (x4 : Int32) (x5 : Int64) (x7 : Int32) (x8 : Int32) (s : zS) (r : zS) (o1 : Option Value) (o2 : Option Value) (o3 : Option Value) (o9 : Option Value) (o10 : Option Value) (o11 : Option Value) (o12 : Option Value) (o13 : Option Value) (o14 : Option Value) (o15 : Option Value)  (h : f188_237  x4 x5 x7 x8 s = some r) : Ev X (D + 1) mm188 237 [some (.ref 24), o1, o2, o3, some (.int x4), some (.long x5), none, some (.int x7), some (.int x8), o9, o10, o11, o12, o13, o14, o15] [] (mk s) (encV r) := by
  unfold f188_237 at h
  refine Ev.run (pc' := 243) (ls' := [some (.ref 24), o1, o2, o3, some (.int x4), some (.long x5), none, some (.int x7), some (.int x8), o9, o10, o11, o12, o13, o14, o15]) (st' := [.int ((zi 48) + x7), .ref 24]) (h' := mk s) 4 rfl ?_
  obtain ⟨s1, hq, h⟩ := zb0_some h
  refine Ev.call (M' := mm181) (v := none) (h' := mk s1) rfl rfl rfl (Nat.le_of_ble_eq_true rfl) (k181 hq) ?_
  refine Ev.run (pc' := 249) (ls' := [some (.ref 24), o1, o2, o3, some (.int x4), some (.long x5), none, some (.int x7), some (.int x8), o9, o10, o11, o12, o13, o14, o15]) (st' := [.int (zi 46), .ref 24]) (h' := mk s1) 2 rfl ?_
  obtain ⟨s2, hq, h⟩ := zb0_some h
  refine Ev.call (M' := mm181) (v := none) (h' := mk s2) rfl rfl rfl (Nat.le_of_ble_eq_true rfl) (k181 hq) ?_
  refine Ev.run (pc' := 255) (ls' := [some (.ref 24), o1, o2, o3, some (.int x4), some (.long x5), none, some (.int x7), some (.int x8), some (.int (zi 1)), o10, o11, o12, o13, o14, o15]) (st' := []) (h' := mk s2) 2 rfl ?_
  exact k188_255 zF x4 x5 x8 (zi 1) s2 _ _ _ _ _ _ _ _ _ _ _ h
def b188_206 (rec206 : Int32 → Int32 → Int64 → Int32 → Int32 → zS → Option (zS)) (x3 : Int32) (x4 : Int32) (x5 : Int64) (x7 : Int32) (x8 : Int32) (s : zS) : Option (zS) := if x4 ≤ (zi 1) then f188_237 x4 x5 x7 x8 s else if ¬ ((zshrL x5 ((zi 52) - ((zi 4) * x4))) &&& (zl 15)) = (zl 0) then f188_237 x4 x5 x7 x8 s else rec206 x3 (x4 + zi (-1)) x5 x7 x8 s
theorem kb188_206 {X : mX} {D : Nat} {rec206 : Int32 → Int32 → Int64 → Int32 → Int32 → zS → Option (zS)} (hrec206 : ∀ (x3 : Int32) (x4 : Int32) (x5 : Int64) (x7 : Int32) (x8 : Int32) (s : zS) (r : zS) (o1 : Option Value) (o2 : Option Value) (o9 : Option Value) (o10 : Option Value) (o11 : Option Value) (o12 : Option Value) (o13 : Option Value) (o14 : Option Value) (o15 : Option Value), rec206 x3 x4 x5 x7 x8 s = some r → Ev X (D + 1) mm188 206 [some (.ref 24), o1, o2, some (.int x3), some (.int x4), some (.long x5), none, some (.int x7), some (.int x8), o9, o10, o11, o12, o13, o14, o15] [] (mk s) (encV r)) (x3 : Int32) (x4 : Int32) (x5 : Int64) (x7 : Int32) (x8 : Int32) (s : zS) (r : zS) (o1 : Option Value) (o2 : Option Value) (o9 : Option Value) (o10 : Option Value) (o11 : Option Value) (o12 : Option Value) (o13 : Option Value) (o14 : Option Value) (o15 : Option Value)  (h : b188_206 rec206 x3 x4 x5 x7 x8 s = some r) : Ev X (D + 1) mm188 206 [some (.ref 24), o1, o2, some (.int x3), some (.int x4), some (.long x5), none, some (.int x7), some (.int x8), o9, o10, o11, o12, o13, o14, o15] [] (mk s) (encV r) := by
  unfold b188_206 at h
  refine Ev.run (pc' := 209) (ls' := [some (.ref 24), o1, o2, some (.int x3), some (.int x4), some (.long x5), none, some (.int x7), some (.int x8), o9, o10, o11, o12, o13, o14, o15]) (st' := [.int (zi 1), .int x4]) (h' := mk s) 2 rfl ?_
  refine Ev.icmp_le (t := 237) rfl rfl (fun hb => ?_) (fun hb => ?_)
  · have h := (if_pos hb).symm.trans h
    exact k188_237 x4 x5 x7 x8 s _ _ _ _ _ _ _ _ _ _ _ h
  · have h := (if_neg hb).symm.trans h
    refine Ev.run (pc' := 228) (ls' := [some (.ref 24), o1, o2, some (.int x3), some (.int x4), some (.long x5), none, some (.int x7), some (.int x8), o9, o10, o11, o12, o13, o14, o15]) (st' := [.int (lg_cmp ((zshrL x5 ((zi 52) - ((zi 4) * x4))) &&& (zl 15)) (zl 0))]) (h' := mk s) 11 rfl ?_
    refine Ev.ifl_ne (t := 237) rfl rfl (fun hb => ?_) (fun hb => ?_)
    · have h := (if_pos hb).symm.trans h
      exact k188_237 x4 x5 x7 x8 s _ _ _ _ _ _ _ _ _ _ _ h
    · have h := (if_neg hb).symm.trans h
      refine Ev.run (pc' := 206) (ls' := [some (.ref 24), o1, o2, some (.int x3), some (.int (x4 + zi (-1))), some (.long x5), none, some (.int x7), some (.int x8), o9, o10, o11, o12, o13, o14, o15]) (st' := []) (h' := mk s) 2 rfl ?_
      exact hrec206 x3 (x4 + zi (-1)) x5 x7 x8 s _ _ _ _ _ _ _ _ _ _ h
def f188_206  : Nat → Int32 → Int32 → Int64 → Int32 → Int32 → zS → Option (zS)
  | 0, _, _, _, _, _, _ => none
  | n + 1, x3, x4, x5, x7, x8, s => b188_206 (f188_206 n) x3 x4 x5 x7 x8 s
theorem k188_206 {X : mX} {D : Nat}   (n : Nat) : ∀ (x3 : Int32) (x4 : Int32) (x5 : Int64) (x7 : Int32) (x8 : Int32) (s : zS) (r : zS) (o1 : Option Value) (o2 : Option Value) (o9 : Option Value) (o10 : Option Value) (o11 : Option Value) (o12 : Option Value) (o13 : Option Value) (o14 : Option Value) (o15 : Option Value), f188_206  n x3 x4 x5 x7 x8 s = some r → Ev X (D + 1) mm188 206 [some (.ref 24), o1, o2, some (.int x3), some (.int x4), some (.long x5), none, some (.int x7), some (.int x8), o9, o10, o11, o12, o13, o14, o15] [] (mk s) (encV r) := by
  induction n with
  | zero => intro x3 x4 x5 x7 x8 s r o1 o2 o9 o10 o11 o12 o13 o14 o15  h; cases h
  | succ n ih => intro x3 x4 x5 x7 x8 s r o1 o2 o9 o10 o11 o12 o13 o14 o15  h; exact kb188_206  ih x3 x4 x5 x7 x8 s r o1 o2 o9 o10 o11 o12 o13 o14 o15  h
def f188_168  (x4 : Int32) (x8 : Int32) (x9 : Int32) (x10 : Int64) (s : zS) : Option (zS) := if ¬ (zL2I (zshrL (zshlL x10 x9) (zi 52))) = (zi 2) then f188_237 x4 ((zshlL x10 x9) &&& (zl 4503599627370495)) (zL2I (zshrL (zshlL x10 x9) (zi 52))) x8 s else f188_237 x4 ((zshlL x10 x9) &&& (zl 4503599627370495)) (zi 1) (x8 + zi 1) s
theorem k188_168 {X : mX} {D : Nat}   (x4 : Int32) (x8 : Int32) (x9 : Int32) (x10 : Int64) (s : zS) (r : zS) (o1 : Option Value) (o2 : Option Value) (o3 : Option Value) (o5 : Option Value) (o7 : Option Value) (o12 : Option Value) (o13 : Option Value) (o14 : Option Value) (o15 : Option Value)  (h : f188_168  x4 x8 x9 x10 s = some r) : Ev X (D + 1) mm188 168 [some (.ref 24), o1, o2, o3, some (.int x4), o5, none, o7, some (.int x8), some (.int x9), some (.long x10), none, o12, o13, o14, o15] [] (mk s) (encV r) := by
  unfold f188_168 at h
  refine Ev.run (pc' := 194) (ls' := [some (.ref 24), o1, o2, o3, some (.int x4), some (.long ((zshlL x10 x9) &&& (zl 4503599627370495))), none, some (.int (zL2I (zshrL (zshlL x10 x9) (zi 52)))), some (.int x8), some (.int x9), some (.long (zshlL x10 x9)), none, o12, o13, o14, o15]) (st' := [.int (zi 2), .int (zL2I (zshrL (zshlL x10 x9) (zi 52)))]) (h' := mk s) 15 rfl ?_
  refine Ev.icmp_ne (t := 203) rfl rfl (fun hb => ?_) (fun hb => ?_)
  · have h := (if_pos hb).symm.trans h
    refine Ev.run (pc' := 237) (ls' := [some (.ref 24), o1, o2, o3, some (.int x4), some (.long ((zshlL x10 x9) &&& (zl 4503599627370495))), none, some (.int (zL2I (zshrL (zshlL x10 x9) (zi 52)))), some (.int x8), some (.int x9), some (.long (zshlL x10 x9)), none, o12, o13, o14, o15]) (st' := []) (h' := mk s) 1 rfl ?_
    exact k188_237 x4 ((zshlL x10 x9) &&& (zl 4503599627370495)) (zL2I (zshrL (zshlL x10 x9) (zi 52))) x8 s _ _ _ _ _ _ _ _ _ _ _ h
  · have h := (if_neg hb).symm.trans h
    refine Ev.run (pc' := 237) (ls' := [some (.ref 24), o1, o2, o3, some (.int x4), some (.long ((zshlL x10 x9) &&& (zl 4503599627370495))), none, some (.int (zi 1)), some (.int (x8 + zi 1)), some (.int x9), some (.long (zshlL x10 x9)), none, o12, o13, o14, o15]) (st' := []) (h' := mk s) 4 rfl ?_
    exact k188_237 x4 ((zshlL x10 x9) &&& (zl 4503599627370495)) (zi 1) (x8 + zi 1) s _ _ _ _ _ _ _ _ _ _ _ h
def f188_82  (x3 : Int32) (x5 : Int64) (x7 : Int32) (x8 : Int32) (y0 : Int32) (s : zS) : Option (zS) := if y0 ≥ (zi 13) then f188_237 y0 x5 x7 x8 s else if (((zshlL (zI2L x7) (zi 52)) ||| x5) &&& ((zshlL (zl 1) ((zi 52) - ((zi 4) * y0))) - (zl 1))) > (zshlL (zl 1) (((zi 52) - ((zi 4) * y0)) - (zi 1))) then f188_168 y0 x8 ((zi 52) - ((zi 4) * y0)) ((zshrL ((zshlL (zI2L x7) (zi 52)) ||| x5) ((zi 52) - ((zi 4) * y0))) + (zl 1)) s else if ¬ (((zshlL (zI2L x7) (zi 52)) ||| x5) &&& ((zshlL (zl 1) ((zi 52) - ((zi 4) * y0))) - (zl 1))) = (zshlL (zl 1) (((zi 52) - ((zi 4) * y0)) - (zi 1))) then f188_168 y0 x8 ((zi 52) - ((zi 4) * y0)) (zshrL ((zshlL (zI2L x7) (zi 52)) ||| x5) ((zi 52) - ((zi 4) * y0))) s else if ¬ ((zshrL ((zshlL (zI2L x7) (zi 52)) ||| x5) ((zi 52) - ((zi 4) * y0))) &&& (zl 1)) = (zl 1) then f188_168 y0 x8 ((zi 52) - ((zi 4) * y0)) (zshrL ((zshlL (zI2L x7) (zi 52)) ||| x5) ((zi 52) - ((zi 4) * y0))) s else f188_168 y0 x8 ((zi 52) - ((zi 4) * y0)) ((zshrL ((zshlL (zI2L x7) (zi 52)) ||| x5) ((zi 52) - ((zi 4) * y0))) + (zl 1)) s
theorem k188_82 {X : mX} {D : Nat}   (x3 : Int32) (x5 : Int64) (x7 : Int32) (x8 : Int32) (y0 : Int32) (s : zS) (r : zS) (o1 : Option Value) (o2 : Option Value) (o4 : Option Value) (o9 : Option Value) (o10 : Option Value) (o11 : Option Value) (o12 : Option Value) (o13 : Option Value) (o14 : Option Value) (o15 : Option Value)  (h : f188_82  x3 x5 x7 x8 y0 s = some r) : Ev X (D + 1) mm188 82 [some (.ref 24), o1, o2, some (.int x3), o4, some (.long x5), none, some (.int x7), some (.int x8), o9, o10, o11, o12, o13, o14, o15] [.int y0] (mk s) (encV r) := by
  unfold f188_82 at h
  refine Ev.run (pc' := 88) (ls' := [some (.ref 24), o1, o2, some (.int x3), some (.int y0), some (.long x5), none, some (.int x7), some (.int x8), o9, o10, o11, o12, o13, o14, o15]) (st' := [.int (zi 13), .int y0]) (h' := mk s) 3 rfl ?_
  refine Ev.icmp_ge (t := 237) rfl rfl (fun hb => ?_) (fun hb => ?_)
  · have h := (if_pos hb).symm.trans h
    exact k188_237 y0 x5 x7 x8 s _ _ _ _ _ _ _ _ _ _ _ h
  · have h := (if_neg hb).symm.trans h
    refine Ev.run (pc' := 142) (ls' := [some (.ref 24), o1, o2, some (.int x3), some (.int y0), some (.long x5), none, some (.int x7), some (.int x8), some (.int ((zi 52) - ((zi 4) * y0))), some (.long (zshrL ((zshlL (zI2L x7) (zi 52)) ||| x5) ((zi 52) - ((zi 4) * y0)))), none, some (.long (((zshlL (zI2L x7) (zi 52)) ||| x5) &&& ((zshlL (zl 1) ((zi 52) - ((zi 4) * y0))) - (zl 1)))), none, some (.long (zshlL (zl 1) (((zi 52) - ((zi 4) * y0)) - (zi 1)))), none]) (st' := [.int (lg_cmp (((zshlL (zI2L x7) (zi 52)) ||| x5) &&& ((zshlL (zl 1) ((zi 52) - ((zi 4) * y0))) - (zl 1))) (zshlL (zl 1) (((zi 52) - ((zi 4) * y0)) - (zi 1))))]) (h' := mk s) 34 rfl ?_
    refine Ev.ifl_gt (t := 162) rfl rfl (fun hb => ?_) (fun hb => ?_)
    · have h := (if_pos hb).symm.trans h
      refine Ev.run (pc' := 168) (ls' := [some (.ref 24), o1, o2, some (.int x3), some (.int y0), some (.long x5), none, some (.int x7), some (.int x8), some (.int ((zi 52) - ((zi 4) * y0))), some (.long ((zshrL ((zshlL (zI2L x7) (zi 52)) ||| x5) ((zi 52) - ((zi 4) * y0))) + (zl 1))), none, some (.long (((zshlL (zI2L x7) (zi 52)) ||| x5) &&& ((zshlL (zl 1) ((zi 52) - ((zi 4) * y0))) - (zl 1)))), none, some (.long (zshlL (zl 1) (((zi 52) - ((zi 4) * y0)) - (zi 1)))), none]) (st' := []) (h' := mk s) 4 rfl ?_
      exact k188_168 y0 x8 ((zi 52) - ((zi 4) * y0)) ((zshrL ((zshlL (zI2L x7) (zi 52)) ||| x5) ((zi 52) - ((zi 4) * y0))) + (zl 1)) s _ _ _ _ _ _ _ _ _ _ h
    · have h := (if_neg hb).symm.trans h
      refine Ev.run (pc' := 150) (ls' := [some (.ref 24), o1, o2, some (.int x3), some (.int y0), some (.long x5), none, some (.int x7), some (.int x8), some (.int ((zi 52) - ((zi 4) * y0))), some (.long (zshrL ((zshlL (zI2L x7) (zi 52)) ||| x5) ((zi 52) - ((zi 4) * y0)))), none, some (.long (((zshlL (zI2L x7) (zi 52)) ||| x5) &&& ((zshlL (zl 1) ((zi 52) - ((zi 4) * y0))) - (zl 1)))), none, some (.long (zshlL (zl 1) (((zi 52) - ((zi 4) * y0)) - (zi 1)))), none]) (st' := [.int (lg_cmp (((zshlL (zI2L x7) (zi 52)) ||| x5) &&& ((zshlL (zl 1) ((zi 52) - ((zi 4) * y0))) - (zl 1))) (zshlL (zl 1) (((zi 52) - ((zi 4) * y0)) - (zi 1))))]) (h' := mk s) 3 rfl ?_
      refine Ev.ifl_ne (t := 168) rfl rfl (fun hb => ?_) (fun hb => ?_)
      · have h := (if_pos hb).symm.trans h
        exact k188_168 y0 x8 ((zi 52) - ((zi 4) * y0)) (zshrL ((zshlL (zI2L x7) (zi 52)) ||| x5) ((zi 52) - ((zi 4) * y0))) s _ _ _ _ _ _ _ _ _ _ h
      · have h := (if_neg hb).symm.trans h
        refine Ev.run (pc' := 159) (ls' := [some (.ref 24), o1, o2, some (.int x3), some (.int y0), some (.long x5), none, some (.int x7), some (.int x8), some (.int ((zi 52) - ((zi 4) * y0))), some (.long (zshrL ((zshlL (zI2L x7) (zi 52)) ||| x5) ((zi 52) - ((zi 4) * y0)))), none, some (.long (((zshlL (zI2L x7) (zi 52)) ||| x5) &&& ((zshlL (zl 1) ((zi 52) - ((zi 4) * y0))) - (zl 1)))), none, some (.long (zshlL (zl 1) (((zi 52) - ((zi 4) * y0)) - (zi 1)))), none]) (st' := [.int (lg_cmp ((zshrL ((zshlL (zI2L x7) (zi 52)) ||| x5) ((zi 52) - ((zi 4) * y0))) &&& (zl 1)) (zl 1))]) (h' := mk s) 5 rfl ?_
        refine Ev.ifl_ne (t := 168) rfl rfl (fun hb => ?_) (fun hb => ?_)
        · have h := (if_pos hb).symm.trans h
          exact k188_168 y0 x8 ((zi 52) - ((zi 4) * y0)) (zshrL ((zshlL (zI2L x7) (zi 52)) ||| x5) ((zi 52) - ((zi 4) * y0))) s _ _ _ _ _ _ _ _ _ _ h
        · have h := (if_neg hb).symm.trans h
          refine Ev.run (pc' := 168) (ls' := [some (.ref 24), o1, o2, some (.int x3), some (.int y0), some (.long x5), none, some (.int x7), some (.int x8), some (.int ((zi 52) - ((zi 4) * y0))), some (.long ((zshrL ((zshlL (zI2L x7) (zi 52)) ||| x5) ((zi 52) - ((zi 4) * y0))) + (zl 1))), none, some (.long (((zshlL (zI2L x7) (zi 52)) ||| x5) &&& ((zshlL (zl 1) ((zi 52) - ((zi 4) * y0))) - (zl 1)))), none, some (.long (zshlL (zl 1) (((zi 52) - ((zi 4) * y0)) - (zi 1)))), none]) (st' := []) (h' := mk s) 4 rfl ?_
          exact k188_168 y0 x8 ((zi 52) - ((zi 4) * y0)) ((zshrL ((zshlL (zI2L x7) (zi 52)) ||| x5) ((zi 52) - ((zi 4) * y0))) + (zl 1)) s _ _ _ _ _ _ _ _ _ _ h
def f188_58  (x3 : Int32) (x4 : Int32) (x5 : Int64) (x7 : Int32) (y0 : Int32) (s : zS) : Option (zS) := if (s.1 24 17) < zi 0 then f188_206 zF x3 x4 x5 x7 y0 s else if ¬ (s.1 24 17) = zi 0 then f188_82 x3 x5 x7 y0 (s.1 24 17) s else f188_82 x3 x5 x7 y0 (zi 1) s
theorem k188_58 {X : mX} {D : Nat}   (x3 : Int32) (x4 : Int32) (x5 : Int64) (x7 : Int32) (y0 : Int32) (s : zS) (r : zS) (o1 : Option Value) (o2 : Option Value) (o8 : Option Value) (o9 : Option Value) (o10 : Option Value) (o11 : Option Value) (o12 : Option Value) (o13 : Option Value) (o14 : Option Value) (o15 : Option Value)  (h : f188_58  x3 x4 x5 x7 y0 s = some r) : Ev X (D + 1) mm188 58 [some (.ref 24), o1, o2, some (.int x3), some (.int x4), some (.long x5), none, some (.int x7), o8, o9, o10, o11, o12, o13, o14, o15] [.int y0] (mk s) (encV r) := by
  unfold f188_58 at h
  refine Ev.run (pc' := 64) (ls' := [some (.ref 24), o1, o2, some (.int x3), some (.int x4), some (.long x5), none, some (.int x7), some (.int y0), o9, o10, o11, o12, o13, o14, o15]) (st' := [.int (s.1 24 17)]) (h' := mk s) 3 rfl ?_
  refine Ev.if_lt (t := 206) rfl rfl (fun hb => ?_) (fun hb => ?_)
  · have h := (if_pos hb).symm.trans h
    exact k188_206 zF x3 x4 x5 x7 y0 s _ _ _ _ _ _ _ _ _ _ h
  · have h := (if_neg hb).symm.trans h
    refine Ev.run (pc' := 71) (ls' := [some (.ref 24), o1, o2, some (.int x3), some (.int x4), some (.long x5), none, some (.int x7), some (.int y0), o9, o10, o11, o12, o13, o14, o15]) (st' := [.int (s.1 24 17)]) (h' := mk s) 2 rfl ?_
    refine Ev.if_ne (t := 78) rfl rfl (fun hb => ?_) (fun hb => ?_)
    · have h := (if_pos hb).symm.trans h
      refine Ev.run (pc' := 82) (ls' := [some (.ref 24), o1, o2, some (.int x3), some (.int x4), some (.long x5), none, some (.int x7), some (.int y0), o9, o10, o11, o12, o13, o14, o15]) (st' := [.int (s.1 24 17)]) (h' := mk s) 2 rfl ?_
      exact k188_82 x3 x5 x7 y0 (s.1 24 17) s _ _ _ _ _ _ _ _ _ _ _ h
    · have h := (if_neg hb).symm.trans h
      refine Ev.run (pc' := 82) (ls' := [some (.ref 24), o1, o2, some (.int x3), some (.int x4), some (.long x5), none, some (.int x7), some (.int y0), o9, o10, o11, o12, o13, o14, o15]) (st' := [.int (zi 1)]) (h' := mk s) 2 rfl ?_
      exact k188_82 x3 x5 x7 y0 (zi 1) s _ _ _ _ _ _ _ _ _ _ _ h
def f188_30  (x3 : Int32) (x4 : Int32) (x5 : Int64) (y0 : Int32) (s : zS) : Option (zS) := if x3 ≤ zi 0 then if ¬ x5 = (zl 0) then f188_58 x3 x4 x5 y0 (zi (-1022)) s else f188_58 x3 x4 x5 y0 (zi 0) s else f188_58 x3 x4 x5 y0 (x3 - (zi 1023)) s
theorem k188_30 {X : mX} {D : Nat}   (x3 : Int32) (x4 : Int32) (x5 : Int64) (y0 : Int32) (s : zS) (r : zS) (o1 : Option Value) (o2 : Option Value) (o7 : Option Value) (o8 : Option Value) (o9 : Option Value) (o10 : Option Value) (o11 : Option Value) (o12 : Option Value) (o13 : Option Value) (o14 : Option Value) (o15 : Option Value)  (h : f188_30  x3 x4 x5 y0 s = some r) : Ev X (D + 1) mm188 30 [some (.ref 24), o1, o2, some (.int x3), some (.int x4), some (.long x5), none, o7, o8, o9, o10, o11, o12, o13, o14, o15] [.int y0] (mk s) (encV r) := by
  unfold f188_30 at h
  refine Ev.run (pc' := 33) (ls' := [some (.ref 24), o1, o2, some (.int x3), some (.int x4), some (.long x5), none, some (.int y0), o8, o9, o10, o11, o12, o13, o14, o15]) (st' := [.int x3]) (h' := mk s) 2 rfl ?_
  refine Ev.if_le (t := 44) rfl rfl (fun hb => ?_) (fun hb => ?_)
  · have h := (if_pos hb).symm.trans h
    refine Ev.run (pc' := 48) (ls' := [some (.ref 24), o1, o2, some (.int x3), some (.int x4), some (.long x5), none, some (.int y0), o8, o9, o10, o11, o12, o13, o14, o15]) (st' := [.int (lg_cmp x5 (zl 0))]) (h' := mk s) 3 rfl ?_
    refine Ev.ifl_ne (t := 55) rfl rfl (fun hb => ?_) (fun hb => ?_)
    · have h := (if_pos hb).symm.trans h
      refine Ev.run (pc' := 58) (ls' := [some (.ref 24), o1, o2, some (.int x3), some (.int x4), some (.long x5), none, some (.int y0), o8, o9, o10, o11, o12, o13, o14, o15]) (st' := [.int (zi (-1022))]) (h' := mk s) 1 rfl ?_
      exact k188_58 x3 x4 x5 y0 (zi (-1022)) s _ _ _ _ _ _ _ _ _ _ _ h
    · have h := (if_neg hb).symm.trans h
      refine Ev.run (pc' := 58) (ls' := [some (.ref 24), o1, o2, some (.int x3), some (.int x4), some (.long x5), none, some (.int y0), o8, o9, o10, o11, o12, o13, o14, o15]) (st' := [.int (zi 0)]) (h' := mk s) 2 rfl ?_
      exact k188_58 x3 x4 x5 y0 (zi 0) s _ _ _ _ _ _ _ _ _ _ _ h
  · have h := (if_neg hb).symm.trans h
    refine Ev.run (pc' := 58) (ls' := [some (.ref 24), o1, o2, some (.int x3), some (.int x4), some (.long x5), none, some (.int y0), o8, o9, o10, o11, o12, o13, o14, o15]) (st' := [.int (x3 - (zi 1023))]) (h' := mk s) 4 rfl ?_
    exact k188_58 x3 x4 x5 y0 (x3 - (zi 1023)) s _ _ _ _ _ _ _ _ _ _ _ h
def f188  (x1 : Int64) (s : zS) : Option (zS) := if ((zL2I (zshrL x1 (zi 52))) &&& (zi 2047)) ≤ zi 0 then f188_30 ((zL2I (zshrL x1 (zi 52))) &&& (zi 2047)) (zi 13) (x1 &&& (zl 4503599627370495)) (zi 0) s else f188_30 ((zL2I (zshrL x1 (zi 52))) &&& (zi 2047)) (zi 13) (x1 &&& (zl 4503599627370495)) (zi 1) s
theorem k188 {X : mX} {D : Nat} {x1 : Int64} {s : zS} {r : zS}  (h : f188 x1 s = some r) : Ev X (D + 1) mm188 0 [some (.ref 24), some (.long x1), none, none, none, none, none, none, none, none, none, none, none, none, none, none] [] (mk s) (encV r) := by
  unfold f188 at h
  refine Ev.run (pc' := 22) (ls' := [some (.ref 24), some (.long x1), none, some (.int ((zL2I (zshrL x1 (zi 52))) &&& (zi 2047))), some (.int (zi 13)), some (.long (x1 &&& (zl 4503599627370495))), none, none, none, none, none, none, none, none, none, none]) (st' := [.int ((zL2I (zshrL x1 (zi 52))) &&& (zi 2047))]) (h' := mk s) 14 rfl ?_
  refine Ev.if_le (t := 29) rfl rfl (fun hb => ?_) (fun hb => ?_)
  · have h := (if_pos hb).symm.trans h
    refine Ev.run (pc' := 30) (ls' := [some (.ref 24), some (.long x1), none, some (.int ((zL2I (zshrL x1 (zi 52))) &&& (zi 2047))), some (.int (zi 13)), some (.long (x1 &&& (zl 4503599627370495))), none, none, none, none, none, none, none, none, none, none]) (st' := [.int (zi 0)]) (h' := mk s) 1 rfl ?_
    exact k188_30 ((zL2I (zshrL x1 (zi 52))) &&& (zi 2047)) (zi 13) (x1 &&& (zl 4503599627370495)) (zi 0) s _ _ _ _ _ _ _ _ _ _ _ _ h
  · have h := (if_neg hb).symm.trans h
    refine Ev.run (pc' := 30) (ls' := [some (.ref 24), some (.long x1), none, some (.int ((zL2I (zshrL x1 (zi 52))) &&& (zi 2047))), some (.int (zi 13)), some (.long (x1 &&& (zl 4503599627370495))), none, none, none, none, none, none, none, none, none, none]) (st' := [.int (zi 1)]) (h' := mk s) 2 rfl ?_
    exact k188_30 ((zL2I (zshrL x1 (zi 52))) &&& (zi 2047)) (zi 13) (x1 &&& (zl 4503599627370495)) (zi 1) s _ _ _ _ _ _ _ _ _ _ _ _ h
/-! 185 FModel.fixed(I)V -/
def b185_60 (rec60 : Int32 → Int32 → zS → Option (zS)) (x1 : Int32) (x2 : Int32) (s : zS) : Option (zS) := if x2 < (-x1) then some s else zb1 (f165 x2 s) (fun v2 s1 => zb0 (f181 ((zi 48) + v2) s1) (fun s3 => rec60 x1 (x2 + zi (-1)) s3))
theorem kb185_60 {X : mX} {D : Nat} {rec60 : Int32 → Int32 → zS → Option (zS)} (hrec60 : ∀ (x1 : Int32) (x2 : Int32) (s : zS) (r : zS) , rec60 x1 x2 s = some r → Ev X (D + 3) mm185 60 [some (.ref 24), some (.int x1), some (.int x2)] [] (mk s) (encV r)) (x1 : Int32) (x2 : Int32) (s : zS) (r : zS)   (h : b185_60 rec60 x1 x2 s = some r) : Ev X (D + 3) mm185 60 [some (.ref 24), some (.int x1), some (.int x2)] [] (mk s) (encV r) := by
  unfold b185_60 at h
  refine Ev.run (pc' := 63) (ls' := [some (.ref 24), some (.int x1), some (.int x2)]) (st' := [.int (-x1), .int x2]) (h' := mk s) 3 rfl ?_
  refine Ev.icmp_lt (t := 84) rfl rfl (fun hb => ?_) (fun hb => ?_)
  · have h := (if_pos hb).symm.trans h
    cases h
    exact Ev.fin rfl rfl
  · have h := (if_neg hb).symm.trans h
    refine Ev.run (pc' := 71) (ls' := [some (.ref 24), some (.int x1), some (.int x2)]) (st' := [.int x2, .ref 24, .int (zi 48), .ref 24]) (h' := mk s) 4 rfl ?_
    obtain ⟨v2, s1, hq, h⟩ := zb1_some h
    refine Ev.call (M' := mm165) (v := some (.int v2)) (h' := mk s1) rfl rfl rfl (Nat.le_of_ble_eq_true rfl) (k165 hq) ?_
    refine Ev.run (pc' := 75) (ls' := [some (.ref 24), some (.int x1), some (.int x2)]) (st' := [.int ((zi 48) + v2), .ref 24]) (h' := mk s1) 1 rfl ?_
    obtain ⟨s3, hq, h⟩ := zb0_some h
    refine Ev.call (M' := mm181) (v := none) (h' := mk s3) rfl rfl rfl (Nat.le_of_ble_eq_true rfl) (k181 hq) ?_
    refine Ev.run (pc' := 60) (ls' := [some (.ref 24), some (.int x1), some (.int (x2 + zi (-1)))]) (st' := []) (h' := mk s3) 2 rfl ?_
    exact hrec60 x1 (x2 + zi (-1)) s3 _ h
def f185_60  : Nat → Int32 → Int32 → zS → Option (zS)
  | 0, _, _, _ => none
  | n + 1, x1, x2, s => b185_60 (f185_60 n) x1 x2 s
theorem k185_60 {X : mX} {D : Nat}   (n : Nat) : ∀ (x1 : Int32) (x2 : Int32) (s : zS) (r : zS) , f185_60  n x1 x2 s = some r → Ev X (D + 3) mm185 60 [some (.ref 24), some (.int x1), some (.int x2)] [] (mk s) (encV r) := by
  induction n with
  | zero => intro x1 x2 s r   h; cases h
  | succ n ih => intro x1 x2 s r   h; exact kb185_60  ih x1 x2 s r   h
def f185_52  (x1 : Int32) (s : zS) : Option (zS) := zb0 (f181 (zi 46) s) (fun s1 => f185_60 zF x1 (zi (-1)) s1)
theorem k185_52 {X : mX} {D : Nat}   (x1 : Int32) (s : zS) (r : zS) (o2 : Option Value)  (h : f185_52  x1 s = some r) : Ev X (D + 3) mm185 52 [some (.ref 24), some (.int x1), o2] [] (mk s) (encV r) := by
  unfold f185_52 at h
  refine Ev.run (pc' := 55) (ls' := [some (.ref 24), some (.int x1), o2]) (st' := [.int (zi 46), .ref 24]) (h' := mk s) 2 rfl ?_
  obtain ⟨s1, hq, h⟩ := zb0_some h
  refine Ev.call (M' := mm181) (v := none) (h' := mk s1) rfl rfl rfl (Nat.le_of_ble_eq_true rfl) (k181 hq) ?_
  refine Ev.run (pc' := 60) (ls' := [some (.ref 24), some (.int x1), some (.int (zi (-1)))]) (st' := []) (h' := mk s1) 2 rfl ?_
  exact k185_60 zF x1 (zi (-1)) s1 _ h
def b185_15 (rec15 : Int32 → Int32 → zS → Option (zS)) (x1 : Int32) (x2 : Int32) (s : zS) : Option (zS) := if x2 < zi 0 then if x1 > zi 0 then f185_52 x1 s else if (r180 (s.1 24 15) (zi 2) s) = zi 0 then f185_60 zF x1 (zi (-1)) s else f185_52 x1 s else zb1 (f165 x2 s) (fun v2 s1 => zb0 (f181 ((zi 48) + v2) s1) (fun s3 => rec15 x1 (x2 + zi (-1)) s3))
theorem kb185_15 {X : mX} {D : Nat} {rec15 : Int32 → Int32 → zS → Option (zS)} (hrec15 : ∀ (x1 : Int32) (x2 : Int32) (s : zS) (r : zS) , rec15 x1 x2 s = some r → Ev X (D + 3) mm185 15 [some (.ref 24), some (.int x1), some (.int x2)] [] (mk s) (encV r)) (x1 : Int32) (x2 : Int32) (s : zS) (r : zS)   (h : b185_15 rec15 x1 x2 s = some r) : Ev X (D + 3) mm185 15 [some (.ref 24), some (.int x1), some (.int x2)] [] (mk s) (encV r) := by
  unfold b185_15 at h
  refine Ev.run (pc' := 16) (ls' := [some (.ref 24), some (.int x1), some (.int x2)]) (st' := [.int x2]) (h' := mk s) 1 rfl ?_
  refine Ev.if_lt (t := 37) rfl rfl (fun hb => ?_) (fun hb => ?_)
  · have h := (if_pos hb).symm.trans h
    refine Ev.run (pc' := 38) (ls' := [some (.ref 24), some (.int x1), some (.int x2)]) (st' := [.int x1]) (h' := mk s) 1 rfl ?_
    refine Ev.if_gt (t := 52) rfl rfl (fun hb => ?_) (fun hb => ?_)
    · have h := (if_pos hb).symm.trans h
      exact k185_52 x1 s _ _ h
    · have h := (if_neg hb).symm.trans h
      refine Ev.run (pc' := 46) (ls' := [some (.ref 24), some (.int x1), some (.int x2)]) (st' := [.int (zi 2), .int (s.1 24 15)]) (h' := mk s) 3 rfl ?_
      refine Ev.call (M' := mm180) (v := some (.int (r180 (s.1 24 15) (zi 2) s))) (h' := mk s) rfl rfl rfl (Nat.le_of_ble_eq_true rfl) (k180 (x0 := (s.1 24 15)) (x1 := (zi 2)) (s := s)  rfl) ?_
      refine Ev.if_eq (t := 58) rfl rfl (fun hb => ?_) (fun hb => ?_)
      · have h := (if_pos hb).symm.trans h
        refine Ev.run (pc' := 60) (ls' := [some (.ref 24), some (.int x1), some (.int (zi (-1)))]) (st' := []) (h' := mk s) 2 rfl ?_
        exact k185_60 zF x1 (zi (-1)) s _ h
      · have h := (if_neg hb).symm.trans h
        exact k185_52 x1 s _ _ h
  · have h := (if_neg hb).symm.trans h
    refine Ev.run (pc' := 24) (ls' := [some (.ref 24), some (.int x1), some (.int x2)]) (st' := [.int x2, .ref 24, .int (zi 48), .ref 24]) (h' := mk s) 4 rfl ?_
    obtain ⟨v2, s1, hq, h⟩ := zb1_some h
    refine Ev.call (M' := mm165) (v := some (.int v2)) (h' := mk s1) rfl rfl rfl (Nat.le_of_ble_eq_true rfl) (k165 hq) ?_
    refine Ev.run (pc' := 28) (ls' := [some (.ref 24), some (.int x1), some (.int x2)]) (st' := [.int ((zi 48) + v2), .ref 24]) (h' := mk s1) 1 rfl ?_
    obtain ⟨s3, hq, h⟩ := zb0_some h
    refine Ev.call (M' := mm181) (v := none) (h' := mk s3) rfl rfl rfl (Nat.le_of_ble_eq_true rfl) (k181 hq) ?_
    refine Ev.run (pc' := 15) (ls' := [some (.ref 24), some (.int x1), some (.int (x2 + zi (-1)))]) (st' := []) (h' := mk s3) 2 rfl ?_
    exact hrec15 x1 (x2 + zi (-1)) s3 _ h
def f185_15  : Nat → Int32 → Int32 → zS → Option (zS)
  | 0, _, _, _ => none
  | n + 1, x1, x2, s => b185_15 (f185_15 n) x1 x2 s
theorem k185_15 {X : mX} {D : Nat}   (n : Nat) : ∀ (x1 : Int32) (x2 : Int32) (s : zS) (r : zS) , f185_15  n x1 x2 s = some r → Ev X (D + 3) mm185 15 [some (.ref 24), some (.int x1), some (.int x2)] [] (mk s) (encV r) := by
  induction n with
  | zero => intro x1 x2 s r   h; cases h
  | succ n ih => intro x1 x2 s r   h; exact kb185_15  ih x1 x2 s r   h
def f185  (x1 : Int32) (s : zS) : Option (zS) := zb0 (f163 (-x1) s) (fun s1 => f185_15 zF x1 (r264 (s1.1 24 27) (zi 0) s1) s1)
theorem k185 {X : mX} {D : Nat} {x1 : Int32} {s : zS} {r : zS}  (h : f185 x1 s = some r) : Ev X (D + 3) mm185 0 [some (.ref 24), some (.int x1), none] [] (mk s) (encV r) := by
  unfold f185 at h
  refine Ev.run (pc' := 3) (ls' := [some (.ref 24), some (.int x1), none]) (st' := [.int (-x1), .ref 24]) (h' := mk s) 3 rfl ?_
  obtain ⟨s1, hq, h⟩ := zb0_some h
  refine Ev.call (M' := mm163) (v := none) (h' := mk s1) rfl rfl rfl (Nat.le_of_ble_eq_true rfl) (k163 hq) ?_
  refine Ev.run (pc' := 11) (ls' := [some (.ref 24), some (.int x1), none]) (st' := [.int (zi 0), .int (s1.1 24 27)]) (h' := mk s1) 3 rfl ?_
  refine Ev.call (M' := mm264) (v := some (.int (r264 (s1.1 24 27) (zi 0) s1))) (h' := mk s1) rfl rfl rfl (Nat.le_of_ble_eq_true rfl) (k264 (x0 := (s1.1 24 27)) (x1 := (zi 0)) (s := s1)  rfl) ?_
  refine Ev.run (pc' := 15) (ls' := [some (.ref 24), some (.int x1), some (.int (r264 (s1.1 24 27) (zi 0) s1))]) (st' := []) (h' := mk s1) 1 rfl ?_
  exact k185_15 zF x1 (r264 (s1.1 24 27) (zi 0) s1) s1 _ h
/-! 186 FModel.scientific(I)V -/
def f186_150  (x3 : Int32) (s : zS) : Option (zS) := zb0 (f181 ((zi 48) + (zrem (x3 / (zi 10)) (zi 10))) s) (fun s1 => zb0 (f181 ((zi 48) + (zrem x3 (zi 10))) s1) (fun s2 => some s2))
theorem k186_150 {X : mX} {D : Nat}   (x3 : Int32) (s : zS) (r : zS) (o1 : Option Value) (o2 : Option Value)  (h : f186_150  x3 s = some r) : Ev X (D + 3) mm186 150 [some (.ref 24), o1, o2, some (.int x3)] [] (mk s) (encV r) := by
  unfold f186_150 at h
  refine Ev.run (pc' := 161) (ls' := [some (.ref 24), o1, o2, some (.int x3)]) (st' := [.int ((zi 48) + (zrem (x3 / (zi 10)) (zi 10))), .ref 24]) (h' := mk s) 8 rfl ?_
  obtain ⟨s1, hq, h⟩ := zb0_some h
  refine Ev.call (M' := mm181) (v := none) (h' := mk s1) rfl rfl rfl (Nat.le_of_ble_eq_true rfl) (k181 hq) ?_
  refine Ev.run (pc' := 172) (ls' := [some (.ref 24), o1, o2, some (.int x3)]) (st' := [.int ((zi 48) + (zrem x3 (zi 10))), .ref 24]) (h' := mk s1) 6 rfl ?_
  obtain ⟨s2, hq, h⟩ := zb0_some h
  refine Ev.call (M' := mm181) (v := none) (h' := mk s2) rfl rfl rfl (Nat.le_of_ble_eq_true rfl) (k181 hq) ?_
  cases h
  exact Ev.fin rfl rfl
def f186_132  (x2 : Int32) (y0 : Int32) (s : zS) : Option (zS) := if y0 ≤ (zi 99) then f186_150 y0 s else zb0 (f181 ((zi 48) + (y0 / (zi 100))) s) (fun s1 => f186_150 y0 s1)
theorem k186_132 {X : mX} {D : Nat}   (x2 : Int32) (y0 : Int32) (s : zS) (r : zS) (o1 : Option Value) (o3 : Option Value)  (h : f186_132  x2 y0 s = some r) : Ev X (D + 3) mm186 132 [some (.ref 24), o1, some (.int x2), o3] [.int y0] (mk s) (encV r) := by
  unfold f186_132 at h
  refine Ev.run (pc' := 136) (ls' := [some (.ref 24), o1, some (.int x2), some (.int y0)]) (st' := [.int (zi 99), .int y0]) (h' := mk s) 3 rfl ?_
  refine Ev.icmp_le (t := 150) rfl rfl (fun hb => ?_) (fun hb => ?_)
  · have h := (if_pos hb).symm.trans h
    exact k186_150 y0 s _ _ _ h
  · have h := (if_neg hb).symm.trans h
    refine Ev.run (pc' := 147) (ls' := [some (.ref 24), o1, some (.int x2), some (.int y0)]) (st' := [.int ((zi 48) + (y0 / (zi 100))), .ref 24]) (h' := mk s) 6 rfl ?_
    obtain ⟨s1, hq, h⟩ := zb0_some h
    refine Ev.call (M' := mm181) (v := none) (h' := mk s1) rfl rfl rfl (Nat.le_of_ble_eq_true rfl) (k181 hq) ?_
    exact k186_150 y0 s1 _ _ _ h
def f186_119  (x2 : Int32) (y1 : Int32) (s : zS) : Option (zS) := zb0 (f181 y1 s) (fun s1 => if x2 ≥ zi 0 then f186_132 x2 x2 s1 else f186_132 x2 (-x2) s1)
theorem k186_119 {X : mX} {D : Nat}   (x2 : Int32) (y1 : Int32) (s : zS) (r : zS) (o1 : Option Value) (o3 : Option Value)  (h : f186_119  x2 y1 s = some r) : Ev X (D + 3) mm186 119 [some (.ref 24), o1, some (.int x2), o3] [.int y1, .ref 24] (mk s) (encV r) := by
  unfold f186_119 at h
  obtain ⟨s1, hq, h⟩ := zb0_some h
  refine Ev.call (M' := mm181) (v := none) (h' := mk s1) rfl rfl rfl (Nat.le_of_ble_eq_true rfl) (k181 hq) ?_
  refine Ev.run (pc' := 123) (ls' := [some (.ref 24), o1, some (.int x2), o3]) (st' := [.int x2]) (h' := mk s1) 1 rfl ?_
  refine Ev.if_ge (t := 131) rfl rfl (fun hb => ?_) (fun hb => ?_)
  · have h := (if_pos hb).symm.trans h
    refine Ev.run (pc' := 132) (ls' := [some (.ref 24), o1, some (.int x2), o3]) (st' := [.int x2]) (h' := mk s1) 1 rfl ?_
    exact k186_132 x2 x2 s1 _ _ _ h
  · have h := (if_neg hb).symm.trans h
    refine Ev.run (pc' := 132) (ls' := [some (.ref 24), o1, some (.int x2), o3]) (st' := [.int (-x2)]) (h' := mk s1) 3 rfl ?_
    exact k186_132 x2 (-x2) s1 _ _ _ h
def b186_76 (rec76 : Int32 → Int32 → Int32 → zS → Option (zS)) (x1 : Int32) (x2 : Int32) (x3 : Int32) (s : zS) : Option (zS) := if x3 < (x2 - x1) then zb0 (f181 (zi 101) s) (fun s1 => if x2 ≥ zi 0 then f186_119 x2 (zi 43) s1 else f186_119 x2 (zi 45) s1) else zb1 (f165 x3 s) (fun v3 s2 => zb0 (f181 ((zi 48) + v3) s2) (fun s4 => rec76 x1 x2 (x3 + zi (-1)) s4))
theorem kb186_76 {X : mX} {D : Nat} {rec76 : Int32 → Int32 → Int32 → zS → Option (zS)} (hrec76 : ∀ (x1 : Int32) (x2 : Int32) (x3 : Int32) (s : zS) (r : zS) , rec76 x1 x2 x3 s = some r → Ev X (D + 3) mm186 76 [some (.ref 24), some (.int x1), some (.int x2), some (.int x3)] [] (mk s) (encV r)) (x1 : Int32) (x2 : Int32) (x3 : Int32) (s : zS) (r : zS)   (h : b186_76 rec76 x1 x2 x3 s = some r) : Ev X (D + 3) mm186 76 [some (.ref 24), some (.int x1), some (.int x2), some (.int x3)] [] (mk s) (encV r) := by
  unfold b186_76 at h
  refine Ev.run (pc' := 80) (ls' := [some (.ref 24), some (.int x1), some (.int x2), some (.int x3)]) (st' := [.int (x2 - x1), .int x3]) (h' := mk s) 4 rfl ?_
  refine Ev.icmp_lt (t := 101) rfl rfl (fun hb => ?_) (fun hb => ?_)
  · have h := (if_pos hb).symm.trans h
    refine Ev.run (pc' := 104) (ls' := [some (.ref 24), some (.int x1), some (.int x2), some (.int x3)]) (st' := [.int (zi 101), .ref 24]) (h' := mk s) 2 rfl ?_
    obtain ⟨s1, hq, h⟩ := zb0_some h
    refine Ev.call (M' := mm181) (v := none) (h' := mk s1) rfl rfl rfl (Nat.le_of_ble_eq_true rfl) (k181 hq) ?_
    refine Ev.run (pc' := 109) (ls' := [some (.ref 24), some (.int x1), some (.int x2), some (.int x3)]) (st' := [.int x2, .ref 24]) (h' := mk s1) 2 rfl ?_
    refine Ev.if_ge (t := 117) rfl rfl (fun hb => ?_) (fun hb => ?_)
    · have h := (if_pos hb).symm.trans h
      refine Ev.run (pc' := 119) (ls' := [some (.ref 24), some (.int x1), some (.int x2), some (.int x3)]) (st' := [.int (zi 43), .ref 24]) (h' := mk s1) 1 rfl ?_
      exact k186_119 x2 (zi 43) s1 _ _ _ h
    · have h := (if_neg hb).symm.trans h
      refine Ev.run (pc' := 119) (ls' := [some (.ref 24), some (.int x1), some (.int x2), some (.int x3)]) (st' := [.int (zi 45), .ref 24]) (h' := mk s1) 2 rfl ?_
      exact k186_119 x2 (zi 45) s1 _ _ _ h
  · have h := (if_neg hb).symm.trans h
    refine Ev.run (pc' := 88) (ls' := [some (.ref 24), some (.int x1), some (.int x2), some (.int x3)]) (st' := [.int x3, .ref 24, .int (zi 48), .ref 24]) (h' := mk s) 4 rfl ?_
    obtain ⟨v3, s2, hq, h⟩ := zb1_some h
    refine Ev.call (M' := mm165) (v := some (.int v3)) (h' := mk s2) rfl rfl rfl (Nat.le_of_ble_eq_true rfl) (k165 hq) ?_
    refine Ev.run (pc' := 92) (ls' := [some (.ref 24), some (.int x1), some (.int x2), some (.int x3)]) (st' := [.int ((zi 48) + v3), .ref 24]) (h' := mk s2) 1 rfl ?_
    obtain ⟨s4, hq, h⟩ := zb0_some h
    refine Ev.call (M' := mm181) (v := none) (h' := mk s4) rfl rfl rfl (Nat.le_of_ble_eq_true rfl) (k181 hq) ?_
    refine Ev.run (pc' := 76) (ls' := [some (.ref 24), some (.int x1), some (.int x2), some (.int (x3 + zi (-1)))]) (st' := []) (h' := mk s4) 2 rfl ?_
    exact hrec76 x1 x2 (x3 + zi (-1)) s4 _ h
def f186_76  : Nat → Int32 → Int32 → Int32 → zS → Option (zS)
  | 0, _, _, _, _ => none
  | n + 1, x1, x2, x3, s => b186_76 (f186_76 n) x1 x2 x3 s
theorem k186_76 {X : mX} {D : Nat}   (n : Nat) : ∀ (x1 : Int32) (x2 : Int32) (x3 : Int32) (s : zS) (r : zS) , f186_76  n x1 x2 x3 s = some r → Ev X (D + 3) mm186 76 [some (.ref 24), some (.int x1), some (.int x2), some (.int x3)] [] (mk s) (encV r) := by
  induction n with
  | zero => intro x1 x2 x3 s r   h; cases h
  | succ n ih => intro x1 x2 x3 s r   h; exact kb186_76  ih x1 x2 x3 s r   h
def f186_66  (x1 : Int32) (x2 : Int32) (s : zS) : Option (zS) := zb0 (f181 (zi 46) s) (fun s1 => f186_76 zF x1 x2 (x2 - (zi 1)) s1)
theorem k186_66 {X : mX} {D : Nat}   (x1 : Int32) (x2 : Int32) (s : zS) (r : zS) (o3 : Option Value)  (h : f186_66  x1 x2 s = some r) : Ev X (D + 3) mm186 66 [some (.ref 24), some (.int x1), some (.int x2), o3] [] (mk s) (encV r) := by
  unfold f186_66 at h
  refine Ev.run (pc' := 69) (ls' := [some (.ref 24), some (.int x1), some (.int x2), o3]) (st' := [.int (zi 46), .ref 24]) (h' := mk s) 2 rfl ?_
  obtain ⟨s1, hq, h⟩ := zb0_some h
  refine Ev.call (M' := mm181) (v := none) (h' := mk s1) rfl rfl rfl (Nat.le_of_ble_eq_true rfl) (k181 hq) ?_
  refine Ev.run (pc' := 76) (ls' := [some (.ref 24), some (.int x1), some (.int x2), some (.int (x2 - (zi 1)))]) (st' := []) (h' := mk s1) 4 rfl ?_
  exact k186_76 zF x1 x2 (x2 - (zi 1)) s1 _ h
def f186_39  (x1 : Int32) (x2 : Int32) (s : zS) : Option (zS) := zb1 (f165 x2 s) (fun v2 s1 => zb0 (f181 ((zi 48) + v2) s1) (fun s3 => if x1 > zi 0 then f186_66 x1 x2 s3 else if (r180 (s3.1 24 15) (zi 2) s3) = zi 0 then f186_76 zF x1 x2 (x2 - (zi 1)) s3 else f186_66 x1 x2 s3))
theorem k186_39 {X : mX} {D : Nat}   (x1 : Int32) (x2 : Int32) (s : zS) (r : zS) (o3 : Option Value)  (h : f186_39  x1 x2 s = some r) : Ev X (D + 3) mm186 39 [some (.ref 24), some (.int x1), some (.int x2), o3] [] (mk s) (encV r) := by
  unfold f186_39 at h
  refine Ev.run (pc' := 44) (ls' := [some (.ref 24), some (.int x1), some (.int x2), o3]) (st' := [.int x2, .ref 24, .int (zi 48), .ref 24]) (h' := mk s) 4 rfl ?_
  obtain ⟨v2, s1, hq, h⟩ := zb1_some h
  refine Ev.call (M' := mm165) (v := some (.int v2)) (h' := mk s1) rfl rfl rfl (Nat.le_of_ble_eq_true rfl) (k165 hq) ?_
  refine Ev.run (pc' := 48) (ls' := [some (.ref 24), some (.int x1), some (.int x2), o3]) (st' := [.int ((zi 48) + v2), .ref 24]) (h' := mk s1) 1 rfl ?_
  obtain ⟨s3, hq, h⟩ := zb0_some h
  refine Ev.call (M' := mm181) (v := none) (h' := mk s3) rfl rfl rfl (Nat.le_of_ble_eq_true rfl) (k181 hq) ?_
  refine Ev.run (pc' := 52) (ls' := [some (.ref 24), some (.int x1), some (.int x2), o3]) (st' := [.int x1]) (h' := mk s3) 1 rfl ?_
  refine Ev.if_gt (t := 66) rfl rfl (fun hb => ?_) (fun hb => ?_)
  · have h := (if_pos hb).symm.trans h
    exact k186_66 x1 x2 s3 _ _ h
  · have h := (if_neg hb).symm.trans h
    refine Ev.run (pc' := 60) (ls' := [some (.ref 24), some (.int x1), some (.int x2), o3]) (st' := [.int (zi 2), .int (s3.1 24 15)]) (h' := mk s3) 3 rfl ?_
    refine Ev.call (M' := mm180) (v := some (.int (r180 (s3.1 24 15) (zi 2) s3))) (h' := mk s3) rfl rfl rfl (Nat.le_of_ble_eq_true rfl) (k180 (x0 := (s3.1 24 15)) (x1 := (zi 2)) (s := s3)  rfl) ?_
    refine Ev.if_eq (t := 72) rfl rfl (fun hb => ?_) (fun hb => ?_)
    · have h := (if_pos hb).symm.trans h
      refine Ev.run (pc' := 76) (ls' := [some (.ref 24), some (.int x1), some (.int x2), some (.int (x2 - (zi 1)))]) (st' := []) (h' := mk s3) 4 rfl ?_
      exact k186_76 zF x1 x2 (x2 - (zi 1)) s3 _ h
    · have h := (if_neg hb).symm.trans h
      exact k186_66 x1 x2 s3 _ _ h
def f186  (x1 : Int32) (s : zS) : Option (zS) := zb1 (f236 32 s) (fun v2 s1 => if v2 = zi 0 then zb1 (f237 32 s1) (fun v4 s3 => zb0 (f163 (v4 - x1) s3) (fun s5 => f186_39 x1 (s5.1 24 27) s5)) else zb0 (f163 (-x1) s1) (fun s6 => f186_39 x1 (zi 0) s6))
theorem k186 {X : mX} {D : Nat} {x1 : Int32} {s : zS} {r : zS}  (h : f186 x1 s = some r) : Ev X (D + 3) mm186 0 [some (.ref 24), some (.int x1), none, none] [] (mk s) (encV r) := by
  unfold f186 at h
  refine Ev.run (pc' := 6) (ls' := [some (.ref 24), some (.int x1), some (.int (zi 0)), none]) (st' := [.ref 32]) (h' := mk s) 4 rfl ?_
  obtain ⟨v2, s1, hq, h⟩ := zb1_some h
  refine Ev.call (M' := mm236) (v := some (.int v2)) (h' := mk s1) rfl rfl rfl (Nat.le_of_ble_eq_true rfl) (k236 (by decide) hq) ?_
  refine Ev.if_eq (t := 21) rfl rfl (fun hb => ?_) (fun hb => ?_)
  · have h := (if_pos hb).symm.trans h
    refine Ev.run (pc' := 26) (ls' := [some (.ref 24), some (.int x1), some (.int (zi 0)), none]) (st' := [.ref 32, .ref 24]) (h' := mk s1) 3 rfl ?_
    obtain ⟨v4, s3, hq, h⟩ := zb1_some h
    refine Ev.call (M' := mm237) (v := some (.int v4)) (h' := mk s3) rfl rfl rfl (Nat.le_of_ble_eq_true rfl) (k237 (by decide) hq) ?_
    refine Ev.run (pc' := 31) (ls' := [some (.ref 24), some (.int x1), some (.int (zi 0)), none]) (st' := [.int (v4 - x1), .ref 24]) (h' := mk s3) 2 rfl ?_
    obtain ⟨s5, hq, h⟩ := zb0_some h
    refine Ev.call (M' := mm163) (v := none) (h' := mk s5) rfl rfl rfl (Nat.le_of_ble_eq_true rfl) (k163 hq) ?_
    refine Ev.run (pc' := 39) (ls' := [some (.ref 24), some (.int x1), some (.int (s5.1 24 27)), none]) (st' := []) (h' := mk s5) 3 rfl ?_
    exact k186_39 x1 (s5.1 24 27) s5 _ _ h
  · have h := (if_neg hb).symm.trans h
    refine Ev.run (pc' := 15) (ls' := [some (.ref 24), some (.int x1), some (.int (zi 0)), none]) (st' := [.int (-x1), .ref 24]) (h' := mk s1) 3 rfl ?_
    obtain ⟨s6, hq, h⟩ := zb0_some h
    refine Ev.call (M' := mm163) (v := none) (h' := mk s6) rfl rfl rfl (Nat.le_of_ble_eq_true rfl) (k163 hq) ?_
    refine Ev.run (pc' := 39) (ls' := [some (.ref 24), some (.int x1), some (.int (zi 0)), none]) (st' := []) (h' := mk s6) 1 rfl ?_
    exact k186_39 x1 (zi 0) s6 _ _ h
/-! 187 FModel.general(I)V -/
def f187_65  (x1 : Int32) (s : zS) : Option (zS) := zb0 (f186 (x1 - (zi 1)) s) (fun s1 => some s1)
theorem k187_65 {X : mX} {D : Nat}   (x1 : Int32) (s : zS) (r : zS)   (h : f187_65  x1 s = some r) : Ev X (D + 4) mm187 65 [some (.ref 24), some (.int x1)] [] (mk s) (encV r) := by
  unfold f187_65 at h
  refine Ev.run (pc' := 69) (ls' := [some (.ref 24), some (.int x1)]) (st' := [.int (x1 - (zi 1)), .ref 24]) (h' := mk s) 4 rfl ?_
  obtain ⟨s1, hq, h⟩ := zb0_some h
  refine Ev.call (M' := mm186) (v := none) (h' := mk s1) rfl rfl rfl (Nat.le_of_ble_eq_true rfl) (k186 hq) ?_
  cases h
  exact Ev.fin rfl rfl
def f187  (x1 : Int32) (s : zS) : Option (zS) := zb1 (f236 32 s) (fun v2 s1 => if v2 = zi 0 then zb1 (f237 32 s1) (fun v4 s3 => zb0 (f163 ((v4 - x1) + (zi 1)) s3) (fun s5 => if (s5.1 24 27) < (zi (-4)) then f187_65 x1 s5 else if (s5.1 24 27) ≥ x1 then f187_65 x1 s5 else zb0 (f185 ((x1 - (zi 1)) - (s5.1 24 27)) s5) (fun s6 => some s6))) else zb0 (f185 (x1 - (zi 1)) s1) (fun s7 => some s7))
theorem k187 {X : mX} {D : Nat} {x1 : Int32} {s : zS} {r : zS}  (h : f187 x1 s = some r) : Ev X (D + 4) mm187 0 [some (.ref 24), some (.int x1)] [] (mk s) (encV r) := by
  unfold f187 at h
  refine Ev.run (pc' := 4) (ls' := [some (.ref 24), some (.int x1)]) (st' := [.ref 32]) (h' := mk s) 2 rfl ?_
  obtain ⟨v2, s1, hq, h⟩ := zb1_some h
  refine Ev.call (M' := mm236) (v := some (.int v2)) (h' := mk s1) rfl rfl rfl (Nat.le_of_ble_eq_true rfl) (k236 (by decide) hq) ?_
  refine Ev.if_eq (t := 18) rfl rfl (fun hb => ?_) (fun hb => ?_)
  · have h := (if_pos hb).symm.trans h
    refine Ev.run (pc' := 23) (ls' := [some (.ref 24), some (.int x1)]) (st' := [.ref 32, .ref 24]) (h' := mk s1) 3 rfl ?_
    obtain ⟨v4, s3, hq, h⟩ := zb1_some h
    refine Ev.call (M' := mm237) (v := some (.int v4)) (h' := mk s3) rfl rfl rfl (Nat.le_of_ble_eq_true rfl) (k237 (by decide) hq) ?_
    refine Ev.run (pc' := 30) (ls' := [some (.ref 24), some (.int x1)]) (st' := [.int ((v4 - x1) + (zi 1)), .ref 24]) (h' := mk s3) 4 rfl ?_
    obtain ⟨s5, hq, h⟩ := zb0_some h
    refine Ev.call (M' := mm163) (v := none) (h' := mk s5) rfl rfl rfl (Nat.le_of_ble_eq_true rfl) (k163 hq) ?_
    refine Ev.run (pc' := 39) (ls' := [some (.ref 24), some (.int x1)]) (st' := [.int (zi (-4)), .int (s5.1 24 27)]) (h' := mk s5) 3 rfl ?_
    refine Ev.icmp_lt (t := 65) rfl rfl (fun hb => ?_) (fun hb => ?_)
    · have h := (if_pos hb).symm.trans h
      exact k187_65 x1 s5 _ h
    · have h := (if_neg hb).symm.trans h
      refine Ev.run (pc' := 47) (ls' := [some (.ref 24), some (.int x1)]) (st' := [.int x1, .int (s5.1 24 27)]) (h' := mk s5) 3 rfl ?_
      refine Ev.icmp_ge (t := 65) rfl rfl (fun hb => ?_) (fun hb => ?_)
      · have h := (if_pos hb).symm.trans h
        exact k187_65 x1 s5 _ h
      · have h := (if_neg hb).symm.trans h
        refine Ev.run (pc' := 59) (ls' := [some (.ref 24), some (.int x1)]) (st' := [.int ((x1 - (zi 1)) - (s5.1 24 27)), .ref 24]) (h' := mk s5) 7 rfl ?_
        obtain ⟨s6, hq, h⟩ := zb0_some h
        refine Ev.call (M' := mm185) (v := none) (h' := mk s6) rfl rfl rfl (Nat.le_of_ble_eq_true rfl) (k185 hq) ?_
        refine Ev.run (pc' := 72) (ls' := [some (.ref 24), some (.int x1)]) (st' := []) (h' := mk s6) 1 rfl ?_
        cases h
        exact Ev.fin rfl rfl
  · have h := (if_neg hb).symm.trans h
    refine Ev.run (pc' := 14) (ls' := [some (.ref 24), some (.int x1)]) (st' := [.int (x1 - (zi 1)), .ref 24]) (h' := mk s1) 4 rfl ?_
    obtain ⟨s7, hq, h⟩ := zb0_some h
    refine Ev.call (M' := mm185) (v := none) (h' := mk s7) rfl rfl rfl (Nat.le_of_ble_eq_true rfl) (k185 hq) ?_
    cases h
    exact Ev.fin rfl rfl
/-! 184 FModel.real()V -/
def f184_237  (x3 : Int32) (s : zS) : Option (zS) := zb0 (f182 x3 (zi 0) (zi 1) s) (fun s1 => some s1)
theorem k184_237 {X : mX} {D : Nat}   (x3 : Int32) (s : zS) (r : zS) (o1 : Option Value) (o2 : Option Value) (o4 : Option Value) (o5 : Option Value)  (h : f184_237  x3 s = some r) : Ev X (D + 7) mm184 237 [some (.ref 24), o1, o2, some (.int x3), o4, o5] [] (mk s) (encV r) := by
  unfold f184_237 at h
  refine Ev.run (pc' := 241) (ls' := [some (.ref 24), o1, o2, some (.int x3), o4, o5]) (st' := [.int (zi 1), .int (zi 0), .int x3, .ref 24]) (h' := mk s) 4 rfl ?_
  obtain ⟨s1, hq, h⟩ := zb0_some h
  refine Ev.call (M' := mm182) (v := none) (h' := mk s1) rfl rfl rfl (Nat.le_of_ble_eq_true rfl) (k182 hq) ?_
  cases h
  exact Ev.fin rfl rfl
def f184_234  (x3 : Int32) (y1 : Int32) (s : zS) : Option (zS) := zb0 (f187 y1 s) (fun s1 => f184_237 x3 s1)
theorem k184_234 {X : mX} {D : Nat}   (x3 : Int32) (y1 : Int32) (s : zS) (r : zS) (o1 : Option Value) (o2 : Option Value) (o4 : Option Value) (o5 : Option Value)  (h : f184_234  x3 y1 s = some r) : Ev X (D + 7) mm184 234 [some (.ref 24), o1, o2, some (.int x3), o4, o5] [.int y1, .ref 24] (mk s) (encV r) := by
  unfold f184_234 at h
  obtain ⟨s1, hq, h⟩ := zb0_some h
  refine Ev.call (M' := mm187) (v := none) (h' := mk s1) rfl rfl rfl (Nat.le_of_ble_eq_true rfl) (k187 hq) ?_
  exact k184_237 x3 s1 _ _ _ _ _ h
def f184_184  (x3 : Int32) (y0 : Int32) (s : zS) : Option (zS) := if ¬ (s.1 24 18) = (zi 102) then if ¬ (s.1 24 18) = (zi 101) then if ¬ y0 = zi 0 then f184_234 x3 y0 s else f184_234 x3 (zi 1) s else zb0 (f186 y0 s) (fun s1 => f184_237 x3 s1) else zb0 (f185 y0 s) (fun s2 => f184_237 x3 s2)
theorem k184_184 {X : mX} {D : Nat}   (x3 : Int32) (y0 : Int32) (s : zS) (r : zS) (o1 : Option Value) (o2 : Option Value) (o4 : Option Value) (o5 : Option Value)  (h : f184_184  x3 y0 s = some r) : Ev X (D + 7) mm184 184 [some (.ref 24), o1, o2, some (.int x3), o4, o5] [.int y0] (mk s) (encV r) := by
  unfold f184_184 at h
  refine Ev.run (pc' := 192) (ls' := [some (.ref 24), o1, o2, some (.int x3), some (.int y0), o5]) (st' := [.int (zi 102), .int (s.1 24 18)]) (h' := mk s) 4 rfl ?_
  refine Ev.icmp_ne (t := 204) rfl rfl (fun hb => ?_) (fun hb => ?_)
  · have h := (if_pos hb).symm.trans h
    refine Ev.run (pc' := 210) (ls' := [some (.ref 24), o1, o2, some (.int x3), some (.int y0), o5]) (st' := [.int (zi 101), .int (s.1 24 18)]) (h' := mk s) 3 rfl ?_
    refine Ev.icmp_ne (t := 222) rfl rfl (fun hb => ?_) (fun hb => ?_)
    · have h := (if_pos hb).symm.trans h
      refine Ev.run (pc' := 225) (ls' := [some (.ref 24), o1, o2, some (.int x3), some (.int y0), o5]) (st' := [.int y0, .ref 24]) (h' := mk s) 2 rfl ?_
      refine Ev.if_ne (t := 232) rfl rfl (fun hb => ?_) (fun hb => ?_)
      · have h := (if_pos hb).symm.trans h
        refine Ev.run (pc' := 234) (ls' := [some (.ref 24), o1, o2, some (.int x3), some (.int y0), o5]) (st' := [.int y0, .ref 24]) (h' := mk s) 1 rfl ?_
        exact k184_234 x3 y0 s _ _ _ _ _ h
      · have h := (if_neg hb).symm.trans h
        refine Ev.run (pc' := 234) (ls' := [some (.ref 24), o1, o2, some (.int x3), some (.int y0), o5]) (st' := [.int (zi 1), .ref 24]) (h' := mk s) 2 rfl ?_
        exact k184_234 x3 (zi 1) s _ _ _ _ _ h
    · have h := (if_neg hb).symm.trans h
      refine Ev.run (pc' := 216) (ls' := [some (.ref 24), o1, o2, some (.int x3), some (.int y0), o5]) (st' := [.int y0, .ref 24]) (h' := mk s) 2 rfl ?_
      obtain ⟨s1, hq, h⟩ := zb0_some h
      refine Ev.call (M' := mm186) (v := none) (h' := mk s1) rfl rfl rfl (Nat.le_of_ble_eq_true rfl) (k186 hq) ?_
      refine Ev.run (pc' := 237) (ls' := [some (.ref 24), o1, o2, some (.int x3), some (.int y0), o5]) (st' := []) (h' := mk s1) 1 rfl ?_
      exact k184_237 x3 s1 _ _ _ _ _ h
  · have h := (if_neg hb).symm.trans h
    refine Ev.run (pc' := 198) (ls' := [some (.ref 24), o1, o2, some (.int x3), some (.int y0), o5]) (st' := [.int y0, .ref 24]) (h' := mk s) 2 rfl ?_
    obtain ⟨s2, hq, h⟩ := zb0_some h
    refine Ev.call (M' := mm185) (v := none) (h' := mk s2) rfl rfl rfl (Nat.le_of_ble_eq_true rfl) (k185 hq) ?_
    refine Ev.run (pc' := 237) (ls' := [some (.ref 24), o1, o2, some (.int x3), some (.int y0), o5]) (st' := []) (h' := mk s2) 1 rfl ?_
    exact k184_237 x3 s2 _ _ _ _ _ h
def b184_99 (rec99 : Int32 → Int32 → zS → Option (zS)) (x3 : Int32) (x5 : Int32) (s : zS) : Option (zS) := if x5 ≥ (zi 8) then zb0 (f182 x3 (zi 0) (zi 0) s) (fun s1 => some s1) else if mIx x5 (zlenN 64) then zb0 (f181 (zchr 64 x5) s) (fun s2 => rec99 x3 (x5 + zi 1) s2) else none
theorem kb184_99 {X : mX} {D : Nat} {rec99 : Int32 → Int32 → zS → Option (zS)} (hrec99 : ∀ (x3 : Int32) (x5 : Int32) (s : zS) (r : zS) (o1 : Option Value) (o2 : Option Value), rec99 x3 x5 s = some r → Ev X (D + 7) mm184 99 [some (.ref 24), o1, o2, some (.int x3), some (.ref (mRO + 3 + 2 * 64)), some (.int x5)] [] (mk s) (encV r)) (x3 : Int32) (x5 : Int32) (s : zS) (r : zS) (o1 : Option Value) (o2 : Option Value)  (h : b184_99 rec99 x3 x5 s = some r) : Ev X (D + 7) mm184 99 [some (.ref 24), o1, o2, some (.int x3), some (.ref (mRO + 3 + 2 * 64)), some (.int x5)] [] (mk s) (encV r) := by
  unfold b184_99 at h
  refine Ev.run (pc' := 103) (ls' := [some (.ref 24), o1, o2, some (.int x3), some (.ref (mRO + 3 + 2 * 64)), some (.int x5)]) (st' := [.int (zi 8), .int x5]) (h' := mk s) 2 rfl ?_
  refine Ev.icmp_ge (t := 123) rfl rfl (fun hb => ?_) (fun hb => ?_)
  · have h := (if_pos hb).symm.trans h
    refine Ev.run (pc' := 127) (ls' := [some (.ref 24), o1, o2, some (.int x3), some (.ref (mRO + 3 + 2 * 64)), some (.int x5)]) (st' := [.int (zi 0), .int (zi 0), .int x3, .ref 24]) (h' := mk s) 4 rfl ?_
    obtain ⟨s1, hq, h⟩ := zb0_some h
    refine Ev.call (M' := mm182) (v := none) (h' := mk s1) rfl rfl rfl (Nat.le_of_ble_eq_true rfl) (k182 hq) ?_
    cases h
    exact Ev.fin rfl rfl
  · have h := (if_neg hb).symm.trans h
    refine Ev.run (pc' := 111) (ls' := [some (.ref 24), o1, o2, some (.int x3), some (.ref (mRO + 3 + 2 * 64)), some (.int x5)]) (st' := [.int x5, .ref (mRO + 3 + 2 * 64), .ref 24]) (h' := mk s) 3 rfl ?_
    obtain ⟨hx, h⟩ := zif h
    refine Ev.call (M' := mm242) (as := [.ref (mRO + 3 + 2 * 64), .int x5]) (rest := [.ref 24]) (v := some (.int (zchr 64 x5))) (h' := mk s) rfl (litcall rfl rfl (by decide) rfl rfl) rfl (Nat.le_of_ble_eq_true rfl) (kcharat (by decide) hx) ?_
    obtain ⟨s2, hq, h⟩ := zb0_some h
    refine Ev.call (M' := mm181) (v := none) (h' := mk s2) rfl rfl rfl (Nat.le_of_ble_eq_true rfl) (k181 hq) ?_
    refine Ev.run (pc' := 99) (ls' := [some (.ref 24), o1, o2, some (.int x3), some (.ref (mRO + 3 + 2 * 64)), some (.int (x5 + zi 1))]) (st' := []) (h' := mk s2) 2 rfl ?_
    exact hrec99 x3 (x5 + zi 1) s2 _ _ _ h
def f184_99  : Nat → Int32 → Int32 → zS → Option (zS)
  | 0, _, _, _ => none
  | n + 1, x3, x5, s => b184_99 (f184_99 n) x3 x5 s
theorem k184_99 {X : mX} {D : Nat}   (n : Nat) : ∀ (x3 : Int32) (x5 : Int32) (s : zS) (r : zS) (o1 : Option Value) (o2 : Option Value), f184_99  n x3 x5 s = some r → Ev X (D + 7) mm184 99 [some (.ref 24), o1, o2, some (.int x3), some (.ref (mRO + 3 + 2 * 64)), some (.int x5)] [] (mk s) (encV r) := by
  induction n with
  | zero => intro x3 x5 s r o1 o2  h; cases h
  | succ n ih => intro x3 x5 s r o1 o2  h; exact kb184_99  ih x3 x5 s r o1 o2  h
def f184_78  (x1 : Int64) (x3 : Int32) (s : zS) : Option (zS) := if (r168 x1 s) = zi 0 then f184_99 zF x3 (zi 0) s else zb0 (f176 63 s) (fun s1 => some s1)
theorem k184_78 {X : mX} {D : Nat}   (x1 : Int64) (x3 : Int32) (s : zS) (r : zS) (o4 : Option Value) (o5 : Option Value)  (h : f184_78  x1 x3 s = some r) : Ev X (D + 7) mm184 78 [some (.ref 24), some (.long x1), none, some (.int x3), o4, o5] [] (mk s) (encV r) := by
  unfold f184_78 at h
  refine Ev.run (pc' := 79) (ls' := [some (.ref 24), some (.long x1), none, some (.int x3), o4, o5]) (st' := [.long x1]) (h' := mk s) 1 rfl ?_
  refine Ev.call (M' := mm168) (v := some (.int (r168 x1 s))) (h' := mk s) rfl rfl rfl (Nat.le_of_ble_eq_true rfl) (k168 (x0 := x1) (s := s)  rfl) ?_
  refine Ev.if_eq (t := 92) rfl rfl (fun hb => ?_) (fun hb => ?_)
  · have h := (if_pos hb).symm.trans h
    refine Ev.run (pc' := 99) (ls' := [some (.ref 24), some (.long x1), none, some (.int x3), some (.ref (mRO + 3 + 2 * 64)), some (.int (zi 0))]) (st' := []) (h' := mk s) 4 rfl ?_
    exact k184_99 zF x3 (zi 0) s _ _ _ h
  · have h := (if_neg hb).symm.trans h
    refine Ev.run (pc' := 88) (ls' := [some (.ref 24), some (.long x1), none, some (.int x3), o4, o5]) (st' := [.ref (mRO + 3 + 2 * 63), .ref 24]) (h' := mk s) 2 rfl ?_
    obtain ⟨s1, hq, h⟩ := zb0_some h
    refine Ev.call (M' := mm176) (v := none) (h' := mk s1) rfl rfl rfl (Nat.le_of_ble_eq_true rfl) (k176 (by decide) hq) ?_
    cases h
    exact Ev.fin rfl rfl
def f184_58  (x1 : Int64) (y0 : Int32) (s : zS) : Option (zS) := if ¬ (r168 x1 (setI s 24 33 (zi 0))) = zi 0 then f184_78 x1 y0 (setI s 24 33 (zi 0)) else if (r169 x1 (setI s 24 33 (zi 0))) = zi 0 then if ¬ (s.1 24 18) = (zi 97) then zb0 (f234 32 (r166 x1 (setI s 24 33 (zi 0))) (r167 x1 (setI s 24 33 (zi 0))) (setI s 24 33 (zi 0))) (fun s1 => if (s1.1 24 17) ≥ zi 0 then f184_184 y0 (s1.1 24 17) s1 else f184_184 y0 (zi 6) s1) else zb0 (f188 x1 (setI s 24 33 (zi 0))) (fun s2 => zb0 (f182 y0 (zi 1) (zi 1) s2) (fun s3 => some s3)) else f184_78 x1 y0 (setI s 24 33 (zi 0))
theorem k184_58 {X : mX} {D : Nat}   (x1 : Int64) (y0 : Int32) (s : zS) (r : zS) (o3 : Option Value) (o4 : Option Value) (o5 : Option Value)  (h : f184_58  x1 y0 s = some r) : Ev X (D + 7) mm184 58 [some (.ref 24), some (.long x1), none, o3, o4, o5] [.int y0] (mk s) (encV r) := by
  unfold f184_58 at h
  refine Ev.run (pc' := 61) (ls' := [some (.ref 24), some (.long x1), none, some (.int y0), o4, o5]) (st' := [.int (zi 0), .ref 24]) (h' := mk s) 3 rfl ?_
  refine Ev.step (pc' := 64) rfl (put_12_33 rfl) ?_
  refine Ev.run (pc' := 65) (ls' := [some (.ref 24), some (.long x1), none, some (.int y0), o4, o5]) (st' := [.long x1]) (h' := mk (setI s 24 33 (zi 0))) 1 rfl ?_
  refine Ev.call (M' := mm168) (v := some (.int (r168 x1 (setI s 24 33 (zi 0))))) (h' := mk (setI s 24 33 (zi 0))) rfl rfl rfl (Nat.le_of_ble_eq_true rfl) (k168 (x0 := x1) (s := setI s 24 33 (zi 0))  rfl) ?_
  refine Ev.if_ne (t := 78) rfl rfl (fun hb => ?_) (fun hb => ?_)
  · have h := (if_pos hb).symm.trans h
    exact k184_78 x1 y0 (setI s 24 33 (zi 0)) _ _ _ h
  · have h := (if_neg hb).symm.trans h
    refine Ev.run (pc' := 72) (ls' := [some (.ref 24), some (.long x1), none, some (.int y0), o4, o5]) (st' := [.long x1]) (h' := mk (setI s 24 33 (zi 0))) 1 rfl ?_
    refine Ev.call (M' := mm169) (v := some (.int (r169 x1 (setI s 24 33 (zi 0))))) (h' := mk (setI s 24 33 (zi 0))) rfl rfl rfl (Nat.le_of_ble_eq_true rfl) (k169 (x0 := x1) (s := setI s 24 33 (zi 0))  rfl) ?_
    refine Ev.if_eq (t := 131) rfl rfl (fun hb => ?_) (fun hb => ?_)
    · have h := (if_pos hb).symm.trans h
      refine Ev.run (pc' := 137) (ls' := [some (.ref 24), some (.long x1), none, some (.int y0), o4, o5]) (st' := [.int (zi 97), .int (s.1 24 18)]) (h' := mk (setI s 24 33 (zi 0))) 3 rfl ?_
      refine Ev.icmp_ne (t := 153) rfl rfl (fun hb => ?_) (fun hb => ?_)
      · have h := (if_pos hb).symm.trans h
        refine Ev.run (pc' := 158) (ls' := [some (.ref 24), some (.long x1), none, some (.int y0), o4, o5]) (st' := [.long x1, .ref 32]) (h' := mk (setI s 24 33 (zi 0))) 3 rfl ?_
        refine Ev.call (M' := mm166) (v := some (.long (r166 x1 (setI s 24 33 (zi 0))))) (h' := mk (setI s 24 33 (zi 0))) rfl rfl rfl (Nat.le_of_ble_eq_true rfl) (k166 (x0 := x1) (s := setI s 24 33 (zi 0))  rfl) ?_
        refine Ev.run (pc' := 162) (ls' := [some (.ref 24), some (.long x1), none, some (.int y0), o4, o5]) (st' := [.long x1, .long (r166 x1 (setI s 24 33 (zi 0))), .ref 32]) (h' := mk (setI s 24 33 (zi 0))) 1 rfl ?_
        refine Ev.call (M' := mm167) (v := some (.int (r167 x1 (setI s 24 33 (zi 0))))) (h' := mk (setI s 24 33 (zi 0))) rfl rfl rfl (Nat.le_of_ble_eq_true rfl) (k167 (x0 := x1) (s := setI s 24 33 (zi 0))  rfl) ?_
        obtain ⟨s1, hq, h⟩ := zb0_some h
        refine Ev.call (M' := mm234) (v := none) (h' := mk s1) rfl rfl rfl (Nat.le_of_ble_eq_true rfl) (k234 (by decide) hq) ?_
        refine Ev.run (pc' := 172) (ls' := [some (.ref 24), some (.long x1), none, some (.int y0), o4, o5]) (st' := [.int (s1.1 24 17)]) (h' := mk s1) 2 rfl ?_
        refine Ev.if_ge (t := 180) rfl rfl (fun hb => ?_) (fun hb => ?_)
        · have h := (if_pos hb).symm.trans h
          refine Ev.run (pc' := 184) (ls' := [some (.ref 24), some (.long x1), none, some (.int y0), o4, o5]) (st' := [.int (s1.1 24 17)]) (h' := mk s1) 2 rfl ?_
          exact k184_184 y0 (s1.1 24 17) s1 _ _ _ _ _ h
        · have h := (if_neg hb).symm.trans h
          refine Ev.run (pc' := 184) (ls' := [some (.ref 24), some (.long x1), none, some (.int y0), o4, o5]) (st' := [.int (zi 6)]) (h' := mk s1) 2 rfl ?_
          exact k184_184 y0 (zi 6) s1 _ _ _ _ _ h
      · have h := (if_neg hb).symm.trans h
        refine Ev.run (pc' := 142) (ls' := [some (.ref 24), some (.long x1), none, some (.int y0), o4, o5]) (st' := [.long x1, .ref 24]) (h' := mk (setI s 24 33 (zi 0))) 2 rfl ?_
        obtain ⟨s2, hq, h⟩ := zb0_some h
        refine Ev.call (M' := mm188) (v := none) (h' := mk s2) rfl rfl rfl (Nat.le_of_ble_eq_true rfl) (k188 hq) ?_
        refine Ev.run (pc' := 149) (ls' := [some (.ref 24), some (.long x1), none, some (.int y0), o4, o5]) (st' := [.int (zi 1), .int (zi 1), .int y0, .ref 24]) (h' := mk s2) 4 rfl ?_
        obtain ⟨s3, hq, h⟩ := zb0_some h
        refine Ev.call (M' := mm182) (v := none) (h' := mk s3) rfl rfl rfl (Nat.le_of_ble_eq_true rfl) (k182 hq) ?_
        cases h
        exact Ev.fin rfl rfl
    · have h := (if_neg hb).symm.trans h
      exact k184_78 x1 y0 (setI s 24 33 (zi 0)) _ _ _ h
def f184_39  (y0 : Int64) (s : zS) : Option (zS) := if y0 ≥ (zl 0) then f184_58 y0 (zi 0) s else if ¬ (r168 y0 s) = zi 0 then f184_58 y0 (zi 0) s else f184_58 y0 (zi 1) s
theorem k184_39 {X : mX} {D : Nat}   (y0 : Int64) (s : zS) (r : zS) (o1 : Option Value) (o2 : Option Value) (o3 : Option Value) (o4 : Option Value) (o5 : Option Value)  (h : f184_39  y0 s = some r) : Ev X (D + 7) mm184 39 [some (.ref 24), o1, o2, o3, o4, o5] [.long y0] (mk s) (encV r) := by
  unfold f184_39 at h
  refine Ev.run (pc' := 43) (ls' := [some (.ref 24), some (.long y0), none, o3, o4, o5]) (st' := [.int (lg_cmp y0 (zl 0))]) (h' := mk s) 4 rfl ?_
  refine Ev.ifl_ge (t := 57) rfl rfl (fun hb => ?_) (fun hb => ?_)
  · have h := (if_pos hb).symm.trans h
    refine Ev.run (pc' := 58) (ls' := [some (.ref 24), some (.long y0), none, o3, o4, o5]) (st' := [.int (zi 0)]) (h' := mk s) 1 rfl ?_
    exact k184_58 y0 (zi 0) s _ _ _ _ h
  · have h := (if_neg hb).symm.trans h
    refine Ev.run (pc' := 47) (ls' := [some (.ref 24), some (.long y0), none, o3, o4, o5]) (st' := [.long y0]) (h' := mk s) 1 rfl ?_
    refine Ev.call (M' := mm168) (v := some (.int (r168 y0 s))) (h' := mk s) rfl rfl rfl (Nat.le_of_ble_eq_true rfl) (k168 (x0 := y0) (s := s)  rfl) ?_
    refine Ev.if_ne (t := 57) rfl rfl (fun hb => ?_) (fun hb => ?_)
    · have h := (if_pos hb).symm.trans h
      refine Ev.run (pc' := 58) (ls' := [some (.ref 24), some (.long y0), none, o3, o4, o5]) (st' := [.int (zi 0)]) (h' := mk s) 1 rfl ?_
      exact k184_58 y0 (zi 0) s _ _ _ _ h
    · have h := (if_neg hb).symm.trans h
      refine Ev.run (pc' := 58) (ls' := [some (.ref 24), some (.long y0), none, o3, o4, o5]) (st' := [.int (zi 1)]) (h' := mk s) 2 rfl ?_
      exact k184_58 y0 (zi 1) s _ _ _ _ h
def f184   (s : zS) : Option (zS) := if mIx (s.1 24 35) 24 then if ¬ (s.1 29 ((s.1 24 35).toNatClampNeg)) = (zi 8) then if mIx (s.1 24 35) 24 then f184_39 (s.2.1 31 ((s.1 24 35).toNatClampNeg)) s else none else if mIx (s.1 24 35) 24 then zb1 (f170 (zL2I (s.2.1 31 ((s.1 24 35).toNatClampNeg))) s) (fun v2 s1 => f184_39 v2 s1) else none else none
theorem k184 {X : mX} {D : Nat}  {s : zS} {r : zS}  (h : f184  s = some r) : Ev X (D + 7) mm184 0 [some (.ref 24), none, none, none, none, none] [] (mk s) (encV r) := by
  unfold f184 at h
  refine Ev.run (pc' := 8) (ls' := [some (.ref 24), none, none, none, none, none]) (st' := [.int (s.1 24 35), .ref 29]) (h' := mk s) 4 rfl ?_
  obtain ⟨hx, h⟩ := zif h
  refine Ev.step (pc' := 9) rfl (ald_i rfl hx) ?_
  refine Ev.run (pc' := 11) (ls' := [some (.ref 24), none, none, none, none, none]) (st' := [.int (zi 8), .int (s.1 29 ((s.1 24 35).toNatClampNeg))]) (h' := mk s) 1 rfl ?_
  refine Ev.icmp_ne (t := 30) rfl rfl (fun hb => ?_) (fun hb => ?_)
  · have h := (if_pos hb).symm.trans h
    refine Ev.run (pc' := 38) (ls' := [some (.ref 24), none, none, none, none, none]) (st' := [.int (s.1 24 35), .ref 31]) (h' := mk s) 4 rfl ?_
    obtain ⟨hx, h⟩ := zif h
    refine Ev.step (pc' := 39) rfl (ald_l rfl hx) ?_
    exact k184_39 (s.2.1 31 ((s.1 24 35).toNatClampNeg)) s _ _ _ _ _ _ h
  · have h := (if_neg hb).symm.trans h
    refine Ev.run (pc' := 22) (ls' := [some (.ref 24), none, none, none, none, none]) (st' := [.int (s.1 24 35), .ref 31]) (h' := mk s) 4 rfl ?_
    obtain ⟨hx, h⟩ := zif h
    refine Ev.step (pc' := 23) rfl (ald_l rfl hx) ?_
    refine Ev.run (pc' := 24) (ls' := [some (.ref 24), none, none, none, none, none]) (st' := [.int (zL2I (s.2.1 31 ((s.1 24 35).toNatClampNeg)))]) (h' := mk s) 1 rfl ?_
    obtain ⟨v2, s1, hq, h⟩ := zb1_some h
    refine Ev.call (M' := mm170) (v := some (.long v2)) (h' := mk s1) rfl rfl rfl (Nat.le_of_ble_eq_true rfl) (k170 hq) ?_
    refine Ev.run (pc' := 39) (ls' := [some (.ref 24), none, none, none, none, none]) (st' := [.long v2]) (h' := mk s1) 1 rfl ?_
    exact k184_39 v2 s1 _ _ _ _ _ _ h
/-! 195 FModel.at(I)I -/
def f195  (x1 : Int32) (s : zS) : Option (Int32 × zS) := if x1 ≥ (s.1 24 34) then some (zi (-1), s) else if mIx x1 400 then some (s.1 26 x1.toNatClampNeg, s) else none
theorem k195 {X : mX} {D : Nat} {x1 : Int32} {s : zS} {r : Int32 × zS}  (h : f195 x1 s = some r) : Ev X D mm195 0 [some (.ref 24), some (.int x1)] [] (mk s) (encI r) := by
  unfold f195 at h
  refine Ev.run (pc' := 5) (ls' := [some (.ref 24), some (.int x1)]) (st' := [.int (s.1 24 34), .int x1]) (h' := mk s) 3 rfl ?_
  refine Ev.icmp_ge (t := 17) rfl rfl (fun hb => ?_) (fun hb => ?_)
  · have h := (if_pos hb).symm.trans h
    refine Ev.run (pc' := 18) (ls' := [some (.ref 24), some (.int x1)]) (st' := [.int (zi (-1))]) (h' := mk s) 1 rfl ?_
    cases h
    exact Ev.fin rfl rfl
  · have h := (if_neg hb).symm.trans h
    refine Ev.run (pc' := 13) (ls' := [some (.ref 24), some (.int x1)]) (st' := [.int x1, .ref 26]) (h' := mk s) 3 rfl ?_
    obtain ⟨hx, h⟩ := zif h
    refine Ev.step (pc' := 14) rfl (ald_b rfl hx) ?_
    refine Ev.run (pc' := 18) (ls' := [some (.ref 24), some (.int x1)]) (st' := [.int (s.1 26 x1.toNatClampNeg)]) (h' := mk s) 1 rfl ?_
    cases h
    exact Ev.fin rfl rfl
/-! 196 FModel.isDigit(I)Z -/
def r196 (x0 : Int32) (s : zS) : Int32 := if x0 < (zi 48) then zi 0 else if x0 > (zi 57) then zi 0 else zi 1
theorem k196 {X : mX} {D : Nat} {x0 : Int32} {s : zS} {v : Int32} (h : r196 x0 s = v) : Ev X D mm196 0 [some (.int x0)] [] (mk s) (encI (v, s)) := by
  unfold r196 at h
  refine Ev.run (pc' := 3) (ls' := [some (.int x0)]) (st' := [.int (zi 48), .int x0]) (h' := mk s) 2 rfl ?_
  refine Ev.icmp_lt (t := 16) rfl rfl (fun hb => ?_) (fun hb => ?_)
  · have h := (if_pos hb).symm.trans h
    refine Ev.run (pc' := 17) (ls' := [some (.int x0)]) (st' := [.int (zi 0)]) (h' := mk s) 1 rfl ?_
    subst h
    exact Ev.fin rfl rfl
  · have h := (if_neg hb).symm.trans h
    refine Ev.run (pc' := 9) (ls' := [some (.int x0)]) (st' := [.int (zi 57), .int x0]) (h' := mk s) 2 rfl ?_
    refine Ev.icmp_gt (t := 16) rfl rfl (fun hb => ?_) (fun hb => ?_)
    · have h := (if_pos hb).symm.trans h
      refine Ev.run (pc' := 17) (ls' := [some (.int x0)]) (st' := [.int (zi 0)]) (h' := mk s) 1 rfl ?_
      subst h
      exact Ev.fin rfl rfl
    · have h := (if_neg hb).symm.trans h
      refine Ev.run (pc' := 17) (ls' := [some (.int x0)]) (st' := [.int (zi 1)]) (h' := mk s) 2 rfl ?_
      subst h
      exact Ev.fin rfl rfl
/-! 197 FModel.numberEnd(I)I -/
def b197_2 (rec2 : Int32 → Int32 → zS → Option (Int32 × zS)) (x1 : Int32) (x2 : Int32) (s : zS) : Option (Int32 × zS) := zb1 (f195 x2 s) (fun v2 s1 => if (r196 v2 s1) = zi 0 then some (x2, s1) else rec2 x1 (x2 + zi 1) s1)
theorem kb197_2 {X : mX} {D : Nat} {rec2 : Int32 → Int32 → zS → Option (Int32 × zS)} (hrec2 : ∀ (x1 : Int32) (x2 : Int32) (s : zS) (r : Int32 × zS) , rec2 x1 x2 s = some r → Ev X (D + 1) mm197 2 [some (.ref 24), some (.int x1), some (.int x2)] [] (mk s) (encI r)) (x1 : Int32) (x2 : Int32) (s : zS) (r : Int32 × zS)   (h : b197_2 rec2 x1 x2 s = some r) : Ev X (D + 1) mm197 2 [some (.ref 24), some (.int x1), some (.int x2)] [] (mk s) (encI r) := by
  unfold b197_2 at h
  refine Ev.run (pc' := 4) (ls' := [some (.ref 24), some (.int x1), some (.int x2)]) (st' := [.int x2, .ref 24]) (h' := mk s) 2 rfl ?_
  obtain ⟨v2, s1, hq, h⟩ := zb1_some h
  refine Ev.call (M' := mm195) (v := some (.int v2)) (h' := mk s1) rfl rfl rfl (Nat.le_of_ble_eq_true rfl) (k195 hq) ?_
  refine Ev.call (M' := mm196) (v := some (.int (r196 v2 s1))) (h' := mk s1) rfl rfl rfl (Nat.le_of_ble_eq_true rfl) (k196 (x0 := v2) (s := s1)  rfl) ?_
  refine Ev.if_eq (t := 19) rfl rfl (fun hb => ?_) (fun hb => ?_)
  · have h := (if_pos hb).symm.trans h
    refine Ev.run (pc' := 20) (ls' := [some (.ref 24), some (.int x1), some (.int x2)]) (st' := [.int x2]) (h' := mk s1) 1 rfl ?_
    cases h
    exact Ev.fin rfl rfl
  · have h := (if_neg hb).symm.trans h
    refine Ev.run (pc' := 2) (ls' := [some (.ref 24), some (.int x1), some (.int (x2 + zi 1))]) (st' := []) (h' := mk s1) 2 rfl ?_
    exact hrec2 x1 (x2 + zi 1) s1 _ h
def f197_2  : Nat → Int32 → Int32 → zS → Option (Int32 × zS)
  | 0, _, _, _ => none
  | n + 1, x1, x2, s => b197_2 (f197_2 n) x1 x2 s
theorem k197_2 {X : mX} {D : Nat}   (n : Nat) : ∀ (x1 : Int32) (x2 : Int32) (s : zS) (r : Int32 × zS) , f197_2  n x1 x2 s = some r → Ev X (D + 1) mm197 2 [some (.ref 24), some (.int x1), some (.int x2)] [] (mk s) (encI r) := by
  induction n with
  | zero => intro x1 x2 s r   h; cases h
  | succ n ih => intro x1 x2 s r   h; exact kb197_2  ih x1 x2 s r   h
def f197  (x1 : Int32) (s : zS) : Option (Int32 × zS) := f197_2 zF x1 x1 s
theorem k197 {X : mX} {D : Nat} {x1 : Int32} {s : zS} {r : Int32 × zS}  (h : f197 x1 s = some r) : Ev X (D + 1) mm197 0 [some (.ref 24), some (.int x1), none] [] (mk s) (encI r) := by
  unfold f197 at h
  refine Ev.run (pc' := 2) (ls' := [some (.ref 24), some (.int x1), some (.int x1)]) (st' := []) (h' := mk s) 2 rfl ?_
  exact k197_2 zF x1 x1 s _ h
/-! 198 FModel.numberAt(II)I -/
def b198_5 (rec5 : Int32 → Int32 → Int32 → zS → Option (Int32 × zS)) (x2 : Int32) (x3 : Int32) (x4 : Int32) (s : zS) : Option (Int32 × zS) := if x4 ≥ x2 then some (x3, s) else zb1 (f195 x4 s) (fun v2 s1 => rec5 x2 ((((zi 10) * x3) + v2) - (zi 48)) (x4 + zi 1) s1)
theorem kb198_5 {X : mX} {D : Nat} {rec5 : Int32 → Int32 → Int32 → zS → Option (Int32 × zS)} (hrec5 : ∀ (x2 : Int32) (x3 : Int32) (x4 : Int32) (s : zS) (r : Int32 × zS) (o1 : Option Value), rec5 x2 x3 x4 s = some r → Ev X (D + 1) mm198 5 [some (.ref 24), o1, some (.int x2), some (.int x3), some (.int x4)] [] (mk s) (encI r)) (x2 : Int32) (x3 : Int32) (x4 : Int32) (s : zS) (r : Int32 × zS) (o1 : Option Value)  (h : b198_5 rec5 x2 x3 x4 s = some r) : Ev X (D + 1) mm198 5 [some (.ref 24), o1, some (.int x2), some (.int x3), some (.int x4)] [] (mk s) (encI r) := by
  unfold b198_5 at h
  refine Ev.run (pc' := 8) (ls' := [some (.ref 24), o1, some (.int x2), some (.int x3), some (.int x4)]) (st' := [.int x2, .int x4]) (h' := mk s) 2 rfl ?_
  refine Ev.icmp_ge (t := 32) rfl rfl (fun hb => ?_) (fun hb => ?_)
  · have h := (if_pos hb).symm.trans h
    refine Ev.run (pc' := 33) (ls' := [some (.ref 24), o1, some (.int x2), some (.int x3), some (.int x4)]) (st' := [.int x3]) (h' := mk s) 1 rfl ?_
    cases h
    exact Ev.fin rfl rfl
  · have h := (if_neg hb).symm.trans h
    refine Ev.run (pc' := 18) (ls' := [some (.ref 24), o1, some (.int x2), some (.int x3), some (.int x4)]) (st' := [.int x4, .ref 24, .int ((zi 10) * x3)]) (h' := mk s) 5 rfl ?_
    obtain ⟨v2, s1, hq, h⟩ := zb1_some h
    refine Ev.call (M' := mm195) (v := some (.int v2)) (h' := mk s1) rfl rfl rfl (Nat.le_of_ble_eq_true rfl) (k195 hq) ?_
    refine Ev.run (pc' := 5) (ls' := [some (.ref 24), o1, some (.int x2), some (.int ((((zi 10) * x3) + v2) - (zi 48))), some (.int (x4 + zi 1))]) (st' := []) (h' := mk s1) 6 rfl ?_
    exact hrec5 x2 ((((zi 10) * x3) + v2) - (zi 48)) (x4 + zi 1) s1 _ _ h
def f198_5  : Nat → Int32 → Int32 → Int32 → zS → Option (Int32 × zS)
  | 0, _, _, _, _ => none
  | n + 1, x2, x3, x4, s => b198_5 (f198_5 n) x2 x3 x4 s
theorem k198_5 {X : mX} {D : Nat}   (n : Nat) : ∀ (x2 : Int32) (x3 : Int32) (x4 : Int32) (s : zS) (r : Int32 × zS) (o1 : Option Value), f198_5  n x2 x3 x4 s = some r → Ev X (D + 1) mm198 5 [some (.ref 24), o1, some (.int x2), some (.int x3), some (.int x4)] [] (mk s) (encI r) := by
  induction n with
  | zero => intro x2 x3 x4 s r o1  h; cases h
  | succ n ih => intro x2 x3 x4 s r o1  h; exact kb198_5  ih x2 x3 x4 s r o1  h
def f198  (x1 : Int32) (x2 : Int32) (s : zS) : Option (Int32 × zS) := f198_5 zF x2 (zi 0) x1 s
theorem k198 {X : mX} {D : Nat} {x1 : Int32} {x2 : Int32} {s : zS} {r : Int32 × zS}  (h : f198 x1 x2 s = some r) : Ev X (D + 1) mm198 0 [some (.ref 24), some (.int x1), some (.int x2), none, none] [] (mk s) (encI r) := by
  unfold f198 at h
  refine Ev.run (pc' := 5) (ls' := [some (.ref 24), some (.int x1), some (.int x2), some (.int (zi 0)), some (.int x1)]) (st' := []) (h' := mk s) 4 rfl ?_
  exact k198_5 zF x2 (zi 0) x1 s _ _ h
/-! 200 FModel.taken(I)I -/
def r200 (x0 : Int32) (s : zS) : Int32 := if x0 = zi 97 then zi 31 else if x0 = zi 100 then zi 125 else if x0 = zi 101 then zi 95 else if x0 = zi 102 then zi 127 else if x0 = zi 103 then zi 125 else if x0 = zi 110 then zi 0 else if x0 = zi 111 ∨ x0 = zi 120 then zi 19 else zi 1
theorem k200 {X : mX} {D : Nat} {x0 : Int32} {s : zS} {v : Int32} (h : r200 x0 s = v) : Ev X D mm200 0 [some (.int x0)] [] (mk s) (encI (v, s)) := by
  unfold r200 at h
  refine Ev.run (pc' := 1) (ls' := [some (.int x0)]) (st' := [.int x0]) (h' := mk s) 1 rfl ?_
  by_cases hb : x0 = zi 97
  · have h := (if_pos hb).symm.trans h
    refine Ev.tsw (t := 129) (k := 97) rfl hb (by rfl) ?_
    refine Ev.run (pc' := 131) (ls' := [some (.int x0)]) (st' := [.int (zi 31)]) (h' := mk s) 1 rfl ?_
    subst h
    exact Ev.fin rfl rfl
  have h := (if_neg hb).symm.trans h
  have n_97 := hb
  clear hb
  by_cases hb : x0 = zi 100
  · have h := (if_pos hb).symm.trans h
    refine Ev.tsw (t := 114) (k := 100) rfl hb (by rfl) ?_
    refine Ev.run (pc' := 116) (ls' := [some (.int x0)]) (st' := [.int (zi 125)]) (h' := mk s) 1 rfl ?_
    subst h
    exact Ev.fin rfl rfl
  have h := (if_neg hb).symm.trans h
  have n_100 := hb
  clear hb
  by_cases hb : x0 = zi 101
  · have h := (if_pos hb).symm.trans h
    refine Ev.tsw (t := 120) (k := 101) rfl hb (by rfl) ?_
    refine Ev.run (pc' := 122) (ls' := [some (.int x0)]) (st' := [.int (zi 95)]) (h' := mk s) 1 rfl ?_
    subst h
    exact Ev.fin rfl rfl
  have h := (if_neg hb).symm.trans h
  have n_101 := hb
  clear hb
  by_cases hb : x0 = zi 102
  · have h := (if_pos hb).symm.trans h
    refine Ev.tsw (t := 123) (k := 102) rfl hb (by rfl) ?_
    refine Ev.run (pc' := 125) (ls' := [some (.int x0)]) (st' := [.int (zi 127)]) (h' := mk s) 1 rfl ?_
    subst h
    exact Ev.fin rfl rfl
  have h := (if_neg hb).symm.trans h
  have n_102 := hb
  clear hb
  by_cases hb : x0 = zi 103
  · have h := (if_pos hb).symm.trans h
    refine Ev.tsw (t := 126) (k := 103) rfl hb (by rfl) ?_
    refine Ev.run (pc' := 128) (ls' := [some (.int x0)]) (st' := [.int (zi 125)]) (h' := mk s) 1 rfl ?_
    subst h
    exact Ev.fin rfl rfl
  have h := (if_neg hb).symm.trans h
  have n_103 := hb
  clear hb
  by_cases hb : x0 = zi 110
  · have h := (if_pos hb).symm.trans h
    refine Ev.tsw (t := 112) (k := 110) rfl hb (by rfl) ?_
    refine Ev.run (pc' := 113) (ls' := [some (.int x0)]) (st' := [.int (zi 0)]) (h' := mk s) 1 rfl ?_
    subst h
    exact Ev.fin rfl rfl
  have h := (if_neg hb).symm.trans h
  have n_110 := hb
  clear hb
  by_cases hb : x0 = zi 111 ∨ x0 = zi 120
  · have h := (if_pos hb).symm.trans h
    refine Ev.tswx (t := 117) rfl (by rcases hb with hb | hb <;> (rw [hb]; rfl)) ?_
    refine Ev.run (pc' := 119) (ls' := [some (.int x0)]) (st' := [.int (zi 19)]) (h' := mk s) 1 rfl ?_
    subst h
    exact Ev.fin rfl rfl
  have h := (if_neg hb).symm.trans h
  have n_111 := (not_or.mp hb).1
  have hb := (not_or.mp hb).2
  have n_120 := hb
  clear hb
  refine Ev.tswd (t := 132) rfl (by rfl) (by decide) (fun q hq hx => ?_) ?_
  · have hq : q < 24 := hq
    have hq2 : q = 0 ∨ q = 1 ∨ q = 2 ∨ q = 3 ∨ q = 4 ∨ q = 5 ∨ q = 6 ∨ q = 7 ∨ q = 8 ∨ q = 9 ∨ q = 10 ∨ q = 11 ∨ q = 12 ∨ q = 13 ∨ q = 14 ∨ q = 15 ∨ q = 16 ∨ q = 17 ∨ q = 18 ∨ q = 19 ∨ q = 20 ∨ q = 21 ∨ q = 22 ∨ q = 23 := by omega
    rcases hq2 with rfl | rfl | rfl | rfl | rfl | rfl | rfl | rfl | rfl | rfl | rfl | rfl | rfl | rfl | rfl | rfl | rfl | rfl | rfl | rfl | rfl | rfl | rfl | rfl
    · exact absurd (zi_of_toInt hx) n_97
    · exact ⟨_, rfl, rfl⟩
    · exact ⟨_, rfl, rfl⟩
    · exact absurd (zi_of_toInt hx) n_100
    · exact absurd (zi_of_toInt hx) n_101
    · exact absurd (zi_of_toInt hx) n_102
    · exact absurd (zi_of_toInt hx) n_103
    · exact ⟨_, rfl, rfl⟩
    · exact ⟨_, rfl, rfl⟩
    · exact ⟨_, rfl, rfl⟩
    · exact ⟨_, rfl, rfl⟩
    · exact ⟨_, rfl, rfl⟩
    · exact ⟨_, rfl, rfl⟩
    · exact absurd (zi_of_toInt hx) n_110
    · exact absurd (zi_of_toInt hx) n_111
    · exact ⟨_, rfl, rfl⟩
    · exact ⟨_, rfl, rfl⟩
    · exact ⟨_, rfl, rfl⟩
    · exact ⟨_, rfl, rfl⟩
    · exact ⟨_, rfl, rfl⟩
    · exact ⟨_, rfl, rfl⟩
    · exact ⟨_, rfl, rfl⟩
    · exact ⟨_, rfl, rfl⟩
    · exact absurd (zi_of_toInt hx) n_120
  · refine Ev.run (pc' := 133) (ls' := [some (.int x0)]) (st' := [.int (zi 1)]) (h' := mk s) 1 rfl ?_
    subst h
    exact Ev.fin rfl rfl
