/-! t: the day of a moment, as both find it -/
def CAL (day Y : Int) (d0 m e : Nat) : Prop := dY Y + d0 = day ∧ (d0 : Int) < 365 + lp Y ∧ cum (lp Y).toNat m + e = d0 ∧ e < mdl (lp Y).toNat m ∧ m < 12
theorem CAL_uniq {day Y Z : Int} {d m e d' m' e' : Nat} (h : CAL day Y d m e) (g : CAL day Z d' m' e') : Y = Z ∧ d = d' ∧ m = m' ∧ e = e' := by
  obtain ⟨h1, h2, h3, h4, _⟩ := h
  obtain ⟨g1, g2, g3, g4, _⟩ := g
  obtain ⟨e1, e2⟩ := dY_uniq (by omega) h2 (by omega) g2 (h1.trans g1.symm)
  subst e1
  have e3 : d = d' := by omega
  subst e3
  obtain ⟨e4, e5⟩ := cum_uniq h4 g4 (h3.trans g3.symm)
  exact ⟨rfl, rfl, e4, e5⟩
theorem lpN (y : Int) : (lp y).toNat < 2 ∧ ((lp y).toNat : Int) = lp y := by
  have := lp01 y
  omega
theorem bN_int (y : Nat) (h : y ≤ 400) : (bN y : Int) = 365 * y + (y : Int) / 4 - (y : Int) / 100 + (y : Int) / 400 := by
  unfold bN
  omega
theorem dY_bN (c : Int) (y : Nat) (h : y ≤ 400) : dY (400 * c + y + 1) = 146097 * c + bN y - 719162 := by
  rw [bN_int y h]
  unfold dY
  omega
/-- the class's year, month and day of the day c, L of its own count -/
theorem cal_class {day c : Int} {L : Nat} (hL : L < 146097) (h : day + 719468 = 146097 * c + L) : ∃ y dm : Nat, gN L / 365 = y ∧ y < 400 ∧ bN y + dm = L ∧ dm < 366 ∧
    (dm < 306 → CAL day (400 * c + y) (dm + 59 + (lp (400 * c + y)).toNat) (mpN dm + 2) (dm - moN dm) ∧ mpN dm < 10 ∧ moN dm ≤ dm) ∧
    (306 ≤ dm → CAL day (400 * c + y + 1) (dm - 306) (mpN dm - 10) (dm - moN dm) ∧ 10 ≤ mpN dm ∧ moN dm ≤ dm) := by
  obtain ⟨y, h1, h2, h3, h4⟩ := march hL
  have e1 := dY_bN c y (by omega)
  have e2 := dY_bN c (y + 1) (by omega)
  have s1 := dY_succ (400 * c + y)
  have s2 := dY_succ (400 * c + y + 1)
  have e3 : 400 * c + ((y + 1 : Nat) : Int) + 1 = 400 * c + y + 1 + 1 := by omega
  rw [e3] at e2
  have l1 := lpN (400 * c + y)
  have l2 := lpN (400 * c + y + 1)
  have l3 := lp01 (400 * c + y)
  have l4 := lp01 (400 * c + y + 1)
  refine ⟨y, L - bN y, h2, h1, by omega, by omega, fun hd => ?_, fun hd => ?_⟩
  · obtain ⟨m1, m2, m3, m4⟩ := month_A (d := L - bN y) (l := (lp (400 * c + y)).toNat) hd l1.1
    exact ⟨⟨by omega, by omega, m2, m4, by omega⟩, m1, m3⟩
  · obtain ⟨m1, m2, m3, m4, m5⟩ := month_B (d := L - bN y) (l := (lp (400 * c + y + 1)).toNat) hd (by omega) l2.1
    refine ⟨⟨by omega, by omega, m3, ?_, by omega⟩, m1, m4⟩
    rcases m5 with q | ⟨q1, q2⟩
    · exact q
    · exfalso
      omega
theorem gN_int {L : Nat} : (gN L : Int) = (L : Int) - (L : Int) / 1460 + (L : Int) / 36524 - (L : Int) / 146096 := by
  unfold gN
  omega
/-- what the class keeps of a moment -/
def MO (s : zS) (v Y : Int) (d0 m e : Nat) : Prop := s.2.1 20 0 = zl v ∧ s.1 20 1 = zi (v % 86400000) ∧ s.2.1 20 2 = zl Y ∧ s.1 20 3 = zi (m + 1 : Nat) ∧ s.1 20 4 = zi (e + 1 : Nat) ∧ s.1 20 5 = zi (d0 + 1 : Nat) ∧ s.1 20 6 = zi ((v / 86400000 + 4) % 7)
theorem MO.mv {A B : List Nat} {s s' : zS} {v Y : Int} {d0 m e : Nat} (h : fr A B s s') (hM : MO s v Y d0 m e) (c : A.contains 20 = false) : MO s' v Y d0 m e := by
  unfold MO
  rw [h.f c (by decide), h.l c]
  exact hM
theorem f88_eq {s : zS} {day : Int} (h1 : -200000000000 ≤ day) (h2 : day ≤ 200000000000) : ∃ (Y : Int) (d0 m e : Nat) (s' : zS), CAL day Y d0 m e ∧ f88 (zl (day + 719468)) s = some s' ∧ s'.2.1 20 2 = zl Y ∧ s'.1 20 3 = zi (m + 1 : Nat) ∧ s'.1 20 4 = zi (e + 1 : Nat) ∧ s'.1 20 5 = zi (d0 + 1 : Nat) ∧ s'.2.1 20 0 = s.2.1 20 0 ∧ s'.1 20 1 = s.1 20 1 ∧ s'.1 20 6 = s.1 20 6 ∧ fr [20] [] s s' := by
  obtain ⟨L, hL⟩ : ∃ L : Nat, (day + 719468) % 146097 = L := ⟨((day + 719468) % 146097).toNat, by omega⟩
  have hLl : L < 146097 := by omega
  obtain ⟨y, dm, g1, g2, g3, g4, gA, gB⟩ := cal_class (day := day) (c := (day + 719468) / 146097) hLl (by omega)
  generalize hc : (day + 719468) / 146097 = c at *
  have hcr : -2000000 ≤ c ∧ c ≤ 2000000 := by omega
  -- the ints of takeDay
  have hg := gN_int (L := L)
  have hgn : gN L ≤ 146097 := by
    unfold gN
    omega
  have ey : ((((zi (L : Int)) - ((zi (L : Int)) / (zi 1460))) + ((zi (L : Int)) / (zi 36524))) - ((zi (L : Int)) / (zi 146096))) / (zi 365) = zi (y : Int) := by
    rw [zdvI (by omega) (by omega) (by omega) (by omega), zdvI (by omega) (by omega) (by omega) (by omega), zdvI (by omega) (by omega) (by omega) (by omega), zi_sub, zi_add, zi_sub, ← hg, zdvI (by omega) (by omega) (by omega) (by omega)]
    congr 1
    omega
  have hb := bN_int y (by omega)
  have edm : (zi (L : Int)) - ((((zi 365) * zi (y : Int)) + ((zi (y : Int)) / (zi 4))) - ((zi (y : Int)) / (zi 100))) = zi (dm : Int) := by
    rw [zdvI (by omega) (by omega) (by omega) (by omega), zdvI (by omega) (by omega) (by omega) (by omega), zi_mul, zi_add, zi_sub, zi_sub]
    congr 1
    omega
  have emp : ((zi 5 * zi (dm : Int)) + zi 2) / zi 153 = zi (mpN dm : Int) := by
    rw [zi_mul, zi_add, zdvI (by omega) (by omega) (by omega) (by omega)]
    rfl
  have hmp : mpN dm ≤ 12 := by
    unfold mpN
    omega
  have emo : ((zi 153 * zi (mpN dm : Int)) + zi 2) / zi 5 = zi (moN dm : Int) := by
    rw [zi_mul, zi_add, zdvI (by omega) (by omega) (by omega) (by omega)]
    rfl
  have e0 : f88 (zl (day + 719468)) s = if zi (mpN dm : Int) ≥ zi 10 then f88_118 (zl c) (zi y) (zi dm) (zi (mpN dm)) (zi (mpN dm) - zi 9) (setI s 20 4 ((zi dm - zi (moN dm)) + zi 1)) else f88_118 (zl c) (zi y) (zi dm) (zi (mpN dm)) (zi (mpN dm) + zi 3) (setI s 20 4 ((zi dm - zi (moN dm)) + zi 1)) := by
    unfold f88
    rw [f261_eq (by omega) (by omega) (by omega) (by omega), zb1_mk, f262_eq (by omega) (by omega) (by omega) (by omega), zb1_mk, hc, hL, zL2I_zl, ey, edm]
    unfold zlet
    show (if ((zi 5 * zi (dm : Int)) + zi 2) / zi 153 ≥ zi 10 then _ else _) = _
    rw [emp, emo]
  rw [e0, zi_sub, zi_add, zi_sub, zi_add]
  have tail : ∀ (mon : Int) (b : Int) (S : zS), (b = if mon ≤ 2 then 1 else 0) → 1 ≤ mon → mon ≤ 12 → f88_118 (zl c) (zi y) (zi dm) (zi (mpN dm)) (zi mon) S = some (setI (setJ (setI S 20 3 (zi mon)) 20 2 (zl (400 * c + y + b))) 20 5 (zi (if mon > 2 then dm + 60 + lp (400 * c + y + b) else dm - 305))) := by
    intro mon b S hbm hm1 hm2
    have hb01 : b = 0 ∨ b = 1 := by rw [hbm]; split <;> omega
    have e144 : f88_144 (zi dm) (zi (mpN dm)) ((zl c * zl 400) + zI2L (zi y)) (zi b) (setI S 20 3 (zi mon)) = some (setI (setJ (setI S 20 3 (zi mon)) 20 2 (zl (400 * c + y + b))) 20 5 (zi (if mon > 2 then dm + 60 + lp (400 * c + y + b) else dm - 305))) := by
      have ez : ((zl c * zl 400) + zI2L (zi (y : Int))) + zI2L (zi b) = zl (400 * c + y + b) := by
        rw [zI2L_zi (by omega) (by omega), zI2L_zi (by omega) (by omega), zl_mul, zl_add, zl_add, Int.mul_comm c]
      have el : r89 (setJ (setI S 20 3 (zi mon)) 20 2 (zl (400 * c + y + b))) = zi (lp (400 * c + y + b)) := by
        have := leap_eq (y := 400 * c + y + b) (by omega) (by omega)
        exact this
      have hl := lp01 (400 * c + y + b)
      unfold f88_144 f88_161
      rw [ez, el]
      have h3 : (setJ (setI S 20 3 (zi mon)) 20 2 (zl (400 * c + y + b))).1 20 3 = zi mon := rfl
      rw [h3]
      by_cases q : mon > 2
      · rw [if_pos (zgt (by omega)), if_pos (zgt (by omega)), if_pos q]
        rcases hl with e | e
        · rw [e, if_pos rfl, zi_add, zi_add, zi_add]
          congr 3
          omega
        · rw [e, if_neg (zne (by omega)), zi_add, zi_add, zi_add]
          congr 3
          omega
      · rw [if_neg (zngt (by omega)), if_neg (zngt (by omega)), if_neg q, zi_sub, zi_add]
        have ed : (1 : Int) + ((dm : Int) - 306) = dm - 305 := by omega
        rw [ed]
        rcases hl with e | e
        · rw [e, if_pos rfl]
        · rw [e, if_neg (zne (by omega))]
    unfold f88_118
    by_cases q : mon > 2
    · have : b = 0 := by rw [hbm, if_neg (by omega)]
      rw [if_pos (zgt (by omega))]
      rw [this] at e144 ⊢
      exact e144
    · have : b = 1 := by rw [hbm, if_pos (by omega)]
      rw [if_neg (zngt (by omega))]
      rw [this] at e144 ⊢
      exact e144
  by_cases q : dm < 306
  · obtain ⟨k1, k2, k3⟩ := gA q
    have hl := lpN (400 * c + y)
    have ez : 400 * c + (y : Int) + 0 = 400 * c + y := by omega
    refine ⟨400 * c + y, _, _, _, setI (setJ (setI (setI s 20 4 (zi ((dm : Int) - moN dm + 1))) 20 3 (zi ((mpN dm : Int) + 3))) 20 2 (zl (400 * c + y))) 20 5 (zi ((dm : Int) + 60 + lp (400 * c + y))), k1, ?_, ?_⟩
    · rw [if_neg (znge (by omega)), tail ((mpN dm : Int) + 3) 0 _ (by rw [if_neg (by omega)]) (by omega) (by omega), ez, if_pos (by omega)]
    · refine ⟨rfl, ?_, ?_, ?_, rfl, rfl, rfl, (((fr.refl.sI (.inl rfl)).sI (.inl rfl)).sJ rfl).sI (.inl rfl)⟩
      · show zi ((mpN dm : Int) + 3) = zi ((mpN dm + 2 + 1 : Nat) : Int)
        congr 1 <;> omega
      · show zi ((dm : Int) - moN dm + 1) = zi ((dm - moN dm + 1 : Nat) : Int)
        congr 1 <;> omega
      · show zi ((dm : Int) + 60 + lp (400 * c + y)) = zi ((dm + 59 + (lp (400 * c + y)).toNat + 1 : Nat) : Int)
        congr 1 <;> omega
  · obtain ⟨k1, k2, k3⟩ := gB (by omega)
    refine ⟨400 * c + y + 1, _, _, _, setI (setJ (setI (setI s 20 4 (zi ((dm : Int) - moN dm + 1))) 20 3 (zi ((mpN dm : Int) - 9))) 20 2 (zl (400 * c + y + 1))) 20 5 (zi ((dm : Int) - 305)), k1, ?_, ?_⟩
    · have hB := (month_B (d := dm) (l := 0) (by omega) g4 (by decide)).2.1
      rw [if_pos (zge (by omega)), tail ((mpN dm : Int) - 9) 1 _ (by rw [if_pos (by omega)]) (by omega) (by omega), if_neg (by omega)]
    · refine ⟨rfl, ?_, ?_, ?_, rfl, rfl, rfl, (((fr.refl.sI (.inl rfl)).sI (.inl rfl)).sJ rfl).sI (.inl rfl)⟩
      · show zi ((mpN dm : Int) - 9) = zi ((mpN dm - 10 + 1 : Nat) : Int)
        congr 1 <;> omega
      · show zi ((dm : Int) - moN dm + 1) = zi ((dm - moN dm + 1 : Nat) : Int)
        congr 1 <;> omega
      · show zi ((dm : Int) - 305) = zi ((dm - 306 + 1 : Nat) : Int)
        congr 1 <;> omega
theorem f87_eq {s : zS} {v : Int} (hv : inL v) : ∃ (Y : Int) (d0 m e : Nat) (s' : zS), CAL (v / 86400000) Y d0 m e ∧ f87 (zl v) s = some s' ∧ MO s' v Y d0 m e ∧ fr [20] [] s s' := by
  unfold inL at hv
  obtain ⟨Y, d0, m, e, s', k1, k2, k3, k4, k5, k6, k7, k8, k9, k10⟩ := f88_eq (s := setI (setI (setJ s 20 0 (zl v)) 20 1 (zi (v % 86400000))) 20 6 (zi ((v / 86400000 + 4) % 7))) (day := v / 86400000) (by omega) (by omega)
  refine ⟨Y, d0, m, e, s', k1, ?_, ⟨k7, k8, k3, k4, k5, k6, k9⟩, (((fr.refl.sJ rfl).sI (.inl rfl)).sI (.inl rfl)).trans k10⟩
  unfold f87
  rw [f262_eq hv.1 hv.2 (by omega) (by omega), zb1_mk, zL2I_zl]
  have e0 : (setJ s 20 0 (zl v)).2.1 20 0 = zl v := rfl
  rw [e0, f261_eq hv.1 hv.2 (by omega) (by omega), zb1_mk, zl_add, f262_eq (by omega) (by omega) (by omega) (by omega), zb1_mk, zl_add, zL2I_zl, k2]
  rfl
/-! the reference's -/
theorem r190_eq {y : Int} (h1 : -9223372036854775808 ≤ y) (h2 : y < 9223372036854775808) (s : zS) : r190 (zl y) s = zi (lp y) := leap_eq h1 h2
theorem r191_eq {y : Int} (h1 : -9223372036854775808 ≤ y) (h2 : y < 9223372036854775808) {m : Nat} (hm : m < 12) (s : zS) : r191 (zl y) (zi m) s = zi (mdl (lp y).toNat m : Int) := by
  have hl := lpN y
  have hl2 := lp01 y
  unfold r191 mdl
  rw [r190_eq h1 h2]
  by_cases q1 : m = 1
  · rw [if_neg (not_not_intro (zeq (by omega))), if_pos q1]
    rcases hl2 with e | e
    · rw [e, if_pos rfl]
      rfl
    · rw [e, if_neg (zne (by omega))]
      rfl
  · rw [if_pos (zne (by omega)), if_neg q1]
    by_cases q3 : m = 3
    · rw [if_pos (zeq (by omega)), if_pos (Or.inl q3)]
      rfl
    · rw [if_neg (zne (by omega))]
      by_cases q5 : m = 5
      · rw [if_pos (zeq (by omega)), if_pos (Or.inr (Or.inl q5))]
        rfl
      · rw [if_neg (zne (by omega))]
        by_cases q8 : m = 8
        · rw [if_pos (zeq (by omega)), if_pos (Or.inr (Or.inr (Or.inl q8)))]
          rfl
        · rw [if_neg (zne (by omega))]
          by_cases q10 : m = 10
          · rw [if_neg (not_not_intro (zeq (by omega))), if_pos (Or.inr (Or.inr (Or.inr q10)))]
            rfl
          · rw [if_pos (zne (by omega)), if_neg (by omega)]
            rfl
theorem cum12 : ∀ l, l < 2 → cum l 12 = 365 + l := by decide
theorem month_loop {tms : Nat → zS → Option zS} {s : zS} {x1 x8 x9 x10 x11 x18 : Int32} {x2 x4 x6 : Int64} {Y : Int} (hY : -1000000000 ≤ Y ∧ Y ≤ 1000000000) {d0 : Nat} (hd : (d0 : Int) < 365 + lp Y) : ∀ (j m e n : Nat), j + m = 11 → cum (lp Y).toNat m + e = d0 → j < n →
    ∃ m' e', cum (lp Y).toNat m' + e' = d0 ∧ e' < mdl (lp Y).toNat m' ∧ m' < 12 ∧ f192_165 tms n x1 x2 x4 x6 x8 x9 x10 x11 (zl Y) (zi e) (zi m) x18 s = f192_210 tms x1 x2 x4 x6 x8 x9 x10 x11 (zl Y) (zi (e' : Nat)) (zi (m' : Nat)) x18 (zl (Y.natAbs : Int)) s := by
  have hl := lpN Y
  have hmd : ∀ m, mdl (lp Y).toNat m ≤ 31 := by
    intro m
    unfold mdl
    repeat' split
    all_goals omega
  have stop : ∀ (m e n : Nat), e < mdl (lp Y).toNat m → m < 12 → f192_165 tms (n + 1) x1 x2 x4 x6 x8 x9 x10 x11 (zl Y) (zi e) (zi m) x18 s = f192_210 tms x1 x2 x4 x6 x8 x9 x10 x11 (zl Y) (zi e) (zi m) x18 (zl (Y.natAbs : Int)) s := by
    intro m e n he hm
    have := hmd m
    show b192_165 tms (f192_165 tms n) _ _ _ _ _ _ _ _ _ _ _ _ _ = _
    unfold b192_165
    rw [r191_eq (by omega) (by omega) hm, if_pos (zlt (by omega))]
    by_cases q : 0 ≤ Y
    · rw [if_pos (zlge (by omega)), show (Y.natAbs : Int) = Y by omega]
    · rw [if_neg (zlnge (by omega)), zl_neg, show (Y.natAbs : Int) = -Y by omega]
  intro j
  induction j with
  | zero =>
    intro m e n hj hc hn
    obtain ⟨n, rfl⟩ : ∃ k, n = k + 1 := ⟨n - 1, by omega⟩
    have hm : m = 11 := by omega
    subst hm
    have h12 := cum12 (lp Y).toNat hl.1
    have e12 : cum (lp Y).toNat 12 = cum (lp Y).toNat 11 + mdl (lp Y).toNat 11 := rfl
    exact ⟨11, e, hc, by omega, by omega, stop 11 e n (by omega) (by omega)⟩
  | succ j ih =>
    intro m e n hj hc hn
    obtain ⟨n, rfl⟩ : ∃ k, n = k + 1 := ⟨n - 1, by omega⟩
    by_cases q : e < mdl (lp Y).toNat m
    · exact ⟨m, e, hc, q, by omega, stop m e n q (by omega)⟩
    · have hcm : cum (lp Y).toNat (m + 1) = cum (lp Y).toNat m + mdl (lp Y).toNat m := rfl
      obtain ⟨m', e', k1, k2, k3, k4⟩ := ih (m + 1) (e - mdl (lp Y).toNat m) n (by omega) (by omega) (by omega)
      refine ⟨m', e', k1, k2, k3, ?_⟩
      rw [← k4]
      have := hmd m
      have hl1 := lp01 Y
      show b192_165 tms (f192_165 tms n) _ _ _ _ _ _ _ _ _ _ _ _ _ = _
      unfold b192_165
      rw [r191_eq (by omega) (by omega) (show m < 12 by omega), if_neg (znlt (by omega)), zi_sub, zi_add]
      congr 1
      congr 1
      omega
theorem year_loop {tms : Nat → zS → Option zS} {s : zS} {x1 x8 x9 x10 x11 : Int32} {x2 x4 x6 : Int64} : ∀ (k : Nat) (Y : Int) (r n : Nat), r < 365 * k → k ≤ 500 → k ≤ n → -900000000 ≤ Y → Y ≤ 900000000 + 500 - k →
    ∃ (Z : Int) (d0 : Nat), dY Z + d0 = dY Y + r ∧ (d0 : Int) < 365 + lp Z ∧ -1000000000 ≤ Z ∧ Z ≤ 1000000000 ∧ f192_106 tms n x1 x2 x4 x6 x8 x9 x10 x11 (zl Y) (zi r) (zi 0) s = f192_165 tms zF x1 x2 x4 x6 x8 x9 x10 x11 (zl Z) (zi (d0 : Nat)) (zi 0) (zi (d0 + 1 : Nat)) s := by
  intro k
  induction k with
  | zero => intro Y r n hr; omega
  | succ k ih =>
    intro Y r n hr hk hn h1 h2
    obtain ⟨n, rfl⟩ : ∃ k, n = k + 1 := ⟨n - 1, by omega⟩
    have hl := lp01 Y
    have e0 : f192_106 tms (n + 1) x1 x2 x4 x6 x8 x9 x10 x11 (zl Y) (zi r) (zi 0) s = f192_125 tms (f192_106 tms n) x1 x2 x4 x6 x8 x9 x10 x11 (zl Y) (zi r) (zi 0) (zi r) (zi (365 + lp Y)) s := by
      show b192_106 tms (f192_106 tms n) _ _ _ _ _ _ _ _ _ _ _ _ = _
      unfold b192_106
      rw [r190_eq (by omega) (by omega)]
      rcases hl with e | e
      · rw [e, if_pos rfl]
        rfl
      · rw [e, if_neg (zne (by omega))]
        rfl
    rw [e0]
    unfold f192_125
    by_cases q : (r : Int) < 365 + lp Y
    · refine ⟨Y, r, rfl, q, by omega, by omega, ?_⟩
      rw [if_pos (zlt (by omega)), zi_add]
      rfl
    · have hs := dY_succ Y
      obtain ⟨Z, d0, g1, g2, g3, g4, g5⟩ := ih (Y + 1) (r - (365 + lp Y).toNat) n (by omega) (by omega) (by omega) (by omega) (by omega)
      refine ⟨Z, d0, by omega, g2, g3, g4, ?_⟩
      rw [← g5, if_neg (znlt (by omega)), r190_eq (by omega) (by omega)]
      unfold f192_147
      have er : ((r - (365 + lp Y).toNat : Nat) : Int) = r - (365 + lp Y) := by omega
      rw [er]
      rcases hl with e | e
      · rw [e, if_pos rfl, zl_add, zi_sub]
        rfl
      · rw [e, if_neg (zne (by omega)), zl_add, zi_sub]
        rfl
/-- the reference's moment -/
theorem f192_eq {tms : Nat → zS → Option zS} {s : zS} {a : Nat} {x1 : Int32} {v : Int} (hv : inL v) (ha : a < 24) (h35 : s.1 24 35 = zi a) (h31 : s.2.1 31 a = zl v) :
    ∃ (Y : Int) (d0 m e : Nat), CAL (v / 86400000) Y d0 m e ∧ -1000000000 ≤ Y ∧ Y ≤ 1000000000 ∧ f192 tms x1 s = f192_210 tms x1 (zl v) (zl (v / 1000)) (zl (v / 86400000)) (zi (v % 1000)) (zi (v % 86400000 / 1000)) (zi (v % 86400000 / 3600000)) (zi (v % 86400000 / 60000 % 60)) (zl Y) (zi e) (zi m) (zi (d0 + 1 : Nat)) (zl (Y.natAbs : Int)) s := by
  unfold inL at hv
  have e2 : v / 1000 / 86400 = v / 86400000 := by omega
  have e3 : v / 1000 - 86400 * (v / 86400000) = v % 86400000 / 1000 := by omega
  have e4 : v % 86400000 / 1000 / 3600 = v % 86400000 / 3600000 := by omega
  have e5 : v % 86400000 / 1000 / 60 = v % 86400000 / 60000 := by omega
  obtain ⟨r, hr⟩ : ∃ r : Nat, v / 86400000 - 146097 * (v / 86400000 / 146097) = r := ⟨(v / 86400000 - 146097 * (v / 86400000 / 146097)).toNat, by omega⟩
  have e0 : f192 tms x1 s = f192_106 tms zF x1 (zl v) (zl (v / 1000)) (zl (v / 86400000)) (zi (v % 1000)) (zi (v % 86400000 / 1000)) (zi (v % 86400000 / 3600000)) (zi (v % 86400000 / 60000 % 60)) (zl (1970 + 400 * (v / 86400000 / 146097))) (zi r) (zi 0) s := by
    have hm : mIx (zi (a : Int)) 24 := zi_ix (by omega) (by omega) (by omega)
    have h31' : s.2.1 31 (zi (a : Int)).toNatClampNeg = zl v := by rw [zi_toNat (by omega)]; exact h31
    unfold f192
    rw [h35, if_pos hm, h31', f261_eq hv.1 hv.2 (by omega) (by omega), zb1_mk, f261_eq (by omega) (by omega) (by omega) (by omega), zb1_mk, f262_eq hv.1 hv.2 (by omega) (by omega), zb1_mk, e2, f261_eq (by omega) (by omega) (by omega) (by omega), zb1_mk, zl_mul, zl_sub, zL2I_zl, zL2I_zl, e3, zdvI (by omega) (by omega) (by omega) (by omega), zdvI (by omega) (by omega) (by omega) (by omega), zrmI (by omega) (by omega) (by omega) (by omega), zl_mul, zl_mul, zl_add, zl_sub, zL2I_zl, hr, e4, e5]
  obtain ⟨Z, d0, g1, g2, g3, g4, g5⟩ := year_loop (tms := tms) (s := s) (x1 := x1) (x2 := zl v) (x4 := zl (v / 1000)) (x6 := zl (v / 86400000)) (x8 := zi (v % 1000)) (x9 := zi (v % 86400000 / 1000)) (x10 := zi (v % 86400000 / 3600000)) (x11 := zi (v % 86400000 / 60000 % 60)) 401 (1970 + 400 * (v / 86400000 / 146097)) r zF (by omega) (by omega) (by unfold zF; omega) (by omega) (by omega)
  have hd4 := dY_400 (v / 86400000 / 146097)
  have hl := lpN Z
  obtain ⟨m, e, k1, k2, k3, k4⟩ := month_loop (tms := tms) (s := s) (x1 := x1) (x2 := zl v) (x4 := zl (v / 1000)) (x6 := zl (v / 86400000)) (x8 := zi (v % 1000)) (x9 := zi (v % 86400000 / 1000)) (x10 := zi (v % 86400000 / 3600000)) (x11 := zi (v % 86400000 / 60000 % 60)) (x18 := zi (d0 + 1 : Nat)) (Y := Z) ⟨g3, g4⟩ g2 11 0 d0 zF (by omega) (by show 0 + d0 = d0; omega) (by unfold zF; omega)
  refine ⟨Z, d0, m, e, ⟨by omega, g2, k1, k2, k3⟩, g3, g4, ?_⟩
  rw [e0, g5]
  exact k4
