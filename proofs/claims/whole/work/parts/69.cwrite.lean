/-! the text of a rounded number, and how the class writes it -/
/-- k digits from the place hi down -/
def dl (R : Nat) (q : Int) : Int → Nat → List Int
  | _, 0 => []
  | hi, k + 1 => (48 + (rdg R q hi : Nat) : Int) :: dl R q (hi - 1) k
theorem dl_len (R : Nat) (q : Int) : ∀ (k : Nat) (hi : Int), (dl R q hi k).length = k
  | 0, _ => rfl
  | k + 1, hi => congrArg (· + 1) (dl_len R q k (hi - 1))
theorem dl_dgt (R : Nat) (q : Int) : ∀ (k : Nat) (hi : Int) (v : Int), v ∈ dl R q hi k → dgt v
  | 0, _, v, h => by cases h
  | k + 1, hi, v, h => by
    rcases List.mem_cons.mp h with rfl | h
    · have := rdg_lt R q hi
      exact ⟨by omega, by omega⟩
    · exact dl_dgt R q k _ v h
theorem dgt_asc {l : List Int} (h : ∀ v, v ∈ l → dgt v) : asc l := fun v hv => by
  have := h v hv
  exact ⟨by unfold dgt at this; omega, by unfold dgt at this; omega⟩
theorem dl_asc (R : Nat) (q : Int) (k : Nat) (hi : Int) : asc (dl R q hi k) := dgt_asc (dl_dgt R q k hi)
/-- the digits behind the point, with it -/
def frac (R : Nat) (q : Int) (F : Int32) (hi : Int) (pr : Nat) : List Int := if 0 < pr ∨ hasF F 2 then 46 :: dl R q hi pr else []
theorem frac_len (R : Nat) (q : Int) (F : Int32) (hi : Int) (pr : Nat) : (frac R q F hi pr).length ≤ pr + 1 := by
  unfold frac
  split
  · rw [List.length_cons, dl_len]
    exact Nat.le_refl _
  · exact Nat.zero_le _
theorem frac_asc (R : Nat) (q : Int) (F : Int32) (hi : Int) (pr : Nat) : asc (frac R q F hi pr) := by
  unfold frac
  split
  · intro v hv
    rcases List.mem_cons.mp hv with rfl | hv
    · omega
    · exact dl_asc _ _ _ _ v hv
  · intro v hv
    cases hv
/-- exponents -/
def expo (t : Int) : List Int := 101 :: (if 0 ≤ t then 43 else 45) :: ds t.natAbs (kk t.natAbs 2)
/-- the digits before the point -/
def whl (R : Nat) (q t : Int) : List Int := dl R q (max t 0) (max t 0 + 1).toNat
/-! the class -/
theorem f107_22_loop {R : Nat} {q P : Int} {cnt : Nat} {b : Int} (hb : -5000 ≤ b ∧ b ≤ 5000) {pr : Nat} (hpr : pr ≤ 2000) : ∀ (d i n : Nat) (s : zS) (l : List Int) (g z : Int), d + i = pr → d < n → CR s R q P cnt → PC s l g z → l.length + d ≤ 1600 →
    ∃ s', f107_22 n (zi b) (zi pr) (zi i) s = some s' ∧ PC s' (l ++ dl R q (P - 1 - b - i) d) g z ∧ fr [13, 14] [] s s' := by
  intro d
  induction d with
  | zero =>
    intro i n s l g z hd hn hC hP hl
    obtain ⟨n, rfl⟩ : ∃ k, n = k + 1 := ⟨n - 1, by omega⟩
    refine ⟨s, ?_, hP.nil, fr.refl⟩
    show b107_22 (f107_22 n) _ _ _ _ = _
    unfold b107_22
    rw [if_pos (zge (by omega))]
  | succ d ih =>
    intro i n s l g z hd hn hC hP hl
    obtain ⟨n, rfl⟩ : ∃ k, n = k + 1 := ⟨n - 1, by omega⟩
    have hr := rdg_lt R q (P - 1 - (b + i))
    obtain ⟨s1, a1, a2, a3⟩ := hP.add (by omega) (b := 48 + (rdg R q (P - 1 - (b + i)) : Nat)) (by omega) (by omega)
    obtain ⟨s', b1, b2, b3⟩ := ih (i + 1) n s1 _ g z (by omega) (by omega) (hC.mv a3 rfl rfl) a2 (by rw [List.length_append]; show l.length + 1 + d ≤ 1600; omega)
    refine ⟨s', ?_, ?_, a3.trans b3⟩
    · show b107_22 (f107_22 n) _ _ _ _ = _
      unfold b107_22
      rw [if_neg (znge (by omega)), zi_add, hC.dig (by omega) (by omega), zb1_mk, zi_add, a1, zb0_mk, zi_add]
      exact b1
    · rw [List.append_assoc] at b2
      have e1 : P - 1 - b - (i : Int) = P - 1 - (b + i) := by omega
      have e2 : P - 1 - b - ((i + 1 : Nat) : Int) = P - 1 - (b + i) - 1 := by omega
      rw [e2] at b2
      rw [e1]
      exact b2
theorem f107_eq {s : zS} {R : Nat} {q P : Int} {cnt : Nat} {b : Int} (hb : -5000 ≤ b ∧ b ≤ 5000) {pr : Nat} (hpr : pr ≤ 2000) {F : Int32} (hF : s.1 7 2 = F) {l : List Int} {g z : Int} (hC : CR s R q P cnt) (hP : PC s l g z) (hl : l.length + pr + 1 ≤ 1600) :
    ∃ s', f107 (zi b) (zi pr) s = some s' ∧ PC s' (l ++ frac R q F (P - 1 - b) pr) g z ∧ fr [13, 14] [] s s' := by
  have e0 : P - 1 - b - ((0 : Nat) : Int) = P - 1 - b := by omega
  have dot : ∃ s', f107_13 (zi b) (zi pr) s = some s' ∧ PC s' (l ++ (46 :: dl R q (P - 1 - b) pr)) g z ∧ fr [13, 14] [] s s' := by
    obtain ⟨s1, a1, a2, a3⟩ := hP.add (by omega) (b := 46) (by omega) (by omega)
    obtain ⟨s', b1, b2, b3⟩ := f107_22_loop hb hpr pr 0 zF s1 _ g z (by omega) (by unfold zF; omega) (hC.mv a3 rfl rfl) a2 (by rw [List.length_append]; show l.length + 1 + pr ≤ 1600; omega)
    refine ⟨s', ?_, ?_, a3.trans b3⟩
    · unfold f107_13
      rw [a1, zb0_mk]
      exact b1
    · rw [List.append_assoc, e0] at b2
      exact b2
  unfold f107 frac
  by_cases c : 0 < pr
  · rw [if_pos (zgt (by omega)), if_pos (.inl c)]
    exact dot
  · rw [if_neg (zngt (by omega))]
    by_cases c2 : hasF F 2
    · rw [r51_1 hF c2, if_neg (zne (by omega)), if_pos (.inr c2)]
      exact dot
    · rw [r51_0 hF c2, if_pos rfl, if_neg (fun h => h.elim c c2)]
      obtain rfl : pr = 0 := by omega
      obtain ⟨s', b1, b2, b3⟩ := f107_22_loop hb hpr 0 0 zF s l g z (by omega) (by unfold zF; omega) hC hP (by omega)
      exact ⟨s', b1, b2, b3⟩
/-- with commas or without -/
def cmF (F : Int32) (D : List Int) : List Int := if hasF F 32 then cmD D else D
theorem cmF_cons (F : Int32) (x : Int) (r : List Int) : cmF F (x :: r) = x :: (if hasF F 32 ∧ 0 < r.length ∧ r.length % 3 = 0 then 44 :: cmF F r else cmF F r) := by
  unfold cmF
  by_cases c : hasF F 32
  · rw [if_pos c, if_pos c]
    show x :: (if 0 < r.length ∧ r.length % 3 = 0 then 44 :: cmD r else cmD r) = _
    by_cases q : 0 < r.length ∧ r.length % 3 = 0
    · rw [if_pos q, if_pos ⟨c, q⟩]
    · rw [if_neg q, if_neg (fun h => q h.2)]
  · rw [if_neg c, if_neg (fun h => c h.1), if_neg c]
theorem cmF_len (F : Int32) (D : List Int) : (cmF F D).length ≤ D.length + (D.length - 1) / 3 := by
  unfold cmF
  split
  · rw [cmD_len]
    exact Nat.le_refl _
  · omega
theorem f105_23_loop {R : Nat} {q P : Int} {cnt : Nat} {pr : Nat} (hpr : pr ≤ 2000) {F : Int32} (hP1 : 0 ≤ P) : ∀ (d i n : Nat) (s : zS) (l : List Int) (g z : Int), (d : Int) + i = P → d < n → CR s R q P cnt → PC s l g z → s.1 7 2 = F → l.length + (d + (d - 1) / 3) + pr + 1 ≤ 1600 →
    ∃ s', f105_23 n (zi pr) (zi P) (zi i) s = some s' ∧ PC s' (l ++ (cmF F (dl R q (P - 1 - i) d) ++ frac R q F (-1) pr)) g z ∧ fr [13, 14] [] s s' := by
  intro d
  induction d with
  | zero =>
    intro i n s l g z hd hn hC hP hF hl
    obtain ⟨n, rfl⟩ : ∃ k, n = k + 1 := ⟨n - 1, by omega⟩
    have hPr := hC.2.2.2.2.2.2.2
    obtain ⟨s', a1, a2, a3⟩ := f107_eq (b := P) ⟨by omega, by omega⟩ hpr hF hC hP (by omega)
    refine ⟨s', ?_, ?_, a3⟩
    · show b105_23 (f105_23 n) _ _ _ _ = _
      unfold b105_23
      rw [if_pos (zge (by omega)), a1]
      rfl
    · have e0 : P - 1 - P = -1 := by omega
      rw [e0] at a2
      have e1 : cmF F (dl R q (P - 1 - (i : Int)) 0) = [] := by
        unfold cmF
        split <;> rfl
      rw [e1]
      exact a2
  | succ d ih =>
    intro i n s l g z hd hn hC hP hF hl
    obtain ⟨n, rfl⟩ : ∃ k, n = k + 1 := ⟨n - 1, by omega⟩
    have hPr := hC.2.2.2.2.2.2.2
    have hr := rdg_lt R q (P - 1 - i)
    obtain ⟨s1, a1, a2, a3⟩ := hP.add (by omega) (b := 48 + (rdg R q (P - 1 - i) : Nat)) (by omega) (by omega)
    have hF1 : s1.1 7 2 = F := by rw [a3.f rfl (by decide)]; exact hF
    have e7 : P - 1 - ((i + 1 : Nat) : Int) = P - 1 - i - 1 := by omega
    have ebody : f105_23 (n + 1) (zi pr) (zi P) (zi i) s = if (r51 (zi 32) s1) = zi 0 then f105_23 n (zi pr) (zi P) (zi (i + 1 : Nat)) s1 else if zi (P - 1 - i) ≤ zi 0 then f105_23 n (zi pr) (zi P) (zi (i + 1 : Nat)) s1 else if ¬ (zrem (zi (P - 1 - i)) (zi 3)) = zi 0 then f105_23 n (zi pr) (zi P) (zi (i + 1 : Nat)) s1 else zb0 (f70 (zi 44) s1) (fun s5 => f105_23 n (zi pr) (zi P) (zi (i + 1 : Nat)) s5) := by
      show b105_23 (f105_23 n) _ _ _ _ = _
      unfold b105_23
      rw [if_neg (znge (by omega)), hC.dig (by omega) (by omega), zb1_mk, zi_add, a1, zb0_mk, zi_sub, zi_sub, zi_add]
      rfl
    have plain : l.length + 1 + (d + (d - 1) / 3) + pr + 1 ≤ 1600 → ∃ s', f105_23 n (zi pr) (zi P) (zi (i + 1 : Nat)) s1 = some s' ∧ PC s' (l ++ ((48 + (rdg R q (P - 1 - i) : Nat) : Int) :: cmF F (dl R q (P - 1 - i - 1) d) ++ frac R q F (-1) pr)) g z ∧ fr [13, 14] [] s s' := by
      intro hll
      obtain ⟨s', b1, b2, b3⟩ := ih (i + 1) n s1 _ g z (by omega) (by omega) (hC.mv a3 rfl rfl) a2 hF1 (by rw [List.length_append]; show l.length + 1 + _ + pr + 1 ≤ 1600; omega)
      refine ⟨s', b1, ?_, a3.trans b3⟩
      rw [List.append_assoc, e7] at b2
      exact b2
    have hl1 : l.length + 1 + (d + (d - 1) / 3) + pr + 1 ≤ 1600 := by omega
    have edl : dl R q (P - 1 - (i : Int)) (d + 1) = (48 + (rdg R q (P - 1 - i) : Nat) : Int) :: dl R q (P - 1 - i - 1) d := rfl
    rw [ebody, edl, cmF_cons, dl_len]
    by_cases c1 : hasF F 32
    · rw [r51_1 hF1 c1, if_neg (zne (by omega))]
      by_cases c2 : d = 0
      · rw [if_pos (zle (by omega)), if_neg (fun h => by omega)]
        exact plain hl1
      · rw [if_neg (znle (by omega))]
        have er : zrem (zi (P - 1 - i)) (zi 3) = zi ((d % 3 : Nat) : Int) := by
          have e9 : P - 1 - (i : Int) = (d : Nat) := by omega
          rw [e9, zi_rem (by omega) (by omega) (by omega) (by omega)]
          rfl
        rw [er]
        by_cases c3 : d % 3 = 0
        · rw [if_neg (not_not_intro (zeq (by omega))), if_pos ⟨c1, by omega, c3⟩]
          obtain ⟨s2, b1, b2, b3⟩ := a2.add (by rw [List.length_append]; show l.length + 1 < 1600; omega) (b := 44) (by omega) (by omega)
          obtain ⟨s', d1, d2, d3⟩ := ih (i + 1) n s2 _ g z (by omega) (by omega) ((hC.mv a3 rfl rfl).mv b3 rfl rfl) b2 (by rw [b3.f rfl (by decide)]; exact hF1) (by rw [List.length_append, List.length_append]; show l.length + 1 + 1 + _ + pr + 1 ≤ 1600; omega)
          refine ⟨s', ?_, ?_, (a3.trans b3).trans d3⟩
          · rw [b1]
            exact d1
          · rw [List.append_assoc, List.append_assoc, e7] at d2
            exact d2
        · rw [if_pos (zne (by omega)), if_neg (fun h => c3 h.2.2)]
          exact plain hl1
    · rw [r51_0 hF1 c1, if_pos rfl, if_neg (fun h => c1 h.1)]
      exact plain hl1
theorem f105_eq {s : zS} {R : Nat} {q P : Int} {cnt : Nat} {pr : Nat} (hpr : pr ≤ 2000) {F : Int32} (hF : s.1 7 2 = F) {l : List Int} {g z : Int} (hC : CR s R q P cnt) (hP : PC s l g z) (hPu : P ≤ 320) (hl : l.length + pr ≤ 1150) :
    ∃ s', f105 (zi pr) s = some s' ∧ PC s' (l ++ (cmF F (whl R q (P - 1)) ++ frac R q F (-1) pr)) g z ∧ fr [13, 14] [] s s' := by
  have hPr := hC.2.2.2.2.2.2.2
  have e1 : r117 s = zi P := hC.1
  unfold f105
  rw [e1]
  by_cases c : 0 < P
  · obtain ⟨d, hd⟩ : ∃ d : Nat, P = d := ⟨P.toNat, by omega⟩
    obtain ⟨s', a1, a2, a3⟩ := f105_23_loop (P := P) hpr (by omega) d 0 zF s l g z (by omega) (by unfold zF; omega) hC hP hF (by omega)
    rw [if_pos (zgt (by omega))]
    refine ⟨s', a1, ?_, a3⟩
    unfold whl
    have e2 : (max (P - 1) 0 + 1).toNat = d := by omega
    have e3 : max (P - 1) 0 = P - 1 := by omega
    have e4 : P - 1 - ((0 : Nat) : Int) = P - 1 := by omega
    rw [e2, e3]
    rw [e4] at a2
    exact a2
  · rw [if_neg (zngt (by omega))]
    obtain ⟨s1, a1, a2, a3⟩ := hP.add (by omega) (b := 48) (by omega) (by omega)
    have hF1 : s1.1 7 2 = F := by rw [a3.f rfl (by decide)]; exact hF
    have hC1 := hC.mv a3 rfl rfl
    -- no digit before the point but 0
    have e5 : whl R q (P - 1) = [48] := by
      unfold whl
      have e2 : (max (P - 1) 0 + 1).toNat = 1 := by omega
      have e3 : max (P - 1) 0 = 0 := by omega
      rw [e2, e3]
      have e4 := hC.2.2.2.2.2.1 0 (by omega)
      show [(48 + (rdg R q 0 : Nat) : Int)] = [48]
      rw [e4]
      rfl
    have e6 : cmF F [48] = [48] := by
      unfold cmF
      split <;> rfl
    rw [e5, e6]
    -- the digits behind the point: from the place -1, index P
    have hdot : ∃ s', f105_23 zF (zi pr) (zi P) (zi 0) s1 = some s' ∧ PC s' ((l ++ [48]) ++ frac R q F (-1) pr) g z ∧ fr [13, 14] [] s1 s' := by
      obtain ⟨s', b1, b2, b3⟩ := f107_eq (b := P) ⟨by omega, by omega⟩ hpr hF1 hC1 a2 (by rw [List.length_append]; show l.length + 1 + pr + 1 ≤ 1600; omega)
      have e0 : P - 1 - P = -1 := by omega
      rw [e0] at b2
      refine ⟨s', ?_, b2, b3⟩
      show b105_23 (f105_23 _) _ _ _ _ = _
      unfold b105_23
      rw [if_pos (zge (by omega)), b1]
      rfl
    obtain ⟨s', b1, b2, b3⟩ := hdot
    refine ⟨s', ?_, ?_, a3.trans b3⟩
    · rw [a1]
      exact b1
    · rw [List.append_assoc] at b2
      exact b2
/-! scientific -/
theorem f106_eq {s : zS} {R : Nat} {q P : Int} {cnt : Nat} {pr : Nat} (hpr : pr ≤ 1200) {F : Int32} (hF : s.1 7 2 = F) {l : List Int} {g z : Int} (hC : CR s R q P cnt) (hP : PC s l g z) (hPu : P ≤ 2000) (hPl : -2000 ≤ P) (hl : l.length + pr ≤ 1300) :
    ∃ s', f106 (zi pr) s = some s' ∧ PC s' (l ++ ([(48 + (rdg R q (P - 1) : Nat) : Int)] ++ (frac R q F (P - 2) pr ++ expo (P - 1)))) g z ∧ fr [13, 14] [] s s' := by
  have hr := rdg_lt R q (P - 1)
  obtain ⟨s1, a1, a2, a3⟩ := hP.add (by omega) (b := 48 + (rdg R q (P - 1) : Nat)) (by omega) (by omega)
  have hF1 : s1.1 7 2 = F := by rw [a3.f rfl (by decide)]; exact hF
  have hC1 := hC.mv a3 rfl rfl
  obtain ⟨s2, b1, b2, b3⟩ := f107_eq (b := 1) (pr := pr) ⟨by omega, by omega⟩ (by omega) hF1 hC1 a2 (by rw [List.length_append]; show l.length + 1 + pr + 1 ≤ 1600; omega)
  have hlf := frac_len R q F (P - 1 - 1) pr
  obtain ⟨s3, c1, c2, c3⟩ := b2.add (by rw [List.length_append, List.length_append]; show l.length + 1 + _ < 1600; omega) (b := 101) (by omega) (by omega)
  obtain ⟨s4, d1, d2, d3⟩ := c2.add (by rw [List.length_append, List.length_append, List.length_append]; show l.length + 1 + _ + 1 < 1600; omega) (b := if 0 ≤ P - 1 then 43 else 45) (by split <;> omega) (by split <;> omega)
  obtain ⟨s', e1, e2, e3⟩ := d2.size (v := P - 1) (by omega) (by omega) (a := 2) (by omega) (c := 0) (.inl rfl) (by rw [List.length_append, List.length_append, List.length_append, List.length_append]; show l.length + 1 + _ + 1 + 1 ≤ 1500; omega)
  refine ⟨s', ?_, ?_, (((a3.trans b3).trans c3).trans d3).trans e3⟩
  · unfold f106
    have h0 : f118 (zi 0) s = some (zi (rdg R q (P - 1) : Nat), s) := by
      have := hC.dig (i := 0) (by omega) (by omega)
      rw [Int.sub_zero] at this
      exact this
    have h117 : r117 s2 - zi 1 = zi (P - 1) := by
      have : r117 s2 = zi P := (hC1.mv b3 rfl rfl).1
      rw [this, zi_sub]
    rw [h0, zb1_mk, zi_add, a1, zb0_mk, b1, zb0_mk, c1, zb0_mk, h117]
    have eI : zI2L (zi (P - 1)) = zl (P - 1) := zI2L_zi (by omega) (by omega)
    by_cases c : 0 ≤ P - 1
    · rw [if_pos c] at d1
      rw [if_pos (zge (by omega))]
      unfold f106_53
      rw [d1, zb0_mk, eI]
      show zb0 (f78 (zl (P - 1)) (zi ((2 : Nat) : Int)) (zi 0) s4) _ = _
      rw [e1]
      rfl
    · rw [if_neg c] at d1
      rw [if_neg (znge (by omega))]
      unfold f106_53
      rw [d1, zb0_mk, eI]
      show zb0 (f78 (zl (P - 1)) (zi ((2 : Nat) : Int)) (zi 0) s4) _ = _
      rw [e1]
      rfl
  · rw [List.append_assoc, List.append_assoc, List.append_assoc, List.append_assoc, dsC_ds] at e2
    have e9 : P - 1 - 1 = P - 2 := by omega
    rw [e9] at e2
    exact e2
