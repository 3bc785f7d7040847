/-! the reference writes the same digits -/
/-- its body, its digits -/
def MB (s : zS) (R : Nat) (q T : Int) (F : Int32) (l : List Int) : Prop := RD s R q T ∧ BD s l ∧ s.1 24 15 = F
theorem MB.rd {s : zS} {R : Nat} {q T : Int} {F : Int32} {l : List Int} (h : MB s R q T F l) : RD s R q T := h.1
theorem MB.bd {s : zS} {R : Nat} {q T : Int} {F : Int32} {l : List Int} (h : MB s R q T F l) : BD s l := h.2.1
theorem MB.fl {s : zS} {R : Nat} {q T : Int} {F : Int32} {l : List Int} (h : MB s R q T F l) : s.1 24 15 = F := h.2.2
theorem MB.add {s : zS} {R : Nat} {q T : Int} {F : Int32} {l : List Int} (h : MB s R q T F l) (hl : l.length < 6000) {b : Int} (h1 : -128 ≤ b) (h2 : b ≤ 127) : ∃ s', f181 (zi b) s = some s' ∧ MB s' R q T F (l ++ [b]) ∧ fr [40] [33] s s' := by
  obtain ⟨s', a1, a2, a3⟩ := h.bd.add hl h1 h2
  exact ⟨s', a1, ⟨h.rd.mv a3 rfl rfl rfl rfl, a2, by rw [a3.1 24 15 rfl (fun _ => rfl)]; exact h.fl⟩, a3⟩
/-- sizes of what is rounded -/
def szR (q T : Int) : Prop := -2000 ≤ q ∧ T ≤ 410 ∧ T - q < 2400
theorem MB.dig {s : zS} {R : Nat} {q T : Int} {F : Int32} {l : List Int} (h : MB s R q T F l) (hs : szR q T) {p : Int} (h1 : -100000 ≤ p) (h2 : p ≤ 100000) : f165 (zi p) s = some (zi (rdg R q p : Nat), s) := h.rd.dig (by have := hs.1; omega) (by have := hs.2.1; omega) hs.2.2 h1 h2
theorem f185_60_loop {R : Nat} {q T : Int} (hs : szR q T) {F : Int32} {pr : Nat} (hpr : pr ≤ 2000) : ∀ (d n : Nat) (s : zS) (l : List Int), d ≤ pr → d < n → MB s R q T F l → l.length + d ≤ 5000 →
    ∃ s', f185_60 n (zi pr) (zi ((d : Int) - pr - 1)) s = some s' ∧ MB s' R q T F (l ++ dl R q ((d : Int) - pr - 1) d) ∧ fr [40] [33] s s' := by
  intro d
  induction d with
  | zero =>
    intro n s l hd hn h hl
    obtain ⟨n, rfl⟩ : ∃ k, n = k + 1 := ⟨n - 1, by omega⟩
    refine ⟨s, ?_, by rw [show dl R q (((0 : Nat) : Int) - pr - 1) 0 = [] from rfl, List.append_nil]; exact h, fr.refl⟩
    show b185_60 (f185_60 n) _ _ _ = _
    unfold b185_60
    rw [zi_neg, if_pos (zlt (by omega))]
  | succ d ih =>
    intro n s l hd hn h hl
    obtain ⟨n, rfl⟩ : ∃ k, n = k + 1 := ⟨n - 1, by omega⟩
    have hr := rdg_lt R q (((d + 1 : Nat) : Int) - pr - 1)
    obtain ⟨s1, a1, a2, a3⟩ := h.add (by omega) (b := 48 + (rdg R q (((d + 1 : Nat) : Int) - pr - 1) : Nat)) (by omega) (by omega)
    obtain ⟨s', b1, b2, b3⟩ := ih n s1 _ (by omega) (by omega) a2 (by rw [List.length_append]; show l.length + 1 + d ≤ 5000; omega)
    have e9 : ((d + 1 : Nat) : Int) - pr - 1 - 1 = (d : Int) - pr - 1 := by omega
    refine ⟨s', ?_, ?_, a3.trans b3⟩
    · show b185_60 (f185_60 n) _ _ _ = _
      unfold b185_60
      rw [zi_neg, if_neg (znlt (by omega)), h.dig hs (by omega) (by omega), zb1_mk, zi_add, a1, zb0_mk, zi_add]
      have e8 : ((d + 1 : Nat) : Int) - pr - 1 + -1 = (d : Int) - pr - 1 := by omega
      rw [e8]
      exact b1
    · rw [List.append_assoc] at b2
      show MB s' R q T F (l ++ (_ :: dl R q (((d + 1 : Nat) : Int) - pr - 1 - 1) d))
      rw [e9]
      exact b2
theorem frac_m {R : Nat} {q T : Int} (hs : szR q T) {F : Int32} {pr : Nat} (hpr : pr ≤ 2000) {s : zS} {l : List Int} (h : MB s R q T F l) (hl : l.length + pr + 1 ≤ 5000) : ∃ s', (if zi (pr : Int) > zi 0 then f185_52 (zi pr) s else if (r180 (s.1 24 15) (zi 2) s) = zi 0 then f185_60 zF (zi pr) (zi (-1)) s else f185_52 (zi pr) s) = some s' ∧ MB s' R q T F (l ++ frac R q F (-1) pr) ∧ fr [40] [33] s s' := by
  have e0 : (pr : Int) - pr - 1 = -1 := by omega
  have dot : ∃ s', f185_52 (zi pr) s = some s' ∧ MB s' R q T F (l ++ (46 :: dl R q (-1) pr)) ∧ fr [40] [33] s s' := by
    obtain ⟨s1, a1, a2, a3⟩ := h.add (by omega) (b := 46) (by omega) (by omega)
    obtain ⟨s', b1, b2, b3⟩ := f185_60_loop hs hpr pr zF s1 _ (Nat.le_refl _) (by unfold zF; omega) a2 (by rw [List.length_append]; show l.length + 1 + pr ≤ 5000; omega)
    rw [e0] at b1 b2
    refine ⟨s', ?_, ?_, a3.trans b3⟩
    · unfold f185_52
      rw [a1, zb0_mk]
      exact b1
    · rw [List.append_assoc] at b2
      exact b2
  unfold frac
  by_cases c : 0 < pr
  · rw [if_pos (zgt (by omega)), if_pos (.inl c)]
    exact dot
  · rw [if_neg (zngt (by omega)), h.fl]
    by_cases c2 : hasF F 2
    · rw [r180_1 c2, if_neg (zne (by omega)), if_pos (.inr c2)]
      exact dot
    · rw [r180_0 c2, if_pos rfl, if_neg (fun h => h.elim c c2)]
      obtain rfl : pr = 0 := by omega
      obtain ⟨s', b1, b2, b3⟩ := f185_60_loop hs hpr 0 zF s l (Nat.le_refl _) (by unfold zF; omega) h (by omega)
      exact ⟨s', b1, b2, b3⟩
theorem f185_15_loop {R : Nat} {q T : Int} (hs : szR q T) {F : Int32} {pr : Nat} (hpr : pr ≤ 2000) : ∀ (d n : Nat) (s : zS) (l : List Int), d ≤ 500 → d < n → MB s R q T F l → l.length + d + pr + 1 ≤ 5000 →
    ∃ s', f185_15 n (zi pr) (zi ((d : Int) - 1)) s = some s' ∧ MB s' R q T F (l ++ (dl R q ((d : Int) - 1) d ++ frac R q F (-1) pr)) ∧ fr [40] [33] s s' := by
  intro d
  induction d with
  | zero =>
    intro n s l hd hn h hl
    obtain ⟨n, rfl⟩ : ∃ k, n = k + 1 := ⟨n - 1, by omega⟩
    obtain ⟨s', a1, a2, a3⟩ := frac_m hs hpr h (by omega)
    refine ⟨s', ?_, a2, a3⟩
    show b185_15 (f185_15 n) _ _ _ = _
    unfold b185_15
    rw [if_pos (zlt (by omega))]
    exact a1
  | succ d ih =>
    intro n s l hd hn h hl
    obtain ⟨n, rfl⟩ : ∃ k, n = k + 1 := ⟨n - 1, by omega⟩
    have e5 : ((d + 1 : Nat) : Int) - 1 = d := by omega
    rw [e5]
    have hr := rdg_lt R q d
    obtain ⟨s1, a1, a2, a3⟩ := h.add (by omega) (b := 48 + (rdg R q d : Nat)) (by omega) (by omega)
    obtain ⟨s', b1, b2, b3⟩ := ih n s1 _ (by omega) (by omega) a2 (by rw [List.length_append]; show l.length + 1 + d + pr + 1 ≤ 5000; omega)
    refine ⟨s', ?_, ?_, a3.trans b3⟩
    · show b185_15 (f185_15 n) _ _ _ = _
      unfold b185_15
      rw [if_neg (znlt (by omega)), h.dig hs (by omega) (by omega), zb1_mk, zi_add, a1, zb0_mk, zi_add]
      exact b1
    · rw [List.append_assoc] at b2
      exact b2
/-- before it is written -/
def MS (s : zS) (N a b : Nat) (F : Int32) (l : List Int) : Prop := DEC s 32 N a b ∧ BD s l ∧ s.1 24 15 = F
theorem MS.dc {s : zS} {N a b : Nat} {F : Int32} {l : List Int} (h : MS s N a b F l) : DEC s 32 N a b := h.1
theorem MS.bd {s : zS} {N a b : Nat} {F : Int32} {l : List Int} (h : MS s N a b F l) : BD s l := h.2.1
theorem MS.fl {s : zS} {N a b : Nat} {F : Int32} {l : List Int} (h : MS s N a b F l) : s.1 24 15 = F := h.2.2
theorem MS.round {s : zS} {N a b : Nat} {F : Int32} {l : List Int} (h : MS s N a b F l) {q : Int} (hq : -1800 ≤ q) (hq2 : q ≤ 404) : ∃ s' T, f163 (zi q) s = some s' ∧ MB s' (rnd N q) q T F l ∧ ((rnd N q = 0 ∧ T = q) ∨ TopR (rnd N q) q T) ∧ szR q T ∧ fr [38] [27, 28] s s' ∧ MS s' N a b F l := by
  obtain ⟨s', T, a1, a2, a3, a4, a5⟩ := f163_eq h.dc hq hq2
  have hqT := a2.2.2.1
  have hb : BD s' l := BD.of a5 h.bd rfl rfl rfl
  have hf : s'.1 24 15 = F := by rw [a5.1 24 15 rfl (fun _ => rfl)]; exact h.fl
  refine ⟨s', T, a1, ⟨a2, hb, hf⟩, ?_, ⟨by omega, by omega, by omega⟩, a5, ⟨h.dc.mv a5 (.inl rfl) rfl rfl, hb, hf⟩⟩
  rcases a3 with g | ⟨g1, g2⟩
  · exact .inl g
  · exact .inr ⟨hqT, g2, a2.2.2.2.2⟩
theorem f185_eq {s : zS} {N a b : Nat} {F : Int32} {l : List Int} (h : MS s N a b F l) {pr : Nat} (hpr : pr ≤ 1500) (hl : l.length ≤ 100) : ∃ s' D T, f185 (zi pr) s = some s' ∧ OUTf F N pr D T ∧ BD s' (l ++ (D ++ T)) ∧ fr [38, 40] [27, 28, 33] s s' := by
  obtain ⟨s1, T, a1, a2, a3, a4, a5, _⟩ := h.round (q := -(pr : Int)) (by omega) (by omega)
  have hT := a4.2.1
  have hqT := a2.rd.2.2.1
  obtain ⟨d, hd⟩ : ∃ d : Nat, max T 0 + 1 = d := ⟨(max T 0 + 1).toNat, by omega⟩
  obtain ⟨s', b1, b2, b3⟩ := f185_15_loop a4 (pr := pr) (by omega) d zF s1 l (by omega) (by unfold zF; omega) a2 (by omega)
  refine ⟨s', _, _, ?_, ⟨T, ?_, rfl, rfl⟩, ?_, (a5.up rfl rfl).trans (b3.up rfl rfl)⟩
  · unfold f185
    rw [zi_neg, a1, zb0_mk, a2.rd.1, r264_max (by omega) (by omega) (by omega) (by omega)]
    have e1 : max T 0 = (d : Int) - 1 := by omega
    rw [e1]
    exact b1
  · rcases a3 with ⟨g1, g2⟩ | g
    · exact .inl ⟨g1, by omega⟩
    · exact .inr g
  · unfold whl
    have e1 : max T 0 = (d : Int) - 1 := by omega
    have e2 : (max T 0 + 1).toNat = d := by omega
    rw [e2, e1]
    exact b2.bd
/-! scientific -/
theorem expo_two {y : Nat} (hy : y ≤ 99) : ds y (kk y 2) = [(48 + (y / 10 % 10 : Nat) : Int), (48 + (y % 10 : Nat) : Int)] := by
  have h : KK y 2 2 := ⟨by omega, by omega, .inl rfl⟩
  rw [← kk_eq (Nat.lt_of_le_of_lt hy (by decide)) (by decide) h]
  show [(48 + (y / 10 ^ 1 % 10 : Nat) : Int), (48 + (y / 10 ^ 0 % 10 : Nat) : Int)] = _
  rw [Nat.pow_one, Nat.pow_zero, Nat.div_one]
theorem expo_three {y : Nat} (hy : 99 < y) (hy2 : y ≤ 999) : ds y (kk y 2) = [(48 + (y / 100 : Nat) : Int), (48 + (y / 10 % 10 : Nat) : Int), (48 + (y % 10 : Nat) : Int)] := by
  have h : KK y 2 3 := ⟨by omega, by omega, .inr ⟨by omega, by omega⟩⟩
  rw [← kk_eq (Nat.lt_of_le_of_lt hy2 (by decide)) (by decide) h]
  show [(48 + (y / 10 ^ 2 % 10 : Nat) : Int), (48 + (y / 10 ^ 1 % 10 : Nat) : Int), (48 + (y / 10 ^ 0 % 10 : Nat) : Int)] = _
  rw [Nat.pow_one, Nat.pow_zero, Nat.div_one]
  have e : y / 10 ^ 2 % 10 = y / 100 := by omega
  rw [e]
theorem zi_d10 {y : Nat} (hy : y ≤ 99999) {k : Nat} (hk : k = 10 ∨ k = 100 ∨ k = 1000) : zi (y : Int) / zi (k : Int) = zi ((y / k : Nat) : Int) := by
  rw [zi_div (by omega) (by omega) (by omega) (by omega)]
  rfl
theorem zi_r10 {y : Nat} (hy : y ≤ 99999) : zrem (zi (y : Int)) (zi 10) = zi ((y % 10 : Nat) : Int) := by
  rw [zi_rem (by omega) (by omega) (by omega) (by omega)]
  rfl
theorem f186_119_eq {R : Nat} {q T : Int} {F : Int32} {s : zS} {l : List Int} (h : MB s R q T F l) (hl : l.length ≤ 4000) {t : Int} (ht : t.natAbs ≤ 999) {y1 : Int} (hy1 : y1 = 43 ∨ y1 = 45) : ∃ s', f186_119 (zi t) (zi y1) s = some s' ∧ MB s' R q T F (l ++ (y1 :: ds t.natAbs (kk t.natAbs 2))) ∧ fr [40] [33] s s' := by
  obtain ⟨s1, a1, a2, a3⟩ := h.add (by omega) (b := y1) (by omega) (by omega)
  obtain ⟨y, hy⟩ : ∃ y : Nat, y = t.natAbs := ⟨_, rfl⟩
  have ht' : y ≤ 999 := by omega
  rw [← hy]
  have two : ∀ (s : zS) (l : List Int), MB s R q T F l → l.length ≤ 5000 → ∃ s', f186_150 (zi y) s = some s' ∧ MB s' R q T F (l ++ [(48 + (y / 10 % 10 : Nat) : Int), (48 + (y % 10 : Nat) : Int)]) ∧ fr [40] [33] s s' := by
    intro s l h hl
    obtain ⟨s1, a1, a2, a3⟩ := h.add (by omega) (b := 48 + (y / 10 % 10 : Nat)) (by omega) (by omega)
    obtain ⟨s2, b1, b2, b3⟩ := a2.add (by rw [List.length_append]; show l.length + 1 < 6000; omega) (b := 48 + (y % 10 : Nat)) (by omega) (by omega)
    refine ⟨s2, ?_, by rw [List.append_assoc] at b2; exact b2, a3.trans b3⟩
    unfold f186_150
    have e10 : zi (y : Int) / zi 10 = zi ((y / 10 : Nat) : Int) := zi_d10 (by omega) (.inl rfl)
    rw [e10, zi_r10 (by omega), zi_add, a1, zb0_mk, zi_r10 (by omega), zi_add, b1]
    rfl
  have all : ∃ s', f186_132 (zi t) (zi y) s1 = some s' ∧ MB s' R q T F ((l ++ [y1]) ++ ds y (kk y 2)) ∧ fr [40] [33] s1 s' := by
    unfold f186_132
    by_cases c : y ≤ 99
    · rw [if_pos (zle (by omega)), expo_two c]
      exact two s1 _ a2 (by rw [List.length_append]; show l.length + 1 ≤ 5000; omega)
    · rw [if_neg (znle (by omega)), expo_three (by omega) ht']
      obtain ⟨s2, b1, b2, b3⟩ := a2.add (by rw [List.length_append]; show l.length + 1 < 6000; omega) (b := 48 + (y / 100 : Nat)) (by omega) (by omega)
      obtain ⟨s3, c1, c2, c3⟩ := two s2 _ b2 (by rw [List.length_append, List.length_append]; show l.length + 1 + 1 ≤ 5000; omega)
      refine ⟨s3, ?_, by rw [List.append_assoc] at c2; exact c2, b3.trans c3⟩
      have e100 : zi (y : Int) / zi 100 = zi ((y / 100 : Nat) : Int) := zi_d10 (by omega) (.inr (.inl rfl))
      rw [e100, zi_add, b1, zb0_mk]
      exact c1
  obtain ⟨s', b1, b2, b3⟩ := all
  refine ⟨s', ?_, by rw [List.append_assoc] at b2; exact b2, a3.trans b3⟩
  unfold f186_119
  rw [a1, zb0_mk]
  by_cases c : 0 ≤ t
  · rw [if_pos (zge (by omega))]
    have e : t = (y : Int) := by omega
    rw [e] at b1 ⊢
    exact b1
  · rw [if_neg (znge (by omega)), zi_neg]
    have e : -t = (y : Int) := by omega
    rw [e]
    exact b1
theorem f186_76_loop {R : Nat} {q T : Int} (hs : szR q T) {F : Int32} {pr : Nat} (hpr : pr ≤ 2000) {t : Int} (ht : t.natAbs ≤ 999) : ∀ (d n : Nat) (s : zS) (l : List Int), d ≤ pr → d < n → MB s R q T F l → l.length + d ≤ 3500 →
    ∃ s', f186_76 n (zi pr) (zi t) (zi (t - pr - 1 + d)) s = some s' ∧ MB s' R q T F (l ++ (dl R q (t - pr - 1 + d) d ++ expo t)) ∧ fr [40] [33] s s' := by
  intro d
  induction d with
  | zero =>
    intro n s l hd hn h hl
    obtain ⟨n, rfl⟩ : ∃ k, n = k + 1 := ⟨n - 1, by omega⟩
    obtain ⟨s1, a1, a2, a3⟩ := h.add (by omega) (b := 101) (by omega) (by omega)
    obtain ⟨s', b1, b2, b3⟩ := f186_119_eq a2 (by rw [List.length_append]; show l.length + 1 ≤ 4000; omega) (t := t) ht (y1 := if 0 ≤ t then 43 else 45) (by split <;> omega)
    refine ⟨s', ?_, ?_, a3.trans b3⟩
    · show b186_76 (f186_76 n) _ _ _ _ = _
      unfold b186_76
      rw [zi_sub, if_pos (zlt (by omega)), a1, zb0_mk]
      by_cases c : 0 ≤ t
      · rw [if_pos c] at b1
        rw [if_pos (zge (by omega))]
        exact b1
      · rw [if_neg c] at b1
        rw [if_neg (znge (by omega))]
        exact b1
    · rw [List.append_assoc] at b2
      exact b2
  | succ d ih =>
    intro n s l hd hn h hl
    obtain ⟨n, rfl⟩ : ∃ k, n = k + 1 := ⟨n - 1, by omega⟩
    have hr := rdg_lt R q (t - pr - 1 + (d + 1 : Nat))
    obtain ⟨s1, a1, a2, a3⟩ := h.add (by omega) (b := 48 + (rdg R q (t - pr - 1 + (d + 1 : Nat)) : Nat)) (by omega) (by omega)
    obtain ⟨s', b1, b2, b3⟩ := ih n s1 _ (by omega) (by omega) a2 (by rw [List.length_append]; show l.length + 1 + d ≤ 3500; omega)
    have e9 : t - pr - 1 + ((d + 1 : Nat) : Int) - 1 = t - pr - 1 + d := by omega
    have e8 : t - pr - 1 + ((d + 1 : Nat) : Int) + -1 = t - pr - 1 + d := by omega
    refine ⟨s', ?_, ?_, a3.trans b3⟩
    · show b186_76 (f186_76 n) _ _ _ _ = _
      unfold b186_76
      rw [zi_sub, if_neg (znlt (by omega)), h.dig hs (by omega) (by omega), zb1_mk, zi_add, a1, zb0_mk, zi_add, e8]
      exact b1
    · rw [List.append_assoc] at b2
      show MB s' R q T F (l ++ (_ :: dl R q (t - pr - 1 + ((d + 1 : Nat) : Int) - 1) d ++ expo t))
      rw [e9]
      exact b2
theorem f186_39_eq {R : Nat} {q T : Int} (hs : szR q T) {F : Int32} {pr : Nat} (hpr : pr ≤ 2000) {t : Int} (ht : t.natAbs ≤ 999) {s : zS} {l : List Int} (h : MB s R q T F l) (hl : l.length + pr ≤ 3000) : ∃ s', f186_39 (zi pr) (zi t) s = some s' ∧ MB s' R q T F (l ++ (sciD R q t ++ sciT R q F t pr)) ∧ fr [40] [33] s s' := by
  have hr := rdg_lt R q t
  obtain ⟨s1, a1, a2, a3⟩ := h.add (by omega) (b := 48 + (rdg R q t : Nat)) (by omega) (by omega)
  have e0 : t - (pr : Int) - 1 + (pr : Nat) = t - 1 := by omega
  have dot : ∃ s', f186_66 (zi pr) (zi t) s1 = some s' ∧ MB s' R q T F ((l ++ [(48 + (rdg R q t : Nat) : Int)]) ++ ((46 :: dl R q (t - 1) pr) ++ expo t)) ∧ fr [40] [33] s1 s' := by
    obtain ⟨s2, b1, b2, b3⟩ := a2.add (by rw [List.length_append]; show l.length + 1 < 6000; omega) (b := 46) (by omega) (by omega)
    obtain ⟨s', c1, c2, c3⟩ := f186_76_loop hs hpr ht pr zF s2 _ (Nat.le_refl _) (by unfold zF; omega) b2 (by rw [List.length_append, List.length_append]; show l.length + 1 + 1 + pr ≤ 3500; omega)
    rw [e0] at c1 c2
    refine ⟨s', ?_, ?_, b3.trans c3⟩
    · unfold f186_66
      rw [b1, zb0_mk, zi_sub]
      exact c1
    · rw [List.append_assoc] at c2
      exact c2
  have rest : ∃ s', (if zi (pr : Int) > zi 0 then f186_66 (zi pr) (zi t) s1 else if (r180 (s1.1 24 15) (zi 2) s1) = zi 0 then f186_76 zF (zi pr) (zi t) (zi t - zi 1) s1 else f186_66 (zi pr) (zi t) s1) = some s' ∧ MB s' R q T F ((l ++ [(48 + (rdg R q t : Nat) : Int)]) ++ sciT R q F t pr) ∧ fr [40] [33] s1 s' := by
    unfold sciT frac
    by_cases c : 0 < pr
    · rw [if_pos (zgt (by omega)), if_pos (.inl c)]
      exact dot
    · rw [if_neg (zngt (by omega)), a2.fl]
      by_cases c2 : hasF F 2
      · rw [r180_1 c2, if_neg (zne (by omega)), if_pos (.inr c2)]
        exact dot
      · rw [r180_0 c2, if_pos rfl, if_neg (fun h => h.elim c c2), zi_sub]
        obtain rfl : pr = 0 := by omega
        obtain ⟨s', c1, c2, c3⟩ := f186_76_loop hs hpr ht 0 zF s1 _ (Nat.le_refl _) (by unfold zF; omega) a2 (by rw [List.length_append]; show l.length + 1 + 0 ≤ 3500; omega)
        rw [e0] at c1 c2
        exact ⟨s', c1, c2, c3⟩
  obtain ⟨s', b1, b2, b3⟩ := rest
  refine ⟨s', ?_, ?_, a3.trans b3⟩
  · unfold f186_39
    rw [h.dig hs (by omega) (by omega), zb1_mk, zi_add, a1, zb0_mk]
    exact b1
  · rw [List.append_assoc] at b2
    exact b2
theorem f186_eq {s : zS} {N a b : Nat} {F : Int32} {l : List Int} (h : MS s N a b F l) (hV : VB N) {pr : Nat} (hpr : pr ≤ 1200) (hl : l.length ≤ 100) : ∃ s' D T, f186 (zi pr) s = some s' ∧ OUTe F N pr D T ∧ BD s' (l ++ (D ++ T)) ∧ fr [38, 40] [27, 28, 33] s s' := by
  unfold f186
  rw [f236_eq h.dc, zb1_mk]
  by_cases h0 : N = 0
  · rw [if_pos h0, if_neg (zne (by omega)), zi_neg]
    obtain ⟨s1, T, a1, a2, a3, a4, a5, _⟩ := h.round (q := -(pr : Int)) (by omega) (by omega)
    obtain ⟨s', b1, b2, b3⟩ := f186_39_eq a4 (pr := pr) (by omega) (t := 0) (by omega) a2 (by omega)
    refine ⟨s', _, _, ?_, ⟨_, _, 0, ⟨0, .inl ⟨h0, rfl⟩, by omega, rfl, .inl ⟨h0, rfl⟩⟩, rfl, rfl⟩, b2.bd, (a5.up rfl rfl).trans (b3.up rfl rfl)⟩
    rw [a1, zb0_mk]
    exact b1
  · obtain ⟨t, t1, t2, t3⟩ := f237_eq h.dc h0
    have hb := hV.top (.inr ⟨h0, t1⟩)
    rw [if_neg h0, if_pos rfl, t2, zb1_mk, zi_sub]
    obtain ⟨s1, T, a1, a2, a3, a4, a5, _⟩ := h.round (q := t - pr) (by omega) (by omega)
    have hT : TopR (rnd N (t - pr)) (t - pr) T := a3.resolve_left (fun g => top_rnd t1 (by omega) (by omega) g.1)
    have h1 := TopR_ge t1 (by omega) (by omega) hT
    have h2 := TopR_le t1 (by omega) (by omega) hT
    obtain ⟨s', b1, b2, b3⟩ := f186_39_eq a4 (pr := pr) (by omega) (t := T) (by omega) a2 (by omega)
    refine ⟨s', _, _, ?_, ⟨_, _, T, ⟨t, .inr ⟨h0, t1⟩, rfl, rfl, .inr ⟨h0, hT⟩⟩, rfl, rfl⟩, b2.bd, (a5.up rfl rfl).trans (b3.up rfl rfl)⟩
    rw [a1, zb0_mk, a2.rd.1]
    exact b1
