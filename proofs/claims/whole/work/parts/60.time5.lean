/-! t: composed letters, and the conversion -/
def tcat (f : Int → List Int) : List Int → List Int
  | [] => []
  | x :: r => (if x = 58 ∨ x = 47 ∨ x = 45 then [x] else f x) ++ tcat f r
theorem tl_all {v Y : Int} {d0 m e : Nat} (hK : MOK v Y d0 m e) (x : Int) : asc (tl v Y d0 m e x) ∧ (tl v Y d0 m e x).length ≤ 200 := by
  obtain ⟨k1, k2, k3, k4, k5, k6⟩ := hK
  have hh : tHour v < 24 := by unfold tHour; omega
  have hm : tMin v < 60 := by unfold tMin; omega
  have hs : tSec v < 60 := by unfold tSec; omega
  have hl : tMil v < 1000 := by unfold tMil; omega
  have p : (10 : Nat) ^ 19 = 10000000000000000000 := by decide
  have kv : inL (v / 1000) := by
    unfold inL at k1 ⊢
    omega
  have hn : ∀ N a : Nat, N < 10000000000000000000 → a ≤ 19 → asc (num N a) ∧ (num N a).length ≤ 200 := by
    intro N a h1 h2
    have := num_len (N := N) (a := a) (by omega) h2
    exact ⟨ds_asc _ _, by omega⟩
  have hli : ∀ c : Nat, c < 78 → asc (lit c) ∧ (lit c).length ≤ 200 := fun c hc => ⟨lit_asc hc, lit_small hc⟩
  have htk : ∀ c : Nat, c < 78 → asc ((lit c).take 3) ∧ ((lit c).take 3).length ≤ 200 := by
    intro c hc
    refine ⟨fun v hv => lit_asc hc v (List.mem_of_mem_take hv), ?_⟩
    rw [List.length_take]
    omega
  have hsg : ∀ u : Int, inL u → asc (sgnd u) ∧ (sgnd u).length ≤ 200 := by
    intro u hu
    have h1 := sgn_asc u
    have h2 := sgn_len hu
    exact ⟨h1, by unfold sgnd num; omega⟩
  unfold inL at k1
  unfold tl
  by_cases c1 : x = 72
  · rw [if_pos c1]; exact hn _ _ (by omega) (by omega)
  rw [if_neg c1]
  by_cases c2 : x = 73
  · rw [if_pos c2]; exact hn _ _ (by omega) (by omega)
  rw [if_neg c2]
  by_cases c3 : x = 107
  · rw [if_pos c3]; exact hn _ _ (by omega) (by omega)
  rw [if_neg c3]
  by_cases c4 : x = 108
  · rw [if_pos c4]; exact hn _ _ (by omega) (by omega)
  rw [if_neg c4]
  by_cases c5 : x = 77
  · rw [if_pos c5]; exact hn _ _ (by omega) (by omega)
  rw [if_neg c5]
  by_cases c6 : x = 83
  · rw [if_pos c6]; exact hn _ _ (by omega) (by omega)
  rw [if_neg c6]
  by_cases c7 : x = 76
  · rw [if_pos c7]; exact hn _ _ (by omega) (by omega)
  rw [if_neg c7]
  by_cases c8 : x = 89
  · rw [if_pos c8]
    have h1 := num_len (N := Y.natAbs) (a := 4) (by omega) (by omega)
    refine ⟨asc.append ?_ (ds_asc _ _), ?_⟩
    · split
      · intro u hu
        rcases List.mem_cons.mp hu with rfl | hu
        · omega
        · cases hu
      · exact fun u hu => by cases hu
    · rw [List.length_append]
      split
      · show 1 + _ ≤ 200
        omega
      · show 0 + _ ≤ 200
        omega
  rw [if_neg c8]
  by_cases c9 : x = 121
  · rw [if_pos c9]; exact hn _ _ (by omega) (by omega)
  rw [if_neg c9]
  by_cases c10 : x = 67
  · rw [if_pos c10]; exact hn _ _ (by omega) (by omega)
  rw [if_neg c10]
  by_cases c11 : x = 109
  · rw [if_pos c11]; exact hn _ _ (by omega) (by omega)
  rw [if_neg c11]
  by_cases c12 : x = 100
  · rw [if_pos c12]; exact hn _ _ (by omega) (by omega)
  rw [if_neg c12]
  by_cases c13 : x = 101
  · rw [if_pos c13]; exact hn _ _ (by omega) (by omega)
  rw [if_neg c13]
  by_cases c14 : x = 106
  · rw [if_pos c14]; exact hn _ _ (by omega) (by omega)
  rw [if_neg c14]
  by_cases c15 : x = 66
  · rw [if_pos c15]; exact hli _ (by omega)
  rw [if_neg c15]
  by_cases c16 : x = 98
  · rw [if_pos c16]; exact htk _ (by omega)
  rw [if_neg c16]
  by_cases c17 : x = 65
  · rw [if_pos c17]; exact hli _ (by omega)
  rw [if_neg c17]
  by_cases c18 : x = 97
  · rw [if_pos c18]; exact htk _ (by omega)
  rw [if_neg c18]
  by_cases c19 : x = 112
  · rw [if_pos c19]; exact hli _ (by split <;> omega)
  rw [if_neg c19]
  by_cases c20 : x = 115
  · rw [if_pos c20]; exact hsg _ kv
  rw [if_neg c20]
  exact hsg _ k1
theorem one_asc {b : Int} (h : 0 ≤ b ∧ b ≤ 127) : asc [b] := by
  intro u hu
  rcases List.mem_cons.mp hu with rfl | hu
  · exact h
  · cases hu
theorem tw_all {v Y : Int} {d0 m e : Nat} (hK : MOK v Y d0 m e) (x : Int) : asc (tw v Y d0 m e x) ∧ (tw v Y d0 m e x).length ≤ 1500 := by
  have ht := fun y => tl_all hK y
  have h58 := one_asc (b := 58) (by omega)
  have h47 := one_asc (b := 47) (by omega)
  have h45 := one_asc (b := 45) (by omega)
  have hli : asc (lit (if tHour v < 12 then 27 else 28)) ∧ (lit (if tHour v < 12 then 27 else 28)).length ≤ 200 := by
    split
    · exact ⟨lit_asc (by decide), lit_small (by decide)⟩
    · exact ⟨lit_asc (by decide), lit_small (by decide)⟩
  have a1 := ht 72
  have a2 := ht 77
  have a3 := ht 83
  have a4 := ht 73
  have a5 := ht 109
  have a6 := ht 100
  have a7 := ht 121
  have a8 := ht 89
  have a9 := ht x
  unfold tw
  by_cases c1 : x = 82
  · rw [if_pos c1]
    refine ⟨a1.1.append (h58.append a2.1), ?_⟩
    simp only [List.length_append, List.length_cons, List.length_nil]
    omega
  rw [if_neg c1]
  by_cases c2 : x = 84
  · rw [if_pos c2]
    refine ⟨a1.1.append (h58.append (a2.1.append (h58.append a3.1))), ?_⟩
    simp only [List.length_append, List.length_cons, List.length_nil]
    omega
  rw [if_neg c2]
  by_cases c3 : x = 114
  · rw [if_pos c3]
    refine ⟨a4.1.append (h58.append (a2.1.append (h58.append (a3.1.append hli.1)))), ?_⟩
    simp only [List.length_append, List.length_cons, List.length_nil]
    omega
  rw [if_neg c3]
  by_cases c4 : x = 68
  · rw [if_pos c4]
    refine ⟨a5.1.append (h47.append (a6.1.append (h47.append a7.1))), ?_⟩
    simp only [List.length_append, List.length_cons, List.length_nil]
    omega
  rw [if_neg c4]
  by_cases c5 : x = 70
  · rw [if_pos c5]
    refine ⟨a8.1.append (h45.append (a5.1.append (h45.append a6.1))), ?_⟩
    simp only [List.length_append, List.length_cons, List.length_nil]
    omega
  rw [if_neg c5]
  exact ⟨a9.1, by omega⟩
theorem m_193_loop {c : Nat} (hc : c < 78) {v Y : Int} {d0 m e a : Nat} (hv : inL v) (hC : CAL (v / 86400000) Y d0 m e) (hK : MOK v Y d0 m e) (ha : a < 24) (hch : ∀ x, x ∈ lit c → (x = 58 ∨ x = 47 ∨ x = 45) ∨ isT x) : ∀ (d i n : Nat) (s : zS) (l : List Int) (w : Int), d + i = (lit c).length → d < n → MD s l w → s.1 24 35 = zi a → s.2.1 31 a = zl v → l.length + 200 * d ≤ 9000 →
    ∃ s', f193_2 ftime0 n c (zi i) s = some s' ∧ MD s' (l ++ tcat (tl v Y d0 m e) ((lit c).drop i)) (w + (tcat (tl v Y d0 m e) ((lit c).drop i)).length) ∧ fr [39] [30, 31] s s' := by
  have hs := lit_small hc
  have elen : zlen c = zi (lit c).length := by
    unfold zlen
    rw [lit_len]
  have elenN : zlenN c = (lit c).length := (lit_len c).symm
  intro d
  induction d with
  | zero =>
    intro i n s l w hd hn hM h35 h31 hl
    obtain ⟨n, rfl⟩ : ∃ k, n = k + 1 := ⟨n - 1, by omega⟩
    refine ⟨s, ?_, ?_, fr.refl⟩
    · show b193_2 ftime0 (f193_2 ftime0 n) _ _ _ = _
      unfold b193_2
      rw [elen, if_pos (zge (by omega))]
    · rw [List.drop_eq_nil_of_le (by omega)]
      show MD s (l ++ []) (w + (([] : List Int).length : Nat))
      rw [List.append_nil]
      have : w + (([] : List Int).length : Nat) = w := by show w + ((0 : Nat) : Int) = w; omega
      rw [this]
      exact hM
  | succ d ih =>
    intro i n s l w hd hn hM h35 h31 hl
    obtain ⟨n, rfl⟩ : ∃ k, n = k + 1 := ⟨n - 1, by omega⟩
    have hi : i < (lit c).length := by omega
    have hx := hch _ (List.getElem_mem hi)
    have hxr := lit_asc hc _ (List.getElem_mem hi)
    have ex : zchr c (zi (i : Int)) = zi (lit c)[i] := zchr_eq hi (by omega)
    -- one character
    have e1 : ∃ s1, f193_2 ftime0 (n + 1) c (zi i) s = f193_2 ftime0 n c (zi i + zi 1) s1 ∧ MD s1 (l ++ (if (lit c)[i] = 58 ∨ (lit c)[i] = 47 ∨ (lit c)[i] = 45 then [(lit c)[i]] else tl v Y d0 m e (lit c)[i])) (w + (if (lit c)[i] = 58 ∨ (lit c)[i] = 47 ∨ (lit c)[i] = 45 then [(lit c)[i]] else tl v Y d0 m e (lit c)[i]).length) ∧ fr [39] [30, 31] s s1 := by
      have e0 : f193_2 ftime0 (n + 1) c (zi i) s = b193_2 ftime0 (f193_2 ftime0 n) c (zi i) s := rfl
      rw [e0]
      unfold b193_2 f193_34
      rw [elen, elenN, if_neg (znge (by omega)), if_pos (zi_ix (by omega) (by omega) (by omega)), ex]
      by_cases q : (lit c)[i] = 58 ∨ (lit c)[i] = 47 ∨ (lit c)[i] = 45
      · obtain ⟨s1, a1, a2, a3⟩ := hM.add (by omega) (b := (lit c)[i]) (by omega) (by omega)
        rw [if_pos q, a1]
        refine ⟨s1, ?_, a2, a3⟩
        rcases q with e | e | e
        · rw [if_pos (zeq e), zb0_mk]
        · rw [if_neg (zne (by omega)), if_pos (zeq e), zb0_mk]
        · rw [if_neg (zne (by omega)), if_neg (zne (by omega)), if_neg (not_not_intro (zeq e)), zb0_mk]
      · have hT : isT (lit c)[i] := by
          rcases hx with h | h
          · exact absurd h q
          · exact h
        obtain ⟨s1, a1, a2, a3⟩ := m_192 (tms := fun _ _ => none) hM hv hC ha h35 h31 (by omega) hT
        have a1' : ftime0 (zi (lit c)[i]) s = some s1 := a1
        rw [if_neg (zne (by omega)), if_neg (zne (by omega)), if_pos (zne (by omega)), a1', zb0_mk, if_neg q]
        exact ⟨s1, rfl, a2, a3⟩
    obtain ⟨s1, a1, a2, a3⟩ := e1
    have ht := (tl_all hK (lit c)[i]).2
    have hl1 : (if (lit c)[i] = 58 ∨ (lit c)[i] = 47 ∨ (lit c)[i] = 45 then [(lit c)[i]] else tl v Y d0 m e (lit c)[i]).length ≤ 200 := by
      split
      · show 1 ≤ 200
        omega
      · exact ht
    obtain ⟨s', b1, b2, b3⟩ := ih (i + 1) n s1 _ _ (by omega) (by omega) a2 ((a3.1 24 35 rfl (fun _ => rfl)).trans h35) ((a3.2.1 31 a rfl).trans h31) (by rw [List.length_append]; omega)
    refine ⟨s', ?_, ?_, a3.trans b3⟩
    · rw [a1, zi_add]
      exact b1
    · rw [List.drop_eq_getElem_cons hi]
      show MD s' (l ++ ((if (lit c)[i] = 58 ∨ (lit c)[i] = 47 ∨ (lit c)[i] = 45 then [(lit c)[i]] else tl v Y d0 m e (lit c)[i]) ++ tcat (tl v Y d0 m e) ((lit c).drop (i + 1)))) (w + ((if (lit c)[i] = 58 ∨ (lit c)[i] = 47 ∨ (lit c)[i] = 45 then [(lit c)[i]] else tl v Y d0 m e (lit c)[i]) ++ tcat (tl v Y d0 m e) ((lit c).drop (i + 1))).length)
      rw [List.append_assoc] at b2
      rw [List.length_append]
      have e9 : ∀ x y : Nat, w + (x : Int) + (y : Int) = w + ((x + y : Nat) : Int) := fun x y => by omega
      rw [e9] at b2
      exact b2
/-- times of the literal c -/
theorem m_times {c : Nat} (hc : c < 78) (hcl : (lit c).length ≤ 10) {s : zS} {v Y : Int} {d0 m e a : Nat} (h : MD s [] 0) (hv : inL v) (hC : CAL (v / 86400000) Y d0 m e) (hK : MOK v Y d0 m e) (ha : a < 24) (h35 : s.1 24 35 = zi a) (h31 : s.2.1 31 a = zl v) (hch : ∀ x, x ∈ lit c → (x = 58 ∨ x = 47 ∨ x = 45) ∨ isT x) : ∃ s', ftimes0 c s = some s' ∧ MD s' (tcat (tl v Y d0 m e) (lit c)) (tcat (tl v Y d0 m e) (lit c)).length ∧ fr [39] [30, 31] s s' := by
  obtain ⟨s', a1, a2, a3⟩ := m_193_loop hc hv hC hK ha hch (lit c).length 0 zF s [] 0 (by omega) (by unfold zF; omega) h h35 h31 (by show 0 + _ ≤ 9000; omega)
  refine ⟨s', a1, ?_, a3⟩
  rw [List.drop_zero, List.nil_append] at a2
  have e0 : ∀ x : Nat, (0 : Int) + x = x := fun x => by omega
  rw [e0] at a2
  exact a2
theorem m_time1 {s : zS} {v Y : Int} {d0 m e a : Nat} (h : MD s [] 0) (hv : inL v) (hC : CAL (v / 86400000) Y d0 m e) (ha : a < 24) (h35 : s.1 24 35 = zi a) (h31 : s.2.1 31 a = zl v) {x : Int} (hx : isTW x) : ∃ s', ftime1 (zi x) s = some s' ∧ MD s' (tw v Y d0 m e x) (tw v Y d0 m e x).length ∧ fr [39] [30, 31] s s' := by
  obtain ⟨t1, t2, t3, t4, t5, t6, t7, t8, t9, t10, t11, t12⟩ := lits_t
  obtain ⟨Z, d, m', e', g1, g2, g3, g4⟩ := f192_eq (tms := ftimes0) (s := s) (x1 := zi x) hv ha h35 h31
  obtain ⟨rfl, rfl, rfl, rfl⟩ := CAL_uniq hC g1
  have hK := MOK_of hv hC g2 g3
  have hh : tHour v < 24 := by unfold tHour; omega
  have eh : v % 86400000 / 3600000 = (tHour v : Int) := by unfold tHour; omega
  have g5 : ftime1 (zi x) s = f192 ftimes0 (zi x) s := rfl
  have iT : ∀ y : Int, y = 72 ∨ y = 77 ∨ y = 83 ∨ y = 73 ∨ y = 109 ∨ y = 100 ∨ y = 121 ∨ y = 89 → isT y := by
    intro y hy
    unfold isT
    omega
  rw [g5]
  rcases hx with hx | rfl | rfl | rfl | rfl | rfl
  · obtain ⟨s', a1, a2, a3⟩ := m_192 (tms := ftimes0) h hv hC ha h35 h31 (by show 0 ≤ 9000; omega) hx
    have e : tw v Y d0 m e x = tl v Y d0 m e x := by
      unfold tw
      rcases hx with rfl | rfl | rfl | rfl | rfl | rfl | rfl | rfl | rfl | rfl | rfl | rfl | rfl | rfl | rfl | rfl | rfl | rfl | rfl | rfl | rfl <;> rfl
    refine ⟨s', a1, ?_, a3⟩
    rw [e]
    rw [List.nil_append] at a2
    have e0 : ∀ x : Nat, (0 : Int) + x = x := fun x => by omega
    rw [e0] at a2
    exact a2
  · obtain ⟨s', a1, a2, a3⟩ := m_times (c := 71) (by decide) (by rw [t4]; decide) h hv hC hK ha h35 h31 (by
      rw [t4]
      intro y hy
      simp only [List.mem_cons, List.not_mem_nil, or_false] at hy
      rcases hy with rfl | rfl | rfl
      · exact .inr (iT 72 (by omega))
      · exact .inl (by omega)
      · exact .inr (iT 77 (by omega)))
    refine ⟨s', ?_, ?_, a3⟩
    · rw [g4]
      unfold f192_210
      simp (disch := omega) only [zne, eq_self, ↓reduceIte, or_false, false_or, or_true, true_or, not_true_eq_false, not_false_eq_true]
      rw [a1]
      rfl
    · rw [t4] at a2
      have e : tw v Y d0 m e 82 = tcat (tl v Y d0 m e) [72, 58, 77] := by
        simp [tw, tcat]
      rw [e]
      exact a2
  · obtain ⟨s', a1, a2, a3⟩ := m_times (c := 72) (by decide) (by rw [t5]; decide) h hv hC hK ha h35 h31 (by
      rw [t5]
      intro y hy
      simp only [List.mem_cons, List.not_mem_nil, or_false] at hy
      rcases hy with rfl | rfl | rfl | rfl | rfl
      · exact .inr (iT 72 (by omega))
      · exact .inl (by omega)
      · exact .inr (iT 77 (by omega))
      · exact .inl (by omega)
      · exact .inr (iT 83 (by omega)))
    refine ⟨s', ?_, ?_, a3⟩
    · rw [g4]
      unfold f192_210
      simp (disch := omega) only [zne, eq_self, ↓reduceIte, or_false, false_or, or_true, true_or, not_true_eq_false, not_false_eq_true]
      rw [a1]
      rfl
    · rw [t5] at a2
      have e : tw v Y d0 m e 84 = tcat (tl v Y d0 m e) [72, 58, 77, 58, 83] := by
        simp [tw, tcat]
      rw [e]
      exact a2
  · obtain ⟨s1, a1, a2, a3⟩ := m_times (c := 73) (by decide) (by rw [t6]; decide) h hv hC hK ha h35 h31 (by
      rw [t6]
      intro y hy
      simp only [List.mem_cons, List.not_mem_nil, or_false] at hy
      rcases hy with rfl | rfl | rfl | rfl | rfl
      · exact .inr (iT 73 (by omega))
      · exact .inl (by omega)
      · exact .inr (iT 77 (by omega))
      · exact .inl (by omega)
      · exact .inr (iT 83 (by omega)))
    rw [t6] at a2
    have ej : tcat (tl v Y d0 m e) [73, 58, 77, 58, 83] = tl v Y d0 m e 73 ++ ([58] ++ (tl v Y d0 m e 77 ++ ([58] ++ tl v Y d0 m e 83))) := by
      simp [tcat]
    have hle : (tcat (tl v Y d0 m e) [73, 58, 77, 58, 83]).length ≤ 11000 := by
      have b1 := (tl_all hK 73).2
      have b2 := (tl_all hK 77).2
      have b3 := (tl_all hK 83).2
      rw [ej]
      simp only [List.length_append, List.length_cons, List.length_nil]
      omega
    obtain ⟨s2, b1, b2, b3⟩ := m_say a2 (c := if tHour v < 12 then 74 else 75) (by split <;> decide) hle
    refine ⟨s2, ?_, ?_, a3.trans b3⟩
    · rw [g4, eh]
      unfold f192_210 f192_757
      simp (disch := omega) only [zne, eq_self, ↓reduceIte, or_false, false_or, or_true, true_or, not_true_eq_false, not_false_eq_true]
      rw [a1, zb0_mk]
      by_cases q : tHour v < 12
      · rw [if_neg (znge (by omega))]
        rw [if_pos q] at b1
        exact b1
      · rw [if_pos (zge (by omega))]
        rw [if_neg q] at b1
        exact b1
    · have e : tw v Y d0 m e 114 = tcat (tl v Y d0 m e) [73, 58, 77, 58, 83] ++ lit (if tHour v < 12 then 74 else 75) := by
        rw [ej]
        by_cases q : tHour v < 12
        · simp [tw, q, t9]
        · simp [tw, q, t10]
      rw [e, List.length_append]
      have e9 : ∀ x y : Nat, (x : Int) + (y : Int) = ((x + y : Nat) : Int) := fun x y => by omega
      rw [e9] at b2
      exact b2
  · obtain ⟨s', a1, a2, a3⟩ := m_times (c := 76) (by decide) (by rw [t7]; decide) h hv hC hK ha h35 h31 (by
      rw [t7]
      intro y hy
      simp only [List.mem_cons, List.not_mem_nil, or_false] at hy
      rcases hy with rfl | rfl | rfl | rfl | rfl
      · exact .inr (iT 109 (by omega))
      · exact .inl (by omega)
      · exact .inr (iT 100 (by omega))
      · exact .inl (by omega)
      · exact .inr (iT 121 (by omega)))
    refine ⟨s', ?_, ?_, a3⟩
    · rw [g4]
      unfold f192_210
      simp (disch := omega) only [zne, eq_self, ↓reduceIte, or_false, false_or, or_true, true_or, not_true_eq_false, not_false_eq_true]
      rw [a1]
      rfl
    · rw [t7] at a2
      have e : tw v Y d0 m e 68 = tcat (tl v Y d0 m e) [109, 47, 100, 47, 121] := by
        simp [tw, tcat]
      rw [e]
      exact a2
  · obtain ⟨s', a1, a2, a3⟩ := m_times (c := 77) (by decide) (by rw [t8]; decide) h hv hC hK ha h35 h31 (by
      rw [t8]
      intro y hy
      simp only [List.mem_cons, List.not_mem_nil, or_false] at hy
      rcases hy with rfl | rfl | rfl | rfl | rfl
      · exact .inr (iT 89 (by omega))
      · exact .inl (by omega)
      · exact .inr (iT 109 (by omega))
      · exact .inl (by omega)
      · exact .inr (iT 100 (by omega)))
    refine ⟨s', ?_, ?_, a3⟩
    · rw [g4]
      unfold f192_210
      simp (disch := omega) only [zne, eq_self, ↓reduceIte, or_false, false_or, or_true, true_or, not_true_eq_false, not_false_eq_true]
      rw [a1]
      rfl
    · rw [t8] at a2
      have e : tw v Y d0 m e 70 = tcat (tl v Y d0 m e) [89, 45, 109, 45, 100] := by
        simp [tw, tcat]
      rw [e]
      exact a2
theorem ix_tw : ∀ c, c < 128 → zidx 58 (zi (c : Nat)) < zi 0 ∨ c = 72 ∨ c = 73 ∨ c = 107 ∨ c = 108 ∨ c = 77 ∨ c = 83 ∨ c = 76 ∨ c = 89 ∨ c = 121 ∨ c = 67 ∨ c = 109 ∨ c = 100 ∨ c = 101 ∨ c = 106 ∨ c = 66 ∨ c = 98 ∨ c = 65 ∨ c = 97 ∨ c = 112 ∨ c = 115 ∨ c = 81 ∨ c = 82 ∨ c = 84 ∨ c = 114 ∨ c = 68 ∨ c = 70 := by decide +kernel
theorem CV_t {F : Int32} {W pr su c m : Int} {a n : Nat} {t : List Int} (hv : vald F W pr 116 6 c m t) (hs : suOK 116 su) : CV F W pr 116 su 6 c m a n t := by
  obtain ⟨ha, _, _, hf, hW1, hW2, _, _, _⟩ := hv
  obtain ⟨q1, q2, q3, q4, q5, q6, _⟩ := ha
  have hcm : c = m := q6 (by omega)
  subst hcm
  obtain ⟨s1, s2, s3⟩ := hs rfl
  obtain ⟨k, hk1, hk2⟩ := int128 s1 s2
  have hT : isTW su := by
    have h := ix_tw k hk1
    rw [← hk2] at h
    rcases h with h | h
    · exact absurd h s3
    · rw [hk2]
      rcases h with h | h | h | h | h | h | h | h | h | h | h | h | h | h | h | h | h | h | h | h | h | h | h | h | h | h <;> subst h <;> simp [isTW, isT]
  -- the class's moment, whatever the state
  obtain ⟨Y, d0, mo, e, _, hC, _, _, _⟩ := f87_eq (s := s0) q3
  have hM0 : ∃ Z : Int, Z = Y ∧ -1000000000 ≤ Z ∧ Z ≤ 1000000000 := by
    obtain ⟨Z, d, m', e', g1, g2, g3, _⟩ := f192_eq (tms := fun _ _ => none) (s := setK (setI s0 24 35 (zi (0 : Nat))) 31 0 (zl c)) (a := 0) (x1 := zi 0) q3 (by omega) rfl rfl
    exact ⟨Z, (CAL_uniq g1 hC).1, g2, g3⟩
  obtain ⟨Z, rfl, z1, z2⟩ := hM0
  have hK := MOK_of q3 hC z1 z2
  obtain ⟨w1, w2⟩ := tw_all hK su
  refine ⟨tw c Z d0 mo e su, 0, -1, tw c Z d0 mo e su, (tw c Z d0 mo e su).length, PR.plain w1 (by omega) W F, fun s h hP => ?_, fun s h hM => ?_⟩
  · obtain ⟨Y', d', m', e', sa, g1, g2, g3, g4⟩ := f87_eq (s := s) q3
    obtain ⟨rfl, rfl, rfl, rfl⟩ := CAL_uniq hC g1
    have h7 : r56 sa = zi su := (congrFun (g4.f (a := 7) rfl (by decide)) 7).trans (h.2.2.2.2.1 rfl)
    obtain ⟨sb, b1, b2, b3⟩ := c_90 (hP.mv g4 rfl rfl) g3 hK hT
    refine ⟨sb, ?_, b2, (g4.up rfl rfl).trans (b3.up rfl rfl)⟩
    unfold f64
    rw [h.entry.2.1, if_pos (zne (by omega)), h.entry.1, if_neg (zne (by omega)), if_neg (zne (by omega)), if_neg (zne (by omega)), if_neg (zne (by omega)), if_neg (zne (by omega)), if_pos rfl, h.entry.2.2, g2, zb0_mk, h7, b1]
    rfl
  · obtain ⟨sb, b1, b2, b3⟩ := m_time1 hM q3 hC h.2.2.2.2.2.2.1 h.2.2.2.2.2.1 h.2.2.2.2.2.2.2.2.1 hT
    refine ⟨sb, ?_, b2, R6.fr b3 h.2.2.2.2.2.2.2.2.2.2 rfl rfl rfl rfl rfl rfl, b3.up rfl rfl⟩
    rw [m202_entry h (by omega) (.inr (.inr (.inr (.inr (.inr (.inr (.inr (.inr (.inr (.inr rfl))))))))))]
    unfold f202_49
    rw [h.2.2.2.1, if_pos (zne (by omega)), if_neg (zne (by omega)), if_neg (zne (by omega)), if_pos (zne (by omega)), if_pos (zne (by omega)), if_pos (zne (by omega)), if_pos (zne (by omega)), if_pos (zne (by omega)), if_neg (not_not_intro rfl), h.2.2.2.2.1 rfl, b1]
    rfl
