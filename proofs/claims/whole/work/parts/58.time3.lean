theorem c_signed {s : zS} {l : List Int} {z : Int} (h : PC s l 0 z) {v : Int} (hv : inL v) (hl : l.length ≤ 1300) : ∃ s', zb0 (f79 (zl v) s) (fun s1 => some s1) = some s' ∧ PC s' (l ++ sgnd v) 0 z ∧ fr [13, 14] [] s s' := by
  obtain ⟨s', a1, a2, a3⟩ := h.signed hv.1 hv.2 (by omega)
  exact ⟨s', by rw [a1]; rfl, a2, a3⟩
theorem zb0_id (o : Option zS) : zb0 o (fun s1 => some s1) = o := by
  cases o <;> rfl
theorem c_92 {s : zS} {l : List Int} {z v Y : Int} {d0 m e : Nat} (h : PC s l 0 z) (hM : MO s v Y d0 m e) (hK : MOK v Y d0 m e) (hl : l.length ≤ 1300) {x : Int} (hx : isT x) : ∃ s', f92 (zi x) s = some s' ∧ PC s' (l ++ tl v Y d0 m e x) 0 z ∧ fr [13, 14] [] s s' := by
  obtain ⟨e1, e2⟩ := hour_eq hM
  have hh : tHour v < 24 := by unfold tHour; omega
  have k := hK
  obtain ⟨k1, k2, k3, k4, k5, k6⟩ := k
  have kv : inL (v / 1000) := by
    unfold inL at k1 ⊢
    omega
  have w1 := r97_eq hM.2.2.2.1 k4
  have w2 : r98 s = 41 + (tDay v + 4) % 7 := by
    refine r98_eq (k := (tDay v + 4) % 7) ?_ (Nat.mod_lt _ (by decide))
    rw [hM.2.2.2.2.2.2]
    congr 1
    unfold tDay
    omega
  have go : ∀ y : Int, (y = 72 ∨ y = 73 ∨ y = 107 ∨ y = 108 ∨ y = 77 ∨ y = 83 ∨ y = 76) → ∃ s', zb0 (f94 (zi y) s) (fun s1 => some s1) = some s' ∧ PC s' (l ++ tl v Y d0 m e y) 0 z ∧ fr [13, 14] [] s s' := by
    intro y hy
    rw [zb0_id]
    exact c_94 h hM hl hy
  have gy : ∀ y : Int, (y = 89 ∨ y = 121 ∨ y = 67) → ∃ s', zb0 (f93 (zi y) s) (fun s1 => some s1) = some s' ∧ PC s' (l ++ tl v Y d0 m e y) 0 z ∧ fr [13, 14] [] s s' := by
    intro y hy
    rw [zb0_id]
    exact c_93 h hM hK hl hy
  unfold f92 f92_354
  rw [w1, w2, e1, hM.1, hM.2.2.2.1, hM.2.2.2.2.1, hM.2.2.2.2.2.1, zI2L_zi (by omega) (by omega), zI2L_zi (by omega) (by omega), zI2L_zi (by omega) (by omega), f261_eq k1.1 k1.2 (by omega) (by omega), zb1_mk]
  rcases hx with rfl | rfl | rfl | rfl | rfl | rfl | rfl | rfl | rfl | rfl | rfl | rfl | rfl | rfl | rfl | rfl | rfl | rfl | rfl | rfl | rfl
  · simp (disch := omega) only [zne, eq_self, ↓reduceIte, or_false, false_or, or_true, true_or, not_true_eq_false, not_false_eq_true]
    exact go 72 (by omega)
  · simp (disch := omega) only [zne, eq_self, ↓reduceIte, or_false, false_or, or_true, true_or, not_true_eq_false, not_false_eq_true]
    exact go 73 (by omega)
  · simp (disch := omega) only [zne, eq_self, ↓reduceIte, or_false, false_or, or_true, true_or, not_true_eq_false, not_false_eq_true]
    exact go 107 (by omega)
  · simp (disch := omega) only [zne, eq_self, ↓reduceIte, or_false, false_or, or_true, true_or, not_true_eq_false, not_false_eq_true]
    exact go 108 (by omega)
  · simp (disch := omega) only [zne, eq_self, ↓reduceIte, or_false, false_or, or_true, true_or, not_true_eq_false, not_false_eq_true]
    exact go 77 (by omega)
  · simp (disch := omega) only [zne, eq_self, ↓reduceIte, or_false, false_or, or_true, true_or, not_true_eq_false, not_false_eq_true]
    exact go 83 (by omega)
  · simp (disch := omega) only [zne, eq_self, ↓reduceIte, or_false, false_or, or_true, true_or, not_true_eq_false, not_false_eq_true]
    exact go 76 (by omega)
  · simp (disch := omega) only [zne, eq_self, ↓reduceIte, or_false, false_or, or_true, true_or, not_true_eq_false, not_false_eq_true]
    exact gy 89 (by omega)
  · simp (disch := omega) only [zne, eq_self, ↓reduceIte, or_false, false_or, or_true, true_or, not_true_eq_false, not_false_eq_true]
    exact gy 121 (by omega)
  · simp (disch := omega) only [zne, eq_self, ↓reduceIte, or_false, false_or, or_true, true_or, not_true_eq_false, not_false_eq_true]
    exact gy 67 (by omega)
  · simp (disch := omega) only [zne, eq_self, ↓reduceIte, or_false, false_or, or_true, true_or, not_true_eq_false, not_false_eq_true]
    exact c_num h (a := 2) (N := m + 1) ⟨_, rfl, by omega, by unfold inL; omega⟩ (by omega) (by omega)
  · simp (disch := omega) only [zne, eq_self, ↓reduceIte, or_false, false_or, or_true, true_or, not_true_eq_false, not_false_eq_true]
    exact c_num h (a := 2) (N := e + 1) ⟨_, rfl, by omega, by unfold inL; omega⟩ (by omega) (by omega)
  · simp (disch := omega) only [zne, eq_self, ↓reduceIte, or_false, false_or, or_true, true_or, not_true_eq_false, not_false_eq_true]
    exact c_num h (a := 1) (N := e + 1) ⟨_, rfl, by omega, by unfold inL; omega⟩ (by omega) (by omega)
  · simp (disch := omega) only [zne, eq_self, ↓reduceIte, or_false, false_or, or_true, true_or, not_true_eq_false, not_false_eq_true]
    exact c_num h (a := 3) (N := d0 + 1) ⟨_, rfl, by omega, by unfold inL; omega⟩ (by omega) (by omega)
  · simp (disch := omega) only [zne, eq_self, ↓reduceIte, or_false, false_or, or_true, true_or, not_true_eq_false, not_false_eq_true]
    exact c_all h (by omega) hl
  · simp (disch := omega) only [zne, eq_self, ↓reduceIte, or_false, false_or, or_true, true_or, not_true_eq_false, not_false_eq_true]
    exact c_first h (by omega) hl
  · simp (disch := omega) only [zne, eq_self, ↓reduceIte, or_false, false_or, or_true, true_or, not_true_eq_false, not_false_eq_true]
    exact c_all h (by omega) hl
  · simp (disch := omega) only [zne, eq_self, ↓reduceIte, or_false, false_or, or_true, true_or, not_true_eq_false, not_false_eq_true]
    exact c_first h (by omega) hl
  · simp (disch := omega) only [zne, eq_self, ↓reduceIte, or_false, false_or, or_true, true_or, not_true_eq_false, not_false_eq_true]
    show ∃ s', _ ∧ PC s' (l ++ lit (if tHour v < 12 then 48 else 49)) 0 z ∧ _
    by_cases q : tHour v < 12
    · rw [if_neg (znge (by omega)), if_pos q]
      exact c_all h (by omega) hl
    · rw [if_pos (zge (by omega)), if_neg q]
      exact c_all h (by omega) hl
  · simp (disch := omega) only [zne, eq_self, ↓reduceIte, or_false, false_or, or_true, true_or, not_true_eq_false, not_false_eq_true]
    exact c_signed h kv hl
  · simp (disch := omega) only [zne, eq_self, ↓reduceIte, or_false, false_or, or_true, true_or, not_true_eq_false, not_false_eq_true]
    exact c_signed h k1 hl
/-- letters with a : between -/
def tjoin (f : Int → List Int) : List Int → Bool → List Int
  | [], _ => []
  | x :: r, b => (if b then [58] else []) ++ (f x ++ tjoin f r true)
theorem num_len {N a : Nat} (hN : N < 10 ^ 19) (ha : a ≤ 19) : (num N a).length ≤ 19 := by
  unfold num
  rw [ds_len]
  exact kk_le hN ha (by decide)
theorem tl94_len {v Y : Int} {d0 m e : Nat} {x : Int} (hx : x = 72 ∨ x = 73 ∨ x = 107 ∨ x = 108 ∨ x = 77 ∨ x = 83 ∨ x = 76) : (tl v Y d0 m e x).length ≤ 19 := by
  have hh : tHour v < 24 := by unfold tHour; omega
  have hm : tMin v < 60 := by unfold tMin; omega
  have hs : tSec v < 60 := by unfold tSec; omega
  have hl : tMil v < 1000 := by unfold tMil; omega
  have p : (10 : Nat) ^ 19 = 10000000000000000000 := by decide
  have h12 : (tHour v + 11) % 12 + 1 < 100 := by omega
  unfold tl
  rcases hx with rfl | rfl | rfl | rfl | rfl | rfl | rfl <;> simp (disch := omega) only [zne, eq_self, ↓reduceIte, or_false, false_or, or_true, true_or, not_true_eq_false, not_false_eq_true] <;> exact num_len (by omega) (by omega)
theorem c_91_loop {c : Nat} (hc : c < 78) {v Y : Int} {d0 m e : Nat} {z : Int} (hch : ∀ x, x ∈ lit c → x = 72 ∨ x = 73 ∨ x = 107 ∨ x = 108 ∨ x = 77 ∨ x = 83 ∨ x = 76) : ∀ (d i n : Nat) (s : zS) (l : List Int), d + i = (lit c).length → d < n → PC s l 0 z → MO s v Y d0 m e → l.length + 20 * d ≤ 1300 →
    ∃ s', f91_2 n c (zi i) s = some s' ∧ PC s' (l ++ tjoin (tl v Y d0 m e) ((lit c).drop i) (decide (0 < i))) 0 z ∧ fr [13, 14] [] s s' := by
  have hs := lit_small hc
  have elen : zlen c = zi (lit c).length := by
    unfold zlen
    rw [lit_len]
  have elenN : zlenN c = (lit c).length := (lit_len c).symm
  intro d
  induction d with
  | zero =>
    intro i n s l hd hn hP hM hl
    obtain ⟨n, rfl⟩ : ∃ k, n = k + 1 := ⟨n - 1, by omega⟩
    refine ⟨s, ?_, ?_, fr.refl⟩
    · show b91_2 (f91_2 n) _ _ _ = _
      unfold b91_2
      rw [elen, if_pos (zge (by omega))]
    · rw [List.drop_eq_nil_of_le (by omega)]
      exact hP.nil
  | succ d ih =>
    intro i n s l hd hn hP hM hl
    obtain ⟨n, rfl⟩ : ∃ k, n = k + 1 := ⟨n - 1, by omega⟩
    have hi : i < (lit c).length := by omega
    have hx := hch _ (List.getElem_mem hi)
    have ex : zchr c (zi (i : Int)) = zi (lit c)[i] := zchr_eq hi (by omega)
    have htl := tl94_len (v := v) (Y := Y) (d0 := d0) (m := m) (e := e) hx
    -- the colon
    have e1 : ∃ s1, f91_2 (n + 1) c (zi i) s = f91_20 (f91_2 n) c (zi i) s1 ∧ PC s1 (l ++ (if decide (0 < i) then [58] else [])) 0 z ∧ fr [13, 14] [] s s1 := by
      have e0 : f91_2 (n + 1) c (zi i) s = b91_2 (f91_2 n) c (zi i) s := rfl
      rw [e0]
      unfold b91_2
      rw [elen, if_neg (znge (by omega))]
      by_cases q : 0 < i
      · obtain ⟨s1, a1, a2, a3⟩ := hP.add (by omega) (b := 58) (by omega) (by omega)
        rw [if_neg (znle (by omega)), a1, zb0_mk, if_pos (decide_eq_true q)]
        exact ⟨s1, rfl, a2, a3⟩
      · rw [if_pos (zle (by omega)), if_neg (by simpa using q)]
        exact ⟨s, rfl, hP.nil, fr.refl⟩
    obtain ⟨s1, a1, a2, a3⟩ := e1
    have hl1 : (l ++ (if decide (0 < i) then ([58] : List Int) else [])).length ≤ l.length + 1 := by
      rw [List.length_append]
      split
      · exact Nat.le_refl _
      · exact Nat.le_succ _
    obtain ⟨s2, b1, b2, b3⟩ := c_94 (v := v) (Y := Y) (d0 := d0) (m := m) (e := e) a2 (hM.mv a3 rfl) (by omega) hx
    obtain ⟨s', d1, d2, d3⟩ := ih (i + 1) n s2 _ (by omega) (by omega) b2 (hM.mv (a3.trans b3) rfl) (by rw [List.length_append]; omega)
    refine ⟨s', ?_, ?_, (a3.trans b3).trans d3⟩
    · rw [a1]
      unfold f91_20
      rw [elenN, if_pos (zi_ix (by omega) (by omega) (by omega)), ex, b1, zb0_mk, zi_add]
      exact d1
    · rw [List.drop_eq_getElem_cons hi]
      show PC s' (l ++ ((if decide (0 < i) then [58] else []) ++ (tl v Y d0 m e (lit c)[i] ++ tjoin (tl v Y d0 m e) ((lit c).drop (i + 1)) true))) 0 z
      rw [decide_eq_true (show 0 < i + 1 by omega), List.append_assoc, List.append_assoc] at d2
      exact d2
theorem lits_t : lit 24 = [72, 77] ∧ lit 25 = [72, 77, 83] ∧ lit 26 = [73, 77, 83] ∧ lit 71 = [72, 58, 77] ∧ lit 72 = [72, 58, 77, 58, 83] ∧ lit 73 = [73, 58, 77, 58, 83] ∧ lit 76 = [109, 47, 100, 47, 121] ∧ lit 77 = [89, 45, 109, 45, 100] ∧ lit 27 = lit 74 ∧ lit 28 = lit 75 ∧ lit 48 = lit 69 ∧ lit 49 = lit 70 := by decide +kernel
/-- what a letter writes, composed ones too -/
def tw (v Y : Int) (d0 m e : Nat) (x : Int) : List Int :=
  if x = 82 then tl v Y d0 m e 72 ++ ([58] ++ tl v Y d0 m e 77)
  else if x = 84 then tl v Y d0 m e 72 ++ ([58] ++ (tl v Y d0 m e 77 ++ ([58] ++ tl v Y d0 m e 83)))
  else if x = 114 then tl v Y d0 m e 73 ++ ([58] ++ (tl v Y d0 m e 77 ++ ([58] ++ (tl v Y d0 m e 83 ++ lit (if tHour v < 12 then 27 else 28)))))
  else if x = 68 then tl v Y d0 m e 109 ++ ([47] ++ (tl v Y d0 m e 100 ++ ([47] ++ tl v Y d0 m e 121)))
  else if x = 70 then tl v Y d0 m e 89 ++ ([45] ++ (tl v Y d0 m e 109 ++ ([45] ++ tl v Y d0 m e 100)))
  else tl v Y d0 m e x
def isTW (x : Int) : Prop := isT x ∨ x = 82 ∨ x = 84 ∨ x = 114 ∨ x = 68 ∨ x = 70
theorem tlb_len {v Y : Int} {d0 m e : Nat} (hK : MOK v Y d0 m e) {x : Int} (hx : x = 109 ∨ x = 100 ∨ x = 121 ∨ x = 89) : (tl v Y d0 m e x).length ≤ 20 := by
  obtain ⟨k1, k2, k3, k4, k5, k6⟩ := hK
  have p : (10 : Nat) ^ 19 = 10000000000000000000 := by decide
  rcases hx with rfl | rfl | rfl | rfl
  · show (num (m + 1) 2).length ≤ 20
    exact Nat.le_succ_of_le (num_len (by omega) (by omega))
  · show (num (e + 1) 2).length ≤ 20
    exact Nat.le_succ_of_le (num_len (by omega) (by omega))
  · show (num (Y.natAbs % 100) 2).length ≤ 20
    exact Nat.le_succ_of_le (num_len (by omega) (by omega))
  · show ((if Y < 0 then [45] else []) ++ num Y.natAbs 4).length ≤ 20
    rw [List.length_append]
    have h1 := num_len (N := Y.natAbs) (a := 4) (by omega) (by omega)
    split
    · show 1 + _ ≤ 20
      omega
    · show 0 + _ ≤ 20
      omega
/-- the class's write -/
theorem c_90 {s : zS} {z v Y : Int} {d0 m e : Nat} (h : PC s [] 0 z) (hM : MO s v Y d0 m e) (hK : MOK v Y d0 m e) {x : Int} (hx : isTW x) : ∃ s', f90 (zi x) s = some s' ∧ PC s' (tw v Y d0 m e x) 0 z ∧ fr [13, 14] [] s s' := by
  obtain ⟨l1, l2, l3, _⟩ := lits_t
  have k := hK
  obtain ⟨k1, k2, k3, k4, k5, k6⟩ := k
  have hh : tHour v < 24 := by unfold tHour; omega
  rcases hx with hx | rfl | rfl | rfl | rfl | rfl
  · obtain ⟨s', a1, a2, a3⟩ := c_92 h hM hK (by show 0 ≤ 1300; omega) hx
    refine ⟨s', ?_, ?_, a3⟩
    · unfold f90
      rw [a1]
      rcases hx with rfl | rfl | rfl | rfl | rfl | rfl | rfl | rfl | rfl | rfl | rfl | rfl | rfl | rfl | rfl | rfl | rfl | rfl | rfl | rfl | rfl <;> simp (disch := omega) only [zne, eq_self, ↓reduceIte, or_false, false_or, or_true, true_or, not_true_eq_false, not_false_eq_true] <;> rfl
    · have e : tw v Y d0 m e x = tl v Y d0 m e x := by
        unfold tw
        rcases hx with rfl | rfl | rfl | rfl | rfl | rfl | rfl | rfl | rfl | rfl | rfl | rfl | rfl | rfl | rfl | rfl | rfl | rfl | rfl | rfl | rfl <;> rfl
      rw [e]
      exact a2
  · obtain ⟨s', a1, a2, a3⟩ := c_91_loop (c := 24) (by decide) (v := v) (Y := Y) (d0 := d0) (m := m) (e := e) (by rw [l1]; intro x hx; simp at hx; omega) 2 0 zF s [] (by rw [l1]; rfl) (by unfold zF; omega) h hM (by show 0 + 20 * 2 ≤ 1300; omega)
    refine ⟨s', ?_, ?_, a3⟩
    · unfold f90
      simp (disch := omega) only [zne, eq_self, ↓reduceIte, or_false, false_or, or_true, true_or, not_true_eq_false, not_false_eq_true]
      rw [zb0_id]
      exact a1
    · rw [l1] at a2
      have e : tw v Y d0 m e 82 = [] ++ tjoin (tl v Y d0 m e) (([72, 77] : List Int).drop 0) (decide (0 < 0)) := by
        simp [tw, tjoin]
      rw [e]
      exact a2
  · obtain ⟨s', a1, a2, a3⟩ := c_91_loop (c := 25) (by decide) (v := v) (Y := Y) (d0 := d0) (m := m) (e := e) (by rw [l2]; intro x hx; simp at hx; omega) 3 0 zF s [] (by rw [l2]; rfl) (by unfold zF; omega) h hM (by show 0 + 20 * 3 ≤ 1300; omega)
    refine ⟨s', ?_, ?_, a3⟩
    · unfold f90
      simp (disch := omega) only [zne, eq_self, ↓reduceIte, or_false, false_or, or_true, true_or, not_true_eq_false, not_false_eq_true]
      rw [zb0_id]
      exact a1
    · rw [l2] at a2
      have e : tw v Y d0 m e 84 = [] ++ tjoin (tl v Y d0 m e) (([72, 77, 83] : List Int).drop 0) (decide (0 < 0)) := by
        simp [tw, tjoin]
      rw [e]
      exact a2
  · obtain ⟨s1, a1, a2, a3⟩ := c_91_loop (c := 26) (by decide) (v := v) (Y := Y) (d0 := d0) (m := m) (e := e) (by rw [l3]; intro x hx; simp at hx; omega) 3 0 zF s [] (by rw [l3]; rfl) (by unfold zF; omega) h hM (by show 0 + 20 * 3 ≤ 1300; omega)
    rw [l3] at a2
    have t1 := tl94_len (v := v) (Y := Y) (d0 := d0) (m := m) (e := e) (x := 73) (by omega)
    have t2 := tl94_len (v := v) (Y := Y) (d0 := d0) (m := m) (e := e) (x := 77) (by omega)
    have t3 := tl94_len (v := v) (Y := Y) (d0 := d0) (m := m) (e := e) (x := 83) (by omega)
    have ej : ([] ++ tjoin (tl v Y d0 m e) (([73, 77, 83] : List Int).drop 0) (decide (0 < 0)) : List Int) = tl v Y d0 m e 73 ++ ([58] ++ (tl v Y d0 m e 77 ++ ([58] ++ tl v Y d0 m e 83))) := by
      simp [tjoin]
    rw [ej] at a2
    obtain ⟨s2, b1, b2, b3⟩ := c_all a2 (c := if tHour v < 12 then 27 else 28) (by split <;> decide) (by simp only [List.length_append, List.length_cons, List.length_nil]; omega)
    refine ⟨s2, ?_, ?_, a3.trans b3⟩
    · have e95 := (hour_eq (hM.mv a3 rfl)).1
      unfold f90 f90_92
      simp (disch := omega) only [zne, eq_self, ↓reduceIte, or_false, false_or, or_true, true_or, not_true_eq_false, not_false_eq_true]
      have a1' : f91 26 s = some s1 := a1
      rw [a1', zb0_mk, e95]
      by_cases q : tHour v < 12
      · rw [if_neg (znge (by omega))]
        rw [if_pos q] at b1
        exact b1
      · rw [if_pos (zge (by omega))]
        rw [if_neg q] at b1
        exact b1
    · have e : tw v Y d0 m e 114 = (tl v Y d0 m e 73 ++ ([58] ++ (tl v Y d0 m e 77 ++ ([58] ++ tl v Y d0 m e 83)))) ++ lit (if tHour v < 12 then 27 else 28) := by
        simp [tw]
      rw [e]
      exact b2
  · have t1 := tlb_len hK (x := 109) (by omega)
    have t2 := tlb_len hK (x := 100) (by omega)
    obtain ⟨s1, a1, a2, a3⟩ := c_num h (a := 2) (N := m + 1) (x := zI2L (s.1 20 3)) ⟨((m + 1 : Nat) : Int), by rw [hM.2.2.2.1, zI2L_zi (by omega) (by omega)], by omega, by unfold inL; omega⟩ (by omega) (by show 0 ≤ 1500; omega)
    have e1 : ([] ++ num (m + 1) 2 : List Int) = tl v Y d0 m e 109 := rfl
    rw [e1] at a2
    obtain ⟨s2, b1, b2, b3⟩ := a2.add (by omega) (b := 47) (by omega) (by omega)
    have hM2 := hM.mv (a3.trans b3) rfl
    obtain ⟨s3, c1, c2, c3⟩ := c_num b2 (a := 2) (N := e + 1) (x := zI2L (s2.1 20 4)) ⟨((e + 1 : Nat) : Int), by rw [hM2.2.2.2.2.1, zI2L_zi (by omega) (by omega)], by omega, by unfold inL; omega⟩ (by omega) (by simp only [List.length_append, List.length_cons, List.length_nil]; omega)
    have e2 : num (e + 1) 2 = tl v Y d0 m e 100 := rfl
    rw [e2] at c2
    obtain ⟨s4, d1, d2, d3⟩ := c2.add (by simp only [List.length_append, List.length_cons, List.length_nil]; omega) (b := 47) (by omega) (by omega)
    have hM4 := hM.mv (((a3.trans b3).trans c3).trans d3) rfl
    obtain ⟨s5, g1, g2, g3⟩ := c_93 (v := v) (Y := Y) (d0 := d0) (m := m) (e := e) d2 hM4 hK (by simp only [List.length_append, List.length_cons, List.length_nil]; omega) (x := 121) (by omega)
    refine ⟨s5, ?_, ?_, (((a3.trans b3).trans c3).trans d3).trans g3⟩
    · rw [zb0_id] at a1 c1
      unfold f90
      simp (disch := omega) only [zne, eq_self, ↓reduceIte, or_false, false_or, or_true, true_or, not_true_eq_false, not_false_eq_true]
      have a1' : f78 (zI2L (s.1 20 3)) (zi 2) (zi 0) s = some s1 := a1
      have c1' : f78 (zI2L (s2.1 20 4)) (zi 2) (zi 0) s2 = some s3 := c1
      rw [a1', zb0_mk, b1, zb0_mk, c1', zb0_mk, d1, zb0_mk, g1]
      rfl
    · have e3 : tw v Y d0 m e 68 = tl v Y d0 m e 109 ++ [47] ++ tl v Y d0 m e 100 ++ [47] ++ tl v Y d0 m e 121 := by
        simp [tw]
      rw [e3]
      exact g2
  · have t1 := tlb_len hK (x := 109) (by omega)
    have t2 := tlb_len hK (x := 89) (by omega)
    obtain ⟨s1, a1, a2, a3⟩ := c_93 (v := v) (Y := Y) (d0 := d0) (m := m) (e := e) h hM hK (by show 0 ≤ 1300; omega) (x := 89) (by omega)
    rw [List.nil_append] at a2
    obtain ⟨s2, b1, b2, b3⟩ := a2.add (by omega) (b := 45) (by omega) (by omega)
    have hM2 := hM.mv (a3.trans b3) rfl
    obtain ⟨s3, c1, c2, c3⟩ := c_num b2 (a := 2) (N := m + 1) (x := zI2L (s2.1 20 3)) ⟨((m + 1 : Nat) : Int), by rw [hM2.2.2.2.1, zI2L_zi (by omega) (by omega)], by omega, by unfold inL; omega⟩ (by omega) (by simp only [List.length_append, List.length_cons, List.length_nil]; omega)
    have e2 : num (m + 1) 2 = tl v Y d0 m e 109 := rfl
    rw [e2] at c2
    obtain ⟨s4, d1, d2, d3⟩ := c2.add (by simp only [List.length_append, List.length_cons, List.length_nil]; omega) (b := 45) (by omega) (by omega)
    have hM4 := hM.mv (((a3.trans b3).trans c3).trans d3) rfl
    obtain ⟨s5, g1, g2, g3⟩ := c_num d2 (a := 2) (N := e + 1) (x := zI2L (s4.1 20 4)) ⟨((e + 1 : Nat) : Int), by rw [hM4.2.2.2.2.1, zI2L_zi (by omega) (by omega)], by omega, by unfold inL; omega⟩ (by omega) (by simp only [List.length_append, List.length_cons, List.length_nil]; omega)
    refine ⟨s5, ?_, ?_, (((a3.trans b3).trans c3).trans d3).trans g3⟩
    · rw [zb0_id] at c1
      unfold f90
      simp (disch := omega) only [zne, eq_self, ↓reduceIte, or_false, false_or, or_true, true_or, not_true_eq_false, not_false_eq_true]
      have c1' : f78 (zI2L (s2.1 20 3)) (zi 2) (zi 0) s2 = some s3 := c1
      rw [a1, zb0_mk, b1, zb0_mk, c1', zb0_mk, d1, zb0_mk]
      exact g1
    · have e3 : tw v Y d0 m e 70 = tl v Y d0 m e 89 ++ [45] ++ tl v Y d0 m e 109 ++ [45] ++ num (e + 1) 2 := by
        simp [tw]
        rfl
      rw [e3]
      exact g2
