/-! t: what is written -/
def num (N a : Nat) : List Int := ds N (kk N a)
def tHour (v : Int) : Nat := (v % 86400000 / 3600000).toNat
def tMin (v : Int) : Nat := (v % 86400000 / 60000 % 60).toNat
def tSec (v : Int) : Nat := (v % 86400000 / 1000 % 60).toNat
def tMil (v : Int) : Nat := (v % 1000).toNat
def tDay (v : Int) : Nat := (v / 86400000 % 7).toNat
def sgnd (v : Int) : List Int := (if v < 0 then [45] else []) ++ num v.natAbs 1
/-- what one letter writes -/
def tl (v Y : Int) (d0 m e : Nat) (x : Int) : List Int :=
  if x = 72 then num (tHour v) 2 else if x = 73 then num ((tHour v + 11) % 12 + 1) 2 else if x = 107 then num (tHour v) 1 else if x = 108 then num ((tHour v + 11) % 12 + 1) 1
  else if x = 77 then num (tMin v) 2 else if x = 83 then num (tSec v) 2 else if x = 76 then num (tMil v) 3
  else if x = 89 then (if Y < 0 then [45] else []) ++ num Y.natAbs 4 else if x = 121 then num (Y.natAbs % 100) 2 else if x = 67 then num (Y.natAbs / 100) 2
  else if x = 109 then num (m + 1) 2 else if x = 100 then num (e + 1) 2 else if x = 101 then num (e + 1) 1 else if x = 106 then num (d0 + 1) 3
  else if x = 66 then lit (29 + m) else if x = 98 then (lit (29 + m)).take 3 else if x = 65 then lit (41 + (tDay v + 4) % 7) else if x = 97 then (lit (41 + (tDay v + 4) % 7)).take 3
  else if x = 112 then lit (if tHour v < 12 then 48 else 49) else if x = 115 then sgnd (v / 1000) else sgnd v
def isT (x : Int) : Prop := x = 72 ∨ x = 73 ∨ x = 107 ∨ x = 108 ∨ x = 77 ∨ x = 83 ∨ x = 76 ∨ x = 89 ∨ x = 121 ∨ x = 67 ∨ x = 109 ∨ x = 100 ∨ x = 101 ∨ x = 106 ∨ x = 66 ∨ x = 98 ∨ x = 65 ∨ x = 97 ∨ x = 112 ∨ x = 115 ∨ x = 81
/-! the class's letters -/
theorem c_num {s : zS} {l : List Int} {z : Int} (h : PC s l 0 z) {x : Int64} {N a : Nat} (hx : ∃ v : Int, x = zl v ∧ v.natAbs = N ∧ inL v) (ha : a ≤ 19) (hl : l.length ≤ 1500) : ∃ s', zb0 (f78 x (zi a) (zi 0) s) (fun s1 => some s1) = some s' ∧ PC s' (l ++ num N a) 0 z ∧ fr [13, 14] [] s s' := by
  obtain ⟨v, rfl, rfl, hv⟩ := hx
  obtain ⟨s', a1, a2, a3⟩ := h.size hv.1 hv.2 ha (c := 0) (.inl rfl) hl
  rw [dsC_ds] at a2
  exact ⟨s', by rw [a1]; rfl, a2, a3⟩
theorem c_all {s : zS} {l : List Int} {z : Int} (h : PC s l 0 z) {c : Nat} (hc : c < 78) (hl : l.length ≤ 1300) : ∃ s', zb0 (f71 c s) (fun s1 => some s1) = some s' ∧ PC s' (l ++ lit c) 0 z ∧ fr [13, 14] [] s s' := by
  have hs := lit_small hc
  obtain ⟨s', a1, a2, a3⟩ := h.all hc (by omega)
  exact ⟨s', by rw [a1]; rfl, a2, a3⟩
theorem c_first {s : zS} {l : List Int} {z : Int} (h : PC s l 0 z) {c : Nat} (hc : c < 78) (hl : l.length ≤ 1300) : ∃ s', zb0 (f72 c (zi 3) s) (fun s1 => some s1) = some s' ∧ PC s' (l ++ (lit c).take 3) 0 z ∧ fr [13, 14] [] s s' := by
  have hs := lit_small hc
  obtain ⟨s', a1, a2, a3⟩ := h.first hc (k := 3) (by omega) (by omega)
  exact ⟨s', by show zb0 (f72 c (zi ((3 : Nat) : Int)) s) _ = _; rw [a1]; rfl, a2, a3⟩
theorem hour_eq {s : zS} {v Y : Int} {d0 m e : Nat} (h : MO s v Y d0 m e) : r95 s = zi (tHour v : Int) ∧ r96 s = zi (((tHour v + 11) % 12 + 1 : Nat) : Int) := by
  have h1 : r95 s = zi (tHour v : Int) := by
    unfold r95 tHour
    rw [h.2.1, zdvI (by omega) (by omega) (by omega) (by omega)]
    congr 1
    omega
  refine ⟨h1, ?_⟩
  have hh : tHour v < 24 := by unfold tHour; omega
  unfold r96
  rw [h1, zi_add, zrmI (by omega) (by omega) (by omega) (by omega), zi_add]
  congr 1
theorem r97_eq {s : zS} {m : Nat} (h : s.1 20 3 = zi (m + 1 : Nat)) (hm : m < 12) : r97 s = 29 + m := by
  unfold r97
  rw [h]
  have q : m = 0 ∨ m = 1 ∨ m = 2 ∨ m = 3 ∨ m = 4 ∨ m = 5 ∨ m = 6 ∨ m = 7 ∨ m = 8 ∨ m = 9 ∨ m = 10 ∨ m = 11 := by omega
  rcases q with rfl | rfl | rfl | rfl | rfl | rfl | rfl | rfl | rfl | rfl | rfl | rfl <;> rfl
theorem r98_eq {s : zS} {k : Nat} (h : s.1 20 6 = zi (k : Int)) (hk : k < 7) : r98 s = 41 + k := by
  unfold r98
  rw [h]
  have q : k = 0 ∨ k = 1 ∨ k = 2 ∨ k = 3 ∨ k = 4 ∨ k = 5 ∨ k = 6 := by omega
  rcases q with rfl | rfl | rfl | rfl | rfl | rfl | rfl <;> rfl
/-- what is known of the numbers -/
def MOK (v Y : Int) (d0 m e : Nat) : Prop := inL v ∧ -1000000000 ≤ Y ∧ Y ≤ 1000000000 ∧ m < 12 ∧ e < 31 ∧ d0 < 366
theorem c_94 {s : zS} {l : List Int} {z v Y : Int} {d0 m e : Nat} (h : PC s l 0 z) (hM : MO s v Y d0 m e) (hl : l.length ≤ 1300) {x : Int} (hx : x = 72 ∨ x = 73 ∨ x = 107 ∨ x = 108 ∨ x = 77 ∨ x = 83 ∨ x = 76) : ∃ s', f94 (zi x) s = some s' ∧ PC s' (l ++ tl v Y d0 m e x) 0 z ∧ fr [13, 14] [] s s' := by
  obtain ⟨e1, e2⟩ := hour_eq hM
  have hh : tHour v < 24 := by unfold tHour; omega
  unfold f94
  rw [e1, e2, hM.2.1, zdvI (by omega) (by omega) (by omega) (by omega), zdvI (by omega) (by omega) (by omega) (by omega), zrmI (by omega) (by omega) (by omega) (by omega), zrmI (by omega) (by omega) (by omega) (by omega), zrmI (by omega) (by omega) (by omega) (by omega), zI2L_zi (by omega) (by omega), zI2L_zi (by omega) (by omega), zI2L_zi (by omega) (by omega), zI2L_zi (by omega) (by omega), zI2L_zi (by omega) (by omega)]
  rcases hx with rfl | rfl | rfl | rfl | rfl | rfl | rfl
  · simp (disch := omega) only [zne, eq_self, ↓reduceIte, or_false, false_or, or_true, true_or, not_true_eq_false, not_false_eq_true]
    exact c_num h (a := 2) ⟨_, rfl, by omega, by unfold inL; omega⟩ (by omega) (by omega)
  · simp (disch := omega) only [zne, eq_self, ↓reduceIte, or_false, false_or, or_true, true_or, not_true_eq_false, not_false_eq_true]
    exact c_num h (a := 2) ⟨_, rfl, by omega, by unfold inL; omega⟩ (by omega) (by omega)
  · simp (disch := omega) only [zne, eq_self, ↓reduceIte, or_false, false_or, or_true, true_or, not_true_eq_false, not_false_eq_true]
    exact c_num h (a := 1) ⟨_, rfl, by omega, by unfold inL; omega⟩ (by omega) (by omega)
  · simp (disch := omega) only [zne, eq_self, ↓reduceIte, or_false, false_or, or_true, true_or, not_true_eq_false, not_false_eq_true]
    exact c_num h (a := 1) ⟨_, rfl, by omega, by unfold inL; omega⟩ (by omega) (by omega)
  · simp (disch := omega) only [zne, eq_self, ↓reduceIte, or_false, false_or, or_true, true_or, not_true_eq_false, not_false_eq_true]
    exact c_num h (a := 2) (N := tMin v) ⟨_, rfl, by unfold tMin; omega, by unfold inL; omega⟩ (by omega) (by omega)
  · simp (disch := omega) only [zne, eq_self, ↓reduceIte, or_false, false_or, or_true, true_or, not_true_eq_false, not_false_eq_true]
    exact c_num h (a := 2) (N := tSec v) ⟨_, rfl, by unfold tSec; omega, by unfold inL; omega⟩ (by omega) (by omega)
  · simp (disch := omega) only [zne, eq_self, ↓reduceIte, or_false, false_or, or_true, true_or, not_true_eq_false, not_false_eq_true]
    exact c_num h (a := 3) (N := tMil v) ⟨_, rfl, by unfold tMil; omega, by unfold inL; omega⟩ (by omega) (by omega)
theorem c_93 {s : zS} {l : List Int} {z v Y : Int} {d0 m e : Nat} (h : PC s l 0 z) (hM : MO s v Y d0 m e) (hK : MOK v Y d0 m e) (hl : l.length ≤ 1300) {x : Int} (hx : x = 89 ∨ x = 121 ∨ x = 67) : ∃ s', f93 (zi x) s = some s' ∧ PC s' (l ++ tl v Y d0 m e x) 0 z ∧ fr [13, 14] [] s s' := by
  obtain ⟨k1, k2, k3, _⟩ := hK
  unfold f93 f93_43
  rw [hM.2.2.1, zl_rem (by omega) (by omega) (by omega) (by omega), zl_div (by omega) (by omega) (by omega) (by omega)]
  have hm : (Y.tmod 100).natAbs = Y.natAbs % 100 := by rw [Int.natAbs_tmod]; rfl
  have hd : (Y.tdiv 100).natAbs = Y.natAbs / 100 := by rw [Int.natAbs_tdiv]; rfl
  rcases hx with rfl | rfl | rfl
  · simp (disch := omega) only [zne, eq_self, ↓reduceIte, or_false, false_or, or_true, true_or, not_true_eq_false, not_false_eq_true]
    show ∃ s', _ ∧ PC s' (l ++ ((if Y < 0 then [45] else []) ++ num Y.natAbs 4)) 0 z ∧ _
    by_cases q : Y < 0
    · obtain ⟨s1, a1, a2, a3⟩ := h.add (by omega) (b := 45) (by omega) (by omega)
      have e2 : s1.2.1 20 2 = zl Y := (a3.2.1 20 2 rfl).trans hM.2.2.1
      obtain ⟨s2, b1, b2, b3⟩ := c_num a2 (a := 4) (N := Y.natAbs) ⟨Y, rfl, rfl, by unfold inL; omega⟩ (by omega) (by rw [List.length_append]; show l.length + 1 ≤ 1500; omega)
      rw [if_neg (zlnge (by omega)), a1, zb0_mk, e2, if_pos q]
      rw [List.append_assoc] at b2
      exact ⟨s2, b1, b2, a3.trans b3⟩
    · rw [if_pos (zlge (by omega)), if_neg q, List.nil_append]
      exact c_num h (a := 4) (N := Y.natAbs) ⟨Y, rfl, rfl, by unfold inL; omega⟩ (by omega) (by omega)
  · simp (disch := omega) only [zne, eq_self, ↓reduceIte, or_false, false_or, or_true, true_or, not_true_eq_false, not_false_eq_true]
    exact c_num h (a := 2) (N := Y.natAbs % 100) ⟨_, rfl, hm, by unfold inL; omega⟩ (by omega) (by omega)
  · simp (disch := omega) only [zne, eq_self, ↓reduceIte, or_false, false_or, or_true, true_or, not_true_eq_false, not_false_eq_true]
    exact c_num h (a := 2) (N := Y.natAbs / 100) ⟨_, rfl, hd, by unfold inL; omega⟩ (by omega) (by omega)
