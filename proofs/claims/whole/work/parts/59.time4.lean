/-! t: what the reference writes -/
theorem m_num {s : zS} {l : List Int} {w : Int} (h : MD s l w) {x : Int64} {N a : Nat} (hx : x = zl (N : Int)) (hN : N ≤ 9223372036854775807) (ha : a ≤ 19) (ha1 : 1 ≤ a) (hl : l.length ≤ 11000) : ∃ s', zb0 (f177 x (zi a) s) (fun s1 => some s1) = some s' ∧ MD s' (l ++ num N a) (w + (num N a).length) ∧ fr [39] [30, 31] s s' := by
  subst hx
  obtain ⟨s', a1, a2, a3⟩ := h.num hN ha ha1 hl
  refine ⟨s', by rw [a1]; rfl, ?_, a3⟩
  unfold num
  rw [ds_len]
  exact a2
theorem m_say {s : zS} {l : List Int} {w : Int} (h : MD s l w) {c : Nat} (hc : c < 78) (hl : l.length ≤ 11000) : ∃ s', zb0 (f176 c s) (fun s1 => some s1) = some s' ∧ MD s' (l ++ lit c) (w + (lit c).length) ∧ fr [39] [30, 31] s s' := by
  obtain ⟨s', a1, a2, a3⟩ := h.say hc hl
  exact ⟨s', by rw [a1]; rfl, a2, a3⟩
theorem m_signed {s : zS} {l : List Int} {w : Int} (h : MD s l w) {v : Int} (hv : inL v) (hl : l.length ≤ 10000) : ∃ s', zb0 (f194 (zl v) s) (fun s1 => some s1) = some s' ∧ MD s' (l ++ sgnd v) (w + (sgnd v).length) ∧ fr [39] [30, 31] s s' := by
  obtain ⟨s', a1, a2, a3⟩ := h.signed hv.1 hv.2 hl
  exact ⟨s', by rw [a1]; rfl, a2, a3⟩
/-- a name of the list, at most so long -/
def nmF (c k lim : Nat) : Nat → Nat → List Int
  | 0, _ => []
  | f + 1, i => if (lit c).getD (10 * k + i) 0 = 32 then [] else (lit c).getD (10 * k + i) 0 :: nmF c k lim f (i + 1)
theorem nm_months : ∀ m, m < 12 → nmF 67 m 10 10 0 = lit (29 + m) ∧ nmF 67 m 3 3 0 = (lit (29 + m)).take 3 := by decide +kernel
theorem nm_days : ∀ k, k < 7 → nmF 68 k 10 10 0 = lit (41 + (k + 4) % 7) ∧ nmF 68 k 3 3 0 = (lit (41 + (k + 4) % 7)).take 3 := by decide +kernel
theorem len_67 : (lit 67).length = 120 ∧ (lit 68).length = 70 := by decide +kernel
theorem f189_loop {c : Nat} (hc : c < 78) {k : Nat} {whole : Int} {lim : Nat} (hw : whole = 0 ∧ lim = 3 ∨ whole = 1 ∧ lim = 10) (hlen : 10 * k + 10 ≤ (lit c).length) (hk : k < 100) : ∀ (d i n : Nat) (s : zS) (l : List Int) (w : Int), d + i = lim → d < n → MD s l w → l.length + d ≤ 11000 →
    ∃ s', f189_3 n c (zi k) (zi whole) (zi i) s = some s' ∧ MD s' (l ++ nmF c k lim d i) (w + (nmF c k lim d i).length) ∧ fr [39] [30, 31] s s' := by
  have elenN : zlenN c = (lit c).length := (lit_len c).symm
  have hs := lit_small hc
  have e0 : ∀ (n : Nat) (i : Nat) (s : zS), f189_3 (n + 1) c (zi k) (zi whole) (zi i) s = f189_15 (f189_3 n) c (zi k) (zi whole) (zi i) (zi i) (zi lim) s := by
    intro n i s
    show b189_3 (f189_3 n) _ _ _ _ _ = _
    unfold b189_3
    rcases hw with ⟨rfl, rfl⟩ | ⟨rfl, rfl⟩
    · rw [if_pos rfl]
      rfl
    · rw [if_neg (zne (by omega))]
      rfl
  intro d
  induction d with
  | zero =>
    intro i n s l w hd hn hM hl
    obtain ⟨n, rfl⟩ : ∃ k, n = k + 1 := ⟨n - 1, by omega⟩
    refine ⟨s, ?_, ?_, fr.refl⟩
    · rw [e0]
      unfold f189_15
      rw [if_pos (zge (by omega))]
    · show MD s (l ++ []) (w + (([] : List Int).length : Nat))
      rw [List.append_nil]
      have : w + (([] : List Int).length : Nat) = w := by show w + ((0 : Nat) : Int) = w; omega
      rw [this]
      exact hM
  | succ d ih =>
    intro i n s l w hd hn hM hl
    obtain ⟨n, rfl⟩ : ∃ k, n = k + 1 := ⟨n - 1, by omega⟩
    have hi : 10 * k + i < (lit c).length := by omega
    have hv := lit_asc hc _ (List.getElem_mem hi)
    have eg : (lit c).getD (10 * k + i) 0 = (lit c)[10 * k + i] := by
      rw [List.getD_eq_getElem?_getD, List.getElem?_eq_getElem hi]
      rfl
    have ex : zchr c (zi 10 * zi (k : Int) + zi (i : Int)) = zi (lit c)[10 * k + i] := by
      rw [zi_mul, zi_add]
      exact zchr_eq (i := 10 * k + i) hi (by omega)
    have mx : mIx (zi 10 * zi (k : Int) + zi (i : Int)) (zlenN c) := by
      rw [zi_mul, zi_add, elenN]
      exact zi_ix (by omega) (by omega) (by omega)
    have en : nmF c k lim (d + 1) i = if (lit c).getD (10 * k + i) 0 = 32 then [] else (lit c).getD (10 * k + i) 0 :: nmF c k lim d (i + 1) := rfl
    rw [e0, en, eg]
    unfold f189_15
    rw [if_neg (znge (by omega)), if_pos mx, ex]
    by_cases q : (lit c)[10 * k + i] = 32
    · rw [if_neg (not_not_intro (zeq q)), if_pos q]
      refine ⟨s, rfl, ?_, fr.refl⟩
      rw [List.append_nil]
      have : w + (([] : List Int).length : Nat) = w := by show w + ((0 : Nat) : Int) = w; omega
      rw [this]
      exact hM
    · obtain ⟨s1, a1, a2, a3⟩ := hM.add (by omega) (b := (lit c)[10 * k + i]) (by omega) (by omega)
      obtain ⟨s', b1, b2, b3⟩ := ih (i + 1) n s1 _ (w + 1) (by omega) (by omega) a2 (by rw [List.length_append]; show l.length + 1 + d ≤ 11000; omega)
      rw [if_pos (zne (by omega)), if_neg q, a1, zb0_mk, zi_add]
      refine ⟨s', b1, ?_, a3.trans b3⟩
      rw [List.append_assoc] at b2
      have e1 : w + 1 + ((nmF c k lim d (i + 1)).length : Nat) = w + (((lit c)[10 * k + i] :: nmF c k lim d (i + 1)).length : Nat) := by
        rw [List.length_cons]
        omega
      rw [e1] at b2
      exact b2
theorem m_name {s : zS} {l : List Int} {w : Int} (h : MD s l w) {c k : Nat} (hc : c = 67 ∧ k < 12 ∨ c = 68 ∧ k < 7) (hl : l.length ≤ 10000) : (∃ s', zb0 (f189 c (zi k) (zi 1) s) (fun s1 => some s1) = some s' ∧ MD s' (l ++ nmF c k 10 10 0) (w + (nmF c k 10 10 0).length) ∧ fr [39] [30, 31] s s') ∧ (∃ s', zb0 (f189 c (zi k) (zi 0) s) (fun s1 => some s1) = some s' ∧ MD s' (l ++ nmF c k 3 3 0) (w + (nmF c k 3 3 0).length) ∧ fr [39] [30, 31] s s') := by
  have hlen : 10 * k + 10 ≤ (lit c).length := by
    have := len_67
    rcases hc with ⟨rfl, h⟩ | ⟨rfl, h⟩ <;> omega
  rw [zb0_id, zb0_id]
  exact ⟨f189_loop (by omega) (.inr ⟨rfl, rfl⟩) hlen (by omega) 10 0 zF s l w rfl (by unfold zF; omega) h (by omega), f189_loop (by omega) (.inl ⟨rfl, rfl⟩) hlen (by omega) 3 0 zF s l w rfl (by unfold zF; omega) h (by omega)⟩
/-- one letter -/
theorem m_210 {tms : Nat → zS → Option zS} {s : zS} {l : List Int} {w v Y : Int} {d0 m e : Nat} (h : MD s l w) (hK : MOK v Y d0 m e) (hl : l.length ≤ 9000) {x : Int} (hx : isT x) : ∃ s', f192_210 tms (zi x) (zl v) (zl (v / 1000)) (zl (v / 86400000)) (zi (v % 1000)) (zi (v % 86400000 / 1000)) (zi (v % 86400000 / 3600000)) (zi (v % 86400000 / 60000 % 60)) (zl Y) (zi e) (zi m) (zi (d0 + 1 : Nat)) (zl (Y.natAbs : Int)) s = some s' ∧ MD s' (l ++ tl v Y d0 m e x) (w + (tl v Y d0 m e x).length) ∧ fr [39] [30, 31] s s' := by
  obtain ⟨k1, k2, k3, k4, k5, k6⟩ := hK
  have k1' := k1
  unfold inL at k1'
  have kv : inL (v / 1000) := by
    unfold inL
    omega
  obtain ⟨t1, t2, t3, t4, t5, t6, t7, t8, t9, t10, t11, t12⟩ := lits_t
  have eh : v % 86400000 / 3600000 = (tHour v : Int) := by unfold tHour; omega
  have hh : tHour v < 24 := by unfold tHour; omega
  have emi : v % 86400000 / 60000 % 60 = (tMin v : Int) := by unfold tMin; omega
  have eml : v % 1000 = (tMil v : Int) := by unfold tMil; omega
  have hml : tMil v < 1000 := by unfold tMil; omega
  have hmi : tMin v < 60 := by unfold tMin; omega
  have hse : tSec v < 60 := by unfold tSec; omega
  have ese : zrem (zi (v % 86400000 / 1000)) (zi 60) = zi (tSec v : Int) := by
    rw [zrmI (by omega) (by omega) (by omega) (by omega)]
    congr 1
    unfold tSec
    omega
  have e12 : zrem (zi (tHour v : Int) + zi 11) (zi 12) + zi 1 = zi (((tHour v + 11) % 12 + 1 : Nat) : Int) := by
    rw [zi_add, zrmI (by omega) (by omega) (by omega) (by omega), zi_add]
    congr 1
  have hd7 : tDay v < 7 := by unfold tDay; omega
  have e7 : v / 86400000 % 7 = (tDay v : Int) := by unfold tDay; omega
  obtain ⟨n1, n2⟩ := nm_months m k4
  obtain ⟨n3, n4⟩ := nm_days (tDay v) hd7
  have ey1 : zl (Y.natAbs : Int) / zl 100 = zl ((Y.natAbs / 100 : Nat) : Int) := by
    rw [zl_div (by omega) (by omega) (by omega) (by omega)]
    rfl
  have ey2 : zremL (zl (Y.natAbs : Int)) (zl 100) = zl ((Y.natAbs % 100 : Nat) : Int) := by
    rw [zl_rem (by omega) (by omega) (by omega) (by omega)]
    rfl
  have hym := m_name h (c := 67) (k := m) (.inl ⟨rfl, k4⟩) (by omega)
  have hyd := m_name h (c := 68) (k := tDay v) (.inr ⟨rfl, hd7⟩) (by omega)
  rw [n1, n2] at hym
  rw [n3, n4] at hyd
  unfold f192_210 f192_700 f192_551
  rw [eh, emi, eml, ese, e12, f262_eq (by omega) (by omega) (by omega) (by omega), zb1_mk, zb1_mk, zL2I_zl, e7, ey1, ey2, zi_add, zi_add, zI2L_zi (by omega) (by omega), zI2L_zi (by omega) (by omega), zI2L_zi (by omega) (by omega), zI2L_zi (by omega) (by omega), zI2L_zi (by omega) (by omega), zI2L_zi (by omega) (by omega), zI2L_zi (by omega) (by omega), zI2L_zi (by omega) (by omega)]
  rcases hx with rfl | rfl | rfl | rfl | rfl | rfl | rfl | rfl | rfl | rfl | rfl | rfl | rfl | rfl | rfl | rfl | rfl | rfl | rfl | rfl | rfl
  · simp (disch := omega) only [zne, eq_self, ↓reduceIte, or_false, false_or, or_true, true_or, not_true_eq_false, not_false_eq_true]
    exact m_num h (a := 2) rfl (by omega) (by omega) (by omega) (by omega)
  · simp (disch := omega) only [zne, eq_self, ↓reduceIte, or_false, false_or, or_true, true_or, not_true_eq_false, not_false_eq_true]
    exact m_num h (a := 2) rfl (by omega) (by omega) (by omega) (by omega)
  · simp (disch := omega) only [zne, eq_self, ↓reduceIte, or_false, false_or, or_true, true_or, not_true_eq_false, not_false_eq_true]
    exact m_num h (a := 1) rfl (by omega) (by omega) (by omega) (by omega)
  · simp (disch := omega) only [zne, eq_self, ↓reduceIte, or_false, false_or, or_true, true_or, not_true_eq_false, not_false_eq_true]
    exact m_num h (a := 1) rfl (by omega) (by omega) (by omega) (by omega)
  · simp (disch := omega) only [zne, eq_self, ↓reduceIte, or_false, false_or, or_true, true_or, not_true_eq_false, not_false_eq_true]
    exact m_num h (a := 2) rfl (by omega) (by omega) (by omega) (by omega)
  · simp (disch := omega) only [zne, eq_self, ↓reduceIte, or_false, false_or, or_true, true_or, not_true_eq_false, not_false_eq_true]
    exact m_num h (a := 2) rfl (by omega) (by omega) (by omega) (by omega)
  · simp (disch := omega) only [zne, eq_self, ↓reduceIte, or_false, false_or, or_true, true_or, not_true_eq_false, not_false_eq_true]
    exact m_num h (a := 3) rfl (by omega) (by omega) (by omega) (by omega)
  · simp (disch := omega) only [zne, eq_self, ↓reduceIte, or_false, false_or, or_true, true_or, not_true_eq_false, not_false_eq_true]
    show ∃ s', _ ∧ MD s' (l ++ ((if Y < 0 then [45] else []) ++ num Y.natAbs 4)) (w + ((if Y < 0 then [45] else []) ++ num Y.natAbs 4).length) ∧ _
    by_cases q : Y < 0
    · obtain ⟨s1, a1, a2, a3⟩ := h.add (by omega) (b := 45) (by omega) (by omega)
      obtain ⟨s2, b1, b2, b3⟩ := m_num a2 (a := 4) (N := Y.natAbs) rfl (by omega) (by omega) (by omega) (by rw [List.length_append]; show l.length + 1 ≤ 11000; omega)
      rw [if_neg (zlnge (by omega)), a1, zb0_mk, if_pos q]
      refine ⟨s2, b1, ?_, a3.trans b3⟩
      rw [List.append_assoc] at b2
      have e1 : w + 1 + ((num Y.natAbs 4).length : Nat) = w + (([45] ++ num Y.natAbs 4).length : Nat) := by
        rw [List.length_append]
        show w + 1 + _ = w + ((1 + (num Y.natAbs 4).length : Nat) : Int)
        omega
      rw [e1] at b2
      exact b2
    · rw [if_pos (zlge (by omega)), if_neg q, List.nil_append]
      exact m_num h (a := 4) (N := Y.natAbs) rfl (by omega) (by omega) (by omega) (by omega)
  · simp (disch := omega) only [zne, eq_self, ↓reduceIte, or_false, false_or, or_true, true_or, not_true_eq_false, not_false_eq_true]
    exact m_num h (a := 2) rfl (by omega) (by omega) (by omega) (by omega)
  · simp (disch := omega) only [zne, eq_self, ↓reduceIte, or_false, false_or, or_true, true_or, not_true_eq_false, not_false_eq_true]
    exact m_num h (a := 2) rfl (by omega) (by omega) (by omega) (by omega)
  · simp (disch := omega) only [zne, eq_self, ↓reduceIte, or_false, false_or, or_true, true_or, not_true_eq_false, not_false_eq_true]
    exact m_num h (a := 2) (N := m + 1) rfl (by omega) (by omega) (by omega) (by omega)
  · simp (disch := omega) only [zne, eq_self, ↓reduceIte, or_false, false_or, or_true, true_or, not_true_eq_false, not_false_eq_true]
    exact m_num h (a := 2) (N := e + 1) rfl (by omega) (by omega) (by omega) (by omega)
  · simp (disch := omega) only [zne, eq_self, ↓reduceIte, or_false, false_or, or_true, true_or, not_true_eq_false, not_false_eq_true]
    exact m_num h (a := 1) (N := e + 1) rfl (by omega) (by omega) (by omega) (by omega)
  · simp (disch := omega) only [zne, eq_self, ↓reduceIte, or_false, false_or, or_true, true_or, not_true_eq_false, not_false_eq_true]
    exact m_num h (a := 3) (N := d0 + 1) rfl (by omega) (by omega) (by omega) (by omega)
  · simp (disch := omega) only [zne, eq_self, ↓reduceIte, or_false, false_or, or_true, true_or, not_true_eq_false, not_false_eq_true]
    exact hym.1
  · simp (disch := omega) only [zne, eq_self, ↓reduceIte, or_false, false_or, or_true, true_or, not_true_eq_false, not_false_eq_true]
    exact hym.2
  · simp (disch := omega) only [zne, eq_self, ↓reduceIte, or_false, false_or, or_true, true_or, not_true_eq_false, not_false_eq_true]
    exact hyd.1
  · simp (disch := omega) only [zne, eq_self, ↓reduceIte, or_false, false_or, or_true, true_or, not_true_eq_false, not_false_eq_true]
    exact hyd.2
  · simp (disch := omega) only [zne, eq_self, ↓reduceIte, or_false, false_or, or_true, true_or, not_true_eq_false, not_false_eq_true]
    show ∃ s', _ ∧ MD s' (l ++ lit (if tHour v < 12 then 48 else 49)) (w + (lit (if tHour v < 12 then 48 else 49)).length) ∧ _
    by_cases q : tHour v < 12
    · rw [if_neg (znge (by omega)), if_pos q, t11]
      exact m_say h (by omega) (by omega)
    · rw [if_pos (zge (by omega)), if_neg q, t12]
      exact m_say h (by omega) (by omega)
  · simp (disch := omega) only [zne, eq_self, ↓reduceIte, or_false, false_or, or_true, true_or, not_true_eq_false, not_false_eq_true]
    exact m_signed h kv (by omega)
  · simp (disch := omega) only [zne, eq_self, ↓reduceIte, or_false, false_or, or_true, true_or, not_true_eq_false, not_false_eq_true]
    exact m_signed h k1 (by omega)
theorem MOK_of {v Y : Int} {d0 m e : Nat} (hv : inL v) (h : CAL (v / 86400000) Y d0 m e) (h1 : -1000000000 ≤ Y) (h2 : Y ≤ 1000000000) : MOK v Y d0 m e := by
  obtain ⟨c1, c2, c3, c4, c5⟩ := h
  have hl := lp01 Y
  have hm : mdl (lp Y).toNat m ≤ 31 := by
    unfold mdl
    repeat' split
    all_goals omega
  exact ⟨hv, h1, h2, c5, by omega, by omega⟩
/-- one letter, from the reference's state -/
theorem m_192 {tms : Nat → zS → Option zS} {s : zS} {l : List Int} {w v Y : Int} {d0 m e a : Nat} (h : MD s l w) (hv : inL v) (hC : CAL (v / 86400000) Y d0 m e) (ha : a < 24) (h35 : s.1 24 35 = zi a) (h31 : s.2.1 31 a = zl v) (hl : l.length ≤ 9000) {x : Int} (hx : isT x) : ∃ s', f192 tms (zi x) s = some s' ∧ MD s' (l ++ tl v Y d0 m e x) (w + (tl v Y d0 m e x).length) ∧ fr [39] [30, 31] s s' := by
  obtain ⟨Z, d, m', e', g1, g2, g3, g4⟩ := f192_eq (tms := tms) (s := s) (x1 := zi x) hv ha h35 h31
  obtain ⟨rfl, rfl, rfl, rfl⟩ := CAL_uniq hC g1
  rw [g4]
  exact m_210 h (MOK_of hv hC g2 g3) hl hx
