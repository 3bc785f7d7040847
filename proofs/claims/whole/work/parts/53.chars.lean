/-! characters -/
theorem PC.addx {s : zS} {l : List Int} {g z : Int} (h : PC s l g z) (hl : l.length < 1600) (x : Int32) : ∃ s', f70 x s = some s' ∧ PC s' (l ++ [x.toInt.bmod 256]) g z ∧ fr [13, 14] [] s s' := by
  have e : x = zi x.toInt := zi_of_toInt rfl
  have := h.addb hl x.toInt
  rw [← e] at this
  exact this
theorem MD.addx {s : zS} {l : List Int} {w : Int} (h : MD s l w) (hl : l.length < 12000) (x : Int32) : ∃ s', f175 x s = some s' ∧ MD s' (l ++ [x.toInt.bmod 256]) (w + 1) ∧ fr [39] [30, 31] s s' := by
  have e : x = zi x.toInt := zi_of_toInt rfl
  have := h.addb hl x.toInt
  rw [← e] at this
  exact this
/-- a byte that goes on with a character -/
def cb (x : Int32) : Int := (zi 128 ||| (x &&& zi 63)).toInt.bmod 256
theorem f82_eq {s : zS} {l : List Int} {g z : Int} (h : PC s l g z) (hl : l.length < 1600) (x : Int32) : ∃ s', f82 x s = some s' ∧ PC s' (l ++ [cb x]) (g + 1) z ∧ fr [13, 14] [] s s' := by
  obtain ⟨s1, a1, a2, a3⟩ := h.addx hl (zi 128 ||| (x &&& zi 63))
  refine ⟨setI s1 13 2 (zi (g + 1)), ?_, ⟨a2.1, a2.2.1, rfl, a2.2.2.2⟩, a3.sI (.inl rfl)⟩
  unfold f82
  rw [a1, zb0_mk, a2.2.2.1, zi_add]
def utf (c : Int) : List Int := if c < 128 then [c] else if c < 2048 then [(zi 192 ||| zshr (zi c) (zi 6)).toInt.bmod 256, cb (zi c)] else if c < 65536 then [(zi 224 ||| zshr (zi c) (zi 12)).toInt.bmod 256, cb (zshr (zi c) (zi 6)), cb (zi c)] else [(zi 240 ||| zshr (zi c) (zi 18)).toInt.bmod 256, cb (zshr (zi c) (zi 12)), cb (zshr (zi c) (zi 6)), cb (zi c)]
theorem utf_byt {c : Int} (h0 : 0 ≤ c) : byt (utf c) := by
  have hb : ∀ x : Int, -128 ≤ x.bmod 256 ∧ x.bmod 256 ≤ 127 := fun x => by have := bm256 x; omega
  intro v hv
  unfold utf at hv
  repeat' split at hv
  all_goals
    simp only [List.mem_cons, List.not_mem_nil, or_false] at hv
  · omega
  · rcases hv with rfl | rfl <;> exact hb _
  · rcases hv with rfl | rfl | rfl <;> exact hb _
  · rcases hv with rfl | rfl | rfl | rfl <;> exact hb _
theorem utf_len (c : Int) : 1 ≤ (utf c).length ∧ (utf c).length ≤ 4 := by
  unfold utf
  repeat' split
  all_goals (constructor <;> simp)
theorem PC.char {s : zS} {z c : Int} (h : PC s [] 0 z) (h0 : 0 ≤ c) (h1 : c ≤ 1114111) : ∃ s', f81 (zi c) s = some s' ∧ PC s' (utf c) ((utf c).length - 1 : Int) z ∧ fr [13, 14] [] s s' := by
  unfold f81 utf
  by_cases q1 : c < 128
  · obtain ⟨s1, a1, a2, a3⟩ := h.add (by show 0 < 1600; omega) (b := c) (by omega) (by omega)
    rw [if_neg (znge (by omega)), if_pos q1, a1]
    exact ⟨s1, rfl, a2, a3⟩
  · rw [if_pos (zge (by omega)), if_neg q1]
    by_cases q2 : c < 2048
    · obtain ⟨s1, a1, a2, a3⟩ := h.addx (by show 0 < 1600; omega) (zi 192 ||| zshr (zi c) (zi 6))
      obtain ⟨s2, b1, b2, b3⟩ := f82_eq a2 (by show 1 < 1600; omega) (zi c)
      rw [if_neg (znge (by omega)), if_pos q2, a1, zb0_mk, b1]
      exact ⟨s2, rfl, b2, a3.trans b3⟩
    · rw [if_pos (zge (by omega)), if_neg q2]
      by_cases q3 : c < 65536
      · obtain ⟨s1, a1, a2, a3⟩ := h.addx (by show 0 < 1600; omega) (zi 224 ||| zshr (zi c) (zi 12))
        obtain ⟨s2, b1, b2, b3⟩ := f82_eq a2 (by show 1 < 1600; omega) (zshr (zi c) (zi 6))
        obtain ⟨s3, c1, c2, c3⟩ := f82_eq b2 (by show 2 < 1600; omega) (zi c)
        rw [if_neg (znge (by omega)), if_pos q3, a1, zb0_mk, b1, zb0_mk, c1]
        exact ⟨s3, rfl, c2, (a3.trans b3).trans c3⟩
      · obtain ⟨s1, a1, a2, a3⟩ := h.addx (by show 0 < 1600; omega) (zi 240 ||| zshr (zi c) (zi 18))
        obtain ⟨s2, b1, b2, b3⟩ := f82_eq a2 (by show 1 < 1600; omega) (zshr (zi c) (zi 12))
        obtain ⟨s3, c1, c2, c3⟩ := f82_eq b2 (by show 2 < 1600; omega) (zshr (zi c) (zi 6))
        obtain ⟨s4, d1, d2, d3⟩ := f82_eq c2 (by show 3 < 1600; omega) (zi c)
        rw [if_pos (zge (by omega)), if_neg q3, a1, zb0_mk, b1, zb0_mk, c1, zb0_mk, d1]
        exact ⟨s4, rfl, d2, ((a3.trans b3).trans c3).trans d3⟩
theorem MD.char {s : zS} {c : Int} (h : MD s [] 0) (h0 : 0 ≤ c) (h1 : c ≤ 1114111) : ∃ s', f178 (zi c) s = some s' ∧ MD s' (utf c) 1 ∧ fr [39] [30, 31] s s' := by
  unfold f178 utf
  rw [h.2.2]
  by_cases q1 : c < 128
  · obtain ⟨s1, a1, a2, a3⟩ := h.add (by show 0 < 12000; omega) (b := c) (by omega) (by omega)
    rw [if_neg (znge (by omega)), if_pos q1, a1]
    exact ⟨s1, rfl, a2, a3⟩
  · rw [if_pos (zge (by omega)), if_neg q1]
    unfold f178_88 f178_103
    by_cases q2 : c < 2048
    · obtain ⟨s1, a1, a2, a3⟩ := h.addx (by show 0 < 12000; omega) (zi 192 ||| zshr (zi c) (zi 6))
      obtain ⟨s2, b1, b2, b3⟩ := a2.addx (by show 1 < 12000; omega) (zi 128 ||| (zi c &&& zi 63))
      rw [if_neg (znge (by omega)), if_pos q2, a1, zb0_mk, b1, zb0_mk, zi_add]
      exact ⟨_, rfl, ⟨b2.1, b2.2.1, rfl⟩, (a3.trans b3).sI (.inr ⟨rfl, rfl⟩)⟩
    · rw [if_pos (zge (by omega)), if_neg q2]
      by_cases q3 : c < 65536
      · obtain ⟨s1, a1, a2, a3⟩ := h.addx (by show 0 < 12000; omega) (zi 224 ||| zshr (zi c) (zi 12))
        obtain ⟨s2, b1, b2, b3⟩ := a2.addx (by show 1 < 12000; omega) (zi 128 ||| (zshr (zi c) (zi 6) &&& zi 63))
        obtain ⟨s3, c1, c2, c3⟩ := b2.addx (by show 2 < 12000; omega) (zi 128 ||| (zi c &&& zi 63))
        rw [if_neg (znge (by omega)), if_pos q3, a1, zb0_mk, b1, zb0_mk, c1, zb0_mk, zi_add]
        exact ⟨_, rfl, ⟨c2.1, c2.2.1, rfl⟩, ((a3.trans b3).trans c3).sI (.inr ⟨rfl, rfl⟩)⟩
      · obtain ⟨s1, a1, a2, a3⟩ := h.addx (by show 0 < 12000; omega) (zi 240 ||| zshr (zi c) (zi 18))
        obtain ⟨s2, b1, b2, b3⟩ := a2.addx (by show 1 < 12000; omega) (zi 128 ||| (zshr (zi c) (zi 12) &&& zi 63))
        obtain ⟨s3, c1, c2, c3⟩ := b2.addx (by show 2 < 12000; omega) (zi 128 ||| (zshr (zi c) (zi 6) &&& zi 63))
        obtain ⟨s4, d1, d2, d3⟩ := c2.addx (by show 3 < 12000; omega) (zi 128 ||| (zi c &&& zi 63))
        rw [if_pos (zge (by omega)), if_neg q3, a1, zb0_mk, b1, zb0_mk, c1, zb0_mk, d1, zb0_mk, zi_add]
        exact ⟨_, rfl, ⟨d2.1, d2.2.1, rfl⟩, (((a3.trans b3).trans c3).trans d3).sI (.inr ⟨rfl, rfl⟩)⟩
theorem PR.char {c : Int} (h0 : 0 ≤ c) (W : Int) (F : Int32) : PR (utf c) ((utf c).length - 1 : Int) (-1) (utf c) 1 W F := by
  have hl := utf_len c
  exact ⟨utf_byt h0, by omega, by omega, by omega, .inl ⟨rfl, rfl, by omega⟩⟩
theorem CV_c {F : Int32} {W pr su k c m : Int} {a n : Nat} {t : List Int} (hv : vald F W pr 99 k c m t) (hk : 2 ≤ k ∧ k ≤ 5) : CV F W pr 99 su k c m a n t := by
  obtain ⟨ha, _, _, hf, hW1, hW2, _, _, h9⟩ := hv
  obtain ⟨q1, q2, q3, q4, q5, q6, _⟩ := ha
  have hcm : c = m := q6 (by omega)
  subst hcm
  have hr := h9 rfl
  refine ⟨_, _, _, _, _, PR.char hr.1 W F, fun s h hP => ?_, fun s h hM => ?_⟩
  · obtain ⟨s1, a1, a2, a3⟩ := hP.char hr.1 hr.2
    refine ⟨s1, ?_, a2, a3.up rfl rfl⟩
    unfold f64
    rw [h.entry.2.1, if_pos (zne (by omega)), h.entry.1, if_neg (zne (by omega)), if_pos rfl, h.entry.2.2, zL2I_zl, a1]
    rfl
  · obtain ⟨s1, a1, a2, a3⟩ := hM.char hr.1 hr.2
    refine ⟨s1, ?_, a2, R6.fr a3 h.2.2.2.2.2.2.2.2.2.2 rfl rfl rfl rfl rfl rfl, a3.up rfl rfl⟩
    rw [m202_entry h (by omega) (.inr (.inr (.inl rfl)))]
    unfold f202_49
    rw [h.2.2.2.1, if_pos (zne (by omega)), if_neg (zne (by omega)), if_neg (zne (by omega)), if_pos (zne (by omega)), if_neg (not_not_intro rfl), zL2I_zl, a1]
    rfl
/-! a character, cut -/
theorem cont_y : ∀ y, y < 64 → (zi ((zi 128 ||| zi (y : Nat)).toInt.bmod 256) &&& zi 192) = zi 128 := by decide +kernel
theorem cb_cont (x : Int32) : (zi (cb x) &&& zi 192) = zi 128 := by
  obtain ⟨v, _, _, rfl⟩ := zi_of x
  have e : zi v &&& zi 63 = zi (v % 64) := zi_and (a := v) (k := 6) (by decide)
  have hm : 0 ≤ v % 64 ∧ v % 64 < 64 := ⟨Int.emod_nonneg _ (by decide), Int.emod_lt_of_pos _ (by decide)⟩
  obtain ⟨y, hy⟩ : ∃ y : Nat, v % 64 = y := ⟨(v % 64).toNat, by omega⟩
  unfold cb
  rw [e, hy]
  exact cont_y y (by omega)
theorem beg_192 : ∀ y, y < 32 → ¬ (zi ((zi 192 ||| zi (y : Nat)).toInt.bmod 256) &&& zi 192) = zi 128 := by decide +kernel
theorem beg_224 : ∀ y, y < 16 → ¬ (zi ((zi 224 ||| zi (y : Nat)).toInt.bmod 256) &&& zi 192) = zi 128 := by decide +kernel
theorem beg_240 : ∀ y, y < 8 → ¬ (zi ((zi 240 ||| zi (y : Nat)).toInt.bmod 256) &&& zi 192) = zi 128 := by decide +kernel
theorem shr_nat {c : Int} (h0 : 0 ≤ c) (h1 : c ≤ 1114111) {k : Nat} (hk : k < 32) : ∃ y : Nat, zshr (zi c) (zi k) = zi y ∧ (y : Int) = c / 2 ^ k := by
  have hd : 0 ≤ c / 2 ^ k := Int.ediv_nonneg h0 (Int.le_of_lt (Int.pow_pos (by decide)))
  exact ⟨(c / 2 ^ k).toNat, by rw [zshr_zi (by omega) (by omega) hk]; congr 1; omega, by omega⟩
/-- the first byte begins, the others go on -/
theorem utf_parts {c : Int} (h0 : 0 ≤ c) (h1 : c ≤ 1114111) : ∃ b r, utf c = b :: r ∧ ¬ (zi b &&& zi 192) = zi 128 ∧ ∀ v, v ∈ r → (zi v &&& zi 192) = zi 128 := by
  unfold utf
  by_cases q1 : c < 128
  · rw [if_pos q1]
    exact ⟨c, [], rfl, asc_begin (by omega), fun v hv => by cases hv⟩
  · rw [if_neg q1]
    by_cases q2 : c < 2048
    · rw [if_pos q2]
      obtain ⟨y, e, hy⟩ := shr_nat h0 h1 (k := 6) (by decide)
      have e6 : zshr (zi c) (zi 6) = zi y := e
      refine ⟨_, _, rfl, ?_, ?_⟩
      · rw [e6]
        refine beg_192 y ?_
        have : (2 : Int) ^ 6 = 64 := by decide
        rw [this] at hy
        omega
      · intro v hv
        simp only [List.mem_cons, List.not_mem_nil, or_false] at hv
        subst hv
        exact cb_cont _
    · rw [if_neg q2]
      by_cases q3 : c < 65536
      · rw [if_pos q3]
        obtain ⟨y, e, hy⟩ := shr_nat h0 h1 (k := 12) (by decide)
        have e6 : zshr (zi c) (zi 12) = zi y := e
        refine ⟨_, _, rfl, ?_, ?_⟩
        · rw [e6]
          refine beg_224 y ?_
          have : (2 : Int) ^ 12 = 4096 := by decide
          rw [this] at hy
          omega
        · intro v hv
          simp only [List.mem_cons, List.not_mem_nil, or_false] at hv
          rcases hv with rfl | rfl <;> exact cb_cont _
      · rw [if_neg q3]
        obtain ⟨y, e, hy⟩ := shr_nat h0 h1 (k := 18) (by decide)
        have e6 : zshr (zi c) (zi 18) = zi y := e
        refine ⟨_, _, rfl, ?_, ?_⟩
        · rw [e6]
          refine beg_240 y ?_
          have : (2 : Int) ^ 18 = 262144 := by decide
          rw [this] at hy
          omega
        · intro v hv
          simp only [List.mem_cons, List.not_mem_nil, or_false] at hv
          rcases hv with rfl | rfl | rfl <;> exact cb_cont _
/-- the class's cut of one character, past its first byte -/
theorem f83_rest {l : List Int} (hl : l.length ≤ 1600) {g z : Int} {p : Nat} : ∀ (d i n : Nat) (s : zS), d + i = l.length → d < n → PC s l g z → (∀ j, i ≤ j → (hj : j < l.length) → (zi l[j] &&& zi 192) = zi 128) → f83_9 n (zi p) (zi 1) (zi i) s = some s := by
  intro d
  induction d with
  | zero =>
    intro i n s hd hn hP hc
    obtain ⟨n, rfl⟩ : ∃ k, n = k + 1 := ⟨n - 1, by omega⟩
    show b83_9 (f83_9 n) _ _ _ _ = _
    unfold b83_9
    rw [hP.1, if_pos (zge (by omega))]
  | succ d ih =>
    intro i n s hd hn hP hc
    obtain ⟨n, rfl⟩ : ∃ k, n = k + 1 := ⟨n - 1, by omega⟩
    have hil : i < l.length := by omega
    show b83_9 (f83_9 n) _ _ _ _ = _
    unfold b83_9 f83_38 f83_63
    rw [hP.1, if_neg (znge (by omega)), if_pos (zi_ix (by omega) (by omega) (by omega)), zi_toNat (by omega), hP.2.1.get hil, if_pos (hc i (Nat.le_refl _) hil), if_pos rfl, if_pos rfl, zi_add, zi_add]
    exact ih (i + 1) n s (by omega) (by omega) hP (fun j h1 h2 => hc j (by omega) h2)
theorem PC.cutc {s : zS} {z c : Int} (h : PC s (utf c) ((utf c).length - 1 : Int) z) (h0 : 0 ≤ c) (h1 : c ≤ 1114111) {pr : Int} (hp1 : -1 ≤ pr) (hp2 : pr ≤ 1100) : ∃ s', f83 (zi pr) s = some s' ∧ PC s' (if pr = 0 then [] else utf c) (if pr = 0 then 0 else (utf c).length - 1 : Int) z ∧ fr [13] [] s s' := by
  have n01 : ¬ zi 1 = zi 0 := zne (by omega)
  have hl := utf_len c
  obtain ⟨b, r, e, hb, hr⟩ := utf_parts h0 h1
  unfold f83
  by_cases q : pr < 0
  · rw [if_neg (znge (by omega)), if_neg (by omega), if_neg (by omega)]
    exact ⟨s, rfl, h, fr.refl⟩
  · rw [if_pos (zge (by omega))]
    have h14 : s.1 14 0 = zi b := h.2.1 0 b (by rw [e]; rfl)
    show ∃ s', b83_9 (f83_9 999999) (zi pr) (zi 0) (zi 0) s = some s' ∧ _
    unfold b83_9 f83_38
    rw [h.1, if_neg (znge (by omega)), if_pos (zi_ix (by omega) (by omega) (by omega)), z00, h14, if_neg hb, if_neg n01]
    by_cases q2 : pr = 0
    · subst q2
      rw [if_neg (not_not_intro rfl), if_pos rfl, if_pos rfl, zi_sub]
      exact ⟨_, rfl, ⟨rfl, isL_nil, rfl, h.2.2.2⟩, (fr.refl.sI (.inl rfl)).sI (.inl rfl)⟩
    · unfold f83_63
      rw [if_pos (zne (by omega)), if_neg n01, zi_add, if_neg q2, if_neg q2]
      obtain ⟨p, rfl⟩ : ∃ p : Nat, pr = p := ⟨pr.toNat, by omega⟩
      refine ⟨s, ?_, h, fr.refl⟩
      refine f83_rest (l := utf c) (by omega) (p := p) ((utf c).length - 1) 1 999999 s (by omega) (by omega) h (fun j hj hjl => ?_)
      have ej : ∃ j', j = j' + 1 := ⟨j - 1, by omega⟩
      obtain ⟨j', rfl⟩ := ej
      apply hr
      have : (utf c)[j' + 1] = r[j']'(by rw [e] at hjl; exact Nat.lt_of_succ_lt_succ hjl) := by simp [e]
      rw [this]
      exact List.getElem_mem _
theorem MD.cutc {s : zS} {c : Int} (h : MD s (utf c) 1) {pr : Int} (h17 : s.1 24 17 = zi pr) (hp1 : -1 ≤ pr) (hp2 : pr ≤ 1100) : ∃ s', f202_150 s = some s' ∧ MD s' (if pr = 0 then [] else utf c) (if pr = 0 then 0 else 1) ∧ fr [] [30, 31] s s' := by
  unfold f202_150
  rw [h17, h.2.2]
  by_cases q : pr < 0
  · rw [if_pos (zlt (by omega)), if_neg (by omega), if_neg (by omega)]
    exact ⟨s, rfl, h, fr.refl⟩
  · rw [if_neg (znlt (by omega))]
    by_cases q2 : pr = 0
    · subst q2
      rw [if_neg (znle (by omega)), if_pos rfl, if_pos rfl]
      refine ⟨setI (setI s 24 31 (zi 0)) 24 30 (zi 0), ?_, ⟨rfl, isL_nil, rfl⟩, (fr.refl.sI (.inr ⟨rfl, rfl⟩)).sI (.inr ⟨rfl, rfl⟩)⟩
      show b202_176 (f202_176 999999) (zi 0) (setI s 24 31 (zi 0)) = _
      unfold b202_176
      rw [show (setI s 24 31 (zi 0)).1 24 31 = zi 0 from rfl, show (setI s 24 31 (zi 0)).1 24 17 = zi 0 from h17, if_pos (zge (by omega))]
    · rw [if_pos (zle (by omega)), if_neg q2, if_neg q2]
      exact ⟨s, rfl, h, fr.refl⟩
theorem CV_s2 {F : Int32} {W pr su c m : Int} {a n : Nat} {t : List Int} (ha : arel 2 c m t) (hp1 : -1 ≤ pr) (hp2 : pr ≤ 1100) : CV F W pr 115 su 2 c m a n t := by
  obtain ⟨q1, q2, q3, q4, q5, q6, q7, _⟩ := ha
  have hcm : c = m := q6 (by omega)
  subst hcm
  have hr := q7 (.inr rfl)
  have hl := utf_len c
  refine ⟨if pr = 0 then [] else utf c, if pr = 0 then 0 else (utf c).length - 1, -1, if pr = 0 then [] else utf c, if pr = 0 then 0 else 1, ?_, fun s h hP => ?_, fun s h hM => ?_⟩
  · by_cases q : pr = 0
    · rw [if_pos q, if_pos q, if_pos q]
      exact ⟨(fun v hv => by cases hv), Nat.zero_le _, Int.le_refl _, by omega, .inl ⟨rfl, rfl, rfl⟩⟩
    · rw [if_neg q, if_neg q, if_neg q]
      exact PR.char hr.1 W F
  · obtain ⟨s1, a1, a2, a3⟩ := hP.char hr.1 hr.2
    have h5 : r53 s1 = zi pr := (congrFun (a3.f (a := 7) rfl (by decide)) 5).trans h.2.2.1
    obtain ⟨s2, b1, b2, b3⟩ := a2.cutc hr.1 hr.2 hp1 hp2
    refine ⟨s2, ?_, b2, (a3.up rfl rfl).trans (b3.up rfl rfl)⟩
    have e65 : f65 s = some s1 := by
      unfold f65
      rw [h.entry.2.1, if_neg (zne (by omega)), if_pos rfl, h.entry.2.2, zL2I_zl, a1]
      rfl
    rw [sC h (by omega), e65, zb0_mk, h5, b1]
    rfl
  · obtain ⟨s1, a1, a2, a3⟩ := hM.char hr.1 hr.2
    have h17 : s1.1 24 17 = zi pr := (a3.1 24 17 rfl (fun _ => rfl)).trans h.2.2.1
    obtain ⟨s2, b1, b2, b3⟩ := a2.cutc h17 hp1 hp2
    refine ⟨s2, ?_, b2, (R6.fr a3 h.2.2.2.2.2.2.2.2.2.2 rfl rfl rfl rfl rfl rfl).fr b3 rfl rfl rfl rfl rfl rfl, (a3.up rfl rfl).trans (b3.up rfl rfl)⟩
    have e203 : f203 (zi 2) (zl c) s = some s1 := by
      unfold f203
      rw [if_pos (zne (by omega)), if_neg (not_not_intro rfl), zL2I_zl, a1]
      rfl
    rw [sM h (by omega), e203, zb0_mk, b1]
