/-! the shortest decimal: how the class writes it; CV of s for reals -/
theorem rdg_scale {R j : Nat} {q p : Int} (hq : -3780 ≤ q - j) : rdg (R * 10 ^ j) (q - j) p = rdg R q p := by
  rw [← dgN_units hq, ← dgN_units (show -3780 ≤ q by omega), Nat.mul_assoc, ← Nat.pow_add]
  have e : j + (3780 + (q - j)).toNat = (3780 + q).toNat := by omega
  rw [e]
theorem dl_same {R R' : Nat} {q q' : Int} (h : ∀ p, rdg R q p = rdg R' q' p) : ∀ (k : Nat) (hi : Int), dl R q hi k = dl R' q' hi k
  | 0, _ => rfl
  | k + 1, hi => by
    show (48 + (rdg R q hi : Nat) : Int) :: dl R q (hi - 1) k = (48 + (rdg R' q' hi : Nat) : Int) :: dl R' q' (hi - 1) k
    rw [h hi, dl_same h k (hi - 1)]
/-- eighteen digits of which the first stands at T -/
def E18 (D : Nat) (T : Int) : Prop := 100000000000000000 ≤ D ∧ D < 1000000000000000000 ∧ -1000 ≤ T ∧ T ≤ 1000
theorem f132_eq {D : Nat} {T i : Int} (h : E18 D T) (h1 : -3000 ≤ i) (h2 : i ≤ 3000) (s : zS) : f132 (zl D) (zi i) s = some (zi (48 + (rdg D (T - 17) (T - i) : Nat)), s) := by
  obtain ⟨d1, d2, t1, t2⟩ := h
  unfold f132 f132_15
  by_cases c1 : i < 0
  · have hz : rdg D (T - 17) (T - i) = 0 := by
      refine rdg_hi (P := T + 1) ?_ (by omega)
      have e : (T + 1 - (T - 17)).toNat = 18 := by omega
      rw [e]
      exact Nat.lt_of_lt_of_le d2 (by decide)
    rw [if_pos (zlt (by omega)), if_pos rfl, hz]
    rfl
  · rw [if_neg (znlt (by omega))]
    by_cases c2 : 18 ≤ i
    · rw [if_pos (zge (by omega)), if_pos rfl, rdg_low (by omega)]
      rfl
    · obtain ⟨k, hk⟩ : ∃ k : Nat, (k : Int) = 17 - i := ⟨(17 - i).toNat, by omega⟩
      have em : zi 17 - zi i = zi (k : Int) := by rw [zi_sub, hk]
      have et : mTens (zi (k : Int)).toNatClampNeg = zl ((10 ^ k : Nat) : Int) := by rw [zi_toNat (by omega)]; exact mTens_eq k (by omega)
      have ht := tens_ne (k := k) (by omega)
      rw [mTens_eq k (by omega)] at ht
      have e1 : rdg D (T - 17) (T - i) = D / 10 ^ k % 10 := by
        unfold rdg
        have e : (T - i - (T - 17)).toNat = k := by omega
        rw [if_neg (by omega), e]
      have hp := p_pos k
      have hp2 := p18 (k := k) (by omega)
      rw [if_neg (znge (by omega)), if_neg (show ¬ zi 1 = zi 0 from zne (by omega)), em, if_pos (zi_ix (by omega) (by omega) (by omega)), et, if_pos ht, e1]
      have hle : D / 10 ^ k ≤ D := Nat.div_le_self _ _
      clear e1 ht et em
      have ed : zl (D : Int) / zl ((10 ^ k : Nat) : Int) = zl ((D / 10 ^ k : Nat) : Int) := by
        generalize 10 ^ k = y at *
        rw [zl_div (by omega) (by omega) (by omega) (by omega), ntdiv]
      rw [ed]
      generalize D / 10 ^ k = x at *
      rw [zl_rem (by omega) (by omega) (by omega) (by omega), zL2I_zl, zi_add]
      rfl
theorem f131_loop {D : Nat} {T lo : Int} (h : E18 D T) (hL : LOW D (T - 17) T lo) {s : zS} : ∀ (d e n : Nat), (d : Int) = lo - (T - e + 1) → e ≤ 18 → d < n → f131_5 n (zi e) (zl ((D / 10 ^ (18 - e) : Nat) : Int)) s = some (zi (T - lo + 1), s) := by
  obtain ⟨d1, d2, t1, t2⟩ := h
  obtain ⟨l1, l2, l3, l4⟩ := hL
  have hdig : ∀ e : Nat, e ≤ 18 → rdg D (T - 17) (T - e + 1) = D / 10 ^ (18 - e) % 10 := by
    intro e he
    unfold rdg
    have e1 : (T - e + 1 - (T - 17)).toNat = 18 - e := by omega
    rw [if_neg (by omega), e1]
  have hrem : ∀ e : Nat, zremL (zl ((D / 10 ^ (18 - e) : Nat) : Int)) (zl 10) = zl ((D / 10 ^ (18 - e) % 10 : Nat) : Int) := by
    intro e
    have hle : D / 10 ^ (18 - e) ≤ D := Nat.div_le_self _ _
    generalize D / 10 ^ (18 - e) = x at *
    rw [zl_rem (by omega) (by omega) (by omega) (by omega)]
    rfl
  intro d
  induction d with
  | zero =>
    intro e n hd he hn
    obtain ⟨n, rfl⟩ : ∃ k, n = k + 1 := ⟨n - 1, by omega⟩
    have hlo : lo = T - e + 1 := by omega
    have h1 := hdig e he
    rw [← hlo] at h1
    rw [h1] at l2
    show b131_5 (f131_5 n) _ _ _ = _
    unfold b131_5
    rw [if_neg (znle (by omega)), hrem, if_pos (zlne (by omega))]
    have e2 : (e : Int) = T - lo + 1 := by omega
    rw [e2]
  | succ d ih =>
    intro e n hd he hn
    obtain ⟨n, rfl⟩ : ∃ k, n = k + 1 := ⟨n - 1, by omega⟩
    have h1 := hdig e he
    rw [l1 (T - e + 1) (by omega)] at h1
    have e3 : zl ((D / 10 ^ (18 - e) : Nat) : Int) / zl 10 = zl ((D / 10 ^ (18 - (e - 1)) : Nat) : Int) := by
      have ek : 18 - (e - 1) = (18 - e) + 1 := by omega
      rw [ek, Nat.pow_succ, ← Nat.div_div_eq_div_mul]
      have hle : D / 10 ^ (18 - e) ≤ D := Nat.div_le_self _ _
      generalize D / 10 ^ (18 - e) = x at *
      rw [zl_div (by omega) (by omega) (by omega) (by omega)]
      rfl
    have ei : zi (e : Int) + zi (-1) = zi ((e - 1 : Nat) : Int) := by
      rw [zi_add]
      exact congrArg zi (by omega)
    show b131_5 (f131_5 n) _ _ _ = _
    unfold b131_5
    rw [if_neg (znle (by omega)), hrem, ← h1, if_neg zl00, e3, ei]
    exact ih (e - 1) n (by omega) (by omega) (by omega)
theorem f131_eq {D : Nat} {T lo : Int} (h : E18 D T) (hL : LOW D (T - 17) T lo) (s : zS) : f131 (zl D) s = some (zi (T - lo + 1), s) := by
  have e := f131_loop h hL (s := s) (lo - (T - 17)).toNat 18 zF (by have := hL.2.2.2; omega) (by omega) (by unfold zF; have := hL.2.2.1; omega)
  have e0 : D / 10 ^ (18 - 18) = D := by
    show D / 10 ^ 0 = D
    rw [Nat.pow_zero, Nat.div_one]
  rw [e0] at e
  exact e
theorem f130_44_loop {D : Nat} {T lo b : Int} (h : E18 D T) (hL : LOW D (T - 17) T lo) (hb : -1000 ≤ b) (hb2 : b ≤ 1000) : ∀ (d n : Nat) (i : Int) (s : zS) (l : List Int) (g z : Int), (d : Int) = max (T - lo + 1) (b + 1) - i → d < n → -2000 ≤ i → PC s l g z → l.length + d ≤ 1600 →
    ∃ s', f130_44 n (zl D) (zi b) (zi i) s = some s' ∧ PC s' (l ++ dl D (T - 17) (T - i) d) g z ∧ fr [13, 14] [] s s' := by
  have hlo1 := hL.2.2.1
  have hlo2 := hL.2.2.2
  have ht1 := h.2.2.1
  have ht2 := h.2.2.2
  intro d
  induction d with
  | zero =>
    intro n i s l g z hd hn hi hP hl
    obtain ⟨n, rfl⟩ : ∃ k, n = k + 1 := ⟨n - 1, by omega⟩
    refine ⟨s, ?_, hP.nil, fr.refl⟩
    show b130_44 (f130_44 n) _ _ _ _ = _
    unfold b130_44
    rw [f131_eq h hL, zb1_mk, zi_add, r264_max (by omega) (by omega) (by omega) (by omega), if_pos (zge (by omega))]
  | succ d ih =>
    intro n i s l g z hd hn hi hP hl
    obtain ⟨n, rfl⟩ : ∃ k, n = k + 1 := ⟨n - 1, by omega⟩
    have hr := rdg_lt D (T - 17) (T - i)
    obtain ⟨s1, a1, a2, a3⟩ := hP.add (by omega) (b := 48 + (rdg D (T - 17) (T - i) : Nat)) (by omega) (by omega)
    obtain ⟨s2, b1, b2, b3⟩ := ih n (i + 1) s1 _ g z (by omega) (by omega) (by omega) a2 (by rw [List.length_append]; show l.length + 1 + d ≤ 1600; omega)
    refine ⟨s2, ?_, ?_, a3.trans b3⟩
    · show b130_44 (f130_44 n) _ _ _ _ = _
      unfold b130_44
      rw [f131_eq h hL, zb1_mk, zi_add, r264_max (by omega) (by omega) (by omega) (by omega), if_neg (znge (by omega)), f132_eq h (by omega) (by omega), zb1_mk, a1, zb0_mk, zi_add]
      exact b1
    · have e : T - (i + 1) = T - i - 1 := by omega
      rw [e, List.append_assoc] at b2
      exact b2
theorem f130_13_loop {D : Nat} {T lo : Int} {b : Int} (h : E18 D T) (hL : LOW D (T - 17) T lo) (hb : -1000 ≤ b) (hb2 : b ≤ 1000) : ∀ (d i n : Nat) (s : zS) (l : List Int) (g z : Int), d = (b - i).toNat → d < n → (i : Int) ≤ max b 0 → PC s l g z → l.length + d + 100 + (max (T - lo + 1) (b + 1) - b).toNat ≤ 1600 →
    ∃ s', f130_13 n (zl D) (zi b) (zi i) s = some s' ∧ PC s' (l ++ (dl D (T - 17) (T - i) d ++ 46 :: dl D (T - 17) (T - b) (max (T - lo + 1) (b + 1) - b).toNat)) g z ∧ fr [13, 14] [] s s' := by
  have hlo1 := hL.2.2.1
  have hlo2 := hL.2.2.2
  have ht1 := h.2.2.1
  have ht2 := h.2.2.2
  intro d
  induction d with
  | zero =>
    intro i n s l g z hd hn hi hP hl
    obtain ⟨n, rfl⟩ : ∃ k, n = k + 1 := ⟨n - 1, by omega⟩
    obtain ⟨s1, a1, a2, a3⟩ := hP.add (by omega) (b := 46) (by omega) (by omega)
    obtain ⟨s2, b1, b2, b3⟩ := f130_44_loop h hL hb hb2 (max (T - lo + 1) (b + 1) - b).toNat zF b s1 _ g z (by omega) (by unfold zF; omega) (by omega) a2 (by rw [List.length_append]; show l.length + 1 + _ ≤ 1600; omega)
    refine ⟨s2, ?_, ?_, a3.trans b3⟩
    · show b130_13 (f130_13 n) _ _ _ _ = _
      unfold b130_13
      rw [if_pos (zge (by omega)), a1, zb0_mk]
      exact b1
    · rw [List.append_assoc] at b2
      exact b2
  | succ d ih =>
    intro i n s l g z hd hn hi hP hl
    obtain ⟨n, rfl⟩ : ∃ k, n = k + 1 := ⟨n - 1, by omega⟩
    have hr := rdg_lt D (T - 17) (T - i)
    obtain ⟨s1, a1, a2, a3⟩ := hP.add (by omega) (b := 48 + (rdg D (T - 17) (T - i) : Nat)) (by omega) (by omega)
    obtain ⟨s2, b1, b2, b3⟩ := ih (i + 1) n s1 _ g z (by omega) (by omega) (by omega) a2 (by rw [List.length_append]; show l.length + 1 + d + 100 + _ ≤ 1600; omega)
    refine ⟨s2, ?_, ?_, a3.trans b3⟩
    · show b130_13 (f130_13 n) _ _ _ _ = _
      unfold b130_13
      have ei : zi (i : Int) + zi 1 = zi ((i + 1 : Nat) : Int) := zi_add _ _
      rw [if_neg (znge (by omega)), f132_eq h (by omega) (by omega), zb1_mk, a1, zb0_mk, ei]
      exact b1
    · have e : T - ((i + 1 : Nat) : Int) = T - i - 1 := by omega
      rw [e, List.append_assoc] at b2
      exact b2
theorem f130_eq {D : Nat} {T lo : Int} {b : Int} (h : E18 D T) (hL : LOW D (T - 17) T lo) (hb : -10 ≤ b) (hb2 : b ≤ 10) {s : zS} {l : List Int} {g z : Int} (hP : PC s l g z) (hl : l.length ≤ 10) (hlo : T - 20 ≤ lo) :
    ∃ s', f130 (zl D) (zi b) s = some s' ∧ PC s' (l ++ ((if b ≤ 0 then [48] else dl D (T - 17) T b.toNat) ++ 46 :: dl D (T - 17) (T - b) (max (T - lo + 1) (b + 1) - b).toNat)) g z ∧ fr [13, 14] [] s s' := by
  have hlo1 := hL.2.2.1
  unfold f130
  by_cases c : b ≤ 0
  · obtain ⟨s1, a1, a2, a3⟩ := hP.add (by omega) (b := 48) (by omega) (by omega)
    obtain ⟨s2, b1, b2, b3⟩ := f130_13_loop h hL (b := b) (by omega) (by omega) 0 0 zF s1 _ g z (by omega) (by unfold zF; omega) (by omega) a2 (by rw [List.length_append]; show l.length + 1 + 0 + 100 + _ ≤ 1600; omega)
    refine ⟨s2, ?_, ?_, a3.trans b3⟩
    · rw [if_neg (zngt (by omega)), a1, zb0_mk]
      exact b1
    · rw [if_pos c]
      rw [List.append_assoc] at b2
      exact b2
  · obtain ⟨s2, b1, b2, b3⟩ := f130_13_loop h hL (b := b) (by omega) (by omega) b.toNat 0 zF s l g z (by omega) (by unfold zF; omega) (by omega) hP (by omega)
    refine ⟨s2, ?_, ?_, b3⟩
    · rw [if_pos (zgt (by omega))]
      exact b1
    · rw [if_neg c]
      have e : T - ((0 : Nat) : Int) = T := by omega
      rw [e] at b2
      exact b2
theorem lit_E : lit 21 = [69] ∧ lit 20 = [69, 45] := by decide +kernel
theorem f125_190_eq {D R : Nat} {T lo q : Int} (h : E18 D T) (hd : ∀ p, rdg D (T - 17) p = rdg R q p) (hL : LOW R q T lo) (hlo : T - 17 ≤ lo) {s : zS} (h7 : s.1 19 7 = zi (T + 1)) {l : List Int} {g z : Int} (hP : PC s l g z) (hl : l.length ≤ 10) :
    ∃ s', f125_190 (zl D) s = some s' ∧ PC s' (l ++ shX R q T lo) g z ∧ fr [13, 14] [] s s' := by
  have hLD : LOW D (T - 17) T lo := ⟨fun p hp => by rw [hd p]; exact hL.1 p hp, by rw [hd lo]; exact hL.2.1, hL.2.2.1, hlo⟩
  have hlo1 := hL.2.2.1
  have ht1 := h.2.2.1
  have ht2 := h.2.2.2
  unfold f125_190 shX
  rw [h7]
  by_cases c : -3 ≤ T ∧ T < 7
  · obtain ⟨s1, a1, a2, a3⟩ := f130_eq h hLD (b := T + 1) (by omega) (by omega) hP hl (by omega)
    refine ⟨s1, ?_, ?_, a3⟩
    · rw [if_neg (znlt (by omega)), if_neg (zngt (by omega)), a1]
      rfl
    · rw [if_pos c]
      have e1 : (if T + 1 ≤ 0 then [48] else dl D (T - 17) T (T + 1).toNat) = whl R q T := by
        unfold whl
        by_cases c2 : T + 1 ≤ 0
        · have e2 : max T 0 = 0 := by omega
          rw [if_pos c2, e2]
          have e3 : rdg R q 0 = 0 := by
            rw [← hd 0]
            refine rdg_hi (P := T + 1) ?_ (by omega)
            have e : (T + 1 - (T - 17)).toNat = 18 := by omega
            rw [e]
            exact Nat.lt_of_lt_of_le h.2.1 (by decide)
          show [48] = [(48 + (rdg R q 0 : Nat) : Int)]
          rw [e3]
          rfl
        · have e2 : max T 0 = T := by omega
          rw [if_neg c2, e2, dl_same hd]
      have e4 : T - (T + 1) = -1 := by omega
      have e5 : max (T - lo + 1) (T + 1 + 1) - (T + 1) = max (-lo) 1 := by omega
      rw [e1, e4, e5, dl_same hd] at a2
      exact a2
  · have h221 : ∃ s', f125_221 (zl D) s = some s' ∧ PC s' (l ++ ((48 + (rdg R q T : Nat) : Int) :: 46 :: (dl R q (T - 1) (max (T - lo) 1).toNat ++ 69 :: sgv T))) g z ∧ fr [13, 14] [] s s' := by
      obtain ⟨s1, a1, a2, a3⟩ := f130_eq h hLD (b := 1) (by omega) (by omega) hP hl (by omega)
      have e5 : max (T - lo + 1) (1 + 1) - 1 = max (T - lo) 1 := by omega
      have e6 : dl D (T - 17) T (1 : Int).toNat = [(48 + (rdg R q T : Nat) : Int)] := by
        show [(48 + (rdg D (T - 17) T : Nat) : Int)] = _
        rw [hd T]
      rw [if_neg (by omega), e5, e6, dl_same hd] at a2
      have h71 : s1.1 19 7 = zi (T + 1) := by rw [a3.f rfl (by decide)]; exact h7
      have hlen : (l ++ ([(48 + (rdg R q T : Nat) : Int)] ++ 46 :: dl R q (T - 1) (max (T - lo) 1).toNat)).length ≤ 100 := by
        rw [List.length_append]
        show l.length + ((dl R q (T - 1) (max (T - lo) 1).toNat).length + 1 + 1) ≤ 100
        rw [dl_len]
        omega
      have h244 : ∀ (w : Nat), w < 78 → (lit w).length ≤ 2 → ∃ s', f125_244 w s1 = some s' ∧ PC s' ((l ++ ([(48 + (rdg R q T : Nat) : Int)] ++ 46 :: dl R q (T - 1) (max (T - lo) 1).toNat)) ++ (lit w ++ ds T.natAbs (kk T.natAbs 1))) g z ∧ fr [13, 14] [] s1 s' := by
        intro w hw hw2
        obtain ⟨s2, b1, b2, b3⟩ := a2.all (c := w) hw (by omega)
        obtain ⟨s3, c1, c2, c3⟩ := b2.size (v := T) (by omega) (by omega) (a := 1) (by omega) (c := 0) (.inl rfl) (by rw [List.length_append]; omega)
        refine ⟨s3, ?_, ?_, b3.trans c3⟩
        · have h72 : s2.1 19 7 = zi (T + 1) := by rw [b3.f rfl (by decide)]; exact h71
          have ev : zI2L (zi (T + 1) - zi 1) = zl T := by
            rw [zi_sub, zI2L_zi (by omega) (by omega)]
            exact congrArg zl (by omega)
          unfold f125_244
          rw [b1, zb0_mk, h72, ev]
          have c1' : f78 (zl T) (zi 1) (zi 0) s2 = some s3 := c1
          rw [c1']
          rfl
        · rw [dsC_ds, List.append_assoc] at c2
          exact c2
      unfold f125_221
      rw [a1, zb0_mk, h71]
      by_cases c2 : T < 0
      · obtain ⟨s2, b1, b2, b3⟩ := h244 20 (by omega) (by rw [lit_E.2]; exact Nat.le_refl _)
        refine ⟨s2, ?_, ?_, a3.trans b3⟩
        · rw [if_neg (znge (by omega))]
          exact b1
        · rw [lit_E.2, List.append_assoc] at b2
          have es : sgv T = [45] ++ ds T.natAbs (kk T.natAbs 1) := by
            unfold sgv
            rw [if_pos c2]
          rw [es]
          exact b2
      · obtain ⟨s2, b1, b2, b3⟩ := h244 21 (by omega) (by rw [lit_E.1]; show 1 ≤ 2; omega)
        refine ⟨s2, ?_, ?_, a3.trans b3⟩
        · rw [if_pos (zge (by omega))]
          exact b1
        · rw [lit_E.1, List.append_assoc] at b2
          have es : sgv T = ds T.natAbs (kk T.natAbs 1) := by
            unfold sgv
            rw [if_neg c2]
            rfl
          rw [es]
          exact b2
    rw [if_neg c]
    by_cases c1 : T < -3
    · rw [if_pos (zlt (by omega))]
      exact h221
    · rw [if_neg (znlt (by omega)), if_pos (zgt (by omega))]
      exact h221
/-! the three loads -/
theorem CD.topn {s : zS} {N : Nat} {P : Int} {cnt : Nat} (h : CD s N P cnt) (h0 : N ≠ 0) : topN N (P - 1) := by
  rcases h.2.2.2.2.2.1 with ⟨g, _⟩ | ⟨g, _⟩
  · exact absurd g h0
  · exact g
theorem top_le {N L : Nat} {a b : Int} (h : topN N a) (g : topN L b) (hle : N ≤ L) : a ≤ b := by
  apply Classical.byContradiction
  intro c
  have h1 : 10 ^ (3781 + b).toNat ≤ 10 ^ (3780 + a).toNat := Nat.pow_le_pow_right (by decide) (by have := h.1; omega)
  have h2 := h.2.1
  have h3 := g.2.2
  exact Nat.lt_irrefl _ (Nat.lt_of_lt_of_le h3 (Nat.le_trans h1 (Nat.le_trans h2 hle)))
theorem top_two {N L : Nat} {a b : Int} (h : topN N a) (g : topN L b) (hle : N ≤ 2 * L) : a ≤ b + 1 := by
  apply Classical.byContradiction
  intro c
  have h1 : 10 ^ ((3781 + b).toNat + 1) ≤ 10 ^ (3780 + a).toNat := Nat.pow_le_pow_right (by decide) (by have := h.1; have := g.1; omega)
  rw [Nat.pow_succ] at h1
  have h2 := h.2.1
  have h3 := g.2.2
  have hp := p_pos (3781 + b).toNat
  generalize 10 ^ (3781 + b).toNat = y at *
  generalize 10 ^ (3780 + a).toNat = x at *
  omega
theorem bz_bit (x : Nat) : mBit (zi (bz x)) := by
  unfold bz
  split <;> decide
theorem bz_if (x : Nat) : (if x = 0 then (0 : Int) else 1) = bz x := rfl
theorem f125_eq {M nr w : Nat} {X : Int} (hM : 0 < M) (hM2 : M < 9007199254740992) (hX1 : -1074 ≤ X) (hX2 : X ≤ 971) (hnr : nr = 0 ∨ nr = 1 ∧ M ≤ 4503599627370496) (hw : SV w 1 (X - 2)) {s : zS} {l : List Int} {g z : Int} (hP : PC s l g z) (hl : l.length ≤ 10) :
    ∃ s' N L H T k R T' lo, f125 (zl M) (zi X) (zi nr) s = some s' ∧ EDG N L H M w nr ∧ topN N T ∧ SR N L H (M % 2 = 0) T k R ∧ TopR R (T - k + 1) T' ∧ LOW R (T - k + 1) T' lo ∧ PC s' (l ++ shX R (T - k + 1) T' lo) g z ∧ fr [13, 14, 16, 17, 18, 19] [] s s' := by
  have em4 : zl 4 * zl (M : Int) = zl ((4 * M : Nat) : Int) := by
    rw [zl_mul]
    exact congrArg zl (by omega)
  have ex2 : zi X - zi 2 = zi (X - 2) := zi_sub _ _
  have eh : zl ((4 * M : Nat) : Int) + zl 2 = zl ((4 * M + 2 : Nat) : Int) := by
    rw [zl_add]
    exact congrArg zl (by omega)
  have el : ∀ y : Nat, y ≤ 2 → zl ((4 * M : Nat) : Int) - zI2L (zi (y : Int)) = zl ((4 * M - y : Nat) : Int) := by
    intro y hy
    rw [zI2L_zi (by omega) (by omega), zl_sub]
    exact congrArg zl (by omega)
  have erem : zremL (zl (M : Int)) (zl 2) = zl ((M % 2 : Nat) : Int) := by
    rw [zl_rem (by omega) (by omega) (by omega) (by omega)]
    rfl
  obtain ⟨e, he, hev, h0⟩ : ∃ e : Int, (e = 0 ∨ e = 1) ∧ (e = 1 ↔ M % 2 = 0) ∧ f125 (zl M) (zi X) (zi nr) s = f125_16 (zl M) (zi X) (zi nr) (zi e) s := by
    unfold f125
    rw [erem]
    by_cases c : M % 2 = 0
    · exact ⟨1, .inr rfl, by omega, by rw [c, if_neg zl00]⟩
    · exact ⟨0, .inl rfl, by omega, by rw [if_pos (zlne (by omega))]⟩
  have hbe : mBit (zi e) := by rcases he with rfl | rfl <;> decide
  -- the value
  obtain ⟨s1, N, P, n1, a1, a2, a3, a4⟩ := f113_eq (M := 4 * M) (by omega) (X := X - 2) (by omega) (by omega) (setI s 19 6 (zi e))
  have hP1 := a2.2.2.2.2.2.2
  have a2' : CD (setI s1 19 7 (zi P)) N P n1 := a2.mv (A := [19]) (B := []) (fr.refl.sI (.inl rfl)) rfl rfl
  have b1 := f121_eq a2' (pt := P) (by omega) (by omega) (by omega) (by omega)
  obtain ⟨u, hu⟩ : ∃ u, u = 10 ^ (3762 + P).toNat := ⟨_, rfl⟩
  rw [← hu] at b1
  have a2'' : CD (setJ (setI s1 19 7 (zi P)) 19 0 (zl ((N / u : Nat) : Int))) N P n1 := a2'.mv (A := [19]) (B := []) (fr.refl.sJ rfl) rfl rfl
  have b2 := f122_eq a2'' (pt := P) (by omega) (by omega) (by omega) (by omega)
  rw [← hu, bz_if] at b2
  obtain ⟨sc, hsc⟩ : ∃ sc, sc = setI (setJ (setI s1 19 7 (zi P)) 19 0 (zl ((N / u : Nat) : Int))) 19 1 (zi (bz (N % u))) := ⟨_, rfl⟩
  -- the low edge
  obtain ⟨s2, L, P2, n2, c1, c2, c3, c4⟩ := f113_eq (M := 4 * M - (2 - nr)) (by omega) (X := X - 2) (by omega) (by omega) sc
  have h16 : f125 (zl M) (zi X) (zi nr) s = zb1 (f121 (s2.1 19 7) s2) (fun v3 s2 => zb1 (f122 (s2.1 19 7) (setJ s2 19 2 v3)) (fun v5 s4 => if mBit v5 then zb0 (f113 (zl ((4 * M + 2 : Nat) : Int)) (zi (X - 2)) (setI s4 19 3 v5)) (fun s6 => zb1 (f121 (s6.1 19 7) s6) (fun v8 s7 => zb1 (f122 (s7.1 19 7) (setJ s7 19 4 v8)) (fun v10 s9 => if mBit v10 then zb1 (f126 (setI s9 19 5 v10)) (fun v12 s11 => if mIx (zi 18) 19 then if ¬ v12 = (mTens ((zi 18).toNatClampNeg)) then f125_190 v12 s11 else f125_190 (v12 / (zl 10)) (setI s11 19 7 ((s11.1 19 7) + (zi 1))) else none) else none))) else none)) := by
    rw [h0]
    unfold f125_16
    have e117 : r117 s1 = zi P := a2.1
    have e7 : (setI s1 19 7 (zi P)).1 19 7 = zi P := rfl
    rw [if_pos hbe, em4, ex2, a1, zb0_mk, e117, b1, zb1_mk, e7, b2, zb1_mk, if_pos (bz_bit _), ← hsc]
    rcases hnr with rfl | ⟨rfl, _⟩
    · rw [if_pos (show zi ((0 : Nat) : Int) = zi 0 from rfl)]
      unfold f125_80
      have e2 := el 2 (by omega)
      have e2' : zl ((4 * M : Nat) : Int) - zI2L (zi 2) = zl ((4 * M - (2 - 0) : Nat) : Int) := e2
      rw [e2', ex2, c1, zb0_mk, em4, eh]
    · rw [if_neg (show ¬ zi ((1 : Nat) : Int) = zi 0 from zne (by omega))]
      unfold f125_80
      have e2 := el 1 (by omega)
      have e2' : zl ((4 * M : Nat) : Int) - zI2L (zi 1) = zl ((4 * M - (2 - 1) : Nat) : Int) := e2
      rw [e2', ex2, c1, zb0_mk, em4, eh]
  -- the high edge needs the place of the low one
  have hP2 := c2.2.2.2.2.2.2
  have e27 : s2.1 19 7 = zi P := by
    rw [c4.f rfl (by decide), hsc]
    rfl
  obtain ⟨sd, hsd⟩ : ∃ sd, sd = setI (setJ s2 19 2 (zl ((L / u : Nat) : Int))) 19 3 (zi (bz (L % u))) := ⟨_, rfl⟩
  obtain ⟨s3, H, P3, n3, d1, d2, d3, d4⟩ := f113_eq (M := 4 * M + 2) (by omega) (X := X - 2) (by omega) (by omega) sd
  have hP3 := d2.2.2.2.2.2.2
  have hE := EDG_c hw a3 d3 c3 hM hM2 hnr
  have ho := hE.ord
  have hT := a2.topn (by omega)
  have hTL := c2.topn (by omega)
  have hTH := d2.topn (by omega)
  have hNL : N ≤ 2 * L ∧ H ≤ 2 * N := by
    obtain ⟨h1, h2, h3, h4, h5⟩ := hE
    have g : 1 * (4 * w) ≤ M * (4 * w) := Nat.mul_le_mul_right _ h4
    rw [← h1] at g
    omega
  have p1 := top_le hTL hT (by omega)
  have p2 := top_two hT hTL hNL.1
  have p3 := top_le hT hTH (by omega)
  have p4 := top_two hTH hT hNL.2
  have f1 := f121_eq c2 (pt := P) (by omega) (by omega) (by omega) (by omega)
  have c2' : CD (setJ s2 19 2 (zl ((L / u : Nat) : Int))) L P2 n2 := c2.mv (A := [19]) (B := []) (fr.refl.sJ rfl) rfl rfl
  have f2 := f122_eq c2' (pt := P) (by omega) (by omega) (by omega) (by omega)
  rw [← hu] at f1
  rw [← hu, bz_if] at f2
  have e37 : s3.1 19 7 = zi P := by
    rw [d4.f rfl (by decide), hsd]
    exact e27
  have g1 := f121_eq d2 (pt := P) (by omega) (by omega) (by omega) (by omega)
  have d2' : CD (setJ s3 19 4 (zl ((H / u : Nat) : Int))) H P3 n3 := d2.mv (A := [19]) (B := []) (fr.refl.sJ rfl) rfl rfl
  have g2 := f122_eq d2' (pt := P) (by omega) (by omega) (by omega) (by omega)
  rw [← hu] at g1
  rw [← hu, bz_if] at g2
  obtain ⟨sg, hsg⟩ : ∃ sg, sg = setI (setJ s3 19 4 (zl ((H / u : Nat) : Int))) 19 5 (zi (bz (H % u))) := ⟨_, rfl⟩
  have hup : 0 < u := by
    rw [hu]
    exact p_pos _
  have hNu : N < u * 1000000000000000000 := by
    have := a2.lt
    have e18 : u * 1000000000000000000 = 10 ^ (3780 + P).toNat := by
      have e : (1000000000000000000 : Nat) = 10 ^ 18 := by decide
      rw [hu, e, ← Nat.pow_add]
      exact congrArg (10 ^ ·) (by omega)
    rw [e18]
    exact this
  have hHD : HD sg N L H u e := by
    have q1 : sc.2.1 19 0 = zl ((N / u : Nat) : Int) := by rw [hsc]; rfl
    have q2 : sc.1 19 1 = zi (bz (N % u)) := by rw [hsc]; rfl
    have q3 : sc.1 19 6 = zi e := by
      rw [hsc]
      show s1.1 19 6 = zi e
      rw [a4.f rfl (by decide)]
      rfl
    refine ⟨?_, ?_, ?_, ?_, ?_, ?_, ?_, hup, Nat.div_lt_of_lt_mul hNu, Nat.div_lt_of_lt_mul (by omega), Nat.div_lt_of_lt_mul (by omega)⟩
    · rw [hsg]
      show s3.2.1 19 0 = _
      rw [d4.l rfl, hsd]
      show s2.2.1 19 0 = _
      rw [c4.l rfl, q1]
    · rw [hsg]
      show s3.1 19 1 = _
      rw [d4.f rfl (by decide), hsd]
      show s2.1 19 1 = _
      rw [c4.f rfl (by decide), q2]
    · rw [hsg]
      show s3.2.1 19 2 = _
      rw [d4.l rfl, hsd]
      rfl
    · rw [hsg]
      show s3.1 19 3 = _
      rw [d4.f rfl (by decide), hsd]
      rfl
    · rw [hsg]
      rfl
    · rw [hsg]
      rfl
    · rw [hsg]
      show s3.1 19 6 = _
      rw [d4.f rfl (by decide), hsd]
      show s2.1 19 6 = _
      rw [c4.f rfl (by decide), q3]
  have fsg : fr [16, 17, 18, 19] [] s sg := by
    have k1 : fr [16, 17, 18, 19] [] s sc := by
      rw [hsc]
      exact ((((fr.refl.sI (.inl rfl)).trans (a4.up rfl rfl)).sI (.inl rfl)).sJ rfl).sI (.inl rfl)
    have k2 : fr [16, 17, 18, 19] [] s sd := by
      rw [hsd]
      exact ((k1.trans (c4.up rfl rfl)).sJ rfl).sI (.inl rfl)
    rw [hsg]
    exact ((k2.trans (d4.up rfl rfl)).sJ rfl).sI (.inl rfl)
  have e7g : sg.1 19 7 = zi P := by
    rw [hsg]
    exact e37
  have hTr : -1000 ≤ P - 1 ∧ P ≤ 900 := by
    have hV := VB_of (N := N) (M := M) (X := X) (by
      have := (SV.mul (w := 4 * w) (X := X) (by
        have h1 := hw
        intro a b hab
        have h2 := h1 (a + 2) b (by omega)
        rw [Nat.pow_add] at h2
        have e4 : (2 : Nat) ^ 2 = 4 := rfl
        rw [e4] at h2
        rw [← h2]
        rw [Nat.mul_comm 4 w, Nat.mul_assoc, Nat.mul_comm 4]) M)
      rw [← hE.1] at this
      exact this) hM2 (by omega) hX2
    have := top_rng hV hT
    omega
  have hT1 := hTr.1
  have hP308 := hTr.2
  obtain ⟨k, R, m1, m2⟩ := f126_loop hHD he hE hT hT1 (by rw [hu]; exact congrArg (10 ^ ·) (by omega)) 15 2 zF rfl (by omega) (by unfold zF; omega) (fun m m1 m2 => by omega)
  have hp : (e = 1) = (M % 2 = 0) := propext hev
  rw [hp] at m2
  obtain ⟨T', t1, t2⟩ := m2.top hT hT1
  obtain ⟨lo, hlo⟩ := LOW_ex t1
  have hk1 := m2.1
  have hk2 := m2.2.1
  have hPg : PC sg l g z := hP.mv fsg rfl rfl
  have hbody : f125 (zl M) (zi X) (zi nr) s = if ¬ zl ((R * 10 ^ (18 - k) : Nat) : Int) = (mTens ((zi 18).toNatClampNeg)) then f125_190 (zl ((R * 10 ^ (18 - k) : Nat) : Int)) sg else f125_190 (zl ((R * 10 ^ (18 - k) : Nat) : Int) / (zl 10)) (setI sg 19 7 ((sg.1 19 7) + (zi 1))) := by
    have m1' : f126 sg = some (zl ((R * 10 ^ (18 - k) : Nat) : Int), sg) := m1
    rw [h16, e27, f1, zb1_mk, e27, f2, zb1_mk, if_pos (bz_bit _), ← hsd, d1, zb0_mk, e37, g1, zb1_mk, e37, g2, zb1_mk, if_pos (bz_bit _), ← hsg, m1', zb1_mk, if_pos (zi_ix (by omega) (by omega) (by omega))]
  have et : mTens ((zi 18).toNatClampNeg) = zl ((10 ^ 18 : Nat) : Int) := mTens_eq 18 (by omega)
  have e18 : 10 ^ k * 10 ^ (18 - k) = 1000000000000000000 := by
    rw [← Nat.pow_add]
    have : k + (18 - k) = 18 := by omega
    rw [this] <;> decide
  have c18 : (10 : Nat) ^ 18 = 1000000000000000000 := by decide
  rw [et, c18] at hbody
  have hlo2 := hlo.2.2.2
  rcases t2 with rfl | ⟨rfl, hR⟩
  · -- eighteen digits
    have hRk : R < 10 ^ k := by
      have := t1.2.2
      have e1 : (P - 1 - (P - 1 - (k : Int) + 1) + 1).toNat = k := by omega
      rw [e1] at this
      exact this
    have hRl : 10 ^ (k - 1) ≤ R := by
      have := t1.2.1
      have e1 : (P - 1 - (P - 1 - (k : Int) + 1)).toNat = k - 1 := by omega
      rw [e1] at this
      exact this
    have hD1 : R * 10 ^ (18 - k) < 1000000000000000000 := by
      rw [← e18]
      exact Nat.mul_lt_mul_of_pos_right hRk (p_pos _)
    have hD2 : 100000000000000000 ≤ R * 10 ^ (18 - k) := by
      have e17 : 10 ^ (k - 1) * 10 ^ (18 - k) = 100000000000000000 := by
        rw [← Nat.pow_add]
        have : k - 1 + (18 - k) = 17 := by omega
        rw [this] <;> decide
      rw [← e17]
      exact Nat.mul_le_mul_right _ hRl
    have hdg : ∀ p, rdg (R * 10 ^ (18 - k)) (P - 1 - 17) p = rdg R (P - 1 - k + 1) p := by
      intro p
      have := rdg_scale (R := R) (j := 18 - k) (q := P - 1 - k + 1) (p := p) (by omega)
      have e1 : P - 1 - (k : Int) + 1 - ((18 - k : Nat) : Int) = P - 1 - 17 := by omega
      rw [e1] at this
      exact this
    obtain ⟨s5, v1, v2, v3⟩ := f125_190_eq (D := R * 10 ^ (18 - k)) (T := P - 1) ⟨hD2, hD1, by omega, by omega⟩ hdg hlo (by omega) (by rw [e7g]; exact congrArg zi (by omega)) hPg hl
    refine ⟨s5, N, L, H, P - 1, k, R, P - 1, lo, ?_, hE, hT, m2, t1, hlo, v2, (fsg.up rfl rfl).trans (v3.up rfl rfl)⟩
    rw [hbody, if_pos (by generalize R * 10 ^ (18 - k) = D at *; exact zlne (by omega))]
    exact v1
  · -- a power of ten
    have hD : R * 10 ^ (18 - k) = 1000000000000000000 := by rw [hR, e18]
    have hdg : ∀ p, rdg 100000000000000000 (P - 1 + 1 - 17) p = rdg R (P - 1 - k + 1) p := by
      intro p
      have h1 := rdg_scale (R := R) (j := 18 - k) (q := P - 1 - k + 1) (p := p) (by omega)
      have e1 : P - 1 - (k : Int) + 1 - ((18 - k : Nat) : Int) = P - 1 - 17 := by omega
      rw [e1, hD] at h1
      have h2 := rdg_scale (R := 100000000000000000) (j := 1) (q := P - 1 + 1 - 17) (p := p) (by omega)
      have e2 : P - 1 + 1 - 17 - ((1 : Nat) : Int) = P - 1 - 17 := by omega
      have e3 : 100000000000000000 * 10 ^ 1 = 1000000000000000000 := by decide
      rw [e2, e3] at h2
      rw [← h1, ← h2]
    have hlow2 : P - 1 + 1 - 17 ≤ lo := by
      apply Classical.byContradiction
      intro c
      apply hlo.2.1
      rw [← hdg lo]
      exact rdg_low (by omega)
    obtain ⟨s5, v1, v2, v3⟩ := f125_190_eq (D := 100000000000000000) (T := P - 1 + 1) ⟨by omega, by omega, by omega, by omega⟩ hdg hlo hlow2 (s := setI sg 19 7 (zi (P + 1))) (by show zi (P + 1) = _; exact congrArg zi (by omega)) (hPg.mv (A := [19]) (B := []) (fr.refl.sI (.inl rfl)) rfl rfl) hl
    refine ⟨s5, N, L, H, P - 1, k, R, P - 1 + 1, lo, ?_, hE, hT, m2, t1, hlo, v2, ((fsg.up rfl rfl).sI (.inl rfl)).trans (v3.up rfl rfl)⟩
    have e10 : zl ((1000000000000000000 : Nat) : Int) / zl 10 = zl ((100000000000000000 : Nat) : Int) := by decide +kernel
    rw [hbody, hD, if_neg (not_not_intro rfl), e10, e7g, zi_add]
    exact v1
