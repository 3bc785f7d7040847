/-! the class's Decimal: spread into digits -/
def SPD (s : zS) (y c : Nat) : Prop := s.1 16 3 = zi c ∧ (∀ i, i < c → s.1 18 i = zi (y / 10 ^ (c - 1 - i) % 10 : Nat)) ∧ y < 10 ^ c ∧ (c = 0 ∨ 10 ^ (c - 1) ≤ y)
theorem SPD.c_le {s : zS} {y c : Nat} (h : SPD s y c) (hy : y < 10 ^ 855) : c ≤ 855 := by
  rcases Nat.lt_or_ge 855 c with g | g
  · rcases h.2.2.2 with e | e
    · omega
    · have : 10 ^ 855 ≤ 10 ^ (c - 1) := Nat.pow_le_pow_right (by decide) (by omega)
      exact absurd (Nat.lt_of_lt_of_le hy (Nat.le_trans this e)) (Nat.lt_irrefl _)
  · exact g
theorem tens_ne {k : Nat} (hk : k < 19) : ¬ mTens k = zl 0 := by
  rw [mTens_eq k hk]
  have h1 := p_pos k
  have h2 := p18 (k := k) (by omega)
  generalize 10 ^ k = y at *
  exact zlne (by omega)
theorem tens_dig {x k : Nat} (hx : x < 1000000000) (hk : k ≤ 8) : zL2I (zremL (zl (x : Int) / mTens k) (zl 10)) = zi ((x / 10 ^ k % 10 : Nat) : Int) := by
  rw [mTens_eq k (by omega)]
  have h1 := p_pos k
  have h2 := p18 (k := k) (by omega)
  generalize 10 ^ k = y at *
  rw [zl_div (by omega) (by omega) (by omega) (by omega), ntdiv]
  have h3 : x / y ≤ x := Nat.div_le_self _ _
  generalize x / y = w at *
  rw [zl_rem (by omega) (by omega) (by omega) (by omega), zL2I_zl]
  rfl
theorem SPD.add {s : zS} {y c d : Nat} (h : SPD s y c) (hy : y < 10 ^ 855) (hd : d < 10) (hne : 0 < c ∨ 0 < d) : ∃ s', (∀ rec19 x1 x2 x3, f116_54 rec19 x1 x2 x3 (zi d) s = rec19 x1 x2 (x3 + zi (-1)) s') ∧ SPD s' (10 * y + d) (c + 1) ∧ fr [16, 18] [] s s' := by
  have hc := h.c_le hy
  refine ⟨setI (setB s 18 c (zi d)) 16 3 (zi (c + 1 : Nat)), fun rec19 x1 x2 x3 => ?_, ⟨rfl, fun i hi => ?_, ?_, ?_⟩, (fr.refl.sB rfl).sI (.inl rfl)⟩
  · unfold f116_54
    rw [h.1, if_pos (zi_ix (by omega) (by omega) (by omega)), zi_toNat (by omega), zI2B_2, zI2B_id (by omega) (by omega), zi_add]
    rfl
  · show upd (s.1 18) c (zi d) i = _
    by_cases e : i = c
    · rw [e, upd_eq]
      have e1 : c + 1 - 1 - c = 0 := by omega
      rw [e1, Nat.pow_zero, Nat.div_one]
      congr 2
      omega
    · rw [upd_ne e, h.2.1 i (by omega)]
      have e1 : c + 1 - 1 - i = (c - 1 - i) + 1 := by omega
      rw [e1, Nat.pow_succ, Nat.mul_comm (10 ^ (c - 1 - i)), ← Nat.div_div_eq_div_mul]
      have e2 : (10 * y + d) / 10 = y := by omega
      rw [e2]
  · have := h.2.2.1
    rw [Nat.pow_succ]
    omega
  · right
    show 10 ^ c ≤ 10 * y + d
    rcases h.2.2.2 with e | e
    · subst e
      rw [Nat.pow_zero]
      omega
    · rcases Nat.eq_zero_or_pos c with e0 | e0
      · subst e0
        rw [Nat.pow_zero]
        omega
      · have e1 : 10 ^ c = 10 ^ (c - 1) * 10 := by
          rw [← Nat.pow_succ]
          congr 1
          omega
        omega
theorem cutA_step (A e : Nat) : A / 10 ^ e = 10 * (A / 10 ^ (e + 1)) + A / 10 ^ e % 10 := by
  rw [Nat.pow_succ, ← Nat.div_div_eq_div_mul]
  omega
theorem f116_19_loop {A u : Nat} (hA : A < 10 ^ 855) (hu : u ≤ 96) {rec12 : Int32 → Int32 → zS → Option zS} {x1 : Int32} {j : Nat} (hj : j < u) : ∀ (k n : Nat) (s : zS) (c : Nat), k ≤ 9 → k < n → (∀ i, i < u → s.2.1 17 i = zl (lc A i : Nat)) → SPD s (A / 10 ^ (9 * j + k)) c →
    ∃ s' c', f116_19 rec12 n x1 (zi j) (zi (k - 1 : Int)) s = rec12 x1 (zi (j - 1 : Int)) s' ∧ SPD s' (A / 10 ^ (9 * j)) c' ∧ fr [16, 18] [] s s' := by
  intro k
  induction k with
  | zero =>
    intro n s c hk hn hz h
    obtain ⟨n, rfl⟩ : ∃ k, n = k + 1 := ⟨n - 1, by omega⟩
    refine ⟨s, c, ?_, h, fr.refl⟩
    show b116_19 rec12 (f116_19 rec12 n) _ _ _ _ = _
    unfold b116_19
    rw [if_pos (zlt (by omega)), zi_add]
    rfl
  | succ k ih =>
    intro n s c hk hn hz h
    obtain ⟨n, rfl⟩ : ∃ k, n = k + 1 := ⟨n - 1, by omega⟩
    have hl := lc_lt A j
    have hd : lc A j / 10 ^ k % 10 = A / 10 ^ (9 * j + k) % 10 := by
      unfold lc
      rw [dig9 _ (by omega), Nat.div_div_eq_div_mul, ← Nat.pow_add]
    have hdl : A / 10 ^ (9 * j + k) % 10 < 10 := Nat.mod_lt _ (by decide)
    have hst := cutA_step A (9 * j + k)
    have hyl : A / 10 ^ (9 * j + (k + 1)) < 10 ^ 855 := Nat.lt_of_le_of_lt (Nat.div_le_self _ _) hA
    have e5 : ((k + 1 : Nat) : Int) - 1 = k := by omega
    have e6 : zi (k : Int) + zi (-1) = zi ((k : Int) - 1) := by rw [zi_add]; rfl
    have hix1 : mIx (zi (j : Int)) 96 := zi_ix (by omega) (by omega) (by omega)
    have hix2 : mIx (zi (k : Int)) 19 := zi_ix (by omega) (by omega) (by omega)
    have ht : ¬ mTens (zi (k : Int)).toNatClampNeg = zl 0 := by rw [zi_toNat (by omega)]; exact tens_ne (by omega)
    have hdig : zL2I (zremL ((s.2.1 17 (zi (j : Int)).toNatClampNeg) / (mTens (zi (k : Int)).toNatClampNeg)) (zl 10)) = zi ((A / 10 ^ (9 * j + k) % 10 : Nat) : Int) := by
      rw [zi_toNat (by omega), zi_toNat (by omega), hz j hj, tens_dig hl (by omega), hd]
    have ebody : f116_19 rec12 (n + 1) x1 (zi j) (zi ((k + 1 : Nat) - 1 : Int)) s = if (s.1 16 3) > zi 0 then f116_54 (f116_19 rec12 n) x1 (zi j) (zi k) (zi ((A / 10 ^ (9 * j + k) % 10 : Nat) : Int)) s else if (zi ((A / 10 ^ (9 * j + k) % 10 : Nat) : Int)) ≤ zi 0 then f116_19 rec12 n x1 (zi j) (zi (k : Int) + zi (-1)) s else f116_54 (f116_19 rec12 n) x1 (zi j) (zi k) (zi ((A / 10 ^ (9 * j + k) % 10 : Nat) : Int)) s := by
      rw [e5]
      show b116_19 rec12 (f116_19 rec12 n) _ _ _ _ = _
      unfold b116_19
      rw [if_neg (znlt (by omega)), if_pos hix1, if_pos hix2, if_pos ht, hdig]
    rw [ebody, h.1]
    have hc := h.c_le hyl
    have eadd : 10 * (A / 10 ^ (9 * j + (k + 1))) + A / 10 ^ (9 * j + k) % 10 = A / 10 ^ (9 * j + k) := hst.symm
    by_cases q : 0 < c ∨ 0 < A / 10 ^ (9 * j + k) % 10
    · obtain ⟨s1, a1, a2, a3⟩ := h.add hyl hdl q
      rw [eadd] at a2
      obtain ⟨s', c', b1, b2, b3⟩ := ih n s1 (c + 1) (by omega) (by omega) (fun i hi => by rw [a3.l rfl]; exact hz i hi) a2
      refine ⟨s', c', ?_, b2, a3.trans b3⟩
      rw [a1, e6, b1]
      generalize A / 10 ^ (9 * j + k) % 10 = w at *
      by_cases q1 : 0 < c
      · rw [if_pos (zgt (by omega))]
      · rw [if_neg (zngt (by omega)), if_neg (znle (by omega))]
    · have h0 : A / 10 ^ (9 * j + k) % 10 = 0 := by omega
      have hc0 : c = 0 := by omega
      subst hc0
      have hy0 : A / 10 ^ (9 * j + (k + 1)) = 0 := by
        have := h.2.2.1
        rw [Nat.pow_zero] at this
        exact Nat.lt_one_iff.mp this
      have hy1 : A / 10 ^ (9 * j + k) = 0 := by
        rw [hst, h0]
        have e : A / 10 ^ (9 * j + k + 1) = 0 := hy0
        rw [e]
      rw [h0, if_neg (zngt (by omega)), if_pos (zle (by omega)), e6]
      obtain ⟨s', c', b1, b2, b3⟩ := ih n s 0 (by omega) (by omega) hz (by
        rw [hy1]
        rw [hy0] at h
        exact h)
      exact ⟨s', c', b1, b2, b3⟩
theorem f116_12_loop {A u : Nat} (hA : A < 10 ^ 855) (hu : u ≤ 96) {X : Int} (hX1 : -2000 ≤ X) (hX2 : X ≤ 0) : ∀ (k n : Nat) (s : zS) (c : Nat), k ≤ u → k < n → (∀ i, i < u → s.2.1 17 i = zl (lc A i : Nat)) → SPD s (A / 10 ^ (9 * k)) c →
    ∃ s' c', f116_12 n (zi X) (zi (k - 1 : Int)) s = some s' ∧ SPD s' A c' ∧ s'.1 16 4 = zi (if c' = 0 then 1 else c' + X) ∧ fr [16, 18] [] s s' := by
  intro k
  induction k with
  | zero =>
    intro n s c hk hn hz h
    obtain ⟨n, rfl⟩ : ∃ k, n = k + 1 := ⟨n - 1, by omega⟩
    rw [Nat.mul_zero, Nat.pow_zero, Nat.div_one] at h
    have hc := h.c_le hA
    have e0 : f116_12 (n + 1) (zi X) (zi ((0 : Nat) - 1 : Int)) s = if ¬ (s.1 16 3) = zi 0 then some (setI s 16 4 ((s.1 16 3) + zi X)) else some (setI s 16 4 (zi 1)) := by
      show b116_12 (f116_12 n) _ _ _ = _
      unfold b116_12
      rw [if_pos (zlt (by omega))]
    rw [e0, h.1]
    by_cases q : c = 0
    · subst q
      rw [if_neg (not_not_intro (zeq (by omega)))]
      exact ⟨_, 0, rfl, h, rfl, fr.refl.sI (.inl rfl)⟩
    · rw [if_pos (zne (by omega)), zi_add]
      refine ⟨_, c, rfl, h, ?_, fr.refl.sI (.inl rfl)⟩
      rw [if_neg q]
      rfl
  | succ k ih =>
    intro n s c hk hn hz h
    obtain ⟨n, rfl⟩ : ∃ k, n = k + 1 := ⟨n - 1, by omega⟩
    have e5 : ((k + 1 : Nat) : Int) - 1 = k := by omega
    have e8 : 9 * (k + 1) = 9 * k + 9 := by omega
    rw [e8] at h
    obtain ⟨s1, c1, a1, a2, a3⟩ := f116_19_loop (rec12 := f116_12 n) (x1 := zi X) hA hu (j := k) (by omega) 9 zF s c (by omega) (by unfold zF; omega) hz h
    obtain ⟨s', c', b1, b2, b3, b4⟩ := ih n s1 c1 (by omega) (by omega) (fun i hi => by rw [a3.l rfl]; exact hz i hi) a2
    refine ⟨s', c', ?_, b2, b3, a3.trans b4⟩
    rw [e5]
    show b116_12 (f116_12 n) _ _ _ = _
    unfold b116_12
    rw [if_neg (znlt (by omega))]
    exact a1.trans b1
theorem f116_eq {s : zS} {A u : Nat} (h : CL s A u) (hA : A < 10 ^ 855) {X : Int} (hX1 : -2000 ≤ X) (hX2 : X ≤ 0) : ∃ s' c, f116 (zi X) s = some s' ∧ SPD s' A c ∧ s'.1 16 4 = zi (if c = 0 then 1 else c + X) ∧ fr [16, 18] [] s s' := by
  obtain ⟨h1, h2, h3, h4, h5⟩ := h
  unfold f116
  rw [h1, zi_sub]
  obtain ⟨s', c', b1, b2, b3, b4⟩ := f116_12_loop hA h2 hX1 hX2 u zF (setI s 16 3 (zi 0)) 0 (Nat.le_refl _) (by unfold zF; omega) h3 ⟨rfl, fun i hi => by omega, by rw [Nat.div_eq_of_lt h4]; decide, .inl rfl⟩
  exact ⟨s', c', b1, b2, b3, (fr.refl.sI (.inl rfl)).trans b4⟩
/-! the whole load -/
theorem dgN_units {A : Nat} {X p : Int} (hX : -3780 ≤ X) : dgN (A * 10 ^ (3780 + X).toNat) p = rdg A X p := by
  unfold dgN rdg
  by_cases c1 : p < -3780
  · rw [if_pos c1, if_pos (by omega)]
  · rw [if_neg c1]
    by_cases c2 : p < X
    · rw [if_pos c2]
      have e1 : (3780 + X).toNat = (3780 + p).toNat + ((X - p).toNat - 1) + 1 := by omega
      rw [e1, Nat.pow_succ, Nat.pow_add, Nat.mul_left_comm, Nat.mul_assoc, Nat.mul_div_cancel_left _ (p_pos _), ← Nat.mul_assoc, Nat.mul_mod_left]
    · rw [if_neg c2]
      have e1 : (3780 + p).toNat = (3780 + X).toNat + (p - X).toNat := by omega
      rw [e1, Nat.pow_add, ← Nat.div_div_eq_div_mul, Nat.mul_div_cancel _ (p_pos _)]
def CD (s : zS) (N : Nat) (P : Int) (cnt : Nat) : Prop := s.1 16 4 = zi P ∧ s.1 16 3 = zi cnt ∧ cnt ≤ 855 ∧ (∀ i : Nat, i < cnt → s.1 18 i = zi (dgN N (P - 1 - i) : Nat)) ∧ (∀ p, p < P - cnt → dgN N p = 0) ∧ ((N = 0 ∧ cnt = 0 ∧ P = 1) ∨ (topN N (P - 1) ∧ 1 ≤ cnt)) ∧ -2000 ≤ P ∧ P ≤ 2000
theorem CD.of {s : zS} {A c : Nat} {X : Int} (h : SPD s A c) (hA : A < 10 ^ 855) (hX1 : -1100 ≤ X) (hX2 : X ≤ 0) (h4 : s.1 16 4 = zi (if c = 0 then 1 else c + X)) : CD s (A * 10 ^ (3780 + X).toNat) (if c = 0 then 1 else c + X) c := by
  have hc := h.c_le hA
  obtain ⟨g1, g2, g3, g4⟩ := h
  refine ⟨h4, g1, hc, fun i hi => ?_, fun p hp => ?_, ?_, by split <;> omega, by split <;> omega⟩
  · rw [if_neg (by omega), g2 i hi, dgN_units (by omega)]
    unfold rdg
    rw [if_neg (by omega)]
    congr 5
    omega
  · rw [dgN_units (by omega)]
    by_cases q : c = 0
    · subst q
      rw [Nat.pow_zero] at g3
      rw [Nat.lt_one_iff.mp g3]
      unfold rdg
      rw [Nat.zero_div]
      split <;> rfl
    · rw [if_neg q] at hp
      unfold rdg
      rw [if_pos (by omega)]
  · by_cases q : c = 0
    · subst q
      rw [Nat.pow_zero] at g3
      rw [Nat.lt_one_iff.mp g3, Nat.zero_mul]
      exact .inl ⟨rfl, rfl, rfl⟩
    · right
      rw [if_neg q]
      refine ⟨⟨by omega, ?_, ?_⟩, by omega⟩
      · have e1 : (3780 + ((c : Int) + X - 1)).toNat = (c - 1) + (3780 + X).toNat := by omega
        rw [e1, Nat.pow_add]
        exact Nat.mul_le_mul_right _ (g4.resolve_left q)
      · have e1 : (3781 + ((c : Int) + X - 1)).toNat = c + (3780 + X).toNat := by omega
        rw [e1, Nat.pow_add]
        exact Nat.mul_lt_mul_of_pos_right g3 (p_pos _)
theorem bigA : 9223372036854775808 * 5 ^ 1100 < 10 ^ 855 := by decide +kernel
theorem bigB : 9223372036854775808 * 2 ^ 1000 < 10 ^ 855 := by decide +kernel
theorem f113_eq {M : Nat} (hM : M < 9223372036854775808) {X : Int} (hX1 : -1100 ≤ X) (hX2 : X < 1000) (s : zS) : ∃ s' N P cnt, f113 (zl M) (zi X) s = some s' ∧ CD s' N P cnt ∧ SV N M X ∧ fr [16, 17, 18] [] s s' := by
  obtain ⟨M', j, a1, a2, a3⟩ := f113_9_loop (x3 := zi X) (s := s) 64 0 zF M X (by omega) (by unfold zF; omega) hM (by omega) (by omega)
  have a1 : f113_9 zF (zi X) (zl (M : Int)) (zi X) (zi 0) s = f113_65 zF (zi (X + j)) (zl (M' : Int)) (setI s 16 1 (zi 0)) := a1
  have hM' : M' ≤ M := by
    rw [a2]
    exact Nat.le_mul_of_pos_right _ (Nat.pow_pos (by decide))
  obtain ⟨s1, u1, b1, b2, b3⟩ := f113_65_loop (M := M') (by omega) (x6 := zi (X + j)) 3 0 zF (setI s 16 1 (zi 0)) (by omega) (by unfold zF; omega) rfl (fun i hi => by omega) (.inl rfl)
  rw [Nat.mul_zero, Nat.pow_zero, Nat.div_one] at b1
  have b3' : fr [16, 17, 18] [] s s1 := ((fr.refl.sI (.inl rfl)).trans b3).up rfl rfl
  by_cases q : 0 ≤ X + j
  · obtain ⟨Y, hY⟩ : ∃ Y : Nat, X + j = Y := ⟨(X + j).toNat, by omega⟩
    have hF : M' * 2 ^ Y < 10 ^ 855 := by
      refine Nat.lt_of_le_of_lt ?_ bigB
      exact Nat.mul_le_mul (by omega) (Nat.pow_le_pow_right (by decide) (by omega))
    obtain ⟨s2, u2, c1, c2, c3⟩ := f113_149_loop (b := 2) (ck := 30) (.inl ⟨rfl, rfl⟩) (X := X + j) (by omega) (by omega) hF Y zF s1 M' u1 (by unfold zF; omega) (by omega) b2 rfl
    obtain ⟨s3, c, d1, d2, d3, d4⟩ := f116_eq c2 hF (X := min (X + j) 0) (by omega) (by omega)
    have e0 : min (X + (j : Int)) 0 = 0 := by omega
    rw [e0] at d3
    have hcd := CD.of d2 hF (X := 0) (by omega) (by omega) d3
    refine ⟨s3, _, _, c, ?_, hcd, ?_, (b3'.trans (c3.up rfl rfl)).trans (d4.up rfl rfl)⟩
    · unfold f113
      rw [a1, b1]
      unfold f113_116
      rw [if_pos (zge (by omega))]
      unfold f113_126
      rw [if_pos (zge (by omega))]
      unfold f113_140 r263
      rw [if_pos (zge (by omega)), hY]
      rw [hY] at c1 d1
      exact c1.trans (by rw [d1]; rfl)
    · have := (SV.up (N := M' * 2 ^ Y * 10 ^ (3780 + (0 : Int)).toNat) (M := M') (b0 := Y) rfl).shift j
      rw [← a2] at this
      have e9 : (Y : Int) - j = X := by omega
      rw [e9] at this
      exact this
  · obtain ⟨Y, hY⟩ : ∃ Y : Nat, X + j = -(Y : Int) := ⟨(-(X + j)).toNat, by omega⟩
    have hF : M' * 5 ^ Y < 10 ^ 855 := by
      refine Nat.lt_of_le_of_lt ?_ bigA
      exact Nat.mul_le_mul (by omega) (Nat.pow_le_pow_right (by decide) (by omega))
    obtain ⟨s2, u2, c1, c2, c3⟩ := f113_149_loop (b := 5) (ck := 13) (.inr ⟨rfl, rfl⟩) (X := X + j) (by omega) (by omega) hF Y zF s1 M' u1 (by unfold zF; omega) (by omega) b2 rfl
    obtain ⟨s3, c, d1, d2, d3, d4⟩ := f116_eq c2 hF (X := min (X + j) 0) (by omega) (by omega)
    have e0 : min (X + (j : Int)) 0 = -(Y : Int) := by omega
    rw [e0] at d3
    have hcd := CD.of d2 hF (X := -(Y : Int)) (by omega) (by omega) d3
    refine ⟨s3, _, _, c, ?_, hcd, ?_, (b3'.trans (c3.up rfl rfl)).trans (d4.up rfl rfl)⟩
    · unfold f113
      rw [a1, b1]
      unfold f113_116
      rw [if_neg (znge (by omega))]
      unfold f113_126
      rw [if_neg (znge (by omega))]
      unfold f113_140 r263
      rw [if_neg (znge (by omega)), zi_neg]
      have e7 : -(X + (j : Int)) = Y := by omega
      rw [e7]
      exact c1.trans (by rw [d1]; rfl)
    · have hs : SV (M' * 5 ^ Y * 10 ^ (3780 + -(Y : Int)).toNat) M' (-(Y : Int)) := by
        refine SV.dn ?_
        have e1 : (10 : Nat) ^ 3780 = 5 ^ Y * 2 ^ Y * 10 ^ (3780 + -(Y : Int)).toNat := by
          have e9 : Y + (3780 + -(Y : Int)).toNat = 3780 := by omega
          rw [← Nat.mul_pow]
          show 10 ^ 3780 = 10 ^ Y * 10 ^ (3780 + -(Y : Int)).toNat
          rw [← Nat.pow_add, e9]
        rw [e1]
        generalize 10 ^ (3780 + -(Y : Int)).toNat = P
        rw [Nat.mul_right_comm, Nat.mul_assoc M', ← Nat.mul_assoc M' (5 ^ Y * 2 ^ Y)]
      have := hs.shift j
      rw [← a2] at this
      have e9 : -(Y : Int) - j = X := by omega
      rw [e9] at this
      exact this
