/-! the shortest decimal: how the class finds it -/
theorem rdg_dgN (N : Nat) (p : Int) : rdg N (-3780) p = dgN N p := by
  unfold rdg dgN
  have e : (p - -3780).toNat = (3780 + p).toNat := by omega
  rw [e]
theorem CD.mv {A B : List Nat} {s s' : zS} {N : Nat} {P : Int} {cnt : Nat} (h : fr A B s s') (hD : CD s N P cnt) (c1 : A.contains 16 = false) (c2 : A.contains 18 = false) : CD s' N P cnt := by
  obtain ⟨h1, h2, h3, h4, h5⟩ := hD
  refine ⟨?_, ?_, h3, fun i hi => ?_, h5⟩
  · rw [h.f c1 (by decide)]
    exact h1
  · rw [h.f c1 (by decide)]
    exact h2
  · rw [h.f c2 (by decide)]
    exact h4 i hi
theorem CD.cr {s : zS} {N : Nat} {P : Int} {cnt : Nat} (h : CD s N P cnt) : CR s N (-3780) P cnt := by
  obtain ⟨h1, h2, h3, h4, h5, h6, h7, h8⟩ := h
  refine ⟨h1, h2, by omega, fun i hi => ?_, fun p hp => ?_, fun p hp => ?_, ?_, by omega, by omega⟩
  · rw [rdg_dgN]
    exact h4 i hi
  · rw [rdg_dgN]
    exact h5 p hp
  · rw [rdg_dgN]
    rcases h6 with ⟨h, _⟩ | ⟨h, _⟩
    · rw [h]
      exact dgN_zero p
    · exact dgN_top h (by omega)
  · rcases h6 with ⟨g1, _, g2⟩ | ⟨g, _⟩
    · exact .inl ⟨g1, g2⟩
    · have g0 := top_ne g
      obtain ⟨g1, g2, g3⟩ := g
      refine .inr ⟨g0, by omega, ?_, ?_⟩
      · have e : (P - 1 - -3780).toNat = (3780 + (P - 1)).toNat := by omega
        rw [e]
        exact g2
      · have e : (P - -3780).toNat = (3781 + (P - 1)).toNat := by omega
        rw [e]
        exact g3
theorem CD.dig {s : zS} {N : Nat} {P : Int} {cnt : Nat} (h : CD s N P cnt) {i : Int} (h1 : -100000 ≤ i) (h2 : i ≤ 100000) : f118 (zi i) s = some (zi (dgN N (P - 1 - i) : Nat), s) := by
  rw [h.cr.dig h1 h2, rdg_dgN]
theorem r123_eq {s : zS} {P pt : Int} (h4 : s.1 16 4 = zi P) (hP : -5000 ≤ P) (hP2 : P ≤ 5000) (hp : -5000 ≤ pt) (hp2 : pt ≤ 5000) (h0 : 0 ≤ 18 - pt + P) (h19 : 18 - pt + P ≤ 19) : r123 (zi pt) s = zi (18 - pt + P) := by
  unfold r123
  rw [h4, zi_sub, zi_add, r264_max (by omega) (by omega) (by omega) (by omega), r265_min (by omega) (by omega) (by omega) (by omega)]
  exact congrArg zi (by omega)
theorem f121_loop {s : zS} {N : Nat} {P pt : Int} {cnt K : Nat} (h : CD s N P cnt) (hK : r123 (zi pt) s = zi K) (hK2 : K ≤ 19) : ∀ (d i n : Nat), d + i = K → d < n → f121_5 n (zi pt) (zl ((N / 10 ^ (3780 + P - i).toNat : Nat) : Int)) (zi i) s = some (zl ((N / 10 ^ (3780 + P - K).toNat : Nat) : Int), s) := by
  have hP := h.2.2.2.2.2.2
  intro d
  induction d with
  | zero =>
    intro i n hd hn
    obtain ⟨n, rfl⟩ : ∃ k, n = k + 1 := ⟨n - 1, by omega⟩
    have hi : i = K := by omega
    subst hi
    show b121_5 (f121_5 n) _ _ _ _ = _
    unfold b121_5
    rw [hK, if_pos (zge (by omega))]
  | succ d ih =>
    intro i n hd hn
    obtain ⟨n, rfl⟩ : ∃ k, n = k + 1 := ⟨n - 1, by omega⟩
    have hdl := dgN_lt N (P - 1 - i)
    have ed : dgN N (P - 1 - i) = N / 10 ^ (3780 + P - ((i + 1 : Nat) : Int)).toNat % 10 := by
      unfold dgN
      rw [if_neg (by omega)]
      have e : (3780 + (P - 1 - (i : Int))).toNat = (3780 + P - ((i + 1 : Nat) : Int)).toNat := by omega
      rw [e]
    have est := cutA_step N (3780 + P - ((i + 1 : Nat) : Int)).toNat
    have e2 : (3780 + P - ((i + 1 : Nat) : Int)).toNat + 1 = (3780 + P - (i : Int)).toNat := by omega
    rw [e2, ← ed] at est
    have ev : zl ((N / 10 ^ (3780 + P - (i : Int)).toNat : Nat) : Int) * zl 10 + zI2L (zi ((dgN N (P - 1 - i) : Nat) : Int)) = zl ((N / 10 ^ (3780 + P - ((i + 1 : Nat) : Int)).toNat : Nat) : Int) := by
      rw [zI2L_zi (by omega) (by omega), zl_mul, zl_add, est]
      generalize N / 10 ^ (3780 + P - (i : Int)).toNat = y
      exact congrArg zl (by omega)
    have ei : zi (i : Int) + zi 1 = zi ((i + 1 : Nat) : Int) := zi_add _ _
    show b121_5 (f121_5 n) _ _ _ _ = _
    unfold b121_5
    rw [hK, if_neg (znge (by omega)), h.dig (by omega) (by omega), zb1_mk, ev, ei]
    exact ih (i + 1) n (by omega) (by omega)
theorem CD.lt {s : zS} {N : Nat} {P : Int} {cnt : Nat} (h : CD s N P cnt) : N < 10 ^ (3780 + P).toNat := by
  obtain ⟨h1, h2, h3, h4, h5, h6, h7, h8⟩ := h
  rcases h6 with ⟨g1, _, g2⟩ | ⟨g, _⟩
  · rw [g1]
    exact p_pos _
  · have e : (3781 + (P - 1)).toNat = (3780 + P).toNat := by omega
    have := g.2.2
    rw [e] at this
    exact this
theorem f121_eq {s : zS} {N : Nat} {P pt : Int} {cnt : Nat} (h : CD s N P cnt) (hp : -3000 ≤ pt) (hp2 : pt ≤ 3000) (h0 : 0 ≤ 18 - pt + P) (h19 : 18 - pt + P ≤ 19) : f121 (zi pt) s = some (zl ((N / 10 ^ (3762 + pt).toNat : Nat) : Int), s) := by
  have hP := h.2.2.2.2.2.2
  have hK := r123_eq h.1 (by omega) (by omega) (by omega) (by omega) h0 h19
  obtain ⟨K, hKe⟩ : ∃ K : Nat, (K : Int) = 18 - pt + P := ⟨(18 - pt + P).toNat, by omega⟩
  rw [← hKe] at hK
  have e := f121_loop h hK (by omega) K 0 zF (by omega) (by unfold zF; omega)
  have e0 : N / 10 ^ (3780 + P - ((0 : Nat) : Int)).toNat = 0 := by
    have : (3780 + P - ((0 : Nat) : Int)).toNat = (3780 + P).toNat := by omega
    rw [this]
    exact Nat.div_eq_of_lt h.lt
  have e1 : (3780 + P - (K : Int)).toNat = (3762 + pt).toNat := by omega
  rw [e0, e1] at e
  exact e
theorem mod_zero {N : Nat} : ∀ k, (∀ j, j < k → N / 10 ^ j % 10 = 0) → N % 10 ^ k = 0
  | 0, _ => by rw [Nat.pow_zero, Nat.mod_one]
  | k + 1, h => by
    rw [dg_step, h k (by omega), mod_zero k (fun j hj => h j (by omega))]
    rfl
theorem f122_loop {s : zS} {N : Nat} {P : Int} {cnt : Nat} (h : CD s N P cnt) {x1 : Int32} : ∀ (d i n : Nat), d = cnt - i → d < n → i ≤ 1000 → f122_6 n x1 (zi i) s = some (zi (if N % 10 ^ (3780 + P - i).toNat = 0 then 0 else 1), s) := by
  obtain ⟨h1, h2, h3, h4, h5, h6, h7, h8⟩ := h
  have h : CD s N P cnt := ⟨h1, h2, h3, h4, h5, h6, h7, h8⟩
  intro d
  induction d with
  | zero =>
    intro i n hd hn hi
    obtain ⟨n, rfl⟩ : ∃ k, n = k + 1 := ⟨n - 1, by omega⟩
    have hz : N % 10 ^ (3780 + P - (i : Int)).toNat = 0 := by
      apply mod_zero
      intro j hj
      have := h5 ((j : Int) - 3780) (by omega)
      unfold dgN at this
      rw [if_neg (by omega)] at this
      have e : (3780 + ((j : Int) - 3780)).toNat = j := by omega
      rw [e] at this
      exact this
    rw [if_pos hz]
    show b122_6 (f122_6 n) _ _ _ = _
    unfold b122_6
    rw [h2, if_pos (zge (by omega))]
  | succ d ih =>
    intro i n hd hn hi
    obtain ⟨n, rfl⟩ : ∃ k, n = k + 1 := ⟨n - 1, by omega⟩
    have hdl := dgN_lt N (P - 1 - i)
    have ed : dgN N (P - 1 - i) = N / 10 ^ (3780 + P - ((i + 1 : Nat) : Int)).toNat % 10 := by
      unfold dgN
      rw [if_neg (by omega)]
      have e : (3780 + (P - 1 - (i : Int))).toNat = (3780 + P - ((i + 1 : Nat) : Int)).toNat := by omega
      rw [e]
    have est := dg_step N (3780 + P - ((i + 1 : Nat) : Int)).toNat
    have e2 : (3780 + P - ((i + 1 : Nat) : Int)).toNat + 1 = (3780 + P - (i : Int)).toNat := by omega
    rw [e2, ← ed] at est
    have ei : zi (i : Int) + zi 1 = zi ((i + 1 : Nat) : Int) := zi_add _ _
    show b122_6 (f122_6 n) _ _ _ = _
    unfold b122_6
    rw [h2, if_neg (znge (by omega)), h.dig (by omega) (by omega), zb1_mk]
    by_cases c : dgN N (P - 1 - i) = 0
    · rw [c, Nat.mul_zero] at est
      have est' : N % 10 ^ (3780 + P - (i : Int)).toNat = N % 10 ^ (3780 + P - ((i + 1 : Nat) : Int)).toNat := est
      rw [if_pos (by rw [c]; rfl), ei, ih (i + 1) n (by omega) (by omega) (by omega), est']
    · rw [if_neg (zne (by omega)), if_neg]
      rw [est]
      have hp := p_pos (3780 + P - ((i + 1 : Nat) : Int)).toNat
      have : 0 < 10 ^ (3780 + P - ((i + 1 : Nat) : Int)).toNat * dgN N (P - 1 - i) := Nat.mul_pos hp (by omega)
      omega
theorem f122_eq {s : zS} {N : Nat} {P pt : Int} {cnt : Nat} (h : CD s N P cnt) (hp : -3000 ≤ pt) (hp2 : pt ≤ 3000) (h0 : 0 ≤ 18 - pt + P) (h19 : 18 - pt + P ≤ 19) : f122 (zi pt) s = some (zi (if N % 10 ^ (3762 + pt).toNat = 0 then 0 else 1), s) := by
  have hP := h.2.2.2.2.2.2
  have hK := r123_eq h.1 (by omega) (by omega) (by omega) (by omega) h0 h19
  obtain ⟨K, hKe⟩ : ∃ K : Nat, (K : Int) = 18 - pt + P := ⟨(18 - pt + P).toNat, by omega⟩
  rw [← hKe] at hK
  have hc := h.2.2.1
  have e := f122_loop h (x1 := zi pt) (cnt - K) K zF rfl (by unfold zF; omega) (by omega)
  have e1 : (3780 + P - (K : Int)).toNat = (3762 + pt).toNat := by omega
  rw [e1] at e
  unfold f122
  rw [hK]
  exact e
/-! the heads -/
def bz (x : Nat) : Int := if x = 0 then 0 else 1
/-- what Shortest holds -/
def HD (s : zS) (N L H u : Nat) (e : Int) : Prop := s.2.1 19 0 = zl ((N / u : Nat) : Int) ∧ s.1 19 1 = zi (bz (N % u)) ∧ s.2.1 19 2 = zl ((L / u : Nat) : Int) ∧ s.1 19 3 = zi (bz (L % u)) ∧ s.2.1 19 4 = zl ((H / u : Nat) : Int) ∧ s.1 19 5 = zi (bz (H % u)) ∧ s.1 19 6 = zi e ∧ 0 < u ∧ N / u < 1000000000000000000 ∧ L / u < 1000000000000000000 ∧ H / u < 4000000000000000000
theorem bz_ne {x : Nat} : (zi (bz x) = zi 0) ↔ x = 0 := by
  unfold bz
  by_cases c : x = 0
  · rw [if_pos c]
    exact ⟨fun _ => c, fun _ => rfl⟩
  · rw [if_neg c]
    exact ⟨fun h => absurd h (zne (by omega)), fun h => absurd h c⟩
theorem r127_eq {s : zS} {N L H u : Nat} {e : Int} (h : HD s N L H u e) (he : e = 0 ∨ e = 1) {x : Nat} (hx : x ≤ 1000000000000000000) : r127 (zl x) s = zi (if (L < x * u ∨ (e = 1 ∧ L = x * u)) then 1 else 0) := by
  obtain ⟨h0, h1, h2, h3, h4, h5, h6, hu, b1, b2, b3⟩ := h
  have hdm := Nat.div_add_mod L u
  have hm := Nat.mod_lt L hu
  rw [Nat.mul_comm] at hdm
  have k1 : L / u < x ↔ L < x * u := Nat.div_lt_iff_lt_mul hu
  have k2 : L = x * u → x = L / u := fun g => by rw [g]; exact (Nat.mul_div_cancel _ hu).symm
  unfold r127
  rw [h2, h3, h6]
  clear h0 h1 h2 h3 h4 h5 h6 b1 b3
  generalize L / u = y at *
  by_cases c1 : y < x
  · rw [if_pos (zlgt (by omega)), if_pos (.inl (k1.mp c1))]
  · rw [if_neg (zlngt (by omega))]
    have hn : ¬ L < x * u := fun g => c1 (k1.mpr g)
    by_cases c2 : x = y
    · rw [if_neg (not_not_intro (by rw [c2]))]
      rw [← c2] at hdm
      rcases he with rfl | rfl
      · rw [if_pos rfl, if_neg (by omega)]
      · rw [if_neg (show ¬ zi 1 = zi 0 from zne (by omega))]
        by_cases c3 : L % u = 0
        · rw [if_neg (not_not_intro (bz_ne.mpr c3)), if_pos (.inr ⟨rfl, by omega⟩)]
        · rw [if_pos (fun g => c3 (bz_ne.mp g)), if_neg]
          intro g
          rcases g with g | g
          · exact hn g
          · omega
    · rw [if_pos (zlne (by omega)), if_neg]
      intro g
      rcases g with g | g
      · exact hn g
      · exact c2 (k2 g.2)
theorem r128_eq {s : zS} {N L H u : Nat} {e : Int} (h : HD s N L H u e) (he : e = 0 ∨ e = 1) {x : Nat} (hx : x ≤ 1000000000000000000) : r128 (zl x) s = zi (if (x * u < H ∨ (e = 1 ∧ x * u = H)) then 1 else 0) := by
  obtain ⟨h0, h1, h2, h3, h4, h5, h6, hu, b1, b2, b3⟩ := h
  have hdm := Nat.div_add_mod H u
  have hm := Nat.mod_lt H hu
  rw [Nat.mul_comm] at hdm
  unfold r128
  rw [h4, h5, h6]
  clear h0 h1 h2 h3 h4 h5 h6 b1 b2
  generalize H / u = y at *
  by_cases c1 : x < y
  · have g1 : (x + 1) * u ≤ y * u := Nat.mul_le_mul_right _ c1
    rw [Nat.add_mul, Nat.one_mul] at g1
    rw [if_pos (zllt (by omega)), if_pos (.inl (by omega))]
  · rw [if_neg (zlnlt (by omega))]
    by_cases c2 : x = y
    · rw [if_neg (not_not_intro (by rw [c2]))]
      rw [← c2] at hdm
      rcases he with rfl | rfl
      · rw [if_neg (not_not_intro rfl)]
        by_cases c3 : H % u = 0
        · rw [if_pos (bz_ne.mpr c3), if_neg (by omega)]
        · rw [if_neg (fun g => c3 (bz_ne.mp g)), if_pos (.inl (by omega))]
      · rw [if_pos (show ¬ zi 1 = zi 0 from zne (by omega)), if_pos]
        by_cases c3 : H % u = 0
        · exact .inr ⟨rfl, by omega⟩
        · exact .inl (by omega)
    · have g1 : (y + 1) * u ≤ x * u := Nat.mul_le_mul_right _ (by omega)
      rw [Nat.add_mul, Nat.one_mul] at g1
      rw [if_pos (zlne (by omega)), if_neg (by omega)]
/-! nearer -/
theorem f129_eq {s : zS} {N L H u : Nat} {e : Int} (h : HD s N L H u e) {c : Nat} (hc : 2 ≤ c) (hc2 : c % 2 = 0) (hc3 : c ≤ 100000000000000000) {B : Nat} (hB : B = N / (u * c)) {A : Nat} (hA : A = (B + 1) * c ∨ (A = B * c ∧ N % (u * c) = 0)) : f129 (zl ((B * c : Nat) : Int)) (zl (A : Int)) (zl (c : Int)) s = some (zl ((near N (u * c) * c : Nat) : Int), s) := by
  obtain ⟨h0, h1, h2, h3, h4, h5, h6, hu, b1, b2, b3⟩ := h
  have hBv : B = N / u / c := by rw [hB, Nat.div_div_eq_div_mul]
  have hdm := Nat.div_add_mod (N / u) c
  rw [Nat.mul_comm, ← hBv] at hdm
  have hr := Nat.mod_lt (N / u) (show 0 < c by omega)
  have hmm : N % (u * c) = N % u + u * (N / u % c) := Nat.mod_mul
  have hr0 := Nat.mod_lt N hu
  have e2 : zl 2 * (zl ((N / u : Nat) : Int) - zl ((B * c : Nat) : Int)) = zl ((2 * (N / u % c) : Nat) : Int) := by
    rw [zl_sub, zl_mul]
    refine congrArg zl ?_
    generalize B * c = y at *
    omega
  unfold f129 f129_46
  rw [h0, h1, e2]
  have hnear : near N (u * c) = if 2 * (N % (u * c)) < u * c then B else if 2 * (N % (u * c)) = u * c ∧ B % 2 = 0 then B else B + 1 := by
    unfold near
    rw [hB]
  generalize N / u % c = r at *
  have eA : (B + 1) * c = B * c + c := by rw [Nat.add_mul, Nat.one_mul]
  by_cases c1 : 2 * r < c
  · have g1 : u * (2 * r + 2) ≤ u * c := Nat.mul_le_mul_left _ (by omega)
    have g2 : u * (2 * r + 2) = 2 * (u * r) + 2 * u := by rw [Nat.mul_add, Nat.mul_left_comm, Nat.mul_comm u 2]
    rw [if_pos (by generalize u * r = z at *; omega)] at hnear
    rw [if_pos (zlne (by omega)), if_pos (zllt (by omega)), hnear]
  · have hA' : A = (B + 1) * c := by
      rcases hA with g | ⟨_, g⟩
      · exact g
      · exfalso
        have : u * r = 0 := by generalize u * r = z at *; omega
        rcases Nat.mul_eq_zero.mp this with g | g <;> omega
    by_cases c2 : 2 * r = c
    · have g1 : u * c = 2 * (u * r) := by rw [← c2, Nat.mul_left_comm]
      rw [if_neg (not_not_intro (by rw [c2]))]
      rw [if_neg (by generalize u * r = z at *; omega)] at hnear
      by_cases c3 : N % u = 0
      · rw [if_neg (not_not_intro (bz_ne.mpr c3)), if_pos (zlne (by omega))]
        have ed : zremL (zl ((B * c : Nat) : Int) / zl (c : Int)) (zl 2) = zl ((B % 2 : Nat) : Int) := by
          have hBl : B * c ≤ N / u := by generalize B * c = y at *; omega
          have hBB : B ≤ B * c := Nat.le_mul_of_pos_right _ (by omega)
          rw [zl_div (by omega) (by omega) (by omega) (by omega), ntdiv, Nat.mul_div_cancel _ (by omega), zl_rem (by omega) (by omega) (by omega) (by omega)]
          rfl
        rw [ed]
        by_cases c4 : B % 2 = 0
        · rw [if_pos ⟨by generalize u * r = z at *; omega, c4⟩] at hnear
          rw [c4, if_neg zl00, hnear]
        · rw [if_neg (fun g => c4 g.2)] at hnear
          rw [if_pos (zlne (by omega)), hnear, hA']
      · rw [if_neg (fun g => by generalize u * r = z at *; omega)] at hnear
        rw [if_pos (fun g => c3 (bz_ne.mp g)), if_neg (zlnlt (by omega)), hnear, hA']
    · have g1 : u * (c + 1) ≤ u * (2 * r) := Nat.mul_le_mul_left _ (by omega)
      have g2 : u * (2 * r) = 2 * (u * r) := Nat.mul_left_comm _ _ _
      rw [Nat.mul_add, Nat.mul_one] at g1
      rw [if_neg (by generalize u * r = z at *; omega), if_neg (fun g => by generalize u * r = z at *; omega)] at hnear
      rw [if_pos (zlne (by omega)), if_neg (zlnlt (by omega)), hnear, hA']
/-! the search -/
theorem ten_c {n : Nat} (h1 : 2 ≤ n) (h2 : n ≤ 17) : 2 ≤ 10 ^ (18 - n) ∧ 10 ^ (18 - n) % 2 = 0 ∧ 10 ^ (18 - n) ≤ 100000000000000000 ∧ 10 ^ (18 - n) ≤ 10000000000000000 := by
  have e : 10 ^ (18 - n) = 10 ^ (17 - n) * 10 := by
    rw [← Nat.pow_succ]
    exact congrArg (10 ^ ·) (by omega)
  have hp := p_pos (17 - n)
  have hle : 10 ^ (17 - n) ≤ 10 ^ 15 := Nat.pow_le_pow_right (by decide) (by omega)
  have e15 : (10 : Nat) ^ 15 = 1000000000000000 := by decide
  omega
theorem f126_at {s : zS} {N L H u : Nat} {e : Int} (h : HD s N L H u e) (he : e = 0 ∨ e = 1) {n c : Nat} (h1 : 2 ≤ n) (h2 : n < 17) (hcn : c = 10 ^ (18 - n)) :
    (∃ R, (∀ rc, b126_2 rc (zi n) s = some (zl ((R * c : Nat) : Int), s)) ∧ PK N L H (u * c) (e = 1) R) ∨ ((∀ rc, b126_2 rc (zi n) s = rc (zi ((n + 1 : Nat) : Int)) s) ∧ NP N L H (u * c) (e = 1)) := by
  obtain ⟨t1, t2, t3, t4⟩ := ten_c (n := n) (by omega) (by omega)
  rw [← hcn] at t1 t2 t3 t4
  have h' := h
  obtain ⟨h0, h1', h2', h3, h4, h5, h6, hu, b1, b2, b3⟩ := h'
  obtain ⟨B, hB⟩ : ∃ B, B = N / (u * c) := ⟨_, rfl⟩
  have hBv : B = N / u / c := by rw [hB, Nat.div_div_eq_div_mul]
  have hdm := Nat.div_add_mod (N / u) c
  rw [Nat.mul_comm, ← hBv] at hdm
  have hr := Nat.mod_lt (N / u) (show 0 < c by omega)
  have hmm : N % (u * c) = N % u + u * (N / u % c) := Nat.mod_mul
  have eA : (B + 1) * c = B * c + c := by rw [Nat.add_mul, Nat.one_mul]
  have hBc : B * c ≤ N / u := by generalize B * c = y at *; omega
  have hAc : (B + 1) * c ≤ 1000000000000000000 := by
    have e18 : (1000000000000000000 : Nat) = 10 ^ n * c := by
      rw [hcn, ← Nat.pow_add]
      have : n + (18 - n) = 18 := by omega
      rw [this] <;> decide
    rw [e18]
    apply Nat.mul_le_mul_right
    rw [e18] at b1
    have : N / u / c < 10 ^ n := Nat.div_lt_of_lt_mul (by rw [Nat.mul_comm]; exact b1)
    omega
  have em : (zi 18 - zi (n : Int)).toNatClampNeg = 18 - n := by
    rw [zi_sub]
    have : (18 : Int) - n = ((18 - n : Nat) : Int) := by omega
    rw [this, zi_toNat (by omega)]
  have hmx : mIx (zi 18 - zi (n : Int)) 19 := by
    rw [zi_sub]
    exact zi_ix (by omega) (by omega) (by omega)
  have et : mTens (zi 18 - zi (n : Int)).toNatClampNeg = zl (c : Int) := by rw [em, mTens_eq _ (by omega), hcn]
  have erem : zremL (zl ((N / u : Nat) : Int)) (zl (c : Int)) = zl ((N / u % c : Nat) : Int) := by
    rw [zl_rem (by omega) (by omega) (by omega) (by omega)]
    rfl
  have esub : zl ((N / u : Nat) : Int) - zl ((N / u % c : Nat) : Int) = zl ((B * c : Nat) : Int) := by
    rw [zl_sub]
    refine congrArg zl ?_
    generalize B * c = y at *
    omega
  have eadd : zl ((B * c : Nat) : Int) + zl (c : Int) = zl (((B + 1) * c : Nat) : Int) := by
    rw [zl_add, eA]
    rfl
  have ebody : ∀ rc, b126_2 rc (zi n) s = if ¬ zl ((B * c : Nat) : Int) = zl ((N / u : Nat) : Int) then f126_52 rc (zi n) (zl (c : Int)) (zl ((B * c : Nat) : Int)) (zi 0) s else if ¬ zi (bz (N % u)) = zi 0 then f126_52 rc (zi n) (zl (c : Int)) (zl ((B * c : Nat) : Int)) (zi 0) s else f126_52 rc (zi n) (zl (c : Int)) (zl ((B * c : Nat) : Int)) (zi 1) s := by
    intro rc
    unfold b126_2
    rw [if_neg (znge (by omega)), if_pos hmx, et, if_pos (zlne (by omega)), h0, h1', erem, esub]
  have n10 : ¬ zi 1 = zi 0 := zne (by omega)
  by_cases cx : N % (u * c) = 0
  · left
    have g1 : N % u = 0 := by generalize u * (N / u % c) = z at *; omega
    have g2 : N / u % c = 0 := by
      have : u * (N / u % c) = 0 := by generalize u * (N / u % c) = z at *; omega
      rcases Nat.mul_eq_zero.mp this with g | g
      · omega
      · exact g
    refine ⟨B, fun rc => ?_, .inl ⟨cx, hB⟩⟩
    have e1 : B * c = N / u := by generalize B * c = y at *; omega
    have hn : near N (u * c) = B := by
      unfold near
      rw [cx, hB, if_pos]
      have : 0 < u * c := Nat.mul_pos hu (by omega)
      omega
    rw [ebody rc, if_neg (not_not_intro (by rw [e1])), if_neg (not_not_intro (bz_ne.mpr g1))]
    unfold f126_52 f126_68 f126_89 f126_110
    rw [if_neg (zne (by omega)), if_pos (zne (by omega)), if_pos (zne (by omega)), if_neg (zne (by omega)), if_neg (zne (by omega)), f129_eq h t1 t2 t3 hB (.inr ⟨rfl, cx⟩), zb1_mk, hn]
  · have e0 : ∀ rc, b126_2 rc (zi n) s = f126_52 rc (zi n) (zl (c : Int)) (zl ((B * c : Nat) : Int)) (zi 0) s := by
      intro rc
      rw [ebody rc]
      by_cases g : B * c = N / u
      · have g2 : N / u % c = 0 := by generalize B * c = y at *; omega
        have g3 : N % u ≠ 0 := by
          intro z
          rw [z, g2, Nat.mul_zero] at hmm
          exact cx hmm
        rw [if_neg (not_not_intro (by rw [g])), if_pos (fun z => g3 (bz_ne.mp z))]
      · rw [if_pos (zlne (by omega))]
    have e1 : ∀ rc, b126_2 rc (zi n) s = f126_110 rc (zi n) (zl (c : Int)) (zl ((B * c : Nat) : Int)) (zl (((B + 1) * c : Nat) : Int)) (zi (if (L < B * c * u ∨ (e = 1 ∧ L = B * c * u)) then 1 else 0)) (zi (if ((B + 1) * c * u < H ∨ (e = 1 ∧ (B + 1) * c * u = H)) then 1 else 0)) s := by
      intro rc
      have q1 : f126_68 rc (zi n) (zl (c : Int)) (zl ((B * c : Nat) : Int)) (zi 0) (zl (((B + 1) * c : Nat) : Int)) s = f126_89 rc (zi n) (zl (c : Int)) (zl ((B * c : Nat) : Int)) (zi 0) (zl (((B + 1) * c : Nat) : Int)) (zi (if (L < B * c * u ∨ (e = 1 ∧ L = B * c * u)) then 1 else 0)) s := by
        unfold f126_68
        rw [if_neg (not_not_intro rfl), r127_eq h he (by omega)]
        by_cases g : (L < B * c * u ∨ (e = 1 ∧ L = B * c * u))
        · rw [if_pos g, if_neg n10]
        · rw [if_neg g, if_pos rfl]
      have q2 : ∀ y, f126_89 rc (zi n) (zl (c : Int)) (zl ((B * c : Nat) : Int)) (zi 0) (zl (((B + 1) * c : Nat) : Int)) y s = f126_110 rc (zi n) (zl (c : Int)) (zl ((B * c : Nat) : Int)) (zl (((B + 1) * c : Nat) : Int)) y (zi (if ((B + 1) * c * u < H ∨ (e = 1 ∧ (B + 1) * c * u = H)) then 1 else 0)) s := by
        intro y
        unfold f126_89
        rw [if_neg (not_not_intro rfl), r128_eq h he hAc]
        by_cases g : ((B + 1) * c * u < H ∨ (e = 1 ∧ (B + 1) * c * u = H))
        · rw [if_pos g, if_neg n10]
        · rw [if_neg g, if_pos rfl]
      rw [e0 rc]
      unfold f126_52
      rw [if_pos rfl, eadd, q1, q2]
    have ecu : B * c * u = N / (u * c) * (u * c) := by rw [← hB, Nat.mul_assoc, Nat.mul_comm c u]
    have ecu2 : (B + 1) * c * u = (N / (u * c) + 1) * (u * c) := by rw [← hB, Nat.mul_assoc, Nat.mul_comm c u]
    have kB : (L < B * c * u ∨ (e = 1 ∧ L = B * c * u)) ↔ inB N L (u * c) (e = 1) := by rw [ecu]; exact Iff.rfl
    have kA : ((B + 1) * c * u < H ∨ (e = 1 ∧ (B + 1) * c * u = H)) ↔ inA N H (u * c) (e = 1) := by rw [ecu2]; exact Iff.rfl
    by_cases c1 : inB N L (u * c) (e = 1) <;> by_cases c2 : inA N H (u * c) (e = 1)
    · left
      refine ⟨near N (u * c), fun rc => ?_, .inr ⟨cx, .inl ⟨c1, c2, rfl⟩⟩⟩
      rw [e1 rc, if_pos (kB.mpr c1), if_pos (kA.mpr c2)]
      unfold f126_110
      rw [if_neg n10, if_neg n10, f129_eq h t1 t2 t3 hB (.inl rfl), zb1_mk]
    · left
      refine ⟨B, fun rc => ?_, .inr ⟨cx, .inr (.inl ⟨c1, c2, hB⟩)⟩⟩
      rw [e1 rc, if_pos (kB.mpr c1), if_neg (fun g => c2 (kA.mp g))]
      unfold f126_110 f126_132 f126_142
      rw [if_neg n10, if_pos rfl, if_pos n10, if_neg n10]
    · left
      refine ⟨B + 1, fun rc => ?_, .inr ⟨cx, .inr (.inr ⟨c1, c2, by rw [hB]⟩)⟩⟩
      rw [e1 rc, if_neg (fun g => c1 (kB.mp g)), if_pos (kA.mpr c2)]
      unfold f126_110 f126_132 f126_142
      rw [if_pos rfl, if_neg (not_not_intro rfl), if_neg n10, if_pos rfl]
    · right
      refine ⟨fun rc => ?_, cx, c1, c2⟩
      rw [e1 rc, if_neg (fun g => c1 (kB.mp g)), if_neg (fun g => c2 (kA.mp g))]
      unfold f126_110 f126_132
      rw [if_pos rfl, if_neg (not_not_intro rfl), if_pos rfl, zi_add]
      rfl
theorem f126_17 {s : zS} {N L H u : Nat} {e : Int} (h : HD s N L H u e) (rc : Int32 → zS → Option (Int64 × zS)) : b126_2 rc (zi 17) s = some (zl ((near N (u * 10) * 10 : Nat) : Int), s) := by
  have h' := h
  obtain ⟨h0, h1', h2', h3, h4, h5, h6, hu, b1, b2, b3⟩ := h'
  obtain ⟨B, hB⟩ : ∃ B, B = N / (u * 10) := ⟨_, rfl⟩
  have hBv : B = N / u / 10 := by rw [hB, Nat.div_div_eq_div_mul]
  have hm1 : mIx (zi 1) 19 := zi_ix (by omega) (by omega) (by omega)
  have et : mTens (zi 1).toNatClampNeg = zl ((10 : Nat) : Int) := mTens_eq 1 (by omega)
  have erem : zremL (zl ((N / u : Nat) : Int)) (zl ((10 : Nat) : Int)) = zl ((N / u % 10 : Nat) : Int) := by
    rw [zl_rem (by omega) (by omega) (by omega) (by omega)]
    rfl
  have esub : zl ((N / u : Nat) : Int) - zl ((N / u % 10 : Nat) : Int) = zl ((B * 10 : Nat) : Int) := by
    rw [zl_sub]
    refine congrArg zl ?_
    omega
  have eadd : zl ((B * 10 : Nat) : Int) + zl ((10 : Nat) : Int) = zl (((B + 1) * 10 : Nat) : Int) := by
    rw [zl_add]
    refine congrArg zl ?_
    omega
  unfold b126_2
  rw [if_pos (zge (by omega)), if_pos hm1, et, if_pos (zlne (by omega)), h0, erem, esub, eadd, f129_eq h (by omega) (by omega) (by omega) hB (.inl rfl), zb1_mk]
theorem f126_loop {s : zS} {N L H u M w nr : Nat} {e : Int} (h : HD s N L H u e) (he : e = 0 ∨ e = 1) (hE : EDG N L H M w nr) {T : Int} (hT : topN N T) (hT1 : -1000 ≤ T) (hu : u = 10 ^ (3763 + T).toNat) : ∀ (d n fuel : Nat), d + n = 17 → 2 ≤ n → d < fuel → (∀ m, 2 ≤ m → m < n → NP N L H (qn T m) (e = 1)) →
    ∃ k R, f126_2 fuel (zi n) s = some (zl ((R * 10 ^ (18 - k) : Nat) : Int), s) ∧ SR N L H (e = 1) T k R := by
  have hq : ∀ n, 2 ≤ n → n ≤ 17 → u * 10 ^ (18 - n) = qn T n := by
    intro n h1 h2
    unfold qn
    rw [hu, ← Nat.pow_add]
    exact congrArg (10 ^ ·) (by omega)
  intro d
  induction d with
  | zero =>
    intro n fuel hd h2 hf hm
    obtain ⟨fuel, rfl⟩ : ∃ k, fuel = k + 1 := ⟨fuel - 1, by omega⟩
    have hn : n = 17 := by omega
    subst hn
    have e10 : u * 10 = qn T 17 := hq 17 (by omega) (by omega)
    refine ⟨17, near N (qn T 17), ?_, h2, by omega, pk17 hE hT hT1 _, hm⟩
    have := f126_17 h (f126_2 fuel)
    rw [e10] at this
    exact this
  | succ d ih =>
    intro n fuel hd h2 hf hm
    obtain ⟨fuel, rfl⟩ : ∃ k, fuel = k + 1 := ⟨fuel - 1, by omega⟩
    have hqn := hq n h2 (by omega)
    rcases f126_at h he h2 (show n < 17 by omega) rfl with ⟨R, a1, a2⟩ | ⟨a1, a2⟩
    · rw [hqn] at a2
      exact ⟨n, R, a1 _, h2, by omega, a2, hm⟩
    · rw [hqn] at a2
      obtain ⟨k, R, b1, b2⟩ := ih (n + 1) fuel (by omega) (by omega) (by omega) (fun m m1 m2 => by
        by_cases z : m = n
        · rw [z]
          exact a2
        · exact hm m m1 (by omega))
      exact ⟨k, R, (a1 _).trans b1, b2⟩
