/-! the class's long whole number: divide, its bits -/
theorem f155_eq {s : zS} {B u d : Nat} {rho rs : Int} (h : BN s B u rho rs) (hrs : rs = 0 ∨ rs = 1) (hd : 0 < d) (hd2 : d ≤ 1300000000) : ∃ s' u', f155 (zl d) s = some s' ∧ BN s' (B / d) u' rho (if rs = 0 ∧ B % d = 0 then 0 else 1) ∧ fr [22, 23] [] s s' := by
  obtain ⟨h1, h2, h3, h4, h5, h6⟩ := h
  obtain ⟨s', u', a1, a2, a3⟩ := f155_10_loop hrs hd hd2 h2 h4 u zF s (Nat.le_refl _) (by unfold zF; omega) h1 h5 h6 h3 (fun j g1 g2 => by omega)
  refine ⟨s', u', ?_, a2, a3⟩
  unfold f155
  have e : B / 2 ^ (32 * u) % d = 0 := by
    rw [Nat.div_eq_of_lt h4]
    exact Nat.zero_mod _
  rw [e] at a1
  rw [h1, zi_sub]
  exact a1
theorem f153_loop {x3 : Int32} {rho : Int} : ∀ (d n : Nat) (s : zS) (u C : Nat) (rs : Int), d < n → d ≤ 2000 → (rs = 0 ∨ rs = 1) → BN s C u rho rs →
    ∃ s' u', f153_42 n x3 (zi d) s = some s' ∧ BN s' (C / 5 ^ d) u' rho (if rs = 0 ∧ C % 5 ^ d = 0 then 0 else 1) ∧ fr [22, 23] [] s s' := by
  intro d
  induction d using Nat.strongRecOn with
  | ind d ih =>
    intro n s u C rs hn hr hrs h
    obtain ⟨n, rfl⟩ : ∃ k, n = k + 1 := ⟨n - 1, by omega⟩
    by_cases c : d = 0
    · subst c
      have e1 : C / 5 ^ 0 = C := by rw [Nat.pow_zero, Nat.div_one]
      have e2 : (if rs = 0 ∧ C % 5 ^ 0 = 0 then (0 : Int) else 1) = rs := by
        rw [Nat.pow_zero, Nat.mod_one]
        rcases hrs with rfl | rfl
        · exact if_pos ⟨rfl, rfl⟩
        · exact if_neg (fun g => by omega)
      rw [e1, e2]
      refine ⟨s, u, ?_, h, fr.refl⟩
      show b153_42 (f153_42 n) _ _ _ = _
      unfold b153_42
      rw [if_pos (zle (by omega))]
    · obtain ⟨e, he, he1, he2⟩ : ∃ e : Nat, e = min d 13 ∧ 1 ≤ e ∧ e ≤ 13 := ⟨_, rfl, by omega, by omega⟩
      have h5 := five13 he2
      obtain ⟨s1, u1, a1, a2, a3⟩ := f155_eq h hrs h5.1 (show 5 ^ e ≤ 1300000000 by omega)
      have go : ∃ s' u', f153_42 n x3 (zi ((d : Int) + -13)) s1 = some s' ∧ BN s' (C / 5 ^ d) u' rho (if rs = 0 ∧ C % 5 ^ d = 0 then 0 else 1) ∧ fr [22, 23] [] s1 s' := by
        by_cases c2 : d ≤ 13
        · have e0 : e = d := by omega
          rw [e0] at a2
          obtain ⟨n, rfl⟩ : ∃ k, n = k + 1 := ⟨n - 1, by omega⟩
          refine ⟨s1, u1, ?_, a2, fr.refl⟩
          show b153_42 (f153_42 n) _ _ _ = _
          unfold b153_42
          rw [if_pos (zle (by omega))]
        · have e13 : e = 13 := by omega
          rw [e13] at a2
          obtain ⟨s2, u2, b1, b2, b3⟩ := ih (d - 13) (by omega) n s1 u1 (C / 5 ^ 13) _ (by omega) (by omega) (by
            by_cases g : rs = 0 ∧ C % 5 ^ 13 = 0
            · rw [if_pos g]; exact .inl rfl
            · rw [if_neg g]; exact .inr rfl) a2
          have ep : 5 ^ d = 5 ^ 13 * 5 ^ (d - 13) := by
            rw [← Nat.pow_add]
            exact congrArg (5 ^ ·) (by omega)
          have ed : C / 5 ^ 13 / 5 ^ (d - 13) = C / 5 ^ d := by rw [Nat.div_div_eq_div_mul, ← ep]
          have em : C % 5 ^ d = C % 5 ^ 13 + 5 ^ 13 * (C / 5 ^ 13 % 5 ^ (d - 13)) := by rw [ep, Nat.mod_mul]
          have er : (if (if rs = 0 ∧ C % 5 ^ 13 = 0 then (0 : Int) else 1) = 0 ∧ C / 5 ^ 13 % 5 ^ (d - 13) = 0 then (0 : Int) else 1) = if rs = 0 ∧ C % 5 ^ d = 0 then 0 else 1 := by
            rw [em]
            have hp : 0 < 5 ^ 13 := by decide
            generalize C / 5 ^ 13 % 5 ^ (d - 13) = y
            generalize C % 5 ^ 13 = x
            have hz : 5 ^ 13 * y = 0 ↔ y = 0 := by omega
            by_cases g1 : rs = 0 ∧ x = 0
            · rw [if_pos g1]
              by_cases g2 : y = 0
              · rw [if_pos ⟨rfl, g2⟩, if_pos ⟨g1.1, by omega⟩]
              · rw [if_neg (fun q => g2 q.2), if_neg (fun q => by omega)]
            · rw [if_neg g1, if_neg (fun q => by omega), if_neg (fun q => by omega)]
          rw [ed, er] at b2
          refine ⟨s2, u2, ?_, b2, b3⟩
          have ez : zi ((d : Int) + -13) = zi ((d - 13 : Nat) : Int) := congrArg zi (by omega)
          rw [ez]
          exact b1
      obtain ⟨s2, u2, b1, b2, b3⟩ := go
      refine ⟨s2, u2, ?_, b2, a3.trans b3⟩
      show b153_42 (f153_42 n) _ _ _ = _
      unfold b153_42
      have em : r265 (zi (d : Int)) (zi 13) s = zi (e : Int) := by
        rw [r265_min (by omega) (by omega) (by omega) (by omega)]
        exact congrArg zi (by omega)
      have h114 : f114 (zi 5) (zi (e : Int)) s = some (zl ((5 ^ e : Nat) : Int), s) := f114_eq (b := 5) (e := e) (.inr rfl) (by omega) s
      rw [if_neg (znle (by omega)), em, h114, zb1_mk, a1, zb0_mk, zi_add]
      exact b1
/-! its bits -/
theorem wd_bits {B q r : Nat} (hr : r < 32) : wd B q / 2 ^ r % 2 = B / 2 ^ (32 * q + r) % 2 := by
  unfold wd
  have e : (4294967296 : Nat) = 2 ^ r * 2 ^ (32 - r) := by
    rw [← Nat.pow_add]
    have : r + (32 - r) = 32 := by omega
    rw [this]
  rw [e, Nat.mod_mul_right_div_self, Nat.mod_mod_of_dvd _ (show 2 ∣ 2 ^ (32 - r) from Nat.pow_dvd_pow 2 (show 1 ≤ 32 - r by omega)), Nat.div_div_eq_div_mul, ← Nat.pow_add]
theorem wd_mod {B q r : Nat} (hr : r < 32) : wd B q % 2 ^ r = B / 2 ^ (32 * q) % 2 ^ r := by
  unfold wd
  exact Nat.mod_mod_of_dvd _ (show 2 ^ r ∣ 2 ^ 32 from Nat.pow_dvd_pow 2 (by omega))
theorem land1 (w : Nat) : zl (w : Int) &&& zl 1 = zl ((w % 2 : Nat) : Int) := zl_and (a := (w : Int)) (k := 1) (by decide)
theorem div32 {k : Nat} (hk : k < 2147483648) : zi (k : Int) / zi 32 = zi ((k / 32 : Nat) : Int) := by
  rw [zi_div (by omega) (by omega) (by omega) (by omega)]
  rfl
theorem rem32 {k : Nat} (hk : k < 2147483648) : zrem (zi (k : Int)) (zi 32) = zi ((k % 32 : Nat) : Int) := by
  rw [zi_rem (by omega) (by omega) (by omega) (by omega)]
  rfl
theorem f157_eq {s : zS} {B u : Nat} {rho rs : Int} (h : BN s B u rho rs) {i : Int} (h1 : -1000000 ≤ i) (h2 : i ≤ 1000000) : f157 (zi i) s = some (zi (if i < 0 then 0 else (B / 2 ^ i.toNat % 2 : Nat)), s) := by
  unfold f157
  by_cases c : i < 0
  · rw [if_pos (zlt (by omega)), if_pos c]
  · obtain ⟨k, rfl⟩ : ∃ k : Nat, i = k := ⟨i.toNat, by omega⟩
    rw [if_neg (znlt (by omega)), if_neg c, div32 (by omega), rem32 (by omega), h.1, Int.toNat_natCast]
    have hu := h.2.1
    by_cases c2 : u ≤ k / 32
    · rw [if_pos (zge (by omega))]
      have hB : B < 2 ^ k := Nat.lt_of_lt_of_le h.2.2.2.1 (Nat.pow_le_pow_right (by decide) (by omega))
      rw [Nat.div_eq_of_lt hB]
      rfl
    · have hw : s.2.1 23 (zi ((k / 32 : Nat) : Int)).toNatClampNeg = zl (wd B (k / 32) : Nat) := by
        rw [zi_toNat (by omega)]
        exact h.2.2.1 _ (by omega)
      have hl := wd_lt B (k / 32)
      have hk : 32 * (k / 32) + k % 32 = k := by omega
      rw [if_neg (znge (by omega)), if_pos (zi_ix (by omega) (by omega) (by omega)), hw, ushrN (by omega) (by omega), land1, wd_bits (by omega), hk]
      have hy : B / 2 ^ k % 2 < 2 := Nat.mod_lt _ (by decide)
      generalize B / 2 ^ k % 2 = y at *
      by_cases c3 : y = 0
      · subst c3
        exact if_pos zl0e
      · rw [if_neg (zlne (by omega))]
        have : y = 1 := by omega
        subst this
        rfl
/-- how many bits -/
def LEN (B L : Nat) : Prop := B < 2 ^ L ∧ (L = 0 ∨ 2 ^ (L - 1) ≤ B)
theorem f156_loop {s : zS} {B u : Nat} {rho rs : Int} (h : BN s B u rho rs) : ∀ (k n : Nat), k < n → k ≤ 5000 → B < 2 ^ k → ∃ L : Nat, f156_17 n (zi k) s = some (zi L, s) ∧ LEN B L ∧ L ≤ k := by
  intro k
  induction k with
  | zero =>
    intro n hn hk hB
    obtain ⟨n, rfl⟩ : ∃ k, n = k + 1 := ⟨n - 1, by omega⟩
    refine ⟨0, ?_, ⟨hB, .inl rfl⟩, Nat.le_refl _⟩
    show b156_17 (f156_17 n) _ _ = _
    unfold b156_17
    rw [if_pos (zle (by omega))]
  | succ k ih =>
    intro n hn hk hB
    obtain ⟨n, rfl⟩ : ∃ k, n = k + 1 := ⟨n - 1, by omega⟩
    have e1 : zi ((k + 1 : Nat) : Int) - zi 1 = zi (k : Int) := by rw [zi_sub]; exact congrArg zi (by omega)
    have e2 : zi ((k + 1 : Nat) : Int) + zi (-1) = zi (k : Int) := by rw [zi_add]; exact congrArg zi (by omega)
    have hb := f157_eq h (i := (k : Int)) (by omega) (by omega)
    rw [if_neg (by omega), Int.toNat_natCast] at hb
    have body : f156_17 (n + 1) (zi ((k + 1 : Nat) : Int)) s = if ¬ zi ((B / 2 ^ k % 2 : Nat) : Int) = zi 0 then some (zi ((k + 1 : Nat) : Int), s) else f156_17 n (zi (k : Int)) s := by
      show b156_17 (f156_17 n) _ _ = _
      unfold b156_17
      rw [if_neg (znle (by omega)), e1, e2, hb, zb1_mk]
    have hd : B / 2 ^ k < 2 := by
      apply Nat.div_lt_of_lt_mul
      rw [← Nat.pow_succ]
      exact hB
    by_cases c : B / 2 ^ k = 0
    · obtain ⟨L, a1, a2, a3⟩ := ih n (by omega) (by omega) (pow_gt c (p2_pos _))
      refine ⟨L, ?_, a2, by omega⟩
      rw [body, c, if_neg zi00]
      exact a1
    · have c1 : B / 2 ^ k = 1 := by
        clear body hb
        generalize B / 2 ^ k = y at *
        omega
      refine ⟨k + 1, ?_, ⟨hB, .inr ?_⟩, Nat.le_refl _⟩
      · rw [body, c1, if_pos (zne (by omega))]
      · have := (Nat.le_div_iff_mul_le (p2_pos k)).mp (Nat.le_of_eq c1.symm)
        rw [Nat.one_mul] at this
        exact this
theorem f156_eq {s : zS} {B u : Nat} {rho rs : Int} (h : BN s B u rho rs) : ∃ L : Nat, f156 s = some (zi L, s) ∧ LEN B L ∧ L ≤ 32 * u := by
  have hu := h.2.1
  unfold f156
  by_cases c : u = 0
  · subst c
    rw [h.1, if_neg zi00]
    refine ⟨0, rfl, ⟨h.2.2.2.1, .inl rfl⟩, by omega⟩
  · have e : zi 32 * zi (u : Int) = zi ((32 * u : Nat) : Int) := by rw [zi_mul]; rfl
    rw [h.1, if_pos (zne (by omega)), e]
    exact f156_loop h (32 * u) zF (by unfold zF; omega) (by omega) h.2.2.2.1
theorem mask1 {w r : Nat} (hw : w < 9223372036854775808) (hr : r ≤ 62) : zl (w : Int) &&& (zshlL (zl 1) (zi (r : Int)) - zl 1) = zl ((w % 2 ^ r : Nat) : Int) := by
  have e1 : zshlL (zl 1) (zi (r : Int)) - zl 1 = zl ((2 : Int) ^ r - 1) := by
    rw [zshlL_zl 1 (by omega), zl_sub, Int.one_mul]
  rw [e1, zl_and (by omega)]
  rfl
theorem f158_loop {s : zS} {B u : Nat} {rho rs : Int} (h : BN s B u rho rs) {i : Int} (h1 : -1000000 ≤ i) (h2 : i ≤ 1000000) {w : Nat} (hw : w = min (i.toNat / 32) u) : ∀ (d j n : Nat), d + j = w → d < n → B % 2 ^ (32 * j) = 0 → f158_18 n (zi i) (zi w) (zi j) s = some (zi (if B % 2 ^ i.toNat = 0 then 0 else 1), s) := by
  have hu := h.2.1
  intro d
  induction d with
  | zero =>
    intro j n hd hn hz
    obtain ⟨n, rfl⟩ : ∃ k, n = k + 1 := ⟨n - 1, by omega⟩
    obtain rfl : j = w := by omega
    show b158_18 (f158_18 n) _ _ _ _ = _
    unfold b158_18
    rw [if_pos (zge (by omega))]
    by_cases c : i ≤ 0
    · have e : i.toNat = 0 := by omega
      rw [if_pos (zle (by omega)), e, Nat.pow_zero, Nat.mod_one]
      rfl
    · rw [if_neg (znle (by omega)), h.1]
      by_cases c2 : u ≤ j
      · obtain rfl : j = u := by omega
        rw [Nat.mod_eq_of_lt h.2.2.2.1] at hz
        rw [if_pos (zge (by omega)), hz, Nat.zero_mod]
        rfl
      · have hj : j = i.toNat / 32 := by omega
        obtain ⟨k, rfl⟩ : ∃ k : Nat, i = k := ⟨i.toNat, by omega⟩
        rw [Int.toNat_natCast] at hj ⊢
        have hwd : s.2.1 23 (zi (j : Int)).toNatClampNeg = zl (wd B j : Nat) := by
          rw [zi_toNat (by omega)]
          exact h.2.2.1 _ (by omega)
        have hl := wd_lt B j
        have hk : k = 32 * j + k % 32 := by omega
        have em : B % 2 ^ k = 2 ^ (32 * j) * (B / 2 ^ (32 * j) % 2 ^ (k % 32)) := by
          have := Nat.mod_mul (x := B) (a := 2 ^ (32 * j)) (b := 2 ^ (k % 32))
          rw [← Nat.pow_add, ← hk, hz, Nat.zero_add] at this
          exact this
        rw [if_neg (znge (by omega)), if_pos (zi_ix (by omega) (by omega) (by omega)), hwd, rem32 (by omega), mask1 (by omega) (by omega), wd_mod (by omega), em]
        have hy : B / 2 ^ (32 * j) % 2 ^ (k % 32) < 4294967296 := Nat.lt_of_lt_of_le (Nat.mod_lt _ (p2_pos _)) (Nat.le_trans (Nat.pow_le_pow_right (by decide) (show k % 32 ≤ 32 by omega)) (by decide))
        generalize B / 2 ^ (32 * j) % 2 ^ (k % 32) = y at *
        by_cases c3 : y = 0
        · subst c3
          rw [Nat.mul_zero, if_pos zl0e]
          rfl
        · rw [if_neg (zlne (by omega)), if_neg (fun g => by
            rcases Nat.mul_eq_zero.mp g with g | g
            · exact absurd g (Nat.ne_of_gt (p2_pos _))
            · exact c3 g)]
  | succ d ih =>
    intro j n hd hn hz
    obtain ⟨n, rfl⟩ : ∃ k, n = k + 1 := ⟨n - 1, by omega⟩
    have hwd : s.2.1 23 (zi (j : Int)).toNatClampNeg = zl (wd B j : Nat) := by
      rw [zi_toNat (by omega)]
      exact h.2.2.1 _ (by omega)
    have hl := wd_lt B j
    have em : B % 2 ^ (32 * (j + 1)) = 2 ^ (32 * j) * wd B j := by
      rw [p32, Nat.mod_mul, hz, Nat.zero_add]
      rfl
    have body : f158_18 (n + 1) (zi i) (zi w) (zi j) s = if zl (wd B j : Nat) = zl 0 then f158_18 n (zi i) (zi w) (zi (j + 1 : Nat)) s else some (zi 1, s) := by
      show b158_18 (f158_18 n) _ _ _ _ = _
      unfold b158_18
      rw [if_neg (znge (by omega)), if_pos (zi_ix (by omega) (by omega) (by omega)), hwd, zi_add]
      rfl
    rw [body]
    by_cases c : wd B j = 0
    · rw [c, if_pos zl0e]
      exact ih (j + 1) n (by omega) (by omega) (by rw [em, c, Nat.mul_zero])
    · rw [if_neg (zlne (by omega)), if_neg]
      intro g
      have hdv : 2 ^ (32 * (j + 1)) ∣ B := Nat.dvd_trans (Nat.pow_dvd_pow 2 (by omega)) (Nat.dvd_of_mod_eq_zero g)
      rw [Nat.mod_eq_zero_of_dvd hdv] at em
      rcases Nat.mul_eq_zero.mp em.symm with g | g
      · exact absurd g (Nat.ne_of_gt (p2_pos _))
      · exact c g
theorem f158_eq {s : zS} {B u : Nat} {rho rs : Int} (h : BN s B u rho rs) {i : Int} (h1 : -1000000 ≤ i) (h2 : i ≤ 1000000) : f158 (zi i) s = some (zi (if B % 2 ^ i.toNat = 0 then 0 else 1), s) := by
  have hu := h.2.1
  unfold f158
  have e1 : r264 (zi i) (zi 0) s = zi (i.toNat : Int) := by
    rw [r264_max (by omega) (by omega) (by omega) (by omega)]
    exact congrArg zi (by omega)
  have e2 : r265 (zi ((i.toNat / 32 : Nat) : Int)) (zi (u : Int)) s = zi ((min (i.toNat / 32) u : Nat) : Int) := by
    rw [r265_min (by omega) (by omega) (by omega) (by omega)]
    exact congrArg zi (by omega)
  rw [e1, div32 (by omega), h.1, e2]
  exact f158_loop h h1 h2 rfl (min (i.toNat / 32) u) 0 zF (by omega) (by unfold zF; omega) (by rw [Nat.mul_zero, Nat.pow_zero, Nat.mod_one])
/-! its bits from one on -/
theorem f160_loop {s : zS} {B u : Nat} {rho rs : Int} (h : BN s B u rho rs) {lo : Int} (h1 : -60 ≤ lo) (h2 : lo ≤ 1000000) (hB : B / 2 ^ lo.toNat < 4611686018427387904) {x2 : Int32} : ∀ (d n : Nat) (i : Int), (d : Int) = i + 1 - max lo 0 → d < n → i ≤ 5000 → f160_7 n (zi lo) x2 (zl ((B / 2 ^ (i + 1).toNat : Nat) : Int)) (zi i) s = if lo ≥ 0 then some (zl ((B / 2 ^ lo.toNat : Nat) : Int), s) else some (zshlL (zl ((B / 2 ^ lo.toNat : Nat) : Int)) (zi (-lo)), s) := by
  intro d
  induction d with
  | zero =>
    intro n i hd hn hi
    obtain ⟨n, rfl⟩ : ∃ k, n = k + 1 := ⟨n - 1, by omega⟩
    have e : (i + 1).toNat = lo.toNat := by omega
    show b160_7 (f160_7 n) _ _ _ _ _ = _
    unfold b160_7
    rw [r264_max (by omega) (by omega) (by omega) (by omega), if_pos (zlt (by omega)), e, zi_neg]
    by_cases c : lo ≥ 0
    · rw [if_pos c, if_pos (zge (by omega))]
    · rw [if_neg c, if_neg (znge (by omega))]
  | succ d ih =>
    intro n i hd hn hi
    obtain ⟨n, rfl⟩ : ∃ k, n = k + 1 := ⟨n - 1, by omega⟩
    have ih' := ih n (i - 1) (by omega) (by omega) (by omega)
    have e0 : (i - 1 + 1).toNat = i.toNat := by omega
    have e1 : (i + 1).toNat = i.toNat + 1 := by omega
    have e2 : zi i + zi (-1) = zi (i - 1) := by rw [zi_add]; rfl
    rw [e0] at ih'
    have hb := f157_eq h (i := i) (by omega) (by omega)
    rw [if_neg (by omega)] at hb
    have hle : B / 2 ^ i.toNat ≤ B / 2 ^ lo.toNat := Nat.div_le_div_left (Nat.pow_le_pow_right (by decide) (by omega)) (p2_pos _)
    have hs : B / 2 ^ (i.toNat + 1) = B / 2 ^ i.toNat / 2 := by rw [Nat.pow_succ, Nat.div_div_eq_div_mul]
    show b160_7 (f160_7 n) _ _ _ _ _ = _
    unfold b160_7
    rw [r264_max (by omega) (by omega) (by omega) (by omega), if_neg (znlt (by omega)), hb, zb1_mk, e1, hs, e2]
    generalize B / 2 ^ i.toNat = y at *
    have esh : zshlL (zl ((y / 2 : Nat) : Int)) (zi 1) = zl ((y / 2 * 2 : Nat) : Int) := shlN (y / 2) (t := 1) (by decide)
    by_cases c : y % 2 = 0
    · have eo : zl ((y / 2 * 2 : Nat) : Int) ||| zI2L (zi 0) = zl (y : Int) := by
        rw [zI2L_zi (by omega) (by omega)]
        refine (zor (k := 1) (p := 2) (a := 0) (by decide) (by decide) (by omega)).trans ?_
        exact congrArg zl (by omega)
      rw [c, if_pos (zeq (by omega)), esh, eo]
      exact ih'
    · have c1 : y % 2 = 1 := by omega
      have eo : zl ((y / 2 * 2 : Nat) : Int) ||| zI2L (zi 1) = zl (y : Int) := by
        rw [zI2L_zi (by omega) (by omega)]
        refine (zor (k := 1) (p := 2) (a := 1) (by decide) (by decide) (by omega)).trans ?_
        exact congrArg zl (by omega)
      rw [c1, if_neg (zne (by omega)), esh, eo]
      exact ih'
theorem f160_eq {s : zS} {B u L : Nat} {rho rs : Int} (h : BN s B u rho rs) (hL : B < 2 ^ L) (hL2 : L ≤ 5000) {lo : Int} (h1 : -60 ≤ lo) (h2 : lo ≤ 1000000) (hB : B / 2 ^ lo.toNat < 4611686018427387904) : f160 (zi lo) (zi L) s = some (zl ((B / 2 ^ lo.toNat * 2 ^ (-lo).toNat : Nat) : Int), s) := by
  have fin : (if lo ≥ 0 then some (zl ((B / 2 ^ lo.toNat : Nat) : Int), s) else some (zshlL (zl ((B / 2 ^ lo.toNat : Nat) : Int)) (zi (-lo)), s)) = some (zl ((B / 2 ^ lo.toNat * 2 ^ (-lo).toNat : Nat) : Int), s) := by
    by_cases c : lo ≥ 0
    · have e : (-lo).toNat = 0 := by omega
      rw [if_pos c, e, Nat.pow_zero, Nat.mul_one]
    · have e : -lo = ((-lo).toNat : Int) := by omega
      rw [if_neg c]
      have := shlN (B / 2 ^ lo.toNat) (t := (-lo).toNat) (by omega)
      rw [← e] at this
      rw [this]
  unfold f160
  have e1 : zi (L : Int) - zi 1 = zi ((L : Int) - 1) := zi_sub _ _
  rw [e1]
  by_cases c : (L : Int) - 1 < max lo 0
  · have hz : B / 2 ^ lo.toNat = 0 := Nat.div_eq_of_lt (Nat.lt_of_lt_of_le hL (Nat.pow_le_pow_right (by decide) (by omega)))
    rw [← fin]
    obtain ⟨n, hn⟩ : ∃ n, zF = n + 1 := ⟨999999, rfl⟩
    rw [hn]
    show b160_7 (f160_7 n) _ _ _ _ _ = _
    unfold b160_7
    rw [r264_max (by omega) (by omega) (by omega) (by omega), if_pos (zlt (by omega)), zi_neg, hz]
    by_cases c : lo ≥ 0
    · rw [if_pos c, if_pos (zge (by omega))]
      rfl
    · rw [if_neg c, if_neg (znge (by omega))]
      rfl
  · have a1 := f160_loop h h1 h2 hB (x2 := zi (L : Int)) ((L : Int) - max lo 0).toNat zF ((L : Int) - 1) (by omega) (by unfold zF; omega) (by omega)
    have e : ((L : Int) - 1 + 1).toNat = L := by omega
    rw [e, Nat.div_eq_of_lt hL] at a1
    exact a1.trans fin
/-! divide by fives -/
theorem five_bits {t : Nat} (ht : t ≤ 2000) : 5 ^ t < 2 ^ (t * 2322 / 1000 + 1) := by
  -- 5 ^ 1000 < 2 ^ 2322
  have hk : 5 ^ 1000 < 2 ^ 2322 := by decide +kernel
  have hp : (5 ^ t) ^ 1000 < (2 ^ (t * 2322 / 1000 + 1)) ^ 1000 := by
    rw [← Nat.pow_mul, ← Nat.pow_mul, Nat.mul_comm t 1000, Nat.pow_mul]
    have h1 : (5 ^ 1000) ^ t ≤ (2 ^ 2322) ^ t := Nat.pow_le_pow_left (Nat.le_of_lt hk) t
    rw [← Nat.pow_mul 2] at h1
    refine Nat.lt_of_le_of_lt h1 (Nat.pow_lt_pow_right (by decide) ?_)
    omega
  rcases Nat.lt_or_ge (5 ^ t) (2 ^ (t * 2322 / 1000 + 1)) with g | g
  · exact g
  · exact absurd hp (Nat.not_lt.mpr (Nat.pow_le_pow_left g 1000))
theorem ifz0 (X : Nat) : (if (0 : Int) = 0 ∧ X = 0 then (0 : Int) else 1) = if X = 0 then 0 else 1 := by
  by_cases g : X = 0
  · rw [if_pos ⟨rfl, g⟩, if_pos g]
  · rw [if_neg (fun q => g q.2), if_neg g]
theorem f153_eq {s : zS} {D u t : Nat} (h : BN s D u 0 0) (hT : u = 0 ∨ 2 ^ (32 * (u - 1)) ≤ D) (hD : D ≠ 0) (ht : t ≤ 1500) : ∃ (s' : zS) (u' k : Nat), f153 (zi t) s = some s' ∧ BN s' (D * 2 ^ (32 * k) / 5 ^ t) u' (32 * (k : Int)) (if D * 2 ^ (32 * k) % 5 ^ t = 0 then 0 else 1) ∧ 2 ^ 65 ≤ D * 2 ^ (32 * k) / 5 ^ t ∧ k ≤ 200 ∧ fr [22, 23] [] s s' := by
  obtain ⟨L, l1, ⟨l2, l3⟩, l4⟩ := f156_eq h
  have hu := h.2.1
  have hL0 : L ≠ 0 := by
    intro g
    rw [g, Nat.pow_zero] at l2
    omega
  have l3 := l3.resolve_left hL0
  have hu1 : 32 * (u - 1) < L := by
    rcases hT with h0 | h0
    · omega
    · exact (Nat.pow_lt_pow_iff_right (a := 2) (by decide)).mp (Nat.lt_of_le_of_lt h0 l2)
  obtain ⟨bd, hbd⟩ : ∃ bd, bd = t * 2322 / 1000 + 1 := ⟨_, rfl⟩
  have h5 : 5 ^ t < 2 ^ bd := by
    rw [hbd]
    exact five_bits (by omega)
  have ebd : zi (t : Int) * zi 2322 / zi 1000 + zi 1 + zi 66 - zi (L : Int) = zi ((bd : Int) + 66 - L) := by
    have e0 : (t : Int) * 2322 = ((t * 2322 : Nat) : Int) := by omega
    rw [zi_mul, e0, zi_div (by omega) (by omega) (by omega) (by omega)]
    have e1 : ((t * 2322 : Nat) : Int).tdiv 1000 = ((t * 2322 / 1000 : Nat) : Int) := rfl
    rw [e1, zi_add, zi_add, zi_sub]
    exact congrArg zi (by omega)
  have hq : ∀ k, bd + 66 ≤ L + 32 * k → 2 ^ 65 ≤ D * 2 ^ (32 * k) / 5 ^ t := by
    intro k hk
    rw [Nat.le_div_iff_mul_le (Nat.pow_pos (by decide))]
    have g1 : 2 ^ 65 * 5 ^ t ≤ 2 ^ 65 * 2 ^ bd := Nat.mul_le_mul_left _ (Nat.le_of_lt h5)
    have g2 : 2 ^ 65 * 2 ^ bd ≤ 2 ^ (L - 1) * 2 ^ (32 * k) := by
      rw [← Nat.pow_add, ← Nat.pow_add]
      exact Nat.pow_le_pow_right (by decide) (by omega)
    exact Nat.le_trans g1 (Nat.le_trans g2 (Nat.mul_le_mul_right _ l3))
  by_cases c : bd + 66 ≤ L
  · obtain ⟨s', u', b1, b2, b3⟩ := f153_loop (x3 := zi ((bd : Int) + 66 - L)) t zF s u D 0 (by unfold zF; omega) (by omega) (.inl rfl) h
    rw [ifz0] at b2
    have e0 : D * 2 ^ (32 * 0) = D := by rw [Nat.mul_zero, Nat.pow_zero, Nat.mul_one]
    have hq0 := hq 0 (by omega)
    refine ⟨s', u', 0, ?_, ?_, hq0, by omega, b3⟩
    · unfold f153
      rw [l1, zb1_mk, ebd, if_pos (zle (by omega))]
      exact b1
    · rw [e0]
      exact b2
  · obtain ⟨k, hk⟩ : ∃ k, k = (bd + 66 - L + 31) / 32 := ⟨_, rfl⟩
    obtain ⟨s1, a1, a2, a3⟩ := f154_eq h (by' := k) (by omega) (by omega)
    rw [Int.zero_add] at a2
    obtain ⟨s', u', b1, b2, b3⟩ := f153_loop (x3 := zi ((bd : Int) + 66 - L)) t zF s1 _ _ 0 (by unfold zF; omega) (by omega) (.inl rfl) a2
    rw [ifz0] at b2
    refine ⟨s', u', k, ?_, b2, hq k (by omega), by omega, a3.trans b3⟩
    unfold f153
    have ek : (zi ((bd : Int) + 66 - L) + zi 32 - zi 1) / zi 32 = zi (k : Int) := by
      have e0 : (bd : Int) + 66 - L + 32 - 1 = ((bd + 66 - L + 31 : Nat) : Int) := by omega
      rw [zi_add, zi_sub, e0, div32 (by omega), hk]
    rw [l1, zb1_mk, ebd, if_neg (znle (by omega)), ek, a1, zb0_mk]
    exact b1
