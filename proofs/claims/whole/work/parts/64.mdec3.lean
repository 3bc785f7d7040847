/-! the reference's Decimal: a real's value, its digits, its highest place -/
/-- N / 10^3780 = M * 2^X -/
def SV (N M : Nat) (X : Int) : Prop := ∀ a b : Nat, (b : Int) - a = X → N * 2 ^ a = M * 2 ^ b * 10 ^ 3780
theorem SV.up {N M : Nat} {b0 : Nat} (h : N = M * 2 ^ b0 * 10 ^ 3780) : SV N M b0 := by
  intro a b e
  have : b = b0 + a := by omega
  subst this
  rw [h, Nat.pow_add, ← Nat.mul_assoc M, Nat.mul_right_comm (M * 2 ^ b0)]
theorem SV.dn {N M : Nat} {a0 : Nat} (h : N * 2 ^ a0 = M * 10 ^ 3780) : SV N M (-(a0 : Int)) := by
  intro a b e
  have : a = a0 + b := by omega
  subst this
  rw [Nat.pow_add, ← Nat.mul_assoc, h, Nat.mul_right_comm]
theorem SV.shift {N M : Nat} {X : Int} (h : SV N M X) (j : Nat) : SV N (M * 2 ^ j) (X - j) := by
  intro a b e
  have := h a (b + j) (by omega)
  rw [this, Nat.pow_add, Nat.mul_comm (2 ^ b), ← Nat.mul_assoc M]
theorem SV.uniq {N N' M : Nat} {X : Int} (h : SV N M X) (g : SV N' M X) : N = N' := by
  have h1 := h (-X).toNat X.toNat (by omega)
  have h2 := g (-X).toNat X.toNat (by omega)
  exact Nat.eq_of_mul_eq_mul_right (Nat.pow_pos (by decide)) (h1.trans h2.symm)
theorem big405 : 9223372036854775808 * 2 ^ 1000 < 10 ^ 405 := by decide +kernel
theorem f234_8_loop {aa M : Nat} (haa : isD aa) (hM : M < 9223372036854775808) {X : Nat} (hX : X < 1000) : ∀ (d t n : Nat) (s : zS) (a b : Nat), d + t = X → d < n → DEC s aa (M * 2 ^ t * 10 ^ 3780) a b →
    ∃ s' a' b', f234_8 aa n (zi X) (zi t) s = some s' ∧ DEC s' aa (M * 2 ^ X * 10 ^ 3780) a' b' ∧ fr [aa, aa + 1] [] s s' := by
  intro d
  induction d with
  | zero =>
    intro t n s a b hd hn h
    obtain ⟨n, rfl⟩ : ∃ k, n = k + 1 := ⟨n - 1, by omega⟩
    obtain rfl : t = X := by omega
    refine ⟨s, a, b, ?_, h, fr.refl⟩
    show b234_8 aa (f234_8 aa n) _ _ _ = _
    unfold b234_8
    rw [if_pos (zge (by omega))]
    show b234_27 aa (f234_27 aa _) _ _ _ = _
    unfold b234_27
    rw [if_pos (zle (by omega))]
  | succ d ih =>
    intro t n s a b hd hn h
    obtain ⟨n, rfl⟩ : ∃ k, n = k + 1 := ⟨n - 1, by omega⟩
    have e2 : 2 * (M * 2 ^ t * 10 ^ 3780) = M * 2 ^ (t + 1) * 10 ^ 3780 := by
      rw [show (2 : Nat) ^ (t + 1) = 2 ^ t * 2 from Nat.pow_succ ..]
      generalize 10 ^ 3780 = P
      rw [Nat.mul_comm 2, Nat.mul_right_comm, Nat.mul_assoc M]
    have hlt : 2 * (M * 2 ^ t * 10 ^ 3780) < WW 0 := by
      rw [e2]
      have e3 : WW 0 = 10 ^ 405 * 10 ^ 3780 := by
        unfold WW
        rw [← Nat.pow_add]
      rw [e3]
      refine Nat.mul_lt_mul_of_pos_right ?_ (Nat.pow_pos (by decide))
      refine Nat.lt_of_le_of_lt ?_ big405
      exact Nat.mul_le_mul (by omega) (Nat.pow_le_pow_right (by decide) (by omega))
    obtain ⟨s1, a1, b1, c1, c2, c3, c4⟩ := f232_eq haa h hlt
    rw [e2] at c2
    obtain ⟨s', a', b', d1, d2, d3⟩ := ih (t + 1) n s1 a1 b1 (by omega) (by omega) c2
    refine ⟨s', a', b', ?_, d2, c4.trans d3⟩
    show b234_8 aa (f234_8 aa n) _ _ _ = _
    unfold b234_8
    rw [if_neg (znge (by omega)), c1, zb0_mk, zi_add]
    exact d1
theorem half_pow {M x : Nat} (hx : x < 3780) : M * 5 ^ x * 10 ^ (3780 - x) / 2 = M * 5 ^ (x + 1) * 10 ^ (3780 - (x + 1)) := by
  have e1 : 3780 - x = (3780 - (x + 1)) + 1 := by omega
  rw [e1, Nat.pow_succ, Nat.pow_succ]
  generalize 10 ^ (3780 - (x + 1)) = P
  generalize 5 ^ x = Q
  have e2 : M * Q * (P * 10) = 2 * (M * (Q * 5) * P) := by
    rw [Nat.mul_left_comm 2, Nat.mul_comm 2]
    calc M * Q * (P * 10) = M * Q * (P * 5 * 2) := by rw [Nat.mul_assoc P]
      _ = M * (Q * 5) * P * 2 := by rw [← Nat.mul_assoc, Nat.mul_comm P, ← Nat.mul_assoc, Nat.mul_assoc M]
      _ = _ := by rw [Nat.mul_assoc]
  rw [e2, Nat.mul_div_cancel_left _ (by decide)]
theorem f234_27_loop {aa M : Nat} (haa : isD aa) {X : Nat} (hX : X ≤ 1100) : ∀ (d x n : Nat) (s : zS) (a b : Nat), d + x = X → d < n → b ≤ 45 + (x + 8) / 9 → DEC s aa (M * 5 ^ x * 10 ^ (3780 - x)) a b →
    ∃ s' a' b', f234_27 aa n (zi (-(X : Int))) (zi (-(x : Int))) s = some s' ∧ DEC s' aa (M * 5 ^ X * 10 ^ (3780 - X)) a' b' ∧ fr [aa, aa + 1] [] s s' := by
  intro d
  induction d with
  | zero =>
    intro x n s a b hd hn hb h
    obtain ⟨n, rfl⟩ : ∃ k, n = k + 1 := ⟨n - 1, by omega⟩
    obtain rfl : x = X := by omega
    refine ⟨s, a, b, ?_, h, fr.refl⟩
    show b234_27 aa (f234_27 aa _) _ _ _ = _
    unfold b234_27
    rw [if_pos (zle (by omega))]
  | succ d ih =>
    intro x n s a b hd hn hb h
    obtain ⟨n, rfl⟩ : ∃ k, n = k + 1 := ⟨n - 1, by omega⟩
    obtain ⟨s1, a1, b1, c1, c2, c3, c4⟩ := f233_eq haa h (fun e => by omega)
    rw [half_pow (by omega)] at c2
    have hb1 : b1 ≤ 45 + (x + 1 + 8) / 9 := by
      by_cases q : b + 1 ≤ 45 + (x + 1 + 8) / 9
      · omega
      · have q2 : M * 5 ^ x * 10 ^ (3780 - x) / WW b % 2 = 0 := by
          unfold WW
          have e1 : 3780 - x = (9 * (465 - b)) + ((3780 - x) - 9 * (465 - b) - 1) + 1 := by omega
          rw [e1, Nat.pow_succ, Nat.pow_add]
          generalize 10 ^ (9 * (465 - b)) = P at *
          generalize hR : (3780 - x) - 9 * (465 - b) - 1 = R
          rcases Nat.eq_zero_or_pos P with h0 | h0
          · rw [h0, Nat.div_zero]
          · have e2 : M * 5 ^ x * (P * 10 ^ R * 10) = P * (2 * (5 * (M * 5 ^ x * 10 ^ R))) := by
              rw [Nat.mul_assoc P, Nat.mul_left_comm _ P, ← Nat.mul_assoc 2, Nat.mul_comm (2 * 5), ← Nat.mul_assoc (M * 5 ^ x)]
            rw [e2, Nat.mul_div_cancel_left _ h0, Nat.mul_mod_right]
        omega
    obtain ⟨s', a', b', d1, d2, d3⟩ := ih (x + 1) n s1 a1 b1 (by omega) (by omega) hb1 c2
    refine ⟨s', a', b', ?_, d2, c4.trans d3⟩
    show b234_27 aa (f234_27 aa _) _ _ _ = _
    unfold b234_27
    rw [if_neg (znle (by omega)), c1, zb0_mk, zi_add]
    have e : -(x : Int) + -1 = -((x + 1 : Nat) : Int) := by omega
    rw [e]
    exact d1
theorem f234_eq {aa M : Nat} (haa : isD aa) (hM : M < 9223372036854775808) {X : Int} (hX1 : -1100 ≤ X) (hX2 : X < 1000) {s : zS} (h : D6 aa s) : ∃ s' N a b, f234 aa (zl M) (zi X) s = some s' ∧ DEC s' aa N a b ∧ SV N M X ∧ fr [aa, aa + 1] [] s s' := by
  obtain ⟨s1, a, c1, c2, c3⟩ := f231_eq haa hM h
  have c1' : ∀ g : zS → Option zS, zb0 (f231 aa (zl M) s) g = g s1 := fun g => by rw [c1]; rfl
  by_cases q : 0 ≤ X
  · obtain ⟨Y, rfl⟩ : ∃ Y : Nat, X = Y := ⟨X.toNat, by omega⟩
    have e0 : M * 10 ^ 3780 = M * 2 ^ 0 * 10 ^ 3780 := by rw [Nat.pow_zero, Nat.mul_one]
    rw [e0] at c2
    obtain ⟨s', a', b', d1, d2, d3⟩ := f234_8_loop haa hM (X := Y) (by omega) Y 0 zF s1 a 45 (by omega) (by unfold zF; omega) c2
    refine ⟨s', _, a', b', ?_, d2, SV.up rfl, c3.trans d3⟩
    unfold f234
    rw [c1']
    exact d1
  · obtain ⟨Y, rfl⟩ : ∃ Y : Nat, X = -(Y : Int) := ⟨(-X).toNat, by omega⟩
    have e0 : M * 10 ^ 3780 = M * 5 ^ 0 * 10 ^ (3780 - 0) := by rw [Nat.pow_zero, Nat.mul_one]
    rw [e0] at c2
    obtain ⟨s', a', b', d1, d2, d3⟩ := f234_27_loop (M := M) haa (X := Y) (by omega) Y 0 zF s1 a 45 (by omega) (by unfold zF; omega) (by omega) c2
    refine ⟨s', _, a', b', ?_, d2, SV.dn ?_, c3.trans d3⟩
    · unfold f234
      rw [c1']
      show b234_8 aa (f234_8 aa _) _ _ _ = _
      unfold b234_8
      rw [if_pos (zge (by omega))]
      exact d1
    · have e1 : (10 : Nat) ^ 3780 = 5 ^ Y * 2 ^ Y * 10 ^ (3780 - Y) := by
        have e9 : Y + (3780 - Y) = 3780 := by omega
        rw [← Nat.mul_pow]
        show 10 ^ 3780 = 10 ^ Y * 10 ^ (3780 - Y)
        rw [← Nat.pow_add, e9]
      rw [e1]
      generalize 10 ^ (3780 - Y) = P
      rw [Nat.mul_right_comm, Nat.mul_assoc M, ← Nat.mul_assoc M (5 ^ Y * 2 ^ Y)]
/-! digits -/
def dgN (N : Nat) (p : Int) : Nat := if p < -3780 then 0 else N / 10 ^ (3780 + p).toNat % 10
theorem dgN_lt (N : Nat) (p : Int) : dgN N p < 10 := by
  unfold dgN
  split
  · decide
  · exact Nat.mod_lt _ (by decide)
theorem dig9 (x : Nat) {k : Nat} (hk : k ≤ 8) : x % 1000000000 / 10 ^ k % 10 = x / 10 ^ k % 10 := by
  have : k = 0 ∨ k = 1 ∨ k = 2 ∨ k = 3 ∨ k = 4 ∨ k = 5 ∨ k = 6 ∨ k = 7 ∨ k = 8 := by omega
  rcases this with rfl | rfl | rfl | rfl | rfl | rfl | rfl | rfl | rfl <;> omega
theorem f235_76_loop {aa : Nat} {s : zS} {k : Nat} (hk : k ≤ 8) : ∀ (d i n x : Nat), d + i = k → d < n → x < 1000000000 → f235_76 aa n (zi k) (zi x) (zi i) s = some (zi (x / 10 ^ d % 10 : Nat), s) := by
  intro d
  induction d with
  | zero =>
    intro i n x hd hn hx
    obtain ⟨n, rfl⟩ : ∃ k, n = k + 1 := ⟨n - 1, by omega⟩
    show b235_76 aa (f235_76 aa n) _ _ _ _ = _
    unfold b235_76
    rw [if_pos (zge (by omega)), zi_rem (by omega) (by omega) (by omega) (by omega)]
    have e : (x : Int).tmod 10 = ((x / 10 ^ 0 % 10 : Nat) : Int) := by rw [Nat.pow_zero, Nat.div_one]; rfl
    rw [e]
  | succ d ih =>
    intro i n x hd hn hx
    obtain ⟨n, rfl⟩ : ∃ k, n = k + 1 := ⟨n - 1, by omega⟩
    show b235_76 aa (f235_76 aa n) _ _ _ _ = _
    unfold b235_76
    rw [if_neg (znge (by omega)), zi_div (by omega) (by omega) (by omega) (by omega), zi_add]
    have := ih (i + 1) n (x / 10) (by omega) (by omega) (by omega)
    rw [Nat.div_div_eq_div_mul, Nat.mul_comm 10, ← Nat.pow_succ] at this
    exact this
theorem f235_46_eq {aa N a b : Nat} {s : zS} (h : DEC s aa N a b) {i k : Int} (hk0 : 0 ≤ k) (hk8 : k ≤ 8) (hi1 : -100000 ≤ i) (hi2 : i ≤ 100000) : f235_46 aa (zi i) (zi k) s = some (zi (dgN N (9 * (464 - i) + k - 3780) : Nat), s) := by
  have hb := h.2.2.2.1
  have hab := h.2.2.1
  unfold f235_46
  rw [h.1, h.2.1]
  obtain ⟨k, rfl⟩ : ∃ k' : Nat, k = k' := ⟨k.toNat, by omega⟩
  have hmid : ∀ j : Nat, i = j → j < 465 → dgN N (9 * (464 - i) + k - 3780) = lb N j / 10 ^ k % 10 := by
    intro j hj hj2
    unfold dgN lb WW
    rw [if_neg (by omega), dig9 _ (by omega), Nat.div_div_eq_div_mul, ← Nat.pow_add]
    congr 3
    omega
  by_cases q1 : i < a
  · rw [if_pos (zlt (by omega))]
    have e : dgN N (9 * (464 - i) + k - 3780) = 0 := by
      unfold dgN
      rw [if_neg (by omega), Nat.div_eq_of_lt]
      refine Nat.lt_of_lt_of_le h.2.2.2.2.2.1 ?_
      unfold WW
      exact Nat.pow_le_pow_right (by decide) (by omega)
    rw [e]
    rfl
  · rw [if_neg (znlt (by omega))]
    obtain ⟨j, rfl⟩ : ∃ j : Nat, i = j := ⟨i.toNat, by omega⟩
    by_cases q2 : j < b
    · have hl := lb_lt N j
      rw [if_pos (zlt (by omega)), if_pos (zi_ix (by omega) (by omega) (by omega)), zi_toNat (by omega), h.2.2.2.2.1 j (by omega), hmid j rfl (by omega)]
      exact f235_76_loop (by omega) k 0 zF _ (by omega) (by unfold zF; omega) hl
    · rw [if_neg (znlt (by omega))]
      by_cases q3 : j < 465
      · rw [hmid j rfl q3, lb_above h.2.2.2.2.2.2 (by omega) q3, Nat.zero_div]
        rfl
      · unfold dgN
        rw [if_pos (by omega)]
        rfl
theorem f235_eq {aa N a b : Nat} {s : zS} (h : DEC s aa N a b) {p : Int} (h1 : -100000 ≤ p) (h2 : p ≤ 100000) : f235 aa (zi p) s = some (zi (dgN N p : Nat), s) := by
  unfold f235
  by_cases q : p < 0
  · have e1 : ((zi 45) + (((-(zi p)) - (zi 1)) / (zi 9))) = zi (45 + (-p - 1) / 9) := by
      rw [zi_neg, zi_sub, zi_div (by omega) (by omega) (by omega) (by omega), zi_add]
      congr 2
      exact Int.tdiv_eq_ediv_of_nonneg (by omega)
    have e2 : ((zi 8) - (zrem ((-(zi p)) - (zi 1)) (zi 9))) = zi (8 - (-p - 1) % 9) := by
      rw [zi_neg, zi_sub, zi_rem (by omega) (by omega) (by omega) (by omega), zi_sub]
      congr 2
      exact Int.tmod_eq_emod_of_nonneg (by omega)
    rw [if_pos (zlt (by omega)), e1]
    unfold f235_24
    rw [if_pos (zlt (by omega)), e2, f235_46_eq h (by omega) (by omega) (by omega) (by omega)]
    have e9 : 9 * (464 - (45 + (-p - 1) / 9)) + (8 - (-p - 1) % 9) - 3780 = p := by omega
    rw [e9]
  · have e1 : ((zi 44) - (zi p / (zi 9))) = zi (44 - p / 9) := by
      rw [zi_div (by omega) (by omega) (by omega) (by omega), zi_sub]
      congr 2
      exact Int.tdiv_eq_ediv_of_nonneg (by omega)
    have e2 : zrem (zi p) (zi 9) = zi (p % 9) := by
      rw [zi_rem (by omega) (by omega) (by omega) (by omega)]
      congr 1
      exact Int.tmod_eq_emod_of_nonneg (by omega)
    rw [if_neg (znlt (by omega)), e1]
    unfold f235_24
    rw [if_neg (znlt (by omega)), e2, f235_46_eq h (by omega) (by omega) (by omega) (by omega)]
    have e9 : 9 * (464 - (44 - p / 9)) + p % 9 - 3780 = p := by omega
    rw [e9]
/-! zero -/
theorem f236_loop {aa N a b : Nat} {s : zS} (h : DEC s aa N a b) : ∀ (d i n : Nat), d + i = b → d < n → N < WW i → f236_5 aa n (zi i) s = some (zi (if N = 0 then 1 else 0), s) := by
  have hb := h.2.2.2.1
  intro d
  induction d with
  | zero =>
    intro i n hd hn hN
    obtain ⟨n, rfl⟩ : ∃ k, n = k + 1 := ⟨n - 1, by omega⟩
    obtain rfl : i = b := by omega
    show b236_5 aa (f236_5 aa n) _ _ = _
    unfold b236_5
    have h0 : N = 0 := Nat.eq_zero_of_dvd_of_lt h.2.2.2.2.2.2 hN
    rw [h.2.1, if_pos (zge (by omega)), if_pos h0]
  | succ d ih =>
    intro i n hd hn hN
    obtain ⟨n, rfl⟩ : ∃ k, n = k + 1 := ⟨n - 1, by omega⟩
    have hl := lb_lt N i
    show b236_5 aa (f236_5 aa n) _ _ = _
    unfold b236_5
    rw [h.2.1, if_neg (znge (by omega)), if_pos (zi_ix (by omega) (by omega) (by omega)), zi_toNat (by omega), h.2.2.2.2.1 i (by omega)]
    by_cases q : lb N i = 0
    · rw [if_pos (zeq (by omega)), zi_add]
      exact ih (i + 1) n (by omega) (by omega) (WW_strip (by omega) hN q)
    · have h0 : N ≠ 0 := by
        rintro rfl
        unfold lb at q
        rw [Nat.zero_div] at q
        exact q rfl
      rw [if_neg (zne (by omega)), if_neg h0]
theorem f236_eq {aa N a b : Nat} {s : zS} (h : DEC s aa N a b) : f236 aa s = some (zi (if N = 0 then 1 else 0), s) := by
  have hb := h.2.2.2.1
  have hab := h.2.2.1
  unfold f236
  rw [h.1]
  exact f236_loop h (b - a) a zF (by omega) (by unfold zF; omega) h.2.2.2.2.2.1
/-! the highest place -/
def topN (N : Nat) (T : Int) : Prop := -3780 ≤ T ∧ 10 ^ (3780 + T).toNat ≤ N ∧ N < 10 ^ (3781 + T).toNat
theorem topN_uniq {N : Nat} {T T' : Int} (h : topN N T) (g : topN N T') : T = T' := by
  have aux : ∀ {T T' : Int}, topN N T → topN N T' → ¬ T < T' := by
    intro T T' h g q
    have h1 := h.2.2
    have h2 := g.2.1
    have : 10 ^ (3781 + T).toNat ≤ 10 ^ (3780 + T').toNat := Nat.pow_le_pow_right (by decide) (by have := h.1; omega)
    omega
  have := aux h g
  have := aux g h
  omega
theorem f237_31_loop {aa N a b : Nat} {s : zS} (h : DEC s aa N a b) {x1 : Int32} {q : Int} (hq : -3780 ≤ q) (hNq : 10 ^ (3780 + q).toNat ≤ N) : ∀ (d n : Nat) (p : Int), d + q = p → d < n → p ≤ 10000 → N < 10 ^ (3781 + p).toNat → ∃ T, topN N T ∧ f237_31 aa n x1 (zi p) s = some (zi T, s) ∧ q ≤ T ∧ T ≤ p := by
  have fin : ∀ (n : Nat) (p : Int), q ≤ p → p ≤ 10000 → N < 10 ^ (3781 + p).toNat → 10 ^ (3780 + p).toNat ≤ N → f237_31 aa (n + 1) x1 (zi p) s = some (zi p, s) := by
    intro n p h1 h2 h3 h4
    show b237_31 aa (f237_31 aa n) _ _ _ = _
    unfold b237_31
    have e : dgN N p ≠ 0 := by
      unfold dgN
      have e1 : (3781 + p).toNat = (3780 + p).toNat + 1 := by omega
      rw [e1, Nat.pow_succ] at h3
      rw [if_neg (by omega), Nat.mod_eq_of_lt (Nat.div_lt_of_lt_mul h3)]
      have := Nat.div_pos h4 (Nat.pow_pos (by decide))
      omega
    have := dgN_lt N p
    rw [f235_eq h (by omega) (by omega), zb1_mk, if_pos (zne (by omega))]
  intro d
  induction d with
  | zero =>
    intro n p hd hn hp hN
    obtain ⟨n, rfl⟩ : ∃ k, n = k + 1 := ⟨n - 1, by omega⟩
    obtain rfl : q = p := by omega
    exact ⟨q, ⟨hq, hNq, hN⟩, fin n q (by omega) hp hN hNq, by omega, by omega⟩
  | succ d ih =>
    intro n p hd hn hp hN
    obtain ⟨n, rfl⟩ : ∃ k, n = k + 1 := ⟨n - 1, by omega⟩
    by_cases g : 10 ^ (3780 + p).toNat ≤ N
    · exact ⟨p, ⟨by omega, g, hN⟩, fin n p (by omega) hp hN g, by omega, by omega⟩
    · have e1 : (3781 + (p - 1)).toNat = (3780 + p).toNat := by omega
      obtain ⟨T, t1, t2, t3, t4⟩ := ih n (p - 1) (by omega) (by omega) (by omega) (by rw [e1]; omega)
      refine ⟨T, t1, ?_, t3, by omega⟩
      show b237_31 aa (f237_31 aa n) _ _ _ = _
      unfold b237_31
      have e : dgN N p = 0 := by
        unfold dgN
        rw [if_neg (by omega), Nat.div_eq_of_lt (by omega)]
      rw [f235_eq h (by omega) (by omega), zb1_mk, e, if_neg (not_not_intro (zeq (by omega))), zi_add]
      exact t2
theorem f237_loop {aa N a b : Nat} {s : zS} (h : DEC s aa N a b) (hN0 : N ≠ 0) : ∀ (d i n : Nat), d + i = b → d < n → N < WW i → ∃ T, topN N T ∧ f237_5 aa n (zi i) s = some (zi T, s) ∧ T ≤ 404 := by
  have hb := h.2.2.2.1
  intro d
  induction d with
  | zero =>
    intro i n hd hn hN
    obtain rfl : i = b := by omega
    exact absurd (Nat.eq_zero_of_dvd_of_lt h.2.2.2.2.2.2 hN) hN0
  | succ d ih =>
    intro i n hd hn hN
    obtain ⟨n, rfl⟩ : ∃ k, n = k + 1 := ⟨n - 1, by omega⟩
    have hl := lb_lt N i
    by_cases q : lb N i = 0
    · obtain ⟨T, t1, t2, t3⟩ := ih (i + 1) n (by omega) (by omega) (WW_strip (by omega) hN q)
      refine ⟨T, t1, ?_, t3⟩
      show b237_5 aa (f237_5 aa n) _ _ = _
      unfold b237_5
      rw [if_pos (zi_ix (by omega) (by omega) (by omega)), zi_toNat (by omega), h.2.2.2.2.1 i (by omega), if_neg (not_not_intro (zeq (by omega))), zi_add]
      exact t2
    · have hge : WW (i + 1) ≤ N := by
        rcases Nat.lt_or_ge N (WW (i + 1)) with g | g
        · exact absurd (lb_small g) q
        · exact g
      unfold WW at hge hN
      have e1 : 9 * (465 - (i + 1)) = (3780 + (9 * (44 - (i : Int)))).toNat := by omega
      have e2 : 9 * (465 - i) = (3781 + (9 * (44 - (i : Int)) + 8)).toNat := by omega
      rw [e1] at hge
      rw [e2] at hN
      obtain ⟨T, t1, t2, t3, t4⟩ := f237_31_loop h (x1 := zi i) (q := 9 * (44 - (i : Int))) (by omega) hge 8 zF (9 * (44 - (i : Int)) + 8) (by omega) (by unfold zF; omega) (by omega) hN
      refine ⟨T, t1, ?_, by omega⟩
      show b237_5 aa (f237_5 aa n) _ _ = _
      unfold b237_5
      rw [if_pos (zi_ix (by omega) (by omega) (by omega)), zi_toNat (by omega), h.2.2.2.2.1 i (by omega), if_pos (zne (by omega)), zi_sub, zi_mul, zi_add]
      exact t2
theorem f237_eq {aa N a b : Nat} {s : zS} (h : DEC s aa N a b) (hN0 : N ≠ 0) : ∃ T, topN N T ∧ f237 aa s = some (zi T, s) ∧ T ≤ 404 := by
  have hb := h.2.2.2.1
  have hab := h.2.2.1
  unfold f237
  rw [h.1]
  exact f237_loop h hN0 (b - a) a zF (by omega) (by unfold zF; omega) h.2.2.2.2.2.1
