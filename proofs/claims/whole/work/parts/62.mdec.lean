/-! the reference's Decimal: limbs of N in base 10^9, N in units of 10^-3780 -/
def WW (k : Nat) : Nat := 10 ^ (9 * (465 - k))
theorem WW_pos (k : Nat) : 0 < WW k := Nat.pow_pos (by decide)
theorem WW_succ {k : Nat} (h : k < 465) : WW k = WW (k + 1) * 1000000000 := by
  unfold WW
  have e : 9 * (465 - k) = 9 * (465 - (k + 1)) + 9 := by omega
  rw [e, Nat.pow_add]
theorem WW_465 : WW 465 = 1 := rfl
theorem WW_mono {a b : Nat} (h : a ≤ b) : WW b ≤ WW a := Nat.pow_le_pow_right (by decide) (by omega)
theorem WW_dvd {a b : Nat} (h : a ≤ b) : WW b ∣ WW a := Nat.pow_dvd_pow 10 (by omega)
/-- the limb at i -/
def lb (N i : Nat) : Nat := N / WW (i + 1) % 1000000000
theorem lb_lt (N i : Nat) : lb N i < 1000000000 := Nat.mod_lt _ (by decide)
def cy (N k : Nat) : Nat := 2 * (N % WW k) / WW k
theorem two_step (N Q B : Nat) (hQ : 0 < Q) : (2 * N / Q) % B = (2 * (N / Q % B) + 2 * (N % Q) / Q) % B ∧ 2 * (N % (Q * B)) / (Q * B) = (2 * (N / Q % B) + 2 * (N % Q) / Q) / B := by
  constructor
  · have e : 2 * N = Q * (2 * (N / Q)) + 2 * (N % Q) := by
      have := Nat.div_add_mod N Q
      calc 2 * N = 2 * (Q * (N / Q) + N % Q) := by rw [this]
        _ = Q * (2 * (N / Q)) + 2 * (N % Q) := by rw [Nat.mul_add, Nat.mul_left_comm]
    have e2 : 2 * N / Q = 2 * (N / Q) + 2 * (N % Q) / Q := by
      rw [e, Nat.mul_add_div hQ]
    rw [e2]
    have h := Nat.div_add_mod (N / Q) B
    have e4 : 2 * (N / Q) + 2 * (N % Q) / Q = B * (2 * (N / Q / B)) + (2 * (N / Q % B) + 2 * (N % Q) / Q) := by
      calc 2 * (N / Q) + 2 * (N % Q) / Q = 2 * (B * (N / Q / B) + N / Q % B) + 2 * (N % Q) / Q := by rw [h]
        _ = _ := by rw [Nat.mul_add, Nat.mul_left_comm, Nat.add_assoc]
    rw [e4, Nat.mul_add_mod]
  · rw [Nat.mod_mul, ← Nat.div_div_eq_div_mul]
    have e : 2 * (N % Q + Q * (N / Q % B)) = Q * (2 * (N / Q % B)) + 2 * (N % Q) := by
      rw [Nat.mul_add, Nat.mul_left_comm, Nat.add_comm]
    rw [e, Nat.mul_add_div hQ]
theorem half_step (N Q : Nat) : N / 2 / Q % 1000000000 = (N / Q % 1000000000 + N / (Q * 1000000000) % 2 * 1000000000) / 2 := by
  have e : N / 2 / Q = N / Q / 2 := by rw [Nat.div_div_eq_div_mul, Nat.div_div_eq_div_mul, Nat.mul_comm]
  rw [e, ← Nat.div_div_eq_div_mul]
  omega
theorem lb_two {N i : Nat} (hi : i < 465) : lb (2 * N) i = (2 * lb N i + cy N (i + 1)) % 1000000000 ∧ cy N i = (2 * lb N i + cy N (i + 1)) / 1000000000 := by
  have h := two_step N (WW (i + 1)) 1000000000 (WW_pos _)
  unfold lb cy
  rw [WW_succ hi]
  exact h
theorem cy_le (N k : Nat) : cy N k ≤ 1 := by
  unfold cy
  have h := Nat.mod_lt N (WW_pos k)
  have : 2 * (N % WW k) / WW k < 2 := Nat.div_lt_of_lt_mul (by omega)
  omega
theorem lb_half {N i : Nat} (hi : i < 465) : lb (N / 2) i = (lb N i + N / WW i % 2 * 1000000000) / 2 := by
  unfold lb
  rw [WW_succ hi]
  exact half_step N (WW (i + 1))
theorem lb_par (N i : Nat) : lb N i % 2 = N / WW (i + 1) % 2 := by
  unfold lb
  omega
theorem lb_small {N i : Nat} (h : N < WW (i + 1)) : lb N i = 0 := by
  unfold lb
  rw [Nat.div_eq_of_lt h]
theorem lb_below {N a i : Nat} (h : N < WW a) (hi : i < a) : lb N i = 0 := lb_small (Nat.lt_of_lt_of_le h (WW_mono (by omega)))
/-- the Decimal at aa holds N -/
def DEC (s : zS) (aa N a b : Nat) : Prop := s.1 aa 1 = zi a ∧ s.1 aa 2 = zi b ∧ a ≤ b ∧ b ≤ 465 ∧ (∀ i, i < 465 → s.1 (aa + 1) i = zi (lb N i : Nat)) ∧ N < WW a ∧ WW b ∣ N
theorem lb_above {N b i : Nat} (h : WW b ∣ N) (hb : b ≤ i) (hi : i < 465) : lb N i = 0 := by
  unfold lb
  obtain ⟨q, rfl⟩ := Nat.dvd_trans (WW_dvd hb) h
  rw [WW_succ hi, Nat.mul_assoc, Nat.mul_div_cancel_left _ (WW_pos _), Nat.mul_mod_right]
theorem DEC.D6 {s : zS} {aa N a b : Nat} (h : DEC s aa N a b) : D6 aa s := by
  refine ⟨a, b, h.1, h.2.1, h.2.2.1, h.2.2.2.1, fun k hk hc => ?_⟩
  rw [h.2.2.2.2.1 k hk]
  rcases hc with hc | hc
  · rw [lb_below h.2.2.2.2.2.1 hc]
    rfl
  · rw [lb_above h.2.2.2.2.2.2 hc hk]
    rfl
/-- a limb 0 below: less -/
theorem WW_strip {N a : Nat} (ha : a < 465) (h : N < WW a) (hz : lb N a = 0) : N < WW (a + 1) := by
  rw [WW_succ ha] at h
  unfold lb at hz
  rw [Nat.mod_eq_of_lt (Nat.div_lt_of_lt_mul h)] at hz
  rcases Nat.lt_or_ge N (WW (a + 1)) with q | q
  · exact q
  · have := Nat.div_pos q (WW_pos _)
    omega
theorem WW_strip2 {N b : Nat} (hb : b < 465) (h : WW (b + 1) ∣ N) (hz : lb N b = 0) : WW b ∣ N := by
  obtain ⟨q, rfl⟩ := h
  unfold lb at hz
  rw [Nat.mul_div_cancel_left _ (WW_pos _)] at hz
  rw [WW_succ hb]
  exact Nat.mul_dvd_mul (Nat.dvd_refl _) (Nat.dvd_of_mod_eq_zero hz)
abbrev isD (aa : Nat) : Prop := aa = 32 ∨ aa = 34 ∨ aa = 36
theorem DEC.mv {A B : List Nat} {s s' : zS} {aa N a b : Nat} (h : fr A B s s') (hD : DEC s aa N a b) (haa : isD aa) (c1 : A.contains aa = false) (c2 : A.contains (aa + 1) = false) : DEC s' aa N a b := by
  unfold DEC
  rw [h.f c1 (by omega), h.f c2 (by omega)]
  exact hD
/-! clear -/
theorem f230_loop {aa c : Nat} (haa : isD aa) (hc : c ≤ 465) : ∀ (d i n : Nat) (s : zS), d + i = c → d < n → s.1 aa 2 = zi c → (∀ k, k < 465 → (k < i ∨ c ≤ k) → s.1 (aa + 1) k = zi 0) →
    ∃ s', f230_5 aa n (zi i) s = some s' ∧ DEC s' aa 0 45 45 ∧ fr [aa, aa + 1] [] s s' := by
  intro d
  induction d with
  | zero =>
    intro i n s hd hn h2 hz
    obtain ⟨n, rfl⟩ : ∃ k, n = k + 1 := ⟨n - 1, by omega⟩
    refine ⟨setI (setI s aa 1 (zi 45)) aa 2 (zi 45), ?_, ⟨?_, ?_, by omega, by omega, ?_, WW_pos _, Nat.dvd_zero _⟩, (fr.refl.sI (.inl (by simp))).sI (.inl (by simp))⟩
    · show b230_5 aa (f230_5 aa n) _ _ = _
      unfold b230_5
      rw [h2, if_pos (zge (by omega))]
    · rw [gI_ne (.inr (by decide)), gI_eq]
      rfl
    · rw [gI_eq]
      rfl
    · intro k hk
      rw [gI_fn (by omega), gI_fn (by omega), hz k hk (by omega)]
      unfold lb
      rw [Nat.zero_div]
      rfl
  | succ d ih =>
    intro i n s hd hn h2 hz
    obtain ⟨n, rfl⟩ : ∃ k, n = k + 1 := ⟨n - 1, by omega⟩
    obtain ⟨s', a1, a2, a3⟩ := ih (i + 1) n (setB s (aa + 1) i (zi 0)) (by omega) (by omega) (by rw [gB_fn (by omega)]; exact h2) (by
      intro k hk hc
      rw [gB_eq]
      by_cases e : k = i
      · rw [e, upd_eq]
      · rw [upd_ne e]
        exact hz k hk (by omega))
    refine ⟨s', ?_, a2, (fr.refl.sB (by simp)).trans a3⟩
    show b230_5 aa (f230_5 aa n) _ _ = _
    unfold b230_5
    rw [h2, if_neg (znge (by omega)), if_pos (zi_ix (by omega) (by omega) (by omega)), zi_toNat (by omega), zi_add]
    exact a1
theorem f230_eq {aa : Nat} (haa : isD aa) {s : zS} (h : D6 aa s) : ∃ s', f230 aa s = some s' ∧ DEC s' aa 0 45 45 ∧ fr [aa, aa + 1] [] s s' := by
  obtain ⟨b, c, h1, h2, h3, h4, h5⟩ := h
  unfold f230
  rw [h1]
  exact f230_loop haa h4 (c - b) b zF s (by omega) (by unfold zF; omega) h2 h5
/-! set -/
theorem lb_set {M t : Nat} (ht : t ≤ 44) : lb (M * 10 ^ 3780) (44 - t) = M / 10 ^ (9 * t) % 1000000000 := by
  unfold lb WW
  have e : 9 * (465 - (44 - t + 1)) = 3780 + 9 * t := by omega
  rw [e, Nat.pow_add, ← Nat.div_div_eq_div_mul, Nat.mul_div_cancel _ (Nat.pow_pos (by decide))]
theorem f231_loop {aa M : Nat} (haa : isD aa) (hM : M < 9223372036854775808) : ∀ (d t n : Nat) (s : zS), d + t = 3 → d < n → s.1 aa 2 = zi 45 → (∀ i, i < 465 → s.1 (aa + 1) i = zi ((if 45 - t ≤ i then lb (M * 10 ^ 3780) i else 0 : Nat) : Int)) →
    ∃ s' a, f231_10 aa n (zl (M / 10 ^ (9 * t) : Nat)) (zi (45 - t : Nat)) s = some s' ∧ DEC s' aa (M * 10 ^ 3780) a 45 ∧ fr [aa, aa + 1] [] s s' := by
  have fin : ∀ (t n : Nat) (s : zS), t ≤ 3 → M / 10 ^ (9 * t) = 0 → s.1 aa 2 = zi 45 → (∀ i, i < 465 → s.1 (aa + 1) i = zi ((if 45 - t ≤ i then lb (M * 10 ^ 3780) i else 0 : Nat) : Int)) →
      ∃ s' a, f231_10 aa (n + 1) (zl (M / 10 ^ (9 * t) : Nat)) (zi (45 - t : Nat)) s = some s' ∧ DEC s' aa (M * 10 ^ 3780) a 45 ∧ fr [aa, aa + 1] [] s s' := by
    intro t n s ht h0 h2 hz
    have hlt : M < 10 ^ (9 * t) := by
      rcases Nat.lt_or_ge M (10 ^ (9 * t)) with q | q
      · exact q
      · have := Nat.div_pos q (Nat.pow_pos (by decide))
        omega
    have hN : M * 10 ^ 3780 < WW (45 - t) := by
      unfold WW
      have e : 9 * (465 - (45 - t)) = 9 * t + 3780 := by omega
      rw [e, Nat.pow_add]
      exact Nat.mul_lt_mul_of_pos_right hlt (Nat.pow_pos (by decide))
    refine ⟨setI s aa 1 (zi (45 - t : Nat)), 45 - t, ?_, ⟨gI_eq _ _ _ _, ?_, by omega, by omega, ?_, hN, ?_⟩, fr.refl.sI (.inl (by simp))⟩
    · show b231_10 aa (f231_10 aa n) _ _ _ = _
      unfold b231_10
      rw [h0, if_pos (zlle (by omega))]
    · rw [gI_ne (.inr (by decide))]
      exact h2
    · intro i hi
      rw [gI_fn (by omega), hz i hi]
      by_cases q : 45 - t ≤ i
      · rw [if_pos q]
      · rw [if_neg q, lb_below hN (by omega)]
    · exact Nat.dvd_mul_left _ _
  intro d
  induction d with
  | zero =>
    intro t n s hd hn h2 hz
    obtain ⟨n, rfl⟩ : ∃ k, n = k + 1 := ⟨n - 1, by omega⟩
    have e : t = 3 := by omega
    subst e
    exact fin 3 n s (by omega) (Nat.div_eq_of_lt (Nat.lt_of_lt_of_le hM (by decide))) h2 hz
  | succ d ih =>
    intro t n s hd hn h2 hz
    obtain ⟨n, rfl⟩ : ∃ k, n = k + 1 := ⟨n - 1, by omega⟩
    by_cases q : M / 10 ^ (9 * t) = 0
    · exact fin t n s (by omega) q h2 hz
    · have hle : M / 10 ^ (9 * t) ≤ M := Nat.div_le_self _ _
      have eN : M / 10 ^ (9 * (t + 1)) = M / 10 ^ (9 * t) / 1000000000 := by
        have e2 : 9 * (t + 1) = 9 * t + 9 := by omega
        rw [e2, Nat.pow_add, ← Nat.div_div_eq_div_mul]
      have eL : lb (M * 10 ^ 3780) (44 - t) = M / 10 ^ (9 * t) % 1000000000 := lb_set (by omega)
      have ih' := ih (t + 1) n
      rw [eN] at ih'
      clear ih fin
      generalize M / 10 ^ (9 * t) = y at *
      have ed : zl ((y : Nat) : Int) / zl 1000000000 = zl ((y / 1000000000 : Nat) : Int) := by
        rw [zl_div (by omega) (by omega) (by omega) (by omega)]
        have e1 : (1000000000 : Int) = ((1000000000 : Nat) : Int) := rfl
        rw [e1, ntdiv]
      have er : zL2I (zremL (zl ((y : Nat) : Int)) (zl 1000000000)) = zi (lb (M * 10 ^ 3780) (44 - t) : Nat) := by
        rw [zl_rem (by omega) (by omega) (by omega) (by omega)]
        have e1 : (1000000000 : Int) = ((1000000000 : Nat) : Int) := rfl
        rw [e1, ntmod, zL2I_zl, eL]
      have e5 : zi (45 - t : Nat) + zi (-1) = zi (45 - (t + 1) : Nat) := by
        rw [zi_add]
        congr 1
        omega
      have e6 : 45 - (t + 1) = 44 - t := by omega
      obtain ⟨s', a, a1, a2, a3⟩ := ih' (setB s (aa + 1) (45 - (t + 1)) (zi (lb (M * 10 ^ 3780) (44 - t) : Nat))) (by omega) (by omega) (by rw [gB_fn (by omega)]; exact h2) (by
        intro i hi
        rw [gB_eq]
        by_cases e : i = 45 - (t + 1)
        · rw [e, upd_eq, if_pos (Nat.le_refl _), e6]
        · rw [upd_ne e, hz i hi]
          by_cases q : 45 - t ≤ i
          · rw [if_pos q, if_pos (by omega)]
          · rw [if_neg q, if_neg (by omega)])
      refine ⟨s', a, ?_, a2, (fr.refl.sB (by simp)).trans a3⟩
      show b231_10 aa (f231_10 aa n) _ _ _ = _
      unfold b231_10
      rw [if_neg (zlnle (by omega)), e5, if_pos (zi_ix (by omega) (by omega) (by omega)), ed, er, zi_toNat (by omega)]
      exact a1
theorem f231_eq {aa M : Nat} (haa : isD aa) (hM : M < 9223372036854775808) {s : zS} (h : D6 aa s) : ∃ s' a, f231 aa (zl M) s = some s' ∧ DEC s' aa (M * 10 ^ 3780) a 45 ∧ fr [aa, aa + 1] [] s s' := by
  obtain ⟨s1, a1, a2, a3⟩ := f230_eq haa h
  obtain ⟨s', a, b1, b2, b3⟩ := f231_loop haa hM 3 0 zF s1 (by omega) (by unfold zF; omega) a2.2.1 (by
    intro i hi
    rw [a2.2.2.2.2.1 i hi]
    have e : lb 0 i = 0 := by unfold lb; rw [Nat.zero_div]
    rw [e]
    by_cases q : 45 - 0 ≤ i
    · rw [if_pos q, lb_above (N := M * 10 ^ 3780) (b := 45) (Nat.dvd_mul_left _ _) (by omega) hi]
    · rw [if_neg q])
  refine ⟨s', a, ?_, b2, a3.trans b3⟩
  unfold f231
  rw [a1]
  have e : M / 10 ^ (9 * 0) = M := Nat.div_one M
  rw [e] at b1
  exact b1
