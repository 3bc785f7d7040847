/-! the class's Decimal: limbs of A, the lowest first -/
def lc (A i : Nat) : Nat := A / 10 ^ (9 * i) % 1000000000
theorem lc_lt (A i : Nat) : lc A i < 1000000000 := Nat.mod_lt _ (by decide)
def cm (m A i : Nat) : Nat := m * (A % 10 ^ (9 * i)) / 10 ^ (9 * i)
theorem mul_step (m N Q B : Nat) (hQ : 0 < Q) : (m * N / Q) % B = (m * (N / Q % B) + m * (N % Q) / Q) % B ∧ m * (N % (Q * B)) / (Q * B) = (m * (N / Q % B) + m * (N % Q) / Q) / B := by
  constructor
  · have e : m * N = Q * (m * (N / Q)) + m * (N % Q) := by
      have := Nat.div_add_mod N Q
      calc m * N = m * (Q * (N / Q) + N % Q) := by rw [this]
        _ = Q * (m * (N / Q)) + m * (N % Q) := by rw [Nat.mul_add, Nat.mul_left_comm]
    have e2 : m * N / Q = m * (N / Q) + m * (N % Q) / Q := by
      rw [e, Nat.mul_add_div hQ]
    rw [e2]
    have h := Nat.div_add_mod (N / Q) B
    have e4 : m * (N / Q) + m * (N % Q) / Q = B * (m * (N / Q / B)) + (m * (N / Q % B) + m * (N % Q) / Q) := by
      calc m * (N / Q) + m * (N % Q) / Q = m * (B * (N / Q / B) + N / Q % B) + m * (N % Q) / Q := by rw [h]
        _ = _ := by rw [Nat.mul_add, Nat.mul_left_comm, Nat.add_assoc]
    rw [e4, Nat.mul_add_mod]
  · rw [Nat.mod_mul, ← Nat.div_div_eq_div_mul]
    have e : m * (N % Q + Q * (N / Q % B)) = Q * (m * (N / Q % B)) + m * (N % Q) := by
      rw [Nat.mul_add, Nat.mul_left_comm, Nat.add_comm]
    rw [e, Nat.mul_add_div hQ]
theorem p9 (i : Nat) : 10 ^ (9 * (i + 1)) = 10 ^ (9 * i) * 1000000000 := by
  have e : 9 * (i + 1) = 9 * i + 9 := by omega
  rw [e, Nat.pow_add]
theorem lc_mul (m A i : Nat) : lc (m * A) i = (m * lc A i + cm m A i) % 1000000000 ∧ cm m A (i + 1) = (m * lc A i + cm m A i) / 1000000000 := by
  have h := mul_step m A (10 ^ (9 * i)) 1000000000 (p_pos _)
  unfold lc cm
  rw [p9]
  exact h
theorem cm_lt {m A i : Nat} (hm : 0 < m) : cm m A i < m := by
  unfold cm
  refine Nat.div_lt_of_lt_mul ?_
  rw [Nat.mul_comm]
  exact Nat.mul_lt_mul_of_pos_right (Nat.mod_lt _ (p_pos _)) hm
/-- the class's limbs hold A -/
def CL (s : zS) (A u : Nat) : Prop := s.1 16 1 = zi u ∧ u ≤ 96 ∧ (∀ i, i < u → s.2.1 17 i = zl (lc A i : Nat)) ∧ A < 10 ^ (9 * u) ∧ (u = 0 ∨ 10 ^ (9 * (u - 1)) ≤ A)
theorem small_u {A u : Nat} (hA : A < 10 ^ 855) (h : 10 ^ (9 * u) ≤ A) : u < 95 := by
  rcases Nat.lt_or_ge u 95 with g | g
  · exact g
  · have : 10 ^ 855 ≤ 10 ^ (9 * u) := Nat.pow_le_pow_right (by decide) (by omega)
    exact absurd (Nat.lt_of_lt_of_le hA (Nat.le_trans this h)) (Nat.lt_irrefl _)
theorem zl_quo {x : Nat} (hx : x < 9223372036854775808) : zl (x : Int) / zl 1000000000 = zl ((x / 1000000000 : Nat) : Int) := by
  rw [zl_div (by omega) (by omega) (by omega) (by omega)]
  rfl
theorem zl_remn {x : Nat} (hx : x < 9223372036854775808) : zremL (zl (x : Int)) (zl 1000000000) = zl ((x % 1000000000 : Nat) : Int) := by
  rw [zl_rem (by omega) (by omega) (by omega) (by omega)]
  rfl
theorem pow_gt {A y : Nat} (h : A / y = 0) (hy : 0 < y) : A < y := by
  rcases Nat.lt_or_ge A y with g | g
  · exact g
  · have := Nat.div_pos g hy
    omega
/-- the rest that is carried out -/
theorem f115_58_loop {A : Nat} (hA : A < 10 ^ 855) : ∀ (d t n : Nat) (s : zS) (u : Nat), d + t = 2 → d < n → u ≤ 96 → s.1 16 1 = zi u → (∀ i, i < u → s.2.1 17 i = zl (lc A i : Nat)) → A / 10 ^ (9 * u) < 10 ^ (9 * d) → A / 10 ^ (9 * u) < 9223372036854775808 → (A / 10 ^ (9 * u) = 0 → u = 0 ∨ 10 ^ (9 * (u - 1)) ≤ A) →
    ∃ s' u', f115_58 n (zl (A / 10 ^ (9 * u) : Nat)) (zi t) s = some s' ∧ CL s' A u' ∧ fr [16, 17] [] s s' := by
  intro d
  induction d with
  | zero =>
    intro t n s u hd hn hu h1 hz hlt hb hlo
    obtain ⟨n, rfl⟩ : ∃ k, n = k + 1 := ⟨n - 1, by omega⟩
    have h0 : A / 10 ^ (9 * u) = 0 := by
      rw [Nat.mul_zero, Nat.pow_zero] at hlt
      exact Nat.lt_one_iff.mp hlt
    refine ⟨s, u, ?_, ⟨h1, hu, hz, pow_gt h0 (p_pos _), hlo h0⟩, fr.refl⟩
    show b115_58 (f115_58 n) _ _ _ = _
    unfold b115_58
    rw [if_pos (zge (by omega))]
  | succ d ih =>
    intro t n s u hd hn hu h1 hz hlt hb hlo
    obtain ⟨n, rfl⟩ : ∃ k, n = k + 1 := ⟨n - 1, by omega⟩
    by_cases h0 : A / 10 ^ (9 * u) = 0
    · refine ⟨s, u, ?_, ⟨h1, hu, hz, pow_gt h0 (p_pos _), hlo h0⟩, fr.refl⟩
      show b115_58 (f115_58 n) _ _ _ = _
      unfold b115_58
      rw [if_neg (znge (by omega)), h0, if_pos (zlle (by omega))]
    · have hge : 10 ^ (9 * u) ≤ A := by
        rcases Nat.lt_or_ge A (10 ^ (9 * u)) with g | g
        · exact absurd (Nat.div_eq_of_lt g) h0
        · exact g
      have hu2 := small_u hA hge
      have eN : A / 10 ^ (9 * (u + 1)) = A / 10 ^ (9 * u) / 1000000000 := by
        rw [p9, Nat.div_div_eq_div_mul]
      have hq := ih (t + 1) n (setI (setK s 17 u (zl (lc A u : Nat))) 16 1 (zi (u + 1 : Nat))) (u + 1) (by omega) (by omega) (by omega) rfl (fun i hi => by
        show vp_updL (s.2.1 17) u _ i = _
        by_cases e : i = u
        · rw [e, updL_eq]
        · rw [updL_ne e]
          exact hz i (by omega)) (by
        rw [eN]
        refine Nat.div_lt_of_lt_mul ?_
        rw [Nat.mul_comm 1000000000, ← p9]
        exact hlt) (by rw [eN]; omega) (fun _ => .inr hge)
      rw [eN] at hq
      have eL : lc A u = A / 10 ^ (9 * u) % 1000000000 := rfl
      rw [eL] at hq
      generalize A / 10 ^ (9 * u) = y at *
      obtain ⟨s', u', a1, a2, a3⟩ := hq
      refine ⟨s', u', ?_, a2, ((fr.refl.sK rfl).sI (.inl rfl)).trans a3⟩
      show b115_58 (f115_58 n) _ _ _ = _
      unfold b115_58
      rw [if_neg (znge (by omega)), if_neg (zlnle (by omega)), h1, if_neg (znge (by omega)), if_pos (zi_ix (by omega) (by omega) (by omega)), zl_quo hb, zl_remn hb, zi_add, zi_add, zi_toNat (by omega)]
      exact a1
theorem f115_loop {A m u : Nat} (hm : 0 < m) (hm2 : m ≤ 1220703125) (hA : m * A < 10 ^ 855) (hu : u ≤ 96) (hAu : A < 10 ^ (9 * u)) (hlo : u = 0 ∨ 10 ^ (9 * (u - 1)) ≤ A) : ∀ (d i n : Nat) (s : zS), d + i = u → d < n → s.1 16 1 = zi u → (∀ j, j < u → s.2.1 17 j = zl (lc (if j < i then m * A else A) j : Nat)) →
    ∃ s' u', f115_5 n (zl m) (zl (cm m A i : Nat)) (zi i) s = some s' ∧ CL s' (m * A) u' ∧ fr [16, 17] [] s s' := by
  intro d
  induction d with
  | zero =>
    intro i n s hd hn h1 hz
    obtain ⟨n, rfl⟩ : ∃ k, n = k + 1 := ⟨n - 1, by omega⟩
    obtain rfl : i = u := by omega
    have ec : cm m A i = m * A / 10 ^ (9 * i) := by
      unfold cm
      rw [Nat.mod_eq_of_lt hAu]
    have hc := cm_lt (A := A) (i := i) hm
    obtain ⟨s', u', a1, a2, a3⟩ := f115_58_loop hA 2 0 zF s i (by omega) (by unfold zF; omega) hu h1 (fun j hj => by rw [hz j hj, if_pos hj]) (by rw [← ec]; refine Nat.lt_of_lt_of_le (show cm m A i < 1220703126 by omega) (by decide)) (by rw [← ec]; omega) (fun _ => by
      rcases hlo with g | g
      · exact .inl g
      · exact .inr (Nat.le_trans g (Nat.le_mul_of_pos_left _ hm)))
    refine ⟨s', u', ?_, a2, a3⟩
    show b115_5 (f115_5 n) _ _ _ _ = _
    unfold b115_5
    rw [h1, if_pos (zge (by omega)), ec]
    exact a1
  | succ d ih =>
    intro i n s hd hn h1 hz
    obtain ⟨n, rfl⟩ : ∃ k, n = k + 1 := ⟨n - 1, by omega⟩
    obtain ⟨t1, t2⟩ := lc_mul m A i
    have hl := lc_lt A i
    have hc := cm_lt (A := A) (i := i) hm
    have hzi := hz i (by omega)
    rw [if_neg (by omega)] at hzi
    have hzi' : s.2.1 17 (zi (i : Int)).toNatClampNeg = zl (lc A i : Nat) := by rw [zi_toNat (by omega)]; exact hzi
    have hpr : m * lc A i ≤ 1220703125 * 1000000000 := Nat.mul_le_mul hm2 (by omega)
    have ev : zl (lc A i : Nat) * zl (m : Int) + zl (cm m A i : Nat) = zl ((m * lc A i + cm m A i : Nat) : Int) := by
      rw [zl_mul, zl_add]
      congr 1
      rw [Int.natCast_add, Int.natCast_mul, Int.mul_comm]
    obtain ⟨s', u', a1, a2, a3⟩ := ih (i + 1) n (setK s 17 i (zl (lc (m * A) i : Nat))) (by omega) (by omega) h1 (fun j hj => by
      show vp_updL (s.2.1 17) i _ j = _
      by_cases e : j = i
      · rw [e, updL_eq, if_pos (by omega)]
      · rw [updL_ne e, hz j hj]
        by_cases g : j < i
        · rw [if_pos g, if_pos (by omega)]
        · rw [if_neg g, if_neg (by omega)])
    refine ⟨s', u', ?_, a2, (fr.refl.sK rfl).trans a3⟩
    show b115_5 (f115_5 n) _ _ _ _ = _
    unfold b115_5
    have hix : mIx (zi (i : Int)) 96 := zi_ix (by omega) (by omega) (by omega)
    rw [t1, t2] at a1
    have hy : m * lc A i + cm m A i < 9223372036854775808 := by omega
    generalize m * lc A i + cm m A i = y at *
    rw [h1, if_neg (znge (by omega)), if_pos hix, if_pos hix, hzi', ev, zl_quo (by omega), zl_mul, zl_sub, zi_toNat (by omega), zi_add]
    have e9 : (y : Int) - ((y / 1000000000 : Nat) : Int) * 1000000000 = ((y % 1000000000 : Nat) : Int) := by omega
    rw [e9]
    exact a1
theorem f115_eq {s : zS} {A u m : Nat} (h : CL s A u) (hm : 0 < m) (hm2 : m ≤ 1220703125) (hA : m * A < 10 ^ 855) : ∃ s' u', f115 (zl m) s = some s' ∧ CL s' (m * A) u' ∧ fr [16, 17] [] s s' := by
  obtain ⟨h1, h2, h3, h4, h5⟩ := h
  have e : cm m A 0 = 0 := by
    unfold cm
    rw [Nat.mul_zero, Nat.pow_zero, Nat.mod_one, Nat.mul_zero]
  obtain ⟨s', u', a1, a2, a3⟩ := f115_loop hm hm2 hA h2 h4 h5 u 0 zF s (by omega) (by unfold zF; omega) h1 (fun j hj => by rw [if_neg (by omega)]; exact h3 j hj)
  rw [e] at a1
  exact ⟨s', u', a1, a2, a3⟩
/-! powers -/
theorem f114_loop {b e : Nat} (hb : b = 2 ∨ b = 5) (he : e ≤ 30) {s : zS} : ∀ (d i n : Nat), d + i = e → d < n → f114_5 n (zi b) (zi e) (zl (b ^ i : Nat)) (zi i) s = some (zl (b ^ e : Nat), s) := by
  intro d
  induction d with
  | zero =>
    intro i n hd hn
    obtain ⟨n, rfl⟩ : ∃ k, n = k + 1 := ⟨n - 1, by omega⟩
    obtain rfl : i = e := by omega
    show b114_5 (f114_5 n) _ _ _ _ _ = _
    unfold b114_5
    rw [if_pos (zge (by omega))]
  | succ d ih =>
    intro i n hd hn
    obtain ⟨n, rfl⟩ : ∃ k, n = k + 1 := ⟨n - 1, by omega⟩
    show b114_5 (f114_5 n) _ _ _ _ _ = _
    unfold b114_5
    rw [if_neg (znge (by omega)), zI2L_zi (by omega) (by omega), zl_mul, zi_add]
    have e9 : ((b ^ i : Nat) : Int) * (b : Int) = ((b ^ (i + 1) : Nat) : Int) := by
      rw [Nat.pow_succ, Int.natCast_mul]
    rw [e9]
    exact ih (i + 1) n (by omega) (by omega)
theorem f114_eq {b e : Nat} (hb : b = 2 ∨ b = 5) (he : e ≤ 30) (s : zS) : f114 (zi b) (zi e) s = some (zl (b ^ e : Nat), s) := f114_loop hb he e 0 zF (by omega) (by unfold zF; omega)
theorem r265_min {a b : Int} {s : zS} (h1 : -2147483648 ≤ a) (h2 : a < 2147483648) (h3 : -2147483648 ≤ b) (h4 : b < 2147483648) : r265 (zi a) (zi b) s = zi (min a b) := by
  unfold r265
  by_cases q : a > b
  · rw [if_pos (zgt (by omega))]
    congr 1
    omega
  · rw [if_neg (zngt (by omega))]
    congr 1
    omega
theorem r264_max {a b : Int} {s : zS} (h1 : -2147483648 ≤ a) (h2 : a < 2147483648) (h3 : -2147483648 ≤ b) (h4 : b < 2147483648) : r264 (zi a) (zi b) s = zi (max a b) := by
  unfold r264
  by_cases q : a < b
  · rw [if_pos (zlt (by omega))]
    congr 1
    omega
  · rw [if_neg (znlt (by omega))]
    congr 1
    omega
/-- a kind of chunk: base and how many at once -/
def chk (b ck : Nat) : Prop := (b = 2 ∧ ck = 30) ∨ (b = 5 ∧ ck = 13)
theorem chk_pow {b ck e : Nat} (h : chk b ck) (he : e ≤ ck) : 0 < b ^ e ∧ b ^ e ≤ 1220703125 := by
  rcases h with ⟨rfl, rfl⟩ | ⟨rfl, rfl⟩
  · exact ⟨Nat.pow_pos (by decide), Nat.le_trans (Nat.pow_le_pow_right (by decide) he) (by decide)⟩
  · exact ⟨Nat.pow_pos (by decide), Nat.le_trans (Nat.pow_le_pow_right (by decide) he) (by decide)⟩
theorem f113_149_loop {b ck : Nat} (hc : chk b ck) {X : Int} (hX1 : -2000 ≤ X) (hX2 : X ≤ 2000) {F : Nat} (hF : F < 10 ^ 855) : ∀ (r n : Nat) (s : zS) (A u : Nat), r < n → r ≤ 2000 → CL s A u → A * b ^ r = F →
    ∃ s' u', f113_149 n (zi X) (zi b) (zi ck) (zi r) s = zb0 (f116 (zi (min X 0)) s') (fun s1 => some s1) ∧ CL s' F u' ∧ fr [16, 17] [] s s' := by
  have hck : 13 ≤ ck ∧ ck ≤ 30 := by rcases hc with h | h <;> omega
  have hb : b = 2 ∨ b = 5 := by rcases hc with h | h <;> omega
  intro r
  induction r using Nat.strongRecOn with
  | ind r ih =>
    intro n s A u hn hr h hAF
    obtain ⟨n, rfl⟩ : ∃ k, n = k + 1 := ⟨n - 1, by omega⟩
    by_cases q : r = 0
    · subst q
      rw [Nat.pow_zero, Nat.mul_one] at hAF
      subst hAF
      refine ⟨s, u, ?_, h, fr.refl⟩
      show b113_149 (f113_149 n) _ _ _ _ _ = _
      unfold b113_149
      rw [if_pos (zle (by omega)), r265_min (by omega) (by omega) (by omega) (by omega)]
    · obtain ⟨g1, g2⟩ := chk_pow (e := min r ck) hc (by omega)
      have eA : b ^ min r ck * A * b ^ (r - min r ck) = F := by
        rw [← hAF, Nat.mul_comm (b ^ min r ck), Nat.mul_assoc, ← Nat.pow_add]
        congr 2
        omega
      have hlt : b ^ min r ck * A < 10 ^ 855 := by
        refine Nat.lt_of_le_of_lt ?_ hF
        rw [← eA]
        exact Nat.le_mul_of_pos_right _ (Nat.pow_pos (by omega))
      obtain ⟨s1, u1, c1, c2, c3⟩ := f115_eq h g1 g2 hlt
      obtain ⟨s', u', d1, d2, d3⟩ := ih (r - min r ck) (by omega) n s1 _ u1 (by omega) (by omega) c2 eA
      by_cases q2 : r ≤ ck
      · have e0 : min r ck = r := by omega
        rw [e0] at c1 d1
        refine ⟨s', u', ?_, d2, c3.trans d3⟩
        -- the last chunk: r - ck may be negative
        obtain ⟨n, rfl⟩ : ∃ k, n = k + 1 := ⟨n - 1, by omega⟩
        have hd : f113_149 (n + 1) (zi X) (zi b) (zi ck) (zi ((r : Int) - ck)) s1 = f113_149 (n + 1) (zi X) (zi b) (zi ck) (zi ((r - r : Nat) : Int)) s1 := by
          show b113_149 (f113_149 n) _ _ _ _ _ = b113_149 (f113_149 n) _ _ _ _ _
          unfold b113_149
          rw [if_pos (zle (by omega)), if_pos (zle (by omega))]
        show b113_149 (f113_149 (n + 1)) _ _ _ _ _ = _
        unfold b113_149
        have e7 : min (r : Int) (ck : Int) = ((r : Nat) : Int) := by omega
        rw [if_neg (znle (by omega)), r265_min (by omega) (by omega) (by omega) (by omega), e7, f114_eq hb (by omega), zb1_mk, c1, zb0_mk, zi_sub, hd]
        exact d1
      · have e0 : min r ck = ck := by omega
        rw [e0] at c1 d1
        refine ⟨s', u', ?_, d2, c3.trans d3⟩
        show b113_149 (f113_149 n) _ _ _ _ _ = _
        unfold b113_149
        have e7 : min (r : Int) (ck : Int) = ((ck : Nat) : Int) := by omega
        have e8 : (r : Int) - (ck : Int) = ((r - ck : Nat) : Int) := by omega
        rw [if_neg (znle (by omega)), r265_min (by omega) (by omega) (by omega) (by omega), e7, f114_eq hb (by omega), zb1_mk, c1, zb0_mk, zi_sub, e8]
        exact d1
/-! the start -/
theorem f113_65_loop {M : Nat} (hM : M < 9223372036854775808) {x6 : Int32} : ∀ (d u n : Nat) (s : zS), d + u = 3 → d < n → s.1 16 1 = zi u → (∀ i, i < u → s.2.1 17 i = zl (lc M i : Nat)) → (u = 0 ∨ 10 ^ (9 * (u - 1)) ≤ M) →
    ∃ s' u', f113_65 n x6 (zl (M / 10 ^ (9 * u) : Nat)) s = f113_116 x6 s' ∧ CL s' M u' ∧ fr [16, 17] [] s s' := by
  intro d
  induction d with
  | zero =>
    intro u n s hd hn h1 hz hlo
    obtain ⟨n, rfl⟩ : ∃ k, n = k + 1 := ⟨n - 1, by omega⟩
    obtain rfl : u = 3 := by omega
    have h0 : M / 10 ^ (9 * 3) = 0 := Nat.div_eq_of_lt (Nat.lt_of_lt_of_le hM (by decide))
    refine ⟨s, 3, ?_, ⟨h1, by omega, hz, pow_gt h0 (p_pos _), hlo⟩, fr.refl⟩
    show b113_65 (f113_65 n) _ _ _ = _
    unfold b113_65
    rw [h0, if_pos (zlle (by omega))]
  | succ d ih =>
    intro u n s hd hn h1 hz hlo
    obtain ⟨n, rfl⟩ : ∃ k, n = k + 1 := ⟨n - 1, by omega⟩
    by_cases h0 : M / 10 ^ (9 * u) = 0
    · refine ⟨s, u, ?_, ⟨h1, by omega, hz, pow_gt h0 (p_pos _), hlo⟩, fr.refl⟩
      show b113_65 (f113_65 n) _ _ _ = _
      unfold b113_65
      rw [h0, if_pos (zlle (by omega))]
    · have hge : 10 ^ (9 * u) ≤ M := by
        rcases Nat.lt_or_ge M (10 ^ (9 * u)) with g | g
        · exact absurd (Nat.div_eq_of_lt g) h0
        · exact g
      have hle : M / 10 ^ (9 * u) ≤ M := Nat.div_le_self _ _
      have eN : M / 10 ^ (9 * (u + 1)) = M / 10 ^ (9 * u) / 1000000000 := by
        rw [p9, Nat.div_div_eq_div_mul]
      have hq := ih (u + 1) n (setI (setK s 17 u (zl (lc M u : Nat))) 16 1 (zi (u + 1 : Nat))) (by omega) (by omega) rfl (fun i hi => by
        show vp_updL (s.2.1 17) u _ i = _
        by_cases e : i = u
        · rw [e, updL_eq]
        · rw [updL_ne e]
          exact hz i (by omega)) (.inr hge)
      rw [eN] at hq
      have eL : lc M u = M / 10 ^ (9 * u) % 1000000000 := rfl
      rw [eL] at hq
      generalize M / 10 ^ (9 * u) = y at *
      obtain ⟨s', u', a1, a2, a3⟩ := hq
      refine ⟨s', u', ?_, a2, ((fr.refl.sK rfl).sI (.inl rfl)).trans a3⟩
      show b113_65 (f113_65 n) _ _ _ = _
      unfold b113_65
      rw [if_neg (zlnle (by omega)), h1, if_neg (znge (by omega)), if_pos (zi_ix (by omega) (by omega) (by omega)), zl_quo (by omega), zl_remn (by omega), zi_add, zi_toNat (by omega)]
      exact a1
theorem f113_9_loop {x3 : Int32} {s : zS} : ∀ (d t n : Nat) (M : Nat) (X : Int), d + t = 64 → d < n → M < 9223372036854775808 → -2000 ≤ X → X ≤ 2000 → ∃ M' j : Nat, f113_9 n x3 (zl M) (zi X) (zi t) s = f113_65 zF (zi (X + j)) (zl M') (setI s 16 1 (zi 0)) ∧ M = M' * 2 ^ j ∧ (j = 0 ∨ X + j ≤ 0) := by
  have stop : ∀ (M : Nat) (X : Int), ∃ M' j : Nat, f113_65 zF (zi X) (zl M) (setI s 16 1 (zi 0)) = f113_65 zF (zi (X + j)) (zl M') (setI s 16 1 (zi 0)) ∧ M = M' * 2 ^ j ∧ (j = 0 ∨ X + j ≤ 0) := fun M X => ⟨M, 0, by rw [show X + ((0 : Nat) : Int) = X by omega], by rw [Nat.pow_zero, Nat.mul_one], .inl rfl⟩
  intro d
  induction d with
  | zero =>
    intro t n M X hd hn hM h1 h2
    obtain ⟨n, rfl⟩ : ∃ k, n = k + 1 := ⟨n - 1, by omega⟩
    have e : f113_9 (n + 1) x3 (zl M) (zi X) (zi t) s = f113_65 zF (zi X) (zl M) (setI s 16 1 (zi 0)) := by
      show b113_9 (f113_9 n) _ _ _ _ _ = _
      unfold b113_9
      rw [if_pos (zge (by omega))]
    rw [e]
    exact stop M X
  | succ d ih =>
    intro t n M X hd hn hM h1 h2
    obtain ⟨n, rfl⟩ : ∃ k, n = k + 1 := ⟨n - 1, by omega⟩
    have e0 : f113_9 (n + 1) x3 (zl M) (zi X) (zi t) s = if zi X ≥ zi 0 then f113_65 zF (zi X) (zl M) (setI s 16 1 (zi 0)) else if zl (M : Int) = (zl 0) then f113_65 zF (zi X) (zl M) (setI s 16 1 (zi 0)) else if ¬ (zremL (zl (M : Int)) (zl 2)) = (zl 0) then f113_65 zF (zi X) (zl M) (setI s 16 1 (zi 0)) else f113_9 n x3 (zl (M : Int) / (zl 2)) (zi X + zi 1) (zi t + zi 1) s := by
      show b113_9 (f113_9 n) _ _ _ _ _ = _
      unfold b113_9
      rw [if_neg (znge (by omega))]
    rw [e0]
    by_cases c1 : 0 ≤ X
    · rw [if_pos (zge (by omega))]
      exact stop M X
    · rw [if_neg (znge (by omega))]
      by_cases c2 : M = 0
      · rw [if_pos (zleq (by omega))]
        exact stop M X
      · have er : zremL (zl (M : Int)) (zl 2) = zl ((M % 2 : Nat) : Int) := by
          rw [zl_rem (by omega) (by omega) (by omega) (by omega)]
          rfl
        have eq : zl (M : Int) / zl 2 = zl ((M / 2 : Nat) : Int) := by
          rw [zl_div (by omega) (by omega) (by omega) (by omega)]
          rfl
        rw [if_neg (zlne (by omega)), er, eq]
        by_cases c3 : M % 2 = 0
        · rw [if_neg (not_not_intro (zleq (by omega))), zi_add, zi_add]
          obtain ⟨M', j, a1, a2, a3⟩ := ih (t + 1) n (M / 2) (X + 1) (by omega) (by omega) (by omega) (by omega) (by omega)
          refine ⟨M', j + 1, ?_, ?_, .inr (by omega)⟩
          · have e1 : X + ((j + 1 : Nat) : Int) = X + 1 + j := by omega
            rw [e1]
            exact a1
          · rw [Nat.pow_succ, ← Nat.mul_assoc, ← a2]
            omega
        · rw [if_pos (zlne (by omega))]
          exact stop M X
