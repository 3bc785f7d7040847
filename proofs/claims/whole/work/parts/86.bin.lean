/-! the class's long whole number in words of 32 bits -/
def wd (B i : Nat) : Nat := B / 2 ^ (32 * i) % 4294967296
theorem wd_lt (B i : Nat) : wd B i < 4294967296 := Nat.mod_lt _ (by decide)
theorem p32 (i : Nat) : 2 ^ (32 * (i + 1)) = 2 ^ (32 * i) * 4294967296 := by
  have e : 32 * (i + 1) = 32 * i + 32 := by omega
  rw [e, Nat.pow_add]
theorem zl0e : zl ((0 : Nat) : Int) = zl 0 := rfl
theorem zi0e : zi ((0 : Nat) : Int) = zi 0 := rfl
theorem p2_pos (k : Nat) : 0 < 2 ^ k := Nat.pow_pos (by decide)
/-- its words, how many, how much too high, whether something is left -/
def BN (s : zS) (B u : Nat) (rho rs : Int) : Prop := s.1 22 1 = zi u ∧ u ≤ 128 ∧ (∀ i, i < u → s.2.1 23 i = zl (wd B i : Nat)) ∧ B < 2 ^ (32 * u) ∧ s.1 22 2 = zi rho ∧ s.1 22 3 = zi rs
theorem BN.mv {A C : List Nat} {s s' : zS} {B u : Nat} {rho rs : Int} (h : BN s B u rho rs) (hf : fr A C s s') (c1 : A.contains 22 = false) (c2 : A.contains 23 = false) : BN s' B u rho rs := by
  obtain ⟨h1, h2, h3, h4, h5, h6⟩ := h
  refine ⟨?_, h2, fun i hi => ?_, h4, ?_, ?_⟩
  · rw [hf.f c1 (by decide)]; exact h1
  · rw [hf.l c2]; exact h3 i hi
  · rw [hf.f c1 (by decide)]; exact h5
  · rw [hf.f c1 (by decide)]; exact h6
theorem madd_step (m k N Q W : Nat) (hQ : 0 < Q) : (m * N + k) / Q % W = (m * (N / Q % W) + (m * (N % Q) + k) / Q) % W ∧ (m * (N % (Q * W)) + k) / (Q * W) = (m * (N / Q % W) + (m * (N % Q) + k) / Q) / W := by
  have e1 : N % (Q * W) = N % Q + Q * (N / Q % W) := Nat.mod_mul
  have e2 : m * (N % (Q * W)) + k = (m * (N % Q) + k) + Q * (m * (N / Q % W)) := by
    rw [e1, Nat.mul_add, Nat.mul_left_comm]
    omega
  have e3 : (m * (N % (Q * W)) + k) / Q = m * (N / Q % W) + (m * (N % Q) + k) / Q := by
    rw [e2, Nat.add_mul_div_left _ _ hQ, Nat.add_comm]
  constructor
  · have h := Nat.mod_add_div N (Q * W)
    have e4 : m * N = m * (N % (Q * W)) + Q * (W * (m * (N / (Q * W)))) := by
      have e5 : m * (Q * W * (N / (Q * W))) = Q * (W * (m * (N / (Q * W)))) := by ac_rfl
      rw [← e5, ← Nat.mul_add, h]
    have e6 : m * N + k = (m * (N % (Q * W)) + k) + Q * (W * (m * (N / (Q * W)))) := by
      rw [e4]
      omega
    rw [e6, Nat.add_mul_div_left _ _ hQ, Nat.add_mul_mod_self_left, e3]
  · rw [← Nat.div_div_eq_div_mul, e3]
def ca (m k B i : Nat) : Nat := (m * (B % 2 ^ (32 * i)) + k) / 2 ^ (32 * i)
theorem ca_lt {m k B i : Nat} (hm : m ≤ 1300000000) (hk : k < 4294967296) : ca m k B i < 4294967296 := by
  unfold ca
  by_cases c : i = 0
  · subst c
    rw [Nat.mul_zero, Nat.pow_zero, Nat.mod_one, Nat.mul_zero, Nat.div_one]
    omega
  · have hQ : 4294967296 ≤ 2 ^ (32 * i) := Nat.le_trans (show 4294967296 ≤ 2 ^ 32 by decide) (Nat.pow_le_pow_right (by decide) (by omega))
    have hx := Nat.mod_lt B (p2_pos (32 * i))
    have h1 : m * (B % 2 ^ (32 * i)) ≤ m * 2 ^ (32 * i) := Nat.mul_le_mul_left _ (by omega)
    have h2 : (m * (B % 2 ^ (32 * i)) + k) / 2 ^ (32 * i) < m + 1 := by
      apply Nat.div_lt_of_lt_mul
      rw [Nat.mul_add, Nat.mul_one, Nat.mul_comm _ m]
      omega
    omega
theorem f151_loop {m k B u : Nat} (hm : m ≤ 1300000000) (hk : k < 4294967296) (hu : u ≤ 128) (hB : B < 2 ^ (32 * u)) (hb : m * B + k < 2 ^ 4096) {rho rs : Int} : ∀ (d i n : Nat) (s : zS), d + i = u → d < n → s.1 22 1 = zi u → (∀ j, j < u → s.2.1 23 j = zl (wd (if j < i then m * B + k else B) j : Nat)) → s.1 22 2 = zi rho → s.1 22 3 = zi rs →
    ∃ s' u', f151_6 n (zl m) (zl (ca m k B i : Nat)) (zi i) s = some s' ∧ BN s' (m * B + k) u' rho rs ∧ fr [22, 23] [] s s' ∧ (u' = u ∨ (u' = u + 1 ∧ 2 ^ (32 * u) ≤ m * B + k)) := by
  intro d
  induction d with
  | zero =>
    intro i n s hd hn h1 hz h5 h6
    obtain ⟨n, rfl⟩ : ∃ k, n = k + 1 := ⟨n - 1, by omega⟩
    obtain rfl : i = u := by omega
    have hcl := ca_lt (B := B) (i := i) hm hk
    have ec : ca m k B i = (m * B + k) / 2 ^ (32 * i) := by
      unfold ca
      rw [Nat.mod_eq_of_lt hB]
    by_cases c : ca m k B i = 0
    · refine ⟨s, i, ?_, ⟨h1, hu, fun j hj => by rw [hz j hj, if_pos hj], ?_, h5, h6⟩, fr.refl, .inl rfl⟩
      · show b151_6 (f151_6 n) _ _ _ _ = _
        unfold b151_6
        rw [h1, if_pos (zge (by omega)), c, if_pos zl0e]
      · rw [ec] at c
        exact pow_gt c (p2_pos _)
    · have h2 : 1 * 2 ^ (32 * i) ≤ m * B + k := (Nat.le_div_iff_mul_le (p2_pos _)).mp (by rw [← ec]; omega)
      rw [Nat.one_mul] at h2
      have hu2 : i < 128 := by
        have h3 := (Nat.pow_lt_pow_iff_right (a := 2) (by decide)).mp (Nat.lt_of_le_of_lt h2 hb)
        omega
      refine ⟨setI (setK s 23 i (zl (ca m k B i : Nat))) 22 1 (zi (i + 1 : Nat)), i + 1, ?_, ⟨rfl, by omega, fun j hj => ?_, ?_, h5, h6⟩, (fr.refl.sK rfl).sI (.inl rfl), .inr ⟨rfl, h2⟩⟩
      · show b151_6 (f151_6 n) _ _ _ _ = _
        unfold b151_6
        rw [h1, if_pos (zge (by omega)), if_neg (zlne (by omega)), if_neg (znge (by omega)), if_pos (zi_ix (by omega) (by omega) (by omega)), zi_toNat (by omega), zi_add]
        rfl
      · show vp_updL (s.2.1 23) i _ j = _
        by_cases e : j = i
        · rw [e, updL_eq]
          unfold wd
          rw [← ec, Nat.mod_eq_of_lt hcl]
        · rw [updL_ne e, hz j (by omega), if_pos (by omega)]
      · rw [ec] at hcl
        rw [p32, Nat.mul_comm (2 ^ (32 * i))]
        exact (Nat.div_lt_iff_lt_mul (p2_pos _)).mp hcl
  | succ d ih =>
    intro i n s hd hn h1 hz h5 h6
    obtain ⟨n, rfl⟩ : ∃ k, n = k + 1 := ⟨n - 1, by omega⟩
    obtain ⟨t1, t2⟩ := madd_step m k B (2 ^ (32 * i)) 4294967296 (p2_pos _)
    rw [← p32] at t2
    have hl := wd_lt B i
    have hc := ca_lt (B := B) (i := i) hm hk
    have hzi := hz i (by omega)
    rw [if_neg (by omega)] at hzi
    have hzi' : s.2.1 23 (zi (i : Int)).toNatClampNeg = zl (wd B i : Nat) := by rw [zi_toNat (by omega)]; exact hzi
    have hpr : m * wd B i ≤ 1300000000 * 4294967296 := Nat.mul_le_mul hm (by omega)
    have ev : zl (wd B i : Nat) * zl (m : Int) + zl (ca m k B i : Nat) = zl ((m * wd B i + ca m k B i : Nat) : Int) := by
      rw [zl_mul, zl_add]
      congr 1
      rw [Int.natCast_add, Int.natCast_mul, Int.mul_comm]
    have w1 : wd (m * B + k) i = (m * wd B i + ca m k B i) % 4294967296 := t1
    have w2 : ca m k B (i + 1) = (m * wd B i + ca m k B i) / 4294967296 := t2
    obtain ⟨s', u', a1, a2, a3, a4⟩ := ih (i + 1) n (setK s 23 i (zl (wd (m * B + k) i : Nat))) (by omega) (by omega) h1 (fun j hj => by
      show vp_updL (s.2.1 23) i _ j = _
      by_cases e : j = i
      · rw [e, updL_eq, if_pos (by omega)]
      · rw [updL_ne e, hz j hj]
        by_cases g : j < i
        · rw [if_pos g, if_pos (by omega)]
        · rw [if_neg g, if_neg (by omega)]) h5 h6
    refine ⟨s', u', ?_, a2, (fr.refl.sK rfl).trans a3, a4⟩
    show b151_6 (f151_6 n) _ _ _ _ = _
    unfold b151_6
    have hix : mIx (zi (i : Int)) 128 := zi_ix (by omega) (by omega) (by omega)
    rw [w1, w2] at a1
    have hy : m * wd B i + ca m k B i < 9223372036854775808 := by omega
    generalize m * wd B i + ca m k B i = y at *
    have eand : zl (y : Int) &&& zl 4294967295 = zl ((y % 4294967296 : Nat) : Int) := zl_and (a := (y : Int)) (k := 32) (by decide)
    have eshr : zushrL (zl (y : Int)) (zi 32) = zl ((y / 4294967296 : Nat) : Int) := ushrN (t := 32) (by omega) (by decide)
    rw [h1, if_neg (znge (by omega)), if_pos hix, if_pos hix, hzi', ev, eand, eshr, zi_toNat (by omega), zi_add]
    exact a1
theorem f151_eq {s : zS} {B u m k : Nat} {rho rs : Int} (h : BN s B u rho rs) (hm : m ≤ 1300000000) (hk : k < 4294967296) (hb : m * B + k < 2 ^ 4096) : ∃ s' u', f151 (zl m) (zl k) s = some s' ∧ BN s' (m * B + k) u' rho rs ∧ fr [22, 23] [] s s' ∧ (u' = u ∨ (u' = u + 1 ∧ 2 ^ (32 * u) ≤ m * B + k)) := by
  obtain ⟨h1, h2, h3, h4, h5, h6⟩ := h
  have e : ca m k B 0 = k := by
    unfold ca
    rw [Nat.mul_zero, Nat.pow_zero, Nat.mod_one, Nat.mul_zero, Nat.div_one, Nat.zero_add]
  obtain ⟨s', u', a1, a2, a3, a4⟩ := f151_loop (rho := rho) (rs := rs) hm hk h2 h4 hb u 0 zF s (by omega) (by unfold zF; omega) h1 (fun j hj => by rw [if_neg (by omega)]; exact h3 j hj) h5 h6
  rw [e] at a1
  exact ⟨s', u', a1, a2, a3, a4⟩
theorem f150_eq (s : zS) : ∃ s', f150 s = some s' ∧ BN s' 0 0 0 0 ∧ fr [22, 23] [] s s' :=
  ⟨_, rfl, ⟨rfl, by omega, fun i hi => by omega, by decide, rfl, rfl⟩, ((fr.refl.sI (.inl rfl)).sI (.inl rfl)).sI (.inl rfl)⟩
/-! fives -/
theorem five13 {e : Nat} (he : e ≤ 13) : 0 < 5 ^ e ∧ 5 ^ e ≤ 1220703125 := ⟨Nat.pow_pos (by decide), Nat.le_trans (Nat.pow_le_pow_right (by decide) he) (by decide)⟩
theorem f152_loop {B : Nat} {rho rs : Int} {x1 : Int32} : ∀ (d n : Nat) (r : Nat) (s : zS) (u : Nat) (C : Nat), d = r → r < n → r ≤ 2000 → BN s C u rho rs → C * 5 ^ r = B → B < 2 ^ 4096 →
    ∃ s' u', f152_2 n x1 (zi r) s = some s' ∧ BN s' B u' rho rs ∧ fr [22, 23] [] s s' := by
  intro d
  induction d using Nat.strongRecOn with
  | ind d ih =>
    intro n r s u C hd hn hr h hC hB
    subst hd
    obtain ⟨n, rfl⟩ : ∃ k, n = k + 1 := ⟨n - 1, by omega⟩
    by_cases c : d = 0
    · subst c
      rw [Nat.pow_zero, Nat.mul_one] at hC
      subst hC
      refine ⟨s, u, ?_, h, fr.refl⟩
      show b152_2 (f152_2 n) _ _ _ = _
      unfold b152_2
      rw [if_pos (zle (by omega))]
    · obtain ⟨e, he, he1, he2⟩ : ∃ e : Nat, e = min d 13 ∧ 1 ≤ e ∧ e ≤ 13 := ⟨_, rfl, by omega, by omega⟩
      have h5 := five13 he2
      have eC : 5 ^ e * C * 5 ^ (d - e) = B := by
        rw [Nat.mul_comm (5 ^ e), Nat.mul_assoc, ← Nat.pow_add]
        have : e + (d - e) = d := by omega
        rw [this]
        exact hC
      have hle : 5 ^ e * C + 0 ≤ B := by
        rw [← eC, Nat.add_zero]
        exact Nat.le_mul_of_pos_right _ (Nat.pow_pos (by decide))
      obtain ⟨s1, u1, a1, a2, a3, _⟩ := f151_eq h (m := 5 ^ e) (k := 0) (by omega) (by omega) (Nat.lt_of_le_of_lt hle hB)
      rw [Nat.add_zero] at a2
      have go : ∃ s' u', f152_2 n x1 (zi ((d : Int) + -13)) s1 = some s' ∧ BN s' B u' rho rs ∧ fr [22, 23] [] s1 s' := by
        by_cases c2 : d ≤ 13
        · have e0 : d - e = 0 := by omega
          rw [e0, Nat.pow_zero, Nat.mul_one] at eC
          rw [eC] at a2
          obtain ⟨n, rfl⟩ : ∃ k, n = k + 1 := ⟨n - 1, by omega⟩
          refine ⟨s1, u1, ?_, a2, fr.refl⟩
          show b152_2 (f152_2 n) _ _ _ = _
          unfold b152_2
          rw [if_pos (zle (by omega))]
        · have e13 : e = 13 := by omega
          obtain ⟨s2, u2, b1, b2, b3⟩ := ih (d - 13) (by omega) n (d - 13) s1 u1 (5 ^ e * C) rfl (by omega) (by omega) a2 (by rw [← eC, e13]) hB
          refine ⟨s2, u2, ?_, b2, b3⟩
          have ez : zi ((d : Int) + -13) = zi ((d - 13 : Nat) : Int) := congrArg zi (by omega)
          rw [ez]
          exact b1
      obtain ⟨s2, u2, b1, b2, b3⟩ := go
      refine ⟨s2, u2, ?_, b2, a3.trans b3⟩
      show b152_2 (f152_2 n) _ _ _ = _
      unfold b152_2
      have em : r265 (zi (d : Int)) (zi 13) s = zi (e : Int) := by
        rw [r265_min (by omega) (by omega) (by omega) (by omega)]
        exact congrArg zi (by omega)
      have a1' : f151 (zl ((5 ^ e : Nat) : Int)) (zl 0) s = some s1 := a1
      have h114 : f114 (zi 5) (zi (e : Int)) s = some (zl ((5 ^ e : Nat) : Int), s) := f114_eq (b := 5) (e := e) (.inr rfl) (by omega) s
      rw [if_neg (znle (by omega)), em, h114, zb1_mk, a1', zb0_mk, zi_add]
      exact b1
theorem f152_eq {s : zS} {B u t : Nat} {rho rs : Int} (h : BN s B u rho rs) (ht : t ≤ 2000) (hB : B * 5 ^ t < 2 ^ 4096) : ∃ s' u', f152 (zi t) s = some s' ∧ BN s' (B * 5 ^ t) u' rho rs ∧ fr [22, 23] [] s s' :=
  f152_loop t zF t s u B rfl (by unfold zF; omega) ht h rfl hB
/-! raise -/
theorem f154_46_loop {by' u : Nat} {B : Nat} {rho rs : Int} (hby : u + by' ≤ 128) (hB : B < 2 ^ (32 * u)) : ∀ (d i n : Nat) (s : zS), d + i = by' → d < n → s.1 22 1 = zi u → s.1 22 2 = zi rho → s.1 22 3 = zi rs → (∀ j, j < u + by' → j < i ∨ by' ≤ j → s.2.1 23 j = zl (wd (B * 2 ^ (32 * by')) j : Nat)) →
    ∃ s', f154_46 n (zi by') (zi i) s = some s' ∧ BN s' (B * 2 ^ (32 * by')) (u + by') (rho + 32 * by') rs ∧ fr [22, 23] [] s s' := by
  intro d
  induction d with
  | zero =>
    intro i n s hd hn h1 h5 h6 hz
    obtain ⟨n, rfl⟩ : ∃ k, n = k + 1 := ⟨n - 1, by omega⟩
    refine ⟨setI (setI s 22 1 (zi (u + by' : Nat))) 22 2 (zi (rho + 32 * by')), ?_, ⟨rfl, hby, fun j hj => ?_, ?_, rfl, h6⟩, (fr.refl.sI (.inl rfl)).sI (.inl rfl)⟩
    · show b154_46 (f154_46 n) _ _ _ = _
      unfold b154_46
      have e2 : zi rho + zi (by' : Int) * zi 32 = zi (rho + 32 * by') := by
        rw [zi_mul, zi_add]
        exact congrArg zi (by omega)
      rw [if_pos (zge (by omega)), h1, h5, zi_add, e2]
      rfl
    · exact hz j hj (by omega)
    · have e : 2 ^ (32 * (u + by')) = 2 ^ (32 * u) * 2 ^ (32 * by') := by
        rw [← Nat.pow_add]
        exact congrArg (2 ^ ·) (by omega)
      rw [e]
      exact Nat.mul_lt_mul_of_pos_right hB (p2_pos _)
  | succ d ih =>
    intro i n s hd hn h1 h5 h6 hz
    obtain ⟨n, rfl⟩ : ∃ k, n = k + 1 := ⟨n - 1, by omega⟩
    have hw0 : wd (B * 2 ^ (32 * by')) i = 0 := by
      unfold wd
      have e : 2 ^ (32 * by') = 2 ^ (32 * i) * (4294967296 * 2 ^ (32 * (by' - i - 1))) := by
        have e0 : (4294967296 : Nat) = 2 ^ 32 := by decide
        rw [e0, ← Nat.pow_add, ← Nat.pow_add]
        exact congrArg (2 ^ ·) (by omega)
      rw [e, Nat.mul_left_comm, Nat.mul_div_cancel_left _ (p2_pos _), Nat.mul_left_comm, Nat.mul_mod_right]
    obtain ⟨s', a1, a2, a3⟩ := ih (i + 1) n (setK s 23 i (zl 0)) (by omega) (by omega) h1 h5 h6 (fun j hj hc => by
      show vp_updL (s.2.1 23) i _ j = _
      by_cases e : j = i
      · rw [e, updL_eq, hw0]
        rfl
      · rw [updL_ne e]
        exact hz j hj (by omega))
    refine ⟨s', ?_, a2, (fr.refl.sK rfl).trans a3⟩
    show b154_46 (f154_46 n) _ _ _ = _
    unfold b154_46
    rw [if_neg (znge (by omega)), if_pos (zi_ix (by omega) (by omega) (by omega)), zi_toNat (by omega), zi_add]
    exact a1
theorem wd_up {B by' i : Nat} : wd (B * 2 ^ (32 * by')) (i + by') = wd B i := by
  unfold wd
  have e : 2 ^ (32 * (i + by')) = 2 ^ (32 * i) * 2 ^ (32 * by') := by
    rw [← Nat.pow_add]
    exact congrArg (2 ^ ·) (by omega)
  rw [e, Nat.mul_div_mul_right _ _ (p2_pos _)]
theorem f154_20_loop {by' u : Nat} {B : Nat} {rho rs : Int} (hby : u + by' ≤ 128) (h1' : 1 ≤ by') (hB : B < 2 ^ (32 * u)) : ∀ (i n : Nat) (s : zS), i ≤ u → i < n → s.1 22 1 = zi u → s.1 22 2 = zi rho → s.1 22 3 = zi rs → (∀ j, j < i → s.2.1 23 j = zl (wd B j : Nat)) → (∀ j, i ≤ j → j < u → s.2.1 23 (j + by') = zl (wd B j : Nat)) →
    ∃ s', f154_20 n (zi by') (zi ((i : Int) - 1)) s = some s' ∧ BN s' (B * 2 ^ (32 * by')) (u + by') (rho + 32 * by') rs ∧ fr [22, 23] [] s s' := by
  intro i
  induction i with
  | zero =>
    intro n s hi hn h1 h5 h6 hz hy
    obtain ⟨n, rfl⟩ : ∃ k, n = k + 1 := ⟨n - 1, by omega⟩
    obtain ⟨s', a1, a2, a3⟩ := f154_46_loop (B := B) (rho := rho) (rs := rs) hby hB by' 0 zF s (by omega) (by unfold zF; omega) h1 h5 h6 (fun j hj hc => by
      obtain ⟨k, rfl⟩ : ∃ k, j = k + by' := ⟨j - by', by omega⟩
      rw [wd_up]
      exact hy k (by omega) (by omega))
    refine ⟨s', ?_, a2, a3⟩
    show b154_20 (f154_20 n) _ _ _ = _
    unfold b154_20
    rw [if_pos (zlt (by omega))]
    exact a1
  | succ i ih =>
    intro n s hi hn h1 h5 h6 hz hy
    obtain ⟨n, rfl⟩ : ∃ k, n = k + 1 := ⟨n - 1, by omega⟩
    have ei : ((i + 1 : Nat) : Int) - 1 = (i : Int) := by omega
    rw [ei]
    have hzi' : s.2.1 23 (zi (i : Int)).toNatClampNeg = zl (wd B i : Nat) := by rw [zi_toNat (by omega)]; exact hz i (by omega)
    obtain ⟨s', a1, a2, a3⟩ := ih n (setK s 23 (i + by') (zl (wd B i : Nat))) (by omega) (by omega) h1 h5 h6 (fun j hj => by
      show vp_updL (s.2.1 23) (i + by') _ j = _
      rw [updL_ne (by omega)]
      exact hz j (by omega)) (fun j hj hj2 => by
      show vp_updL (s.2.1 23) (i + by') _ (j + by') = _
      by_cases e : j = i
      · rw [e, updL_eq]
      · rw [updL_ne (by omega)]
        exact hy j (by omega) hj2)
    refine ⟨s', ?_, a2, (fr.refl.sK rfl).trans a3⟩
    show b154_20 (f154_20 n) _ _ _ = _
    unfold b154_20
    have es : zi (i : Int) + zi (by' : Int) = zi ((i + by' : Nat) : Int) := zi_add _ _
    have ed : zi (i : Int) + zi (-1) = zi ((i : Int) - 1) := by rw [zi_add]; exact congrArg zi (by omega)
    rw [if_neg (znlt (by omega)), if_pos (zi_ix (by omega) (by omega) (by omega)), es, if_pos (zi_ix (by omega) (by omega) (by omega)), hzi', zi_toNat (by omega), ed]
    exact a1
theorem f154_eq {s : zS} {B u by' : Nat} {rho rs : Int} (h : BN s B u rho rs) (hby : u + by' ≤ 128) (h1' : 1 ≤ by') : ∃ s', f154 (zi by') s = some s' ∧ BN s' (B * 2 ^ (32 * by')) (u + by') (rho + 32 * by') rs ∧ fr [22, 23] [] s s' := by
  obtain ⟨h1, h2, h3, h4, h5, h6⟩ := h
  obtain ⟨s', a1, a2, a3⟩ := f154_20_loop (rho := rho) (rs := rs) hby h1' h4 u zF s (Nat.le_refl _) (by unfold zF; omega) h1 h5 h6 h3 (fun j h7 h8 => by omega)
  refine ⟨s', ?_, a2, a3⟩
  unfold f154
  have e : min (by' : Int) (128 - u) = by' := by omega
  rw [h1, zi_sub, zi_sub, r265_min (by omega) (by omega) (by omega) (by omega), e]
  exact a1
/-! divide -/
theorem f155_73_loop {B : Nat} {rho rs : Int} : ∀ (u n : Nat) (s : zS), u < n → BN s B u rho rs → ∃ s' u', f155_73 n s = some s' ∧ BN s' B u' rho rs ∧ fr [22, 23] [] s s' := by
  intro u
  induction u with
  | zero =>
    intro n s hn h
    obtain ⟨n, rfl⟩ : ∃ k, n = k + 1 := ⟨n - 1, by omega⟩
    refine ⟨s, 0, ?_, h, fr.refl⟩
    show b155_73 (f155_73 n) s = _
    unfold b155_73
    rw [h.1, if_pos (zle (by omega))]
  | succ u ih =>
    intro n s hn h
    obtain ⟨n, rfl⟩ : ∃ k, n = k + 1 := ⟨n - 1, by omega⟩
    obtain ⟨h1, h2, h3, h4, h5, h6⟩ := h
    have e1 : zi ((u + 1 : Nat) : Int) - zi 1 = zi (u : Int) := by rw [zi_sub]; exact congrArg zi (by omega)
    have hw : s.2.1 23 (zi (u : Int)).toNatClampNeg = zl (wd B u : Nat) := by rw [zi_toNat (by omega)]; exact h3 u (by omega)
    have hl := wd_lt B u
    have ebody : f155_73 (n + 1) s = if ¬ zl (wd B u : Nat) = zl 0 then some s else f155_73 n (setI s 22 1 (zi (u : Int))) := by
      show b155_73 (f155_73 n) s = _
      unfold b155_73
      rw [h1, if_neg (znle (by omega)), e1, if_pos (zi_ix (by omega) (by omega) (by omega)), hw]
    rw [ebody]
    by_cases c : wd B u = 0
    · rw [c, if_neg zl00]
      have hB : B < 2 ^ (32 * u) := by
        unfold wd at c
        rw [p32, Nat.mul_comm] at h4
        have h7 := (Nat.div_lt_iff_lt_mul (p2_pos (32 * u))).mpr h4
        rw [Nat.mod_eq_of_lt h7] at c
        exact pow_gt c (p2_pos _)
      obtain ⟨s', u', a1, a2, a3⟩ := ih n (setI s 22 1 (zi (u : Int))) (by omega) ⟨rfl, by omega, fun i hi => h3 i (by omega), hB, h5, h6⟩
      exact ⟨s', u', a1, a2, (fr.refl.sI (.inl rfl)).trans a3⟩
    · rw [if_pos (zlne (by omega))]
      exact ⟨s, u + 1, rfl, ⟨h1, h2, h3, h4, h5, h6⟩, fr.refl⟩
theorem div_step (B d Q W : Nat) (hd : 0 < d) (hW : 0 < W) : ((B / (Q * W) % d) * W + B / Q % W) / d = B / d / Q % W ∧ ((B / (Q * W) % d) * W + B / Q % W) % d = B / Q % d := by
  have e0 : B / (Q * W) = B / Q / W := (Nat.div_div_eq_div_mul _ _ _).symm
  have e1 : B / d / Q = B / Q / d := by rw [Nat.div_div_eq_div_mul, Nat.div_div_eq_div_mul, Nat.mul_comm]
  rw [e0, e1]
  generalize B / Q = x
  have hx := Nat.div_add_mod x W
  have hy := Nat.div_add_mod (x / W) d
  have hlt := Nat.mod_lt x hW
  have hlt2 := Nat.mod_lt (x / W) hd
  have ex : x = d * (x / W / d * W) + ((x / W % d) * W + x % W) := by
    have h1 : W * (x / W) = d * (x / W / d * W) + (x / W % d) * W := by
      have h2 : (d * (x / W / d) + x / W % d) * W = x / W * W := by rw [hy]
      rw [Nat.add_mul, Nat.mul_assoc] at h2
      rw [Nat.mul_comm W, ← h2]
    omega
  generalize hP : (x / W % d) * W + x % W = P at *
  have hPd : P < d * W := by
    have : (x / W % d + 1) * W ≤ d * W := Nat.mul_le_mul_right _ hlt2
    rw [Nat.add_mul, Nat.one_mul] at this
    omega
  constructor
  · have h1 : x / d = x / W / d * W + P / d := by
      have : x / d = (d * (x / W / d * W) + P) / d := congrArg (· / d) ex
      rw [this, Nat.mul_add_div hd]
    rw [h1, Nat.mul_comm (x / W / d), Nat.mul_add_mod, Nat.mod_eq_of_lt (Nat.div_lt_of_lt_mul hPd)]
  · have : x % d = (d * (x / W / d * W) + P) % d := congrArg (· % d) ex
    rw [this, Nat.mul_add_mod]
theorem f155_10_loop {B u d : Nat} {rho rs : Int} (hrs : rs = 0 ∨ rs = 1) (hd : 0 < d) (hd2 : d ≤ 1300000000) (hu : u ≤ 128) (hB : B < 2 ^ (32 * u)) : ∀ (i n : Nat) (s : zS), i ≤ u → i < n → s.1 22 1 = zi u → s.1 22 2 = zi rho → s.1 22 3 = zi rs → (∀ j, j < i → s.2.1 23 j = zl (wd B j : Nat)) → (∀ j, i ≤ j → j < u → s.2.1 23 j = zl (wd (B / d) j : Nat)) →
    ∃ s' u', f155_10 n (zl d) (zl ((B / 2 ^ (32 * i) % d : Nat) : Int)) (zi ((i : Int) - 1)) s = some s' ∧ BN s' (B / d) u' rho (if rs = 0 ∧ B % d = 0 then 0 else 1) ∧ fr [22, 23] [] s s' := by
  intro i
  induction i with
  | zero =>
    intro n s hi hn h1 h5 h6 hz hy
    obtain ⟨n, rfl⟩ : ∃ k, n = k + 1 := ⟨n - 1, by omega⟩
    have hBd : B / d < 2 ^ (32 * u) := Nat.lt_of_le_of_lt (Nat.div_le_self _ _) hB
    have hmd := Nat.mod_lt B hd
    have go : ∀ r : Int, r = (if rs = 0 ∧ B % d = 0 then 0 else 1) → ∃ s' u', f155_73 zF (setI s 22 3 (zi r)) = some s' ∧ BN s' (B / d) u' rho (if rs = 0 ∧ B % d = 0 then 0 else 1) ∧ fr [22, 23] [] s s' := by
      intro r hr
      obtain ⟨s', u', a1, a2, a3⟩ := f155_73_loop (B := B / d) (rho := rho) (rs := r) u zF (setI s 22 3 (zi r)) (by unfold zF; omega) ⟨h1, hu, fun j hj => hy j (by omega) hj, hBd, h5, rfl⟩
      rw [hr] at a2
      exact ⟨s', u', a1, a2, (fr.refl.sI (.inl rfl)).trans a3⟩
    have e0 : B / 2 ^ (32 * 0) % d = B % d := by rw [Nat.mul_zero, Nat.pow_zero, Nat.div_one]
    have ebody : f155_10 (n + 1) (zl d) (zl ((B / 2 ^ (32 * 0) % d : Nat) : Int)) (zi (((0 : Nat) : Int) - 1)) s = if ¬ zi rs = zi 0 then f155_73 zF (setI s 22 3 (zi 1)) else if zl ((B % d : Nat) : Int) = zl 0 then f155_73 zF (setI s 22 3 (zi 0)) else f155_73 zF (setI s 22 3 (zi 1)) := by
      show b155_10 (f155_10 n) _ _ _ _ = _
      unfold b155_10
      rw [if_pos (zlt (by omega)), h6, e0]
    rw [ebody]
    by_cases c1 : zi rs = zi 0
    · rw [if_neg (not_not_intro c1)]
      by_cases c2 : B % d = 0
      · rw [if_pos (show zl ((B % d : Nat) : Int) = zl 0 from zleq (by omega))]
        have c3 : rs = 0 := by
          rcases hrs with h | h
          · exact h
          · exact absurd c1 (by rw [h]; exact zne (by omega))
        exact go 0 (by rw [if_pos ⟨c3, c2⟩])
      · rw [if_neg (zlne (by omega))]
        exact go 1 (by rw [if_neg (fun g => c2 g.2)])
    · rw [if_pos c1]
      exact go 1 (by rw [if_neg (fun g => c1 (by rw [g.1]))])
  | succ i ih =>
    intro n s hi hn h1 h5 h6 hz hy
    obtain ⟨n, rfl⟩ : ∃ k, n = k + 1 := ⟨n - 1, by omega⟩
    have ei : ((i + 1 : Nat) : Int) - 1 = (i : Int) := by omega
    rw [ei]
    have hw : s.2.1 23 (zi (i : Int)).toNatClampNeg = zl (wd B i : Nat) := by rw [zi_toNat (by omega)]; exact hz i (by omega)
    obtain ⟨t1, t2⟩ := div_step B d (2 ^ (32 * i)) 4294967296 hd (by decide)
    rw [← p32] at t1 t2
    have hl := wd_lt B i
    have hlf := Nat.mod_lt (B / 2 ^ (32 * (i + 1))) hd
    have w1 : ((B / 2 ^ (32 * (i + 1)) % d) * 4294967296 + wd B i) / d = wd (B / d) i := t1
    have w2 : ((B / 2 ^ (32 * (i + 1)) % d) * 4294967296 + wd B i) % d = B / 2 ^ (32 * i) % d := t2
    obtain ⟨s', u', a1, a2, a3⟩ := ih n (setK s 23 i (zl (wd (B / d) i : Nat))) (by omega) (by omega) h1 h5 h6 (fun j hj => by
      show vp_updL (s.2.1 23) i _ j = _
      rw [updL_ne (by omega)]
      exact hz j (by omega)) (fun j hj hj2 => by
      show vp_updL (s.2.1 23) i _ j = _
      by_cases e : j = i
      · rw [e, updL_eq]
      · rw [updL_ne e]
        exact hy j (by omega) hj2)
    refine ⟨s', u', ?_, a2, (fr.refl.sK rfl).trans a3⟩
    show b155_10 (f155_10 n) _ _ _ _ = _
    unfold b155_10
    have hix : mIx (zi (i : Int)) 128 := zi_ix (by omega) (by omega) (by omega)
    have hd0 : ¬ zl (d : Int) = zl 0 := zlne (by omega)
    have ed : zi (i : Int) + zi (-1) = zi ((i : Int) - 1) := by rw [zi_add]; exact congrArg zi (by omega)
    rw [← w1, ← w2] at a1
    generalize B / 2 ^ (32 * (i + 1)) % d = f at *
    have eor : zshlL (zl (f : Int)) (zi 32) ||| zl (wd B i : Nat) = zl ((f * 4294967296 + wd B i : Nat) : Int) := by
      have e1 : zshlL (zl (f : Int)) (zi 32) = zl ((f * 4294967296 : Nat) : Int) := shlN f (t := 32) (by decide)
      rw [e1]
      exact zor (k := 32) (by decide) hl (by omega)
    have ediv : zl ((f * 4294967296 + wd B i : Nat) : Int) / zl (d : Int) = zl (((f * 4294967296 + wd B i) / d : Nat) : Int) := by
      rw [zl_div (by omega) (by omega) (by omega) (by omega), ntdiv]
    have erem : zremL (zl ((f * 4294967296 + wd B i : Nat) : Int)) (zl (d : Int)) = zl (((f * 4294967296 + wd B i) % d : Nat) : Int) := by
      rw [zl_rem (by omega) (by omega) (by omega) (by omega), ntmod]
    rw [if_neg (znlt (by omega)), if_pos hix, if_pos hd0, if_pos hix, if_pos hd0, hw, eor, ediv, erem, zi_toNat (by omega), ed]
    exact a1
