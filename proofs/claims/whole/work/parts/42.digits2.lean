/-! digits as the reference writes them -/
theorem p18 {k : Nat} (h : k ≤ 18) : 10 ^ k ≤ 1000000000000000000 := by
  have := p10_mono h
  have e : (10 : Nat) ^ 18 = 1000000000000000000 := by decide
  omega
theorem p_pos (k : Nat) : 0 < 10 ^ k := Nat.pow_pos (by decide)
/-- a long by its sign and size, divided -/
theorem sdiv {v : Int} {N P : Nat} (h : v = N ∨ v = -(N : Int)) : v.tdiv P = if v = N then ((N / P : Nat) : Int) else -((N / P : Nat) : Int) := by
  rcases h with rfl | rfl
  · rw [if_pos rfl, ntdiv]
  · rw [tdiv_neg]
    split
    · have : N = 0 := by omega
      subst this
      simp
    · rfl
theorem sgn_cases (v : Int) : v = v.natAbs ∨ v = -(v.natAbs : Int) := by omega
theorem zdigL {v : Int} (h1 : -9223372036854775808 ≤ v) (h2 : v < 9223372036854775808) {i : Nat} (hi : i ≤ 18) : zremL (zl v / zl ((10 ^ i : Nat) : Int)) (zl 10) = zl (if 0 ≤ v then ((v.natAbs / 10 ^ i % 10 : Nat) : Int) else -((v.natAbs / 10 ^ i % 10 : Nat) : Int)) := by
  have hp := p18 hi
  have hp0 := p_pos i
  have hq : v.natAbs / 10 ^ i ≤ v.natAbs := Nat.div_le_self _ _
  have hq0 : (0 : Int) ≤ ((v.natAbs / 10 ^ i : Nat) : Int) := Int.natCast_nonneg _
  have e10 : (10 : Int) = ((10 : Nat) : Int) := rfl
  rw [zl_div h1 h2 (by omega) (by omega)]
  by_cases q : 0 ≤ v
  · have e : v.tdiv ((10 ^ i : Nat) : Int) = ((v.natAbs / 10 ^ i : Nat) : Int) := by
      have : v = (v.natAbs : Int) := by omega
      rw [this, ntdiv]
      rfl
    rw [if_pos q, e, zl_rem (by omega) (by omega) (by omega) (by omega), e10, ntmod]
  · have e : v.tdiv ((10 ^ i : Nat) : Int) = -((v.natAbs / 10 ^ i : Nat) : Int) := by
      have : v = -(v.natAbs : Int) := by omega
      rw [this, tdiv_neg]
      simp
    rw [if_neg q, e, zl_rem (by omega) (by omega) (by omega) (by omega), e10, tmod_neg]
theorem zdig {v : Int} (h1 : -9223372036854775808 ≤ v) (h2 : v < 9223372036854775808) {i : Nat} (hi : i ≤ 18) : zL2I (zremL (zl v / zl ((10 ^ i : Nat) : Int)) (zl 10)) = zi (if 0 ≤ v then ((v.natAbs / 10 ^ i % 10 : Nat) : Int) else -((v.natAbs / 10 ^ i % 10 : Nat) : Int)) := by
  rw [zdigL h1 h2 hi, zL2I_zl]
theorem zdiv10 {i : Nat} (hi : i ≤ 18) : zl ((10 ^ (i + 1) : Nat) : Int) / zl 10 = zl ((10 ^ i : Nat) : Int) ∨ i = 18 := by
  by_cases q : i = 18
  · exact .inr q
  · left
    have hp := p18 (show i + 1 ≤ 18 by omega)
    have hp0 := p_pos (i + 1)
    have e10 : (10 : Int) = ((10 : Nat) : Int) := rfl
    rw [zl_div (by omega) (by omega) (by omega) (by omega), e10, ntdiv, Nat.pow_succ, Nat.mul_div_cancel _ (by decide)]
theorem zdiv10_0 : zl ((10 ^ 0 : Nat) : Int) / zl 10 = zl 0 := by decide
theorem zstep {i : Nat} (hi : i ≤ 18) : zl ((10 ^ i : Nat) : Int) / zl 10 = zl (if i = 0 then 0 else ((10 ^ (i - 1) : Nat) : Int)) := by
  cases i with
  | zero => exact zdiv10_0
  | succ i =>
    rcases zdiv10 (i := i) (by omega) with e | e
    · rw [e]
      rfl
    · omega
/-- N / 10^k against 9 -/
theorem div9 {N k : Nat} : N / 10 ^ k ≤ 9 ↔ N < 10 ^ (k + 1) := by
  rw [Nat.pow_succ, Nat.mul_comm, ← Nat.div_lt_iff_lt_mul (p_pos k)]
  omega
theorem f177_49_loop {N : Nat} (hN : N ≤ 9223372036854775807) {x3 : Int32} : ∀ (i n : Nat) (s : zS) (l : List Int) (w : Int), i ≤ 18 → i + 1 < n → MD s l w → l.length + i + 1 ≤ 12000 →
    ∃ s', f177_49 n (zl N) x3 (zl ((10 ^ i : Nat) : Int)) s = some s' ∧ MD s' (l ++ ds N (i + 1)) (w + (i + 1 : Nat)) ∧ fr [39] [30, 31] s s' := by
  intro i
  induction i with
  | zero =>
    intro n s l w hi hn hM hl
    obtain ⟨n, rfl⟩ : ∃ k, n = k + 2 := ⟨n - 2, by omega⟩
    have hd : N / 10 ^ 0 % 10 < 10 := Nat.mod_lt _ (by decide)
    obtain ⟨s1, a1, a2, a3⟩ := hM.add (by omega) (b := 48 + ((N / 10 ^ 0 % 10 : Nat) : Int)) (by omega) (by omega)
    refine ⟨s1, ?_, a2, a3⟩
    have hz := zdigL (v := (N : Int)) (by omega) (by omega) (i := 0) (by omega)
    rw [if_pos (by omega), Int.natAbs_natCast] at hz
    have e48 : zL2I (zl 48 + zremL (zl (N : Int) / zl ((10 ^ 0 : Nat) : Int)) (zl 10)) = zi (48 + ((N / 10 ^ 0 % 10 : Nat) : Int)) := by
      rw [hz, zl_add, zL2I_zl]
    show b177_49 (f177_49 (n + 1)) _ _ _ _ = _
    unfold b177_49
    rw [if_neg (zlnle (by decide)), if_pos (zlne (by decide)), e48, a1, zb0_mk, zdiv10_0]
    show b177_49 (f177_49 n) _ _ _ _ = _
    unfold b177_49
    rw [if_pos (zlle (by omega))]
  | succ i ih =>
    intro n s l w hi hn hM hl
    obtain ⟨n, rfl⟩ : ∃ k, n = k + 1 := ⟨n - 1, by omega⟩
    have hd : N / 10 ^ (i + 1) % 10 < 10 := Nat.mod_lt _ (by decide)
    have hp := p18 hi
    have hp0 := p_pos (i + 1)
    obtain ⟨s1, a1, a2, a3⟩ := hM.add (by omega) (b := 48 + ((N / 10 ^ (i + 1) % 10 : Nat) : Int)) (by omega) (by omega)
    obtain ⟨s', b1, b2, b3⟩ := ih n s1 _ (w + 1) (by omega) (by omega) a2 (by rw [List.length_append]; show l.length + 1 + i + 1 ≤ 12000; omega)
    refine ⟨s', ?_, ?_, a3.trans b3⟩
    · have hz := zdigL (v := (N : Int)) (by omega) (by omega) (i := i + 1) hi
      rw [if_pos (by omega), Int.natAbs_natCast] at hz
      have e48 : zL2I (zl 48 + zremL (zl (N : Int) / zl ((10 ^ (i + 1) : Nat) : Int)) (zl 10)) = zi (48 + ((N / 10 ^ (i + 1) % 10 : Nat) : Int)) := by
        rw [hz, zl_add, zL2I_zl]
      show b177_49 (f177_49 n) _ _ _ _ = _
      unfold b177_49
      rw [if_neg (zlnle (by omega)), if_pos (zlne (by omega)), e48, a1, zb0_mk, zstep hi]
      exact b1
    · rw [List.append_assoc] at b2
      have e1 : w + 1 + ((i + 1 : Nat) : Int) = w + ((i + 1 + 1 : Nat) : Int) := by omega
      rw [e1] at b2
      exact b2
theorem f177_31_loop {N : Nat} (hN : N ≤ 9223372036854775807) {k a : Nat} (hk : k ≤ 18) (ha : a ≤ 19) : ∀ (d m n : Nat) (s : zS) (l : List Int) (w : Int), d = a - m → d < n → m ≤ 20 → MD s l w → l.length + d + k + 1 ≤ 12000 →
    ∃ s', f177_31 n (zl N) (zi a) (zl ((10 ^ k : Nat) : Int)) (zi m) s = some s' ∧ MD s' (l ++ (List.replicate d 48 ++ ds N (k + 1))) (w + d + (k + 1 : Nat)) ∧ fr [39] [30, 31] s s' := by
  intro d
  induction d with
  | zero =>
    intro m n s l w hd hn hm hM hl
    obtain ⟨n, rfl⟩ : ∃ k, n = k + 1 := ⟨n - 1, by omega⟩
    obtain ⟨s', b1, b2, b3⟩ := f177_49_loop hN (x3 := zi a) k zF s l w hk (by unfold zF; omega) hM (by omega)
    refine ⟨s', ?_, ?_, b3⟩
    · show b177_31 (f177_31 n) _ _ _ _ _ = _
      unfold b177_31
      rw [if_pos (zge (by omega))]
      exact b1
    · have e0 : w + ((0 : Nat) : Int) + ((k + 1 : Nat) : Int) = w + ((k + 1 : Nat) : Int) := by omega
      rw [e0]
      exact b2
  | succ d ih =>
    intro m n s l w hd hn hm hM hl
    obtain ⟨n, rfl⟩ : ∃ k, n = k + 1 := ⟨n - 1, by omega⟩
    obtain ⟨s1, a1, a2, a3⟩ := hM.add (by omega) (b := 48) (by omega) (by omega)
    obtain ⟨s', b1, b2, b3⟩ := ih (m + 1) n s1 _ (w + 1) (by omega) (by omega) (by omega) a2 (by rw [List.length_append]; show l.length + 1 + d + k + 1 ≤ 12000; omega)
    refine ⟨s', ?_, ?_, a3.trans b3⟩
    · show b177_31 (f177_31 n) _ _ _ _ _ = _
      unfold b177_31
      rw [if_neg (znge (by omega)), a1, zb0_mk, zi_add]
      exact b1
    · rw [List.append_assoc] at b2
      have e1 : w + 1 + (d : Int) + ((k + 1 : Nat) : Int) = w + ((d + 1 : Nat) : Int) + ((k + 1 : Nat) : Int) := by omega
      rw [e1] at b2
      exact b2
theorem zdivp {v : Int} (h1 : -9223372036854775808 ≤ v) (h2 : v < 9223372036854775808) {i : Nat} (hi : i ≤ 18) : zl v / zl ((10 ^ i : Nat) : Int) = zl (if 0 ≤ v then ((v.natAbs / 10 ^ i : Nat) : Int) else -((v.natAbs / 10 ^ i : Nat) : Int)) := by
  have hp := p18 hi
  have hp0 := p_pos i
  rw [zl_div h1 h2 (by omega) (by omega)]
  by_cases q : 0 ≤ v
  · have : v = (v.natAbs : Int) := by omega
    rw [if_pos q]
    congr 1
    rw [this, ntdiv]
    rfl
  · have : v = -(v.natAbs : Int) := by omega
    rw [if_neg q]
    congr 1
    rw [this, tdiv_neg]
    simp
theorem ds_kk {N a k : Nat} (hN : N < 10 ^ 25) (ha : a ≤ 25) (h1 : N < 10 ^ (k + 1)) (h2 : k = 0 ∨ 10 ^ k ≤ N) (ha1 : 1 ≤ a) : List.replicate (a - (k + 1)) 48 ++ ds N (k + 1) = ds N (kk N a) ∧ a - (k + 1) + (k + 1) = kk N a := by
  have hK : KK N a (k + 1 + (a - (k + 1))) := by
    refine ⟨Nat.lt_of_lt_of_le h1 (p10_mono (by omega)), by omega, ?_⟩
    by_cases q : k + 1 ≤ a
    · exact .inl (by omega)
    · refine .inr ⟨by omega, ?_⟩
      rw [show k + 1 + (a - (k + 1)) - 1 = k by omega]
      rcases h2 with e | e
      · omega
      · exact e
  have := kk_eq hN ha hK
  rw [← ds_pad h1, this]
  exact ⟨rfl, by omega⟩
theorem f177_6_loop {N a : Nat} (hN : N ≤ 9223372036854775807) (ha : a ≤ 19) (ha1 : 1 ≤ a) : ∀ (d k n : Nat) (s : zS) (l : List Int) (w : Int), d + k = 18 → d < n → (k = 0 ∨ 10 ^ k ≤ N) → MD s l w → l.length ≤ 11000 →
    ∃ s', f177_6 n (zl N) (zi a) (zl ((10 ^ k : Nat) : Int)) (zi (k + 1 : Nat)) s = some s' ∧ MD s' (l ++ ds N (kk N a)) (w + (kk N a : Nat)) ∧ fr [39] [30, 31] s s' := by
  have hN25 : N < 10 ^ 25 := by
    have : (10 : Nat) ^ 25 = 10000000000000000000000000 := by decide
    omega
  have stop : ∀ (k n : Nat) (s : zS) (l : List Int) (w : Int), k ≤ 18 → N < 10 ^ (k + 1) → (k = 0 ∨ 10 ^ k ≤ N) → MD s l w → l.length ≤ 11000 → ∃ s', f177_6 (n + 1) (zl N) (zi a) (zl ((10 ^ k : Nat) : Int)) (zi (k + 1 : Nat)) s = some s' ∧ MD s' (l ++ ds N (kk N a)) (w + (kk N a : Nat)) ∧ fr [39] [30, 31] s s' := by
    intro k n s l w hk h1 h2 hM hl
    have hp0 := p_pos k
    have hp := p18 hk
    obtain ⟨e1, e2⟩ := ds_kk hN25 (by omega) h1 h2 ha1
    obtain ⟨s', b1, b2, b3⟩ := f177_31_loop hN hk ha (a - (k + 1)) (k + 1) zF s l w rfl (by unfold zF; omega) (by omega) hM (by omega)
    refine ⟨s', ?_, ?_, b3⟩
    · show b177_6 (f177_6 n) _ _ _ _ _ = _
      unfold b177_6
      have h9 := div9.mpr h1
      have h90 : (0 : Int) ≤ ((N / 10 ^ k : Nat) : Int) := Int.natCast_nonneg _
      rw [if_pos (zlne (by omega)), zdivp (by omega) (by omega) hk, if_pos (show (0 : Int) ≤ (N : Int) by omega), Int.natAbs_natCast, if_pos (zlle (by omega))]
      exact b1
    · rw [e1] at b2
      have e3 : w + ((a - (k + 1) : Nat) : Int) + ((k + 1 : Nat) : Int) = w + (kk N a : Nat) := by omega
      rw [e3] at b2
      exact b2
  intro d
  induction d with
  | zero =>
    intro k n s l w hd hn hk hM hl
    obtain ⟨n, rfl⟩ : ∃ k, n = k + 1 := ⟨n - 1, by omega⟩
    refine stop k n s l w (by omega) ?_ hk hM hl
    have hk18 : k = 18 := by omega
    subst hk18
    have : (10 : Nat) ^ (18 + 1) = 10000000000000000000 := by decide
    omega
  | succ d ih =>
    intro k n s l w hd hn hk hM hl
    obtain ⟨n, rfl⟩ : ∃ k, n = k + 1 := ⟨n - 1, by omega⟩
    have hp0 := p_pos k
    have hp := p18 (show k + 1 ≤ 18 by omega)
    have hp' := p18 (show k ≤ 18 by omega)
    by_cases h1 : N < 10 ^ (k + 1)
    · exact stop k n s l w (by omega) h1 hk hM hl
    · obtain ⟨s', b1, b2, b3⟩ := ih (k + 1) n s l w (by omega) (by omega) (.inr (by omega)) hM hl
      refine ⟨s', ?_, b2, b3⟩
      have h9 : ¬ N / 10 ^ k ≤ 9 := fun h => h1 (div9.mp h)
      have hle : N / 10 ^ k ≤ N := Nat.div_le_self _ _
      show b177_6 (f177_6 n) _ _ _ _ _ = _
      unfold b177_6
      rw [if_pos (zlne (by omega)), zdivp (by omega) (by omega) (show k ≤ 18 by omega), if_pos (show (0 : Int) ≤ (N : Int) by omega), Int.natAbs_natCast, if_neg (zlnle (by omega)), zl_mul, zi_add]
      have e1 : ((10 ^ k : Nat) : Int) * 10 = ((10 ^ (k + 1) : Nat) : Int) := by rw [Nat.pow_succ]; omega
      rw [e1]
      exact b1
theorem MD.num {s : zS} {l : List Int} {w : Int} (h : MD s l w) {N a : Nat} (hN : N ≤ 9223372036854775807) (ha : a ≤ 19) (ha1 : 1 ≤ a) (hl : l.length ≤ 11000) : ∃ s', f177 (zl N) (zi a) s = some s' ∧ MD s' (l ++ ds N (kk N a)) (w + (kk N a : Nat)) ∧ fr [39] [30, 31] s s' :=
  f177_6_loop hN ha ha1 18 0 zF s l w rfl (by unfold zF; omega) (.inl rfl) h hl
/-! signed -/
theorem f194_43_loop {v : Int} (h1 : -9223372036854775808 ≤ v) (h2 : v < 9223372036854775808) : ∀ (i n : Nat) (s : zS) (l : List Int) (w : Int), i ≤ 18 → i + 1 < n → MD s l w → l.length + i + 1 ≤ 12000 →
    ∃ s', f194_43 n (zl v) (zl ((10 ^ i : Nat) : Int)) s = some s' ∧ MD s' (l ++ ds v.natAbs (i + 1)) (w + (i + 1 : Nat)) ∧ fr [39] [30, 31] s s' := by
  have step : ∀ (i n : Nat) (s s1 : zS), i ≤ 18 → f175 (zi (48 + ((v.natAbs / 10 ^ i % 10 : Nat) : Int))) s = some s1 → f194_43 (n + 1) (zl v) (zl ((10 ^ i : Nat) : Int)) s = f194_43 n (zl v) (zl (if i = 0 then 0 else ((10 ^ (i - 1) : Nat) : Int))) s1 := by
    intro i n s s1 hi a1
    have hp := p18 hi
    have hp0 := p_pos i
    have hd : v.natAbs / 10 ^ i % 10 < 10 := Nat.mod_lt _ (by decide)
    show b194_43 (f194_43 n) _ _ _ = _
    unfold b194_43 f194_75
    rw [if_neg (zlnle (by omega)), if_pos (zlne (by omega)), zdig h1 h2 hi, zstep hi]
    by_cases q : 0 ≤ v
    · rw [if_pos q, if_pos (zge (by omega)), zi_add, a1, zb0_mk]
    · rw [if_neg q]
      by_cases z0 : v.natAbs / 10 ^ i % 10 = 0
      · rw [z0] at a1 ⊢
        rw [if_pos (zge (by decide)), zi_add]
        show zb0 (f175 (zi (48 + ((0 : Nat) : Int))) s) _ = _
        rw [a1, zb0_mk]
      · rw [if_neg (znge (by omega)), zi_neg, zi_add, Int.neg_neg, a1, zb0_mk]
  intro i
  induction i with
  | zero =>
    intro n s l w hi hn hM hl
    obtain ⟨n, rfl⟩ : ∃ k, n = k + 2 := ⟨n - 2, by omega⟩
    have hd : v.natAbs / 10 ^ 0 % 10 < 10 := Nat.mod_lt _ (by decide)
    obtain ⟨s1, a1, a2, a3⟩ := hM.add (by omega) (b := 48 + ((v.natAbs / 10 ^ 0 % 10 : Nat) : Int)) (by omega) (by omega)
    refine ⟨s1, ?_, a2, a3⟩
    rw [step 0 (n + 1) s s1 (by omega) a1]
    show b194_43 (f194_43 n) _ _ _ = _
    unfold b194_43
    rw [if_pos (zlle (by decide))]
  | succ i ih =>
    intro n s l w hi hn hM hl
    obtain ⟨n, rfl⟩ : ∃ k, n = k + 1 := ⟨n - 1, by omega⟩
    have hd : v.natAbs / 10 ^ (i + 1) % 10 < 10 := Nat.mod_lt _ (by decide)
    obtain ⟨s1, a1, a2, a3⟩ := hM.add (by omega) (b := 48 + ((v.natAbs / 10 ^ (i + 1) % 10 : Nat) : Int)) (by omega) (by omega)
    obtain ⟨s', b1, b2, b3⟩ := ih n s1 _ (w + 1) (by omega) (by omega) a2 (by rw [List.length_append]; show l.length + 1 + i + 1 ≤ 12000; omega)
    refine ⟨s', ?_, ?_, a3.trans b3⟩
    · rw [step (i + 1) n s s1 hi a1]
      exact b1
    · rw [List.append_assoc] at b2
      have e1 : w + 1 + ((i + 1 : Nat) : Int) = w + ((i + 1 + 1 : Nat) : Int) := by omega
      rw [e1] at b2
      exact b2
theorem f194_14_loop {v : Int} (h1 : -9223372036854775808 ≤ v) (h2 : v < 9223372036854775808) : ∀ (d k n : Nat) (s : zS) (l : List Int) (w : Int), d + k = 18 → d < n → (k = 0 ∨ 10 ^ k ≤ v.natAbs) → MD s l w → l.length ≤ 11000 →
    ∃ s', f194_14 n (zl v) (zl ((10 ^ k : Nat) : Int)) s = some s' ∧ MD s' (l ++ ds v.natAbs (kk v.natAbs 1)) (w + (kk v.natAbs 1 : Nat)) ∧ fr [39] [30, 31] s s' := by
  have hN25 : v.natAbs < 10 ^ 25 := by
    have : (10 : Nat) ^ 25 = 10000000000000000000000000 := by decide
    omega
  have hdv : ∀ k, k ≤ 18 → v.natAbs / 10 ^ k ≤ v.natAbs := fun k _ => Nat.div_le_self _ _
  have stop : ∀ (k n : Nat) (s : zS) (l : List Int) (w : Int), k ≤ 18 → v.natAbs < 10 ^ (k + 1) → (k = 0 ∨ 10 ^ k ≤ v.natAbs) → MD s l w → l.length ≤ 11000 → ∃ s', f194_14 (n + 1) (zl v) (zl ((10 ^ k : Nat) : Int)) s = some s' ∧ MD s' (l ++ ds v.natAbs (kk v.natAbs 1)) (w + (kk v.natAbs 1 : Nat)) ∧ fr [39] [30, 31] s s' := by
    intro k n s l w hk h1' h2' hM hl
    have hp0 := p_pos k
    have hp := p18 hk
    obtain ⟨e1, e2⟩ := ds_kk hN25 (show 1 ≤ 25 by decide) h1' h2' (by decide)
    obtain ⟨s', b1, b2, b3⟩ := f194_43_loop h1 h2 k zF s l w hk (by unfold zF; omega) hM (by omega)
    refine ⟨s', ?_, ?_, b3⟩
    · show b194_14 (f194_14 n) _ _ _ = _
      unfold b194_14
      have h9 := div9.mpr h1'
      have h90 : (0 : Int) ≤ ((v.natAbs / 10 ^ k : Nat) : Int) := Int.natCast_nonneg _
      rw [if_pos (zlne (by omega)), zdivp h1 h2 hk]
      by_cases q : 0 ≤ v
      · rw [if_pos q, if_neg (zlngt (by omega)), if_pos (zlne (by omega)), if_pos (zlge (by omega))]
        exact b1
      · rw [if_neg q, if_neg (zlngt (by omega)), if_pos (zlne (by omega)), if_pos (zlge (by omega))]
        exact b1
    · have e0 : 1 - (k + 1) = 0 := by omega
      rw [e0] at e1 e2
      rw [show ds v.natAbs (k + 1) = ds v.natAbs (kk v.natAbs 1) from e1] at b2
      have e3 : ((k + 1 : Nat) : Int) = (kk v.natAbs 1 : Nat) := by omega
      rw [e3] at b2
      exact b2
  intro d
  induction d with
  | zero =>
    intro k n s l w hd hn hk hM hl
    obtain ⟨n, rfl⟩ : ∃ k, n = k + 1 := ⟨n - 1, by omega⟩
    refine stop k n s l w (by omega) ?_ hk hM hl
    have hk18 : k = 18 := by omega
    subst hk18
    have : (10 : Nat) ^ (18 + 1) = 10000000000000000000 := by decide
    omega
  | succ d ih =>
    intro k n s l w hd hn hk hM hl
    obtain ⟨n, rfl⟩ : ∃ k, n = k + 1 := ⟨n - 1, by omega⟩
    have hp0 := p_pos k
    have hp := p18 (show k + 1 ≤ 18 by omega)
    have hp' := p18 (show k ≤ 18 by omega)
    by_cases h1' : v.natAbs < 10 ^ (k + 1)
    · exact stop k n s l w (by omega) h1' hk hM hl
    · obtain ⟨s', b1, b2, b3⟩ := ih (k + 1) n s l w (by omega) (by omega) (.inr (by omega)) hM hl
      refine ⟨s', ?_, b2, b3⟩
      have h9 : ¬ v.natAbs / 10 ^ k ≤ 9 := fun h => h1' (div9.mp h)
      have hle := hdv k (by omega)
      have e1 : ((10 ^ k : Nat) : Int) * 10 = ((10 ^ (k + 1) : Nat) : Int) := by rw [Nat.pow_succ]; omega
      show b194_14 (f194_14 n) _ _ _ = _
      unfold b194_14
      rw [if_pos (zlne (by omega)), zdivp h1 h2 (show k ≤ 18 by omega), zl_mul, e1]
      by_cases q : 0 ≤ v
      · rw [if_pos q, if_pos (zlgt (by omega))]
        exact b1
      · rw [if_neg q, if_neg (zlngt (by omega)), if_pos (zlne (by omega)), if_neg (zlnge (by omega))]
        exact b1
theorem MD.signed {s : zS} {l : List Int} {w : Int} (h : MD s l w) {v : Int} (h1 : -9223372036854775808 ≤ v) (h2 : v < 9223372036854775808) (hl : l.length ≤ 10000) : ∃ s', f194 (zl v) s = some s' ∧ MD s' (l ++ ((if v < 0 then [45] else []) ++ ds v.natAbs (kk v.natAbs 1))) (w + ((if v < 0 then [45] else []) ++ ds v.natAbs (kk v.natAbs 1)).length) ∧ fr [39] [30, 31] s s' := by
  unfold f194
  by_cases q : 0 ≤ v
  · obtain ⟨s', q1, q2, q3⟩ := f194_14_loop h1 h2 18 0 zF s l w rfl (by unfold zF; omega) (.inl rfl) h (by omega)
    refine ⟨s', ?_, ?_, q3⟩
    · rw [if_pos (zlge (by omega))]
      exact q1
    · rw [if_neg (by omega), List.nil_append, ds_len]
      exact q2
  · obtain ⟨s1, a1, a2, a3⟩ := h.add (by omega) (b := 45) (by omega) (by omega)
    obtain ⟨s', q1, q2, q3⟩ := f194_14_loop h1 h2 18 0 zF s1 _ (w + 1) rfl (by unfold zF; omega) (.inl rfl) a2 (by rw [List.length_append]; show l.length + 1 ≤ 11000; omega)
    refine ⟨s', ?_, ?_, a3.trans q3⟩
    · rw [if_neg (zlnge (by omega)), a1, zb0_mk]
      exact q1
    · rw [if_pos (by omega)]
      rw [List.append_assoc] at q2
      have e1 : w + 1 + ((kk v.natAbs 1 : Nat) : Int) = w + (([45] ++ ds v.natAbs (kk v.natAbs 1)).length : Nat) := by
        rw [List.length_append, ds_len]
        show w + 1 + ((kk v.natAbs 1 : Nat) : Int) = w + ((1 + kk v.natAbs 1 : Nat) : Int)
        omega
      rw [e1] at q2
      exact q2
