/-! decimal digits of wholes, as both write them -/
/-- K digits are what is written of N when at least a are wanted -/
def KK (N a K : Nat) : Prop := N < 10 ^ K ∧ a ≤ K ∧ (K = a ∨ (1 ≤ K ∧ 10 ^ (K - 1) ≤ N))
def kF (N a : Nat) : Nat → Nat
  | 0 => 0
  | m + 1 => if m + 1 = a then m + 1 else if N < 10 ^ m then kF N a m else m + 1
def kk (N a : Nat) : Nat := kF N a 25
theorem kF_spec {N a : Nat} : ∀ m, N < 10 ^ m → a ≤ m → KK N a (kF N a m) ∧ kF N a m ≤ m := by
  intro m
  induction m with
  | zero => intro h ha; exact ⟨⟨h, ha, .inl (by show 0 = a; omega)⟩, Nat.le_refl _⟩
  | succ m ih =>
    intro h ha
    unfold kF
    by_cases h1 : m + 1 = a
    · rw [if_pos h1]
      exact ⟨⟨h, by omega, .inl h1⟩, Nat.le_refl _⟩
    · rw [if_neg h1]
      by_cases h2 : N < 10 ^ m
      · rw [if_pos h2]
        have := ih h2 (by omega)
        exact ⟨this.1, by omega⟩
      · rw [if_neg h2]
        exact ⟨⟨h, by omega, .inr ⟨by omega, by show 10 ^ m ≤ N; omega⟩⟩, Nat.le_refl _⟩
theorem p10_mono {a b : Nat} (h : a ≤ b) : 10 ^ a ≤ 10 ^ b := Nat.pow_le_pow_right (by decide) h
theorem KK_uniq {N a K L : Nat} (h1 : KK N a K) (h2 : KK N a L) : K = L := by
  have aux : ∀ {K L : Nat}, KK N a K → KK N a L → ¬ K < L := by
    intro K L h1 h2 h
    rcases h2.2.2 with e | ⟨e1, e2⟩
    · have := h1.2.1
      omega
    · have := p10_mono (show K ≤ L - 1 by omega)
      have := h1.1
      omega
  have := aux h1 h2
  have := aux h2 h1
  omega
theorem kk_eq {N a K : Nat} (hN : N < 10 ^ 25) (ha : a ≤ 25) (h : KK N a K) : K = kk N a := KK_uniq h (kF_spec 25 hN ha).1
theorem kk_le {N a m : Nat} (hN : N < 10 ^ m) (ha : a ≤ m) (hm : m ≤ 25) : kk N a ≤ m := by
  have h1 := (kF_spec (N := N) (a := a) 25 (Nat.lt_of_lt_of_le hN (p10_mono hm)) (by omega)).1
  have h2 := kF_spec (N := N) (a := a) m hN ha
  have : kk N a = kF N a m := KK_uniq h1 h2.1
  omega
theorem kk_KK {N a : Nat} (hN : N < 10 ^ 25) (ha : a ≤ 25) : KK N a (kk N a) := (kF_spec 25 hN ha).1
/-- digits with commas -/
def dsC (c : Int) (N : Nat) : Nat → List Int
  | 0 => []
  | k + 1 => (48 + (N / 10 ^ k % 10 : Nat) : Int) :: (if c = 1 ∧ 0 < k ∧ k % 3 = 0 then 44 :: dsC c N k else dsC c N k)
theorem dsC_ds (N : Nat) : ∀ k, dsC 0 N k = ds N k
  | 0 => rfl
  | k + 1 => by
    show (48 + (N / 10 ^ k % 10 : Nat) : Int) :: (if (0 : Int) = 1 ∧ 0 < k ∧ k % 3 = 0 then 44 :: dsC 0 N k else dsC 0 N k) = (48 + (N / 10 ^ k % 10 : Nat) : Int) :: ds N k
    rw [if_neg (fun h => absurd h.1 (by decide)), dsC_ds N k]
theorem dsC_len (c : Int) (N : Nat) : ∀ k, (dsC c N k).length ≤ 2 * k
  | 0 => Nat.le_refl _
  | k + 1 => by
    have := dsC_len c N k
    show (_ :: (if c = 1 ∧ 0 < k ∧ k % 3 = 0 then 44 :: dsC c N k else dsC c N k)).length ≤ _
    rw [List.length_cons]
    split
    · rw [List.length_cons]
      omega
    · omega
theorem mTens_eq : ∀ i, i < 19 → mTens i = zl ((10 ^ i : Nat) : Int) := by decide +kernel
theorem tdiv_neg (N P : Nat) : (-(N : Int)).tdiv (P : Int) = -((N / P : Nat) : Int) := by
  rw [Int.neg_tdiv, ntdiv]
theorem tmod_neg (N P : Nat) : (-(N : Int)).tmod (P : Int) = -((N % P : Nat) : Int) := by
  rw [Int.neg_tmod, ntmod]
theorem f78_dig {N i : Nat} (hN : N ≤ 9223372036854775808) (hi : i < 19) : zL2I (-(zremL (zl (-(N : Int)) / (mTens i)) (zl 10))) = zi ((N / 10 ^ i % 10 : Nat) : Int) := by
  have hp : (10 : Nat) ^ i ≤ 10 ^ 18 := p10_mono (by omega)
  have hp0 : 0 < 10 ^ i := Nat.pow_pos (by decide)
  have hq : N / 10 ^ i ≤ N := Nat.div_le_self _ _
  have hq0 : (0 : Int) ≤ ((N / 10 ^ i : Nat) : Int) := Int.natCast_nonneg _
  rw [mTens_eq i hi, zl_div (by omega) (by omega) (by omega) (by omega), tdiv_neg, zl_rem (by omega) (by omega) (by omega) (by omega)]
  have : (10 : Int) = ((10 : Nat) : Int) := rfl
  rw [this, tmod_neg, zl_neg, Int.neg_neg, zL2I_zl]
theorem f78_loop1 {N a : Nat} (hN : N ≤ 9223372036854775808) (ha : a ≤ 19) {c : Int} (hc : c = 0 ∨ c = 1) : ∀ (i n : Nat) (s : zS) (l : List Int) (g z : Int), i ≤ 19 → i < n → PC s l g z → l.length + 2 * i ≤ 1600 →
    ∃ s', f78_25 n (zi a) (zi c) (zl (-(N : Int))) (zi 1) (zi ((i : Int) - 1)) s = some s' ∧ PC s' (l ++ dsC c N i) g z ∧ fr [13, 14] [] s s' := by
  intro i
  induction i with
  | zero =>
    intro n s l g z hi hn hP hl
    obtain ⟨n, rfl⟩ : ∃ k, n = k + 1 := ⟨n - 1, by omega⟩
    refine ⟨s, ?_, by rw [show dsC c N 0 = [] from rfl, List.append_nil]; exact hP, fr.refl⟩
    show b78_25 (f78_25 n) _ _ _ _ _ _ = _
    unfold b78_25
    rw [if_pos (zlt (by omega))]
  | succ i ih =>
    intro n s l g z hi hn hP hl
    obtain ⟨n, rfl⟩ : ∃ k, n = k + 1 := ⟨n - 1, by omega⟩
    have hd : N / 10 ^ i % 10 < 10 := Nat.mod_lt _ (by decide)
    have hp : (0 : Int) < ((10 ^ i : Nat) : Int) := by have := Nat.pow_pos (n := i) (show 0 < 10 by decide); omega
    have hp2 : (10 : Nat) ^ i ≤ 10 ^ 18 := p10_mono (by omega)
    have em : ((i + 1 : Nat) : Int) - 1 = i := by omega
    have em2 : (i : Int) + -1 = i - 1 := by omega
    obtain ⟨s1, a1, a2, a3⟩ := hP.add (by omega) (b := 48 + ((N / 10 ^ i % 10 : Nat) : Int)) (by omega) (by omega)
    have hn0 : ¬ mTens i = zl 0 := by
      rw [mTens_eq i (by omega)]
      exact zlne (by omega)
    have e0 : f78_25 (n + 1) (zi a) (zi c) (zl (-(N : Int))) (zi 1) (zi (((i + 1 : Nat) : Int) - 1)) s = f78_84 (f78_25 n) (zi a) (zi c) (zl (-(N : Int))) (zi 1) (zi i) s1 := by
      show b78_25 (f78_25 n) _ _ _ _ _ _ = _
      unfold b78_25
      rw [em, if_neg (znlt (by omega)), if_pos (zi_ix (by omega) (by omega) (by omega)), zi_toNat (by omega), if_pos hn0, if_pos (zne (by omega)), f78_dig hN (by omega)]
      unfold f78_68
      rw [if_neg (zne (by omega)), zi_add, a1, zb0_mk]
    rw [e0]
    unfold f78_84
    rw [if_neg (zne (by omega)), zi_add, em2]
    have hlen : (l ++ [48 + ((N / 10 ^ i % 10 : Nat) : Int)]).length = l.length + 1 := by rw [List.length_append]; rfl
    by_cases q : c = 1 ∧ 0 < i ∧ i % 3 = 0
    · obtain ⟨q1, q2, q3⟩ := q
      subst q1
      obtain ⟨s2, b1, b2, b3⟩ := a2.add (by omega) (b := 44) (by omega) (by omega)
      obtain ⟨s', d1, d2, d3⟩ := ih n s2 _ g z (by omega) (by omega) b2 (by rw [List.length_append, hlen]; show l.length + 1 + 1 + 2 * i ≤ 1600; omega)
      refine ⟨s', ?_, ?_, (a3.trans b3).trans d3⟩
      · have e3 : zrem (zi i) (zi 3) = zi 0 := by
          rw [zi_rem (by omega) (by omega) (by omega) (by omega)]
          have : (3 : Int) = ((3 : Nat) : Int) := rfl
          rw [this, ntmod, q3]
          rfl
        rw [if_neg (zne (by omega)), if_neg (znle (by omega)), e3, if_neg (not_not_intro rfl), b1, zb0_mk]
        exact d1
      · show PC s' (l ++ (_ :: (if (1 : Int) = 1 ∧ 0 < i ∧ i % 3 = 0 then 44 :: dsC 1 N i else dsC 1 N i))) g z
        rw [if_pos ⟨rfl, q2, q3⟩]
        rw [List.append_assoc, List.append_assoc] at d2
        exact d2
    · obtain ⟨s', d1, d2, d3⟩ := ih n s1 _ g z (by omega) (by omega) a2 (by rw [hlen]; omega)
      refine ⟨s', ?_, ?_, a3.trans d3⟩
      · rcases hc with rfl | rfl
        · rw [if_pos rfl]
          exact d1
        · rw [if_neg (zne (by omega))]
          by_cases q2 : i = 0
          · subst q2
            rw [if_pos (zle (by omega))]
            exact d1
          · have q3 : ¬ i % 3 = 0 := fun h => q ⟨rfl, by omega, h⟩
            have e3 : zrem (zi i) (zi 3) = zi ((i % 3 : Nat) : Int) := by
              rw [zi_rem (by omega) (by omega) (by omega) (by omega)]
              have : (3 : Int) = ((3 : Nat) : Int) := rfl
              rw [this, ntmod]
            rw [if_neg (znle (by omega)), e3, if_pos (zne (by omega))]
            exact d1
      · show PC s' (l ++ (_ :: (if c = 1 ∧ 0 < i ∧ i % 3 = 0 then 44 :: dsC c N i else dsC c N i))) g z
        rw [if_neg q]
        rw [List.append_assoc] at d2
        exact d2
theorem f78_loop0 {N a K : Nat} (hN : N ≤ 9223372036854775808) (hK : KK N a K) (hK2 : K ≤ 19) {c : Int} (hc : c = 0 ∨ c = 1) : ∀ (d i n : Nat) (s : zS) (l : List Int) (g z : Int), d + K = i → i ≤ 19 → i < n → PC s l g z → l.length + 2 * K ≤ 1600 →
    ∃ s', f78_25 n (zi a) (zi c) (zl (-(N : Int))) (zi 0) (zi ((i : Int) - 1)) s = some s' ∧ PC s' (l ++ dsC c N K) g z ∧ fr [13, 14] [] s s' := by
  have hdig : ∀ i, i < 19 → ¬ mTens i = zl 0 := by
    intro i hi
    have hp : (0 : Int) < ((10 ^ i : Nat) : Int) := by have := Nat.pow_pos (n := i) (show 0 < 10 by decide); omega
    have hp2 : (10 : Nat) ^ i ≤ 10 ^ 18 := p10_mono (by omega)
    rw [mTens_eq i hi]
    exact zlne (by omega)
  intro d
  induction d with
  | zero =>
    intro i n s l g z hd hi hn hP hl
    have hi2 : i = K := by omega
    subst hi2
    cases i with
    | zero =>
      obtain ⟨n, rfl⟩ : ∃ k, n = k + 1 := ⟨n - 1, by omega⟩
      refine ⟨s, ?_, by rw [show dsC c N 0 = [] from rfl, List.append_nil]; exact hP, fr.refl⟩
      show b78_25 (f78_25 n) _ _ _ _ _ _ = _
      unfold b78_25
      rw [if_pos (zlt (by omega))]
    | succ i =>
      -- the first digit: as if it had begun
      obtain ⟨s', q1, q2, q3⟩ := f78_loop1 hN (show a ≤ 19 by have := hK.2.1; omega) hc (i + 1) n s l g z hi hn hP hl
      refine ⟨s', ?_, q2, q3⟩
      rw [← q1]
      obtain ⟨n, rfl⟩ : ∃ k, n = k + 1 := ⟨n - 1, by omega⟩
      have em : ((i + 1 : Nat) : Int) - 1 = i := by omega
      show b78_25 (f78_25 n) _ _ _ _ _ _ = b78_25 (f78_25 n) _ _ _ _ _ _
      unfold b78_25
      rw [em, if_neg (znlt (by omega)), if_neg (znlt (by omega)), if_pos (zi_ix (by omega) (by omega) (by omega)), if_pos (zi_ix (by omega) (by omega) (by omega)), zi_toNat (by omega), if_pos (hdig i (by omega)), if_pos (hdig i (by omega)), f78_dig hN (by omega), if_neg (not_not_intro rfl), if_pos (show ¬ zi 1 = zi 0 from zne (by omega))]
      have hd : N / 10 ^ i % 10 < 10 := Nat.mod_lt _ (by decide)
      by_cases z0 : N / 10 ^ i % 10 = 0
      · rw [z0, if_neg (not_not_intro (show zi ((0 : Nat) : Int) = zi 0 from rfl))]
        have ha : i < a := by
          rcases hK.2.2 with e | ⟨_, e⟩
          · omega
          · exfalso
            have h1 : 10 ^ i ≤ N := e
            have h2 : N < 10 ^ i * 10 := by have := hK.1; rw [Nat.pow_succ] at this; exact this
            have h3 : 1 ≤ N / 10 ^ i := (Nat.le_div_iff_mul_le (Nat.pow_pos (by decide))).mpr (by omega)
            have h4 : N / 10 ^ i < 10 := (Nat.div_lt_iff_lt_mul (Nat.pow_pos (by decide))).mpr (by rw [Nat.mul_comm]; exact h2)
            rw [Nat.mod_eq_of_lt h4] at z0
            omega
        have := hK.2.1
        rw [if_neg (znge (by omega))]
      · rw [if_pos (zne (by omega))]
  | succ d ih =>
    intro i n s l g z hd hi hn hP hl
    obtain ⟨n, rfl⟩ : ∃ k, n = k + 1 := ⟨n - 1, by omega⟩
    obtain ⟨i, rfl⟩ : ∃ k, i = k + 1 := ⟨i - 1, by omega⟩
    have em : ((i + 1 : Nat) : Int) - 1 = i := by omega
    have em2 : (i : Int) + -1 = i - 1 := by omega
    have hlt : N < 10 ^ i := Nat.lt_of_lt_of_le hK.1 (p10_mono (by omega))
    have z0 : N / 10 ^ i % 10 = 0 := by rw [Nat.div_eq_of_lt hlt]
    obtain ⟨s', q1, q2, q3⟩ := ih i n s l g z (by omega) (by omega) (by omega) hP hl
    refine ⟨s', ?_, q2, q3⟩
    have := hK.2.1
    show b78_25 (f78_25 n) _ _ _ _ _ _ = _
    unfold b78_25
    rw [em, if_neg (znlt (by omega)), if_pos (zi_ix (by omega) (by omega) (by omega)), zi_toNat (by omega), if_pos (hdig i (by omega)), f78_dig hN (by omega), if_neg (not_not_intro rfl), z0, if_neg (not_not_intro (show zi ((0 : Nat) : Int) = zi 0 from rfl)), if_pos (zge (by omega))]
    unfold f78_68 f78_84
    rw [if_pos rfl, if_pos rfl, zi_add, em2]
    exact q1
theorem abs_lt {v : Int} (h1 : -9223372036854775808 ≤ v) (h2 : v < 9223372036854775808) : v.natAbs ≤ 9223372036854775808 := by omega
theorem PC.size {s : zS} {l : List Int} {g z : Int} (h : PC s l g z) {v : Int} (h1 : -9223372036854775808 ≤ v) (h2 : v < 9223372036854775808) {a : Nat} (ha : a ≤ 19) {c : Int} (hc : c = 0 ∨ c = 1) (hl : l.length ≤ 1500) : ∃ s', f78 (zl v) (zi a) (zi c) s = some s' ∧ PC s' (l ++ dsC c v.natAbs (kk v.natAbs a)) g z ∧ fr [13, 14] [] s s' := by
  have hN := abs_lt h1 h2
  have hN2 : v.natAbs < 10 ^ 19 := by
    have : (10 : Nat) ^ 19 = 10000000000000000000 := by decide
    omega
  have hK := kk_KK (N := v.natAbs) (a := a) (Nat.lt_of_lt_of_le hN2 (p10_mono (by decide))) (by omega)
  have hK2 := kk_le hN2 ha (by decide)
  obtain ⟨s', q1, q2, q3⟩ := f78_loop0 hN hK hK2 hc (19 - kk v.natAbs a) 19 zF s l g z (by omega) (by omega) (by unfold zF; omega) h (by omega)
  refine ⟨s', ?_, q2, q3⟩
  rw [← q1]
  unfold f78 f78_12
  rw [zi_sub]
  by_cases q : 0 ≤ v
  · rw [if_pos (zlge (by omega)), zl_neg, show -(v.natAbs : Int) = -v by omega]
    rfl
  · rw [if_neg (zlnge (by omega)), show -(v.natAbs : Int) = v by omega]
    rfl
theorem PC.signed {s : zS} {l : List Int} {g z : Int} (h : PC s l g z) {v : Int} (h1 : -9223372036854775808 ≤ v) (h2 : v < 9223372036854775808) (hl : l.length ≤ 1400) : ∃ s', f79 (zl v) s = some s' ∧ PC s' (l ++ ((if v < 0 then [45] else []) ++ ds v.natAbs (kk v.natAbs 1))) g z ∧ fr [13, 14] [] s s' := by
  unfold f79 f79_12
  by_cases q : 0 ≤ v
  · obtain ⟨s', q1, q2, q3⟩ := h.size h1 h2 (a := 1) (by omega) (c := 0) (.inl rfl) (by omega)
    refine ⟨s', ?_, ?_, q3⟩
    · rw [if_pos (zlge (by omega))]
      show zb0 (f78 (zl v) (zi (1 : Nat)) (zi 0) s) _ = _
      rw [q1]
      rfl
    · rw [if_neg (by omega), List.nil_append]
      rw [dsC_ds] at q2
      exact q2
  · obtain ⟨s1, a1, a2, a3⟩ := h.add (by omega) (b := 45) (by omega) (by omega)
    obtain ⟨s', q1, q2, q3⟩ := a2.size h1 h2 (a := 1) (by omega) (c := 0) (.inl rfl) (by rw [List.length_append]; show l.length + 1 ≤ 1500; omega)
    refine ⟨s', ?_, ?_, a3.trans q3⟩
    · rw [if_neg (zlnge (by omega)), a1, zb0_mk]
      show zb0 (f78 (zl v) (zi (1 : Nat)) (zi 0) s1) _ = _
      rw [q1]
      rfl
    · rw [if_pos (by omega)]
      rw [dsC_ds, List.append_assoc] at q2
      exact q2
