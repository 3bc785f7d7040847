/-! o and x: wholes in eights and sixteens -/
def dch (c : Nat) : Int := if c < 10 then 48 + c else 87 + c
theorem dch_asc {c : Nat} (h : c < 16) : 48 ≤ dch c ∧ dch c ≤ 102 := by
  unfold dch
  split <;> omega
def hd (b V : Nat) : Nat → List Int
  | 0 => []
  | k + 1 => dch (V / 2 ^ (b * k) % 2 ^ b) :: hd b V k
theorem hd_len (b V : Nat) : ∀ k, (hd b V k).length = k
  | 0 => rfl
  | k + 1 => congrArg (· + 1) (hd_len b V k)
def KH (b V K : Nat) : Prop := V < 2 ^ (b * K) ∧ 1 ≤ K ∧ (K = 1 ∨ 2 ^ (b * (K - 1)) ≤ V)
theorem p2_mono {a b : Nat} (h : a ≤ b) : 2 ^ a ≤ 2 ^ b := Nat.pow_le_pow_right (by decide) h
theorem KH_uniq {b V K L : Nat} (hb : 0 < b) (h1 : KH b V K) (h2 : KH b V L) : K = L := by
  have aux : ∀ {K L : Nat}, KH b V K → KH b V L → ¬ K < L := by
    intro K L h1 h2 h
    rcases h2.2.2 with e | e
    · have := h1.2.1
      omega
    · have : b * K ≤ b * (L - 1) := Nat.mul_le_mul_left _ (by omega)
      have := p2_mono this
      have := h1.1
      omega
  have := aux h1 h2
  have := aux h2 h1
  omega
theorem b34 {b : Nat} (hb : b = 3 ∨ b = 4) : zshl (zi 1) (zi b) - zi 1 = zi (2 ^ b - 1) := by
  rcases hb with rfl | rfl <;> decide
theorem p2_16 {b : Nat} (hb : b = 3 ∨ b = 4) : 2 ^ b ≤ 16 ∧ 0 < 2 ^ b := by
  rcases hb with rfl | rfl <;> decide
theorem bdig {b V i : Nat} (hb : b = 3 ∨ b = 4) (hV : V < 18446744073709551616) (hi : b * i < 64) : (zL2I (zushrL (zl V) (zi (b * i : Nat)))) &&& ((zshl (zi 1) (zi b)) - (zi 1)) = zi ((V / 2 ^ (b * i) % 2 ^ b : Nat) : Int) := by
  rw [zushrL_pos (by omega) (by omega) hi, zL2I_zl, b34 hb, zi_and (by omega)]
  rfl
theorem PC.digit {s : zS} {l : List Int} {g z : Int} (h : PC s l g z) {c : Nat} (hc : c < 16) (hl : l.length < 1600) : ∃ s', f73 (zi c) s = some s' ∧ PC s' (l ++ [dch c]) g z ∧ fr [13, 14] [] s s' := by
  have hr := dch_asc hc
  obtain ⟨s1, a1, a2, a3⟩ := h.add hl (b := dch c) (by omega) (by omega)
  refine ⟨s1, ?_, a2, a3⟩
  unfold f73 f73_18
  unfold dch at a1
  by_cases q : c < 10
  · rw [if_pos q] at a1
    rw [if_neg (znge (by omega)), zi_add, a1]
    rfl
  · rw [if_neg q] at a1
    rw [if_pos (zge (by omega)), zi_add, a1]
    rfl
theorem f80_loop1 {b V : Nat} (hb : b = 3 ∨ b = 4) (hV : V < 18446744073709551616) : ∀ (i n : Nat) (s : zS) (l : List Int) (g z : Int), b * i < 64 + b → i < n → PC s l g z → l.length + i ≤ 1600 →
    ∃ s', f80_32 n (zi b) (zl V) (zi 1) (zi ((b * i : Nat) - b : Int)) s = some s' ∧ PC s' (l ++ hd b V i) g z ∧ fr [13, 14] [] s s' := by
  have hb16 := p2_16 hb
  intro i
  induction i with
  | zero =>
    intro n s l g z hi hn hP hl
    obtain ⟨n, rfl⟩ : ∃ k, n = k + 1 := ⟨n - 1, by omega⟩
    refine ⟨s, ?_, hP.nil, fr.refl⟩
    show b80_32 (f80_32 n) _ _ _ _ _ = _
    unfold b80_32
    rw [if_pos (zlt (by omega))]
  | succ i ih =>
    intro n s l g z hi hn hP hl
    obtain ⟨n, rfl⟩ : ∃ k, n = k + 1 := ⟨n - 1, by omega⟩
    have hbi : b * (i + 1) = b * i + b := Nat.mul_succ b i
    have hd16 : V / 2 ^ (b * i) % 2 ^ b < 16 := Nat.lt_of_lt_of_le (Nat.mod_lt _ hb16.2) hb16.1
    have em : ((b * (i + 1) : Nat) : Int) - b = ((b * i : Nat) : Int) := by omega
    obtain ⟨s1, a1, a2, a3⟩ := hP.digit hd16 (by omega)
    obtain ⟨s', c1, c2, c3⟩ := ih n s1 _ g z (by omega) (by omega) a2 (by rw [List.length_append]; show l.length + 1 + i ≤ 1600; omega)
    refine ⟨s', ?_, ?_, a3.trans c3⟩
    · show b80_32 (f80_32 n) _ _ _ _ _ = _
      unfold b80_32 f80_72
      rw [em, if_neg (znlt (by omega)), if_pos (zne (by omega)), bdig hb hV (by omega), if_neg (zne (by omega)), a1, zb0_mk, zi_sub]
      exact c1
    · rw [List.append_assoc] at c2
      exact c2
theorem f80_loop0 {b V K : Nat} (hb : b = 3 ∨ b = 4) (hV : V < 18446744073709551616) (hK : KH b V K) : ∀ (d i n : Nat) (s : zS) (l : List Int) (g z : Int), d + K = i → b * i < 64 + b → i < n → PC s l g z → l.length + K ≤ 1600 →
    ∃ s', f80_32 n (zi b) (zl V) (zi 0) (zi ((b * i : Nat) - b : Int)) s = some s' ∧ PC s' (l ++ hd b V K) g z ∧ fr [13, 14] [] s s' := by
  have hb16 := p2_16 hb
  intro d
  induction d with
  | zero =>
    intro i n s l g z hd' hi hn hP hl
    have hiK : i = K := by omega
    subst hiK
    obtain ⟨s', q1, q2, q3⟩ := f80_loop1 hb hV i n s l g z hi hn hP hl
    refine ⟨s', ?_, q2, q3⟩
    rw [← q1]
    obtain ⟨n, rfl⟩ : ∃ k, n = k + 1 := ⟨n - 1, by omega⟩
    obtain ⟨i, rfl⟩ : ∃ k, i = k + 1 := ⟨i - 1, by have := hK.2.1; omega⟩
    have hbi : b * (i + 1) = b * i + b := Nat.mul_succ b i
    have em : ((b * (i + 1) : Nat) : Int) - b = ((b * i : Nat) : Int) := by omega
    have hlt : V / 2 ^ (b * i) % 2 ^ b < 16 := Nat.lt_of_lt_of_le (Nat.mod_lt _ hb16.2) hb16.1
    show b80_32 (f80_32 n) _ _ _ _ _ = b80_32 (f80_32 n) _ _ _ _ _
    unfold b80_32
    rw [em, if_neg (znlt (by omega)), bdig hb hV (by omega), if_neg (not_not_intro rfl), if_neg (znlt (by omega)), if_pos (show ¬ zi 1 = zi 0 from zne (by omega))]
    by_cases z0 : V / 2 ^ (b * i) % 2 ^ b = 0
    · rw [z0, if_neg (not_not_intro (show zi ((0 : Nat) : Int) = zi 0 from rfl))]
      have hi0 : i = 0 := by
        rcases hK.2.2 with e | e
        · omega
        · exfalso
          have h1 : 2 ^ (b * i) ≤ V := e
          have h2 : V < 2 ^ (b * i) * 2 ^ b := by
            have := hK.1
            rw [hbi, Nat.pow_add] at this
            exact this
          have h3 : 1 ≤ V / 2 ^ (b * i) := (Nat.le_div_iff_mul_le (Nat.pow_pos (by decide))).mpr (by omega)
          have h4 : V / 2 ^ (b * i) < 2 ^ b := (Nat.div_lt_iff_lt_mul (Nat.pow_pos (by decide))).mpr (by rw [Nat.mul_comm]; exact h2)
          rw [Nat.mod_eq_of_lt h4] at z0
          omega
      subst hi0
      rw [Nat.mul_zero, if_neg (not_not_intro (show zi ((0 : Nat) : Int) = zi 0 from rfl))]
    · rw [if_pos (zne (by omega))]
  | succ d ih =>
    intro i n s l g z hd' hi hn hP hl
    obtain ⟨n, rfl⟩ : ∃ k, n = k + 1 := ⟨n - 1, by omega⟩
    obtain ⟨i, rfl⟩ : ∃ k, i = k + 1 := ⟨i - 1, by omega⟩
    have hbi : b * (i + 1) = b * i + b := Nat.mul_succ b i
    have em : ((b * (i + 1) : Nat) : Int) - b = ((b * i : Nat) : Int) := by omega
    have hlt : V < 2 ^ (b * i) := Nat.lt_of_lt_of_le hK.1 (p2_mono (Nat.mul_le_mul_left _ (by omega)))
    have z0 : V / 2 ^ (b * i) % 2 ^ b = 0 := by rw [Nat.div_eq_of_lt hlt]; exact Nat.zero_mod _
    have hK1 := hK.2.1
    have hi0 : 1 ≤ i := by omega
    have hbi0 : 3 ≤ b * i := by
      rcases hb with rfl | rfl <;> omega
    obtain ⟨s', q1, q2, q3⟩ := ih i n s l g z (by omega) (by omega) (by omega) hP hl
    refine ⟨s', ?_, q2, q3⟩
    show b80_32 (f80_32 n) _ _ _ _ _ = _
    unfold b80_32 f80_72
    rw [em, if_neg (znlt (by omega)), bdig hb hV (by omega), if_neg (not_not_intro rfl), z0, if_neg (not_not_intro (show zi ((0 : Nat) : Int) = zi 0 from rfl)), if_pos (show ¬ zi ((b * i : Nat) : Int) = zi 0 from zne (by omega)), if_pos rfl, zi_sub]
    exact q1
/-- the bits that are kept, as a number -/
def low (v : Int) (n : Nat) : Nat := (v % 2 ^ n).toNat
theorem low_lt (v : Int) (n : Nat) : low v n < 2 ^ n := by
  unfold low
  have h1 : (0 : Int) < 2 ^ n := Int.pow_pos (by decide)
  have h2 := Int.emod_lt_of_pos v h1
  have h3 := Int.emod_nonneg v (show (2 : Int) ^ n ≠ 0 by omega)
  have e : ((2 : Int) ^ n) = ((2 ^ n : Nat) : Int) := (Int.natCast_pow 2 _).symm
  omega
theorem nbits {n : Nat} (hn : n = 8 ∨ n = 16 ∨ n = 32) : zshlL (zl 1) (zi n) - zl 1 = zl (2 ^ n - 1) := by
  rcases hn with rfl | rfl | rfl <;> decide
theorem low_eq (v : Int) {n : Nat} (hn : n = 8 ∨ n = 16 ∨ n = 32) : zl v &&& (zshlL (zl 1) (zi n) - zl 1) = zl (low v n) := by
  rw [nbits hn, zl_and (by omega)]
  congr 1
  unfold low
  have h1 : (0 : Int) < 2 ^ n := Int.pow_pos (by decide)
  have h3 := Int.emod_nonneg v (show (2 : Int) ^ n ≠ 0 by omega)
  omega
theorem low64 (v : Int) : zl v = zl (low v 64) := by
  apply zl_congr
  unfold low
  have e : (2 : Int) ^ 64 = 18446744073709551616 := by decide
  rw [e]
  omega
theorem PC.bits {s : zS} {l : List Int} {g z : Int} (h : PC s l g z) {v : Int} {n b K : Nat} (hn : n = 8 ∨ n = 16 ∨ n = 32 ∨ n = 64) (hb : b = 3 ∨ b = 4) (hK : KH b (low v n) K) (hl : l.length ≤ 1500) : ∃ s', f80 (zl v) (zi n) (zi b) s = some s' ∧ PC s' (l ++ hd b (low v n) K) g z ∧ fr [13, 14] [] s s' := by
  have hV : low v n < 18446744073709551616 := by
    have h1 := low_lt v n
    have h2 : 2 ^ n ≤ 2 ^ 64 := p2_mono (by omega)
    have e : (2 : Nat) ^ 64 = 18446744073709551616 := by decide
    omega
  have hdv : (b = 3 ∧ 63 / b = 21) ∨ (b = 4 ∧ 63 / b = 15) := by
    rcases hb with rfl | rfl
    · exact .inl ⟨rfl, by decide⟩
    · exact .inr ⟨rfl, by decide⟩
  have hKle : K ≤ 63 / b + 1 := by
    rcases hK.2.2 with e | e
    · omega
    · apply Classical.byContradiction
      intro q
      have h1 : 64 ≤ b * (K - 1) := by
        rcases hb with rfl | rfl <;> omega
      have h2 := p2_mono h1
      have e2 : (2 : Nat) ^ 64 = 18446744073709551616 := by decide
      omega
  have e0 : f80 (zl v) (zi n) (zi b) s = f80_32 zF (zi b) (zl (low v n)) (zi 0) (zi ((b * (63 / b + 1) : Nat) - b : Int)) s := by
    have e17 : f80_17 (zi b) (zl (low v n)) s = f80_32 zF (zi b) (zl (low v n)) (zi 0) (zi ((b * (63 / b + 1) : Nat) - b : Int)) s := by
      unfold f80_17
      rcases hb with rfl | rfl
      · rw [if_pos (zne (by decide))]
        rfl
      · rw [if_pos (zne (by decide))]
        rfl
    unfold f80
    by_cases q : n = 64
    · subst q
      rw [if_neg (znlt (by decide)), low64 v]
      have : zl ((low v 64 : Nat) : Int) = zl (low v 64) := rfl
      exact e17
    · rw [if_pos (zlt (by omega)), low_eq v (by omega), e17]
  obtain ⟨s', q1, q2, q3⟩ := f80_loop0 hb hV hK (63 / b + 1 - K) (63 / b + 1) zF s l g z (by omega) (by rcases hb with rfl | rfl <;> decide) (by unfold zF; rcases hb with rfl | rfl <;> decide) h (by rcases hb with rfl | rfl <;> omega)
  exact ⟨s', e0.trans q1, q2, q3⟩
/-! the reference's -/
theorem f183_238_loop {b V : Nat} (hb : b = 3 ∨ b = 4) (hV : V < 18446744073709551616) {x1 x7 : Int32} : ∀ (i n : Nat) (s : zS) (l : List Int), b * i < 64 + b → i < n → BD s l → l.length + i ≤ 5000 →
    ∃ s', f183_238 n x1 (zl V) (zi b) x7 (zi ((b * i : Nat) - b : Int)) s = (if ¬ x1 = (zi 16) then f183_318 (zi 0) (zi 0) s' else if (r180 (s'.1 24 15) (zi 2) s') = zi 0 then f183_318 (zi 0) (zi 0) s' else f183_318 (zi 0) (zi 1) s') ∧ BD s' (l ++ hd b V i) ∧ fr [40] [33] s s' := by
  have hb16 := p2_16 hb
  intro i
  induction i with
  | zero =>
    intro n s l hi hn hB hl
    obtain ⟨n, rfl⟩ : ∃ k, n = k + 1 := ⟨n - 1, by omega⟩
    refine ⟨s, ?_, by rw [show hd b V 0 = [] from rfl, List.append_nil]; exact hB, fr.refl⟩
    show b183_238 (f183_238 n) _ _ _ _ _ _ = _
    unfold b183_238
    rw [if_pos (zlt (by omega))]
  | succ i ih =>
    intro n s l hi hn hB hl
    obtain ⟨n, rfl⟩ : ∃ k, n = k + 1 := ⟨n - 1, by omega⟩
    have hbi : b * (i + 1) = b * i + b := Nat.mul_succ b i
    have hd16 : V / 2 ^ (b * i) % 2 ^ b < 16 := Nat.lt_of_lt_of_le (Nat.mod_lt _ hb16.2) hb16.1
    have em : ((b * (i + 1) : Nat) : Int) - b = ((b * i : Nat) : Int) := by omega
    have hr := dch_asc hd16
    obtain ⟨s1, a1, a2, a3⟩ := hB.add (by omega) (b := dch (V / 2 ^ (b * i) % 2 ^ b)) (by omega) (by omega)
    obtain ⟨s', c1, c2, c3⟩ := ih n s1 _ (by omega) (by omega) a2 (by rw [List.length_append]; show l.length + 1 + i ≤ 5000; omega)
    refine ⟨s', ?_, ?_, a3.trans c3⟩
    · refine Eq.trans ?_ c1
      show b183_238 (f183_238 n) _ _ _ _ _ _ = _
      unfold b183_238 f183_281
      rw [em, if_neg (znlt (by omega)), bdig hb hV (by omega), zi_sub]
      unfold dch at a1
      by_cases q : V / 2 ^ (b * i) % 2 ^ b < 10
      · rw [if_pos q] at a1
        rw [if_neg (znge (by omega)), zi_add, a1, zb0_mk]
      · rw [if_neg q] at a1
        rw [if_pos (zge (by omega)), zi_add, zi_sub]
        have e : (97 : Int) + ((V / 2 ^ (b * i) % 2 ^ b : Nat) : Int) - 10 = 87 + ((V / 2 ^ (b * i) % 2 ^ b : Nat) : Int) := by omega
        rw [e, a1, zb0_mk]
    · rw [List.append_assoc] at c2
      exact c2
theorem ushr0 {V t : Nat} (hV : V < 18446744073709551616) (ht : t < 64) : (zushrL (zl V) (zi t) = zl 0) ↔ V < 2 ^ t := by
  have hle : V / 2 ^ t ≤ V := Nat.div_le_self _ _
  have e1 : ((2 : Int) ^ t) = ((2 ^ t : Nat) : Int) := (Int.natCast_pow 2 _).symm
  rw [zushrL_pos (by omega) (by omega) ht, e1, ← Int.natCast_ediv]
  constructor
  · intro h
    apply Classical.byContradiction
    intro q
    have h3 : 1 ≤ V / 2 ^ t := (Nat.le_div_iff_mul_le (Nat.pow_pos (by decide))).mpr (by omega)
    have e2 := congrArg Int64.toInt h
    by_cases q2 : V / 2 ^ t < 9223372036854775808
    · rw [zl_toInt (by omega) (by omega), zl_toInt (by omega) (by omega)] at e2
      omega
    · have e3 : zl ((V / 2 ^ t : Nat) : Int) = zl (((V / 2 ^ t : Nat) : Int) - 18446744073709551616) := zl_congr (by omega)
      rw [e3, zl_toInt (by omega) (by omega), zl_toInt (by omega) (by omega)] at e2
      omega
  · intro h
    rw [Nat.div_eq_of_lt h]
    rfl
theorem f183_208_loop {b V : Nat} (hb : b = 3 ∨ b = 4) (hV : V < 18446744073709551616) {x1 : Int32} {s : zS} : ∀ (t n : Nat), t < 64 → t < n → V < 2 ^ (t + 1) → ∃ K x7, KH b V K ∧ b * K < 64 + b ∧ f183_208 n x1 (zl V) (zi b) (zi t) s = f183_238 zF x1 (zl V) (zi b) x7 (zi ((b * K : Nat) - b : Int)) s := by
  have fin : ∀ t : Nat, t < 64 → V < 2 ^ (t + 1) → (t = 0 ∨ 2 ^ t ≤ V) → KH b V (t / b + 1) ∧ b * (t / b + 1) < 64 + b ∧ (if ¬ zi (b : Nat) = zi 0 then f183_238 zF x1 (zl V) (zi b) (zi t) ((zi t / zi b) * zi b) s else none) = f183_238 zF x1 (zl V) (zi b) (zi t) (zi ((b * (t / b + 1) : Nat) - b : Int)) s := by
    intro t ht h1 h2
    have hb0 : 0 < b := by omega
    have hm : b * (t / b) ≤ t := Nat.mul_div_le t b
    have hm2 : t < b * (t / b) + b := Nat.lt_mul_div_succ t hb0
    have hbi : b * (t / b + 1) = b * (t / b) + b := Nat.mul_succ _ _
    refine ⟨⟨Nat.lt_of_lt_of_le h1 (p2_mono (by omega)), Nat.le_add_left 1 _, ?_⟩, by omega, ?_⟩
    · rcases h2 with e | e
      · subst e
        left
        rw [Nat.zero_div]
      · right
        rw [Nat.add_sub_cancel]
        exact Nat.le_trans (p2_mono hm) e
    · rw [if_pos (zne (by omega)), zi_div (by omega) (by omega) (by omega) (by omega), ntdiv, zi_mul]
      congr 2
      rw [hbi, Nat.mul_comm b (t / b)]
      omega
  intro t
  induction t with
  | zero =>
    intro n ht hn h1
    obtain ⟨n, rfl⟩ : ∃ k, n = k + 1 := ⟨n - 1, by omega⟩
    obtain ⟨c1, c2, c3⟩ := fin 0 (by omega) h1 (.inl rfl)
    refine ⟨0 / b + 1, zi (0 : Nat), c1, c2, ?_⟩
    refine Eq.trans ?_ c3
    show b183_208 (f183_208 n) _ _ _ _ _ = _
    unfold b183_208
    rw [if_pos (zle (by omega))]
  | succ t ih =>
    intro n ht hn h1
    obtain ⟨n, rfl⟩ : ∃ k, n = k + 1 := ⟨n - 1, by omega⟩
    have e0 : f183_208 (n + 1) x1 (zl V) (zi b) (zi (t + 1 : Nat)) s = b183_208 (f183_208 n) x1 (zl V) (zi b) (zi (t + 1 : Nat)) s := rfl
    rw [e0]
    unfold b183_208
    rw [if_neg (znle (by omega))]
    by_cases q : V < 2 ^ (t + 1)
    · obtain ⟨K, x7, k1, k2, k3⟩ := ih n (by omega) (by omega) q
      refine ⟨K, x7, k1, k2, ?_⟩
      rw [if_neg (not_not_intro ((ushr0 hV ht).mpr q)), zi_add]
      have e : ((t + 1 : Nat) : Int) + -1 = t := by omega
      rw [e]
      exact k3
    · obtain ⟨c1, c2, c3⟩ := fin (t + 1) ht h1 (.inr (by omega))
      refine ⟨(t + 1) / b + 1, zi (t + 1 : Nat), c1, c2, ?_⟩
      rw [if_pos (fun h => q ((ushr0 hV ht).mp h))]
      exact c3
