/-! the reference: packed, how many bits, whole -/
theorem f212_to43 {sm : Int} (hs : sm = 0 ∨ sm = 1) (x1 : Int64) (x3 : Int32) (s : zS) : f212 x1 x3 (zi sm) s = f212_43 x1 x3 (zi sm) (zi (pU sm : Nat)) (zi (loU sm)) (zi (hiU sm)) s := by
  unfold f212 f212_12 f212_28
  rcases hs with rfl | rfl
  · rw [if_pos rfl, if_pos rfl, if_pos rfl]
    rfl
  · have n : ¬ zi 1 = zi 0 := zne (by omega)
    rw [if_neg n, if_neg n, if_neg n]
    rfl
theorem infs {sm : Int} (hs : sm = 0 ∨ sm = 1) (s : zS) : (if zi sm = zi 0 then some (zl 9218868437227405312, s) else some (zl 2139095040, s)) = some (zl (infU sm : Nat), s) := by
  rcases hs with rfl | rfl
  · exact if_pos rfl
  · exact if_neg (zne (by omega))
theorem f212_eq {sm u : Int} {K : Nat} (hs : sm = 0 ∨ sm = 1) (hK : K ≤ 2 ^ pU sm) (hu1 : loU sm ≤ u) (hu2 : u ≤ 1000000) (hl : u = loU sm ∨ 2 ^ (pU sm - 1) ≤ K) (s : zS) : f212 (zl K) (zi u) (zi sm) s = some (zl ((if hiU sm < u then infU sm else (u - loU sm).toNat * 2 ^ (pU sm - 1) + K : Nat) : Int), s) := by
  rw [f212_to43 hs]
  have hp : 24 ≤ pU sm ∧ pU sm ≤ 53 := by rcases hs with rfl | rfl <;> decide
  have hlo : loU sm ≤ -149 ∧ -1074 ≤ loU sm := by rcases hs with rfl | rfl <;> decide
  have hhi : 104 ≤ hiU sm ∧ hiU sm ≤ 971 := by rcases hs with rfl | rfl <;> decide
  have hinf : infU sm = (hiU sm - loU sm).toNat * 2 ^ (pU sm - 1) + 2 ^ pU sm := by rcases hs with rfl | rfl <;> decide
  have hi0 := infs hs s
  have h2p : 2 ^ pU sm = 2 * 2 ^ (pU sm - 1) := by
    rw [Nat.mul_comm, ← Nat.pow_succ]
    exact congrArg (2 ^ ·) (by omega)
  have h53 : 2 ^ pU sm ≤ 9007199254740992 := Nat.le_trans (Nat.pow_le_pow_right (by decide) hp.2) (by decide)
  have ep : zi (pU sm : Nat) - zi 1 = zi ((pU sm - 1 : Nat) : Int) := by
    rw [zi_sub]
    exact congrArg zi (by omega)
  have h70 : ∀ (x : Int) (k : Nat), loU sm ≤ x → x ≤ 2000000 → k < 2 ^ pU sm → (x = loU sm ∨ 2 ^ (pU sm - 1) ≤ k) → f212_70 (zi sm) (zi (pU sm : Nat)) (zi (loU sm)) (zi (hiU sm)) (zl (k : Int)) (zi x) s = some (zl ((if hiU sm < x then infU sm else (x - loU sm).toNat * 2 ^ (pU sm - 1) + k : Nat) : Int), s) := by
    intro x k hx1 hx2 hk hxl
    unfold f212_70
    rw [ep, hi0]
    generalize pU sm = p at *
    generalize loU sm = lo at *
    generalize hiU sm = hi at *
    generalize infU sm = inf at *
    by_cases c : x ≤ hi
    · rw [if_pos (zle (by omega)), if_neg (show ¬ hi < x by omega), shrN (by omega) (by omega)]
      have hdiv : k / 2 ^ (p - 1) < 2 := Nat.div_lt_of_lt_mul (by omega)
      by_cases c2 : k < 2 ^ (p - 1)
      · have hxx : x = lo := by omega
        rw [Nat.div_eq_of_lt c2, if_neg zl00, hxx]
        have e0 : (lo - lo).toNat = 0 := by omega
        rw [e0, Nat.zero_mul, Nat.zero_add]
      · have hd1 : k / 2 ^ (p - 1) = 1 := by
          have := (Nat.le_div_iff_mul_le (p2_pos (p - 1))).mpr (show 1 * 2 ^ (p - 1) ≤ k by omega)
          generalize k / 2 ^ (p - 1) = z at *
          omega
        have hm1 : k % 2 ^ (p - 1) = k - 2 ^ (p - 1) := by
          have := Nat.div_add_mod k (2 ^ (p - 1))
          rw [hd1, Nat.mul_one] at this
          omega
        obtain ⟨j, hj⟩ : ∃ j : Nat, x - lo = j := ⟨(x - lo).toNat, by omega⟩
        have ex : zi x - zi lo + zi 1 = zi ((j + 1 : Nat) : Int) := by
          rw [zi_sub, zi_add]
          exact congrArg zi (by omega)
        have hb : (j + 1) * 2 ^ (p - 1) ≤ 3000 * 2 ^ (p - 1) := Nat.mul_le_mul_right _ (by omega)
        rw [hd1, if_pos (zlne (by omega)), ex, zI2L_zi (by omega) (by omega), shlN _ (by omega), mask1 (by omega) (by omega), hm1, zor rfl (by omega) (by omega), hj, Int.toNat_natCast]
        refine congrArg (fun y : Nat => some (zl (y : Int), s)) ?_
        rw [Nat.add_mul, Nat.one_mul]
        omega
    · rw [if_neg (znle (by omega)), if_pos (show hi < x by omega)]
  unfold f212_43
  rw [shrN (by omega) (by omega)]
  by_cases c : K < 2 ^ pU sm
  · rw [Nat.div_eq_of_lt c, if_pos (zlle (by omega))]
    exact h70 u K hu1 (by omega) c hl
  · have hKe : K = 2 ^ pU sm := by omega
    have hd1 : K / 2 ^ pU sm = 1 := by rw [hKe]; exact Nat.div_self (p2_pos _)
    have e1 : zshrL (zl (K : Int)) (zi 1) = zl ((2 ^ (pU sm - 1) : Nat) : Int) := by
      refine (shrN (V := K) (t := 1) (by omega) (by decide)).trans ?_
      rw [hKe, h2p, Nat.pow_one, Nat.mul_div_cancel_left _ (by decide)]
    have e2 : zi u + zi 1 = zi (u + 1) := zi_add _ _
    rw [hd1, if_neg (zlnle (by omega)), e1, e2, h70 (u + 1) _ (by omega) (by omega) (by have := p2_pos (pU sm - 1); omega) (.inr (Nat.le_refl _))]
    refine congrArg (fun y : Nat => some (zl (y : Int), s)) ?_
    by_cases c2 : hiU sm < u
    · rw [if_pos (by omega), if_pos c2]
    · rw [if_neg c2]
      by_cases c3 : hiU sm < u + 1
      · rw [if_pos c3, hinf, hKe]
        have : u = hiU sm := by omega
        rw [this]
      · rw [if_neg c3, hKe, h2p]
        obtain ⟨j, hj⟩ : ∃ j : Nat, u - loU sm = j := ⟨(u - loU sm).toNat, by omega⟩
        have e3 : (u + 1 - loU sm).toNat = j + 1 := by omega
        have e4 : (u - loU sm).toNat = j := by omega
        rw [e3, e4, Nat.add_mul, Nat.one_mul]
        omega
/-! leading zeros -/
theorem ushr_cnt : ∀ k : Nat, k < 32 → ((zi (k : Int)).toUInt32 &&& Int32.toUInt32 31).toNat % 32 = k := by decide +kernel
theorem zushrN {w k : Nat} (hw : w < 2147483648) (hk : k < 32) : zushr (zi (w : Int)) (zi (k : Int)) = zi ((w / 2 ^ k : Nat) : Int) := by
  have tb : ∀ x : Nat, x < 2147483648 → (zi (x : Int)).toBitVec.toNat = x := by
    intro x hx
    unfold zi
    rw [Int32.toBitVec_ofInt, BitVec.toNat_ofInt]
    have : (((2 ^ 32 : Nat) : Int)) = 4294967296 := by decide
    rw [this]
    omega
  apply Int32.toBitVec_inj.mp
  apply BitVec.eq_of_toNat_eq
  rw [tb _ (Nat.lt_of_le_of_lt (Nat.div_le_self _ _) hw)]
  unfold zushr
  show ((zi (w : Int)).toUInt32 >>> ((zi (k : Int)).toUInt32 &&& Int32.toUInt32 31)).toNat = _
  rw [UInt32.toNat_shiftRight, ushr_cnt k hk, Nat.shiftRight_eq_div_pow]
  have e2 : (zi (w : Int)).toUInt32.toNat = w := tb w hw
  rw [e2]
theorem LEN_shr {w k L : Nat} (h : LEN (w / 2 ^ k) L) (hL : L ≠ 0) : LEN w (L + k) := by
  obtain ⟨h1, h2⟩ := h
  have h2 := h2.resolve_left hL
  refine ⟨?_, .inr ?_⟩
  · rw [Nat.pow_add]
    exact (Nat.div_lt_iff_lt_mul (p2_pos k)).mp h1
  · have := (Nat.le_div_iff_mul_le (p2_pos k)).mp h2
    rw [← Nat.pow_add] at this
    have e : L + k - 1 = L - 1 + k := by omega
    rw [e]
    exact this
theorem LEN.pos {w L : Nat} (h : LEN w L) (hw : 1 ≤ w) : L ≠ 0 := by
  intro g
  have := h.1
  rw [g, Nat.pow_zero] at this
  omega
theorem LEN.uniq {w L L' : Nat} (h : LEN w L) (g : LEN w L') : L = L' := by
  have aux : ∀ {L L' : Nat}, LEN w L → LEN w L' → ¬ L < L' := by
    intro L L' h g c
    have g2 := g.2.resolve_left (by omega)
    have := (Nat.pow_lt_pow_iff_right (a := 2) (by decide)).mp (Nat.lt_of_le_of_lt g2 h.1)
    omega
  have := aux h g
  have := aux g h
  omega
theorem LEN16 : ∀ w : Nat, w < 16 → 1 ≤ w → LEN w (if w < 2 then 1 else if w < 4 then 2 else if w < 8 then 3 else 4) := by
  intro w h1 h2
  unfold LEN
  split
  · show w < 2 ∧ (1 = 0 ∨ 1 ≤ w)
    omega
  · split
    · show w < 4 ∧ (2 = 0 ∨ 2 ≤ w)
      omega
    · split
      · show w < 8 ∧ (3 = 0 ∨ 4 ≤ w)
        omega
      · show w < 16 ∧ (4 = 0 ∨ 8 ≤ w)
        omega
theorem f268_61_eq {w : Nat} (h1 : 1 ≤ w) (h2 : w < 16) {m : Int} (hm1 : -100 ≤ m) (hm2 : m ≤ 100) (s : zS) : ∃ L : Nat, f268_61 (zi (w : Int)) (zi m) s = some (zi (m + 1 - L), s) ∧ LEN w L ∧ L ≤ 4 := by
  refine ⟨_, ?_, LEN16 w h2 h1, by split <;> (try split) <;> (try split) <;> omega⟩
  unfold f268_61
  have e1 : zushr (zi (w : Int)) (zi 1) = zi ((w / 2 : Nat) : Int) := zushrN (k := 1) (by omega) (by decide)
  have e2 : zushr (zi (w : Int)) (zi 2) = zi ((w / 4 : Nat) : Int) := zushrN (k := 2) (by omega) (by decide)
  have e3 : zushr (zi ((w / 4 : Nat) : Int)) (zi 1) = zi ((w / 4 / 2 : Nat) : Int) := zushrN (k := 1) (by omega) (by decide)
  rw [e1, e2, e3, zi_add, zi_sub, zi_sub]
  by_cases c : w < 4
  · rw [if_pos (zlt (by omega))]
    refine congrArg (fun y => some (zi y, s)) ?_
    split
    · omega
    · omega
  · rw [if_neg (znlt (by omega))]
    refine congrArg (fun y => some (zi y, s)) ?_
    rw [if_neg (by omega), if_neg (by omega)]
    split <;> omega
theorem f268_48_eq {w : Nat} (h1 : 1 ≤ w) (h2 : w < 256) {m : Int} (hm1 : -90 ≤ m) (hm2 : m ≤ 100) (s : zS) : ∃ L : Nat, f268_48 (zi (w : Int)) (zi m) s = some (zi (m + 1 - L), s) ∧ LEN w L ∧ L ≤ 8 := by
  unfold f268_48
  by_cases c : w < 16
  · rw [if_pos (zlt (by omega))]
    obtain ⟨L, a1, a2, a3⟩ := f268_61_eq h1 c (m := m) (by omega) (by omega) s
    exact ⟨L, a1, a2, by omega⟩
  · have e1 : zushr (zi (w : Int)) (zi 4) = zi ((w / 16 : Nat) : Int) := zushrN (k := 4) (by omega) (by decide)
    rw [if_neg (znlt (by omega)), e1, zi_add]
    obtain ⟨L, a1, a2, a3⟩ := f268_61_eq (w := w / 16) (by omega) (by omega) (m := m + -4) (by omega) (by omega) s
    refine ⟨L + 4, ?_, LEN_shr (k := 4) a2 (a2.pos (by omega)), by omega⟩
    rw [a1]
    exact congrArg (fun y => some (zi y, s)) (by omega)
theorem f268_33_eq {w : Nat} (h1 : 1 ≤ w) (h2 : w < 65536) {m : Int} (hm1 : -80 ≤ m) (hm2 : m ≤ 100) (s : zS) : ∃ L : Nat, f268_33 (zi (w : Int)) (zi m) s = some (zi (m + 1 - L), s) ∧ LEN w L ∧ L ≤ 16 := by
  unfold f268_33
  by_cases c : w < 256
  · rw [if_pos (zlt (by omega))]
    obtain ⟨L, a1, a2, a3⟩ := f268_48_eq h1 c (m := m) (by omega) (by omega) s
    exact ⟨L, a1, a2, by omega⟩
  · have e1 : zushr (zi (w : Int)) (zi 8) = zi ((w / 256 : Nat) : Int) := zushrN (k := 8) (by omega) (by decide)
    rw [if_neg (znlt (by omega)), e1, zi_add]
    obtain ⟨L, a1, a2, a3⟩ := f268_48_eq (w := w / 256) (by omega) (by omega) (m := m + -8) (by omega) (by omega) s
    refine ⟨L + 8, ?_, LEN_shr (k := 8) a2 (a2.pos (by omega)), by omega⟩
    rw [a1]
    exact congrArg (fun y => some (zi y, s)) (by omega)
theorem f268_eq {w : Nat} (h2 : w < 4294967296) (s : zS) : ∃ L : Nat, f268 (zi (w : Int)) s = some (zi (32 - L), s) ∧ LEN w L ∧ L ≤ 32 := by
  unfold f268
  by_cases c0 : w = 0
  · subst c0
    refine ⟨0, ?_, ⟨by decide, .inl rfl⟩, by omega⟩
    rw [if_neg (zngt (by omega)), if_neg zi00]
    rfl
  · by_cases c1 : w < 2147483648
    · rw [if_pos (zgt (by omega))]
      by_cases c2 : w < 65536
      · rw [if_pos (zlt (by omega))]
        obtain ⟨L, a1, a2, a3⟩ := f268_33_eq (w := w) (by omega) c2 (m := 31) (by omega) (by omega) s
        refine ⟨L, ?_, a2, by omega⟩
        rw [a1]
        exact congrArg (fun y => some (zi y, s)) (by omega)
      · have e1 : zushr (zi (w : Int)) (zi 16) = zi ((w / 65536 : Nat) : Int) := zushrN (k := 16) (by omega) (by decide)
        rw [if_neg (znlt (by omega)), e1, zi_add]
        obtain ⟨L, a1, a2, a3⟩ := f268_33_eq (w := w / 65536) (by omega) (by omega) (m := 31 + -16) (by omega) (by omega) s
        refine ⟨L + 16, ?_, LEN_shr (k := 16) a2 (a2.pos (by omega)), by omega⟩
        rw [a1]
        exact congrArg (fun y => some (zi y, s)) (by omega)
    · have e : zi (w : Int) = zi ((w : Int) - 4294967296) := zi_congr (by omega)
      refine ⟨32, ?_, ⟨by show w < 4294967296; exact h2, .inr (by show 2147483648 ≤ w; omega)⟩, by omega⟩
      rw [e, if_neg (zngt (by omega)), if_pos (zne (by omega))]
      rfl
theorem f267_eq {v : Nat} (hv : v < 9223372036854775808) (s : zS) : ∃ L : Nat, f267 (zl (v : Int)) s = some (zi (64 - L), s) ∧ LEN v L ∧ L ≤ 64 := by
  unfold f267
  have e1 : zushrL (zl (v : Int)) (zi 32) = zl ((v / 4294967296 : Nat) : Int) := ushrN (t := 32) (by omega) (by decide)
  rw [e1, zL2I_zl, zL2I_zl]
  by_cases c : v / 4294967296 = 0
  · rw [c, if_neg zi00]
    obtain ⟨L, a1, a2, a3⟩ := f268_eq (w := v) (by omega) s
    refine ⟨L, ?_, a2, by omega⟩
    rw [a1, zb1_mk, zi_add]
    exact congrArg (fun y => some (zi y, s)) (by omega)
  · rw [if_pos (zne (by omega))]
    obtain ⟨L, a1, a2, a3⟩ := f268_eq (w := v / 4294967296) (by omega) s
    refine ⟨L + 32, ?_, LEN_shr (k := 32) a2 (a2.pos (by omega)), by omega⟩
    rw [a1, zb1_mk]
    exact congrArg (fun y => some (zi y, s)) (by omega)
/-! whole, bits -/
theorem WW_45 : WW 45 = 10 ^ 3780 := rfl
theorem WW_s (j k : Nat) (h : k = j + 1) (hj : j < 465) : WW j = WW k * 1000000000 := by
  subst h
  exact WW_succ hj
theorem whole_lb {N : Nat} (h : N < WW 43) : lb N 43 * 1000000000 + lb N 44 = N / 10 ^ 3780 ∧ N / 10 ^ 3780 < 1000000000000000000 := by
  have e1 : WW 43 = WW 44 * 1000000000 := WW_s 43 44 rfl (by omega)
  have e2 : WW 44 = WW 45 * 1000000000 := WW_s 44 45 rfl (by omega)
  have l44 : lb N 44 = N / WW 45 % 1000000000 := rfl
  have l43 : lb N 43 = N / WW 44 % 1000000000 := rfl
  have d44 : N / WW 44 = N / WW 45 / 1000000000 := by rw [e2, Nat.div_div_eq_div_mul]
  have hb : N / WW 45 < 1000000000000000000 := by
    rw [Nat.div_lt_iff_lt_mul (WW_pos _)]
    have : WW 43 = 1000000000000000000 * WW 45 := by
      rw [e1, e2]
      generalize WW 45 = x
      omega
    rw [← this]
    exact h
  rw [l44, l43, d44, ← WW_45]
  generalize N / WW 45 = v at *
  omega
theorem f214_eq {s : zS} {N a b : Nat} (h : DEC s 32 N a b) (hN : N < WW 43) : f214 s = some (zl ((N / 10 ^ 3780 : Nat) : Int), s) := by
  obtain ⟨w1, w2⟩ := whole_lb hN
  have l1 := lb_lt N 43
  have l2 := lb_lt N 44
  have h43 : s.1 33 (zi 43).toNatClampNeg = zi (lb N 43 : Nat) := h.2.2.2.2.1 43 (by omega)
  have h44 : s.1 33 (zi 44).toNatClampNeg = zi (lb N 44 : Nat) := h.2.2.2.2.1 44 (by omega)
  unfold f214
  rw [if_pos (zi_ix (by omega) (by omega) (by omega)), if_pos (zi_ix (by omega) (by omega) (by omega)), h43, h44, zI2L_zi (by omega) (by omega), zI2L_zi (by omega) (by omega), zl_mul, zl_add]
  exact congrArg (fun y => some (zl y, s)) (by omega)
theorem f213_hi {s : zS} {N a b : Nat} (h : DEC s 32 N a b) (ha : a < 43) : f213 s = some (zi (-1), s) := by
  unfold f213
  rw [h.1, if_neg (znge (by omega))]
theorem f213_lo {s : zS} {N a b : Nat} (h : DEC s 32 N a b) (ha : 43 ≤ a) : ∃ L : Nat, f213 s = some (zi L, s) ∧ LEN (N / 10 ^ 3780) L ∧ L ≤ 64 := by
  have h4 := h.2.2.2.1
  have h3 := h.2.2.1
  have hN : N < WW 43 := Nat.lt_of_lt_of_le h.2.2.2.2.2.1 (WW_mono ha)
  obtain ⟨w1, w2⟩ := whole_lb hN
  obtain ⟨L, a1, a2, a3⟩ := f267_eq (v := N / 10 ^ 3780) (by omega) s
  refine ⟨L, ?_, a2, a3⟩
  unfold f213
  rw [h.1, if_pos (zge (by omega)), f214_eq h hN, zb1_mk, a1, zb1_mk, zi_sub]
  exact congrArg (fun y => some (zi y, s)) (by omega)
