/-! the nearest real: n / m in units of 2^-Z -/
theorem near_scale {n q c : Nat} (hc : 0 < c) : near (n * c) (q * c) = near n q := by
  unfold near
  rw [Nat.mul_mod_mul_right, Nat.mul_div_mul_right _ _ hc]
  have e : 2 * (n % q * c) = 2 * (n % q) * c := (Nat.mul_assoc _ _ _).symm
  rw [e]
  have k1 : 2 * (n % q) * c < q * c ↔ 2 * (n % q) < q := Nat.mul_lt_mul_right hc
  have k2 : 2 * (n % q) * c = q * c ↔ 2 * (n % q) = q := ⟨fun h => Nat.eq_of_mul_eq_mul_right hc h, fun h => by rw [h]⟩
  by_cases c1 : 2 * (n % q) < q
  · rw [if_pos c1, if_pos (k1.mpr c1)]
  · rw [if_neg c1, if_neg (fun h => c1 (k1.mp h))]
    by_cases c2 : 2 * (n % q) = q ∧ n / q % 2 = 0
    · rw [if_pos c2, if_pos ⟨k2.mpr c2.1, c2.2⟩]
    · rw [if_neg c2, if_neg (fun h => c2 ⟨k2.mp h.1, h.2⟩)]
def RNU (Z n m p : Nat) (lo u : Int) : Prop := lo ≤ u ∧ n < 2 ^ p * (m * 2 ^ (u + Z).toNat) ∧ (u = lo ∨ 2 ^ (p - 1) * (m * 2 ^ (u + Z).toNat) ≤ n)
def RNT (Z n m p : Nat) (lo hi : Int) (inf b : Nat) : Prop := ∃ u, RNU Z n m p lo u ∧ b = if hi < u then inf else (u - lo).toNat * 2 ^ (p - 1) + near n (m * 2 ^ (u + Z).toNat)
theorem RNU.uniq {Z n m p : Nat} {lo u u' : Int} (hp : 1 ≤ p) (hm : 0 < m) (hZ : 0 ≤ lo + Z) (h : RNU Z n m p lo u) (g : RNU Z n m p lo u') : u = u' := by
  have aux : ∀ {u u' : Int}, RNU Z n m p lo u → RNU Z n m p lo u' → ¬ u < u' := by
    intro u u' h g c
    obtain ⟨h1, h2, h3⟩ := h
    obtain ⟨g1, g2, g3⟩ := g
    have g3 := g3.resolve_left (by omega)
    have ej : (u' + Z).toNat = (u + Z).toNat + 1 + ((u' - u).toNat - 1) := by omega
    rw [ej, Nat.pow_add, Nat.pow_succ] at g3
    have ep : 2 ^ p = 2 ^ (p - 1) * 2 := by
      rw [← Nat.pow_succ]
      exact congrArg (2 ^ ·) (by omega)
    rw [ep] at h2
    have hj : 1 ≤ 2 ^ ((u' - u).toNat - 1) := Nat.pow_pos (by decide)
    have h4 : m * (2 ^ (u + Z).toNat * 2 * 1) ≤ m * (2 ^ (u + Z).toNat * 2 * 2 ^ ((u' - u).toNat - 1)) := Nat.mul_le_mul_left _ (Nat.mul_le_mul_left _ hj)
    have h5 := Nat.mul_le_mul_left (2 ^ (p - 1)) h4
    have e1 : 2 ^ (p - 1) * (m * (2 ^ (u + Z).toNat * 2 * 1)) = 2 ^ (p - 1) * 2 * (m * 2 ^ (u + Z).toNat) := by
      rw [Nat.mul_one, ← Nat.mul_assoc m, Nat.mul_assoc (2 ^ (p - 1)) 2, Nat.mul_comm 2 (m * 2 ^ (u + Z).toNat)]
    rw [e1] at h5
    exact Nat.lt_irrefl _ (Nat.lt_of_lt_of_le h2 (Nat.le_trans h5 g3))
  have := aux h g
  have := aux g h
  omega
theorem RNT.uniq {Z n m p : Nat} {lo hi : Int} {inf b b' : Nat} (hp : 1 ≤ p) (hm : 0 < m) (hZ : 0 ≤ lo + Z) (h : RNT Z n m p lo hi inf b) (g : RNT Z n m p lo hi inf b') : b = b' := by
  obtain ⟨u, h1, h2⟩ := h
  obtain ⟨u', g1, g2⟩ := g
  obtain rfl := h1.uniq hp hm hZ g1
  rw [h2, g2]
theorem RNT.scale {Z n m p c : Nat} {lo hi : Int} {inf b : Nat} (hc : 0 < c) (h : RNT Z (n * c) (m * c) p lo hi inf b) : RNT Z n m p lo hi inf b := by
  obtain ⟨u, ⟨h1, h2, h3⟩, h4⟩ := h
  have e : m * c * 2 ^ (u + Z).toNat = m * 2 ^ (u + Z).toNat * c := Nat.mul_right_comm _ _ _
  rw [e] at h2 h3 h4
  refine ⟨u, ⟨h1, ?_, ?_⟩, ?_⟩
  · rw [← Nat.mul_assoc] at h2
    exact Nat.lt_of_mul_lt_mul_right h2
  · rcases h3 with h3 | h3
    · exact .inl h3
    · right
      rw [← Nat.mul_assoc] at h3
      exact Nat.le_of_mul_le_mul_right h3 hc
  · rw [h4, near_scale hc]
/-! the two kinds of reals -/
def pU (sm : Int) : Nat := if sm = 1 then 24 else 53
def hiU (sm : Int) : Int := if sm = 1 then 104 else 971
def infU (sm : Int) : Nat := if sm = 1 then 2139095040 else 9218868437227405312
/-- b are the bits of the real nearest to n / m / 2^Z -/
def RN (Z n m : Nat) (sm : Int) (b : Nat) : Prop := RNT Z n m (pU sm) (loU sm) (hiU sm) (infU sm) b
theorem RN.uniq {Z n m : Nat} {sm : Int} {b b' : Nat} (hs : sm = 0 ∨ sm = 1) (hm : 0 < m) (hZ : 2000 ≤ Z) (h : RN Z n m sm b) (g : RN Z n m sm b') : b = b' := by
  refine RNT.uniq ?_ hm ?_ h g
  · rcases hs with rfl | rfl <;> decide
  · rcases hs with rfl | rfl
    · show 0 ≤ (-1074 : Int) + Z
      omega
    · show 0 ≤ (-149 : Int) + Z
      omega
theorem RN.scale {Z n m c : Nat} {sm : Int} {b : Nat} (hc : 0 < c) (h : RN Z (n * c) (m * c) sm b) : RN Z n m sm b := RNT.scale hc h
/-- far too great -/
theorem RN_inf {Z n m : Nat} {sm : Int} (hs : sm = 0 ∨ sm = 1) (hm : 0 < m) {t : Nat} (ht : 1100 ≤ t) (h : m * 2 ^ (t + Z) ≤ n) : RN Z n m sm (infU sm) := by
  -- the place of the first bit
  have hp : 1 ≤ pU sm ∧ pU sm ≤ 53 := by rcases hs with rfl | rfl <;> decide
  have hlo : loU sm ≤ -149 ∧ -1074 ≤ loU sm := by rcases hs with rfl | rfl <;> decide
  have hhi : hiU sm ≤ 971 := by rcases hs with rfl | rfl <;> decide
  have ex : ∃ k, n < m * 2 ^ (k + 1 + Z) ∧ m * 2 ^ (k + Z) ≤ n ∧ t ≤ k := by
    have hex : ∃ k, n < m * 2 ^ (k + 1 + Z) := by
      refine ⟨n, ?_⟩
      have h1 : n < 2 ^ (n + 1 + Z) := Nat.lt_of_lt_of_le (Nat.lt_two_pow_self) (Nat.pow_le_pow_right (by decide) (by omega))
      exact Nat.lt_of_lt_of_le h1 (Nat.le_mul_of_pos_left _ hm)
    have go : ∀ d k, n < m * 2 ^ (k + 1 + Z) → k = t + d → ∃ k, n < m * 2 ^ (k + 1 + Z) ∧ m * 2 ^ (k + Z) ≤ n ∧ t ≤ k := by
      intro d
      induction d with
      | zero =>
        intro k h1 h2
        exact ⟨k, h1, by rw [h2]; exact h, by omega⟩
      | succ d ih =>
        intro k h1 h2
        by_cases c : m * 2 ^ (k + Z) ≤ n
        · exact ⟨k, h1, c, by omega⟩
        · refine ih (k - 1) ?_ (by omega)
          have e : k - 1 + 1 + Z = k + Z := by omega
          rw [e]
          omega
    obtain ⟨k, hk⟩ := hex
    refine go (max k t - t) (max k t) ?_ (by omega)
    exact Nat.lt_of_lt_of_le hk (Nat.mul_le_mul_left _ (Nat.pow_le_pow_right (by decide) (by omega)))
  obtain ⟨k, h1, h2, h3⟩ := ex
  have e1 : ((k : Int) + 1 - pU sm + Z).toNat = k + 1 + Z - pU sm := by omega
  refine ⟨(k : Int) + 1 - pU sm, ⟨by omega, ?_, .inr ?_⟩, ?_⟩
  · rw [e1, Nat.mul_left_comm, ← Nat.pow_add]
    have e2 : pU sm + (k + 1 + Z - pU sm) = k + 1 + Z := by omega
    rw [e2]
    exact h1
  · rw [e1, Nat.mul_left_comm, ← Nat.pow_add]
    have e2 : pU sm - 1 + (k + 1 + Z - pU sm) = k + Z := by omega
    rw [e2]
    exact h2
  · rw [if_pos (by omega)]
/-- far too small, or 0 -/
theorem RN_zero {Z n m : Nat} {sm : Int} (hs : sm = 0 ∨ sm = 1) (hZ : 2000 ≤ Z) (h : n * 2 ^ 1100 < m * 2 ^ Z) : RN Z n m sm 0 := by
  have hlo : loU sm ≤ -149 ∧ -1074 ≤ loU sm := by rcases hs with rfl | rfl <;> decide
  have hhi : 104 ≤ hiU sm := by rcases hs with rfl | rfl <;> decide
  have e : 2 ^ Z = 2 ^ (loU sm + Z).toNat * 2 ^ (-loU sm).toNat := by
    rw [← Nat.pow_add]
    exact congrArg (2 ^ ·) (by omega)
  have e2 : 2 ^ 1100 = 2 * 2 ^ (1099 - (-loU sm).toNat) * 2 ^ (-loU sm).toNat := by
    rw [Nat.mul_assoc, ← Nat.pow_add]
    have e3 : 1099 - (-loU sm).toNat + (-loU sm).toNat = 1099 := by omega
    rw [e3]
    rw [Nat.mul_comm, ← Nat.pow_succ]
  rw [e, e2] at h
  have h' : n * (2 * 2 ^ (1099 - (-loU sm).toNat)) * 2 ^ (-loU sm).toNat < m * 2 ^ (loU sm + Z).toNat * 2 ^ (-loU sm).toNat := by
    rw [Nat.mul_assoc n, Nat.mul_assoc m]
    exact h
  have h2 := Nat.lt_of_mul_lt_mul_right h'
  have h3 : 1 ≤ 2 ^ (1099 - (-loU sm).toNat) := Nat.pow_pos (by decide)
  have h4 : n * (2 * 1) ≤ n * (2 * 2 ^ (1099 - (-loU sm).toNat)) := Nat.mul_le_mul_left _ (Nat.mul_le_mul_left _ h3)
  have h5 : 2 * n < m * 2 ^ (loU sm + Z).toNat := by omega
  refine ⟨loU sm, ⟨Int.le_refl _, ?_, .inl rfl⟩, ?_⟩
  · have h6 : 1 * (m * 2 ^ (loU sm + Z).toNat) ≤ 2 ^ pU sm * (m * 2 ^ (loU sm + Z).toNat) := Nat.mul_le_mul_right _ (Nat.pow_pos (by decide))
    omega
  · have en : near n (m * 2 ^ (loU sm + Z).toNat) = 0 := by
      unfold near
      have hlt : n < m * 2 ^ (loU sm + Z).toNat := by omega
      rw [Nat.mod_eq_of_lt hlt, Nat.div_eq_of_lt hlt, if_pos h5]
    rw [if_neg (by omega), en]
    have e0 : (loU sm - loU sm).toNat = 0 := by omega
    rw [e0, Nat.zero_mul]
/-- by a cut number and whether more is behind it -/
theorem near_cut {n m B d r : Nat} (hm : 0 < m) (hn : n = B * m + r) (hr : r < m) (hd : 1 ≤ d) : near n (m * 2 ^ d) = if B / 2 ^ (d - 1) % 2 = 1 ∧ (r ≠ 0 ∨ B % 2 ^ (d - 1) ≠ 0 ∨ B / 2 ^ d % 2 = 1) then B / 2 ^ d + 1 else B / 2 ^ d := by
  have hB : n / m = B := by
    rw [hn, Nat.mul_comm, Nat.mul_add_div hm, Nat.div_eq_of_lt hr, Nat.add_zero]
  have hR : n % m = r := by
    rw [hn, Nat.mul_comm, Nat.mul_add_mod, Nat.mod_eq_of_lt hr]
  have e1 : n / (m * 2 ^ d) = B / 2 ^ d := by rw [← Nat.div_div_eq_div_mul, hB]
  have e2 : n % (m * 2 ^ d) = r + m * (B % 2 ^ d) := by rw [Nat.mod_mul, hB, hR]
  have ed : 2 ^ d = 2 ^ (d - 1) * 2 := by
    rw [← Nat.pow_succ]
    exact congrArg (2 ^ ·) (by omega)
  have e3 : B % 2 ^ d = B % 2 ^ (d - 1) + 2 ^ (d - 1) * (B / 2 ^ (d - 1) % 2) := by rw [ed, Nat.mod_mul]
  have hy := Nat.mod_lt B (show 0 < 2 ^ (d - 1) from Nat.pow_pos (by decide))
  unfold near
  rw [e1, e2, e3]
  have hm2 : m * 2 ^ d = 2 * (m * 2 ^ (d - 1)) := by rw [ed, ← Nat.mul_assoc, Nat.mul_comm]
  rw [hm2]
  generalize B / 2 ^ d = K at *
  generalize 2 ^ (d - 1) = h at *
  generalize B % h = y at *
  have hb : B / h % 2 = 0 ∨ B / h % 2 = 1 := by omega
  have my : m * y + m ≤ m * h := by
    have := Nat.mul_le_mul_left m (show y + 1 ≤ h by omega)
    rw [Nat.mul_add, Nat.mul_one] at this
    exact this
  rcases hb with hb | hb
  · rw [hb, Nat.mul_zero, Nat.add_zero, if_pos (by omega), if_neg (fun g => by omega)]
  · rw [hb, Nat.mul_one, Nat.mul_add m y h]
    have hz : m * y = 0 ↔ y = 0 := by
      constructor
      · intro g
        rcases Nat.mul_eq_zero.mp g with g | g
        · omega
        · exact g
      · intro g
        rw [g, Nat.mul_zero]
    rw [if_neg (by omega)]
    by_cases c : r = 0 ∧ y = 0
    · have h0 : m * y = 0 := hz.mpr c.2
      by_cases c2 : K % 2 = 0
      · rw [if_pos ⟨by omega, c2⟩, if_neg (fun g => by omega)]
      · rw [if_neg (fun g => c2 g.2), if_pos ⟨rfl, .inr (.inr (by omega))⟩]
    · have h0 : r ≠ 0 ∨ m * y ≠ 0 := by
        by_cases c3 : r = 0
        · exact .inr (fun g => c ⟨c3, hz.mp g⟩)
        · exact .inl c3
      rw [if_neg (fun g => by omega), if_pos ⟨rfl, by omega⟩]
