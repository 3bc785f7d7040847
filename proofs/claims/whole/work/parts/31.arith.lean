/-! bits: the families of the kit, pasted -/
/-! ===== lN n to 2^64: shifts, and, or, masks, one bit ===== -/
theorem wb_tb (n : Nat) : (lN n).toBitVec = BitVec.ofNat 64 n := rfl
theorem wb_inj {a b : Int64} (h : a.toBitVec = b.toBitVec) : a = b := Int64.toBitVec_inj.mp h
theorem wb_tn {n : Nat} (h : n < 2 ^ 64) : (lN n).toBitVec.toNat = n := by rw [wb_tb, BitVec.toNat_ofNat, Nat.mod_eq_of_lt h]
theorem wb_of (x : Int64) : ∃ n, n < 2 ^ 64 ∧ x = lN n := ⟨x.toBitVec.toNat, x.toBitVec.isLt, wb_inj (by rw [wb_tb]; simp)⟩
theorem wb_of32 (x : Int32) : ∃ n, n < 2 ^ 32 ∧ x = nI n := ⟨x.toBitVec.toNat, x.toBitVec.isLt, Int32.toBitVec_inj.mp (by show _ = BitVec.ofNat 32 _; simp)⟩
theorem wb_c : ∀ k, k < 64 → ((nI k).toInt64 &&& 63) = lN k := by decide +kernel
theorem wb_cu : ∀ k, k < 64 → ((nI k).toInt64.toUInt64 &&& Int64.toUInt64 63) = UInt64.ofNat k := by decide +kernel
theorem wb_sm : ∀ k, k < 64 → (BitVec.ofNat 64 k).smod 64 = BitVec.ofNat 64 k := by decide +kernel
theorem wb_pw {a b : Nat} (h : a ≤ b) : 2 ^ b = 2 ^ a * 2 ^ (b - a) := by rw [← Nat.pow_add]; congr 1; omega
theorem wb_lt2 {a b : Nat} (h : a < b) : 2 ^ a < 2 ^ b := Nat.pow_lt_pow_right (by decide) h
theorem wb_mod (n : Nat) : lN n = lN (n % 2 ^ 64) := wb_inj (by rw [wb_tb, wb_tb]; apply BitVec.eq_of_toNat_eq; rw [BitVec.toNat_ofNat, BitVec.toNat_ofNat, Nat.mod_mod])
theorem wb_shr {n k : Nat} (hn : n < 2 ^ 64) (hk : k < 64) : ((lN n).toUInt64 >>> ((nI k).toInt64.toUInt64 &&& Int64.toUInt64 63)).toInt64 = lN (n / 2 ^ k) := by
  rw [wb_cu k hk]
  apply wb_inj
  apply BitVec.eq_of_toNat_eq
  show ((lN n).toUInt64 >>> UInt64.ofNat k).toNat = (BitVec.ofNat 64 _).toNat
  have h1 : (UInt64.ofNat k).toNat = k := by
    show (BitVec.ofNat 64 k).toNat = k
    rw [BitVec.toNat_ofNat, Nat.mod_eq_of_lt (by omega)]
  have h2 : (lN n).toUInt64.toNat = n := wb_tn hn
  rw [UInt64.toNat_shiftRight, h1, h2, Nat.mod_eq_of_lt hk, Nat.shiftRight_eq_div_pow, BitVec.toNat_ofNat, Nat.mod_eq_of_lt (Nat.lt_of_le_of_lt (Nat.div_le_self _ _) hn)]
theorem wb_shl (n : Nat) {k : Nat} (hk : k < 64) : lN n <<< ((nI k).toInt64 &&& 63) = lN (n * 2 ^ k) := by
  rw [wb_c k hk]
  apply wb_inj
  rw [Int64.toBitVec_shiftLeft, wb_tb, wb_tb, wb_tb, wb_sm k hk]
  apply BitVec.eq_of_toNat_eq
  rw [BitVec.shiftLeft_eq', BitVec.toNat_shiftLeft, BitVec.toNat_ofNat, BitVec.toNat_ofNat, BitVec.toNat_ofNat, Nat.mod_eq_of_lt (show k < 2 ^ 64 by omega), Nat.shiftLeft_eq, Nat.mul_mod, Nat.mod_mod, ← Nat.mul_mod]
theorem wb_and {a b : Nat} (ha : a < 2 ^ 64) (hb : b < 2 ^ 64) : lN a &&& lN b = lN (a &&& b) := by
  apply wb_inj
  rw [Int64.toBitVec_and, wb_tb, wb_tb, wb_tb]
  apply BitVec.eq_of_toNat_eq
  rw [BitVec.toNat_and, BitVec.toNat_ofNat, BitVec.toNat_ofNat, BitVec.toNat_ofNat, Nat.mod_eq_of_lt ha, Nat.mod_eq_of_lt hb, Nat.mod_eq_of_lt (Nat.and_lt_two_pow _ hb)]
theorem wb_or {a b : Nat} (ha : a < 2 ^ 64) (hb : b < 2 ^ 64) : lN a ||| lN b = lN (a ||| b) := by
  apply wb_inj
  rw [Int64.toBitVec_or, wb_tb, wb_tb, wb_tb]
  apply BitVec.eq_of_toNat_eq
  rw [BitVec.toNat_or, BitVec.toNat_ofNat, BitVec.toNat_ofNat, BitVec.toNat_ofNat, Nat.mod_eq_of_lt ha, Nat.mod_eq_of_lt hb, Nat.mod_eq_of_lt (Nat.or_lt_two_pow ha hb)]
theorem wb_mask {n k : Nat} (hn : n < 2 ^ 64) (hk : k < 64) : lN n &&& lN (2 ^ k - 1) = lN (n % 2 ^ k) := by
  rw [wb_and hn (by have := wb_lt2 hk; omega), Nat.and_two_pow_sub_one_eq_mod]
theorem wb_a1 {n : Nat} (hn : n < 2 ^ 64) : lN n &&& 1 = lN (n % 2) := wb_mask (k := 1) hn (by decide)
theorem wb_bit {n k : Nat} (hn : n < 2 ^ 64) (hk : k < 64) : ((lN n).toUInt64 >>> ((nI k).toInt64.toUInt64 &&& Int64.toUInt64 63)).toInt64 &&& 1 = lN (n / 2 ^ k % 2) := by
  rw [wb_shr hn hk, wb_a1 (Nat.lt_of_le_of_lt (Nat.div_le_self _ _) hn)]
theorem wb_xor {q k : Nat} (hk : k < 63) (h : 2 ^ k ≤ q) (h2 : q < 2 ^ (k + 1)) : lN q ^^^ lN (2 ^ k) = lN (q - 2 ^ k) := by
  obtain ⟨r, rfl⟩ : ∃ r, q = 2 ^ k + r := ⟨q - 2 ^ k, by omega⟩
  have hr : r < 2 ^ k := by rw [Nat.pow_succ] at h2; omega
  have hx : (2 ^ k + r) ^^^ 2 ^ k = r := by
    apply Nat.eq_of_testBit_eq
    intro i
    rw [Nat.testBit_xor, Nat.testBit_two_pow]
    rcases Nat.lt_trichotomy i k with h | h | h
    · rw [Nat.testBit_two_pow_add_gt h]
      simp [show ¬ k = i by omega]
    · subst h
      rw [Nat.testBit_two_pow_add_eq]
      simp
    · have a1 : 2 ^ (k + 1) ≤ 2 ^ i := Nat.pow_le_pow_right (by decide) h
      rw [Nat.testBit_lt_two_pow (show 2 ^ k + r < 2 ^ i by omega), Nat.testBit_lt_two_pow (show r < 2 ^ i by omega)]
      simp [show ¬ k = i by omega]
  have b1 := wb_lt2 (show k + 1 < 64 by omega)
  have b2 := wb_lt2 (show k < 64 by omega)
  apply wb_inj
  rw [Int64.toBitVec_xor, wb_tb, wb_tb, wb_tb]
  apply BitVec.eq_of_toNat_eq
  rw [BitVec.toNat_xor, BitVec.toNat_ofNat, BitVec.toNat_ofNat, BitVec.toNat_ofNat, Nat.mod_eq_of_lt (by omega : 2 ^ k + r < 2 ^ 64), Nat.mod_eq_of_lt b2, hx, Nat.add_sub_cancel_left, Nat.mod_eq_of_lt (by omega)]
/-! ===== lN: masks, 'or' of parts that don't overlap is a sum ===== -/
theorem u_tn {n : Nat} (h : n < 2 ^ 64) : (UInt64.ofNat n).toNat = n := Nat.mod_eq_of_lt h
theorem g_and {a b c : Nat} (ha : a < 2 ^ 64) (hb : b < 2 ^ 64) (hc : a &&& b = c) : lN a &&& lN b = lN c := by
  subst hc
  have h : UInt64.ofNat a &&& UInt64.ofNat b = UInt64.ofNat (a &&& b) := UInt64.toNat_inj.mp (by rw [UInt64.toNat_and, u_tn ha, u_tn hb, u_tn (Nat.and_lt_two_pow a hb)])
  have h2 := congrArg UInt64.toInt64 h
  exact h2
theorem g_and1 {a : Nat} (ha : a < 2 ^ 64) : lN a &&& 1 = lN (a % 2) := g_and (b := 1) ha (by decide) (Nat.and_two_pow_sub_one_eq_mod a 1)
theorem g_mask {a s p : Nat} (hp : 2 ^ s = p) (hs : s < 64) (ha : a < 2 ^ 64) : lN a &&& lN (p - 1) = lN (a % p) := by
  subst hp
  have := Nat.pow_lt_pow_right (show 1 < 2 by decide) hs
  exact g_and ha (by omega) (Nat.and_two_pow_sub_one_eq_mod a s)
theorem g_or {k p a b : Nat} (hp : 2 ^ k = p) (ha : a < p) (h : b * p + a < 2 ^ 64) : lN (b * p) ||| lN a = lN (b * p + a) := by
  subst hp
  have h1 : b * 2 ^ k ||| a = b * 2 ^ k + a := by rw [← Nat.shiftLeft_eq, Nat.shiftLeft_add_eq_or_of_lt ha]
  have h3 : UInt64.ofNat (b * 2 ^ k) ||| UInt64.ofNat a = UInt64.ofNat (b * 2 ^ k + a) := UInt64.toNat_inj.mp (by rw [UInt64.toNat_or, u_tn (by omega), u_tn (by omega), u_tn h, h1])
  have h2 := congrArg UInt64.toInt64 h3
  exact h2
theorem g_or' {k p a b : Nat} (hp : 2 ^ k = p) (ha : a < p) (h : a + b * p < 2 ^ 64) : lN a ||| lN (b * p) = lN (a + b * p) := by
  rw [Int64.or_comm, g_or hp ha (by omega), Nat.add_comm]
theorem g_ushr {a k p : Nat} {y : UInt64} (hy : y = UInt64.ofNat k) (hk : k < 64) (hp : 2 ^ k = p) (ha : a < 2 ^ 64) : ((lN a).toUInt64 >>> y).toInt64 = lN (a / p) := by
  subst hy hp
  have h : UInt64.ofNat a >>> UInt64.ofNat k = UInt64.ofNat (a / 2 ^ k) := UInt64.toNat_inj.mp (by rw [UInt64.toNat_shiftRight, u_tn ha, u_tn (by omega), u_tn (Nat.lt_of_le_of_lt (Nat.div_le_self _ _) ha), Nat.mod_eq_of_lt hk, Nat.shiftRight_eq_div_pow])
  have h2 := congrArg UInt64.toInt64 h
  exact h2
theorem g_shl {a k p : Nat} {y : Int64} (hy : y.toBitVec.smod 64 = BitVec.ofNat 64 k) (hk : k < 64) (hp : 2 ^ k = p) (ha : a < 2 ^ 64) : lN a <<< y = lN (a * p) := by
  subst hp
  apply Int64.toBitVec_inj.mp
  rw [Int64.toBitVec_shiftLeft, hy]
  apply BitVec.eq_of_toNat_eq
  have hb : (lN a).toBitVec.toNat = a := Nat.mod_eq_of_lt ha
  have hk' : (BitVec.ofNat 64 k).toNat = k := Nat.mod_eq_of_lt (by omega)
  have h : ((lN a).toBitVec <<< BitVec.ofNat 64 k).toNat = (a * 2 ^ k) % 2 ^ 64 := by simp only [BitVec.shiftLeft_eq', BitVec.toNat_shiftLeft, hb, hk', Nat.shiftLeft_eq]
  exact h
/-! ===== lN to 2^62 under >> and >>> ===== -/
theorem pf_lI {a : Nat} (h : a < 2 ^ 63) : (lN a).toInt = (a : Int) := lg_ofNat_toInt h
theorem pf_shr {a d : Nat} {D : Int64} (hD : (D.toBitVec.smod 64).toNat = d) (h : a < 2 ^ 62) : lN a >>> D = lN (a / 2 ^ d) := by
  have hd : a / 2 ^ d ≤ a := Nat.div_le_self _ _
  apply Int64.toInt_inj.mp
  have e : (lN a >>> D).toInt = (lN a).toInt >>> d := by
    rw [← hD]
    exact BitVec.toInt_sshiftRight ..
  rw [e, Int.shiftRight_eq_div_pow, pf_lI (by omega), pf_lI (by omega)]
  rfl
theorem pf_ushr {a d : Nat} {D : UInt64} (hD : D.toNat % 64 = d) (h : a < 2 ^ 62) : ((lN a).toUInt64 >>> D).toInt64 = lN (a / 2 ^ d) := by
  have hd : a / 2 ^ d ≤ a := Nat.div_le_self _ _
  have e : (lN a).toUInt64 >>> D = UInt64.ofNat (a / 2 ^ d) := UInt64.toNat_inj.mp (by
    rw [UInt64.toNat_shiftRight, hD, Nat.shiftRight_eq_div_pow, UInt64.toNat_ofNat']
    show (UInt64.ofNat a).toNat / 2 ^ d = _
    rw [UInt64.toNat_ofNat', Nat.mod_eq_of_lt (by omega), Nat.mod_eq_of_lt (by omega)])
  rw [e]
  rfl
theorem pf_andw (x : Int64) : ∃ m, m < 2 ^ 32 ∧ x &&& 4294967295 = lN m := ⟨x.toBitVec.toNat % 2 ^ 32, Nat.mod_lt _ (by decide), Int64.toBitVec_inj.mp (BitVec.eq_of_toNat_eq (by
  show (x.toBitVec &&& 4294967295#64).toNat = (BitVec.ofNat 64 (x.toBitVec.toNat % 2 ^ 32)).toNat
  rw [BitVec.toNat_and, show (4294967295#64).toNat = 2 ^ 32 - 1 from by decide, Nat.and_two_pow_sub_one_eq_mod, BitVec.toNat_ofNat]
  omega))⟩
theorem emod_mul_l (a b n : Int) : a % n * b % n = a * b % n := by
  rw [Int.mul_emod, Int.emod_emod_of_dvd _ (Int.dvd_refl n), ← Int.mul_emod]
theorem ntdiv (m n : Nat) : (m : Int).tdiv (n : Int) = ((m / n : Nat) : Int) := rfl
theorem ntmod (m n : Nat) : (m : Int).tmod (n : Int) = ((m % n : Nat) : Int) := rfl
/-! ints by their numbers -/
theorem zi_toInt {a : Int} (h1 : -2147483648 ≤ a) (h2 : a < 2147483648) : (zi a).toInt = a := Int32.toInt_ofInt_of_le h1 h2
theorem zl_toInt {a : Int} (h1 : -9223372036854775808 ≤ a) (h2 : a < 9223372036854775808) : (zl a).toInt = a := Int64.toInt_ofInt_of_le h1 h2
theorem zi_nI (n : Nat) : zi n = nI n := Int32.ofInt_eq_ofNat
theorem zl_lN (n : Nat) : zl n = lN n := Int64.ofInt_eq_ofNat
theorem zi_of (x : Int32) : ∃ a : Int, -2147483648 ≤ a ∧ a < 2147483648 ∧ x = zi a := ⟨x.toInt, Int32.le_toInt x, Int32.toInt_lt x, (Int32.ofInt_toInt x).symm⟩
theorem zl_of (x : Int64) : ∃ a : Int, -9223372036854775808 ≤ a ∧ a < 9223372036854775808 ∧ x = zl a := ⟨x.toInt, Int64.le_toInt x, Int64.toInt_lt x, (Int64.ofInt_toInt x).symm⟩
theorem zl_of_toInt {x : Int64} {k : Int} (h : x.toInt = k) : x = zl k := by
  rw [← h]
  exact (Int64.ofInt_toInt x).symm
theorem zi_sub (a b : Int) : zi a - zi b = zi (a - b) := (Int32.ofInt_sub a b).symm
theorem zi_mul (a b : Int) : zi a * zi b = zi (a * b) := (Int32.ofInt_mul a b).symm
theorem zi_neg (a : Int) : -zi a = zi (-a) := Int32.neg_ofInt
theorem zl_add (a b : Int) : zl a + zl b = zl (a + b) := (Int64.ofInt_add a b).symm
theorem zl_sub (a b : Int) : zl a - zl b = zl (a - b) := (Int64.ofInt_sub a b).symm
theorem zl_mul (a b : Int) : zl a * zl b = zl (a * b) := (Int64.ofInt_mul a b).symm
theorem zl_neg (a : Int) : -zl a = zl (-a) := Int64.neg_ofInt
theorem zi_eq {a b : Int} (h1 : -2147483648 ≤ a) (h2 : a < 2147483648) (h3 : -2147483648 ≤ b) (h4 : b < 2147483648) : zi a = zi b ↔ a = b := ⟨zi_inj h1 h2 h3 h4, fun h => h ▸ rfl⟩
theorem zi_ge {a b : Int} (h1 : -2147483648 ≤ a) (h2 : a < 2147483648) (h3 : -2147483648 ≤ b) (h4 : b < 2147483648) : zi a ≥ zi b ↔ a ≥ b := zi_le h3 h4 h1 h2
theorem zi_gt {a b : Int} (h1 : -2147483648 ≤ a) (h2 : a < 2147483648) (h3 : -2147483648 ≤ b) (h4 : b < 2147483648) : zi a > zi b ↔ a > b := zi_lt h3 h4 h1 h2
theorem zl_lt {a b : Int} (h1 : -9223372036854775808 ≤ a) (h2 : a < 9223372036854775808) (h3 : -9223372036854775808 ≤ b) (h4 : b < 9223372036854775808) : zl a < zl b ↔ a < b := by
  rw [Int64.lt_iff_toInt_lt, zl_toInt h1 h2, zl_toInt h3 h4]
theorem zl_le {a b : Int} (h1 : -9223372036854775808 ≤ a) (h2 : a < 9223372036854775808) (h3 : -9223372036854775808 ≤ b) (h4 : b < 9223372036854775808) : zl a ≤ zl b ↔ a ≤ b := by
  rw [Int64.le_iff_toInt_le, zl_toInt h1 h2, zl_toInt h3 h4]
theorem zl_ge {a b : Int} (h1 : -9223372036854775808 ≤ a) (h2 : a < 9223372036854775808) (h3 : -9223372036854775808 ≤ b) (h4 : b < 9223372036854775808) : zl a ≥ zl b ↔ a ≥ b := zl_le h3 h4 h1 h2
theorem zl_gt {a b : Int} (h1 : -9223372036854775808 ≤ a) (h2 : a < 9223372036854775808) (h3 : -9223372036854775808 ≤ b) (h4 : b < 9223372036854775808) : zl a > zl b ↔ a > b := zl_lt h3 h4 h1 h2
theorem zl_inj {a b : Int} (h1 : -9223372036854775808 ≤ a) (h2 : a < 9223372036854775808) (h3 : -9223372036854775808 ≤ b) (h4 : b < 9223372036854775808) (h : zl a = zl b) : a = b := by
  have e := congrArg Int64.toInt h
  rwa [zl_toInt h1 h2, zl_toInt h3 h4] at e
theorem zl_eq {a b : Int} (h1 : -9223372036854775808 ≤ a) (h2 : a < 9223372036854775808) (h3 : -9223372036854775808 ≤ b) (h4 : b < 9223372036854775808) : zl a = zl b ↔ a = b := ⟨zl_inj h1 h2 h3 h4, fun h => h ▸ rfl⟩
theorem zi_ix {a : Int} {n : Nat} (h0 : 0 ≤ a) (h1 : a < n) (h2 : a < 2147483648) : mIx (zi a) n := by
  obtain ⟨k, rfl⟩ : ∃ k : Nat, a = k := ⟨a.toNat, by omega⟩
  intro q
  rcases q with q | q
  · exact absurd ((zi_lt (a := k) (b := 0) (by omega) (by omega) (by omega) (by omega)).mp q) (by omega)
  · rw [zi_toNat (by omega)] at q
    omega
theorem zi_nat {a : Int} (h0 : 0 ≤ a) (h1 : a < 2147483648) : (zi a).toNatClampNeg = a.toNat := by
  obtain ⟨k, rfl⟩ : ∃ k : Nat, a = k := ⟨a.toNat, by omega⟩
  rw [zi_toNat (by omega)]
  rfl
theorem zi_div {a b : Int} (h1 : -2147483648 ≤ a) (h2 : a < 2147483648) (h3 : -2147483648 ≤ b) (h4 : b < 2147483648) : zi a / zi b = zi (a.tdiv b) := by
  apply Int32.toInt.inj
  rw [Int32.toInt_div, zi_toInt h1 h2, zi_toInt h3 h4]
  exact (Int32.toInt_ofInt (n := a.tdiv b)).symm
theorem zi_rem {a b : Int} (h1 : -2147483648 ≤ a) (h2 : a < 2147483648) (h3 : -2147483648 ≤ b) (h4 : b < 2147483648) : zrem (zi a) (zi b) = zi (a.tmod b) := by
  unfold zrem
  rw [zi_div h1 h2 h3 h4, zi_mul, zi_sub, Int.tmod_def, Int.mul_comm]
theorem zl_div {a b : Int} (h1 : -9223372036854775808 ≤ a) (h2 : a < 9223372036854775808) (h3 : -9223372036854775808 ≤ b) (h4 : b < 9223372036854775808) : zl a / zl b = zl (a.tdiv b) := by
  apply Int64.toInt.inj
  rw [Int64.toInt_div, zl_toInt h1 h2, zl_toInt h3 h4]
  exact (Int64.toInt_ofInt (n := a.tdiv b)).symm
theorem zl_rem {a b : Int} (h1 : -9223372036854775808 ≤ a) (h2 : a < 9223372036854775808) (h3 : -9223372036854775808 ≤ b) (h4 : b < 9223372036854775808) : zremL (zl a) (zl b) = zl (a.tmod b) := by
  unfold zremL
  rw [zl_div h1 h2 h3 h4, zl_mul, zl_sub, Int.tmod_def, Int.mul_comm]
theorem zI2L_zi {a : Int} (h1 : -2147483648 ≤ a) (h2 : a < 2147483648) : zI2L (zi a) = zl a := by
  apply Int64.toInt.inj
  unfold zI2L
  rw [Int32.toInt_toInt64, zi_toInt h1 h2, zl_toInt (by omega) (by omega)]
theorem zL2I_zl (a : Int) : zL2I (zl a) = zi a := Int64.toInt32_ofInt
theorem zI2B_zi (a : Int) : zI2B (zi a) = zi (a.bmod 256) := by
  have h1 := Int.le_bmod (x := a) (m := 256) (by decide)
  have h2 := Int.bmod_lt (x := a) (m := 256) (by decide)
  apply Int32.toInt.inj
  rw [zi_toInt (by omega) (by omega)]
  unfold zI2B zi
  rw [Int8.toInt_toInt32, Int32.toInt8_ofInt, Int8.toInt_ofInt]
theorem zI2B_id {a : Int} (h1 : -128 ≤ a) (h2 : a < 128) : zI2B (zi a) = zi a := by
  rw [zI2B_zi]
  congr 1
  rw [Int.bmod_def]
  omega
theorem zI2B_2 (x : Int32) : zI2B (zI2B x) = zI2B x := by
  obtain ⟨a, _, _, rfl⟩ := zi_of x
  have h1 := Int.le_bmod (x := a) (m := 256) (by decide)
  have h2 := Int.bmod_lt (x := a) (m := 256) (by decide)
  rw [zI2B_zi]
  exact zI2B_id (by omega) (by omega)
theorem zI2S_zi (a : Int) : zI2S (zi a) = zi (a.bmod 65536) := by
  have h1 := Int.le_bmod (x := a) (m := 65536) (by decide)
  have h2 := Int.bmod_lt (x := a) (m := 65536) (by decide)
  apply Int32.toInt.inj
  rw [zi_toInt (by omega) (by omega)]
  unfold zI2S zi
  rw [Int16.toInt_toInt32, Int32.toInt16_ofInt, Int16.toInt_ofInt]
theorem zi_mod (a : Int) : zi a = zi (a.bmod 4294967296) := by
  apply Int32.toInt.inj
  unfold zi
  rw [Int32.toInt_ofInt, Int32.toInt_ofInt]
  show a.bmod 4294967296 = (a.bmod 4294967296).bmod 4294967296
  rw [Int.bmod_bmod]
theorem zl_mod (a : Int) : zl a = zl (a.bmod 18446744073709551616) := by
  apply Int64.toInt.inj
  unfold zl
  rw [Int64.toInt_ofInt, Int64.toInt_ofInt]
  show a.bmod 18446744073709551616 = (a.bmod 18446744073709551616).bmod 18446744073709551616
  rw [Int.bmod_bmod]
theorem zi_congr {a b : Int} (h : a % 4294967296 = b % 4294967296) : zi a = zi b := by
  have h' : a % ((4294967296 : Nat) : Int) = b % ((4294967296 : Nat) : Int) := h
  rw [zi_mod a, zi_mod b, Int.bmod_def, Int.bmod_def, h']
theorem zl_congr {a b : Int} (h : a % 18446744073709551616 = b % 18446744073709551616) : zl a = zl b := by
  have h' : a % ((18446744073709551616 : Nat) : Int) = b % ((18446744073709551616 : Nat) : Int) := h
  rw [zl_mod a, zl_mod b, Int.bmod_def, Int.bmod_def, h']
/-- every long as a number from 0 on -/
theorem zl_nat (a : Int) : zl a = lN (a % 18446744073709551616).toNat := by
  rw [← zl_lN]
  apply zl_congr
  omega
theorem zi_natm (a : Int) : zi a = nI (a % 4294967296).toNat := by
  rw [← zi_nI]
  apply zi_congr
  omega
theorem zi_and {a : Int} {k : Nat} (hk : k ≤ 31) : zi a &&& zi (2 ^ k - 1) = zi (a % 2 ^ k) := by
  have hp : (0 : Int) < 2 ^ k := Int.pow_pos (by decide)
  have hle : (2 : Nat) ^ k ≤ 2 ^ 31 := Nat.pow_le_pow_right (by decide) hk
  have e1 : zi (2 ^ k - 1) = nI (2 ^ k - 1) := by
    rw [← zi_nI]
    congr 1
    rw [Int.natCast_sub (Nat.one_le_two_pow)]
    rfl
  rw [e1, zi_natm a, pk_andN (k := k) (by omega) (pk_tn (by omega)), ← zi_nI]
  congr 1
  have e2 : ((a % 4294967296).toNat : Int) = a % 4294967296 := by omega
  rw [Int.natCast_emod, e2]
  show a % 4294967296 % ((2 ^ k : Nat) : Int) = a % 2 ^ k
  have e3 : ((2 ^ k : Nat) : Int) = (2 : Int) ^ k := rfl
  rw [e3]
  apply Int.emod_emod_of_dvd
  have : (4294967296 : Int) = 2 ^ k * 2 ^ (32 - k) := by
    rw [← Int.pow_add]
    have : k + (32 - k) = 32 := by omega
    rw [this]
    rfl
  exact ⟨2 ^ (32 - k), this⟩
theorem zl_and {a : Int} {k : Nat} (hk : k ≤ 63) : zl a &&& zl (2 ^ k - 1) = zl (a % 2 ^ k) := by
  have hp : (0 : Int) < 2 ^ k := Int.pow_pos (by decide)
  have hle : (2 : Nat) ^ k ≤ 2 ^ 63 := Nat.pow_le_pow_right (by decide) hk
  have e1 : zl (2 ^ k - 1) = lN (2 ^ k - 1) := by
    rw [← zl_lN]
    congr 1
    rw [Int.natCast_sub (Nat.one_le_two_pow)]
    rfl
  rw [e1, zl_nat a, wb_mask (k := k) (by omega) (by omega), ← zl_lN]
  congr 1
  have e2 : ((a % 18446744073709551616).toNat : Int) = a % 18446744073709551616 := by omega
  rw [Int.natCast_emod, e2]
  show a % 18446744073709551616 % ((2 ^ k : Nat) : Int) = a % 2 ^ k
  have e3 : ((2 ^ k : Nat) : Int) = (2 : Int) ^ k := rfl
  rw [e3]
  apply Int.emod_emod_of_dvd
  have : (18446744073709551616 : Int) = 2 ^ k * 2 ^ (64 - k) := by
    rw [← Int.pow_add]
    have : k + (64 - k) = 64 := by omega
    rw [this]
    rfl
  exact ⟨2 ^ (64 - k), this⟩
theorem zshl_zi (a : Int) {k : Nat} (hk : k < 32) : zshl (zi a) (zi k) = zi (a * 2 ^ k) := by
  have hs : ∀ k, k < 32 → ((zi (k : Nat) &&& 31).toBitVec.smod 32).toNat = k := by decide +kernel
  apply Int32.toBitVec_inj.mp
  apply BitVec.eq_of_toNat_eq
  unfold zshl
  rw [pk_shl _ _ k (hs k hk)]
  unfold zi
  rw [Int32.toBitVec_ofInt, Int32.toBitVec_ofInt, BitVec.toNat_ofInt, BitVec.toNat_ofInt]
  apply Int.ofNat.inj
  show ((((a % ((2 ^ 32 : Nat) : Int)).toNat * 2 ^ k % 2 ^ 32 : Nat)) : Int) = (((a * 2 ^ k) % ((2 ^ 32 : Nat) : Int)).toNat : Int)
  have e0 : ((2 ^ 32 : Nat) : Int) = 4294967296 := rfl
  rw [e0, Int.natCast_emod, Int.natCast_mul, Int.toNat_of_nonneg (Int.emod_nonneg _ (by decide)), Int.toNat_of_nonneg (Int.emod_nonneg _ (by decide))]
  show a % 4294967296 * ((2 ^ k : Nat) : Int) % 4294967296 = _
  have e3 : ((2 ^ k : Nat) : Int) = (2 : Int) ^ k := rfl
  rw [e3, emod_mul_l]
theorem zshlL_zl (a : Int) {k : Nat} (hk : k < 64) : zshlL (zl a) (zi k) = zl (a * 2 ^ k) := by
  unfold zshlL
  rw [zl_nat a, zi_nI, wb_shl _ hk, ← zl_lN]
  apply zl_congr
  have e2 : ((a % 18446744073709551616).toNat : Int) = a % 18446744073709551616 := by omega
  rw [Int.natCast_mul, e2]
  have e3 : ((2 ^ k : Nat) : Int) = (2 : Int) ^ k := rfl
  rw [e3, emod_mul_l]
theorem zshr_zi {a : Int} (h1 : -2147483648 ≤ a) (h2 : a < 2147483648) {k : Nat} (hk : k < 32) : zshr (zi a) (zi k) = zi (a / 2 ^ k) := by
  have hs : ∀ k, k < 32 → ((zi (k : Nat) &&& 31).toBitVec.smod 32).toNat = k := by decide +kernel
  apply zi_of_toInt
  unfold zshr
  rw [pk_shr _ _ k (hs k hk), zi_toInt h1 h2, Int.shiftRight_eq_div_pow]
  rfl
theorem zushrL_zl (a : Int) {k : Nat} (hk : k < 64) : zushrL (zl a) (zi k) = zl (a % 18446744073709551616 / 2 ^ k) := by
  unfold zushrL
  rw [zl_nat a, zi_nI, wb_shr (by omega) hk, ← zl_lN]
  congr 1
  have e2 : ((a % 18446744073709551616).toNat : Int) = a % 18446744073709551616 := by omega
  rw [Int.natCast_ediv, e2]
  rfl
theorem zushrL_pos {a : Int} (h0 : 0 ≤ a) (h1 : a < 18446744073709551616) {k : Nat} (hk : k < 64) : zushrL (zl a) (zi k) = zl (a / 2 ^ k) := by
  rw [zushrL_zl a hk]
  congr 2
  omega
theorem zlt {a b : Int} (h : -2147483648 ≤ a ∧ a < b ∧ b < 2147483648) : zi a < zi b := (zi_lt (by omega) (by omega) (by omega) (by omega)).mpr h.2.1
theorem znlt {a b : Int} (h : -2147483648 ≤ b ∧ b ≤ a ∧ a < 2147483648) : ¬ zi a < zi b := fun q => absurd ((zi_lt (by omega) (by omega) (by omega) (by omega)).mp q) (by omega)
theorem zle {a b : Int} (h : -2147483648 ≤ a ∧ a ≤ b ∧ b < 2147483648) : zi a ≤ zi b := (zi_le (by omega) (by omega) (by omega) (by omega)).mpr h.2.1
theorem znle {a b : Int} (h : -2147483648 ≤ b ∧ b < a ∧ a < 2147483648) : ¬ zi a ≤ zi b := fun q => absurd ((zi_le (by omega) (by omega) (by omega) (by omega)).mp q) (by omega)
theorem zgt {a b : Int} (h : -2147483648 ≤ b ∧ b < a ∧ a < 2147483648) : zi a > zi b := zlt h
theorem zngt {a b : Int} (h : -2147483648 ≤ a ∧ a ≤ b ∧ b < 2147483648) : ¬ zi a > zi b := znlt h
theorem zge {a b : Int} (h : -2147483648 ≤ b ∧ b ≤ a ∧ a < 2147483648) : zi a ≥ zi b := zle h
theorem znge {a b : Int} (h : -2147483648 ≤ a ∧ a < b ∧ b < 2147483648) : ¬ zi a ≥ zi b := znle h
theorem zne {a b : Int} (h : a ≠ b ∧ -2147483648 ≤ a ∧ a < 2147483648 ∧ -2147483648 ≤ b ∧ b < 2147483648) : ¬ zi a = zi b := fun q => h.1 (zi_inj (by omega) (by omega) (by omega) (by omega) q)
theorem zllt {a b : Int} (h : -9223372036854775808 ≤ a ∧ a < b ∧ b < 9223372036854775808) : zl a < zl b := (zl_lt (by omega) (by omega) (by omega) (by omega)).mpr h.2.1
theorem zlnlt {a b : Int} (h : -9223372036854775808 ≤ b ∧ b ≤ a ∧ a < 9223372036854775808) : ¬ zl a < zl b := fun q => absurd ((zl_lt (by omega) (by omega) (by omega) (by omega)).mp q) (by omega)
theorem zlle {a b : Int} (h : -9223372036854775808 ≤ a ∧ a ≤ b ∧ b < 9223372036854775808) : zl a ≤ zl b := (zl_le (by omega) (by omega) (by omega) (by omega)).mpr h.2.1
theorem zlnle {a b : Int} (h : -9223372036854775808 ≤ b ∧ b < a ∧ a < 9223372036854775808) : ¬ zl a ≤ zl b := fun q => absurd ((zl_le (by omega) (by omega) (by omega) (by omega)).mp q) (by omega)
theorem zlgt {a b : Int} (h : -9223372036854775808 ≤ b ∧ b < a ∧ a < 9223372036854775808) : zl a > zl b := zllt h
theorem zlngt {a b : Int} (h : -9223372036854775808 ≤ a ∧ a ≤ b ∧ b < 9223372036854775808) : ¬ zl a > zl b := zlnlt h
theorem zlge {a b : Int} (h : -9223372036854775808 ≤ b ∧ b ≤ a ∧ a < 9223372036854775808) : zl a ≥ zl b := zlle h
theorem zlnge {a b : Int} (h : -9223372036854775808 ≤ a ∧ a < b ∧ b < 9223372036854775808) : ¬ zl a ≥ zl b := zlnle h
theorem zlne {a b : Int} (h : a ≠ b ∧ -9223372036854775808 ≤ a ∧ a < 9223372036854775808 ∧ -9223372036854775808 ≤ b ∧ b < 9223372036854775808) : ¬ zl a = zl b := fun q => h.1 (zl_inj (by omega) (by omega) (by omega) (by omega) q)
theorem zshrL_zl {a : Int} (h1 : -9223372036854775808 ≤ a) (h2 : a < 9223372036854775808) {k : Nat} (hk : k < 64) : zshrL (zl a) (zi k) = zl (a / 2 ^ k) := by
  have hs : ∀ k, k < 64 → (((zi (k : Nat)).toInt64 &&& 63).toBitVec.smod 64).toNat = k := by decide +kernel
  apply zl_of_toInt
  unfold zshrL
  show ((zl a).toBitVec.sshiftRight (((zi (k : Nat)).toInt64 &&& 63).toBitVec.smod 64).toNat).toInt = _
  rw [hs k hk, BitVec.toInt_sshiftRight]
  show (zl a).toInt >>> k = _
  rw [zl_toInt h1 h2, Int.shiftRight_eq_div_pow]
  rfl
theorem and_pow (n k : Nat) : n &&& 2 ^ k = n / 2 ^ k % 2 * 2 ^ k := by
  apply Nat.eq_of_testBit_eq
  intro i
  rw [Nat.testBit_and, Nat.testBit_two_pow]
  have h2 : n / 2 ^ k % 2 = 0 ∨ n / 2 ^ k % 2 = 1 := by omega
  rcases h2 with h | h
  · rw [h, Nat.zero_mul, Nat.zero_testBit]
    by_cases hi : k = i
    · subst hi
      rw [Nat.testBit_eq_decide_div_mod_eq, h]
      rfl
    · simp [hi]
  · rw [h, Nat.one_mul, Nat.testBit_two_pow]
    by_cases hi : k = i
    · subst hi
      simp [Nat.testBit_eq_decide_div_mod_eq, h]
    · simp [hi]
theorem zl_b128 (a : Int) : zl a &&& zl 128 = zl (a / 128 % 2 * 128) := by
  have e1 : zl 128 = lN (2 ^ 7) := zl_lN (2 ^ 7)
  rw [e1, zl_nat a, wb_and (by omega) (by decide), and_pow, ← zl_lN]
  congr 1
  omega
