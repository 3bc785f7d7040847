/-! the reference takes a real apart; floats are made doubles -/
theorem zor {k p a b : Nat} (hp : 2 ^ k = p) (ha : a < p) (h : b * p + a < 18446744073709551616) : zl ((b * p : Nat) : Int) ||| zl (a : Int) = zl ((b * p + a : Nat) : Int) := by
  rw [zl_lN, zl_lN, zl_lN]
  exact g_or hp ha h
def D64 (U S B F : Nat) : Prop := U = S * 9223372036854775808 + B * 4503599627370496 + F ∧ S ≤ 1 ∧ B < 2048 ∧ F < 4503599627370496
theorem D64.lt {U S B F : Nat} (h : D64 U S B F) : U < 18446744073709551616 := by
  unfold D64 at h
  omega
theorem D64.parts {U S B F : Nat} (h : D64 U S B F) : rS 52 11 U = S ∧ rB 52 11 U = B ∧ rF 52 U = F := by
  unfold D64 at h
  unfold rS rB rF
  have e1 : (2 : Nat) ^ (52 + 11) = 9223372036854775808 := by decide
  have e2 : (2 : Nat) ^ 52 = 4503599627370496 := by decide
  have e3 : (2 : Nat) ^ 11 = 2048 := by decide
  rw [e1, e2, e3]
  omega
theorem d64 {U : Nat} (hU : U < 18446744073709551616) : D64 U (rS 52 11 U) (rB 52 11 U) (rF 52 U) := by
  unfold D64 rS rB rF
  have e1 : (2 : Nat) ^ (52 + 11) = 9223372036854775808 := by decide
  have e2 : (2 : Nat) ^ 52 = 4503599627370496 := by decide
  have e3 : (2 : Nat) ^ 11 = 2048 := by decide
  rw [e1, e2, e3]
  omega
theorem m_abs {U S B F : Nat} (h : D64 U S B F) : zl (U : Int) &&& zl 9223372036854775807 = zl ((B * 4503599627370496 + F : Nat) : Int) := by
  have e1 : zl 9223372036854775807 = zl (2 ^ 63 - 1) := rfl
  rw [e1, zl_and (by decide)]
  congr 1
  unfold D64 at h
  have e2 : (2 : Int) ^ 63 = 9223372036854775808 := by decide
  rw [e2]
  omega
theorem m_frac {U S B F : Nat} (h : D64 U S B F) : zl (U : Int) &&& zl 4503599627370495 = zl (F : Int) := by
  have e1 : zl 4503599627370495 = zl (2 ^ 52 - 1) := rfl
  rw [e1, zl_and (by decide)]
  congr 1
  unfold D64 at h
  have e2 : (2 : Int) ^ 52 = 4503599627370496 := by decide
  rw [e2]
  omega
theorem m_v {U S B F : Nat} (h : D64 U S B F) : zl (U : Int) = zl ((U : Int) - S * 18446744073709551616) := zl_congr (by unfold D64 at h; omega)
theorem m_expo {U S B F : Nat} (h : D64 U S B F) : (zshrL (zl (U : Int)) (zi 52)) &&& zl 2047 = zl (B : Int) := by
  have hh := h
  unfold D64 at hh
  have e1 : zl 2047 = zl (2 ^ 11 - 1) := rfl
  have e0 : zshrL (zl (U : Int)) (zi 52) = zl (((U : Int) - S * 18446744073709551616) / 2 ^ 52) := by
    rw [m_v h]
    exact zshrL_zl (by omega) (by omega) (k := 52) (by decide)
  rw [e0, e1, zl_and (by decide)]
  congr 1
  have e2 : (2 : Int) ^ 52 = 4503599627370496 := by decide
  have e3 : (2 : Int) ^ 11 = 2048 := by decide
  rw [e2, e3]
  omega
theorem m_sign {U S B F : Nat} (h : D64 U S B F) : (zl (U : Int) ≥ zl 0) ↔ S = 0 := by
  rw [m_v h]
  unfold D64 at h
  rw [zl_ge (by omega) (by omega) (by omega) (by omega)]
  omega
theorem r168_eq {U S B F : Nat} (h : D64 U S B F) (s : zS) : r168 (zl (U : Int)) s = zi (if B = 2047 ∧ ¬ F = 0 then 1 else 0) := by
  have hh := h
  unfold D64 at hh
  unfold r168
  rw [m_abs h]
  by_cases c : B = 2047 ∧ ¬ F = 0
  · rw [if_pos c, if_neg (zlnle (by omega))]
  · rw [if_neg c, if_pos (zlle (by omega))]
theorem r169_eq {U S B F : Nat} (h : D64 U S B F) (s : zS) : r169 (zl (U : Int)) s = zi (if B = 2047 ∧ F = 0 then 1 else 0) := by
  have hh := h
  unfold D64 at hh
  unfold r169
  rw [m_abs h]
  by_cases c : B = 2047 ∧ F = 0
  · rw [if_pos c, if_neg (not_not_intro (zleq (by omega)))]
  · rw [if_neg c, if_pos (zlne (by omega))]
theorem r166_eq {U S B F : Nat} (h : D64 U S B F) (s : zS) : r166 (zl (U : Int)) s = zl (rM 52 11 U : Int) := by
  have hh := h
  unfold D64 at hh
  obtain ⟨_, p2, p3⟩ := h.parts
  unfold r166 rM
  rw [m_expo h, m_frac h, p2, p3]
  by_cases c : B = 0
  · rw [if_neg (not_not_intro (zleq (by omega))), if_pos c]
  · rw [if_pos (zlne (by omega)), if_neg c]
    have e2 : (2 : Nat) ^ 52 = 4503599627370496 := by decide
    exact zl_or_pow (k := 52) (by omega) (by omega)
theorem r167_eq {U S B F : Nat} (h : D64 U S B F) (s : zS) : r167 (zl (U : Int)) s = zi (-1074 + rE 52 11 U - 1) := by
  have hh := h
  unfold D64 at hh
  obtain ⟨_, p2, p3⟩ := h.parts
  unfold r167 rE
  rw [m_expo h, zL2I_zl, r264_max (by omega) (by omega) (by omega) (by omega), p2, zi_sub]
  congr 1
  split <;> omega
/-- what a double keeps of the real -/
def WID (fb eb : Nat) (lo : Int) (U U' : Nat) : Prop := U' < 18446744073709551616 ∧ rS 52 11 U' = rS fb eb U ∧ (nanB 52 11 U' ↔ nanB fb eb U) ∧ (infB 52 11 U' ↔ infB fb eb U) ∧ (¬ nanB fb eb U → ¬ infB fb eb U → ∃ j : Nat, rM 52 11 U' = rM fb eb U * 2 ^ j ∧ -1074 + rE 52 11 U' - 1 = lo + rE fb eb U - 1 - j)
theorem WID.same {U : Nat} (hU : U < 18446744073709551616) : WID 52 11 (-1074) U U := ⟨hU, rfl, Iff.rfl, Iff.rfl, fun _ _ => ⟨0, by rw [Nat.pow_zero, Nat.mul_one], by omega⟩⟩
/-! wide -/
theorem zushr31 {a : Int} (h1 : -2147483648 ≤ a) (h2 : a < 2147483648) : zushr (zi a) (zi 31) = zi (if a < 0 then 1 else 0) := by
  apply Int32.toBitVec_inj.mp
  apply BitVec.eq_of_toNat_eq
  unfold zushr
  show ((zi a).toUInt32 >>> ((zi 31).toUInt32 &&& Int32.toUInt32 31)).toNat = _
  rw [UInt32.toNat_shiftRight]
  have e1 : ((zi 31).toUInt32 &&& Int32.toUInt32 31).toNat % 32 = 31 := by decide
  have e2 : (zi a).toUInt32.toNat = (a % 4294967296).toNat := by
    show (zi a).toBitVec.toNat = _
    unfold zi
    rw [Int32.toBitVec_ofInt, BitVec.toNat_ofInt]
    rfl
  rw [e1, e2, Nat.shiftRight_eq_div_pow]
  have e3 : (2 : Nat) ^ 31 = 2147483648 := by decide
  rw [e3]
  by_cases c : a < 0
  · rw [if_pos c]
    have : (zi 1).toBitVec.toNat = 1 := by decide
    rw [this]
    omega
  · rw [if_neg c]
    have : (zi 0).toBitVec.toNat = 0 := by decide
    rw [this]
    omega
def D32 (m : Int) (S B F : Nat) : Prop := m % 4294967296 = S * 2147483648 + B * 8388608 + F ∧ S ≤ 1 ∧ B < 256 ∧ F < 8388608 ∧ -2147483648 ≤ m ∧ m < 2147483648
theorem D32.parts {m : Int} {S B F : Nat} (h : D32 m S B F) {U : Nat} (hU : (U : Int) = m % 4294967296) : rS 23 8 U = S ∧ rB 23 8 U = B ∧ rF 23 U = F := by
  unfold D32 at h
  unfold rS rB rF
  have e1 : (2 : Nat) ^ (23 + 8) = 2147483648 := by decide
  have e2 : (2 : Nat) ^ 23 = 8388608 := by decide
  have e3 : (2 : Nat) ^ 8 = 256 := by decide
  rw [e1, e2, e3]
  omega
theorem d32 {m : Int} (h1 : -2147483648 ≤ m) (h2 : m < 2147483648) {U : Nat} (hU : (U : Int) = m % 4294967296) : D32 m (rS 23 8 U) (rB 23 8 U) (rF 23 U) := by
  unfold D32 rS rB rF
  have e1 : (2 : Nat) ^ (23 + 8) = 2147483648 := by decide
  have e2 : (2 : Nat) ^ 23 = 8388608 := by decide
  have e3 : (2 : Nat) ^ 8 = 256 := by decide
  rw [e1, e2, e3]
  omega
theorem w_expo {m : Int} {S B F : Nat} (h : D32 m S B F) : (zshr (zi m) (zi 23)) &&& zi 255 = zi (B : Int) := by
  have hh := h
  unfold D32 at hh
  have e0 : zshr (zi m) (zi 23) = zi (m / 2 ^ 23) := zshr_zi (by omega) (by omega) (k := 23) (by decide)
  rw [e0, zi_and255]
  congr 1
  have e2 : (2 : Int) ^ 23 = 8388608 := by decide
  rw [e2]
  omega
theorem w_frac {m : Int} {S B F : Nat} (h : D32 m S B F) : zi m &&& zi 8388607 = zi (F : Int) := by
  have hh := h
  unfold D32 at hh
  have e1 : zi 8388607 = zi (2 ^ 23 - 1) := rfl
  rw [e1, zi_and (by decide)]
  congr 1
  have e2 : (2 : Int) ^ 23 = 8388608 := by decide
  rw [e2]
  omega
theorem w_sign {m : Int} {S B F : Nat} (h : D32 m S B F) : zshlL (zI2L (zushr (zi m) (zi 31))) (zi 63) = zl ((S * 9223372036854775808 : Nat) : Int) := by
  have hh := h
  unfold D32 at hh
  rw [zushr31 (by omega) (by omega)]
  have e0 : (if m < 0 then (1 : Int) else 0) = S := by split <;> omega
  rw [e0, zI2L_zi (by omega) (by omega)]
  have := zshlL_zl (S : Int) (k := 63) (by decide)
  rw [show zi ((63 : Nat) : Int) = zi 63 from rfl] at this
  rw [this]
  congr 1
/-- exponent and fraction laid over the sign -/
theorem w_pack {S E G : Nat} (hS : S ≤ 1) (hE : E < 2048) (hG : G < 4503599627370496) : (zl ((S * 9223372036854775808 : Nat) : Int) ||| zshlL (zI2L (zi (E : Int))) (zi 52)) ||| zl (G : Int) = zl ((S * 9223372036854775808 + E * 4503599627370496 + G : Nat) : Int) := by
  have e1 : zshlL (zI2L (zi (E : Int))) (zi 52) = zl ((E * 4503599627370496 : Nat) : Int) := by
    rw [zI2L_zi (by omega) (by omega)]
    have := zshlL_zl (E : Int) (k := 52) (by decide)
    rw [show zi ((52 : Nat) : Int) = zi 52 from rfl] at this
    rw [this]
    congr 1
  rw [e1, zor (k := 63) (by decide) (by omega) (by omega)]
  have e2 : S * 9223372036854775808 + E * 4503599627370496 = (S * 2048 + E) * 4503599627370496 := by omega
  rw [e2, zor (k := 52) (by decide) hG (by omega)]
theorem w_shl29 {F : Nat} (hF : F < 8388608) : zshlL (zl (F : Int)) (zi 29) = zl ((F * 536870912 : Nat) : Int) := by
  have := zshlL_zl (F : Int) (k := 29) (by decide)
  rw [show zi ((29 : Nat) : Int) = zi 29 from rfl] at this
  rw [this]
  congr 1
theorem mask52 {G : Nat} (h1 : 4503599627370496 ≤ G) (h2 : G < 9007199254740992) : zl (G : Int) &&& zl 4503599627370495 = zl ((G - 4503599627370496 : Nat) : Int) := by
  have e3 : zl 4503599627370495 = zl (2 ^ 52 - 1) := rfl
  have e4 : (G : Int) % 2 ^ 52 = ((G - 4503599627370496 : Nat) : Int) := by
    have e5 : (2 : Int) ^ 52 = 4503599627370496 := by decide
    rw [e5]
    omega
  rw [e3, zl_and (by decide), e4]
theorem f170_96_loop {S : Nat} (hS : S ≤ 1) {x5 : Int32} : ∀ (d n G E : Nat), d < n → 4503599627370496 ≤ G * 2 ^ d → 0 < G → G < 9007199254740992 → d < E → E < 2000 →
    ∃ i G', (∀ s, f170_96 n (zl ((S * 9223372036854775808 : Nat) : Int)) (zl (G : Int)) x5 (zi E) s = some (zl ((S * 9223372036854775808 + (E - i) * 4503599627370496 + (G' - 4503599627370496) : Nat) : Int), s)) ∧ G' = G * 2 ^ i ∧ 4503599627370496 ≤ G' ∧ G' < 9007199254740992 ∧ i ≤ d := by
  intro d
  induction d with
  | zero =>
    intro n G E hn h1 h0 h2 h3 h4
    obtain ⟨n, rfl⟩ : ∃ k, n = k + 1 := ⟨n - 1, by omega⟩
    rw [Nat.pow_zero, Nat.mul_one] at h1
    refine ⟨0, G, fun s => ?_, by rw [Nat.pow_zero, Nat.mul_one], h1, h2, Nat.le_refl _⟩
    show b170_96 (f170_96 n) _ _ _ _ _ = _
    unfold b170_96
    have e1 : zshrL (zl (G : Int)) (zi 52) = zl ((G : Int) / 4503599627370496) := zshrL_zl (by omega) (by omega) (k := 52) (by decide)
    have e2 := mask52 h1 h2
    rw [e1, if_pos (zlne (by omega)), e2, w_pack hS (by omega) (by omega)]
    rfl
  | succ d ih =>
    intro n G E hn h1 h0 h2 h3 h4
    obtain ⟨n, rfl⟩ : ∃ k, n = k + 1 := ⟨n - 1, by omega⟩
    by_cases c : 4503599627370496 ≤ G
    · refine ⟨0, G, fun s => ?_, by rw [Nat.pow_zero, Nat.mul_one], c, h2, Nat.zero_le _⟩
      show b170_96 (f170_96 n) _ _ _ _ _ = _
      unfold b170_96
      have e1 : zshrL (zl (G : Int)) (zi 52) = zl ((G : Int) / 4503599627370496) := zshrL_zl (by omega) (by omega) (k := 52) (by decide)
      have e2 := mask52 c h2
      rw [e1, if_pos (zlne (by omega)), e2, w_pack hS (by omega) (by omega)]
      rfl
    · obtain ⟨i, G', a1, a2, a3, a4, a5⟩ := ih n (G * 2) (E - 1) (by omega) (by rw [Nat.mul_assoc, ← Nat.pow_succ']; exact h1) (by omega) (by omega) (by omega) (by omega)
      refine ⟨i + 1, G', fun s => ?_, by rw [Nat.pow_succ', ← Nat.mul_assoc]; exact a2, a3, a4, by omega⟩
      show b170_96 (f170_96 n) _ _ _ _ _ = _
      unfold b170_96
      have e1 : zshrL (zl (G : Int)) (zi 52) = zl ((G : Int) / 4503599627370496) := zshrL_zl (by omega) (by omega) (k := 52) (by decide)
      have e2 : zshlL (zl (G : Int)) (zi 1) = zl ((G * 2 : Nat) : Int) := by
        have := zshlL_zl (G : Int) (k := 1) (by decide)
        rw [show zi ((1 : Nat) : Int) = zi 1 from rfl] at this
        rw [this]
        congr 1
      have e3 : zi (E : Int) + zi (-1) = zi ((E - 1 : Nat) : Int) := by
        rw [zi_add]
        congr 1
        omega
      have e4 : E - 1 - i = E - (i + 1) := by omega
      rw [e1, if_neg (not_not_intro (zleq (by omega))), e2, e3]
      rw [← e4]
      exact a1 s
theorem f170_eq {m : Int} (h1 : -2147483648 ≤ m) (h2 : m < 2147483648) {U : Nat} (hU : (U : Int) = m % 4294967296) : ∃ U' : Nat, (∀ s, f170 (zi m) s = some (zl (U' : Int), s)) ∧ WID 23 8 (-149) U U' := by
  have h := d32 h1 h2 hU
  generalize hS : rS 23 8 U = S at h
  generalize hB : rB 23 8 U = B at h
  generalize hF : rF 23 U = F at h
  have hh := h
  unfold D32 at hh
  -- from the parts of the double to what it keeps
  have mk : ∀ (U' B' G : Nat), D64 U' S B' G → (B = 255 ↔ B' = 2047) → (B = 255 → (G = 0 ↔ F = 0)) → (B ≠ 255 → ∃ j : Nat, (if B' = 0 then G else G + 4503599627370496) = (if B = 0 then F else F + 8388608) * 2 ^ j ∧ -1074 + (if B' = 0 then 1 else (B' : Int)) - 1 = -149 + (if B = 0 then 1 else (B : Int)) - 1 - j) → WID 23 8 (-149) U U' := by
    intro U' B' G hd g1 g2 g3
    obtain ⟨p1, p2, p3⟩ := hd.parts
    have e2 : (2 : Nat) ^ 11 - 1 = 2047 := by decide
    have e3 : (2 : Nat) ^ 8 - 1 = 255 := by decide
    refine ⟨hd.lt, by rw [p1, hS], ?_, ?_, fun n1 n2 => ?_⟩
    · unfold nanB
      rw [p2, p3, hB, hF, e2, e3, ← g1]
      constructor
      · rintro ⟨k1, k2⟩
        exact ⟨k1, fun e => k2 ((g2 k1).mpr e)⟩
      · rintro ⟨k1, k2⟩
        exact ⟨k1, fun e => k2 ((g2 k1).mp e)⟩
    · unfold infB
      rw [p2, p3, hB, hF, e2, e3, ← g1]
      constructor
      · rintro ⟨k1, k2⟩
        exact ⟨k1, (g2 k1).mp k2⟩
      · rintro ⟨k1, k2⟩
        exact ⟨k1, (g2 k1).mpr k2⟩
    · have hne : B ≠ 255 := by
        intro e
        unfold nanB at n1
        unfold infB at n2
        rw [hB, hF, e3] at n1 n2
        by_cases c : F = 0
        · exact n2 ⟨e, c⟩
        · exact n1 ⟨e, c⟩
      obtain ⟨j, j1, j2⟩ := g3 hne
      refine ⟨j, ?_, ?_⟩
      · unfold rM
        rw [p2, p3, hB, hF]
        exact j1
      · unfold rE
        rw [p2, hB]
        exact j2
  have e0 : ∀ s, f170 (zi m) s = if ¬ zi (B : Int) = (zi 255) then if ¬ zi (B : Int) = zi 0 then f170_57 (zl ((S * 9223372036854775808 : Nat) : Int)) (zl (F : Int)) (zi B) s else if ¬ zl (F : Int) = (zl 0) then f170_57 (zl ((S * 9223372036854775808 : Nat) : Int)) (zl (F : Int)) (zi B) s else some (zl ((S * 9223372036854775808 : Nat) : Int), s) else some ((zl ((S * 9223372036854775808 : Nat) : Int) ||| (zl 9218868437227405312)) ||| (zshlL (zl (F : Int)) (zi 29)), s) := by
    intro s
    unfold f170
    rw [w_expo h, w_frac h, w_sign h, zI2L_zi (by omega) (by omega)]
  by_cases c1 : B = 255
  · have e1 : zl 9218868437227405312 = zshlL (zI2L (zi ((2047 : Nat) : Int))) (zi 52) := by decide
    refine ⟨_, fun s => ?_, mk _ 2047 (F * 536870912) ⟨rfl, by omega, by omega, by omega⟩ (by omega) (fun _ => by omega) (fun e => absurd c1 e)⟩
    rw [e0, if_neg (not_not_intro (zeq (by omega))), w_shl29 (by omega), e1, w_pack (by omega) (by omega) (by omega)]
  · by_cases c2 : B = 0
    · by_cases c3 : F = 0
      · refine ⟨_, fun s => ?_, mk (S * 9223372036854775808) 0 0 ⟨by omega, by omega, by omega, by omega⟩ (by omega) (fun e => by omega) (fun _ => ⟨925, ?_, ?_⟩)⟩
        · rw [e0, if_pos (zne (by omega)), if_neg (not_not_intro (zeq (by omega))), if_neg (not_not_intro (zleq (by omega)))]
        · rw [if_pos rfl, if_pos c2, c3, Nat.zero_mul]
        · rw [if_pos rfl, if_pos c2]
          omega
      · have e1 : max (B : Int) 1 + 1023 - 127 = ((897 : Nat) : Int) := by omega
        have e23 : 4503599627370496 ≤ F * 536870912 * 2 ^ 23 := by
          have e4 : (2 : Nat) ^ 23 = 8388608 := by decide
          rw [e4]
          omega
        obtain ⟨i, G', a1, a2, a3, a4, a5⟩ := f170_96_loop (S := S) (by omega) (x5 := zi B) 23 zF (F * 536870912) 897 (by unfold zF; omega) e23 (by omega) (by omega) (by omega) (by omega)
        refine ⟨_, fun s => ?_, mk _ (897 - i) (G' - 4503599627370496) ⟨rfl, by omega, by omega, by omega⟩ (by omega) (fun e => by omega) (fun _ => ⟨29 + i, ?_, ?_⟩)⟩
        · rw [e0, if_pos (zne (by omega)), if_neg (not_not_intro (zeq (by omega))), if_pos (zlne (by omega))]
          unfold f170_57
          rw [if_pos (zle (by omega)), w_shl29 (by omega), r264_max (by omega) (by omega) (by omega) (by omega), zi_add, zi_sub, e1]
          exact a1 s
        · rw [if_neg (by omega), if_pos c2, Nat.pow_add, ← Nat.mul_assoc]
          have e4 : (2 : Nat) ^ 29 = 536870912 := by decide
          rw [e4, ← a2]
          omega
        · rw [if_neg (by omega), if_pos c2]
          omega
    · have e1 : max (B : Int) 1 + 1023 - 127 = ((B + 896 : Nat) : Int) := by omega
      refine ⟨_, fun s => ?_, mk _ (B + 896) (F * 536870912) ⟨rfl, by omega, by omega, by omega⟩ (by omega) (fun e => by omega) (fun _ => ⟨29, ?_, ?_⟩)⟩
      · rw [e0, if_pos (zne (by omega)), if_pos (zne (by omega))]
        unfold f170_57
        rw [if_neg (znle (by omega)), w_shl29 (by omega), r264_max (by omega) (by omega) (by omega) (by omega), zi_add, zi_sub, e1, w_pack (by omega) (by omega) (by omega)]
      · rw [if_neg (by omega), if_neg c2]
        have e4 : (2 : Nat) ^ 29 = 536870912 := by decide
        rw [e4]
        omega
      · rw [if_neg (by omega), if_neg c2]
        omega
