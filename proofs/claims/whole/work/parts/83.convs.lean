/-! s of reals: both write alike; all conversions -/
theorem EDG.sv {N L H M w nr : Nat} {X : Int} (h : EDG N L H M w nr) (hw : SV w 1 (X - 2)) : SV N M X := by
  have h1 : SV (4 * w) 1 X := by
    intro a b hab
    have h2 := hw (a + 2) b (by omega)
    rw [Nat.pow_add] at h2
    have e4 : (2 : Nat) ^ 2 = 4 := rfl
    rw [e4] at h2
    rw [← h2, Nat.mul_comm 4 w, Nat.mul_assoc, Nat.mul_comm 4]
  have h2 := h1.mul M
  rw [← h.1] at h2
  exact h2
/-- the text of the shortest decimal -/
def SHO (M nr w : Nat) (t : List Int) : Prop := ∃ N L H T k R T' lo, EDG N L H M w nr ∧ topN N T ∧ SR N L H (M % 2 = 0) T k R ∧ TopR R (T - k + 1) T' ∧ LOW R (T - k + 1) T' lo ∧ t = shX R (T - k + 1) T' lo
theorem SHO.uniq {M nr w : Nat} {t t' : List Int} (h : SHO M nr w t) (g : SHO M nr w t') : t = t' := by
  obtain ⟨N, L, H, T, k, R, T', lo, h1, h2, h3, h4, h5, rfl⟩ := h
  obtain ⟨N2, L2, H2, T2, k2, R2, T2', lo2, g1, g2, g3, g4, g5, rfl⟩ := g
  obtain ⟨rfl, rfl, rfl⟩ := h1.uniq g1
  obtain rfl := topN_uniq h2 g2
  obtain ⟨rfl, rfl⟩ := h3.uniq g3
  obtain rfl := h4.uniq g4
  obtain rfl := h5.uniq g5
  rfl
/-- a real that is not 0 -/
def NZ (M nr : Nat) (X : Int) : Prop := 0 < M ∧ M < 9007199254740992 ∧ -1074 ≤ X ∧ X ≤ 971 ∧ (nr = 0 ∨ nr = 1 ∧ M ≤ 4503599627370496)
theorem SHO_ex {M nr w : Nat} {X : Int} (h : NZ M nr X) (hw : SV w 1 (X - 2)) : ∃ t, SHO M nr w t := by
  obtain ⟨h1, h2, h3, h4, h5⟩ := h
  have hP : PC s0 [] 0 0 := ⟨rfl, isL_nil, rfl, rfl⟩
  obtain ⟨s', N, L, H, T, k, R, T', lo, a1, a2, a3, a4, a5, a6, _⟩ := f125_eq h1 h2 h3 h4 h5 hw hP (by show 0 ≤ 10; omega)
  exact ⟨_, N, L, H, T, k, R, T', lo, a2, a3, a4, a5, a6, rfl⟩
theorem SHO.rng {N L H M w nr k R : Nat} {T T' lo X : Int} (h : NZ M nr X) (hw : SV w 1 (X - 2)) (h1 : EDG N L H M w nr) (h2 : topN N T) (h3 : SR N L H (M % 2 = 0) T k R) (h4 : TopR R (T - k + 1) T') (h5 : LOW R (T - k + 1) T' lo) : -331 ≤ T ∧ T ≤ 308 ∧ 2 ≤ k ∧ k ≤ 17 ∧ T ≤ T' ∧ T' ≤ T + 1 ∧ T' - 20 ≤ lo := by
  have hV := VB_of (h1.sv hw) h.2.1 (by have := h.2.2.1; omega) h.2.2.2.1
  have hr := top_rng hV h2
  obtain ⟨T2, t1, t2⟩ := h3.top h2 (by omega)
  obtain rfl := t1.uniq h4
  have := h3.1
  have := h3.2.1
  have := h5.2.2.2
  omega
theorem SHO.ok {M nr w : Nat} {X : Int} {t : List Int} (h : NZ M nr X) (hw : SV w 1 (X - 2)) (ht : SHO M nr w t) : asc t ∧ t.length ≤ 100 := by
  obtain ⟨N, L, H, T, k, R, T', lo, h1, h2, h3, h4, h5, rfl⟩ := ht
  have hr := SHO.rng h hw h1 h2 h3 h4 h5
  have := h5.2.2.1
  exact ⟨shX_asc _ _ _ _, shX_len (by omega) (by omega) (by omega) (by omega)⟩
theorem c_short {M nr w : Nat} {X : Int} {t : List Int} (h : NZ M nr X) (hw : SV w 1 (X - 2)) (ht : SHO M nr w t) {s : zS} {l : List Int} {g z : Int} (hP : PC s l g z) (hl : l.length ≤ 10) : ∃ s', f125 (zl M) (zi X) (zi nr) s = some s' ∧ PC s' (l ++ t) g z ∧ fr [13, 14, 16, 17, 18, 19] [] s s' := by
  obtain ⟨h1, h2, h3, h4, h5⟩ := h
  obtain ⟨s', N, L, H, T, k, R, T', lo, a1, a2, a3, a4, a5, a6, a7, a8⟩ := f125_eq h1 h2 h3 h4 h5 hw hP hl
  have : SHO M nr w (shX R (T - k + 1) T' lo) := ⟨N, L, H, T, k, R, T', lo, a2, a3, a4, a5, a6, rfl⟩
  rw [this.uniq ht] at a7
  exact ⟨s', a1, a7, a8⟩
theorem m_short {M nr w : Nat} {X : Int} {t : List Int} (h : NZ M nr X) (hw : SV w 1 (X - 2)) (ht : SHO M nr w t) {s : zS} (h6 : R6 s) {l : List Int} {w0 : Int} (hM : MD s l w0) (hl : l.length ≤ 10) : ∃ s', zb0 (f171 (zl M) (zi X) (zi nr) s) (fun s1 => f179_192 s1) = some s' ∧ MD s' (l ++ t) (w0 + t.length) ∧ R6 s' ∧ fr yA yB s s' := by
  have hn := h
  obtain ⟨h1, h2, h3, h4, h5⟩ := h
  obtain ⟨s1, N, L, H, T, k, R, T', a1, a2, a3, a4, a5, a6, a7, a8, a9, a10⟩ := f171_eq h1 h2 h3 h4 h5 hw h6
  obtain ⟨lo, hlo⟩ := LOW_ex a8
  have hr := SHO.rng hn hw a2 a3 a6 a8 hlo
  have hT : SHO M nr w (shX R (T - k + 1) T' lo) := ⟨N, L, H, T, k, R, T', lo, a2, a3, a6, a8, hlo, rfl⟩
  obtain ⟨s2, b1, b2, b3⟩ := f179_192_eq (s := s1) ⟨a7, by omega, by omega, by omega⟩ (by omega) hlo (by omega) (hM.mv a10 rfl rfl rfl rfl) hl
  rw [hT.uniq ht] at b2
  exact ⟨s2, by rw [a1, zb0_mk]; exact b1, b2, R6.fr b3 a9 rfl rfl rfl rfl rfl rfl, (a10.up rfl rfl).trans (b3.up rfl rfl)⟩
/-! the ways in -/
def nrU (fb eb U : Nat) : Nat := if rF fb U = 0 ∧ 1 < rB fb eb U then 1 else 0
theorem fin_nz {c : Int} {sm : Int} (hsm : sm = 0 ∨ sm = 1) (h1 : ¬ nanB (fbU sm) (ebU sm) (bitsU c sm)) (h2 : ¬ infB (fbU sm) (ebU sm) (bitsU c sm)) (h0 : rM (fbU sm) (ebU sm) (bitsU c sm) ≠ 0) : NZ (rM (fbU sm) (ebU sm) (bitsU c sm)) (nrU (fbU sm) (ebU sm) (bitsU c sm)) (loU sm + rE (fbU sm) (ebU sm) (bitsU c sm) - 1) := by
  obtain ⟨r1, r2, r3⟩ := fin_range hsm h1 h2
  refine ⟨by omega, r1, r2, r3, ?_⟩
  unfold nrU
  by_cases g : rF (fbU sm) (bitsU c sm) = 0 ∧ 1 < rB (fbU sm) (ebU sm) (bitsU c sm)
  · right
    refine ⟨by rw [if_pos g], ?_⟩
    unfold rM
    rw [if_neg (by omega), g.1]
    rcases hsm with rfl | rfl
    · show 0 + 2 ^ 52 ≤ _
      decide
    · show 0 + 2 ^ 23 ≤ _
      decide
  · left
    rw [if_neg g]
theorem lit_zero : lit 19 = lit 65 := by decide +kernel
def sg1 (S : Nat) : List Int := if S = 0 then [] else [45]
theorem sg1_len (S : Nat) : (sg1 S).length ≤ 1 := by
  unfold sg1
  split
  · exact Nat.zero_le _
  · exact Nat.le_refl _
/-- the text by s of a real: tail is what follows the sign -/
theorem f102_eq {c sm : Int} (hsm : sm = 0 ∨ sm = 1) {tail : List Int} (htl : tail.length ≤ 100)
    (ht : (infB (fbU sm) (ebU sm) (bitsU c sm) → tail = lit 18) ∧ (¬ infB (fbU sm) (ebU sm) (bitsU c sm) → rM (fbU sm) (ebU sm) (bitsU c sm) = 0 → tail = lit 19) ∧ (¬ infB (fbU sm) (ebU sm) (bitsU c sm) → rM (fbU sm) (ebU sm) (bitsU c sm) ≠ 0 → ∃ w, SV w 1 (loU sm + rE (fbU sm) (ebU sm) (bitsU c sm) - 1 - 2) ∧ SHO (rM (fbU sm) (ebU sm) (bitsU c sm)) (nrU (fbU sm) (ebU sm) (bitsU c sm)) w tail))
    {s : zS} (hP : PC s [] 0 (-1)) :
    (nanB (fbU sm) (ebU sm) (bitsU c sm) → ∃ s', f102 (zl c) (zi sm) s = some s' ∧ PC s' (lit 17) 0 (-1) ∧ fr wA [] s s') ∧
    (¬ nanB (fbU sm) (ebU sm) (bitsU c sm) → ∃ s', f102 (zl c) (zi sm) s = some s' ∧ PC s' (sg1 (rS (fbU sm) (ebU sm) (bitsU c sm)) ++ tail) 0 (-1) ∧ fr wA [] s s') := by
  obtain ⟨s1, a1, a2, a3⟩ := f100_eq (c := c) hsm s
  have hP1 := hP.mv a3 rfl rfl
  have n01 : ¬ zi 1 = zi 0 := zne (by omega)
  refine ⟨fun hn => ?_, fun hn => ?_⟩
  · obtain ⟨s2, b1, b2, b3⟩ := hP1.all (c := 17) (by decide) (by decide +kernel)
    refine ⟨s2, ?_, b2, (a3.up rfl rfl).trans (b3.up rfl rfl)⟩
    unfold f102
    rw [a1, zb0_mk, a2.2.1.1 hn, if_neg n01, b1]
    rfl
  · have h34 : ∀ (s2 : zS) (l : List Int), fr [13, 14] [] s1 s2 → PC s2 l 0 (-1) → l.length ≤ 1 → ∃ s', f102_34 s2 = some s' ∧ PC s' (l ++ tail) 0 (-1) ∧ fr wA [] s2 s' := by
      intro s2 l f2 hP2 hl
      have e4 : s2.1 15 4 = s1.1 15 4 := by rw [f2.f rfl (by decide)]
      have e5 : s2.2.1 15 5 = zl (rM (fbU sm) (ebU sm) (bitsU c sm) : Nat) := by rw [f2.l rfl]; exact a2.2.2.2.1
      have e6 : s2.1 15 6 = zi (loU sm + rE (fbU sm) (ebU sm) (bitsU c sm) - 1) := by rw [f2.f rfl (by decide)]; exact a2.2.2.2.2.1
      have e7 : s2.1 15 7 = zi (nrU (fbU sm) (ebU sm) (bitsU c sm) : Nat) := by
        rw [f2.f rfl (by decide)]
        unfold nrU
        by_cases q : rF (fbU sm) (bitsU c sm) = 0 ∧ 1 < rB (fbU sm) (ebU sm) (bitsU c sm)
        · rw [if_pos q]
          exact a2.2.2.2.2.2.1 q
        · rw [if_neg q]
          exact a2.2.2.2.2.2.2 q
      unfold f102_34
      rw [e4]
      by_cases hi : infB (fbU sm) (ebU sm) (bitsU c sm)
      · obtain ⟨s3, b1, b2, b3⟩ := hP2.all (c := 18) (by decide) (by have := lit_small (c := 18) (by decide); omega)
        refine ⟨s3, ?_, by rw [ht.1 hi]; exact b2, b3.up rfl rfl⟩
        rw [a2.2.2.1.1 hi, if_neg n01, b1]
        rfl
      · rw [a2.2.2.1.2 hi, if_pos rfl, e5]
        by_cases h0 : rM (fbU sm) (ebU sm) (bitsU c sm) = 0
        · obtain ⟨s3, b1, b2, b3⟩ := hP2.all (c := 19) (by decide) (by have := lit_small (c := 19) (by decide); omega)
          refine ⟨s3, ?_, by rw [ht.2.1 hi h0]; exact b2, b3.up rfl rfl⟩
          rw [h0, if_neg zl00, b1]
          rfl
        · have hz := fin_nz hsm hn hi h0
          obtain ⟨w, hw, hS⟩ := ht.2.2 hi h0
          obtain ⟨s3, b1, b2, b3⟩ := c_short hz hw hS hP2 (by omega)
          refine ⟨s3, ?_, b2, b3.up rfl rfl⟩
          have hlt := hz.2.1
          rw [if_pos (zlne (by omega)), e6, e7, b1]
          rfl
    unfold f102
    rw [a1, zb0_mk, a2.2.1.2 hn, if_pos rfl, a2.1]
    have hS : rS (fbU sm) (ebU sm) (bitsU c sm) = 0 ∨ rS (fbU sm) (ebU sm) (bitsU c sm) = 1 := by
      unfold rS
      omega
    unfold sg1
    rcases hS with hS | hS
    · rw [hS, if_pos (show zi ((0 : Nat) : Int) = zi 0 from rfl), if_pos rfl]
      obtain ⟨s3, b1, b2, b3⟩ := h34 s1 [] fr.refl hP1 (by show 0 ≤ 1; omega)
      exact ⟨s3, b1, b2, (a3.up rfl rfl).trans b3⟩
    · rw [hS, if_neg (show ¬ zi ((1 : Nat) : Int) = zi 0 from zne (by omega)), if_neg (by decide)]
      obtain ⟨s2, b1, b2, b3⟩ := hP1.add (by show 0 < 1600; omega) (b := 45) (by omega) (by omega)
      obtain ⟨s3, c1, c2, c3⟩ := h34 s2 _ b3 b2 (by show 1 ≤ 1; omega)
      refine ⟨s3, ?_, c2, ((a3.up rfl rfl).trans (b3.up rfl rfl)).trans c3⟩
      rw [b1, zb0_mk]
      exact c1
/-! the reference -/
theorem zi_or23 {F : Nat} (h : F < 8388608) : zi (F : Int) ||| zi 8388608 = zi ((F + 8388608 : Nat) : Int) := by
  have e : (8388608 : Int) = ((8388608 : Nat) : Int) := rfl
  rw [e, zi_nI, zi_nI, zi_nI]
  apply Int32.toBitVec_inj.mp
  rw [Int32.toBitVec_or]
  show BitVec.ofNat 32 F ||| BitVec.ofNat 32 8388608 = BitVec.ofNat 32 (F + 8388608)
  apply BitVec.eq_of_toNat_eq
  rw [BitVec.toNat_or, BitVec.toNat_ofNat, BitVec.toNat_ofNat, BitVec.toNat_ofNat, Nat.mod_eq_of_lt (show F < 2 ^ 32 by omega), Nat.mod_eq_of_lt (show F + 8388608 < 2 ^ 32 by omega)]
  have e2 := Nat.two_pow_add_eq_or_of_lt (i := 23) (b := F) (by omega) 1
  show F ||| 8388608 = F + 8388608
  rw [Nat.or_comm, Nat.add_comm]
  exact e2.symm
theorem f179_43_d {U : Nat} (hU : U < 18446744073709551616) (hi : ¬ infB 52 11 U) (h0 : rM 52 11 U ≠ 0) {x1 : Int64} (s : zS) : f179_43 x1 (zi 0) (zl U) s = zb0 (f171 (zl (rM 52 11 U : Nat)) (zi (-1074 + rE 52 11 U - 1)) (zi (nrU 52 11 U : Nat)) s) (fun s1 => f179_192 s1) := by
  have hd := d64 hU
  have hne : rB 52 11 U * 4503599627370496 + rF 52 U ≠ 0 := by
    intro q
    apply h0
    unfold rM
    rw [if_pos (by omega)]
    omega
  have hd' := hd
  unfold D64 at hd'
  unfold f179_43 f179_189
  rw [r169_eq hd, if_neg (show ¬ (rB 52 11 U = 2047 ∧ rF 52 U = 0) from hi), if_pos rfl, m_abs hd, if_pos (zlne (by omega)), if_pos rfl, m_frac hd, m_expo hd, r166_eq hd, r167_eq hd]
  unfold nrU
  by_cases c1 : rF 52 U = 0
  · rw [if_neg (by rw [c1]; exact zl00)]
    by_cases c2 : rB 52 11 U ≤ 1
    · rw [if_pos (zlle (by omega)), if_neg (show ¬ (rF 52 U = 0 ∧ 1 < rB 52 11 U) by omega)]
      rfl
    · rw [if_neg (zlnle (by omega)), if_pos (show rF 52 U = 0 ∧ 1 < rB 52 11 U by omega)]
      rfl
  · rw [if_pos (zlne (by omega)), if_neg (show ¬ (rF 52 U = 0 ∧ 1 < rB 52 11 U) by omega)]
    rfl
theorem f179_43_f {m : Int} (h1 : -2147483648 ≤ m) (h2 : m < 2147483648) {U : Nat} (hU : (U : Int) = m % 4294967296) {U' : Nat} (hU' : U' < 18446744073709551616) (hi : ¬ infB 52 11 U') (h0 : rM 52 11 U' ≠ 0) (s : zS) : f179_43 (zl m) (zi 1) (zl U') s = zb0 (f171 (zl (rM 23 8 U : Nat)) (zi (-149 + rE 23 8 U - 1)) (zi (nrU 23 8 U : Nat)) s) (fun s1 => f179_192 s1) := by
  have hd := d64 hU'
  have hne : rB 52 11 U' * 4503599627370496 + rF 52 U' ≠ 0 := by
    intro q
    apply h0
    unfold rM
    rw [if_pos (by omega)]
    omega
  have hd' := hd
  unfold D64 at hd'
  have hf := d32 h1 h2 hU
  have hf' := hf
  unfold D32 at hf'
  have eB : (zL2I (zshrL (zl m) (zi 23))) &&& zi 255 = zi (rB 23 8 U : Nat) := by
    have e23 : zshrL (zl m) (zi 23) = zl (m / 2 ^ 23) := zshrL_zl (k := 23) (by omega) (by omega) (by decide)
    have ep : (2 : Int) ^ 23 = 8388608 := by decide
    rw [e23, ep, zL2I_zl]
    have e := zi_and (a := m / 8388608) (k := 8) (by decide)
    have ep2 : (2 : Int) ^ 8 = 256 := by decide
    rw [ep2] at e
    refine Eq.trans e (congrArg zi ?_)
    omega
  have eF : (zL2I (zl m)) &&& zi 8388607 = zi (rF 23 U : Nat) := by rw [zL2I_zl]; exact w_frac hf
  have n10 : ¬ zi 1 = zi 0 := zne (by omega)
  have ep : (2 : Nat) ^ 23 = 8388608 := by decide
  have hM : f179_43 (zl m) (zi 1) (zl U') s = f179_116 (zi (rF 23 U : Nat)) (zi (rB 23 8 U : Nat)) (zl (rM 23 8 U : Nat)) s := by
    unfold f179_43
    rw [r169_eq hd, if_neg (show ¬ (rB 52 11 U' = 2047 ∧ rF 52 U' = 0) from hi), if_pos rfl, m_abs hd, if_pos (zlne (by omega)), if_neg n10, eB, eF]
    unfold rM
    by_cases c : rB 23 8 U = 0
    · rw [if_neg (by rw [c]; exact zi00), if_pos c, zI2L_zi (by omega) (by omega)]
    · rw [if_pos (zne (by omega)), if_neg c, zi_or23 (by omega), zI2L_zi (by omega) (by omega), ep]
  have eX : r264 (zi (rB 23 8 U : Nat)) (zi 1) s - zi 150 = zi (-149 + rE 23 8 U - 1) := by
    rw [r264_max (by omega) (by omega) (by omega) (by omega), zi_sub]
    refine congrArg zi ?_
    unfold rE
    split <;> omega
  rw [hM]
  unfold f179_116 f179_142
  rw [eX]
  unfold nrU
  by_cases c1 : rF 23 U = 0
  · rw [if_neg (by rw [c1]; exact zi00)]
    by_cases c2 : rB 23 8 U ≤ 1
    · rw [if_pos (zle (by omega)), if_neg (show ¬ (rF 23 U = 0 ∧ 1 < rB 23 8 U) by omega)]
      rfl
    · rw [if_neg (znle (by omega)), if_pos (show rF 23 U = 0 ∧ 1 < rB 23 8 U by omega)]
      rfl
  · rw [if_pos (zne (by omega)), if_neg (show ¬ (rF 23 U = 0 ∧ 1 < rB 23 8 U) by omega)]
    rfl
/-- both ways in -/
theorem f179_in {k c m : Int} {t : List Int} (ha : arel k c m t) (hk : k = 7 ∨ k = 8) : ∃ U' : Nat, WID (fbU (small k)) (ebU (small k)) (loU (small k)) (bitsU c (small k)) U' ∧ (∀ s, f179 (zl m) (zi (small k)) s = f179_13 (zl m) (zi (small k)) (zl U') s) ∧ (¬ infB 52 11 U' → rM 52 11 U' ≠ 0 → ∀ s, f179_43 (zl m) (zi (small k)) (zl U') s = zb0 (f171 (zl (rM (fbU (small k)) (ebU (small k)) (bitsU c (small k)) : Nat)) (zi (loU (small k) + rE (fbU (small k)) (ebU (small k)) (bitsU c (small k)) - 1)) (zi (nrU (fbU (small k)) (ebU (small k)) (bitsU c (small k)) : Nat)) s) (fun s1 => f179_192 s1)) := by
  obtain ⟨_, _, q3, q4, _, q6, _, _, _, _, q11, _⟩ := ha
  rcases hk with rfl | rfl
  · obtain rfl : c = m := q6 (by omega)
    have h := low_lt c 64
    have e : (2 : Nat) ^ 64 = 18446744073709551616 := by decide
    rw [e] at h
    refine ⟨low c 64, WID.same h, fun s => ?_, fun hi h0 s => f179_43_d h hi h0 s⟩
    have es : zi (small 7) = zi 0 := rfl
    unfold f179
    rw [es, if_pos rfl, ← low64 c]
  · have hm := q11 rfl
    have h1 : -2147483648 ≤ m ∧ m < 2147483648 := by
      rw [hm, Int.bmod_def]
      split <;> omega
    have hU : ((low c 32 : Nat) : Int) = m % 4294967296 := by
      unfold low
      have e : (2 : Int) ^ 32 = 4294967296 := by decide
      rw [e, hm, Int.bmod_def]
      split <;> omega
    obtain ⟨U', a1, a2⟩ := f170_eq h1.1 h1.2 hU
    refine ⟨U', a2, fun s => ?_, fun hi h0 s => f179_43_f h1.1 h1.2 hU a2.1 hi h0 s⟩
    have es : zi (small 8) = zi 1 := rfl
    unfold f179
    rw [es, if_neg (zne (by omega)), zL2I_zl, a1 s, zb1_mk]
theorem f179_all {k c m : Int} {t : List Int} (ha : arel k c m t) (hk : k = 7 ∨ k = 8) {tail : List Int} (htl : tail.length ≤ 100)
    (ht : (infB (fbU (small k)) (ebU (small k)) (bitsU c (small k)) → tail = lit 18) ∧ (¬ infB (fbU (small k)) (ebU (small k)) (bitsU c (small k)) → rM (fbU (small k)) (ebU (small k)) (bitsU c (small k)) = 0 → tail = lit 19) ∧ (¬ infB (fbU (small k)) (ebU (small k)) (bitsU c (small k)) → rM (fbU (small k)) (ebU (small k)) (bitsU c (small k)) ≠ 0 → ∃ w, SV w 1 (loU (small k) + rE (fbU (small k)) (ebU (small k)) (bitsU c (small k)) - 1 - 2) ∧ SHO (rM (fbU (small k)) (ebU (small k)) (bitsU c (small k))) (nrU (fbU (small k)) (ebU (small k)) (bitsU c (small k))) w tail))
    {s : zS} (h6 : R6 s) (hM : MD s [] 0) :
    (nanB (fbU (small k)) (ebU (small k)) (bitsU c (small k)) → ∃ s', f179 (zl m) (zi (small k)) s = some s' ∧ MD s' (lit 17) (lit 17).length ∧ R6 s' ∧ fr yA yB s s') ∧
    (¬ nanB (fbU (small k)) (ebU (small k)) (bitsU c (small k)) → ∃ s', f179 (zl m) (zi (small k)) s = some s' ∧ MD s' (sg1 (rS (fbU (small k)) (ebU (small k)) (bitsU c (small k))) ++ tail) (sg1 (rS (fbU (small k)) (ebU (small k)) (bitsU c (small k))) ++ tail).length ∧ R6 s' ∧ fr yA yB s s') := by
  obtain ⟨U', hW, e1, e2⟩ := f179_in ha hk
  have hd := d64 hW.1
  rw [e1 s]
  refine ⟨fun hn => ?_, fun hn => ?_⟩
  · have hn' := hW.2.2.1.mpr hn
    obtain ⟨s1, a1, a2, a3⟩ := hM.say (c := 63) (by decide) (by show 0 ≤ 11000; omega)
    refine ⟨s1, ?_, ?_, R6.fr a3 h6 rfl rfl rfl rfl rfl rfl, a3.up rfl rfl⟩
    · unfold f179_13
      rw [r168_eq hd, if_pos (nan_D.mp hn'), if_neg (show ¬ zi 1 = zi 0 from zne (by omega)), a1]
      rfl
    · rw [lit_nan]
      rw [List.nil_append, Int.zero_add] at a2
      exact a2
  · have hn' : ¬ nanB 52 11 U' := fun g => hn (hW.2.2.1.mp g)
    have h43 : ∀ (s1 : zS) (l : List Int), R6 s1 → MD s1 l l.length → l.length ≤ 1 → ∃ s', f179_43 (zl m) (zi (small k)) (zl U') s1 = some s' ∧ MD s' (l ++ tail) (l ++ tail).length ∧ R6 s' ∧ fr yA yB s1 s' := by
      intro s1 l h61 hM1 hl
      by_cases hi : infB (fbU (small k)) (ebU (small k)) (bitsU c (small k))
      · have hi' := hW.2.2.2.1.mpr hi
        obtain ⟨s2, a1, a2, a3⟩ := hM1.say (c := 64) (by decide) (by omega)
        refine ⟨s2, ?_, ?_, R6.fr a3 h61 rfl rfl rfl rfl rfl rfl, a3.up rfl rfl⟩
        · unfold f179_43
          rw [r169_eq hd, if_pos (inf_D.mp hi'), if_neg (show ¬ zi 1 = zi 0 from zne (by omega)), a1]
          rfl
        · rw [ht.1 hi, lit_inf, List.length_append, Int.natCast_add]
          exact a2
      · have hi' : ¬ infB 52 11 U' := fun g => hi (hW.2.2.2.1.mp g)
        obtain ⟨j, j1, j2⟩ := hW.2.2.2.2 hn hi
        by_cases h0 : rM (fbU (small k)) (ebU (small k)) (bitsU c (small k)) = 0
        · have h0' : rM 52 11 U' = 0 := by rw [j1, h0, Nat.zero_mul]
          obtain ⟨s2, a1, a2, a3⟩ := hM1.say (c := 65) (by decide) (by omega)
          refine ⟨s2, ?_, ?_, R6.fr a3 h61 rfl rfl rfl rfl rfl rfl, a3.up rfl rfl⟩
          · have ez : rB 52 11 U' * 4503599627370496 + rF 52 U' = 0 := by
              unfold rM at h0'
              have ep : (2 : Nat) ^ 52 = 4503599627370496 := by decide
              rw [ep] at h0'
              split at h0' <;> omega
            unfold f179_43
            rw [r169_eq hd, if_neg (show ¬ (rB 52 11 U' = 2047 ∧ rF 52 U' = 0) from hi'), if_pos rfl, m_abs hd, ez, if_neg zl00, a1]
            rfl
          · rw [ht.2.1 hi h0, lit_zero, List.length_append, Int.natCast_add]
            exact a2
        · have h0' : rM 52 11 U' ≠ 0 := by
            rw [j1]
            exact Nat.mul_ne_zero h0 (Nat.pos_iff_ne_zero.mp (Nat.pow_pos (by decide)))
          obtain ⟨w, hw, hS⟩ := ht.2.2 hi h0
          obtain ⟨s2, a1, a2, a3, a4⟩ := m_short (fin_nz (small01 k) hn hi h0) hw hS h61 hM1 (by omega)
          refine ⟨s2, ?_, ?_, a3, a4⟩
          · rw [e2 hi' h0' s1]
            exact a1
          · rw [List.length_append, Int.natCast_add]
            exact a2
    unfold f179_13
    rw [r168_eq hd, if_neg (show ¬ (rB 52 11 U' = 2047 ∧ ¬ rF 52 U' = 0) from hn'), if_pos rfl, ← hW.2.1]
    unfold sg1
    by_cases c : rS 52 11 U' = 0
    · rw [if_pos ((m_sign hd).mpr c), if_pos c]
      exact h43 s [] h6 hM (by show 0 ≤ 1; omega)
    · rw [if_neg (fun g => c ((m_sign hd).mp g)), if_neg c]
      obtain ⟨s2, b1, b2, b3⟩ := hM.add (by show 0 < 12000; omega) (b := 45) (by omega) (by omega)
      obtain ⟨s3, c1, c2, c3, c4⟩ := h43 s2 [45] (R6.fr b3 h6 rfl rfl rfl rfl rfl rfl) b2 (by show 1 ≤ 1; omega)
      refine ⟨s3, ?_, c2, c3, (b3.up rfl rfl).trans c4⟩
      rw [b1, zb0_mk]
      exact c1
theorem CV_sr {F : Int32} {W pr su k c m : Int} {a n : Nat} {t : List Int} (hv : vald F W pr 115 k c m t) (hk : k = 7 ∨ k = 8) : CV F W pr 115 su k c m a n t := by
  obtain ⟨ha, _, _, hf, hW1, hW2, hp1, hp2, _⟩ := hv
  have htail : ∃ tail : List Int, tail.length ≤ 100 ∧ asc tail ∧ (infB (fbU (small k)) (ebU (small k)) (bitsU c (small k)) → tail = lit 18) ∧ (¬ infB (fbU (small k)) (ebU (small k)) (bitsU c (small k)) → rM (fbU (small k)) (ebU (small k)) (bitsU c (small k)) = 0 → tail = lit 19) ∧ (¬ nanB (fbU (small k)) (ebU (small k)) (bitsU c (small k)) → ¬ infB (fbU (small k)) (ebU (small k)) (bitsU c (small k)) → rM (fbU (small k)) (ebU (small k)) (bitsU c (small k)) ≠ 0 → ∃ w, SV w 1 (loU (small k) + rE (fbU (small k)) (ebU (small k)) (bitsU c (small k)) - 1 - 2) ∧ SHO (rM (fbU (small k)) (ebU (small k)) (bitsU c (small k))) (nrU (fbU (small k)) (ebU (small k)) (bitsU c (small k))) w tail) := by
    by_cases hi : infB (fbU (small k)) (ebU (small k)) (bitsU c (small k))
    · exact ⟨lit 18, by decide +kernel, lit_asc (by decide), fun _ => rfl, fun g => absurd hi g, fun _ g => absurd hi g⟩
    · by_cases h0 : rM (fbU (small k)) (ebU (small k)) (bitsU c (small k)) = 0
      · exact ⟨lit 19, by decide +kernel, lit_asc (by decide), fun g => absurd g hi, fun _ _ => rfl, fun _ _ g => absurd h0 g⟩
      · by_cases hn : nanB (fbU (small k)) (ebU (small k)) (bitsU c (small k))
        · exact ⟨[], by show 0 ≤ 100; omega, fun v hv => (by cases hv), fun g => absurd g hi, fun _ g => absurd g h0, fun g => absurd hn g⟩
        · have hz := fin_nz (small01 k) hn hi h0
          obtain ⟨w, hw⟩ := SV_ex 1 (X := loU (small k) + rE (fbU (small k)) (ebU (small k)) (bitsU c (small k)) - 1 - 2) (by have := hz.2.2.1; omega)
          obtain ⟨tx, htx⟩ := SHO_ex hz hw
          obtain ⟨o1, o2⟩ := htx.ok hz hw
          exact ⟨tx, o2, o1, fun g => absurd g hi, fun _ g => absurd g h0, fun _ _ _ => ⟨w, hw, htx⟩⟩
  obtain ⟨tail, t1, t2, t3, t4, t5⟩ := htail
  have hentry : ∀ s, CH s F W pr 115 su k c a n t → f65 s = f65_119 (zl c) (zi (small k)) s := by
    intro s h
    unfold f65
    rw [h.entry.2.1, h.entry.2.2, if_neg (zne (by omega)), if_neg (zne (by omega))]
    rcases hk with rfl | rfl
    · rw [if_pos (.inl rfl), if_pos (show ¬ zi 7 = zi 8 from zne (by omega))]
      rfl
    · rw [if_pos (.inr rfl), if_neg (not_not_intro rfl)]
      rfl
  have mentry : ∀ s, f203 (zi k) (zl m) s = f203_120 (zl m) (zi (small k)) s := by
    intro s
    unfold f203
    rw [if_pos (zne (by omega)), if_pos (zne (by omega)), if_pos (zgt (by omega)), if_pos (zne (by omega))]
    rcases hk with rfl | rfl
    · rw [if_pos (show ¬ zi 7 = zi 8 from zne (by omega))]
      rfl
    · rw [if_neg (not_not_intro rfl)]
      rfl
  have h17 := lit_small (c := 17) (by decide)
  by_cases hn : nanB (fbU (small k)) (ebU (small k)) (bitsU c (small k))
  · refine CV_cut (wc := f65) (wm := fun s => f203 (zi k) (zl m) s) (L := lit 17) (lit_asc (by decide)) (by omega) hp1 hp2 (fun s h => sC h (by omega)) (fun s h hP => ?_) (fun s h => sM h (by omega)) (fun s h hM => ?_)
    · obtain ⟨s1, a1, a2, a3⟩ := hP.all (c := 17) (by decide) (by show 0 + _ ≤ 1600; omega)
      obtain ⟨s2, b1, b2, b3⟩ := f100_eq (c := c) (small01 k) s
      have hP1 := hP.mv b3 rfl rfl
      obtain ⟨s3, c1, c2, c3⟩ := hP1.all (c := 17) (by decide) (by show 0 + _ ≤ 1600; omega)
      refine ⟨s3, ?_, c2, (b3.up rfl rfl).trans (c3.up rfl rfl)⟩
      rw [hentry s h]
      unfold f65_119 f102
      rw [b1, zb0_mk, b2.2.1.1 hn, if_neg (show ¬ zi 1 = zi 0 from zne (by omega)), c1]
      rfl
    · obtain ⟨U', hW, e1, e2⟩ := f179_in ha hk
      have hd := d64 hW.1
      have hn' := hW.2.2.1.mpr hn
      obtain ⟨s1, a1, a2, a3⟩ := hM.say (c := 63) (by decide) (by show 0 ≤ 11000; omega)
      refine ⟨s1, ?_, ?_, R6.fr a3 h.2.2.2.2.2.2.2.2.2.2 rfl rfl rfl rfl rfl rfl, a3.up rfl rfl⟩
      · show f203 (zi k) (zl m) s = some s1
        rw [mentry s]
        unfold f203_120
        rw [e1 s]
        unfold f179_13
        rw [r168_eq hd, if_pos (nan_D.mp hn'), if_neg (show ¬ zi 1 = zi 0 from zne (by omega)), a1]
        rfl
      · rw [lit_nan]
        rw [List.nil_append, Int.zero_add] at a2
        exact a2
  · have hsl := sg1_len (rS (fbU (small k)) (ebU (small k)) (bitsU c (small k)))
    have hsa : asc (sg1 (rS (fbU (small k)) (ebU (small k)) (bitsU c (small k)))) := by
      unfold sg1
      split
      · intro v hv
        cases hv
      · intro v hv
        rcases List.mem_cons.mp hv with rfl | hv
        · omega
        · cases hv
    refine CV_cut (wc := f65) (wm := fun s => f203 (zi k) (zl m) s) (L := sg1 (rS (fbU (small k)) (ebU (small k)) (bitsU c (small k))) ++ tail) (hsa.append t2) (by rw [List.length_append]; omega) hp1 hp2 (fun s h => sC h (by omega)) (fun s h hP => ?_) (fun s h => sM h (by omega)) (fun s h hM => ?_)
    · obtain ⟨s1, a1, a2, a3⟩ := (f102_eq (c := c) (small01 k) t1 ⟨t3, t4, t5 hn⟩ hP).2 hn
      refine ⟨s1, ?_, a2, a3⟩
      rw [hentry s h]
      unfold f65_119
      rw [a1]
      rfl
    · obtain ⟨s1, a1, a2, a3, a4⟩ := (f179_all ha hk t1 ⟨t3, t4, t5 hn⟩ h.2.2.2.2.2.2.2.2.2.2 hM).2 hn
      refine ⟨s1, ?_, a2, a3, a4⟩
      show f203 (zi k) (zl m) s = some s1
      rw [mentry s]
      unfold f203_120
      rw [a1]
      rfl
