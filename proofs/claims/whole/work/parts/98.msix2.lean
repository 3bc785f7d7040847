/-! the reference's sixteens: rounding -/
def hfin (x1 x4 x6 : Int32) (x7 : Int64) (x10 x11 : Int32) (s : zS) : Option (Int64 × zS) := if (r264 ((zi 62) - x10) (x11 - x4) s) ≤ (zi 63) then if ¬ (r264 ((zi 62) - x10) (x11 - x4) s) = (zi 63) then f215_297 x1 x4 x6 x7 (r264 ((zi 62) - x10) (x11 - x4) s) (x7 &&& ((zshlL (zl 1) (r264 ((zi 62) - x10) (x11 - x4) s)) - (zl 1))) s else f215_297 x1 x4 x6 x7 (r264 ((zi 62) - x10) (x11 - x4) s) x7 s else some (zl 0, s)
theorem f215_230_loop {x1 x3 x6 x10 x11 : Int32} {s : zS} : ∀ (d n M : Nat) (x : Int), d < n → 1 ≤ M → M < 4611686018427387904 → 2305843009213693952 ≤ M * 2 ^ d → ∃ i, i ≤ d ∧ 2305843009213693952 ≤ M * 2 ^ i ∧ M * 2 ^ i < 4611686018427387904 ∧ f215_230 n x1 x3 (zi x) x6 (zl M) x10 x11 s = hfin x1 (zi (x - i)) x6 (zl ((M * 2 ^ i : Nat) : Int)) x10 x11 s := by
  have sh : ∀ M : Nat, M < 4611686018427387904 → zshrL (zl (M : Int)) (zi 61) = zl ((M / 2305843009213693952 : Nat) : Int) := fun M h => shrN (t := 61) (by omega) (by decide)
  have done : ∀ (n M : Nat) (x : Int), M < 4611686018427387904 → 2305843009213693952 ≤ M → f215_230 (n + 1) x1 x3 (zi x) x6 (zl M) x10 x11 s = hfin x1 (zi (x - (0 : Nat))) x6 (zl ((M * 2 ^ 0 : Nat) : Int)) x10 x11 s := by
    intro n M x h1 h2
    show b215_230 (f215_230 n) _ _ _ _ _ _ _ _ = _
    unfold b215_230
    have e : x - ((0 : Nat) : Int) = x := by omega
    rw [sh M h1, if_pos (zlne (by omega)), Nat.pow_zero, Nat.mul_one, e]
    rfl
  intro d
  induction d with
  | zero =>
    intro n M x hn h1 h2 h3
    obtain ⟨n, rfl⟩ : ∃ k, n = k + 1 := ⟨n - 1, by omega⟩
    rw [Nat.pow_zero, Nat.mul_one] at h3
    exact ⟨0, Nat.le_refl _, by rw [Nat.pow_zero, Nat.mul_one]; exact h3, by rw [Nat.pow_zero, Nat.mul_one]; exact h2, done n M x h2 h3⟩
  | succ d ih =>
    intro n M x hn h1 h2 h3
    obtain ⟨n, rfl⟩ : ∃ k, n = k + 1 := ⟨n - 1, by omega⟩
    by_cases c : 2305843009213693952 ≤ M
    · exact ⟨0, Nat.zero_le _, by rw [Nat.pow_zero, Nat.mul_one]; exact c, by rw [Nat.pow_zero, Nat.mul_one]; exact h2, done n M x h2 c⟩
    · have e3 : M * 2 ^ (d + 1) = M * 2 * 2 ^ d := by
        rw [Nat.pow_succ]
        ac_rfl
      rw [e3] at h3
      obtain ⟨i, i1, i2, i3, i4⟩ := ih n (M * 2) (x - 1) (by omega) (by omega) (by omega) h3
      have ei : M * 2 ^ (i + 1) = M * 2 * 2 ^ i := by
        rw [Nat.pow_succ]
        ac_rfl
      refine ⟨i + 1, by omega, by rw [ei]; exact i2, by rw [ei]; exact i3, ?_⟩
      have e1 : zi x + zi (-1) = zi (x - 1) := by rw [zi_add]; rfl
      have e2 : zshlL (zl (M : Int)) (zi 1) = zl ((M * 2 : Nat) : Int) := shlN M (t := 1) (by decide)
      have e4 : x - ((i + 1 : Nat) : Int) = x - 1 - (i : Int) := by omega
      rw [ei, e4, ← i4]
      show b215_230 (f215_230 n) _ _ _ _ _ _ _ _ = _
      unfold b215_230
      rw [sh M h2, if_neg (not_not_intro (zleq (by omega))), e1, e2]
theorem f215_323_eq {K low half R : Nat} (hK : K < 4611686018427387904) (hl : low < 9223372036854775808) (hh : half < 9223372036854775808) (x1 x4 x12 : Int32) (s : zS) : f215_323 x1 x4 (zi (if R = 0 then 0 else 1)) x12 (zl low) (zl half) (zl K) s = f215_361 x1 x4 x12 (zl ((if half < low ∨ (low = half ∧ (R ≠ 0 ∨ K % 2 = 1)) then K + 1 else K : Nat) : Int)) s := by
  unfold f215_323
  have e1 : zl (K : Int) + zl 1 = zl ((K + 1 : Nat) : Int) := zl_add _ _
  have n10 : ¬ zi 1 = zi 0 := zne (by omega)
  rw [e1, land1]
  by_cases c1 : half < low
  · rw [if_pos (zlgt (by omega)), if_pos (show half < low ∨ (low = half ∧ (R ≠ 0 ∨ K % 2 = 1)) from .inl c1)]
  · rw [if_neg (zlngt (by omega))]
    by_cases c2 : low = half
    · rw [if_neg (not_not_intro (zleq (by omega)))]
      by_cases c3 : R = 0
      · rw [if_pos c3, if_neg (not_not_intro rfl)]
        by_cases c4 : K % 2 = 1
        · rw [if_neg (not_not_intro (zleq (by omega))), if_pos (show half < low ∨ (low = half ∧ (R ≠ 0 ∨ K % 2 = 1)) from .inr ⟨c2, .inr c4⟩)]
        · rw [if_pos (zlne (by omega)), if_neg (show ¬ (half < low ∨ (low = half ∧ (R ≠ 0 ∨ K % 2 = 1))) by omega)]
      · rw [if_neg c3, if_pos n10, if_pos (show half < low ∨ (low = half ∧ (R ≠ 0 ∨ K % 2 = 1)) from .inr ⟨c2, .inl c3⟩)]
    · rw [if_pos (zlne (by omega)), if_neg (show ¬ (half < low ∨ (low = half ∧ (R ≠ 0 ∨ K % 2 = 1))) by omega)]
theorem near_small {n Q : Nat} (h : 2 * n < Q) : near n Q = 0 := by
  unfold near
  have hlt : n < Q := by omega
  rw [Nat.mod_eq_of_lt hlt, Nat.div_eq_of_lt hlt, if_pos h]
theorem hfin_eq {sm : Int} (hs : sm = 0 ∨ sm = 1) {M i j R Z : Nat} {X : Int} (hR : R < 16 ^ j) (hj : j = 0 ∨ 72057594037927936 ≤ M) (h61 : 2305843009213693952 ≤ M * 2 ^ i) (h62 : M * 2 ^ i < 4611686018427387904) (hi : i ≤ 61) (hX1 : -200000 ≤ X) (hX2 : X ≤ 200000) (hZ : 400000 ≤ Z) (s : zS) :
    ∃ v : Nat, hfin (zi sm) (zi (X - i)) (zi (if R = 0 then 0 else 1)) (zl ((M * 2 ^ i : Nat) : Int)) (zi (pU sm : Nat)) (zi (loU sm)) s = some (zl v, s) ∧ RN Z ((M * 16 ^ j + R) * 2 ^ (X + Z).toNat) (16 ^ j) sm v := by
  have hp : 24 ≤ pU sm ∧ pU sm ≤ 53 := by rcases hs with rfl | rfl <;> decide
  have hlo : loU sm ≤ -149 ∧ -1074 ≤ loU sm := by rcases hs with rfl | rfl <;> decide
  have hhi : 104 ≤ hiU sm := by rcases hs with rfl | rfl <;> decide
  have hmm : 0 < 16 ^ j := Nat.pow_pos (by decide)
  obtain ⟨x', hx'⟩ : ∃ x', x' = X - (i : Int) := ⟨_, rfl⟩
  obtain ⟨cut, hcut⟩ : ∃ cut, cut = max (62 - (pU sm : Int)) (loU sm - x') := ⟨_, rfl⟩
  have e62 : (4611686018427387904 : Nat) = 2 ^ (62 - i) * 2 ^ i := by
    rw [← Nat.pow_add]
    have : 62 - i + i = 62 := by omega
    rw [this]
  have e61 : (2305843009213693952 : Nat) = 2 ^ (62 - i - 1) * 2 ^ i := by
    rw [← Nat.pow_add]
    have : 62 - i - 1 + i = 61 := by omega
    rw [this]
  have hML : M < 2 ^ (62 - i) := by
    have h := h62
    rw [e62] at h
    exact Nat.lt_of_mul_lt_mul_right h
  have hML2 : 2 ^ (62 - i - 1) ≤ M := by
    have h := h61
    rw [e61] at h
    exact Nat.le_of_mul_le_mul_right h (p2_pos _)
  have hU : RNU Z ((M * 16 ^ j + R) * 2 ^ (X + Z).toNat) (16 ^ j) (pU sm) (loU sm) (x' + cut) := RNU_of (L := 62 - i) (by omega) hR hML (by omega) hML2 (by omega) (by omega) (by omega) (by omega) (by omega)
  have ecut : r264 (zi 62 - zi (pU sm : Nat)) (zi (loU sm) - zi x') s = zi cut := by
    rw [zi_sub, zi_sub, r264_max (by omega) (by omega) (by omega) (by omega), hcut]
  rw [← hx']
  unfold hfin
  rw [ecut]
  by_cases c63 : cut ≤ 63
  · obtain ⟨c, hc⟩ : ∃ c : Nat, cut = c := ⟨cut.toNat, by omega⟩
    have hc9 : 9 ≤ c := by omega
    have eX : (X + Z).toNat = i + (x' + Z).toNat := by omega
    have eU : (x' + cut + Z).toNat = c + (x' + Z).toNat := by omega
    have ehalf : 2 * 2 ^ (c - 1) = 2 ^ c := by
      rw [Nat.mul_comm, ← Nat.pow_succ]
      exact congrArg (2 ^ ·) (by omega)
    have hdm : M * 2 ^ i / 2 ^ c * (2 * 2 ^ (c - 1)) + M * 2 ^ i % 2 ^ c = M * 2 ^ i := by
      rw [ehalf, Nat.mul_comm]
      exact Nat.div_add_mod _ _
    have hnear : near ((M * 16 ^ j + R) * 2 ^ (X + Z).toNat) (16 ^ j * 2 ^ (x' + cut + Z).toNat) = if 2 ^ (c - 1) < M * 2 ^ i % 2 ^ c ∨ (M * 2 ^ i % 2 ^ c = 2 ^ (c - 1) ∧ (R ≠ 0 ∨ M * 2 ^ i / 2 ^ c % 2 = 1)) then M * 2 ^ i / 2 ^ c + 1 else M * 2 ^ i / 2 ^ c := by
      have en : (M * 16 ^ j + R) * 2 ^ (X + Z).toNat = ((M * 2 ^ i / 2 ^ c * (2 * 2 ^ (c - 1)) + M * 2 ^ i % 2 ^ c) * 16 ^ j + R * 2 ^ i) * 2 ^ (x' + Z).toNat := by
        rw [hdm, eX, Nat.pow_add, ← Nat.mul_assoc, Nat.add_mul]
        congr 2
        ac_rfl
      have eQ : 16 ^ j * 2 ^ (x' + cut + Z).toNat = 2 * 2 ^ (c - 1) * 16 ^ j * 2 ^ (x' + Z).toNat := by
        rw [ehalf, eU, Nat.pow_add]
        ac_rfl
      have hRR : R * 2 ^ i = 0 ∨ ∃ g, R * 2 ^ i < g * 16 ^ j ∧ g ∣ M * 2 ^ i % 2 ^ c ∧ g ∣ 2 ^ (c - 1) := by
        rcases hj with h | h
        · left
          rw [h, Nat.pow_zero] at hR
          have : R = 0 := by omega
          rw [this, Nat.zero_mul]
        · right
          have hi5 : i ≤ 5 := by
            rcases Nat.lt_or_ge i 6 with q | q
            · omega
            · exfalso
              have q1 : 2 ^ 6 ≤ 2 ^ i := Nat.pow_le_pow_right (by decide) q
              have q2 : 72057594037927936 * 2 ^ 6 ≤ M * 2 ^ i := Nat.mul_le_mul h q1
              have q3 : 72057594037927936 * 2 ^ 6 = 4611686018427387904 := by decide
              omega
          refine ⟨2 ^ i, ?_, ?_, Nat.pow_dvd_pow 2 (by omega)⟩
          · rw [Nat.mul_comm]
            exact Nat.mul_lt_mul_of_pos_left hR (p2_pos _)
          · exact (Nat.dvd_mod_iff (Nat.pow_dvd_pow 2 (show i ≤ c by omega))).mpr (Nat.dvd_mul_left _ _)
      rw [en, eQ, near_scale (p2_pos _), near_low hmm (by rw [ehalf]; exact Nat.mod_lt _ (p2_pos _)) hRR]
      have hR0 : R * 2 ^ i ≠ 0 ↔ R ≠ 0 := by
        constructor
        · intro q w
          exact q (by rw [w, Nat.zero_mul])
        · intro q w
          rcases Nat.mul_eq_zero.mp w with w | w
          · exact q w
          · exact absurd w (Nat.ne_of_gt (p2_pos _))
      simp only [hR0]
    have hQ : 0 < 16 ^ j * 2 ^ (x' + cut + Z).toNat := Nat.mul_pos hmm (p2_pos _)
    have hle := near_le hQ hU.2.1
    have hge : x' + cut = loU sm ∨ 2 ^ (pU sm - 1) ≤ near ((M * 16 ^ j + R) * 2 ^ (X + Z).toNat) (16 ^ j * 2 ^ (x' + cut + Z).toNat) := hU.2.2.imp id (near_ge hQ)
    have hpk := f212_eq (u := x' + cut) hs hle hU.1 (by omega) hge s
    refine ⟨_, ?_, x' + cut, hU, rfl⟩
    rw [hnear] at hpk ⊢
    have hKm : M * 2 ^ i / 2 ^ c < 4611686018427387904 := Nat.lt_of_le_of_lt (Nat.div_le_self _ _) h62
    have hlm : M * 2 ^ i % 2 ^ c ≤ M * 2 ^ i := Nat.mod_le _ _
    have hhm : 2 ^ (c - 1) ≤ 2 ^ 62 := Nat.pow_le_pow_right (by decide) (by omega)
    have h62' : 2 ^ 62 = 4611686018427387904 := by decide
    have e361 : ∀ v : Nat, f215_361 (zi sm) (zi x') (zi (c : Int)) (zl v) s = zb1 (f212 (zl v) (zi (x' + cut)) (zi sm) s) (fun v2 s1 => some (v2, s1)) := by
      intro v
      unfold f215_361
      rw [zi_add, hc]
    have ec1 : zi (c : Int) - zi 1 = zi ((c - 1 : Nat) : Int) := by
      rw [zi_sub]
      exact congrArg zi (by omega)
    have ehf : zshlL (zl 1) (zi ((c - 1 : Nat) : Int)) = zl ((2 ^ (c - 1) : Nat) : Int) := by
      have := shlN 1 (t := c - 1) (by omega)
      rw [Nat.one_mul] at this
      exact this
    have h323 := f215_323_eq (R := R) hKm (show M * 2 ^ i % 2 ^ c < 9223372036854775808 by omega) (show 2 ^ (c - 1) < 9223372036854775808 by omega) (zi sm) (zi x') (zi (c : Int)) s
    rw [hc, if_pos (zle (by omega))]
    by_cases c2 : c = 63
    · have z0 : M * 2 ^ i / 2 ^ c = 0 := Nat.div_eq_of_lt (by rw [c2]; exact Nat.lt_trans h62 (by decide))
      have z1 : M * 2 ^ i % 2 ^ c = M * 2 ^ i := Nat.mod_eq_of_lt (by rw [c2]; exact Nat.lt_trans h62 (by decide))
      rw [if_neg (not_not_intro (zeq (by omega)))]
      unfold f215_297
      rw [if_neg (not_not_intro (zeq (by omega))), ec1, ehf]
      rw [z0, z1] at h323 hpk
      rw [z0, z1]
      have h323' : f215_323 (zi sm) (zi x') (zi (if R = 0 then 0 else 1)) (zi (c : Int)) (zl ((M * 2 ^ i : Nat) : Int)) (zl ((2 ^ (c - 1) : Nat) : Int)) (zl 0) s = _ := h323
      rw [h323', e361, hpk, zb1_mk, hc]
    · rw [if_pos (zne (by omega))]
      unfold f215_297
      rw [if_pos (zne (by omega)), ec1, ehf, mask1 (by omega) (by omega), shrN (by omega) (by omega), h323, e361, hpk, zb1_mk, hc]
  · have hu : x' + cut = loU sm := by omega
    rw [hu] at hU
    refine ⟨0, ?_, loU sm, hU, ?_⟩
    · rw [if_neg (znle (by omega))]
      rfl
    · have e0 : (loU sm - loU sm).toNat = 0 := by omega
      rw [if_neg (by omega), e0, Nat.zero_mul, Nat.zero_add, near_small]
      have hb : M * 16 ^ j + R < 2 ^ (62 - i) * 16 ^ j := by
        have : (M + 1) * 16 ^ j ≤ 2 ^ (62 - i) * 16 ^ j := Nat.mul_le_mul_right _ hML
        rw [Nat.add_mul, Nat.one_mul] at this
        omega
      have h1 : (M * 16 ^ j + R) * 2 ^ (X + Z).toNat < 2 ^ (62 - i) * 16 ^ j * 2 ^ (X + Z).toNat := Nat.mul_lt_mul_of_pos_right hb (p2_pos _)
      have e1 : 2 ^ (62 - i) * 16 ^ j * 2 ^ (X + Z).toNat = 16 ^ j * 2 ^ (62 - i + (X + Z).toNat) := by
        rw [Nat.pow_add]
        ac_rfl
      have e2 : 2 * (16 ^ j * 2 ^ (62 - i + (X + Z).toNat)) = 16 ^ j * 2 ^ (62 - i + (X + Z).toNat + 1) := by
        rw [Nat.pow_succ]
        ac_rfl
      have h3 : 16 ^ j * 2 ^ (62 - i + (X + Z).toNat + 1) ≤ 16 ^ j * 2 ^ (loU sm + Z).toNat := Nat.mul_le_mul_left _ (Nat.pow_le_pow_right (by decide) (by omega))
      rw [e1] at h1
      generalize 16 ^ j * 2 ^ (62 - i + (X + Z).toNat) = y at *
      omega
theorem f215_213_to {sm : Int} (hs : sm = 0 ∨ sm = 1) (x3 x4 x6 : Int32) (x7 : Int64) (x9 : Int32) (s : zS) : (if zi sm = zi 0 then f215_213 (zi sm) x3 x4 x6 x7 x9 (zi 53) s else f215_213 (zi sm) x3 x4 x6 x7 x9 (zi 24) s) = f215_230 zF (zi sm) x3 x4 x6 x7 (zi (pU sm : Nat)) (zi (loU sm)) s := by
  unfold f215_213
  rcases hs with rfl | rfl
  · rw [if_pos rfl, if_pos rfl]
    rfl
  · have n : ¬ zi 1 = zi 0 := zne (by omega)
    rw [if_neg n, if_neg n]
    rfl
theorem f215_eq {s : zS} {l : List Int} {p e K Z : Nat} {sm yy ex : Int} {q' : Nat} (hs : sm = 0 ∨ sm = 1) (hM : MT s l p e) (hp : p + 2 ≤ e) (hS : STP 16 l e (p + 2) K) (hX : EXPO l e 1 (p + 2 + K) yy ex q') (h40 : s.1 24 40 = zi 1) (hZ : 400000 ≤ Z) :
    ∃ (v : Nat) (s' : zS), f215 (zi sm) s = some (zl v, s') ∧ fr [] [40] s s' ∧ ((OKN l e (p + 2) K yy q' ∧ s'.1 24 40 = zi 1 ∧ RN Z (NH Z (VV 16 l (p + 2) K) (ex - 4 * NB l (p + 2) K)) 1 sm v) ∨ (¬ OKN l e (p + 2) K yy q' ∧ s'.1 24 40 = zi 0)) := by
  have hK := hS.le hp
  have g5 := hM.2.2.2.2.1
  have g6 := hM.2.2.2.2.2
  have hnd := ND_le l (p + 2) K
  have hnb := NB_le l (p + 2) K
  obtain ⟨r1, r2, r3⟩ := hX.rng hK
  have hr := ch_rng hM.2.1 e (p + 2 + K)
  obtain ⟨M, j, R, m1, m2, m3⟩ := f215_21_loop (p := p) hS hp (x1 := zi sm) K 0 zF s 0 0 0 (by omega) (by unfold zF; omega) hM ⟨rfl, by decide, by decide, .inl rfl⟩ (by omega)
  have e15 : f215 (zi sm) s = f215_139 (zi sm) (zi ((p + 2 + K : Nat) : Int)) (zi (ND l (p + 2) K : Nat)) (zi (4 * (j : Int) - 4 * NB l (p + 2) K)) (zi (if R = 0 then 0 else 1)) (zl M) s := by
    rw [← m1]
    unfold f215
    have e2 : s.1 24 38 + zi 2 = zi ((p + 2 + 0 : Nat) : Int) := by
      rw [hM.2.2.1]
      exact zi_add _ _
    rw [e2]
    rfl
  rw [e15]
  unfold f215_139
  have fr40 : fr [] [40] s (setI s 24 40 (zi 0)) := fr.refl.sI (.inr ⟨rfl, rfl⟩)
  by_cases c0 : ND l (p + 2) K = 0
  · rw [c0, if_pos zi0e]
    exact ⟨0, _, rfl, fr40, .inr ⟨fun q => by have := q.1; omega, rfl⟩⟩
  · rw [if_neg (zne (by omega)), f205_eq hM (by omega), zb1_mk, f205_eq hM (by omega), zb1_mk]
    rcases hX with ⟨x1, J, x2, x3, x4, x5⟩ | ⟨x1, x2, x3, x4⟩
    · have hin : p + 2 + K < e := ch_in (l := l) (by unfold isE at x1; omega)
      obtain ⟨J', s1, a1, a2, a3, a4⟩ := f209_eq (q := p + 2 + K + 1) (by omega) hM
      obtain rfl := x2.uniq a2
      have fin : ∃ (v : Nat) (s' : zS), f215_170 (zi sm) (zi ((p + 2 + K : Nat) : Int)) (zi (ND l (p + 2) K : Nat)) (zi (4 * (j : Int) - 4 * NB l (p + 2) K)) (zi (if R = 0 then 0 else 1)) (zl M) s = some (zl v, s') ∧ fr [] [40] s s' ∧ ((OKN l e (p + 2) K yy q' ∧ s'.1 24 40 = zi 1 ∧ RN Z (NH Z (VV 16 l (p + 2) K) (ex - 4 * NB l (p + 2) K)) 1 sm v) ∨ (¬ OKN l e (p + 2) K yy q' ∧ s'.1 24 40 = zi 0)) := by
        unfold f215_170
        have e1 : zi ((p + 2 + K : Nat) : Int) + zi 1 = zi ((p + 2 + K + 1 : Nat) : Int) := zi_add _ _
        rw [e1, a1, zb1_mk, ← x4]
        by_cases w : J ≠ 0 ∧ sg l e (p + 2 + K + 1) + J = e
        · rw [if_pos w, h40] at a3
          have hok : OKN l e (p + 2) K yy q' := ⟨by omega, by rw [x5, if_neg w.1], by omega⟩
          rw [a3, if_neg (zne (by omega))]
          obtain ⟨d1, d2, d3, d4⟩ := m2
          by_cases cM : M = 0
          · subst cM
            have hj0 : j = 0 := by omega
            subst hj0
            rw [Nat.pow_zero] at d1 d2
            have hD : VV 16 l (p + 2) K = 0 := by omega
            rw [if_neg zl00]
            refine ⟨0, s1, rfl, a4, .inl ⟨hok, a3, ?_⟩⟩
            rw [hD]
            exact RN_zero hs (by omega) (by
              unfold NH
              rw [Nat.zero_mul, Nat.zero_mul, Nat.one_mul]
              exact p2_pos _)
          · rw [if_pos (zlne (by omega)), f215_213_to hs, zi_add]
            obtain ⟨i, i1, i2, i3, i4⟩ := f215_230_loop (x1 := zi sm) (x3 := zi (ND l (p + 2) K : Nat)) (x6 := zi (if R = 0 then 0 else 1)) (x10 := zi (pU sm : Nat)) (x11 := zi (loU sm)) (s := s1) 61 zF M (4 * (j : Int) - 4 * NB l (p + 2) K + ex) (by unfold zF; omega) (by omega) (by omega) (by
              have : (2 : Nat) ^ 61 = 2305843009213693952 := by decide
              omega)
            obtain ⟨v, v1, v2⟩ := hfin_eq hs (X := 4 * (j : Int) - 4 * NB l (p + 2) K + ex) (Z := Z) d2 d4 i2 i3 i1 (by omega) (by omega) hZ s1
            refine ⟨v, s1, i4.trans v1, a4, .inl ⟨hok, a3, ?_⟩⟩
            have e6 : (M * 16 ^ j + R) * 2 ^ (4 * (j : Int) - 4 * NB l (p + 2) K + ex + Z).toNat = NH Z (VV 16 l (p + 2) K) (ex - 4 * NB l (p + 2) K) * 16 ^ j := by
              unfold NH
              have e7 : (4 * (j : Int) - 4 * NB l (p + 2) K + ex + Z).toNat = (ex - 4 * (NB l (p + 2) K : Int) + Z).toNat + 4 * j := by omega
              have e8 : 16 ^ j = 2 ^ (4 * j) := by
                rw [Nat.pow_mul]
              rw [← d1, e7, Nat.pow_add, ← e8, Nat.mul_assoc]
            rw [e6] at v2
            have v3 : RN Z (NH Z (VV 16 l (p + 2) K) (ex - 4 * NB l (p + 2) K) * 16 ^ j) (1 * 16 ^ j) sm v := by
              rw [Nat.one_mul]
              exact v2
            exact RN.scale (Nat.pow_pos (by decide)) v3
        · rw [if_neg w] at a3
          rw [a3, if_pos rfl]
          refine ⟨0, s1, rfl, a4, .inr ⟨fun g => w ⟨fun q => ?_, by have := g.2.2; omega⟩, a3⟩⟩
          have := g.2.1
          rw [x5, if_pos q] at this
          omega
      by_cases c1 : ch l e (p + 2 + K) = 112
      · rw [if_pos (zeq c1)]
        exact fin
      · have c2 : ch l e (p + 2 + K) = 80 := by unfold isE at x1; omega
        rw [if_neg (zne (by omega)), if_pos (zeq c2)]
        exact fin
    · have n1 : ch l e (p + 2 + K) ≠ 112 := fun q => x1 (.inr ⟨rfl, .inl q⟩)
      have n2 : ch l e (p + 2 + K) ≠ 80 := fun q => x1 (.inr ⟨rfl, .inr q⟩)
      rw [if_neg (zne (by omega)), if_neg (zne (by omega))]
      exact ⟨0, _, rfl, fr40, .inr ⟨fun q => by have := q.2.1; omega, rfl⟩⟩
