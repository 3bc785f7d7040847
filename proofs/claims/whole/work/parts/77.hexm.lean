/-! reals in sixteens: how the reference writes them; CV_a -/
theorem nib_low {M i : Nat} (h : 1 ≤ i) : nib (M % 4503599627370496) i = nib M i := by
  unfold nib
  by_cases c : i ≤ 13
  · rw [if_pos c, if_pos c]
    have e : 2 ^ (52 - 4 * i) * 2 ^ (4 * i) = 4503599627370496 := by
      rw [← Nat.pow_add]
      have e2 : 52 - 4 * i + 4 * i = 52 := by omega
      rw [e2] <;> decide
    have hd : (16 : Nat) ∣ 2 ^ (4 * i) := by
      refine ⟨2 ^ (4 * i - 4), ?_⟩
      have e3 : (16 : Nat) = 2 ^ 4 := by decide
      rw [e3, ← Nat.pow_add]
      exact congrArg (2 ^ ·) (by omega)
    rw [← e, Nat.mod_mul_right_div_self, Nat.mod_mod_of_dvd _ hd]
  · rw [if_neg c, if_neg c]
theorem ndg_low {M : Nat} : ∀ i, ndg (M % 4503599627370496) i = ndg M i
  | 0 => rfl
  | i + 1 => by
    show (if i = 0 then 1 else if nib (M % 4503599627370496) (i + 1) = 0 then ndg (M % 4503599627370496) i else i + 1) = (if i = 0 then 1 else if nib M (i + 1) = 0 then ndg M i else i + 1)
    rw [nib_low (by omega), ndg_low i]
theorem hq_low {M : Nat} : ∀ d i, 1 ≤ i → hq (M % 4503599627370496) i d = hq M i d
  | 0, _, _ => rfl
  | d + 1, i, h => by
    show dch (nib (M % 4503599627370496) i) :: hq (M % 4503599627370496) (i + 1) d = dch (nib M i) :: hq M (i + 1) d
    rw [nib_low h, hq_low d (i + 1) (by omega)]
/-! the exponent -/
def d4 (y : Nat) : List Int := (if y ≤ 999 then [] else [(48 + (y / 1000 : Nat) : Int)]) ++ ((if y ≤ 99 then [] else [(48 + (y / 100 % 10 : Nat) : Int)]) ++ ((if y ≤ 9 then [] else [(48 + (y / 10 % 10 : Nat) : Int)]) ++ [(48 + (y % 10 : Nat) : Int)]))
theorem d4_eq {y : Nat} (hy : y ≤ 9999) : ds y (kk y 1) = d4 y := by
  have h25 : y < 10 ^ 25 := Nat.lt_of_le_of_lt hy (by decide)
  unfold d4
  by_cases c1 : y ≤ 9
  · have h : KK y 1 1 := ⟨by omega, by omega, .inl rfl⟩
    rw [← kk_eq h25 (by decide) h, if_pos (by omega), if_pos (by omega), if_pos (by omega)]
    show [(48 + (y / 10 ^ 0 % 10 : Nat) : Int)] = [(48 + (y % 10 : Nat) : Int)]
    rw [Nat.pow_zero, Nat.div_one]
  · by_cases c2 : y ≤ 99
    · have h : KK y 1 2 := ⟨by omega, by omega, .inr ⟨by omega, by omega⟩⟩
      rw [← kk_eq h25 (by decide) h, if_pos (by omega), if_pos (by omega), if_neg (by omega)]
      show [(48 + (y / 10 ^ 1 % 10 : Nat) : Int), (48 + (y / 10 ^ 0 % 10 : Nat) : Int)] = [(48 + (y / 10 % 10 : Nat) : Int), (48 + (y % 10 : Nat) : Int)]
      rw [Nat.pow_one, Nat.pow_zero, Nat.div_one]
    · by_cases c3 : y ≤ 999
      · have h : KK y 1 3 := ⟨by omega, by omega, .inr ⟨by omega, by omega⟩⟩
        rw [← kk_eq h25 (by decide) h, if_pos (by omega), if_neg (by omega), if_neg (by omega)]
        show [(48 + (y / 10 ^ 2 % 10 : Nat) : Int), (48 + (y / 10 ^ 1 % 10 : Nat) : Int), (48 + (y / 10 ^ 0 % 10 : Nat) : Int)] = [(48 + (y / 100 % 10 : Nat) : Int), (48 + (y / 10 % 10 : Nat) : Int), (48 + (y % 10 : Nat) : Int)]
        rw [Nat.pow_one, Nat.pow_zero, Nat.div_one]
      · have h : KK y 1 4 := ⟨by omega, by omega, .inr ⟨by omega, by omega⟩⟩
        rw [← kk_eq h25 (by decide) h, if_neg (by omega), if_neg (by omega), if_neg (by omega)]
        show [(48 + (y / 10 ^ 3 % 10 : Nat) : Int), (48 + (y / 10 ^ 2 % 10 : Nat) : Int), (48 + (y / 10 ^ 1 % 10 : Nat) : Int), (48 + (y / 10 ^ 0 % 10 : Nat) : Int)] = [(48 + (y / 1000 : Nat) : Int), (48 + (y / 100 % 10 : Nat) : Int), (48 + (y / 10 % 10 : Nat) : Int), (48 + (y % 10 : Nat) : Int)]
        have e3 : y / 10 ^ 3 % 10 = y / 1000 := by omega
        rw [Nat.pow_one, Nat.pow_zero, Nat.div_one, e3]
theorem f188_419_eq {y : Nat} (hy : y ≤ 9999) {s : zS} {l : List Int} (h : BD s l) (hl : l.length ≤ 5000) : ∃ s', f188_419 (zi y) s = some s' ∧ BD s' (l ++ [(48 + (y % 10 : Nat) : Int)]) ∧ fr [40] [33] s s' := by
  obtain ⟨s1, a1, a2, a3⟩ := h.add (by omega) (b := 48 + (y % 10 : Nat)) (by omega) (by omega)
  refine ⟨s1, ?_, a2, a3⟩
  unfold f188_419
  rw [zi_r10 (by omega), zi_add, a1]
  rfl
theorem f188_397_eq {y : Nat} (hy : y ≤ 9999) {s : zS} {l : List Int} (h : BD s l) (hl : l.length ≤ 4900) : ∃ s', f188_397 (zi y) s = some s' ∧ BD s' (l ++ ((if y ≤ 9 then [] else [(48 + (y / 10 % 10 : Nat) : Int)]) ++ [(48 + (y % 10 : Nat) : Int)])) ∧ fr [40] [33] s s' := by
  unfold f188_397
  by_cases c : y ≤ 9
  · rw [if_pos (zle (by omega)), if_pos c, List.nil_append]
    exact f188_419_eq hy h (by omega)
  · obtain ⟨s1, a1, a2, a3⟩ := h.add (by omega) (b := 48 + (y / 10 % 10 : Nat)) (by omega) (by omega)
    obtain ⟨s2, b1, b2, b3⟩ := f188_419_eq hy a2 (by rw [List.length_append]; show l.length + 1 ≤ 5000; omega)
    refine ⟨s2, ?_, ?_, a3.trans b3⟩
    · have e10 : zi (y : Int) / zi 10 = zi ((y / 10 : Nat) : Int) := zi_d10 (by omega) (.inl rfl)
      rw [if_neg (znle (by omega)), e10, zi_r10 (by omega), zi_add, a1, zb0_mk]
      exact b1
    · rw [if_neg c]
      rw [List.append_assoc] at b2
      exact b2
theorem f188_375_eq {y : Nat} (hy : y ≤ 9999) {s : zS} {l : List Int} (h : BD s l) (hl : l.length ≤ 4800) : ∃ s', f188_375 (zi y) s = some s' ∧ BD s' (l ++ ((if y ≤ 99 then [] else [(48 + (y / 100 % 10 : Nat) : Int)]) ++ ((if y ≤ 9 then [] else [(48 + (y / 10 % 10 : Nat) : Int)]) ++ [(48 + (y % 10 : Nat) : Int)]))) ∧ fr [40] [33] s s' := by
  unfold f188_375
  by_cases c : y ≤ 99
  · rw [if_pos (zle (by omega)), if_pos c, List.nil_append]
    exact f188_397_eq hy h (by omega)
  · obtain ⟨s1, a1, a2, a3⟩ := h.add (by omega) (b := 48 + (y / 100 % 10 : Nat)) (by omega) (by omega)
    obtain ⟨s2, b1, b2, b3⟩ := f188_397_eq hy a2 (by rw [List.length_append]; show l.length + 1 ≤ 4900; omega)
    refine ⟨s2, ?_, ?_, a3.trans b3⟩
    · have e100 : zi (y : Int) / zi 100 = zi ((y / 100 : Nat) : Int) := zi_d10 (by omega) (.inr (.inl rfl))
      rw [if_neg (znle (by omega)), e100, zi_r10 (by omega), zi_add, a1, zb0_mk]
      exact b1
    · rw [if_neg c]
      rw [List.append_assoc] at b2
      exact b2
theorem f188_352_eq {y : Nat} (hy : y ≤ 9999) {x8 : Int32} {s : zS} {l : List Int} (h : BD s l) (hl : l.length ≤ 4700) : ∃ s', f188_352 x8 (zi y) s = some s' ∧ BD s' (l ++ d4 y) ∧ fr [40] [33] s s' := by
  unfold f188_352 d4
  by_cases c : y ≤ 999
  · rw [if_pos (zle (by omega)), if_pos c, List.nil_append]
    exact f188_375_eq hy h (by omega)
  · obtain ⟨s1, a1, a2, a3⟩ := h.add (by omega) (b := 48 + (y / 1000 : Nat)) (by omega) (by omega)
    obtain ⟨s2, b1, b2, b3⟩ := f188_375_eq hy a2 (by rw [List.length_append]; show l.length + 1 ≤ 4800; omega)
    refine ⟨s2, ?_, ?_, a3.trans b3⟩
    · have e1000 : zi (y : Int) / zi 1000 = zi ((y / 1000 : Nat) : Int) := zi_d10 (by omega) (.inr (.inr rfl))
      rw [if_neg (znle (by omega)), e1000, zi_add, a1, zb0_mk]
      exact b1
    · rw [if_neg c]
      rw [List.append_assoc] at b2
      exact b2
theorem f188_339_eq {v : Int} (hv : v.natAbs ≤ 9999) {s : zS} {l : List Int} (h : BD s l) (hl : l.length ≤ 4700) : ∃ s', f188_339 (zi v) s = some s' ∧ BD s' (l ++ ds v.natAbs (kk v.natAbs 1)) ∧ fr [40] [33] s s' := by
  rw [d4_eq hv]
  unfold f188_339
  by_cases c : 0 ≤ v
  · rw [if_pos (zge (by omega))]
    obtain ⟨s', a⟩ := f188_352_eq (y := v.natAbs) hv (x8 := zi v) h hl
    have e : zi v = zi (v.natAbs : Int) := congrArg zi (by omega)
    refine ⟨s', ?_, a.2⟩
    rw [← a.1, ← e]
  · rw [if_neg (znge (by omega)), zi_neg]
    obtain ⟨s', a⟩ := f188_352_eq (y := v.natAbs) hv (x8 := zi v) h hl
    have e : zi (-v) = zi (v.natAbs : Int) := congrArg zi (by omega)
    refine ⟨s', ?_, a.2⟩
    rw [← a.1, ← e]
theorem f188_255_loop {M q : Nat} {v : Int} (hM : M < 9007199254740992) (hq2 : q ≤ 1100) (hv : v.natAbs ≤ 9999) : ∀ (d i n : Nat) (s : zS) (l : List Int), d + i = q + 1 → 1 ≤ i → d < n → BD s l → l.length + d ≤ 3000 →
    ∃ s', f188_255 n (zi q) (zl M) (zi v) (zi i) s = some s' ∧ BD s' (l ++ (hq M i d ++ 112 :: sgv v)) ∧ fr [40] [33] s s' := by
  intro d
  induction d with
  | zero =>
    intro i n s l hi h1 hn hB hl
    obtain ⟨k, rfl⟩ : ∃ k, n = k + 1 := ⟨n - 1, by omega⟩
    obtain ⟨s1, a1, a2, a3⟩ := hB.add (by omega) (b := 112) (by omega) (by omega)
    have hex : ∃ s', (if zi v ≥ zi 0 then f188_339 (zi v) s1 else zb0 (f181 (zi 45) s1) (fun s2 => f188_339 (zi v) s2)) = some s' ∧ BD s' (l ++ [112] ++ sgv v) ∧ fr [40] [33] s1 s' := by
      unfold sgv
      by_cases c : v < 0
      · obtain ⟨s2, b1, b2, b3⟩ := a2.add (by rw [List.length_append]; show l.length + 1 < 6000; omega) (b := 45) (by omega) (by omega)
        obtain ⟨s3, c1, c2, c3⟩ := f188_339_eq hv b2 (by rw [List.length_append, List.length_append]; show l.length + 1 + 1 ≤ 4700; omega)
        refine ⟨s3, ?_, ?_, b3.trans c3⟩
        · rw [if_neg (znge (by omega)), b1, zb0_mk]
          exact c1
        · rw [if_pos c]
          rw [List.append_assoc] at c2
          exact c2
      · obtain ⟨s3, c1, c2, c3⟩ := f188_339_eq hv a2 (by rw [List.length_append]; show l.length + 1 ≤ 4700; omega)
        refine ⟨s3, ?_, ?_, c3⟩
        · rw [if_pos (zge (by omega))]
          exact c1
        · rw [if_neg c]
          exact c2
    obtain ⟨s3, c1, c2, c3⟩ := hex
    refine ⟨s3, ?_, ?_, a3.trans c3⟩
    · show b188_255 (f188_255 k) (zi q) (zl M) (zi v) (zi i) s = _
      unfold b188_255
      rw [if_pos (zgt (by omega)), a1, zb0_mk]
      exact c1
    · rw [List.append_assoc] at c2
      exact c2
  | succ d ih =>
    intro i n s l hi h1 hn hB hl
    obtain ⟨k, rfl⟩ : ∃ k, n = k + 1 := ⟨n - 1, by omega⟩
    have hlt := nib_lt M i
    have hr := dch_asc hlt
    obtain ⟨s1, a1, a2, a3⟩ := hB.add (by omega) (b := dch (nib M i)) (by omega) (by omega)
    obtain ⟨s2, b1, b2, b3⟩ := ih (i + 1) k s1 _ (by omega) (by omega) (by omega) a2 (by rw [List.length_append]; show l.length + 1 + d ≤ 3000; omega)
    refine ⟨s2, ?_, ?_, a3.trans b3⟩
    · have h287 : f188_287 (f188_255 k) (zi q) (zl M) (zi v) (zi i) (zi ((nib M i : Nat) : Int)) s = some s2 := by
        unfold f188_287 f188_313
        have ei : zi (i : Int) + zi 1 = zi ((i + 1 : Nat) : Int) := zi_add _ _
        unfold dch at a1
        by_cases c : nib M i < 10
        · rw [if_pos c] at a1
          rw [if_neg (znge (by omega)), zi_add, a1, zb0_mk, ei]
          exact b1
        · rw [if_neg c] at a1
          have e : zi (97 + ((nib M i : Nat) : Int) - 10) = zi (87 + ((nib M i : Nat) : Int)) := congrArg zi (by omega)
          rw [if_pos (zge (by omega)), zi_add, zi_sub, e, a1, zb0_mk, ei]
          exact b1
      show b188_255 (f188_255 k) (zi q) (zl M) (zi v) (zi i) s = _
      unfold b188_255
      rw [if_neg (zngt (by omega))]
      by_cases c : i ≤ 13
      · rw [if_pos (zle (by omega)), nibM hM c]
        exact h287
      · have e0 : nib M i = 0 := by
          unfold nib
          rw [if_neg c]
        rw [e0] at h287
        rw [if_neg (znle (by omega))]
        exact h287
    · rw [List.append_assoc] at b2
      exact b2
theorem f188_237_eq {M q : Nat} {v : Int} (hM : M < 9007199254740992) (hq1 : 1 ≤ q) (hq2 : q ≤ 1100) (hv : v.natAbs ≤ 9999) {s : zS} (hB : BD s []) : ∃ s', f188_237 (zi q) (zl ((M % 4503599627370496 : Nat) : Int)) (zi ((M / 4503599627370496 : Nat) : Int)) (zi v) s = some s' ∧ BD s' ([(48 + (M / 4503599627370496 : Nat) : Int)] ++ 46 :: (hq M 1 q ++ 112 :: sgv v)) ∧ fr [40] [33] s s' := by
  obtain ⟨s1, a1, a2, a3⟩ := hB.add (by show 0 < 6000; omega) (b := 48 + (M / 4503599627370496 : Nat)) (by omega) (by omega)
  obtain ⟨s2, b1, b2, b3⟩ := a2.add (by show 1 < 6000; omega) (b := 46) (by omega) (by omega)
  obtain ⟨s3, c1, c2, c3⟩ := f188_255_loop (M := M % 4503599627370496) (q := q) (v := v) (by omega) hq2 hv q 1 zF s2 _ (by omega) (by omega) (by unfold zF; omega) b2 (by show 2 + q ≤ 3000; omega)
  refine ⟨s3, ?_, ?_, (a3.trans b3).trans c3⟩
  · unfold f188_237
    rw [zi_add, a1, zb0_mk, b1, zb0_mk]
    exact c1
  · rw [hq_low q 1 (by omega)] at c2
    exact c2
theorem f188_206_loop {G : Nat} {x3 x7 x8 : Int32} {s : zS} : ∀ (i n : Nat), i < 13 → i < n → f188_206 n x3 (zi ((i + 1 : Nat) : Int)) (zl ((G % 4503599627370496 : Nat) : Int)) x7 x8 s = f188_237 (zi (ndg G (i + 1) : Nat)) (zl ((G % 4503599627370496 : Nat) : Int)) x7 x8 s := by
  intro i
  induction i with
  | zero =>
    intro n _ hn
    obtain ⟨k, rfl⟩ : ∃ k, n = k + 1 := ⟨n - 1, by omega⟩
    show b188_206 (f188_206 k) x3 (zi ((0 + 1 : Nat) : Int)) (zl ((G % 4503599627370496 : Nat) : Int)) x7 x8 s = _
    unfold b188_206
    rw [if_pos (zle (by omega))]
    rfl
  | succ i ih =>
    intro n hi hn
    obtain ⟨k, rfl⟩ : ∃ k, n = k + 1 := ⟨n - 1, by omega⟩
    show b188_206 (f188_206 k) x3 (zi ((i + 1 + 1 : Nat) : Int)) (zl ((G % 4503599627370496 : Nat) : Int)) x7 x8 s = _
    unfold b188_206
    rw [if_neg (znle (by omega)), nibML (by omega) (by omega), nib_low (by omega)]
    have hn := nib_lt G (i + 1 + 1)
    have en : ndg G (i + 1 + 1) = if nib G (i + 1 + 1) = 0 then ndg G (i + 1) else i + 1 + 1 := by
      show (if i + 1 = 0 then 1 else _) = _
      rw [if_neg (by omega)]
    rw [en]
    by_cases c : nib G (i + 1 + 1) = 0
    · rw [if_pos c, c, if_neg zl00]
      have ei : zi ((i + 1 + 1 : Nat) : Int) + zi (-1) = zi ((i + 1 : Nat) : Int) := by
        rw [zi_add]
        exact congrArg zi (by omega)
      rw [ei]
      exact ih k (by omega) (by omega)
    · rw [if_neg c, if_pos (zlne (by omega))]
theorem hR_zero (q : Nat) : hR 0 q = 0 := by
  unfold hR
  split
  · unfold rup
    have h1 : 1 ≤ 2 ^ (4 * (13 - q) - 1) := Nat.pow_pos (by decide)
    rw [Nat.zero_mod, Nat.zero_div, if_neg (by omega), Nat.zero_mul]
  · rfl
theorem f188_168_eq {k H q G : Nat} {E : Int} (hk : k ≤ 48) (hG : G < 9007199254740992) (hH : H * 2 ^ k = hR G q) {v : Int} (hv : v = hxV G 0 E) {s : zS} : f188_168 (zi q) (zi v) (zi k) (zl H) s = f188_237 (zi q) (zl ((hM G q % 4503599627370496 : Nat) : Int)) (zi ((hM G q / 4503599627370496 : Nat) : Int)) (zi (hxV G q E)) s := by
  have hle := hR_le (q := q) hG
  have e52 : zshrL (zl (hR G q : Nat)) (zi 52) = zl ((hR G q / 2 ^ 52 : Nat) : Int) := shrN (t := 52) (by omega) (by decide)
  have ep : (2 : Nat) ^ 52 = 4503599627370496 := by decide
  have em : zl ((hR G q : Nat) : Int) &&& zl 4503599627370495 = zl ((hR G q % 4503599627370496 : Nat) : Int) := zl_and (a := ((hR G q : Nat) : Int)) (k := 52) (by decide)
  have hE0 : hE G 0 E = E := by
    unfold hE
    rw [hR_none (by omega), if_pos hG]
  unfold f188_168
  rw [shlN H (by omega), hH, e52, ep, em, zL2I_zl]
  unfold hxV at hv
  rw [hE0] at hv
  by_cases c : hR G q < 9007199254740992
  · have hMq : hM G q = hR G q := by
      unfold hM
      rw [if_pos c]
    have hVq : hxV G q E = v := by
      unfold hxV hE
      rw [if_pos c, hv]
    rw [if_pos (zne (by omega)), hMq, hVq]
  · have hMq : hM G q = 4503599627370496 := by
      unfold hM
      rw [if_neg c]
      omega
    have hG0 : ¬ G = 0 := by
      intro u
      rw [u, hR_zero] at c
      omega
    have hVq : hxV G q E = v + 1 := by
      unfold hxV hE
      rw [if_neg hG0] at hv
      rw [if_neg hG0, if_neg c, hv]
      omega
    have hRq : hR G q = 9007199254740992 := by omega
    rw [hRq, hMq, hVq, if_neg (show ¬ ¬ zi ((9007199254740992 / 4503599627370496 : Nat) : Int) = zi 2 from not_not_intro rfl), zi_add]
    rfl
theorem hx_G {B F : Nat} (hF : F < 4503599627370496) {x7 : Nat} (hx : x7 ≤ 1) : (zshlL (zI2L (zi (x7 : Int))) (zi 52)) ||| zl (F : Int) = zl ((x7 * 4503599627370496 + F : Nat) : Int) := by
  rw [zI2L_zi (by omega) (by omega)]
  have e : zshlL (zl (x7 : Int)) (zi 52) = zl ((x7 * 2 ^ 52 : Nat) : Int) := shlN x7 (t := 52) (by decide)
  have ep : (2 : Nat) ^ 52 = 4503599627370496 := by decide
  rw [e, ep]
  exact zor (k := 52) ep hF (by omega)
theorem f188_82_eq {G q : Nat} (hG : G < 9007199254740992) (hq1 : 1 ≤ q) (hq2 : q ≤ 1100) {E v : Int} (hv : v = hxV G 0 E) {x3 : Int32} {s : zS} : f188_82 x3 (zl ((G % 4503599627370496 : Nat) : Int)) (zi ((G / 4503599627370496 : Nat) : Int)) (zi v) (zi q) s = f188_237 (zi q) (zl ((hM G q % 4503599627370496 : Nat) : Int)) (zi ((hM G q / 4503599627370496 : Nat) : Int)) (zi (hxV G q E)) s := by
  unfold f188_82
  by_cases c0 : 13 ≤ q
  · have hRq : hR G q = G := by
      unfold hR
      rw [if_neg (by omega)]
    have hMq : hM G q = G := by
      unfold hM
      rw [hRq, if_pos hG]
    have hVq : hxV G q E = v := by
      rw [hv]
      unfold hxV hE
      rw [hRq, if_pos hG]
      have : hR G 0 = G := by
        unfold hR
        rw [if_neg (by omega)]
      rw [this, if_pos hG]
    rw [if_pos (zge (by omega)), hMq, hVq]
  · obtain ⟨k, hk, hk1, hk2⟩ : ∃ k, k = 4 * (13 - q) ∧ k ≤ 48 ∧ 4 ≤ k := ⟨_, rfl, by omega, by omega⟩
    have ek : zi 52 - zi 4 * zi (q : Int) = zi (k : Int) := by
      rw [zi_mul, zi_sub]
      exact congrArg zi (by omega)
    have ek1 : zi (k : Int) - zi 1 = zi ((k - 1 : Nat) : Int) := by
      rw [zi_sub]
      exact congrArg zi (by omega)
    have hHR : rup G k * 2 ^ k = hR G q := by
      unfold hR
      rw [if_pos (by omega), hk]
    have eG : (zshlL (zI2L (zi ((G / 4503599627370496 : Nat) : Int))) (zi 52)) ||| zl ((G % 4503599627370496 : Nat) : Int) = zl (G : Int) := by
      rw [hx_G (B := 0) (by omega) (by omega)]
      exact congrArg (fun x : Nat => zl (x : Int)) (by omega)
    have ehf : zshlL (zl 1) (zi ((k - 1 : Nat) : Int)) = zl ((2 ^ (k - 1) : Nat) : Int) := by
      have := shlN 1 (t := k - 1) (by omega)
      rw [Nat.one_mul] at this
      exact this
    have emk : zl (G : Int) &&& (zshlL (zl 1) (zi (k : Int)) - zl 1) = zl ((G % 2 ^ k : Nat) : Int) := by
      rw [zshlL_zl 1 (by omega), Int.one_mul, zl_sub, zl_and (by omega)]
      rfl
    have hhalf : 2 ^ (k - 1) < 9007199254740992 := Nat.lt_of_le_of_lt (Nat.pow_le_pow_right (by decide) (show k - 1 ≤ 52 by omega)) (by decide)
    have hle : G / 2 ^ k ≤ G := Nat.div_le_self _ _
    have hlm : G % 2 ^ k ≤ G := Nat.mod_le _ _
    have e1 : zl ((G / 2 ^ k : Nat) : Int) &&& zl 1 = zl ((G / 2 ^ k % 2 : Nat) : Int) := zl_and (a := ((G / 2 ^ k : Nat) : Int)) (k := 1) (by decide)
    rw [if_neg (znge (by omega)), ek, ek1, eG, emk, ehf, shrN (by omega) (by omega), e1]
    have ha : zl ((G / 2 ^ k : Nat) : Int) + zl 1 = zl ((G / 2 ^ k + 1 : Nat) : Int) := zl_add _ _
    rw [ha]
    have key := f188_168_eq (k := k) (H := rup G k) (q := q) (E := E) (v := v) (s := s) (by omega) hG hHR hv
    rw [← key]
    unfold rup
    generalize G / 2 ^ k = H at *
    generalize G % 2 ^ k = R at *
    generalize 2 ^ (k - 1) = hf at *
    by_cases c1 : hf < R
    · rw [if_pos (zlgt (by omega)), if_pos (.inl c1)]
    · rw [if_neg (zlngt (by omega))]
      by_cases c2 : R = hf
      · rw [if_neg (show ¬ ¬ zl (R : Int) = zl (hf : Int) from not_not_intro (by rw [c2]))]
        by_cases c3 : H % 2 = 1
        · rw [if_neg (show ¬ ¬ zl ((H % 2 : Nat) : Int) = zl 1 from not_not_intro (by rw [c3]; rfl)), if_pos (.inr ⟨c2, c3⟩)]
        · rw [if_pos (zlne (by omega)), if_neg (fun g => g.elim (fun g => c1 g) (fun g => c3 g.2))]
      · rw [if_pos (zlne (by omega)), if_neg (fun g => g.elim (fun g => c1 g) (fun g => c2 g.1))]
theorem m_expoI {U S B F : Nat} (h : D64 U S B F) : (zL2I (zshrL (zl (U : Int)) (zi 52))) &&& zi 2047 = zi (B : Int) := by
  have hv := m_v h
  unfold D64 at h
  have e52 : zshrL (zl ((U : Int) - S * 18446744073709551616)) (zi 52) = zl (((U : Int) - S * 18446744073709551616) / 2 ^ 52) := zshrL_zl (k := 52) (by omega) (by omega) (by decide)
  have ep : (2 : Int) ^ 52 = 4503599627370496 := by decide
  rw [hv, e52, ep, zL2I_zl]
  have e := zi_and (a := ((U : Int) - S * 18446744073709551616) / 4503599627370496) (k := 11) (by decide)
  have ep2 : (2 : Int) ^ 11 = 2048 := by decide
  rw [ep2] at e
  refine Eq.trans e (congrArg zi ?_)
  omega
theorem f188_eq {U : Nat} (hU : U < 18446744073709551616) (h1 : ¬ nanB 52 11 U) (h2 : ¬ infB 52 11 U) {s : zS} (hB : BD s []) {pr : Int} (hp1 : -1 ≤ pr) (hp2 : pr ≤ 1100) (h17 : s.1 24 17 = zi pr) {q : Nat} (hq : q = (if pr < 0 then 0 else (max pr 1).toNat)) : ∃ s', f188 (zl U) s = some s' ∧ BD s' (hxD (rM 52 11 U) q ++ hxT (rM 52 11 U) q (-1074 + rE 52 11 U - 1)) ∧ fr [40] [33] s s' := by
  have hd := d64 hU
  have hne : rB 52 11 U ≠ 2047 := by
    intro e
    by_cases g : rF 52 U = 0
    · exact h2 ⟨e, g⟩
    · exact h1 ⟨e, g⟩
  obtain ⟨B, hB'⟩ : ∃ B, B = rB 52 11 U := ⟨_, rfl⟩
  obtain ⟨f, hf⟩ : ∃ f, f = rF 52 U := ⟨_, rfl⟩
  obtain ⟨G, hGe⟩ : ∃ G, G = rM 52 11 U := ⟨_, rfl⟩
  obtain ⟨E, hEe⟩ : ∃ E, E = -1074 + rE 52 11 U - 1 := ⟨_, rfl⟩
  rw [← hB', ← hf] at hd
  rw [← hB'] at hne
  have hBl : B < 2048 := hd.2.2.1
  have hfl : f < 4503599627370496 := hd.2.2.2
  have ep : (2 : Nat) ^ 52 = 4503599627370496 := by decide
  have hG1 : G = if B = 0 then f else f + 4503599627370496 := by
    rw [hGe]
    unfold rM
    rw [← hB', ← hf, ep]
  have hE1 : E = if B = 0 then -1074 else (B : Int) - 1075 := by
    rw [hEe]
    unfold rE
    rw [← hB']
    split <;> omega
  rw [← hGe, ← hEe]
  have hG : G < 9007199254740992 := by
    rw [hG1]
    split <;> omega
  have hlow : f = G % 4503599627370496 := by
    rw [hG1]
    split <;> omega
  have hlead : (if B = 0 then 0 else 1) = G / 4503599627370496 := by
    rw [hG1]
    by_cases c : B = 0
    · rw [if_pos c, if_pos c]
      omega
    · rw [if_neg c, if_neg c]
      omega
  have hE0 : hE G 0 E = E := by
    unfold hE
    rw [hR_none (by omega), if_pos hG]
  obtain ⟨v, hv⟩ : ∃ v, v = hxV G 0 E := ⟨_, rfl⟩
  have hv1 : v = if G = 0 then 0 else E + 52 := by
    rw [hv]
    unfold hxV
    rw [hE0]
  have hq0 : q ≤ 1100 := by
    rw [hq]
    split <;> omega
  have hvr : v.natAbs ≤ 1200 := by
    rw [hv1, hE1]
    split
    · omega
    · split <;> omega
  have hvr2 : (hxV G q E).natAbs ≤ 9999 := by
    unfold hxV hE
    rw [hE1]
    split
    · omega
    · split
      · split <;> omega
      · split <;> omega
  have hNr := hN_rng (G := G) hq0
  obtain ⟨s', a1, a2, a3⟩ := f188_237_eq (M := hM G q) (q := hN G q) (v := hxV G q E) (hM_lt hG) hNr.1 hNr.2 hvr2 hB
  refine ⟨s', ?_, a2, a3⟩
  rw [← a1]
  have h58 : ∀ x3 : Int32, f188_58 x3 (zi 13) (zl ((G % 4503599627370496 : Nat) : Int)) (zi ((G / 4503599627370496 : Nat) : Int)) (zi v) s = f188_237 (zi (hN G q : Nat)) (zl ((hM G q % 4503599627370496 : Nat) : Int)) (zi ((hM G q / 4503599627370496 : Nat) : Int)) (zi (hxV G q E)) s := by
    intro x3
    unfold f188_58
    rw [h17]
    by_cases c1 : pr < 0
    · have hq' : q = 0 := by
        rw [hq, if_pos c1]
      subst hq'
      have hM0 : hM G 0 = G := by
        unfold hM
        rw [hR_none (by omega), if_pos hG]
      have hN0 : hN G 0 = ndg G 13 := by
        unfold hN
        rw [if_pos rfl]
      rw [if_pos (zlt (by omega)), hM0, hN0, ← hv]
      exact f188_206_loop (G := G) 12 zF (by omega) (by unfold zF; omega)
    · have hq1 : 1 ≤ q := by
        rw [hq, if_neg c1]
        omega
      have hNq : hN G q = q := by
        unfold hN
        rw [if_neg (by omega)]
      have key := f188_82_eq (G := G) (q := q) (E := E) (v := v) (x3 := x3) (s := s) hG hq1 hq0 hv
      rw [hNq, ← key, if_neg (znlt (by omega))]
      by_cases c2 : pr = 0
      · have : q = 1 := by
          rw [hq, if_neg c1]
          omega
        rw [if_neg (by rw [c2]; exact not_not_intro rfl), this]
        rfl
      · have : (q : Int) = pr := by
          rw [hq, if_neg c1]
          omega
        rw [if_pos (zne (by omega)), this]
  have h30 : f188_30 (zi (B : Int)) (zi 13) (zl ((G % 4503599627370496 : Nat) : Int)) (zi ((G / 4503599627370496 : Nat) : Int)) s = f188_58 (zi (B : Int)) (zi 13) (zl ((G % 4503599627370496 : Nat) : Int)) (zi ((G / 4503599627370496 : Nat) : Int)) (zi v) s := by
    unfold f188_30
    by_cases c : B = 0
    · rw [if_pos c] at hG1 hE1
      rw [if_pos (zle (by omega))]
      by_cases c2 : G = 0
      · rw [if_pos c2] at hv1
        have e0 : G % 4503599627370496 = 0 := by omega
        rw [e0, if_neg zl00, hv1]
      · rw [if_neg c2] at hv1
        have e0 : G % 4503599627370496 ≠ 0 := by omega
        have ev : v = -1022 := by omega
        rw [if_pos (zlne (by omega)), ev]
    · rw [if_neg c] at hG1 hE1
      have c2 : ¬ G = 0 := by omega
      rw [if_neg c2] at hv1
      have ev : (B : Int) - 1023 = v := by omega
      rw [if_neg (znle (by omega)), zi_sub, ev]
  unfold f188
  rw [m_expoI hd, m_frac hd, hlow]
  by_cases c : B = 0
  · rw [if_pos c] at hlead
    have e0 : zi 0 = zi ((G / 4503599627370496 : Nat) : Int) := by rw [← hlead]; rfl
    rw [if_pos (zle (by omega)), e0, h30, h58]
  · rw [if_neg c] at hlead
    have e0 : zi 1 = zi ((G / 4503599627370496 : Nat) : Int) := by rw [← hlead]; rfl
    rw [if_neg (znle (by omega)), e0, h30, h58]
/-! both alike -/
theorem sgv_asc (v : Int) : asc (sgv v) := by
  unfold sgv
  refine asc.append ?_ (ds_asc _ _)
  split
  · intro v hv
    rcases List.mem_cons.mp hv with rfl | hv
    · omega
    · cases hv
  · intro v hv
    cases hv
theorem sgv_len {v : Int} (h : v.natAbs ≤ 9999) : (sgv v).length ≤ 5 := by
  unfold sgv
  rw [List.length_append, ds_len]
  have h1 : kk v.natAbs 1 ≤ 4 := kk_le (by omega) (by omega) (by omega)
  split
  · show 1 + _ ≤ 5
    omega
  · show 0 + _ ≤ 5
    omega
theorem AL_of {fb eb : Nat} {lo : Int} {U U' : Nat} (hW : WID fb eb lo U U') (h1 : ¬ nanB fb eb U) (h2 : ¬ infB fb eb U) (r2 : -1074 ≤ lo + rE fb eb U - 1) (r3 : lo + rE fb eb U - 1 ≤ 971) : AL (rM fb eb U) (lo + rE fb eb U - 1) (rM 52 11 U') (-1074 + rE 52 11 U' - 1) := by
  have hd := d64 hW.1
  have hn : ¬ nanB 52 11 U' := fun g => h1 (hW.2.2.1.mp g)
  have hi : ¬ infB 52 11 U' := fun g => h2 (hW.2.2.2.1.mp g)
  have hne : rB 52 11 U' ≠ 2047 := by
    intro e
    by_cases g : rF 52 U' = 0
    · exact hi ⟨e, g⟩
    · exact hn ⟨e, g⟩
  obtain ⟨j, j1, j2⟩ := hW.2.2.2.2 h1 h2
  have hBl : rB 52 11 U' < 2048 := hd.2.2.1
  have hfl : rF 52 U' < 4503599627370496 := hd.2.2.2
  have ep : (2 : Nat) ^ 52 = 4503599627370496 := by decide
  have q : rM 52 11 U' < 9007199254740992 ∧ -1074 ≤ -1074 + rE 52 11 U' - 1 ∧ -1074 + rE 52 11 U' - 1 ≤ 971 ∧ (-1074 + rE 52 11 U' - 1 = -1074 ∨ 4503599627370496 ≤ rM 52 11 U' ∨ rM 52 11 U' = 0) := by
    unfold rM rE
    rw [ep]
    refine ⟨by split <;> omega, by split <;> omega, by split <;> omega, by split <;> omega⟩
  exact ⟨q.1, q.2.1, q.2.2.1, q.2.2.2, r2, r3, j, j1, j2⟩
theorem CV_a {F : Int32} {W pr su k c m : Int} {a n : Nat} {t : List Int} (hv : vald F W pr 97 k c m t) (hk : k = 7 ∨ k = 8) : CV F W pr 97 su k c m a n t := by
  obtain ⟨ha, _, _, hf, hW1, hW2, hp1, hp2, _⟩ := hv
  have hcv' : rCv 97 := .inl rfl
  by_cases hn : nanB (fbU (small k)) (ebU (small k)) (bitsU c (small k))
  · exact CV_nan ha hk hcv' hn
  by_cases hi : infB (fbU (small k)) (ebU (small k)) (bitsU c (small k))
  · exact CV_inf ha hk hcv' (by omega) hW2 hi
  obtain ⟨U, hW, hU⟩ := r_wide ha hk
  obtain ⟨r1, r2, r3⟩ := fin_range (small01 k) hn hi
  obtain ⟨S, hS⟩ : ∃ S : Nat, S = rS (fbU (small k)) (ebU (small k)) (bitsU c (small k)) := ⟨_, rfl⟩
  have hS01 : (S : Int) = 0 ∨ (S : Int) = 1 := by
    rw [hS]
    unfold rS
    omega
  have hA := AL_of hW hn hi r2 r3
  obtain ⟨G, hGe⟩ : ∃ G, G = rM 52 11 U := ⟨_, rfl⟩
  obtain ⟨E, hEe⟩ : ∃ E, E = -1074 + rE 52 11 U - 1 := ⟨_, rfl⟩
  rw [← hGe, ← hEe] at hA
  obtain ⟨q, hq⟩ : ∃ q : Nat, q = (if pr < 0 then 0 else (max pr 1).toNat) := ⟨_, rfl⟩
  have hq0 : q ≤ 1100 := by
    rw [hq]
    split <;> omega
  have hG := hA.1
  have hMl := hM_lt (q := q) hG
  have hNr := hN_rng (G := G) hq0
  have hvr2 : (hxV G q E).natAbs ≤ 9999 := by
    have h1 := hA.2.1
    have h2 := hA.2.2.1
    unfold hxV hE
    split
    · omega
    · split <;> omega
  have hD : ∀ v, v ∈ hxD G q → dgt v := by
    intro v hv
    rcases List.mem_cons.mp hv with rfl | hv
    · unfold dgt
      omega
    · cases hv
  have hTa : asc (hxT G q E) := by
    intro v hv
    rcases List.mem_cons.mp hv with rfl | hv
    · omega
    · rcases List.mem_append.mp hv with hv | hv
      · exact hq_asc _ _ _ v hv
      · rcases List.mem_cons.mp hv with rfl | hv
        · omega
        · exact sgv_asc _ v hv
  have hTl : (hxT G q E).length ≤ 1110 := by
    unfold hxT
    have h1 := sgv_len hvr2
    rw [List.length_cons, List.length_append, hq_len, List.length_cons]
    omega
  have hsl := sgnL_len F S
  have hcl := clsL_len F S
  have eA : laidA F S 1 = sgnL F S ++ [48, 120] := by
    unfold laidA hxL
    rw [if_pos rfl]
  have eB : laidB F S 1 (hxD G q) (hxT G q E) = (hxD G q ++ hxT G q E) ++ clsL F S := by
    unfold laidB bodL
    have ec : cmD (hxD G q) = hxD G q := rfl
    split
    · rw [ec]
    · rfl
  have hAa : asc (sgnL F S ++ [48, 120]) := by
    refine (sgnL_asc _ _).append ?_
    intro v hv
    rcases List.mem_cons.mp hv with rfl | hv
    · omega
    · rcases List.mem_cons.mp hv with rfl | hv
      · omega
      · cases hv
  have hlA : (sgnL F S ++ [48, 120]).length ≤ 3 := by
    rw [List.length_append]
    show _ + 2 ≤ 3
    omega
  have hlD : (hxD G q).length = 1 := rfl
  have hlDT : (hxD G q ++ hxT G q E).length ≤ 1111 := by
    rw [List.length_append]
    omega
  have hR := laid_PR (F := F) (W := W) (m := S) (h := 1) (D := hxD G q) (T := hxT G q E) (by rw [eA]; exact hAa) (by rw [eB]; exact ((dgt_asc hD).append hTa).append (clsL_asc _ _)) (by rw [eA, eB, List.length_append]; have := List.length_append (as := hxD G q ++ hxT G q E) (bs := clsL F S); omega) (flt_16_1 hf)
  refine ⟨_, _, _, _, _, hR, fun s h hP => ?_, fun s h hM => ?_⟩
  · obtain ⟨s2, a1, a2, a3, a4⟩ := (f103_eq (c := c) (small01 k) h.1 hP).2.2 hn hi
    rw [← hS] at a2
    have hF2 : s2.1 7 2 = F := by rw [a3.f rfl (by decide)]; exact h.1
    have h52 : s2.1 7 5 = zi pr := by rw [a3.f rfl (by decide)]; exact h.2.2.1
    obtain ⟨s3, b1, b2, b3, b4⟩ := f108_eq (F := F) (pr := pr) (A := rM (fbU (small k)) (ebU (small k)) (bitsU c (small k))) (X := loU (small k) + rE (fbU (small k)) (ebU (small k)) (bitsU c (small k)) - 1) hF2 h52 hp1 hp2 a2 (by omega) hA a1.2.2.2.1 a1.2.2.2.2.1 hq
    have f3 : fr [13, 14, 15] [] s s3 := a3.trans b4
    obtain ⟨s6, g1, g2, g3⟩ := b2.close (F := F) (by rw [f3.f rfl (by decide)]; exact h.1) hS01 (by rw [List.length_append]; omega)
    refine ⟨s6, ?_, ?_, (f3.up rfl rfl).trans (g3.up rfl rfl)⟩
    · have e54 : r54 s2 = zi 97 := (congrFun (a3.f (a := 7) rfl (by decide)) 6).trans h.2.2.2.1
      have e2 : s3.1 15 2 = zi (S : Int) := by
        rw [b3, hS]
        exact a1.1
      rw [rC h hk hcv', a4, e54, if_neg (not_not_intro rfl), b1, zb0_mk]
      unfold f103_90
      rw [e2, g1]
      rfl
    · rw [eA, eB]
      rw [List.append_assoc] at g2
      exact g2
  · obtain ⟨y', hy', e1⟩ := m39 hW.1 s
    have hn' : ¬ nanB 52 11 U := fun g => hn (hW.2.2.1.mp g)
    have hi' : ¬ infB 52 11 U := fun g => hi (hW.2.2.2.1.mp g)
    have hy3 : y' = S := by rw [hy' hn', hW.2.1, hS]
    subst hy3
    obtain ⟨s1, a1, a2, a3⟩ := f188_eq hW.1 hn' hi' (s := setI s 24 33 (zi 0)) ⟨rfl, isL_nil⟩ hp1 hp2 h.2.2.1 hq
    rw [← hGe, ← hEe] at a2
    have f1 : fr [40] [33] s s1 := (fr.refl.sI (.inr ⟨rfl, rfl⟩)).trans a3
    obtain ⟨s2, b1, b2, b3⟩ := laid_eq (s := s1) (l := []) (w := 0) (F := F) (W := W) (m := S) (h := 1) (zr := 1) (D := hxD G q) (T := hxT G q E) (hM.mv f1 rfl rfl rfl rfl) a2 (by rw [f1.1 24 15 rfl (fun _ => rfl)]; exact h.1) (by rw [f1.1 24 16 rfl (fun _ => rfl)]; exact h.2.1) (by omega) hW2 hS01 (.inr rfl) (.inr rfl) hD hTa.byt (by
      intro v r hvr
      have : (46 : Int) = v := (List.cons.inj hvr).1
      unfold dgt
      omega) (by omega) (by show 0 ≤ 1000; omega)
    have hf2 : fr [39, 40] [30, 31, 33] s s2 := (f1.up rfl rfl).trans (b3.up rfl rfl)
    refine ⟨s2, ?_, ?_, R6.fr hf2 h.2.2.2.2.2.2.2.2.2.2 rfl rfl rfl rfl rfl rfl, hf2.up rfl rfl⟩
    · rw [rM_entry h hk hcv', r184 h hU, e1, m58_fin hW.1 hn' hi', h.2.2.2.1, if_neg (not_not_intro rfl), a1, zb0_mk, b1]
      rfl
    · rw [List.nil_append, Int.zero_add] at b2
      exact b2
