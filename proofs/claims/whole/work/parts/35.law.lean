/-! the law's loop, by its ops -/
theorem inv_s0 (P : List Int → Prop) : Inv P s0 := by
  have z0 : (0 : Int32) = zi 0 := by decide
  have zm : (-1 : Int32) = zi (-1) := by decide
  have z45 : (45 : Int32) = zi (45 : Nat) := by decide
  refine ⟨⟨[], ⟨z0, isL_nil, Nat.zero_le _⟩, ⟨z0, isL_nil⟩, fun v hv => by cases hv⟩, ⟨[], ⟨z0, isL_nil, Nat.zero_le _⟩, ⟨z0, isL_nil⟩, (fun v hv => by cases hv), .inr ⟨z0, zm⟩⟩, ⟨[], ⟨z0, isL_nil, Nat.zero_le _⟩, ⟨z0, isL_nil⟩, fun v hv => by cases hv⟩, ⟨rfl, rfl⟩, ⟨0, z0, z0, by omega, fun i hi => absurd hi (by omega)⟩, ?_⟩
  exact ⟨⟨45, 45, z45, z45, Nat.le_refl _, by omega, fun k _ _ => z0⟩, ⟨45, 45, z45, z45, Nat.le_refl _, by omega, fun k _ _ => z0⟩, ⟨45, 45, z45, z45, Nat.le_refl _, by omega, fun k _ _ => z0⟩⟩
theorem zx {X : mX} {i k : Nat} (h : i + k < X.1) (h2 : X.1 ≤ 2560) : mIx (zi i + zi k) X.1 := by
  rw [zi_add]
  exact zi_ix (by omega) (by omega) (by omega)
set_option maxHeartbeats 4000000 in
theorem law_loop {P : List Int → Prop} (hF : ∀ s, Inv P s → s.2.2 < 600000 → opOK P s f249 f217) (hR : ∀ s, Inv P s → s.2.2 < 600000 → opOK P s f253 f223) (hD : ∀ s x, (x = zi 0 ∨ x = zi 1) → Inv P s → s.2.2 < 600000 → opOKL P s (f255 x) (f228 x)) {X : mX} (hL : X.1 ≤ 2560) :
    ∀ (d i n : Nat) (s : zS), X.1 ≤ d + i → d < n → i ≤ X.1 + 4 → Inv P s → s.2.2 ≤ i → ∃ s', f256_23 X n (zi i) s = some (zi 1, s') := by
  have eL : (Int32.ofNat X.1) - (zi 5) = zi ((X.1 : Int) - 5) := by
    have : Int32.ofNat X.1 = zi X.1 := (zi_nI X.1).symm
    rw [this, zi_sub]
  intro d
  induction d with
  | zero =>
    intro i n s hd hn hi hI he
    obtain ⟨n, rfl⟩ : ∃ k, n = k + 1 := ⟨n - 1, by omega⟩
    refine ⟨s, ?_⟩
    show b256_23 X (f256_23 X n) _ _ = _
    unfold b256_23
    rw [eL, if_pos (zgt (by omega))]
  | succ d ih =>
    intro i n s hd hn hi hI he
    obtain ⟨n, rfl⟩ : ∃ k, n = k + 1 := ⟨n - 1, by omega⟩
    show ∃ s', b256_23 X (f256_23 X n) _ _ = _
    unfold b256_23
    rw [eL]
    by_cases h5 : X.1 < i + 5
    · exact ⟨s, by rw [if_pos (zgt (by omega))]⟩
    · rw [if_neg (zngt (by omega))]
      have he' : s.2.2 < 600000 := by omega
      have m0 : mIx (zi i) X.1 := zi_ix (by omega) (by omega) (by omega)
      have m1 : mIx (zi i + zi 1) X.1 := zx (k := 1) (by omega) hL
      have m2 : mIx (zi i + zi 2) X.1 := zx (k := 2) (by omega) hL
      have m3 : mIx (zi i + zi 3) X.1 := zx (k := 3) (by omega) hL
      have m4 : mIx (zi i + zi 4) X.1 := zx (k := 4) (by omega) hL
      have next : ∀ s2, Inv P s2 → s2.2.2 ≤ s.2.2 + 1 → ∃ s', f256_23 X n (zi i + zi 5) s2 = some (zi 1, s') := by
        intro s2 a b
        rw [zi_add]
        exact ih (i + 5) n s2 (by omega) (by omega) (by omega) a (by omega)
      rw [if_pos m0]
      by_cases c0 : (X.2 (zi i).toNatClampNeg &&& zi 15) = zi 0
      · rw [if_pos c0, if_pos m1, if_pos m2, if_pos m3, if_pos m4]
        by_cases q : X.2 (zi i + zi 4).toNatClampNeg = zi 0
        · rw [if_pos q]
          obtain ⟨k, s1, b, s2, e1, e2, e3, e4, e5, e6⟩ := op_row hI he' ((zshlL (zI2L (X.2 ((zi i + (zi 1)).toNatClampNeg))) (zi 32)) ||| ((zI2L (X.2 ((zi i + (zi 2)).toNatClampNeg))) &&& (zl 4294967295))) (X.2 ((zi i + (zi 3)).toNatClampNeg)) (x4 := zi 0) (.inl rfl)
          unfold f256_143 f256_192
          rw [e1, zb1_mk, if_pos m1, if_pos m2, if_pos m3, if_pos m4, if_pos q, e2, zb1_mk, law_end e3 e4]
          exact next s2 e5 e6
        · rw [if_neg q]
          obtain ⟨k, s1, b, s2, e1, e2, e3, e4, e5, e6⟩ := op_row hI he' ((zshlL (zI2L (X.2 ((zi i + (zi 1)).toNatClampNeg))) (zi 32)) ||| ((zI2L (X.2 ((zi i + (zi 2)).toNatClampNeg))) &&& (zl 4294967295))) (X.2 ((zi i + (zi 3)).toNatClampNeg)) (x4 := zi 1) (.inr rfl)
          unfold f256_143 f256_192
          rw [e1, zb1_mk, if_pos m1, if_pos m2, if_pos m3, if_pos m4, if_neg q, e2, zb1_mk, law_end e3 e4]
          exact next s2 e5 e6
      · rw [if_neg c0]
        by_cases c1 : (X.2 (zi i).toNatClampNeg &&& zi 15) = zi 1
        · rw [if_pos c1]
          obtain ⟨k, s1, b, s2, e1, e2, e3, e4, e5, e6⟩ := hF s hI he'
          rw [e1, zb1_mk, e2, zb1_mk, law_end e3 e4]
          exact next s2 e5 e6
        · rw [if_neg c1]
          by_cases c2 : (X.2 (zi i).toNatClampNeg &&& zi 15) = zi 2
          · rw [if_pos c2]
            obtain ⟨v, s1, s2, e1, e2, e5, e6⟩ := op_clear hI
            rw [e1, zb1_mk, e2, zb1_mk, if_pos rfl]
            exact next s2 e5 e6
          · rw [if_neg c2]
            by_cases c3 : (X.2 (zi i).toNatClampNeg &&& zi 15) = zi 3
            · rw [if_pos c3, if_pos m1, if_pos m2, if_pos m3]
              obtain ⟨k, s1, b, s2, e1, e2, e3, e4, e5, e6⟩ := op_whole hI he' (X.2 ((zi i + (zi 1)).toNatClampNeg)) ((zshlL (zI2L (X.2 ((zi i + (zi 2)).toNatClampNeg))) (zi 32)) ||| ((zI2L (X.2 ((zi i + (zi 3)).toNatClampNeg))) &&& (zl 4294967295)))
              rw [e1, zb1_mk, if_pos m1, if_pos m2, if_pos m3, e2, zb1_mk, law_end e3 e4]
              exact next s2 e5 e6
            · rw [if_neg c3]
              by_cases c4 : (X.2 (zi i).toNatClampNeg &&& zi 15) = zi 4
              · rw [if_pos c4, if_pos m1, if_pos m2, if_pos m3]
                by_cases q : X.2 (zi i + zi 3).toNatClampNeg = zi 0
                · rw [if_pos q]
                  obtain ⟨k, s1, b, s2, e1, e2, e3, e4, e5, e6⟩ := op_real hI he' ((zshlL (zI2L (X.2 ((zi i + (zi 1)).toNatClampNeg))) (zi 32)) ||| ((zI2L (X.2 ((zi i + (zi 2)).toNatClampNeg))) &&& (zl 4294967295))) (x3 := zi 0) (.inl rfl)
                  unfold f256_422 f256_465
                  rw [e1, zb1_mk, if_pos m1, if_pos m2, if_pos m3, if_pos q, e2, zb1_mk, law_end e3 e4]
                  exact next s2 e5 e6
                · rw [if_neg q]
                  obtain ⟨k, s1, b, s2, e1, e2, e3, e4, e5, e6⟩ := op_real hI he' ((zshlL (zI2L (X.2 ((zi i + (zi 1)).toNatClampNeg))) (zi 32)) ||| ((zI2L (X.2 ((zi i + (zi 2)).toNatClampNeg))) &&& (zl 4294967295))) (x3 := zi 1) (.inr rfl)
                  unfold f256_422 f256_465
                  rw [e1, zb1_mk, if_pos m1, if_pos m2, if_pos m3, if_neg q, e2, zb1_mk, law_end e3 e4]
                  exact next s2 e5 e6
              · rw [if_neg c4]
                by_cases c5 : (X.2 (zi i).toNatClampNeg &&& zi 15) = zi 5
                · rw [if_pos c5]
                  obtain ⟨k, s1, b, s2, e1, e2, e3, e4, e5, e6⟩ := op_text hI he'
                  rw [e1, zb1_mk, e2, zb1_mk, law_end e3 e4]
                  exact next s2 e5 e6
                · rw [if_neg c5]
                  by_cases c6 : (X.2 (zi i).toNatClampNeg &&& zi 15) = zi 6
                  · rw [if_pos c6]
                    obtain ⟨k, s1, b, s2, e1, e2, e3, e4, e5, e6⟩ := hR s hI he'
                    rw [e1, zb1_mk, e2, zb1_mk, law_end e3 e4]
                    exact next s2 e5 e6
                  · rw [if_neg c6]
                    by_cases c7 : (X.2 (zi i).toNatClampNeg &&& zi 15) = zi 7
                    · rw [if_pos c7]
                      obtain ⟨s2, e1, e5, e6⟩ := op_kind hI
                      rw [e1, zb1_mk, if_pos rfl]
                      exact next s2 e5 e6
                    · rw [if_neg c7]
                      by_cases c8 : (X.2 (zi i).toNatClampNeg &&& zi 15) = zi 8
                      · rw [if_pos c8]
                        obtain ⟨s2, e1, e5, e6⟩ := op_place hI
                        rw [e1, zb1_mk, if_pos rfl]
                        exact next s2 e5 e6
                      · rw [if_neg c8]
                        by_cases c9 : (X.2 (zi i).toNatClampNeg &&& zi 15) = zi 9
                        · rw [if_pos c9, if_pos m1]
                          obtain ⟨k, s1, b, s2, e1, e2, e3, e4, e5, e6⟩ := op_output hI he' (X.2 ((zi i + (zi 1)).toNatClampNeg))
                          rw [e1, zb1_mk, if_pos m1, e2, zb1_mk, law_end e3 e4]
                          exact next s2 e5 e6
                        · rw [if_neg c9]
                          by_cases c10 : (X.2 (zi i).toNatClampNeg &&& zi 15) = zi 10
                          · rw [if_pos c10]
                            obtain ⟨v, s2, e1, e2, e5, e6⟩ := op_digest hI
                            rw [e1, zb1_mk, e2, zb1_mk, if_pos rfl]
                            exact next s2 e5 e6
                          · rw [if_neg c10]
                            by_cases c11 : (X.2 (zi i).toNatClampNeg &&& zi 15) = zi 11
                            · rw [if_pos c11, if_pos m1]
                              by_cases q : X.2 (zi i + zi 1).toNatClampNeg = zi 0
                              · rw [if_pos q]
                                obtain ⟨k, s1, b, s2, e1, e2, e3, e4, e5, e6⟩ := hD s (zi 0) (.inl rfl) hI he'
                                unfold f256_699 f256_720
                                rw [e1, zb1_mk, if_pos m1, if_pos q, e2, zb1_mk, law_end e3 e4]
                                exact next s2 e5 e6
                              · rw [if_neg q]
                                obtain ⟨k, s1, b, s2, e1, e2, e3, e4, e5, e6⟩ := hD s (zi 1) (.inr rfl) hI he'
                                unfold f256_699 f256_720
                                rw [e1, zb1_mk, if_pos m1, if_neg q, e2, zb1_mk, law_end e3 e4]
                                exact next s2 e5 e6
                            · rw [if_neg c11]
                              exact next s hI (by omega)
/-- all that is left: format, run and read -/
theorem goal_of_ops {P : List Int → Prop} (hF : ∀ s, Inv P s → s.2.2 < 600000 → opOK P s f249 f217) (hR : ∀ s, Inv P s → s.2.2 < 600000 → opOK P s f253 f223) (hD : ∀ s x, (x = zi 0 ∨ x = zi 1) → Inv P s → s.2.2 < 600000 → opOKL P s (f255 x) (f228 x)) : mGoal :=
  goal_of_flat (fun L xs hL => law_loop hF hR hD (X := (L, xs)) hL L 0 zF s0 (Nat.le_refl _) (by unfold zF; show L < 1000000; omega) (Nat.zero_le _) (inv_s0 P) (Nat.le_refl _))
