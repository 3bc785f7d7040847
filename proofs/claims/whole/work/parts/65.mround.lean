/-! digits of R, in units of 10^q: rounding, with the reference -/
def rdg (R : Nat) (q p : Int) : Nat := if p < q then 0 else R / 10 ^ (p - q).toNat % 10
theorem rdg_lt (R : Nat) (q p : Int) : rdg R q p < 10 := by
  unfold rdg
  split
  · decide
  · exact Nat.mod_lt _ (by decide)
theorem nines_lo {R e f : Nat} (h : R % 10 ^ e = 10 ^ e - 1) (hf : f < e) : (R + 1) / 10 ^ f % 10 = 0 := by
  have hp := p_pos e
  have h1 : 10 ^ e ∣ R + 1 := by
    have := Nat.div_add_mod R (10 ^ e)
    exact ⟨R / 10 ^ e + 1, by rw [Nat.mul_add]; omega⟩
  obtain ⟨m, hm⟩ := h1
  have e1 : e = f + (e - f - 1) + 1 := by omega
  rw [hm, e1, Nat.pow_succ, Nat.pow_add]
  have e2 : 10 ^ f * 10 ^ (e - f - 1) * 10 * m = 10 ^ f * (10 * (10 ^ (e - f - 1) * m)) := by
    rw [Nat.mul_assoc (10 ^ f), Nat.mul_assoc (10 ^ f), Nat.mul_comm (10 ^ (e - f - 1)), Nat.mul_assoc 10]
  rw [e2, Nat.mul_div_cancel_left _ (p_pos f), Nat.mul_mod_right]
theorem nines_at {R e : Nat} (h : R % 10 ^ e = 10 ^ e - 1) : (R + 1) / 10 ^ e = R / 10 ^ e + 1 := by
  have hp := p_pos e
  have := Nat.div_add_mod R (10 ^ e)
  have e1 : R + 1 = 10 ^ e * (R / 10 ^ e + 1) := by rw [Nat.mul_add]; omega
  rw [e1, Nat.mul_div_cancel_left _ hp]
theorem nines_hi {R e f : Nat} (h : R % 10 ^ e = 10 ^ e - 1) (hf : e < f) (h9 : R / 10 ^ e % 10 ≠ 9) : (R + 1) / 10 ^ f = R / 10 ^ f := by
  have e1 : f = e + 1 + (f - e - 1) := by omega
  rw [e1, Nat.pow_add, ← Nat.div_div_eq_div_mul, ← Nat.div_div_eq_div_mul]
  congr 1
  rw [Nat.pow_succ, ← Nat.div_div_eq_div_mul, ← Nat.div_div_eq_div_mul, nines_at h]
  omega
theorem nines_up {R e : Nat} (h : R % 10 ^ e = 10 ^ e - 1) (h9 : R / 10 ^ e % 10 = 9) : R % 10 ^ (e + 1) = 10 ^ (e + 1) - 1 := by
  rw [Nat.pow_succ, Nat.mod_mul, h, h9]
  have := p_pos e
  omega
/-- what stands in the reference's digits: R in units of 10^q, from the place T on -/
def RD (s : zS) (R : Nat) (q T : Int) : Prop := s.1 24 27 = zi T ∧ s.1 24 28 = zi (T - q + 1) ∧ q ≤ T ∧ (∀ i : Nat, (i : Int) ≤ T - q → s.1 38 i = zi (rdg R q (T - i) : Nat)) ∧ R < 10 ^ (T - q + 1).toNat
theorem RD.dig {s : zS} {R : Nat} {q T : Int} (h : RD s R q T) (hq : -4000 ≤ q) (hT : T ≤ 4000) (hl : T - q < 2400) {p : Int} (h1 : -100000 ≤ p) (h2 : p ≤ 100000) : f165 (zi p) s = some (zi (rdg R q p : Nat), s) := by
  obtain ⟨e1, e2, e3, e4, e5⟩ := h
  unfold f165
  rw [e1, e2, zi_sub]
  by_cases c1 : T - p < 0
  · rw [if_pos (zlt (by omega))]
    have : rdg R q p = 0 := by
      unfold rdg
      rw [if_neg (by omega), Nat.div_eq_of_lt (Nat.lt_of_lt_of_le e5 (Nat.pow_le_pow_right (by decide) (by omega)))]
    rw [this]
    rfl
  · rw [if_neg (znlt (by omega))]
    by_cases c2 : T - p < T - q + 1
    · rw [if_pos (zlt (by omega)), if_pos (zi_ix (by omega) (by omega) (by omega)), zi_nat (by omega) (by omega), e4 _ (by omega)]
      have e6 : T - ((T - p).toNat : Int) = p := by omega
      rw [e6]
    · rw [if_neg (znlt (by omega))]
      unfold rdg
      rw [if_pos (by omega)]
      rfl
theorem RD.mv {A B : List Nat} {s s' : zS} {R : Nat} {q T : Int} (h : fr A B s s') (hD : RD s R q T) (c1 : A.contains 24 = false) (c2 : A.contains 38 = false) (b1 : B.contains 27 = false) (b2 : B.contains 28 = false) : RD s' R q T := by
  unfold RD
  rw [h.1 24 27 c1 (fun _ => b1), h.f c2 (by decide), h.1 24 28 c1 (fun _ => b2)]
  exact hD
/-! raise -/
theorem f164_56_loop {x1 : Int32} {L : Nat} (hL : L < 2400) : ∀ (j n : Nat) (s : zS), j ≤ L → j < n → (∀ i, i < L → s.1 38 i = zi 0) → (∀ i, j < i → i ≤ L → s.1 38 i = zi 0) →
    ∃ s', f164_56 n x1 (zi j) s = some s' ∧ s'.1 24 28 = (s.1 24 28) + zi 1 ∧ s'.1 24 27 = (s.1 24 27) + zi 1 ∧ s'.1 38 0 = zi 1 ∧ (∀ i, 0 < i → i ≤ L → s'.1 38 i = zi 0) ∧ fr [38] [27, 28] s s' := by
  intro j
  induction j with
  | zero =>
    intro n s hj hn h1 h2
    obtain ⟨n, rfl⟩ : ∃ k, n = k + 1 := ⟨n - 1, by omega⟩
    refine ⟨setI (setI (setB s 38 0 (zi 1)) 24 28 ((s.1 24 28) + zi 1)) 24 27 ((s.1 24 27) + zi 1), ?_, rfl, rfl, rfl, ?_, ((fr.refl.sB rfl).sI (.inr ⟨rfl, rfl⟩)).sI (.inr ⟨rfl, rfl⟩)⟩
    · show b164_56 (f164_56 n) _ _ _ = _
      unfold b164_56
      rw [if_pos (zle (by omega)), if_pos (zi_ix (by omega) (by omega) (by omega))]
      rfl
    · intro i hi hi2
      show upd (s.1 38) 0 (zi 1) i = _
      rw [upd_ne (by omega)]
      exact h2 i hi hi2
  | succ j ih =>
    intro n s hj hn h1 h2
    obtain ⟨n, rfl⟩ : ∃ k, n = k + 1 := ⟨n - 1, by omega⟩
    have e5 : zi ((j + 1 : Nat) : Int) - zi 1 = zi j := by
      rw [zi_sub]
      congr 1
      omega
    have e6 : zi ((j + 1 : Nat) : Int) + zi (-1) = zi j := by
      rw [zi_add]
      congr 1
      omega
    obtain ⟨s', a1, a2, a3, a4, a5, a6⟩ := ih n (setB s 38 (j + 1) (zi 0)) (by omega) (by omega) (fun i hi => by
      show upd (s.1 38) (j + 1) (zi 0) i = _
      by_cases e : i = j + 1
      · rw [e, upd_eq]
      · rw [upd_ne e]
        exact h1 i hi) (fun i hi hi2 => by
      show upd (s.1 38) (j + 1) (zi 0) i = _
      by_cases e : i = j + 1
      · rw [e, upd_eq]
      · rw [upd_ne e]
        exact h2 i (by omega) hi2)
    refine ⟨s', ?_, a2, a3, a4, a5, (fr.refl.sB rfl).trans a6⟩
    show b164_56 (f164_56 n) _ _ _ = _
    unfold b164_56
    rw [if_neg (znle (by omega)), e5, e6, if_pos (zi_ix (by omega) (by omega) (by omega)), if_pos (zi_ix (by omega) (by omega) (by omega)), zi_toNat (by omega), zi_toNat (by omega), h1 j (by omega), zI2B_id (by omega) (by omega)]
    exact a1
theorem f164_loop {R : Nat} {q T : Int} (hq : -4000 ≤ q) (hT : T ≤ 4000) (hl : T - q < 2300) (hqT : q ≤ T) (hR : R < 10 ^ (T - q + 1).toNat) : ∀ (j n : Nat) (s : zS), (j : Int) ≤ T - q + 1 → j < n → s.1 24 27 = zi T → s.1 24 28 = zi (T - q + 1) → (∀ i : Nat, (i : Int) ≤ T - q → s.1 38 i = zi (if i < j then rdg R q (T - i) else 0 : Nat)) → R % 10 ^ (T - q + 1 - j).toNat = 10 ^ (T - q + 1 - j).toNat - 1 →
    ∃ s' T', f164_7 n (zi (j - 1 : Int)) s = some s' ∧ RD s' (R + 1) q T' ∧ (T' = T ∨ (T' = T + 1 ∧ R + 1 = 10 ^ (T - q + 1).toNat)) ∧ fr [38] [27, 28] s s' := by
  intro j
  induction j with
  | zero =>
    intro n s hj hn h27 h28 hz h9
    obtain ⟨n, rfl⟩ : ∃ k, n = k + 1 := ⟨n - 1, by omega⟩
    obtain ⟨L, hL⟩ : ∃ L : Nat, T - q + 1 = L := ⟨(T - q + 1).toNat, by omega⟩
    have e0 : (T - q + 1 - ((0 : Nat) : Int)).toNat = L := by omega
    have e1 : (T - q + 1).toNat = L := by omega
    rw [e0] at h9
    rw [e1] at hR
    rw [Nat.mod_eq_of_lt hR] at h9
    have hpL := p_pos L
    have hR1 : R + 1 = 10 ^ L := by omega
    obtain ⟨s', a1, a2, a3, a4, a5, a6⟩ := f164_56_loop (x1 := zi (((0 : Nat) : Int) - 1)) (L := L) (by omega) L zF s (Nat.le_refl _) (by unfold zF; omega) (fun i hi => by
      rw [hz i (by omega), if_neg (by omega)]
      rfl) (fun i hi hi2 => by omega)
    refine ⟨s', T + 1, ?_, ⟨by rw [a3, h27, zi_add], by rw [a2, h28, zi_add]; congr 1; omega, by omega, ?_, ?_⟩, .inr ⟨rfl, by rw [e1]; exact hR1⟩, a6⟩
    · show b164_7 (f164_7 n) _ _ = _
      unfold b164_7
      rw [if_pos (zlt (by omega))]
      unfold f164_35
      rw [if_pos (zlt (by omega)), h28, hL]
      exact a1
    · intro i hi
      by_cases c : i = 0
      · subst c
        rw [a4]
        unfold rdg
        have e2 : (T + 1 - ((0 : Nat) : Int) - q).toNat = L := by omega
        rw [if_neg (by omega), e2, hR1, Nat.div_self hpL]
        rfl
      · rw [a5 i (by omega) (by omega)]
        unfold rdg
        have e2 : (T + 1 - (i : Int) - q).toNat = L - i := by omega
        have e3 : 10 ^ L = 10 ^ (L - i) * (10 ^ (i - 1) * 10) := by
          rw [← Nat.pow_succ, ← Nat.pow_add]
          congr 1
          omega
        rw [if_neg (by omega), e2, hR1, e3, Nat.mul_div_cancel_left _ (p_pos _), Nat.mul_mod_left]
        rfl
    · have e2 : (T + 1 - q + 1).toNat = L + 1 := by omega
      rw [e2, hR1]
      exact Nat.pow_lt_pow_right (by decide) (by omega)
  | succ j ih =>
    intro n s hj hn h27 h28 hz h9
    obtain ⟨n, rfl⟩ : ∃ k, n = k + 1 := ⟨n - 1, by omega⟩
    have e5 : ((j + 1 : Nat) : Int) - 1 = j := by omega
    have hzj := hz j (by omega)
    rw [if_pos (by omega)] at hzj
    have hzj' : s.1 38 (zi (j : Int)).toNatClampNeg = zi (rdg R q (T - j) : Nat) := by rw [zi_toNat (by omega)]; exact hzj
    have hd := rdg_lt R q (T - j)
    have eD : rdg R q (T - j) = R / 10 ^ (T - q + 1 - ((j + 1 : Nat) : Int)).toNat % 10 := by
      unfold rdg
      rw [if_neg (by omega)]
      congr 3
      omega
    by_cases c : rdg R q (T - j) = 9
    · have h9' := nines_up h9 (by rw [← eD]; exact c)
      have e6 : (T - q + 1 - ((j + 1 : Nat) : Int)).toNat + 1 = (T - q + 1 - (j : Int)).toNat := by omega
      rw [e6] at h9'
      obtain ⟨s', T', a1, a2, a3, a5⟩ := ih n (setB s 38 j (zi 0)) (by omega) (by omega) h27 h28 (fun i hi => by
        show upd (s.1 38) j (zi 0) i = _
        by_cases e : i = j
        · rw [e, upd_eq, if_neg (by omega)]
          rfl
        · rw [upd_ne e, hz i hi]
          by_cases g : i < j
          · rw [if_pos g, if_pos (by omega)]
          · rw [if_neg g, if_neg (by omega)]) h9'
      refine ⟨s', T', ?_, a2, a3, (fr.refl.sB rfl).trans a5⟩
      show b164_7 (f164_7 n) _ _ = _
      unfold b164_7
      have hix : mIx (zi (j : Int)) 2400 := zi_ix (by omega) (by omega) (by omega)
      rw [e5, if_neg (znlt (by omega)), if_pos hix, hzj', c, if_neg (not_not_intro (zeq (by omega))), if_pos hix, zi_toNat (by omega), zi_add, zI2B_id (by omega) (by omega)]
      exact a1
    · refine ⟨setB s 38 j (zi (rdg R q (T - j) + 1 : Nat)), T, ?_, ⟨h27, h28, hqT, ?_, ?_⟩, .inl rfl, fr.refl.sB rfl⟩
      · show b164_7 (f164_7 n) _ _ = _
        unfold b164_7
        have hix : mIx (zi (j : Int)) 2400 := zi_ix (by omega) (by omega) (by omega)
        rw [e5, if_neg (znlt (by omega)), if_pos hix, hzj', if_pos (zne (by omega))]
        unfold f164_35
        rw [if_neg (znlt (by omega)), if_pos hix, if_pos hix, zi_toNat (by omega), hzj, zi_add, zI2B_2, zI2B_id (by omega) (by omega)]
        rfl
      · intro i hi
        show upd (s.1 38) j (zi (rdg R q (T - j) + 1 : Nat)) i = _
        by_cases e : i = j
        · rw [e, upd_eq]
          congr 2
          rw [eD]
          rw [eD] at c
          unfold rdg
          rw [if_neg (by omega)]
          have e6 : (T - (j : Int) - q).toNat = (T - q + 1 - ((j + 1 : Nat) : Int)).toNat := by omega
          rw [e6, nines_at h9]
          omega
        · rw [upd_ne e, hz i hi]
          congr 2
          by_cases g : i < j + 1
          · rw [if_pos g]
            unfold rdg
            rw [if_neg (by omega), if_neg (by omega), nines_hi h9 (by omega) (by rw [← eD]; exact c)]
          · rw [if_neg g]
            unfold rdg
            rw [if_neg (by omega), nines_lo h9 (by omega)]
      · have e6 : (T - q + 1).toNat = (T - q + 1 - ((j + 1 : Nat) : Int)).toNat + (j + 1) := by omega
        have hne := nines_hi (f := (T - q + 1).toNat) h9 (by omega) (by rw [← eD]; exact c)
        rw [Nat.div_eq_of_lt hR] at hne
        rcases Nat.lt_or_ge (R + 1) (10 ^ (T - q + 1).toNat) with g | g
        · exact g
        · have := Nat.div_pos g (p_pos _)
          omega
theorem f164_eq {s : zS} {R : Nat} {q T : Int} (h : RD s R q T) (hq : -4000 ≤ q) (hT : T ≤ 4000) (hl : T - q < 2300) : ∃ s' T', f164 s = some s' ∧ RD s' (R + 1) q T' ∧ (T' = T ∨ (T' = T + 1 ∧ R + 1 = 10 ^ (T - q + 1).toNat)) ∧ fr [38] [27, 28] s s' := by
  have hqT := h.2.2.1
  obtain ⟨L, hL⟩ : ∃ L : Nat, T - q + 1 = L := ⟨(T - q + 1).toNat, by omega⟩
  unfold f164
  have e1 : T - q + 1 - 1 = (L : Int) - 1 := by omega
  rw [h.2.1, zi_sub, e1]
  have e0 : (T - q + 1 - (L : Int)).toNat = 0 := by omega
  exact f164_loop hq hT hl hqT h.2.2.2.2 L zF s (by omega) (by unfold zF; omega) h.1 h.2.1 (fun i hi => by rw [h.2.2.2.1 i hi, if_pos (by omega)]) (by rw [e0, Nat.pow_zero, Nat.mod_one])
/-! rounded -/
/-- N rounded half up to units of 10^q -/
def rnd (N : Nat) (q : Int) : Nat := N / 10 ^ (3780 + q).toNat + (if dgN N (q - 1) < 5 then 0 else 1)
theorem rdg_cut {N : Nat} {q p : Int} (hq : -3780 ≤ q) (hp : q ≤ p) : rdg (N / 10 ^ (3780 + q).toNat) q p = dgN N p := by
  unfold rdg dgN
  rw [if_neg (by omega), if_neg (by omega), Nat.div_div_eq_div_mul, ← Nat.pow_add]
  congr 3
  omega
/-- the digits copied -/
theorem f163_43_loop {N a b : Nat} {q T : Int} (hq : -3780 ≤ q) (hT : T ≤ 4000) (hl : T - q < 2300) (hqT : q ≤ T) (hN : N < 10 ^ (3781 + T).toNat) : ∀ (d i n : Nat) (s : zS), (d : Int) + i = T - q + 1 → d < n → DEC s 32 N a b → s.1 24 27 = zi T → s.1 24 28 = zi (T - q + 1) → (∀ k : Nat, k < i → s.1 38 k = zi (dgN N (T - k) : Nat)) →
    ∃ s' T', f163_43 n (zi q) (zi i) s = some s' ∧ RD s' (rnd N q) q T' ∧ (T' = T ∨ (T' = T + 1 ∧ rnd N q = 10 ^ (T - q + 1).toNat)) ∧ fr [38] [27, 28] s s' := by
  intro d
  induction d with
  | zero =>
    intro i n s hd hn hD h27 h28 hz
    obtain ⟨n, rfl⟩ : ∃ k, n = k + 1 := ⟨n - 1, by omega⟩
    have hdl := dgN_lt N (q - 1)
    have hRD : RD s (N / 10 ^ (3780 + q).toNat) q T := by
      refine ⟨h27, h28, hqT, fun k hk => ?_, ?_⟩
      · rw [hz k (by omega), rdg_cut hq (by omega)]
      · refine Nat.div_lt_of_lt_mul ?_
        rw [← Nat.pow_add]
        have e1 : (3780 + q).toNat + (T - q + 1).toNat = (3781 + T).toNat := by omega
        rw [e1]
        exact hN
    have ebody : f163_43 (n + 1) (zi q) (zi i) s = if zi (dgN N (q - 1) : Nat) < zi 5 then some s else zb0 (f164 s) (fun s3 => some s3) := by
      show b163_43 (f163_43 n) _ _ _ = _
      unfold b163_43
      rw [h28, if_pos (zge (by omega)), zi_sub, f235_eq hD (by omega) (by omega), zb1_mk]
    rw [ebody]
    unfold rnd
    by_cases c : dgN N (q - 1) < 5
    · rw [if_pos (zlt (by omega)), if_pos c]
      exact ⟨s, T, rfl, hRD, .inl rfl, fr.refl⟩
    · rw [if_neg (znlt (by omega)), if_neg c]
      obtain ⟨s', T', a1, a2, a3, a5⟩ := f164_eq hRD (by omega) hT hl
      refine ⟨s', T', ?_, a2, a3, a5⟩
      rw [a1]
      rfl
  | succ d ih =>
    intro i n s hd hn hD h27 h28 hz
    obtain ⟨n, rfl⟩ : ∃ k, n = k + 1 := ⟨n - 1, by omega⟩
    have hdl := dgN_lt N (T - i)
    obtain ⟨s', T', a1, a2, a3, a5⟩ := ih (i + 1) n (setB s 38 i (zi (dgN N (T - i) : Nat))) (by omega) (by omega) (hD.mv (A := [38]) (B := []) (fr.refl.sB rfl) (.inl rfl) rfl rfl) h27 h28 (fun k hk => by
      show upd (s.1 38) i _ k = _
      by_cases e : k = i
      · rw [e, upd_eq]
      · rw [upd_ne e]
        exact hz k (by omega))
    refine ⟨s', T', ?_, a2, a3, (fr.refl.sB rfl).trans a5⟩
    show b163_43 (f163_43 n) _ _ _ = _
    unfold b163_43
    rw [h28, if_neg (znge (by omega)), h27, zi_sub, f235_eq hD (by omega) (by omega), zb1_mk, if_pos (zi_ix (by omega) (by omega) (by omega)), zi_toNat (by omega), zI2B_2, zI2B_id (by omega) (by omega), zi_add]
    exact a1
/-- the place from which the reference writes -/
theorem f163_eq {s : zS} {N a b : Nat} (hD : DEC s 32 N a b) {q : Int} (hq : -1800 ≤ q) (hq2 : q ≤ 404) : ∃ s' T, f163 (zi q) s = some s' ∧ RD s' (rnd N q) q T ∧ ((rnd N q = 0 ∧ T = q) ∨ (rnd N q ≠ 0 ∧ 10 ^ (T - q).toNat ≤ rnd N q)) ∧ T ≤ 405 ∧ fr [38] [27, 28] s s' := by
  have go : ∀ (T : Int), q ≤ T → T ≤ 404 → N < 10 ^ (3781 + T).toNat → ∃ s' T', f163_26 (zi q) (zi T) s = some s' ∧ RD s' (rnd N q) q T' ∧ (T' = T ∨ (T' = T + 1 ∧ rnd N q = 10 ^ (T - q + 1).toNat)) ∧ fr [38] [27, 28] s s' := by
    intro T h1 h2 hN
    obtain ⟨L, hL⟩ : ∃ L : Nat, T - q + 1 = L := ⟨(T - q + 1).toNat, by omega⟩
    obtain ⟨s', T', a1, a2, a3, a5⟩ := f163_43_loop (a := a) (b := b) (q := q) (T := T) (by omega) (by omega) (by omega) h1 hN L 0 zF (setI (setI s 24 27 (zi T)) 24 28 (zi (T - q + 1))) (by omega) (by unfold zF; omega) hD rfl rfl (fun k hk => by omega)
    refine ⟨s', T', ?_, a2, a3, ((fr.refl.sI (.inr ⟨rfl, rfl⟩)).sI (.inr ⟨rfl, rfl⟩)).trans a5⟩
    unfold f163_26
    rw [zi_sub, zi_add]
    exact a1
  by_cases h0 : N = 0
  · obtain ⟨s', T', a1, a2, a3, a5⟩ := go q (Int.le_refl _) hq2 (by rw [h0]; exact p_pos _)
    have hR : rnd N q = 0 := by
      unfold rnd dgN
      rw [h0, Nat.zero_div, Nat.zero_div]
      split <;> simp
    have hp := p_pos (q - q + 1).toNat
    refine ⟨s', T', ?_, a2, .inl ⟨hR, by omega⟩, by omega, a5⟩
    unfold f163
    rw [f236_eq hD, zb1_mk, if_pos h0, if_neg (zne (by omega))]
    exact a1
  · obtain ⟨t, t1, t2, t3⟩ := f237_eq hD h0
    have ht := t1.1
    have hm : r264 (zi t) (zi q) s = zi (if t < q then q else t) := by
      unfold r264
      by_cases c : t < q
      · rw [if_pos (zlt (by omega)), if_pos c]
      · rw [if_neg (znlt (by omega)), if_neg c]
    have hh : ∀ s', (f163_26 (zi q) (zi (if t < q then q else t)) s = some s') → f163 (zi q) s = some s' := by
      intro s' h
      unfold f163
      rw [f236_eq hD, zb1_mk, if_neg h0, if_pos (zeq (by omega)), t2, zb1_mk, hm]
      exact h
    by_cases c : t < q
    · obtain ⟨s', T', a1, a2, a3, a5⟩ := go q (Int.le_refl _) hq2 (Nat.lt_of_lt_of_le t1.2.2 (Nat.pow_le_pow_right (by decide) (by omega)))
      rw [if_pos c] at hh
      refine ⟨s', T', hh s' a1, a2, ?_, by omega, a5⟩
      have h00 : N / 10 ^ (3780 + q).toNat = 0 := Nat.div_eq_of_lt (Nat.lt_of_lt_of_le t1.2.2 (Nat.pow_le_pow_right (by decide) (by omega)))
      have hle : rnd N q ≤ 1 := by
        unfold rnd
        rw [h00]
        split <;> omega
      have e1 : (q - q + 1).toNat = 1 := by omega
      rw [e1] at a3
      have hT : T' = q := by omega
      by_cases g : rnd N q = 0
      · exact .inl ⟨g, hT⟩
      · refine .inr ⟨g, ?_⟩
        have e2 : (T' - q).toNat = 0 := by omega
        rw [e2, Nat.pow_zero]
        omega
    · obtain ⟨s', T', a1, a2, a3, a5⟩ := go t (by omega) (by omega) t1.2.2
      rw [if_neg c] at hh
      refine ⟨s', T', hh s' a1, a2, .inr ?_, by omega, a5⟩
      have hge : 10 ^ (t - q).toNat ≤ rnd N q := by
        unfold rnd
        refine Nat.le_trans ?_ (Nat.le_add_right _ _)
        rw [Nat.le_div_iff_mul_le (p_pos _), ← Nat.pow_add]
        have e : (t - q).toNat + (3780 + q).toNat = (3780 + t).toNat := by omega
        rw [e]
        exact t1.2.1
      have hp := p_pos (t - q).toNat
      refine ⟨by omega, ?_⟩
      rcases a3 with rfl | ⟨e1, e2⟩
      · exact hge
      · rw [e2]
        exact Nat.pow_le_pow_right (by decide) (by omega)
